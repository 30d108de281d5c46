/-! calls that leave the state as it is -/
theorem E6.lk {u v : Nat → Int32} (e : E6 u v) (c : WC v) : LK u v := ⟨e 0 (by decide), e 1 (by decide), e 12 (by decide), fun k hk => e (13 + k) (by have := c.1.2.1; omega)⟩
theorem E6.miss {u v : Nat → Int32} (e : E6 u v) (c : WC v) (x : Int32) : missW u x = missW v x := by
  unfold missW
  rw [(e.lk c).tot, (e.lk c).ly]
theorem E6.pf {u v : Nat → Int32} (e : E6 u v) (c : WC v) : ∀ k, pfB u k = pfB v k := by
  intro k
  induction k with
  | zero => rw [pfB, pfB, e.miss c]
  | succ k ih => rw [pfB, pfB, ih, e.miss c]
/-- the class's part of polishFirst, once there is a scratch -/
theorem c_pf {v : Nat → Int32} {h : HP} (w : WS v) (c : WC v) (rs : RS h 1 v) (rc : RC h 1 v) (sv : SV h) (h0 : 0 < N v 12) : ∃ h1 h2 h3 h4, f_X7_of 1 h = some h1 ∧ f_X7_missingWithout (0 : Int32) h1 = some (nI (pfB v 0).2, h2) ∧ f_X10_polishFirst_L49 FU (0 : Int32) (nI (pfB v 0).2) (1 : Int32) h2 = some (nI (pfB v (N v 12 - 1)).1, nI (pfB v (N v 12 - 1)).2, h3) ∧ f_X7_judge (-1 : Int32) h3 = some h4 ∧ SV h4 ∧ ∀ o, o < 63 ∨ 69 < o → h4 o = h o := by
  have h8 := c.1.2.1
  obtain ⟨h1, a1, a2, a3⟩ := c_of w c rs rc sv
  obtain ⟨h2, b1, b2⟩ := c_missing (j := 0) (by decide) w c a2.1 a2.2.1
  have v2 : VS v h2 := a2.1.of (b2 64 (by decide)) (b2 65 (by decide)) (b2 66 (by decide))
  have s2 : ∀ f, f < 3810 → h2 67 f = hbV v (N v 12) f := by
    rw [b2 67 (by decide)]
    exact a2.2.1
  obtain ⟨h3, c1, c2⟩ := c_pf_L49 w c (N v 12 - 1) FU 0 h2 (by omega) (Nat.lt_of_le_of_lt (show N v 12 - 1 ≤ 8 by omega) (by decide)) v2 s2 (by rw [b2 3 (by decide), a3 3 (by omega)]; exact rc.1)
  obtain ⟨h4, d1, d2, d3⟩ := judge_all w c (v2.of (c2 64 (by decide)) (c2 65 (by decide)) (c2 66 (by decide))) (by rw [c2 67 (by decide)]; exact s2)
  exact ⟨h1, h2, h3, h4, a1, b1, c1, d1, ⟨v, w, c, d2⟩, fun o ho => by rw [d3 o (by omega), c2 o (by omega), b2 o (by omega), a3 o (by omega)]⟩

