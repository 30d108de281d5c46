/-! calls that leave the state as it is -/
theorem two_query {T : Nat} {h h1 : HP} {C M : HP → Option (Int32 × HP)} {r : Int32} {v kv tx : Nat → Int32} {n L : Nat} {H : Nat → Nat → Int32} {kb : Bool} (ki : KI h v n H kb kv L tx) (mi : MI h v n H kb kv L tx) (wa : WA T v n H kb kv) (e : C h = some (r, h1)) (sv : SV h1) (fr : ∀ o, o < 63 ∨ 69 < o → h1 o = h o) (m : ∀ g, E6 (g 71) v → WF T (g 71) → R h 1 (g 71) → ∃ g', M g = some (r, g') ∧ E6 (g' 71) v ∧ ∀ o, o ≠ 71 → o ≠ 72 → o ≠ 76 → g' o = g o) : Two T h C M := by
  obtain ⟨i1, i2, i3, i4, i5, i6, i7⟩ := ki
  refine two_of mi e (v' := v) (n' := n) (H' := H) (kb' := kb) (kv' := kv) (L' := L) (tx' := tx) ⟨i1.of (fun a h1 h2 => fr a (by omega)), sv, i3.of (fun a h1 h2 => fr a (by omega)), ⟨?_, fun k => (i4.2 k).of (fun a h1 h2 => fr a (by omega))⟩, ?_, i6, ?_⟩ (fun o ho => fr o (by omega)) (fun g mg => ?_) (wa.mono (by omega))
  · rw [fr 0 (by omega)]
    exact i4.1
  · rw [fr 59 (by omega)]
    exact i5
  · rw [fr 60 (by omega)]
    exact i7
  · obtain ⟨g', a1, a2, a3⟩ := m g mg.1 (mg.1.symm.wf wa.1) (mg.1.symm.r wa.1.2.2.1 wa.1.2.2.2 i1)
    refine ⟨g', a1, ⟨a2, ?_, ?_, ?_, ?_⟩, fun o ho => a3 o (by omega) (by omega) (by omega)⟩
    · unfold MH
      rw [a3 70 (by decide) (by decide) (by decide), a3 73 (by decide) (by decide) (by decide)]
      exact mg.2.1
    · rw [a3 70 (by decide) (by decide) (by decide), a3 74 (by decide) (by decide) (by decide)]
      exact mg.2.2.1
    · rw [a3 70 (by decide) (by decide) (by decide)]
      exact mg.2.2.2.1
    · rw [a3 75 (by decide) (by decide) (by decide)]
      exact mg.2.2.2.2
theorem E6.lk {u v : Nat → Int32} (e : E6 u v) (c : WC v) : LK u v := ⟨e 0 (by decide), e 1 (by decide), e 12 (by decide), fun k hk => e (13 + k) (by have := c.1.2.1; omega)⟩
theorem E6.miss {u v : Nat → Int32} (e : E6 u v) (c : WC v) (x : Int32) : missW u x = missW v x := by
  unfold missW
  rw [(e.lk c).tot, (e.lk c).ly]
theorem E6.pf {u v : Nat → Int32} (e : E6 u v) (c : WC v) : ∀ k, pfB u k = pfB v k := by
  intro k
  induction k with
  | zero => rw [pfB, pfB, e.miss c]
  | succ k ih => rw [pfB, pfB, ih, e.miss c]
/-- the class's part of polishFirst, once there is a scratch -/
theorem c_pf {v : Nat → Int32} {h : HP} (w : WS v) (c : WC v) (rs : RS h 1 v) (rc : RC h 1 v) (sv : SV h) (h0 : 0 < N v 12) : ∃ h1 h2 h3 h4, f_X7_of 1 h = some h1 ∧ f_X7_missingWithout (0 : Int32) h1 = some (nI (pfB v 0).2, h2) ∧ f_X10_polishFirst_L49 FU (0 : Int32) (nI (pfB v 0).2) (1 : Int32) h2 = some (nI (pfB v (N v 12 - 1)).1, nI (pfB v (N v 12 - 1)).2, h3) ∧ f_X7_judge (-1 : Int32) h3 = some h4 ∧ SV h4 ∧ ∀ o, o < 63 ∨ 69 < o → h4 o = h o := by
  have h8 := c.1.2.1
  obtain ⟨h1, a1, a2, a3⟩ := c_of w c rs rc sv
  obtain ⟨h2, b1, b2⟩ := c_missing (j := 0) (by decide) w c a2.1 a2.2.1
  have v2 : VS v h2 := a2.1.of (b2 64 (by decide)) (b2 65 (by decide)) (b2 66 (by decide))
  have s2 : ∀ f, f < 3810 → h2 67 f = hbV v (N v 12) f := by
    rw [b2 67 (by decide)]
    exact a2.2.1
  obtain ⟨h3, c1, c2⟩ := c_pf_L49 w c (N v 12 - 1) FU 0 h2 (by omega) (Nat.lt_of_le_of_lt (show N v 12 - 1 ≤ 8 by omega) (by decide)) v2 s2 (by rw [b2 3 (by decide), a3 3 (by omega)]; exact rc.1)
  obtain ⟨h4, d1, d2, d3⟩ := judge_all w c (v2.of (c2 64 (by decide)) (c2 65 (by decide)) (c2 66 (by decide))) (by rw [c2 67 (by decide)]; exact s2)
  exact ⟨h1, h2, h3, h4, a1, b1, c1, d1, ⟨v, w, c, d2⟩, fun o ho => by rw [d3 o (by omega), c2 o (by omega), b2 o (by omega), a3 o (by omega)]⟩
