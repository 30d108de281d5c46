/-! the class's survey: made anew or kept -/
def LK (u v : Nat → Int32) : Prop := u 0 = v 0 ∧ u 1 = v 1 ∧ u 12 = v 12 ∧ ∀ k, k < 4 * N v 12 → u (13 + k) = v (13 + k)
theorem LK.n {u v : Nat → Int32} (l : LK u v) : N u 0 = N v 0 ∧ N u 1 = N v 1 ∧ N u 12 = N v 12 := by
  unfold N
  rw [l.1, l.2.1, l.2.2.1]
  exact ⟨rfl, rfl, rfl⟩
theorem LK.tot {u v : Nat → Int32} (l : LK u v) : TOT u = TOT v := by
  unfold TOT
  rw [l.n.1, l.n.2.1]
theorem LK.dm {u v : Nat → Int32} (l : LK u v) {k t i : Nat} (hk : k < N v 12) : dmg u k t i = dmg v k t i := by
  have g : ∀ q, q < 4 → N u (13 + 4 * k + q) = N v (13 + 4 * k + q) := by
    intro q hq
    unfold N
    have := l.2.2.2 (4 * k + q) (by omega)
    rw [← Nat.add_assoc] at this
    rw [this]
  unfold dmg
  rw [l.n.1, l.n.2.1, g 1 (by decide), g 2 (by decide), g 3 (by decide), show N u (13 + 4 * k) = N v (13 + 4 * k) from g 0 (by decide)]
theorem LK.any {u v : Nat → Int32} (l : LK u v) {x : Int32} {t i : Nat} : ∀ k, k ≤ N v 12 → anyD u x t i k = anyD v x t i k := by
  intro k
  induction k with
  | zero => intro _; rfl
  | succ k ih =>
    intro hk
    rw [anyD, anyD, ih (by omega), l.dm (by omega)]
theorem LK.hk {u v : Nat → Int32} (l : LK u v) {t i : Nat} : ∀ k, k ≤ N v 12 → hbk u t i k = hbk v t i k := by
  intro k
  induction k with
  | zero => intro _; rfl
  | succ k ih =>
    intro hk
    rw [hbk, hbk, ih (by omega), l.dm (by omega)]
theorem LK.ly {u v : Nat → Int32} (l : LK u v) (x : Int32) : lyV u x = lyV v x := by
  funext f
  unfold lyV
  rw [l.n.1, l.n.2.1, l.n.2.2, l.any _ (Nat.le_refl _)]
theorem LK.hb {u v : Nat → Int32} (l : LK u v) {f : Nat} : hbV u (N u 12) f = hbV v (N v 12) f := by
  unfold hbV
  rw [l.tot, l.n.1, l.n.2.1, l.n.2.2, l.hk _ (Nat.le_refl _)]
def SVv (v : Nat → Int32) (h : HP) : Prop := VS v h ∧ (∀ f, f < 3810 → h 67 f = hbV v (N v 12) f) ∧ ∀ f, f < TOT v → h 68 f = nI (how (lyV v (-5)) (TOT v) f)
def SV (h : HP) : Prop := ∃ u, WS u ∧ WC u ∧ SVv u h
theorem SVv.of {v : Nat → Int32} {h h' : HP} (s : SVv v h) (e : ∀ o, 64 ≤ o → o ≤ 68 → h' o = h o) : SVv v h' := by
  refine ⟨s.1.of (e 64 (by decide) (by decide)) (e 65 (by decide) (by decide)) (e 66 (by decide) (by decide)), ?_, ?_⟩
  · rw [e 67 (by decide) (by decide)]
    exact s.2.1
  · rw [e 68 (by decide) (by decide)]
    exact s.2.2
theorem SV.of {h h' : HP} (s : SV h) (e : ∀ o, 64 ≤ o → o ≤ 68 → h' o = h o) : SV h' := by
  obtain ⟨u, w, c, s⟩ := s
  exact ⟨u, w, c, s.of e⟩
theorem MS_all {v : Nat → Int32} {h : HP} (c : WC v) (s : ∀ f, f < 3810 → h 67 f = hbV v (N v 12) f) : MS (fun f => decide (f < TOT v) && lyV v (-5) f) (-1) h := by
  intro f hf
  show (_ ↔ (decide (f < TOT v) && lyV v _ f) = false)
  rw [s f hf]
  unfold hbV
  by_cases q : f < TOT v
  · rw [if_pos q, hbk_all _ c.1.2.1, decide_eq_true q, Bool.true_and]
    rfl
  · rw [if_neg q, decide_eq_false q, zero_and]
    simp
theorem MS_but {v : Nat → Int32} {h : HP} {j : Nat} (hj : j < 8) (c : WC v) (s : ∀ f, f < 3810 → h 67 f = hbV v (N v 12) f) : MS (fun f => decide (f < TOT v) && lyV v (nI j) f) (bitN j ^^^ (-1 : Int32)) h := by
  intro f hf
  show (_ ↔ (decide (f < TOT v) && lyV v _ f) = false)
  rw [s f hf]
  unfold hbV
  by_cases q : f < TOT v
  · rw [if_pos q, hbk_but hj _ c.1.2.1, decide_eq_true q, Bool.true_and]
    rfl
  · rw [if_neg q, decide_eq_false q, zero_and]
    simp
/-- how looks only below T -/
theorem how_T {b : Nat → Bool} {T f : Nat} (hT : T % 5 = 0) (hf : f < T) : how (fun x => decide (x < T) && b x) T f = how b T f := by
  have e : ∀ x, x < T → (decide (x < T) && b x) = b x := fun x hx => by rw [decide_eq_true hx, Bool.true_and]
  have g : ∀ x, x < T → grp (fun x => decide (x < T) && b x) (x / 5) = grp b (x / 5) := by
    intro x hx
    unfold grp
    show (decide (5 * (x / 5) < T) && b (5 * (x / 5))).toNat + (decide (5 * (x / 5) + 1 < T) && b (5 * (x / 5) + 1)).toNat + (decide (5 * (x / 5) + 2 < T) && b (5 * (x / 5) + 2)).toNat + (decide (5 * (x / 5) + 3 < T) && b (5 * (x / 5) + 3)).toNat + (decide (5 * (x / 5) + 4 < T) && b (5 * (x / 5) + 4)).toNat = _
    rw [e _ (by omega), e _ (by omega), e _ (by omega), e _ (by omega), e _ (by omega)]
  have sn : ∀ x, x < T → snd (fun x => decide (x < T) && b x) x = snd b x := by
    intro x hx
    unfold snd
    show (!(decide (x < T) && b x) || _) = _
    rw [e x hx, g x hx]
  unfold how
  show (if (decide (f < T) && b f) = false then _ else _) = _
  rw [e f hf, g f hf]
  by_cases q1 : b f = false
  · rw [if_pos q1, if_pos q1]
  · rw [if_neg q1, if_neg q1]
    by_cases q2 : grp b (f / 5) = 1
    · rw [if_pos q2, if_pos q2]
    · rw [if_neg q2, if_neg q2]
      by_cases q3 : f ≠ 0 ∧ f % 5 ≠ 4 ∧ aft f < T
      · have := bef_lt q3.1 q3.2.1
        rw [sn (bef f) (by omega), sn (aft f) q3.2.2]
      · rw [if_neg (fun c => q3 ⟨c.2.1, c.1, c.2.2.1⟩), if_neg (fun c => q3 ⟨c.2.1, c.1, c.2.2.1⟩)]
theorem judge_all {v : Nat → Int32} {h : HP} (w : WS v) (c : WC v) (s : VS v h) (hs : ∀ f, f < 3810 → h 67 f = hbV v (N v 12) f) : ∃ h', f_X7_judge (-1) h = some h' ∧ SVv v h' ∧ ∀ o, o ≠ 68 → h' o = h o := by
  obtain ⟨h', e1, p1, f1⟩ := judge w s (MS_all c hs)
  refine ⟨h', e1, ⟨s.of (f1 64 (by decide)) (f1 65 (by decide)) (f1 66 (by decide)), ?_, ?_⟩, f1⟩
  · rw [f1 67 (by decide)]
    exact hs
  · intro f hf
    rw [p1 f hf, how_T (T := TOT v) (FM_tot w.fm).2.2 hf]
theorem judge_but {v : Nat → Int32} {h : HP} {j : Nat} (hj : j < 8) (w : WS v) (c : WC v) (s : VS v h) (hs : ∀ f, f < 3810 → h 67 f = hbV v (N v 12) f) : ∃ h', f_X7_judge (bitN j ^^^ (-1 : Int32)) h = some h' ∧ (∀ f, f < TOT v → h' 68 f = nI (how (lyV v (nI j)) (TOT v) f)) ∧ ∀ o, o ≠ 68 → h' o = h o := by
  obtain ⟨h', e1, p1, f1⟩ := judge w s (MS_but hj c hs)
  refine ⟨h', e1, ?_, f1⟩
  intro f hf
  rw [p1 f hf, how_T (T := TOT v) (FM_tot w.fm).2.2 hf]
def ofRec (h : HP) : Option HP :=
  tb (f_X5_copyFrom 64 2 h) (fun q36 =>
  tb (f_X4_copyFrom 65 3 q36) (fun q47 =>
  ob (f_J7_fill_53178 67 (0 : Int32) q47) (fun q55 =>
  ob (f_X7_of_L60 FU 1 (0 : Int32) q55) (fun q60 =>
  ob (f_X7_judge (-1 : Int32) q60) (fun q84 =>
  some q84)))))
theorem c5_copy {o p : Nat} {h : HP} (hne : p ≠ o) : (∀ k, k < 6 → f_X5_copyFrom o p h o k = h p k) ∧ ∀ a, a ≠ o → f_X5_copyFrom o p h a = h a := by
  constructor
  · intro k hk
    have : k = 0 ∨ k = 1 ∨ k = 2 ∨ k = 3 ∨ k = 4 ∨ k = 5 := by omega
    unfold f_X5_copyFrom tb
    rcases this with q | q | q | q | q | q <;> subst q <;> simp [hset, hne]
  · intro a ha
    unfold f_X5_copyFrom tb
    funext j
    simp [hset, ha]
theorem c4_copy {o p : Nat} {h : HP} (hne : p ≠ o) (h1 : p ≠ o + 1) : f_X4_copyFrom o p h o 1 = h p 1 ∧ (∀ k, k < 32 → f_X4_copyFrom o p h (o + 1) k = h (p + 1) k) ∧ ∀ a, a ≠ o → a ≠ o + 1 → f_X4_copyFrom o p h a = h a := by
  refine ⟨?_, fun k hk => ?_, fun a ha hb => ?_⟩
  · unfold f_X4_copyFrom tb
    simp [hset, hcpy, h1]
  · unfold f_X4_copyFrom tb
    simp [hset, hcpy, hk]
  · unfold f_X4_copyFrom tb
    funext j
    simp [hset, hcpy, ha, hb]
theorem of_rec {v : Nat → Int32} {h : HP} (w : WS v) (c : WC v) (rs : RS h 1 v) (rc : RC h 1 v) : ∃ h', ofRec h = some h' ∧ SVv v h' ∧ ∀ o, o < 64 ∨ 68 < o → h' o = h o := by
  have h8 := c.1.2.1
  have l67 : ln 67 = 3810 := by decide
  have a5 := c5_copy (o := 64) (p := 2) (h := h) (by decide)
  have a4 := c4_copy (o := 65) (p := 3) (h := f_X5_copyFrom 64 2 h) (by decide) (by decide)
  unfold ofRec
  rw [tb_s, tb_s]
  generalize e5 : f_X5_copyFrom 64 2 h = h5 at a5 a4 ⊢
  generalize e4 : f_X4_copyFrom 65 3 h5 = h4 at a4 ⊢
  obtain ⟨h7, f1, f2, f3⟩ := fill_L5 (o := 67) (x := 0) 3810 FU 0 h4 (by omega) (by decide) (fun f hf => absurd hf (Nat.not_lt_zero _))
  have fl : f_J7_fill_53178 67 0 h4 = some h7 := by
    rw [f_J7_fill_53178]
    exact ob_e (k := fun r => some r) f1
  have vs : VS v h7 := by
    refine ⟨⟨?_, ?_⟩, ?_, ?_⟩
    · rw [f3 64 (by decide), a4.2.2 64 (by decide) (by decide), a5.1 0 (by decide)]
      exact (rs 0 (by decide)).trans w.1.2.2
    · rw [f3 64 (by decide), a4.2.2 64 (by decide) (by decide), a5.1 1 (by decide)]
      exact (rs 1 (by decide)).trans w.2.1.2.2
    · rw [f3 65 (by decide), a4.1, a5.2 3 (by decide)]
      exact rc.1
    · intro k hk
      rw [f3 66 (by decide), a4.2.1 k (by omega), a5.2 4 (by decide)]
      exact rc.2 k hk
  have ps : PS v 0 0 h7 := by
    intro f hf
    rw [f2 f (by omega), if_neg (Nat.not_lt_zero _)]
    unfold hbV
    split <;> rfl
  obtain ⟨h6, g1, g2, g3⟩ := of_L60 (x := 1) w c (N v 12) FU 0 h7 (by omega) (Nat.lt_of_le_of_lt h8 (by decide)) vs ps
  obtain ⟨h', j1, j2, j3⟩ := judge_all w c (vs.of (g3 64 (by decide)) (g3 65 (by decide)) (g3 66 (by decide))) (fun f hf => (g2 f hf).trans (if_neg (Nat.not_lt_zero _)))
  refine ⟨h', ?_, j2, fun o ho => ?_⟩
  · refine (ob_e fl).trans ((ob_e g1).trans ?_)
    exact ob_e (k := fun r => some r) j1
  · rw [j3 o (by omega), g3 o (by omega), f3 o (by omega), a4.2.2 o (by omega) (by omega), a5.2 o (by omega)]
theorem isLike_L19 {o p : Nat} {h : HP} {c : Nat} (hc : c ≤ 8) (hl : ln (o + 1) = 32) (hl2 : ln (p + 1) = 32) (e : h o 1 = nI c) : ∀ d n i, i + d = 4 * c → d + 1 < n → ∃ r, f_X4_isLike_L19 n o p 1 (nI i) h = some r ∧ (r = 0 ∨ (r = 1 ∧ ∀ k, i ≤ k → k < 4 * c → h (o + 1) k = h (p + 1) k)) := by
  intro d
  induction d with
  | zero =>
    intro n i hi hn
    obtain ⟨n, rfl⟩ : ∃ n', n = n' + 1 := ⟨n - 1, by omega⟩
    rw [f_X4_isLike_L19, if_neg (by decide), e, lit_n 4, pk_mul, if_pos (nI_le (by omega) (by omega))]
    exact ⟨1, rfl, Or.inr ⟨rfl, fun k h1 h2 => by omega⟩⟩
  | succ d ih =>
    intro n i hi hn
    obtain ⟨n, rfl⟩ : ∃ n', n = n' + 1 := ⟨n - 1, by omega⟩
    rw [f_X4_isLike_L19, if_neg (by decide), e, lit_n 4, pk_mul, if_neg (nI_ge (by omega) (by omega)), at_n (by omega), at_n (by omega), tb_s, nI_1]
    by_cases q : h (o + 1) i = h (p + 1) i
    · rw [if_pos q]
      obtain ⟨r, e1, e2⟩ := ih n (i + 1) (by omega) (by omega)
      refine ⟨r, e1, ?_⟩
      rcases e2 with e2 | e2
      · exact Or.inl e2
      · refine Or.inr ⟨e2.1, fun k h1 h2 => ?_⟩
        by_cases q2 : k = i
        · rw [q2, q]
        · exact e2.2 k (by omega) h2
    · rw [if_neg q]
      obtain ⟨n, rfl⟩ : ∃ n', n = n' + 1 := ⟨n - 1, by omega⟩
      exact ⟨0, by rw [f_X4_isLike_L19, if_pos rfl], Or.inl rfl⟩
theorem c_of {v : Nat → Int32} {h : HP} (w : WS v) (c : WC v) (rs : RS h 1 v) (rc : RC h 1 v) (sv : SV h) : ∃ h', f_X7_of 1 h = some h' ∧ SVv v h' ∧ ∀ o, o < 64 ∨ 68 < o → h' o = h o := by
  have hrec := of_rec w c rs rc
  obtain ⟨u, wu, cu, su⟩ := sv
  rw [f_X7_of, f_X5_hasSpiralOf]
  by_cases q0 : h 64 0 = h 2 0
  · by_cases q1 : h 64 1 = h 2 1
    · rw [if_pos q0, if_pos q1, if_neg (show ¬ (1 : Int32) = 0 by decide), f_X4_isLike, tb_s]
      have key : ∃ r, f_X4_isLike_L19 FU 65 3 (if h 65 1 = h 3 1 then (1 : Int32) else (0 : Int32)) (0 : Int32) h = some r ∧ (r = 0 ∨ (r = 1 ∧ h 65 1 = h 3 1 ∧ ∀ k, k < 4 * N u 12 → h 66 k = h 4 k)) := by
        by_cases q2 : h 65 1 = h 3 1
        · rw [if_pos q2]
          have hu := cu.1.2.1
          obtain ⟨r, e1, e2⟩ := isLike_L19 (o := 65) (p := 3) hu (by decide) (by decide) (su.1.2.1.trans cu.1.2.2) (4 * N u 12) FU 0 (by omega) (Nat.lt_of_le_of_lt (show 4 * N u 12 + 1 ≤ 33 by omega) (by decide))
          refine ⟨r, e1, ?_⟩
          rcases e2 with e2 | e2
          · exact Or.inl e2
          · exact Or.inr ⟨e2.1, q2, fun k hk => e2.2 k (Nat.zero_le _) hk⟩
        · rw [if_neg q2]
          refine ⟨0, ?_, Or.inl rfl⟩
          show f_X4_isLike_L19 (999999 + 1) 65 3 0 0 h = _
          rw [f_X4_isLike_L19, if_pos rfl]
      obtain ⟨r, e1, e2⟩ := key
      show ∃ h', ob (ob (f_X4_isLike_L19 FU 65 3 (if h 65 1 = h 3 1 then (1 : Int32) else (0 : Int32)) (0 : Int32) h) _) _ = some h' ∧ _
      rw [ob_e e1]
      rcases e2 with e2 | ⟨e2, e3, e4⟩
      · subst e2
        rw [gd_t (by decide), ob_s, if_pos rfl]
        exact hrec
      · subst e2
        rw [gd_t (by decide), ob_s, if_neg (by decide)]
        have l : LK u v := by
          have n12 : u 12 = v 12 := (su.1.2.1.symm.trans e3).trans rc.1
          have nn : N u 12 = N v 12 := by
            unfold N
            rw [n12]
          refine ⟨?_, ?_, n12, fun k hk => ?_⟩
          · rw [wu.1.2.2, ← su.1.1.1, q0]
            exact rs 0 (by decide)
          · rw [wu.2.1.2.2, ← su.1.1.2, q1]
            exact rs 1 (by decide)
          · rw [← su.1.2.2 k (by omega), e4 k (by omega)]
            exact rc.2 k hk
        refine ⟨h, rfl, ⟨⟨?_, ?_, ?_⟩, ?_, ?_⟩, fun _ _ => rfl⟩
        · rw [← l.n.1, ← l.n.2.1]
          exact su.1.1
        · rw [← l.2.2.1]
          exact su.1.2.1
        · intro k hk
          rw [su.1.2.2 k (by rw [l.n.2.2]; exact hk), l.2.2.2 k hk]
        · intro f hf
          rw [su.2.1 f hf, l.hb]
        · intro f hf
          rw [su.2.2 f (by rw [l.tot]; exact hf), l.tot, l.ly]
    · rw [if_pos q0, if_neg q1, if_pos rfl]
      exact hrec
  · rw [if_neg q0, if_pos rfl]
    exact hrec

