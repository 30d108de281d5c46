/-! the class's survey: counts -/
theorem cnt_T {b : Nat → Bool} {T : Nat} : ∀ n, T ≤ n → cnt (fun f => decide (f < T) && b f) n = cnt b T := by
  have h1 : ∀ n, n ≤ T → cnt (fun f => decide (f < T) && b f) n = cnt b n := by
    intro n
    induction n with
    | zero => intro _; rfl
    | succ n ih =>
      intro hn
      rw [cnt, cnt, ih (by omega), decide_eq_true (show n < T by omega), Bool.true_and]
  intro n
  induction n with
  | zero =>
    intro hn
    exact h1 0 (by omega) |>.trans (by rw [show T = 0 by omega])
  | succ n ih =>
    intro hn
    by_cases q : T = n + 1
    · rw [h1 (n + 1) (by omega), q]
    · rw [cnt, ih (by omega), decide_eq_false (show ¬ n < T by omega), Bool.false_and]
      rfl
theorem damagedIn_L10 {b : Nat → Bool} {m : Int32} {h : HP} (s : MS b m h) : ∀ d n k, k + d = 3810 → d < n → f_X7_damagedIn_L10 n (3810 : Int32) m (nI (cnt b k)) (nI k) h = some (nI (cnt b 3810)) := by
  intro d
  induction d with
  | zero =>
    intro n k hk hn
    obtain ⟨n, rfl⟩ : ∃ n', n = n' + 1 := ⟨n - 1, by omega⟩
    have : k = 3810 := by omega
    subst this
    rw [f_X7_damagedIn_L10, if_pos (by decide)]
  | succ d ih =>
    intro n k hk hn
    obtain ⟨n, rfl⟩ : ∃ n', n = n' + 1 := ⟨n - 1, by omega⟩
    have hk3 : ¬ (3810 : Int32) ≤ nI k := nI_ge (a := k) (b := 3810) (by omega) (by decide)
    rw [f_X7_damagedIn_L10, if_neg hk3, if_neg hk3, gd_t (inB_n (by omega) (by decide)), nI_clamp (by omega)]
    have s1 := s k (by omega)
    have : (if h 67 k &&& m = 0 then nI (cnt b k) else nI (cnt b k) + (1 : Int32)) = nI (cnt b (k + 1)) := by
      rw [cnt]
      cases hb : b k with
      | true =>
        rw [if_neg (fun e => Bool.noConfusion (hb.symm.trans (s1.mp e))), nI_1]
        rfl
      | false =>
        rw [if_pos (s1.mpr hb)]
        rfl
    rw [this, nI_1]
    exact ih n (k + 1) (by omega) (by omega)
theorem c_damaged {v : Nat → Int32} {h : HP} (w : WS v) (c : WC v) (s : SVv v h) : f_X7_damagedIn (0 : Int32) (3810 : Int32) (-1 : Int32) h = some (nI (cnt (lyV v (-5)) (TOT v))) := by
  have hT := FM_tot w.fm
  have hT' : TOT v ≤ 3810 ∧ TOT v % 5 = 0 := hT.2
  have l := damagedIn_L10 (MS_all c s.2.1) 3810 FU 0 rfl (by decide)
  rw [show cnt (fun f => decide (f < TOT v) && lyV v (-5) f) 0 = 0 from rfl, cnt_T 3810 hT'.1, nI_0] at l
  rw [f_X7_damagedIn, show jmax (0 : Int32) (0 : Int32) = 0 by decide]
  exact ob_e (k := fun r => some r) l
theorem framesThatAre_L13 {b : Nat → Bool} {T x : Nat} {h : HP} (hT : T ≤ 3810) (hx : x ≤ 3) (s : ∀ f, f < T → h 68 f = nI (how b T f)) : ∀ d n k, k + d = T → d < n → f_X7_framesThatAre_L13 n (nI x) (nI (cnt (fun f => decide (how b T f = x)) k)) (nI T) (nI k) h = some (nI (cnt (fun f => decide (how b T f = x)) T)) := by
  intro d
  induction d with
  | zero =>
    intro n k hk hn
    obtain ⟨n, rfl⟩ : ∃ n', n = n' + 1 := ⟨n - 1, by omega⟩
    have : k = T := by omega
    rw [f_X7_framesThatAre_L13, if_pos (nI_le (by omega) (by omega)), this]
  | succ d ih =>
    intro n k hk hn
    obtain ⟨n, rfl⟩ : ∃ n', n = n' + 1 := ⟨n - 1, by omega⟩
    have hk3 : ¬ (3810 : Int32) ≤ nI k := nI_ge (a := k) (b := 3810) (by omega) (by decide)
    rw [f_X7_framesThatAre_L13, if_neg (nI_ge (by omega) (by omega)), if_neg hk3, gd_t (inB_n (by omega) (by decide)), nI_clamp (by omega), s k (by omega)]
    have h3 := how_le (b := b) (T := T) (f := k)
    have : (if nI (how b T k) = nI x then nI (cnt (fun f => decide (how b T f = x)) k) + (1 : Int32) else nI (cnt (fun f => decide (how b T f = x)) k)) = nI (cnt (fun f => decide (how b T f = x)) (k + 1)) := by
      rw [cnt]
      by_cases q : how b T k = x
      · rw [if_pos (by rw [q]), decide_eq_true q, nI_1]
        rfl
      · rw [if_neg (fun c => q ((nI_eq (by omega) (by omega)).mp c)), decide_eq_false q]
        rfl
    rw [this, nI_1]
    exact ih n (k + 1) (by omega) (by omega)
theorem c_framesThatAre {v : Nat → Int32} {b : Nat → Bool} {h : HP} {x : Nat} (w : WS v) (vs : VS v h) (hx : x ≤ 3) (s : ∀ f, f < TOT v → h 68 f = nI (how b (TOT v) f)) : f_X7_framesThatAre (nI x) h = some (nI (cnt (fun f => decide (how b (TOT v) f = x)) (TOT v))) := by
  have hT := FM_tot w.fm
  have hT' : TOT v ≤ 3810 ∧ TOT v % 5 = 0 := hT.2
  have l := framesThatAre_L13 hT'.1 hx s (TOT v) FU 0 (by omega) (Nat.lt_of_le_of_lt hT'.1 (by decide))
  rw [show cnt (fun f => decide (how b (TOT v) f = x)) 0 = 0 from rfl, nI_0] at l
  have a0 : f_X5_allFrames 64 h = nI (TOT v) := c_allFrames vs.1
  rw [f_X7_framesThatAre, a0]
  exact ob_e (k := fun r => some r) l
/-- frames missing without the scratch j -/
def missW (v : Nat → Int32) (x : Int32) : Nat := cnt (fun f => decide (how (lyV v x) (TOT v) f = 3)) (TOT v)
theorem c_missing {v : Nat → Int32} {h : HP} {j : Nat} (hj : j < 8) (w : WS v) (c : WC v) (s : VS v h) (hs : ∀ f, f < 3810 → h 67 f = hbV v (N v 12) f) : ∃ h', f_X7_missingWithout (nI j) h = some (nI (missW v (nI j)), h') ∧ ∀ o, o ≠ 68 → h' o = h o := by
  obtain ⟨h', e1, p1, f1⟩ := judge_but hj w c s hs
  refine ⟨h', ?_, f1⟩
  have l := c_framesThatAre (x := 3) (h := h') w (s.of (f1 64 (by decide)) (f1 65 (by decide)) (f1 66 (by decide))) (by decide) p1
  rw [f_X7_missingWithout]
  refine (ob_e e1).trans ?_
  refine (ob_e l).trans ?_
  rfl
/-- polishing first: the best scratch, and what it leaves missing -/
def pfB (v : Nat → Int32) : Nat → Nat × Nat
  | 0 => (0, missW v (nI 0))
  | k + 1 => if (pfB v k).2 ≤ missW v (nI (k + 1)) then pfB v k else (k + 1, missW v (nI (k + 1)))
theorem missW_le {v : Nat → Int32} {x : Int32} (w : WS v) : missW v x ≤ 3810 := by
  have hT := FM_tot w.fm
  have hT' : TOT v ≤ 3810 ∧ TOT v % 5 = 0 := hT.2
  have := cnt_le (fun f => decide (how (lyV v x) (TOT v) f = 3)) (TOT v)
  unfold missW
  omega
theorem pfB_le {v : Nat → Int32} (w : WS v) : ∀ k, (pfB v k).1 ≤ k ∧ (pfB v k).2 ≤ 3810 := by
  intro k
  induction k with
  | zero => exact ⟨Nat.le_refl _, missW_le w⟩
  | succ k ih =>
    rw [pfB]
    split
    · exact ⟨by omega, ih.2⟩
    · exact ⟨Nat.le_refl _, missW_le w⟩
theorem c_pf_L49 {v : Nat → Int32} (w : WS v) (c : WC v) : ∀ d n k h, k + 1 + d = N v 12 → d < n → VS v h → (∀ f, f < 3810 → h 67 f = hbV v (N v 12) f) → h 3 1 = v 12 → ∃ h', f_X10_polishFirst_L49 n (nI (pfB v k).1) (nI (pfB v k).2) (nI (k + 1)) h = some (nI (pfB v (N v 12 - 1)).1, nI (pfB v (N v 12 - 1)).2, h') ∧ ∀ o, o ≠ 68 → h' o = h o := by
  have h8 := c.1.2.1
  intro d
  induction d with
  | zero =>
    intro n k h hk hn s hs e3
    obtain ⟨n, rfl⟩ : ∃ n', n = n' + 1 := ⟨n - 1, by omega⟩
    rw [f_X10_polishFirst_L49, e3, c.1.2.2, if_pos (nI_le (by omega) (by omega))]
    have : N v 12 - 1 = k := by omega
    rw [this]
    exact ⟨h, rfl, fun _ _ => rfl⟩
  | succ d ih =>
    intro n k h hk hn s hs e3
    obtain ⟨n, rfl⟩ : ∃ n', n = n' + 1 := ⟨n - 1, by omega⟩
    obtain ⟨h1, e1, f1⟩ := c_missing (show k + 1 < 8 by omega) w c s hs
    have hm := missW_le (x := nI (k + 1)) w
    have hp := pfB_le w k
    obtain ⟨h2, e2, f2⟩ := ih n (k + 1) h1 (by omega) (by omega) (s.of (f1 64 (by decide)) (f1 65 (by decide)) (f1 66 (by decide))) (by rw [f1 67 (by decide)]; exact hs) (by rw [f1 3 (by decide)]; exact e3)
    refine ⟨h2, ?_, fun o ho => (f2 o ho).trans (f1 o ho)⟩
    rw [f_X10_polishFirst_L49, e3, c.1.2.2, if_neg (nI_ge (by omega) (by omega))]
    refine (ob_e e1).trans ?_
    rw [← e2, pfB]
    show f_X10_polishFirst_L49 n (if nI (pfB v k).2 ≤ nI (missW v (nI (k + 1))) then nI (pfB v k).1 else nI (k + 1)) (if nI (pfB v k).2 ≤ nI (missW v (nI (k + 1))) then nI (pfB v k).2 else nI (missW v (nI (k + 1)))) (nI (k + 1) + 1) h1 = _
    rw [nI_1]
    by_cases q : (pfB v k).2 ≤ missW v (nI (k + 1))
    · rw [if_pos (nI_le q (by omega)), if_pos (nI_le q (by omega)), if_pos q]
    · rw [if_neg (nI_ge (by omega) (by omega)), if_neg (nI_ge (by omega) (by omega)), if_neg q]
