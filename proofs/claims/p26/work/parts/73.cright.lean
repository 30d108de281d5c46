/-! the call right -/
/-- told right up to a place -/
def tkA (v : Nat → Int32) (f : Nat) : Nat → Bool
  | 0 => true
  | p + 1 => tkA v f p && decide (tdN v f p = sN v f p)
def trV (v : Nat → Int32) (f : Nat) : Bool := decide (hwN v f ≠ 3) && tkA v f 4
theorem tkA_mono {v : Nat → Int32} {f p : Nat} (h : tkA v f p = false) : ∀ j, tkA v f (p + j) = false := by
  intro j
  induction j with
  | zero => exact h
  | succ j ih =>
    show (tkA v f (p + j) && _) = false
    rw [ih, Bool.false_and]
theorem tkA_true {v : Nat → Int32} {f : Nat} (h : hwN v f ≠ 2) : ∀ p, tkA v f p = true := by
  intro p
  induction p with
  | zero => rfl
  | succ p ih => rw [tkA, ih, tdN, if_neg h, decide_eq_true rfl, Bool.true_and]
theorem tdN_lt {v : Nat → Int32} {f p : Nat} (w : WP v) : tdN v f p < 16 := by
  have s0 := (sN_n (f := f) (q := p) w).1
  have s1 := (sN_n (f := bef f) (q := p) w).1
  have s2 := (sN_n (f := aft f) (q := p) w).1
  unfold tdN flN
  split <;> omega
theorem eq_b {a b : Nat} (ha : a < 2 ^ 31) (hb : b < 2 ^ 31) : (if nI a = nI b then (1 : Int32) else (0 : Int32)) = bI (decide (a = b)) := by
  by_cases q : a = b
  · rw [if_pos (by rw [q]), decide_eq_true q]
    rfl
  · rw [if_neg (fun e => q ((nI_eq ha hb).mp e)), decide_eq_false q]
    rfl
theorem c_tr_L23 {T : Nat} {v : Nat → Int32} {h : HP} {f : Nat} (wf : WF T v) (r : R h 1 v) (hf : f < TOT v) (h2 : hwN v f = 2) : ∀ d n p, p + d = 4 → d < n → f_X10_isToldRight_L23 n (nI f) (2 : Int32) (bI (tkA v f p)) (nI p) h = some (bI (tkA v f 4)) := by
  have p3 : TOT v ≤ 3810 := (FM_tot wf.1.fm).2.1
  obtain ⟨h4, h0, _⟩ := how_2 h2
  intro d
  induction d with
  | zero =>
    intro n p hp hn
    obtain ⟨n, rfl⟩ : ∃ n', n = n' + 1 := ⟨n - 1, by omega⟩
    have : p = 4 := by omega
    subst this
    rw [f_X10_isToldRight_L23, if_pos (by decide)]
  | succ d ih =>
    intro n p hp hn
    obtain ⟨n, rfl⟩ : ∃ n', n = n' + 1 := ⟨n - 1, by omega⟩
    rw [f_X10_isToldRight_L23, if_neg (show ¬ (4 : Int32) ≤ nI p from nI_ge (b := 4) (by omega) (by decide))]
    cases hb : tkA v f p with
    | false =>
      have := tkA_mono hb (d + 1)
      rw [show p + (d + 1) = 4 by omega] at this
      rw [if_pos (show bI false = 0 by decide), this]
    | true =>
      have s0 := (sN_n (f := f) (q := p) wf.2.2.2).1
      have s1 := tdN_lt (f := f) (p := p) wf.2.2.2
      have etd : flN v f p = tdN v f p := by rw [tdN, if_pos h2]
      have enx : tkA v f (p + 1) = decide (tdN v f p = sN v f p) := by rw [tkA, hb, Bool.true_and]
      rw [if_neg (show ¬ bI true = 0 by decide), if_pos rfl, ob_e (c_filled wf r (by omega) h0 h4 (by omega)), ob_e (c_st wf r (by omega) (by omega)), etd, eq_b (by omega) (by omega), tb_s, nI_1, ← enx]
      exact ih n (p + 1) (by omega) (by omega)
theorem c_told {T : Nat} {v : Nat → Int32} {h : HP} {f : Nat} (wf : WF T v) (r : R h 1 v) (s : SVv v h) (hf : f < TOT v) : f_X10_isToldRight (nI f) h = some (bI (trV v f)) := by
  have p3 : TOT v ≤ 3810 := (FM_tot wf.1.fm).2.1
  have l68 : ln 68 = 3810 := by decide
  have eh : f_X7_howIs (nI f) h = nI (hwN v f) := by
    rw [f_X7_howIs, at_n (by omega), s.2.2 f hf]
    rfl
  have hl : hwN v f ≤ 3 := how_le
  have key : f_X10_isToldRight_L23 FU (nI f) (nI (hwN v f)) (if nI (hwN v f) = (3 : Int32) then (0 : Int32) else (1 : Int32)) (0 : Int32) h = some (bI (trV v f)) := by
    unfold trV
    by_cases q3 : hwN v f = 3
    · rw [q3, if_pos (show nI 3 = (3 : Int32) from rfl), decide_eq_false (fun e => e rfl), Bool.false_and]
      show f_X10_isToldRight_L23 (999999 + 1) (nI f) (nI 3) 0 0 h = _
      rw [f_X10_isToldRight_L23, if_neg (by decide), if_pos rfl]
      rfl
    · rw [if_neg (show ¬ nI (hwN v f) = (3 : Int32) from fun e => q3 ((nI_eq (b := 3) (by omega) (by decide)).mp e)), decide_eq_true q3, Bool.true_and]
      by_cases q2 : hwN v f = 2
      · rw [q2]
        exact c_tr_L23 wf r hf q2 4 FU 0 rfl (by decide)
      · rw [tkA_true q2]
        show f_X10_isToldRight_L23 (999999 + 1) (nI f) (nI (hwN v f)) 1 0 h = _
        rw [f_X10_isToldRight_L23, if_neg (by decide), if_neg (by decide), if_neg (show ¬ nI (hwN v f) = (2 : Int32) from fun e => q2 ((nI_eq (b := 2) (by omega) (by decide)).mp e))]
        rfl
  rw [f_X10_isToldRight, eh, tb_s, ob_e key, gd_t (by cases trV v f <;> decide)]
def dtF (f : Nat) : Bool := decide (f % 5 ≠ 4)
def rtF (v : Nat → Int32) (f : Nat) : Bool := dtF f && trV v f
theorem c_right_L30 {T : Nat} {v : Nat → Int32} {h : HP} (wf : WF T v) (r : R h 1 v) (s : SVv v h) : ∀ d n k, k + d = TOT v → d < n → f_X10_right_L30 n (nI (cnt dtF k)) (nI (cnt (rtF v) k)) (nI (TOT v)) (nI k) h = some (nI (cnt dtF (TOT v)), nI (cnt (rtF v) (TOT v))) := by
  have p3 : TOT v ≤ 3810 := (FM_tot wf.1.fm).2.1
  intro d
  induction d with
  | zero =>
    intro n k hk hn
    obtain ⟨n, rfl⟩ : ∃ n', n = n' + 1 := ⟨n - 1, by omega⟩
    have : k = TOT v := by omega
    rw [f_X10_right_L30, if_pos (nI_le (by omega) (by omega)), this]
  | succ d ih =>
    intro n k hk hn
    obtain ⟨n, rfl⟩ : ∃ n', n = n' + 1 := ⟨n - 1, by omega⟩
    have hi := ih n (k + 1) (by omega) (by omega)
    rw [f_X10_right_L30, if_neg (nI_ge (by omega) (by omega)), c_isCheck (by omega), nI_1 k]
    rw [cnt, cnt] at hi
    by_cases q4 : k % 5 = 4
    · have e1 : dtF k = false := decide_eq_false (fun e => e q4)
      have e2 : rtF v k = false := by rw [rtF, e1, Bool.false_and]
      rw [e1, e2] at hi
      rw [if_pos q4, if_neg (show ¬ (1 : Int32) = 0 by decide), ob_s]
      exact hi
    · have e1 : dtF k = true := decide_eq_true q4
      have e2 : rtF v k = trV v k := by rw [rtF, e1, Bool.true_and]
      rw [e1, e2] at hi
      rw [if_neg q4, if_pos rfl, ob_e (c_told wf r s (by omega)), tb_s, ob_s]
      dsimp only
      rw [nI_1]
      have : nI (cnt (rtF v) k) + (if bI (trV v k) = 0 then (0 : Int32) else (1 : Int32)) = nI (cnt (rtF v) k + (trV v k).toNat) := by
        cases trV v k with
        | false =>
          rw [if_pos (show bI false = 0 by decide), Int32.add_zero]
          rfl
        | true =>
          rw [if_neg (show ¬ bI true = 0 by decide), nI_1]
          rfl
      rw [this]
      exact hi
theorem cnt_mono {p : Nat → Bool} {m : Nat} : ∀ j, cnt p m ≤ cnt p (m + j) := by
  intro j
  induction j with
  | zero => exact Nat.le_refl _
  | succ j ih =>
    show _ ≤ cnt p (m + j) + _
    omega
