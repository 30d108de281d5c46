/-! the call right -/
def TwoD (T : Nat) (h : HP) (C M : HP → Option (UInt64 × HP)) : Prop := ∃ r h1 h2, C h = some (r, h1) ∧ M h1 = some (r, h2) ∧ dcl r r = 0 ∧ Inv (T + 1000000) h2
theorem two_queryD {T : Nat} {h h1 : HP} {C M : HP → Option (UInt64 × HP)} {r : UInt64} {v kv tx : Nat → Int32} {n L : Nat} {H : Nat → Nat → Int32} {kb : Bool} (hr : dok r = true) (ki : KI h v n H kb kv L tx) (mi : MI h v n H kb kv L tx) (wa : WA T v n H kb kv) (e : C h = some (r, h1)) (sv : SV h1) (fr : ∀ o, o < 63 ∨ 69 < o → h1 o = h o) (m : ∀ g, E6 (g 71) v → WF T (g 71) → R h 1 (g 71) → ∃ g', M g = some (r, g') ∧ E6 (g' 71) v ∧ ∀ o, o ≠ 71 → o ≠ 72 → o ≠ 76 → g' o = g o) : TwoD T h C M := by
  have t : Two T h (fun h => ob (C h) (fun q => if q.1 = r then some ((0 : Int32), q.2) else none)) (fun h => ob (M h) (fun q => if q.1 = r then some ((0 : Int32), q.2) else none)) := two_query (r := 0) (h1 := h1) ki mi wa (by
      show ob (C h) _ = _
      rw [ob_e e]
      exact if_pos rfl) sv fr (fun g a b c => by
      obtain ⟨g', m1, m2, m3⟩ := m g a b c
      refine ⟨g', ?_, m2, m3⟩
      show ob (M g) _ = _
      rw [ob_e m1]
      exact if_pos rfl)
  obtain ⟨r', a1, a2, e1, e2, inv⟩ := t
  obtain ⟨q1, b1, c1⟩ := ob_some e1
  obtain ⟨q2, b2, c2⟩ := ob_some e2
  rw [e] at b1
  injection b1 with b1
  subst b1
  have c1 : (if r = r then some ((0 : Int32), h1) else none) = some (r', a1) := c1
  rw [if_pos rfl] at c1
  injection c1 with c1
  injection c1 with c1 c3
  subst c3
  by_cases q : q2.1 = r
  · rw [if_pos q] at c2
    injection c2 with c2
    injection c2 with c2 c4
    refine ⟨r, h1, a2, e, ?_, dcl_self hr, inv⟩
    rw [b2, ← q, ← c4]
  · rw [if_neg q] at c2
    cases c2
/-- told right up to a place -/
def tkA (v : Nat → Int32) (f : Nat) : Nat → Bool
  | 0 => true
  | p + 1 => tkA v f p && decide (tdN v f p = sN v f p)
def trV (v : Nat → Int32) (f : Nat) : Bool := decide (hwN v f ≠ 3) && tkA v f 4
theorem tkA_mono {v : Nat → Int32} {f p : Nat} (h : tkA v f p = false) : ∀ j, tkA v f (p + j) = false := by
  intro j
  induction j with
  | zero => exact h
  | succ j ih =>
    show (tkA v f (p + j) && _) = false
    rw [ih, Bool.false_and]
theorem tkA_true {v : Nat → Int32} {f : Nat} (h : hwN v f ≠ 2) : ∀ p, tkA v f p = true := by
  intro p
  induction p with
  | zero => rfl
  | succ p ih => rw [tkA, ih, tdN, if_neg h, decide_eq_true rfl, Bool.true_and]
theorem tdN_lt {v : Nat → Int32} {f p : Nat} (w : WP v) : tdN v f p < 16 := by
  have s0 := (sN_n (f := f) (q := p) w).1
  have s1 := (sN_n (f := bef f) (q := p) w).1
  have s2 := (sN_n (f := aft f) (q := p) w).1
  unfold tdN flN
  split <;> omega
theorem eq_b {a b : Nat} (ha : a < 2 ^ 31) (hb : b < 2 ^ 31) : (if nI a = nI b then (1 : Int32) else (0 : Int32)) = bI (decide (a = b)) := by
  by_cases q : a = b
  · rw [if_pos (by rw [q]), decide_eq_true q]
    rfl
  · rw [if_neg (fun e => q ((nI_eq ha hb).mp e)), decide_eq_false q]
    rfl
theorem c_tr_L23 {T : Nat} {v : Nat → Int32} {h : HP} {f : Nat} (wf : WF T v) (r : R h 1 v) (hf : f < TOT v) (h2 : hwN v f = 2) : ∀ d n p, p + d = 4 → d < n → f_X10_isToldRight_L23 n (nI f) (2 : Int32) (bI (tkA v f p)) (nI p) h = some (bI (tkA v f 4)) := by
  have p3 : TOT v ≤ 3810 := (FM_tot wf.1.fm).2.1
  obtain ⟨h4, h0, _⟩ := how_2 h2
  intro d
  induction d with
  | zero =>
    intro n p hp hn
    obtain ⟨n, rfl⟩ : ∃ n', n = n' + 1 := ⟨n - 1, by omega⟩
    have : p = 4 := by omega
    subst this
    rw [f_X10_isToldRight_L23, if_pos (by decide)]
  | succ d ih =>
    intro n p hp hn
    obtain ⟨n, rfl⟩ : ∃ n', n = n' + 1 := ⟨n - 1, by omega⟩
    rw [f_X10_isToldRight_L23, if_neg (show ¬ (4 : Int32) ≤ nI p from nI_ge (b := 4) (by omega) (by decide))]
    cases hb : tkA v f p with
    | false =>
      have := tkA_mono hb (d + 1)
      rw [show p + (d + 1) = 4 by omega] at this
      rw [if_pos (show bI false = 0 by decide), this]
    | true =>
      have s0 := (sN_n (f := f) (q := p) wf.2.2.2).1
      have s1 := tdN_lt (f := f) (p := p) wf.2.2.2
      have etd : flN v f p = tdN v f p := by rw [tdN, if_pos h2]
      have enx : tkA v f (p + 1) = decide (tdN v f p = sN v f p) := by rw [tkA, hb, Bool.true_and]
      rw [if_neg (show ¬ bI true = 0 by decide), if_pos rfl, ob_e (c_filled wf r (by omega) h0 h4 (by omega)), ob_e (c_st wf r (by omega) (by omega)), etd, eq_b (by omega) (by omega), tb_s, nI_1, ← enx]
      exact ih n (p + 1) (by omega) (by omega)
theorem c_told {T : Nat} {v : Nat → Int32} {h : HP} {f : Nat} (wf : WF T v) (r : R h 1 v) (s : SVv v h) (hf : f < TOT v) : f_X10_isToldRight (nI f) h = some (bI (trV v f)) := by
  have p3 : TOT v ≤ 3810 := (FM_tot wf.1.fm).2.1
  have l68 : ln 68 = 3810 := by decide
  have eh : f_X7_howIs (nI f) h = nI (hwN v f) := by
    rw [f_X7_howIs, at_n (by omega), s.2.2 f hf]
    rfl
  have hl : hwN v f ≤ 3 := how_le
  have key : f_X10_isToldRight_L23 FU (nI f) (nI (hwN v f)) (if nI (hwN v f) = (3 : Int32) then (0 : Int32) else (1 : Int32)) (0 : Int32) h = some (bI (trV v f)) := by
    unfold trV
    by_cases q3 : hwN v f = 3
    · rw [q3, if_pos (show nI 3 = (3 : Int32) from rfl), decide_eq_false (fun e => e rfl), Bool.false_and]
      show f_X10_isToldRight_L23 (999999 + 1) (nI f) (nI 3) 0 0 h = _
      rw [f_X10_isToldRight_L23, if_neg (by decide), if_pos rfl]
      rfl
    · rw [if_neg (show ¬ nI (hwN v f) = (3 : Int32) from fun e => q3 ((nI_eq (b := 3) (by omega) (by decide)).mp e)), decide_eq_true q3, Bool.true_and]
      by_cases q2 : hwN v f = 2
      · rw [q2]
        exact c_tr_L23 wf r hf q2 4 FU 0 rfl (by decide)
      · rw [tkA_true q2]
        show f_X10_isToldRight_L23 (999999 + 1) (nI f) (nI (hwN v f)) 1 0 h = _
        rw [f_X10_isToldRight_L23, if_neg (by decide), if_neg (by decide), if_neg (show ¬ nI (hwN v f) = (2 : Int32) from fun e => q2 ((nI_eq (b := 2) (by omega) (by decide)).mp e))]
        rfl
  rw [f_X10_isToldRight, eh, tb_s, ob_e key, gd_t (by cases trV v f <;> decide)]
theorem m_tr_L39 {T : Nat} {v : Nat → Int32} {q : HP} {f : Nat} (wf : WF T v) (eq : E6 (q 71) v) (mb : MB (q 71) (lyV v (-5)) q) (hf : f < TOT v) (h3 : hwN v f ≠ 3) : ∀ d n p, p + d = 4 → d < n → f_X11_right_L39 n (nI f) (bI (tkA v f p)) (nI p) q = some (bI (tkA v f 4)) := by
  have p3 : TOT v ≤ 3810 := (FM_tot wf.1.fm).2.1
  intro d
  induction d with
  | zero =>
    intro n p hp hn
    obtain ⟨n, rfl⟩ : ∃ n', n = n' + 1 := ⟨n - 1, by omega⟩
    have : p = 4 := by omega
    subst this
    rw [f_X11_right_L39, if_pos (by decide)]
  | succ d ih =>
    intro n p hp hn
    obtain ⟨n, rfl⟩ : ∃ n', n = n' + 1 := ⟨n - 1, by omega⟩
    rw [f_X11_right_L39, if_neg (show ¬ (4 : Int32) ≤ nI p from nI_ge (b := 4) (by omega) (by decide))]
    cases hb : tkA v f p with
    | false =>
      have := tkA_mono hb (d + 1)
      rw [show p + (d + 1) = 4 by omega] at this
      rw [if_pos (show bI false = 0 by decide), this]
    | true =>
      have s0 := (sN_n (f := f) (q := p) wf.2.2.2).1
      have s1 := tdN_lt (f := f) (p := p) wf.2.2.2
      have enx : tkA v f (p + 1) = decide (tdN v f p = sN v f p) := by rw [tkA, hb, Bool.true_and]
      rw [if_neg (show ¬ bI true = 0 by decide), ob_e (m_told wf eq mb hf (by omega) h3), ob_e (m_st wf eq (by omega) (by omega)), eq_b (by omega) (by omega), tb_s, nI_1, ← enx]
      exact ih n (p + 1) (by omega) (by omega)
def dtF (f : Nat) : Bool := decide (f % 5 ≠ 4)
def rtF (v : Nat → Int32) (f : Nat) : Bool := dtF f && trV v f
theorem c_right_L30 {T : Nat} {v : Nat → Int32} {h : HP} (wf : WF T v) (r : R h 1 v) (s : SVv v h) : ∀ d n k, k + d = TOT v → d < n → f_X10_right_L30 n (nI (cnt dtF k)) (nI (cnt (rtF v) k)) (nI (TOT v)) (nI k) h = some (nI (cnt dtF (TOT v)), nI (cnt (rtF v) (TOT v))) := by
  have p3 : TOT v ≤ 3810 := (FM_tot wf.1.fm).2.1
  intro d
  induction d with
  | zero =>
    intro n k hk hn
    obtain ⟨n, rfl⟩ : ∃ n', n = n' + 1 := ⟨n - 1, by omega⟩
    have : k = TOT v := by omega
    rw [f_X10_right_L30, if_pos (nI_le (by omega) (by omega)), this]
  | succ d ih =>
    intro n k hk hn
    obtain ⟨n, rfl⟩ : ∃ n', n = n' + 1 := ⟨n - 1, by omega⟩
    have hi := ih n (k + 1) (by omega) (by omega)
    rw [f_X10_right_L30, if_neg (nI_ge (by omega) (by omega)), c_isCheck (by omega), nI_1 k]
    rw [cnt, cnt] at hi
    by_cases q4 : k % 5 = 4
    · have e1 : dtF k = false := decide_eq_false (fun e => e q4)
      have e2 : rtF v k = false := by rw [rtF, e1, Bool.false_and]
      rw [e1, e2] at hi
      rw [if_pos q4, if_neg (show ¬ (1 : Int32) = 0 by decide), ob_s]
      exact hi
    · have e1 : dtF k = true := decide_eq_true q4
      have e2 : rtF v k = trV v k := by rw [rtF, e1, Bool.true_and]
      rw [e1, e2] at hi
      rw [if_neg q4, if_pos rfl, ob_e (c_told wf r s (by omega)), tb_s, ob_s]
      dsimp only
      rw [nI_1]
      have : nI (cnt (rtF v) k) + (if bI (trV v k) = 0 then (0 : Int32) else (1 : Int32)) = nI (cnt (rtF v) k + (trV v k).toNat) := by
        cases trV v k with
        | false =>
          rw [if_pos (show bI false = 0 by decide), Int32.add_zero]
          rfl
        | true =>
          rw [if_neg (show ¬ bI true = 0 by decide), nI_1]
          rfl
      rw [this]
      exact hi
theorem m_right_L12 {T : Nat} {v : Nat → Int32} {q : HP} (wf : WF T v) (eq : E6 (q 71) v) (mb : MB (q 71) (lyV v (-5)) q) : ∀ d n k, k + d = TOT v → d < n → f_X11_right_L12 n (nI (cnt dtF k)) (nI (cnt (rtF v) k)) (nI k) q = some (nI (cnt dtF (TOT v)), nI (cnt (rtF v) (TOT v))) := by
  have p3 : TOT v ≤ 3810 := (FM_tot wf.1.fm).2.1
  have fr : f_X11_frames q = nI (TOT v) := by
    rw [m_frames]
    exact c_allFrames (eq.ge wf.1)
  intro d
  induction d with
  | zero =>
    intro n k hk hn
    obtain ⟨n, rfl⟩ : ∃ n', n = n' + 1 := ⟨n - 1, by omega⟩
    have : k = TOT v := by omega
    rw [f_X11_right_L12, fr, if_pos (nI_le (by omega) (by omega)), this]
  | succ d ih =>
    intro n k hk hn
    obtain ⟨n, rfl⟩ : ∃ n', n = n' + 1 := ⟨n - 1, by omega⟩
    have hi := ih n (k + 1) (by omega) (by omega)
    have hl : hwN v k ≤ 3 := how_le
    have key : f_X11_right_L39 FU (nI k) (if (3 : Int32) ≤ nI (hwN v k) then (0 : Int32) else (1 : Int32)) (0 : Int32) q = some (bI (trV v k)) := by
      unfold trV
      by_cases q3 : hwN v k = 3
      · rw [q3, if_pos (show (3 : Int32) ≤ nI 3 by decide), decide_eq_false (fun e => e rfl), Bool.false_and]
        show f_X11_right_L39 (999999 + 1) (nI k) 0 0 q = _
        rw [f_X11_right_L39, if_neg (by decide), if_pos rfl]
        rfl
      · rw [if_neg (show ¬ (3 : Int32) ≤ nI (hwN v k) from nI_ge (b := 3) (by omega) (by decide)), decide_eq_true q3, Bool.true_and]
        exact m_tr_L39 wf eq mb (by omega) q3 4 FU 0 rfl (by decide)
    rw [f_X11_right_L12, fr, if_neg (nI_ge (by omega) (by omega)), ob_e (m_hw wf eq mb (by omega)), tb_s, ob_e key, m_isCheck, c_isCheck (by omega), nI_1 k]
    rw [cnt, cnt] at hi
    by_cases q4 : k % 5 = 4
    · have e1 : dtF k = false := decide_eq_false (fun e => e q4)
      have e2 : rtF v k = false := by rw [rtF, e1, Bool.false_and]
      rw [e1, e2] at hi
      rw [if_pos q4, if_neg (show ¬ (1 : Int32) = 0 by decide), tb_s, Int32.add_zero]
      have : (if bI (trV v k) = 0 then (0 : Int32) else (0 : Int32)) = 0 := by split <;> rfl
      rw [this, Int32.add_zero, tb_s]
      exact hi
    · have e1 : dtF k = true := decide_eq_true q4
      have e2 : rtF v k = trV v k := by rw [rtF, e1, Bool.true_and]
      rw [e1, e2] at hi
      rw [if_neg q4, if_pos rfl, tb_s, nI_1]
      have : nI (cnt (rtF v) k) + (if bI (trV v k) = 0 then (0 : Int32) else (1 : Int32)) = nI (cnt (rtF v) k + (trV v k).toNat) := by
        cases trV v k with
        | false =>
          rw [if_pos (show bI false = 0 by decide), Int32.add_zero]
          rfl
        | true =>
          rw [if_neg (show ¬ bI true = 0 by decide), nI_1]
          rfl
      rw [this, tb_s]
      exact hi
theorem cnt_mono {p : Nat → Bool} {m : Nat} : ∀ j, cnt p m ≤ cnt p (m + j) := by
  intro j
  induction j with
  | zero => exact Nat.le_refl _
  | succ j ih =>
    show _ ≤ cnt p (m + j) + _
    omega
theorem two_right {T : Nat} {h : HP} (inv : Inv T h) : TwoD T h f_X10_right f_X11_right := by
  obtain ⟨v, n, H, kb, kv, L, tx, ki, mi, wa⟩ := inv
  have wf := wa.1
  have ws := wf.1
  have wc := wf.2.2.1
  have hT := FM_tot ws.fm
  have p3 : TOT v ≤ 3810 := hT.2.1
  have p0 : 240 ≤ TOT v := hT.1
  have d1 : 1 ≤ cnt dtF (TOT v) := by
    have := cnt_mono (p := dtF) (m := 1) (TOT v - 1)
    rw [show 1 + (TOT v - 1) = TOT v by omega, show cnt dtF 1 = 1 by decide] at this
    exact this
  have d2 := cnt_le dtF (TOT v)
  have d3 := cnt_le (rtF v) (TOT v)
  have dk := ddiv_ok (a := cnt (rtF v) (TOT v)) (b := cnt dtF (TOT v)) (by omega) (by omega) d1
  obtain ⟨h1, o1, o2, o3⟩ := c_of ws wc ki.1.1 ki.1.2.2.1 ki.2.1
  have r1 : R h1 1 v := ki.1.of (fun a h1 h2 => o3 a (by omega))
  have caf : f_X5_allFrames 2 h = nI (TOT v) := c_allFrames (ws.ge ki.1.1)
  have lc := c_right_L30 wf r1 o2 (TOT v) FU 0 (by omega) (Nat.lt_of_le_of_lt p3 (by decide))
  have lc' : f_X10_right_L30 FU (0 : Int32) (0 : Int32) (nI (TOT v)) (0 : Int32) h1 = some (nI (cnt dtF (TOT v)), nI (cnt (rtF v) (TOT v))) := lc
  refine two_queryD (r := FP.ddiv (FP.i2d (nI (cnt (rtF v) (TOT v)))) (FP.i2d (nI (cnt dtF (TOT v))))) (h1 := h1) dk ki mi wa ?_ ⟨v, ws, wc, o2⟩ (fun o ho => o3 o (by omega)) (fun g eg wg rg => ?_)
  · rw [f_X10_right, ob_e o1, caf]
    refine (ob_e lc').trans ?_
    dsimp only
    rw [if_neg (nI_ne0 (by omega) (by omega)), gd_t dk]
  · have mb := m_MB (x := -5) (h := g) rfl
    rw [(eg.lk wc).ly] at mb
    have e71 : sR g 76 (lyR (g 71) (-5) (TOT (g 71)) (g 76)) 71 = g 71 := sR_o (by decide)
    have lm := m_right_L12 (q := sR g 76 (lyR (g 71) (-5) (TOT (g 71)) (g 76))) wf (by rw [e71]; exact eg) (by rw [e71]; exact mb) (TOT v) FU 0 (by omega) (Nat.lt_of_le_of_lt p3 (by decide))
    have lm' : f_X11_right_L12 FU (0 : Int32) (0 : Int32) (0 : Int32) (sR g 76 (lyR (g 71) (-5) (TOT (g 71)) (g 76))) = some (nI (cnt dtF (TOT v)), nI (cnt (rtF v) (TOT v))) := lm
    refine ⟨sR g 76 (lyR (g 71) (-5) (TOT (g 71)) (g 76)), ?_, by rw [e71]; exact eg, fun o _ _ h3 => sR_o h3⟩
    rw [f_X11_right, ob_e (m_lay wg.1 wg.2.2.1 rfl)]
    refine (ob_e lm').trans ?_
    dsimp only
    rw [gd_t dk]
