/-! isWholeSo -/
theorem one_all : ∀ F, F < 33 → ∀ M, M < 7 → dcl (FP.ddiv (FP.i2d (nI ((30 * (F + 8) + 435 * M) / 5 * 4))) (FP.i2d (nI ((30 * (F + 8) + 435 * M) / 5 * 4)))) FP.dconst1 = 0 := by decide +kernel
theorem dt_cnt : ∀ g, cnt dtF (5 * g) = 4 * g := by
  intro g
  induction g with
  | zero => rfl
  | succ g ih =>
    have e : ∀ i, i < 4 → dtF (5 * g + i) = true := fun i hi => decide_eq_true (by omega)
    have e4 : dtF (5 * g + 4) = false := decide_eq_false (by omega)
    show cnt dtF (5 * g + 1 + 1 + 1 + 1 + 1) = _
    rw [cnt, cnt, cnt, cnt, cnt, ih, show dtF (5 * g) = true from e 0 (by decide), show dtF (5 * g + 1) = true from e 1 (by decide), show dtF (5 * g + 1 + 1) = true from e 2 (by decide), show dtF (5 * g + 1 + 1 + 1) = true from e 3 (by decide), show dtF (5 * g + 1 + 1 + 1 + 1) = false from e4]
    show 4 * g + 1 + 1 + 1 + 1 + 0 = _
    omega
theorem wh_0 {T : Nat} {v : Nat → Int32} (wf : WF T v) (h0 : N v 12 = 0) : (∀ f, lyV v (-5) f = false) ∧ cH v 0 = TOT v ∧ ∀ f, rtF v f = dtF f := by
  have hl : ∀ f, lyV v (-5) f = false := fun f => by
    unfold lyV
    rw [h0]
    rfl
  have hw : ∀ f, hwN v f = 0 := fun f => how_0.mpr (hl f)
  refine ⟨hl, ?_, fun f => ?_⟩
  · have z : ∀ n, cnt (lyV v (-5)) n = 0 := by
      intro n
      induction n with
      | zero => rfl
      | succ n ih =>
        rw [cnt, ih, hl]
        rfl
    have := cH_0 (v := v)
    rw [z] at this
    omega
  · unfold rtF trV
    rw [hw f, tkA_true (by rw [hw f]; decide)]
    cases dtF f <;> rfl
theorem cnt_ext {p q : Nat → Bool} (h : ∀ f, p f = q f) : ∀ n, cnt p n = cnt q n := by
  intro n
  induction n with
  | zero => rfl
  | succ n ih => rw [cnt, cnt, ih, h n]
theorem wh_right {T : Nat} {v : Nat → Int32} (wf : WF T v) (h0 : N v 12 = 0) : dcl (FP.ddiv (FP.i2d (nI (cnt (rtF v) (TOT v)))) (FP.i2d (nI (cnt dtF (TOT v))))) FP.dconst1 = 0 := by
  have ws := wf.1
  have t := wf.t3
  have eT : TOT v = 30 * N v 0 + 435 * N v 1 := STn_30 _ _
  have hF := ws.fm
  have e1 : cnt dtF (TOT v) = TOT v / 5 * 4 := by
    have := dt_cnt (TOT v / 5)
    rw [show 5 * (TOT v / 5) = TOT v by omega] at this
    omega
  rw [cnt_ext (wh_0 wf h0).2.2, e1, eT]
  have := one_all (N v 0 - 8) (by have := hF.1; have := hF.2.1; omega) (N v 1) (by have := hF.2.2; omega)
  rw [show N v 0 - 8 + 8 = N v 0 by have := hF.1; omega] at this
  exact this
theorem wh_L139 {T : Nat} {v : Nat → Int32} {l : List (Nat → Int32)} (wf : WF T v) : ∀ d n t h, t + d = 30 → d < n → KS h v l → ∃ h', f_L_isWholeSo_L139 n (1 : Int32) (nI (STn (N v 0) (N v 1) t)) (nI (cnt (lyV v (-5)) (STn (N v 0) (N v 1) t))) (nI t) h = some ((1 : Int32), nI (TOT v), nI (cnt (lyV v (-5)) (TOT v)), h') ∧ KS h' v l := by
  intro d
  induction d with
  | zero =>
    intro n t h ht hn k
    obtain ⟨n, rfl⟩ : ∃ n', n = n' + 1 := ⟨n - 1, by omega⟩
    have : t = 30 := by omega
    subst this
    rw [f_L_isWholeSo_L139, if_pos (show (30 : Int32) ≤ nI 30 by decide)]
    exact ⟨h, rfl, k⟩
  | succ d ih =>
    intro n t h ht hn k
    obtain ⟨n, rfl⟩ : ∃ n', n = n' + 1 := ⟨n - 1, by omega⟩
    have tt := wf.t3
    have hst := FM_st (t := t) wf.1.fm (by omega)
    have hfo := FM_fo (t := t) wf.1.fm (by omega)
    have in1 : Gl (if (1 : Int32) = 0 then
        some ((0 : Int32), h)
      else
        ob (f_X10_turn (nI t) (1 : Int32) h) (fun q154 =>
        if q154.1 = nI (STn (N v 0) (N v 1) t) then
          ob (f_X10_turn (nI t) (0 : Int32) q154.2) (fun q165 =>
          ob (f_X10_count (17 : Int32) q165.2) (fun q171 =>
          ob (f_X10_count (18 : Int32) q171.2) (fun q179 =>
          if q165.1 = (q171.1 + (nI t * q179.1)) then
            some ((1 : Int32), q179.2)
          else
            some ((0 : Int32), q179.2))))
        else
          some ((0 : Int32), q154.2))) v l (1 : Int32) := by
      rw [if_neg (show ¬ (1 : Int32) = 0 by decide)]
      refine (q_t1 wf (show t < 30 by omega) h l k).go (fun h k => ?_)
      dsimp only
      rw [if_pos rfl]
      refine (q_t0 wf (show t < 30 by omega) h l k).go (fun h k => ?_)
      dsimp only
      have g0 : Gl (f_X10_count (17 : Int32) h) v l (nI (N v 0)) := q_cs (w := 0) wf (by decide) h l k
      refine g0.go (fun h k => ?_)
      dsimp only
      have g1 : Gl (f_X10_count (18 : Int32) h) v l (nI (N v 1)) := q_cs (w := 1) wf (by decide) h l k
      refine g1.go (fun h k => ?_)
      dsimp only
      rw [pk_mul, nI_add, Nat.mul_comm t, if_pos rfl]
      exact Gl.fin k
    rw [f_L_isWholeSo_L139, if_neg (show ¬ (30 : Int32) ≤ nI t from nI_ge (b := 30) (by omega) (by decide))]
    obtain ⟨h1, e1, k1⟩ := in1
    rw [ob_e e1]
    dsimp only
    obtain ⟨h2, e2, k2⟩ := q_t0 wf (show t < 30 by omega) h1 l k1
    rw [ob_e e2]
    dsimp only
    obtain ⟨h3, e3, k3⟩ := q_t2 wf (show t < 30 by omega) h2 l k2
    rw [ob_e e3]
    dsimp only
    have ec := cnt_add (p := lyV v (-5)) (a := STn (N v 0) (N v 1) t) (N v 0 + N v 1 * t)
    rw [nI_add, nI_add, nI_1, ← ec]
    exact ih n (t + 1) h3 (by omega) (by omega) k3
theorem wh_main {T : Nat} {v : Nat → Int32} {l : List (Nat → Int32)} (p : PV T v) (hT : T < 2 ^ 31) {h : HP} (k : KS h v l) : Gl (f_L_isWholeSo h) v l (1 : Int32) := by
  have wf := p.1
  obtain ⟨b1, b2, b3, b4⟩ := p.2
  have t := wf.t3
  have wh := wf.2.1
  have hF := wf.1.fm
  have c4 := cH_4 (v := v)
  have c0 := cH_0 (v := v)
  have k0 := wh.2.2.1.2.1
  have s2 := wh.2.1.2.1
  have p6 : N v 6 ≤ TOT v := wh.1.2.1
  have n45 := wf.2.2.2.1.2.1
  have n12 := wf.2.2.1.1.2.1
  rw [f_L_isWholeSo]
  refine (q_c0 wf h l k).go (fun h k => ?_)
  dsimp only
  refine (q_c10 wf h l k).go (fun h k => ?_)
  dsimp only
  refine (q_c11 wf h l k).go (fun h k => ?_)
  dsimp only
  refine (q_c12 wf h l k).go (fun h k => ?_)
  dsimp only
  refine (q_c13 wf h l k).go (fun h k => ?_)
  dsimp only
  refine Gl.go (r := (1 : Int32)) (v := v) (l := l) ?_ (fun h k => ?_)
  · rw [nI_add, nI_add, nI_add, if_pos (show nI (cH v 0 + cH v 1 + cH v 2 + cH v 3) = nI (TOT v) by rw [c4])]
    refine (q_c1 wf h l k).go (fun h k => ?_)
    dsimp only
    rw [lit_n 5, pk_div (by omega) (by decide) (by decide), if_pos rfl]
    refine (q_c14 wf h l k).go (fun h k => ?_)
    dsimp only
    rw [if_neg (show ¬ (40 : Int32) < nI (N v 45) from nI_nlt (a := 40) n45 (by decide))]
    refine (q_c8 wf h l k).go (fun h k => ?_)
    dsimp only
    refine (q_c7 wf h l k).go (fun h k => ?_)
    dsimp only
    rw [if_neg (nI_nlt b1 (by omega))]
    refine (q_c7 wf h l k).go (fun h k => ?_)
    dsimp only
    refine (q_c6 wf h l k).go (fun h k => ?_)
    dsimp only
    rw [if_neg (nI_nlt b2 (by omega))]
    refine (q_c3 wf h l k).go (fun h k => ?_)
    dsimp only
    rw [if_neg (nI_nlt p6 (by omega))]
    refine (q_c2 wf h l k).go (fun h k => ?_)
    dsimp only
    by_cases q : N v 12 = 0
    · have w0 := wh_0 wf q
      rw [if_neg (show ¬ 0 < nI (N v 12) by rw [q]; decide)]
      refine (q_c10 wf h l k).go (fun h k => ?_)
      dsimp only
      rw [if_pos (show nI (cH v 0) = nI (TOT v) by rw [w0.2.1])]
      refine (q_right wf h l k).go (fun h k => ?_)
      dsimp only
      rw [if_pos (wh_right wf q)]
      exact Gl.fin k
    · rw [if_pos (show 0 < nI (N v 12) from nI_lt (a := 0) (by omega) (by omega))]
      exact Gl.fin k
  dsimp only
  obtain ⟨h', e', k'⟩ := wh_L139 wf 30 FU 0 h rfl (by decide) k
  have e' : f_L_isWholeSo_L139 FU (1 : Int32) (0 : Int32) (0 : Int32) (0 : Int32) h = some ((1 : Int32), nI (TOT v), nI (cnt (lyV v (-5)) (TOT v)), h') := e'
  rw [ob_e e']
  dsimp only
  rw [if_neg (show ¬ (1 : Int32) = 0 by decide), if_pos rfl]
  refine (q_c10 wf h' l k').go (fun h k => ?_)
  dsimp only
  rw [pk_sub (by omega), if_pos (show nI (cnt (lyV v (-5)) (TOT v)) = nI (TOT v - cH v 0) by congr 1; omega)]
  refine (q_c5 wf h l k).go (fun h k => ?_)
  dsimp only
  have g0 : Gl (f_X10_count (17 : Int32) h) v l (nI (N v 0)) := q_cs (w := 0) wf (by decide) h l k
  refine g0.go (fun h k => ?_)
  dsimp only
  rw [if_neg (nI_nlt b3 (by omega))]
  refine (q_c5 wf h l k).go (fun h k => ?_)
  dsimp only
  have g0 : Gl (f_X10_count (17 : Int32) h) v l (nI (N v 0)) := q_cs (w := 0) wf (by decide) h l k
  refine g0.go (fun h k => ?_)
  dsimp only
  have g1 : Gl (f_X10_count (18 : Int32) h) v l (nI (N v 1)) := q_cs (w := 1) wf (by decide) h l k
  refine g1.go (fun h k => ?_)
  dsimp only
  have m1 := hF.2.2
  have m0 := hF.2.1
  rw [lit_n 29, pk_mul, nI_add, if_neg (nI_nlt b4 (by omega))]
  exact Gl.fin k
/-! isGapSo -/
theorem gp_L13 {T : Nat} {v : Nat → Int32} {l : List (Nat → Int32)} (wf : WF T v) : ∀ d n q h, q + d = TOT v → d < n → KS h v l → ∃ h', f_L_isGapSo_L13 n (gpS (gpN (fun f => decide (hwN v f = 3)) q)) (nI (gpN (fun f => decide (hwN v f = 3)) q).1) (nI (gpN (fun f => decide (hwN v f = 3)) q).2.2) (nI (cnt (fun f => decide (hwN v f = 3)) q)) (nI q) h = some (gpS (gpN (fun f => decide (hwN v f = 3)) (TOT v)), nI (gpN (fun f => decide (hwN v f = 3)) (TOT v)).1, nI (cnt (fun f => decide (hwN v f = 3)) (TOT v)), h') ∧ KS h' v l := by
  have t := wf.t3
  intro d
  induction d with
  | zero =>
    intro n q h hq hn k
    obtain ⟨n, rfl⟩ : ∃ n', n = n' + 1 := ⟨n - 1, by omega⟩
    have : q = TOT v := by omega
    subst this
    obtain ⟨h1, e1, k1⟩ := q_c0 wf h l k
    rw [f_L_isGapSo_L13, ob_e e1]
    dsimp only
    rw [if_pos (nI_le (Nat.le_refl _) (by omega))]
    exact ⟨h1, rfl, k1⟩
  | succ d ih =>
    intro n q h hq hn k
    obtain ⟨n, rfl⟩ : ∃ n', n = n' + 1 := ⟨n - 1, by omega⟩
    obtain ⟨h1, e1, k1⟩ := q_c0 wf h l k
    obtain ⟨h2, e2, k2⟩ := q_f5 wf (show q < TOT v by omega) h1 l k1
    have hl : hwN v q ≤ 3 := how_le
    have B := gpN_le (p := fun f => decide (hwN v f = 3)) q
    rw [f_L_isGapSo_L13, ob_e e1]
    dsimp only
    rw [if_neg (nI_ge (by omega) (by omega)), ob_e e2]
    dsimp only
    have IH := ih n (q + 1) h2 (by omega) (by omega) k2
    have e39 : (if nI (hwN v q) = (3 : Int32) then (1 : Int32) else (0 : Int32)) = bI (decide (hwN v q = 3)) := by
      by_cases c : hwN v q = 3
      · rw [if_pos (show nI (hwN v q) = (3 : Int32) by rw [c]; rfl), decide_eq_true c]
        rfl
      · rw [if_neg (show ¬ nI (hwN v q) = (3 : Int32) from fun e => c ((nI_eq (b := 3) (by omega) (by decide)).mp e)), decide_eq_false c]
        rfl
    rw [e39, tb_s]
    have ecn : nI (cnt (fun f => decide (hwN v f = 3)) q) + (if bI (decide (hwN v q = 3)) = 0 then (0 : Int32) else (1 : Int32)) = nI (cnt (fun f => decide (hwN v f = 3)) (q + 1)) := by
      rw [cnt]
      cases decide (hwN v q = 3) with
      | false =>
        rw [if_pos (by decide), Int32.add_zero]
        rfl
      | true =>
        rw [if_neg (by decide), nI_1]
        rfl
    have ero : (if bI (decide (hwN v q = 3)) = 0 then (0 : Int32) else (nI (gpN (fun f => decide (hwN v f = 3)) q).2.2 + (1 : Int32))) = nI (if (decide (hwN v q = 3)) = true then (gpN (fun f => decide (hwN v f = 3)) q).2.2 + 1 else 0) := by
      cases decide (hwN v q = 3) with
      | false =>
        rw [if_pos (by decide), if_neg (by decide)]
        rfl
      | true => rw [if_neg (by decide), if_pos rfl, nI_1]
    rw [ecn, tb_s, ero, tb_s]
    rw [gpN] at IH
    have hr : (if (decide (hwN v q = 3)) = true then (gpN (fun f => decide (hwN v f = 3)) q).2.2 + 1 else 0) ≤ q + 1 := by
      split <;> omega
    generalize hR : (if (decide (hwN v q = 3)) = true then (gpN (fun f => decide (hwN v f = 3)) q).2.2 + 1 else 0) = r at *
    by_cases c : r ≤ (gpN (fun f => decide (hwN v f = 3)) q).1
    · rw [if_pos c] at IH
      rw [if_pos (nI_le c (by omega)), if_pos (nI_le c (by omega)), tb_s, nI_1]
      exact IH
    · rw [if_neg c] at IH
      have e3 : ¬ nI r ≤ nI (gpN (fun f => decide (hwN v f = 3)) q).1 := fun e => c ((nI_leI (by omega) (by omega)).mp e)
      rw [if_neg e3, if_neg e3, tb_s, nI_1, gp_st hr]
      have e4 : gpS (r, q + 1 - r, r) = nI (q + 1 - r) := by
        unfold gpS
        rw [if_neg (show ¬ r = 0 by omega)]
      rw [e4] at IH
      exact IH
theorem gp_main {T : Nat} {v : Nat → Int32} {l : List (Nat → Int32)} (wf : WF T v) {h : HP} (k : KS h v l) : Gl (f_L_isGapSo h) v l (1 : Int32) := by
  have t := wf.t3
  have B := gpN_le (p := fun f => decide (hwN v f = 3)) (TOT v)
  have eg : gpV v = gpN (fun f => decide (hwN v f = 3)) (TOT v) := rfl
  have qg := q_gap wf
  rw [eg] at qg
  rw [f_L_isGapSo]
  obtain ⟨h', e', k'⟩ := gp_L13 wf (TOT v) FU 0 h (by omega) (Nat.lt_of_le_of_lt t.2.1 (by decide)) k
  have e' : f_L_isGapSo_L13 FU (-5 : Int32) (0 : Int32) (0 : Int32) (0 : Int32) (0 : Int32) h = some (gpS (gpN (fun f => decide (hwN v f = 3)) (TOT v)), nI (gpN (fun f => decide (hwN v f = 3)) (TOT v)).1, nI (cnt (fun f => decide (hwN v f = 3)) (TOT v)), h') := e'
  rw [ob_e e']
  dsimp only
  generalize gpN (fun f => decide (hwN v f = 3)) (TOT v) = G at *
  refine (q_c13 wf h' l k').go (fun h k => ?_)
  dsimp only
  rw [if_pos (show nI (cnt (fun f => decide (hwN v f = 3)) (TOT v)) = nI (cH v 3) from rfl)]
  refine (qg.1 h l k).go (fun h k => ?_)
  dsimp only
  rw [if_pos (show (if G.1 = 0 then (-5 : Int32) else nI G.2.1) = gpS G from rfl)]
  refine (qg.2 h l k).go (fun h k => ?_)
  dsimp only
  have e2 : (if nI G.1 = 0 then (-5 : Int32) else nI G.1) = if G.1 = 0 then (-5 : Int32) else nI G.1 := by
    by_cases c : G.1 = 0
    · rw [if_pos c, if_pos (show nI G.1 = 0 by rw [c]; rfl)]
    · rw [if_neg c, if_neg (nI_ne0 (by omega) (by omega))]
  rw [e2, if_pos rfl]
  exact Gl.fin k
