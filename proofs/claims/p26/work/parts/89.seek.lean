/-! isSeekSo -/
theorem Gl.at {α : Type} {X : Option (α × HP)} {v : Nat → Int32} {l : List (Nat → Int32)} {r r' : α} (g : Gl X v l r) (e : r = r') : Gl X v l r' := e ▸ g
theorem up4 {v : Nat → Int32} {k i : Nat} (h : i ≠ 4) : N (stV v 4 k) i = N v i := by
  unfold stV
  rw [if_pos (by decide)]
  exact N_up h
theorem up4_4 {v : Nat → Int32} {k : Nat} (h : k < 2 ^ 31) : N (stV v 4 k) 4 = k := by
  unfold stV
  rw [if_pos (by decide)]
  exact N_ups h
theorem up4_t {v : Nat → Int32} {k g f : Nat} : tK (stV v 4 k) g f = tK v g f ∧ TOT (stV v 4 k) = TOT v := by
  constructor
  · unfold tK
    rw [up4 (by decide), up4 (by decide), up4 (by decide), up4 (by decide), up4 (by decide), up4 (by decide), up4 (by decide), up4 (by decide), up4 (by decide)]
  · unfold TOT
    rw [up4 (by decide), up4 (by decide)]
theorem sk_try {T : Nat} {v : Nat → Int32} {f k : Nat} {h : HP} {X : Int32} (hT : T < 2 ^ 31) (wf : WF T v) (hf : f < TOT v) (k1 : 60 ≤ k) (k2 : k ≤ 140) (hX : 0 ≤ X) (ks : KS h v []) : ∃ r1 h1 h2 m h3, f_X10_set (4 : Int32) (nI k) h = some (r1, h1) ∧ f_X10_ifSought (nI f) (0 : Int32) h1 = some (nI (tK v k f - N v 8), h2) ∧ (if r1 < 0 then some (X, h2) else ob (f_X10_undo h2) (fun q156 => some (q156.1, q156.2))) = some (m, h3) ∧ 0 ≤ m ∧ KS h3 v [] := by
  rcases a_set (w := 4) hT wf (by decide) k1 k2 with ⟨q, a⟩ | ⟨q, wf', a⟩
  · obtain ⟨h1, e1, s1⟩ := a h [] ks
    obtain ⟨h2, e2, s2⟩ := q_if0 wf hf h1 [] s1
    rw [q] at e2
    exact ⟨-5, h1, h2, X, h2, e1, e2, if_pos (by decide), hX, s2⟩
  · obtain ⟨h1, e1, s1⟩ := a h [] (by decide) ks
    obtain ⟨h2, e2, s2⟩ := q_if0 wf' (show f < TOT (stV v 4 k) by rw [(up4_t (g := 0) (f := 0)).2]; exact hf) h1 _ s1
    rw [up4_4 (by omega), up4_t.1, up4 (by decide)] at e2
    obtain ⟨m, hm, h3, e3, s3⟩ := q_undo wf s2
    have h4 := (isN6 wf.1 (w := 4) (by decide)).2
    refine ⟨nI (N v 4), h1, h2, nI m, h3, e1, e2, ?_, nI_pos' (by omega), s3⟩
    rw [if_neg (nI_pos (by omega)), ob_e e3]
theorem sk_main {T : Nat} {v : Nat → Int32} {f g : Nat} {h : HP} (hT : T + 10000 < 2 ^ 31) (wf : WF T v) (hf : f < TOT v) (g1 : 60 ≤ g) (g2 : g ≤ 140) (k : KS h v []) : Gl (f_L_isSeekSo (nI f) (nI g) h) v [] (1 : Int32) := by
  have t := wf.t3
  have ws := wf.1
  have wh := wf.2.1
  have v1 : 60 ≤ N v 4 := ws.2.2.2.2.1.1
  have v2 : N v 4 ≤ 140 := ws.2.2.2.2.1.2.1
  obtain ⟨b1, b2, b3, b4⟩ := bg_least (v := v) (f := f) 80
  have B := t_B wf hf v1 v2
  have Bb := t_B wf hf b1 b2
  have Bg := t_B wf hf g1 g2
  have k0 := wh.2.2.1.2.1
  have j0 := wh.2.2.2.2.2.2.1
  have l1 := (b4 (N v 4) v1 v2).1
  have l2 := b4 g g1 g2
  rw [b3] at l1 l2
  obtain ⟨wf', as⟩ := a_seek hT wf hf
  have n := skW_n hT wf hf
  have tot : TOT (skW v f) = TOT v := by
    unfold TOT
    rw [N_eq (n.2.2.2.2 0 (by decide)), N_eq (n.2.2.2.2 1 (by decide))]
  rw [f_L_isSeekSo]
  refine (q_if0 wf hf h _ k).go (fun h k => ?_)
  dsimp only
  refine (q_if1 wf hf h _ k).go (fun h k => ?_)
  dsimp only
  refine (q_best wf hf h _ k).go (fun h k => ?_)
  dsimp only
  have c21 : ∀ h, KS h v [] → Gl (f_X10_count (21 : Int32) h) v [] (nI (N v 4)) := fun h k => q_cs (w := 4) wf (by decide) h [] k
  refine (c21 h k).go (fun h k => ?_)
  dsimp only
  refine (q_c6 wf h _ k).go (fun h k => ?_)
  dsimp only
  refine (q_c9 wf h _ k).go (fun h k => ?_)
  dsimp only
  refine Gl.go (r := (1 : Int32)) (v := skW v f) (l := [v]) ?_ (fun h k => ?_)
  · rw [if_neg (show ¬ nI (bgB v f 80).1 < (60 : Int32) from nI_nlt (b := 60) b1 (by omega)), if_neg (show ¬ (140 : Int32) < nI (bgB v f 80).1 from nI_nlt (b := (bgB v f 80).1) (a := 140) b2 (by decide))]
    refine (as h _ (by decide) k).go (fun h k => ?_)
    dsimp only
    rw [if_pos rfl]
    refine (q_c3 wf' h _ k).go (fun h k => ?_)
    dsimp only
    rw [n.1, if_pos rfl]
    refine (q_c4 wf' h _ k).go (fun h k => ?_)
    dsimp only
    refine (q_f0 wf' (show f < TOT (skW v f) by omega) h _ k).go (fun h k => ?_)
    dsimp only
    rw [n.1, if_pos rfl]
    refine (q_c6 wf' h _ k).go (fun h k => ?_)
    dsimp only
    rw [n.2.2.1, nI_add, if_pos (show nI (tK v (N v 4) f) = nI (N v 8 + (tK v (N v 4) f - N v 8)) from congrArg nI (by omega))]
    refine (q_c9 wf' h _ k).go (fun h k => ?_)
    dsimp only
    rw [n.2.2.2.1, nI_add, if_pos (show nI (tJ v (N v 4) f) = nI (N v 11 + (tJ v (N v 4) f - N v 11)) from congrArg nI (by omega))]
    exact Gl.fin k
  dsimp only
  obtain ⟨m0, hm0, h0, e0, k⟩ := q_undo wf k
  rw [ob_e e0]
  dsimp only
  obtain ⟨r1, h1, h2, m1, h3, e1, e2, e3, hm1, k⟩ := sk_try (X := nI m0) (by omega) wf hf b1 b2 (nI_pos' (by omega)) k
  rw [ob_e e1]
  dsimp only
  rw [ob_e e2]
  dsimp only
  rw [ob_e e3]
  dsimp only
  obtain ⟨r4, h4, h5, m2, h6, e4, e5, e6, hm2, k⟩ := sk_try (X := m1) (by omega) wf hf g1 g2 hm1 k
  rw [ob_e e4]
  dsimp only
  rw [ob_e e5]
  dsimp only
  rw [ob_e e6]
  dsimp only
  have A : ∀ h, KS h v [] → Gl (ob (f_X10_count (21 : Int32) h) (fun q237 =>
            if q237.1 = nI (N v 4) then
              ob (f_X10_count (6 : Int32) q237.2) (fun q248 =>
              if q248.1 = nI (N v 8) then
                some ((1 : Int32), q248.2)
              else
                some ((0 : Int32), q248.2))
            else
              some ((0 : Int32), q237.2))) v [] (1 : Int32) := fun h k => by
    refine (c21 h k).go (fun h k => ?_)
    dsimp only
    rw [if_pos rfl]
    refine (q_c6 wf h _ k).go (fun h k => ?_)
    dsimp only
    rw [if_pos rfl]
    exact Gl.fin k
  rw [if_neg (show ¬ (1 : Int32) = 0 by decide), if_neg (Int32.not_lt.mpr hm2), if_neg (nI_nlt l1 (by omega)), if_neg (nI_nlt l2.1 (by omega))]
  by_cases q : tK v (bgB v f 80).1 f - N v 8 < tK v g f - N v 8
  · rw [if_pos (nI_lt q (by omega))]
    exact A h6 k
  · rw [if_neg (fun e => q ((nI_ltI (by omega) (by omega)).mp e)), if_neg (show ¬ nI g < nI (bgB v f 80).1 from fun e => q (l2.2 ((nI_ltI (by omega) (by omega)).mp e)))]
    exact A h6 k
/-! isPlaySo -/
theorem pl_stop {F M m f T : Nat} {b : Nat → Bool} {i r c g p s k : Nat} (h : T ≤ p) : pl F M m f T b i r c g p s k = (c, g, p, s, k) := by
  cases i with
  | zero => rfl
  | succ i => rw [pl, if_pos (Or.inr h)]
theorem plP_stop {v : Nat → Int32} {y : Nat} (h : ¬ N v 6 < TOT v) : plP v y = (0, 0, N v 6, N v 7, N v 8) := by
  unfold plP
  exact pl_stop (Nat.le_of_not_lt h)
theorem py_main {T : Nat} {v : Nat → Int32} {x y : Nat} {h : HP} (hT : T + 20000 < 2 ^ 31) (wf : WF T v) (x1 : 1 ≤ x) (x2 : x ≤ 400) (y1 : 1 ≤ y) (y2 : y ≤ 400) (k : KS h v []) : Gl (f_L_isPlaySo (nI x) (nI y) h) v [] (1 : Int32) := by
  have t := wf.t3
  have wh := wf.2.1
  have p6 : N v 6 ≤ TOT v := wh.1.2.1
  rw [f_L_isPlaySo, nI_add]
  by_cases q : N v 6 < TOT v
  · obtain ⟨wa, aa⟩ := a_play (X := x + y) (by omega) wf (by omega) (by omega) q
    obtain ⟨w1, a1⟩ := a_play (X := x) (by omega) wf (by omega) (by omega) q
    obtain ⟨T1, e1⟩ : ∃ T1, T1 = T + 10000 := ⟨_, rfl⟩
    rw [← e1] at w1
    have hT1 : T1 + 10000 < 2 ^ 31 := by omega
    clear e1
    have na := plW_n (X := x + y) (by omega) wf
    have n1 := plW_n (X := x) (by omega) wf
    have Ba := pl_B (X := x + y) wf
    have B1 := pl_B (X := x) wf
    have two := play_two (x := x) (y := y) (by omega) wf (by omega)
    have t1 := (ly_like n1.2.2.2.2.2).2
    refine (aa h _ (by decide) k).go (fun h k => ?_)
    dsimp only
    rw [if_neg (nI_n5' (by omega))]
    refine (q_c3 wa h _ k).go (fun h k => ?_)
    dsimp only
    refine (q_c6 wa h _ k).go (fun h k => ?_)
    dsimp only
    obtain ⟨m0, hm0, h0, e0, k⟩ := q_undo wf k
    rw [ob_e e0]
    dsimp only
    refine (a1 h0 _ (by decide) k).go (fun h k => ?_)
    dsimp only
    rw [na.1, na.2.2.1, two.1, two.2.1, two.2.2]
    by_cases q2 : N (plW v x) 6 < TOT (plW v x)
    · obtain ⟨w2, a2⟩ := a_play (X := y) hT1 w1 (by omega) (by omega) q2
      have n2 := plW_n (X := y) hT1 w1
      have B2 := pl_B (X := y) w1
      refine (a2 h [v] (show 1 < 4 by decide) k).go (fun h k => ?_)
      dsimp only
      rw [if_neg (nI_n5' (by omega))]
      refine Gl.go (r := (1 : Int32)) (v := plW (plW v x) y) (l := [plW v x, v]) ?_ (fun h k => ?_)
      · rw [nI_add, if_pos rfl]
        refine (q_c3 w2 h _ k).go (fun h k => ?_)
        dsimp only
        rw [n2.1, if_pos rfl]
        refine (q_c6 w2 h _ k).go (fun h k => ?_)
        dsimp only
        rw [n2.2.2.1, if_pos rfl]
        exact Gl.fin k
      dsimp only
      obtain ⟨m1, hm1, h1, e1, k⟩ := q_undo w1 k
      have e1' : ob (f_X10_undo h) (fun q129 => some (q129.1, q129.2)) = some (nI m1, h1) := by rw [ob_e e1]
      rw [if_neg (show ¬ nI (plP (plW v x) y).2.1 = (-5 : Int32) from nI_n5' (by omega)), ob_e e1']
      dsimp only
      obtain ⟨m2, hm2, h2, e2, k⟩ := q_undo wf k
      rw [ob_e e2]
      dsimp only
      rw [if_neg (show ¬ (1 : Int32) = 0 by decide), if_neg (nI_pos (by omega))]
      exact Gl.fin k
    · have aN := a_playN (X := y) w1 y1 (by omega) q2
      have eP := plP_stop (y := y) q2
      rw [eP]
      dsimp only
      refine (aN h _ k).go (fun h k => ?_)
      dsimp only
      rw [if_pos rfl]
      refine Gl.go (r := (1 : Int32)) (v := plW v x) (l := [v]) ?_ (fun h k => ?_)
      · rw [Int32.add_zero, Nat.add_zero, if_pos rfl]
        refine (q_c3 w1 h _ k).go (fun h k => ?_)
        dsimp only
        rw [if_pos rfl]
        refine (q_c6 w1 h _ k).go (fun h k => ?_)
        dsimp only
        rw [if_pos rfl]
        exact Gl.fin k
      dsimp only
      rw [if_pos rfl, ob_s]
      dsimp only
      obtain ⟨m2, hm2, h2, e2, k⟩ := q_undo wf k
      rw [ob_e e2]
      dsimp only
      rw [if_neg (show ¬ (1 : Int32) = 0 by decide), if_neg (nI_pos (by omega))]
      exact Gl.fin k
  · refine (a_playN (X := x + y) wf (by omega) (by omega) q h _ k).go (fun h k => ?_)
    dsimp only
    rw [if_pos rfl]
    refine (q_c3 wf h _ k).go (fun h k => ?_)
    dsimp only
    refine (q_c0 wf h _ k).go (fun h k => ?_)
    dsimp only
    rw [if_pos (show nI (N v 6) = nI (TOT v) by congr 1; omega)]
    exact Gl.fin k
/-! isPolishSo -/
def stP (v : Nat → Int32) : Nat → Int32 × Int32
  | 0 => (-5, -5)
  | k + 1 => (nI (pfB v k).1, nI (pfB v k).2)
theorem po_L22 {T : Nat} {v : Nat → Int32} (wf : WF T v) : ∀ d n q h, q + d = N v 12 → d < n → KS h v [] → ∃ h', f_L_isPolishSo_L22 n (stP v q).1 (stP v q).2 (nI q) h = some ((stP v (N v 12)).1, (stP v (N v 12)).2, h') ∧ KS h' v [] := by
  have t := wf.t3
  have h8 := wf.2.2.1.1.2.1
  intro d
  induction d with
  | zero =>
    intro n q h hq hn k
    obtain ⟨n, rfl⟩ : ∃ n', n = n' + 1 := ⟨n - 1, by omega⟩
    have : q = N v 12 := by omega
    subst this
    obtain ⟨h1, e1, k1⟩ := q_c2 wf h [] k
    rw [f_L_isPolishSo_L22, ob_e e1]
    dsimp only
    rw [if_pos (nI_le (Nat.le_refl _) (by omega))]
    exact ⟨h1, rfl, k1⟩
  | succ d ih =>
    intro n q h hq hn k
    obtain ⟨n, rfl⟩ : ∃ n', n = n' + 1 := ⟨n - 1, by omega⟩
    have hqn : q < N v 12 := by omega
    obtain ⟨m, hm⟩ : ∃ m, N v 12 = m + 1 := ⟨N v 12 - 1, by omega⟩
    obtain ⟨wf', ev, ap⟩ := a_polish (k := q) (m := m) wf hqn hm
    obtain ⟨ely, etot⟩ := pd_ly wf hm (show q ≤ m by omega)
    have c0 := cH_0 (v := v)
    have c0' := cH_0 (v := plV v m q)
    have dm : cnt (lyV (plV v m q) (-5)) (TOT (plV v m q)) ≤ cnt (lyV v (-5)) (TOT v) := by
      rw [ely, etot]
      exact cnt_sub (TOT v) (fun f _ hb => any_mono (N v 12) h8 hb)
    have di : cnt (lyV v (-5)) (TOT v) ≤ cnt (lyV (plV v m q) (-5)) (TOT (plV v m q)) + cnt (dbF v q) (TOT v) := by
      rw [ely, etot]
      exact cnt_or (TOT v) (fun f _ hb => any_or (by omega) (N v 12) h8 hb)
    have hms : cH (plV v m q) 3 = missW v (nI q) := by
      unfold cH missW
      rw [ely, etot]
    have b1 := cnt_le (dbF v q) (TOT v)
    have b2 := missW_le (x := nI q) wf.1
    obtain ⟨h1, e1, k1⟩ := q_c2 wf h [] k
    rw [f_L_isPolishSo_L22, ob_e e1]
    dsimp only
    rw [if_neg (nI_ge hqn (by omega))]
    obtain ⟨h2, e2, k2⟩ := q_c0 wf h1 [] k1
    rw [ob_e e2]
    dsimp only
    obtain ⟨h3, e3, k3⟩ := q_c10 wf h2 [] k2
    rw [ob_e e3]
    dsimp only
    obtain ⟨h4, e4, k4⟩ := q_sc4 wf hqn h3 [] k3
    rw [ob_e e4]
    dsimp only
    have e5 : Gl (f_X10_polish (nI q) h4) (plV v m q) [v] (dmC (plV v m q)) := ap h4 [] (by decide) k4
    obtain ⟨h5, e5, k5⟩ := e5
    rw [ob_e e5]
    dsimp only
    obtain ⟨h6, e6, k6⟩ := q_c13 wf' h5 [v] k5
    rw [ob_e e6]
    dsimp only
    have x1 : nI (TOT v) - nI (cH v 0) = nI (cnt (lyV v (-5)) (TOT v)) := by
      rw [pk_sub (by omega)]
      congr 1
      omega
    have x2 : nI (cnt (lyV v (-5)) (TOT v)) - nI (cnt (dbF v q) (TOT v)) = zI ((cnt (lyV v (-5)) (TOT v) : Int) - cnt (dbF v q) (TOT v)) := by rw [nI_z, nI_z, zI_sub]
    have y1 : ¬ nI (TOT v) - nI (cH v 0) < dmC (plV v m q) := by
      rw [x1]
      exact nI_nlt dm (by omega)
    have y2 : ¬ dmC (plV v m q) < nI (TOT v) - nI (cH v 0) - nI (cnt (dbF v q) (TOT v)) := by
      rw [x1, x2]
      unfold dmC
      rw [nI_z, zI_lt (by omega) (by omega) (by omega) (by omega)]
      omega
    rw [if_neg y1, if_neg y2]
    obtain ⟨h7, e7, k7⟩ := q_c0 wf' h6 [v] k6
    rw [ob_e e7]
    dsimp only
    obtain ⟨h8', e8, k8⟩ := q_c10 wf' h7 [v] k7
    rw [ob_e e8]
    dsimp only
    have y3 : dmC (plV v m q) = nI (TOT (plV v m q)) - nI (cH (plV v m q) 0) := by
      unfold dmC
      rw [pk_sub (by omega)]
      congr 1
      omega
    rw [if_pos y3, hms]
    obtain ⟨mm, hmm, h9, e9, k9⟩ := q_undo wf k8
    have st : (if (stP v q).1 = (-5 : Int32) then nI q else (if (stP v q).2 ≤ nI (missW v (nI q)) then (stP v q).1 else nI q)) = (stP v (q + 1)).1 ∧ (if (stP v (q + 1)).1 = nI q then nI (missW v (nI q)) else (stP v q).2) = (stP v (q + 1)).2 := by
      cases q with
      | zero =>
        show (if (-5 : Int32) = (-5 : Int32) then nI 0 else _) = nI 0 ∧ (if nI 0 = nI 0 then nI (missW v (nI 0)) else (-5 : Int32)) = nI (missW v (nI 0))
        rw [if_pos rfl, if_pos rfl]
        exact ⟨rfl, rfl⟩
      | succ q =>
        have pb := pfB_le wf.1 q
        show (if nI (pfB v q).1 = (-5 : Int32) then nI (q + 1) else (if nI (pfB v q).2 ≤ nI (missW v (nI (q + 1))) then nI (pfB v q).1 else nI (q + 1))) = nI (pfB v (q + 1)).1 ∧ (if nI (pfB v (q + 1)).1 = nI (q + 1) then nI (missW v (nI (q + 1))) else nI (pfB v q).2) = nI (pfB v (q + 1)).2
        rw [if_neg (nI_n5' (by omega)), pfB]
        by_cases c : (pfB v q).2 ≤ missW v (nI (q + 1))
        · rw [if_pos c, if_pos (nI_le c (by omega)), if_neg (fun e => by
            have := (nI_eq (by omega) (by omega)).mp e
            omega)]
          exact ⟨rfl, rfl⟩
        · rw [if_neg c, if_neg (fun e => c ((nI_leI (by omega) (by omega)).mp e)), if_pos rfl]
          exact ⟨rfl, rfl⟩
    rw [st.1, tb_s, ob_e e9]
    dsimp only
    rw [st.2, nI_1]
    exact ih n (q + 1) h9 (by omega) (by omega) k9
theorem po_main {T : Nat} {v : Nat → Int32} {h : HP} (wf : WF T v) (k : KS h v []) : Gl (f_L_isPolishSo h) v [] (1 : Int32) := by
  have h8 := wf.2.2.1.1.2.1
  have pf := q_pf wf
  have e1 : (if N v 12 = 0 then (-5 : Int32) else nI (pfB v (N v 12 - 1)).1) = (stP v (N v 12)).1 ∧ (if N v 12 = 0 then (-5 : Int32) else nI (pfB v (N v 12 - 1)).2) = (stP v (N v 12)).2 := by
    cases N v 12 with
    | zero => exact ⟨rfl, rfl⟩
    | succ m =>
      rw [if_neg (by omega), if_neg (by omega)]
      exact ⟨rfl, rfl⟩
  rw [e1.1, e1.2] at pf
  rw [f_L_isPolishSo]
  refine (pf.1 h _ k).go (fun h k => ?_)
  dsimp only
  refine (pf.2 h _ k).go (fun h k => ?_)
  dsimp only
  obtain ⟨h', e', k'⟩ := po_L22 wf (N v 12) FU 0 h (by omega) (Nat.lt_of_le_of_lt h8 (by decide)) k
  have e' : f_L_isPolishSo_L22 FU (-5 : Int32) (-5 : Int32) (0 : Int32) h = some ((stP v (N v 12)).1, (stP v (N v 12)).2, h') := e'
  rw [ob_e e']
  dsimp only
  rw [if_pos rfl, if_pos rfl]
  exact Gl.fin k'
