/-! the law's loop; the start -/
theorem lw_pc {v : Nat → Int32} {X : Option (Int32 × HP)} (g : Gl X v [] (1 : Int32)) : ∃ h1, ob X (fun q => if q.1 = 0 then none else some q.2) = some h1 ∧ KS h1 v [] := by
  obtain ⟨h1, e, k⟩ := g
  refine ⟨h1, ?_, k⟩
  rw [ob_e e]
  dsimp only
  rw [if_neg (by decide)]
theorem lw_if {v : Nat → Int32} {c : Prop} [Decidable c] {X : Option HP} {h : HP} (a : ∃ h1, X = some h1 ∧ KS h1 v []) (k : KS h v []) : ∃ h1, (if c then X else some h) = some h1 ∧ KS h1 v [] := by
  by_cases q : c
  · rw [if_pos q]
    exact a
  · rw [if_neg q]
    exact ⟨h, rfl, k⟩
theorem lw_fr {T : Nat} {v : Nat → Int32} {x : Int32} {h : HP} (wf : WF T v) (k : KS h v []) : ∃ h1 f h2, f_X10_count (0 : Int32) h = some (nI (TOT v), h1) ∧ f_L_low x (nI (TOT v)) h1 = some (nI f) ∧ f_L_isFrameSo (nI f) h1 = some ((1 : Int32), h2) ∧ KS h2 v [] := by
  have t := wf.t3
  obtain ⟨h1, e1, k1⟩ := q_c0 wf h [] k
  obtain ⟨f, hf, ef⟩ := lw_low x (n := TOT v) (by omega) (by omega)
  obtain ⟨h2, e2, k2⟩ := fr_main wf hf k1
  exact ⟨h1, f, h2, e1, ef h1, e2, k2⟩
theorem lw_L25 {xs : Nat → Int32} {L : Nat} : ∀ d n e T v h, e + d = 44 → d < n → T ≤ 10000 * e → PV T v → KS h v [] → ∃ h', f_L_law_L25 n xs L (nI e) h = some h' := by
  intro d
  induction d with
  | zero =>
    intro n e T v h he hn hT p k
    obtain ⟨n, rfl⟩ : ∃ n', n = n' + 1 := ⟨n - 1, by omega⟩
    have : e = 44 := by omega
    subst this
    rw [f_L_law_L25, if_pos (show (44 : Int32) ≤ nI 44 by decide)]
    exact ⟨h, rfl⟩
  | succ d ih =>
    intro n e T v0 h he hn hT p k
    obtain ⟨n, rfl⟩ : ∃ n', n = n' + 1 := ⟨n - 1, by omega⟩
    have ng : nng (nI e) = true := decide_eq_true (nI_pos (by omega))
    have t0 := p.1.t3
    rw [f_L_law_L25, if_neg (show ¬ (44 : Int32) ≤ nI e from nI_ge (b := 44) (by omega) (by decide)), gd_t ng]
    generalize cellF xs L (nI e) = x
    obtain ⟨h1, e1, k1⟩ := q_c0 p.1 h [] k
    rw [ob_e e1]
    dsimp only
    obtain ⟨r, v, hr, p', h2, e2, k2⟩ := l_does (x := x) (by omega) p k1
    have t := p'.1.t3
    rw [ob_e e2]
    dsimp only
    rw [if_neg (Int32.not_lt.mpr hr)]
    obtain ⟨h3, e3, k3⟩ := lw_if (c := jrem (nI e) (3 : Int32) = (1 : Int32)) (lw_pc (wh_main p' (by omega) k2)) k2
    rw [ob_e e3]
    obtain ⟨h4, f, h5, e4, e5, e6, k5⟩ := lw_fr (x := x >>> ((2 : Int32) &&& 31)) p'.1 k3
    rw [ob_e e4]
    dsimp only
    rw [ob_e e5, ob_e e6]
    dsimp only
    rw [if_neg (show ¬ (1 : Int32) = 0 by decide)]
    obtain ⟨h7, f2, h8, e7, e8, e9, k8⟩ := lw_fr (x := x >>> ((5 : Int32) &&& 31)) p'.1 k5
    rw [ob_e e7]
    dsimp only
    rw [ob_e e8, ob_e e9]
    dsimp only
    rw [if_neg (show ¬ (1 : Int32) = 0 by decide)]
    obtain ⟨h10, e10, k10⟩ := lw_if (c := jrem (nI e) (11 : Int32) = (10 : Int32)) (lw_pc (gp_main p'.1 k8)) k8
    rw [ob_e e10]
    have sk : ∃ h1, ob (f_X10_count (0 : Int32) h10) (fun q137 =>
              ob (f_L_low (x >>> ((3 : Int32) &&& 31)) q137.1 q137.2) (fun q140 =>
              ob (f_L_low (x >>> ((7 : Int32) &&& 31)) (81 : Int32) q137.2) (fun q152 =>
              ob (f_L_isSeekSo q140 ((60 : Int32) + q152) q137.2) (fun q156 =>
              if q156.1 = 0 then
                none
              else
                some q156.2)))) = some h1 ∧ KS h1 v [] := by
      obtain ⟨h11, e11, k11⟩ := q_c0 p'.1 h10 [] k10
      obtain ⟨f3, hf3, ef3⟩ := lw_low (x >>> ((3 : Int32) &&& 31)) (n := TOT v) (by omega) (by omega)
      obtain ⟨g, hg, eg⟩ := lw_low (x >>> ((7 : Int32) &&& 31)) (n := 81) (by decide) (by decide)
      have eg : ∀ h, f_L_low (x >>> ((7 : Int32) &&& 31)) (81 : Int32) h = some (nI g) := eg
      rw [ob_e e11]
      dsimp only
      rw [ob_e (ef3 h11), ob_e (eg h11), lit_n 60, nI_add]
      exact lw_pc (sk_main (by omega) p'.1 hf3 (by omega) (by omega) k11)
    obtain ⟨h12, e12, k12⟩ := lw_if (c := jrem (nI e) (6 : Int32) = (2 : Int32)) sk k10
    rw [ob_e e12]
    have py : ∃ h1, ob (f_L_low (x >>> ((4 : Int32) &&& 31)) (30 : Int32) h12) (fun q177 =>
              ob (f_L_low (x >>> ((8 : Int32) &&& 31)) (30 : Int32) h12) (fun q189 =>
              ob (f_L_isPlaySo ((1 : Int32) + q177) ((1 : Int32) + q189) h12) (fun q193 =>
              if q193.1 = 0 then
                none
              else
                some q193.2))) = some h1 ∧ KS h1 v [] := by
      obtain ⟨a, ha, ea⟩ := lw_low (x >>> ((4 : Int32) &&& 31)) (n := 30) (by decide) (by decide)
      have ea : ∀ h, f_L_low (x >>> ((4 : Int32) &&& 31)) (30 : Int32) h = some (nI a) := ea
      obtain ⟨b, hb, eb⟩ := lw_low (x >>> ((8 : Int32) &&& 31)) (n := 30) (by decide) (by decide)
      have eb : ∀ h, f_L_low (x >>> ((8 : Int32) &&& 31)) (30 : Int32) h = some (nI b) := eb
      rw [ob_e (ea h12), ob_e (eb h12), lit_n 1, nI_add, nI_add]
      exact lw_pc (py_main (by omega) p'.1 (by omega) (by omega) (by omega) (by omega) k12)
    obtain ⟨h13, e13, k13⟩ := lw_if (c := jrem (nI e) (4 : Int32) = (3 : Int32)) py k12
    rw [ob_e e13]
    obtain ⟨h14, e14, k14⟩ := lw_if (c := jrem (nI e) (8 : Int32) = (5 : Int32)) (lw_pc (po_main p'.1 k13)) k13
    rw [ob_e e14, if_pos (show (240 : Int32) ≤ nI (TOT v0) from nI_le (a := 240) t0.1 (by omega)), nI_1]
    exact ih n (e + 1) (T + 10000) v h14 (by omega) (by omega) (by omega) p' k14
/-- the row of a new object -/
def v00 : Nat → Int32 := fun k => if k = 0 then 20 else if k = 1 then 2 else if k = 2 then 3 else if k = 3 then 1 else if k = 4 then 90 else if k = 5 then 4 else if k = 7 then 20 else 0
theorem v00_n : N v00 0 = 20 ∧ N v00 1 = 2 ∧ N v00 2 = 3 ∧ N v00 3 = 1 ∧ N v00 4 = 90 ∧ N v00 5 = 4 ∧ N v00 6 = 0 ∧ N v00 7 = 20 ∧ N v00 8 = 0 ∧ N v00 9 = 0 ∧ N v00 10 = 0 ∧ N v00 11 = 0 ∧ N v00 12 = 0 ∧ N v00 45 = 0 := by decide +kernel
theorem v00_wf : WF 0 v00 := by
  have is : ∀ k n lo hi, v00 k = nI n → n < 2 ^ 31 → lo ≤ n → n ≤ hi → isN v00 k lo hi := fun k n lo hi h1 h2 h3 h4 => isN_of h1 h2 h3 h4
  refine ⟨⟨is 0 20 _ _ (by decide) (by decide) (by decide) (by decide), is 1 2 _ _ (by decide) (by decide) (by decide) (by decide), is 2 3 _ _ (by decide) (by decide) (by decide) (by decide), is 3 1 _ _ (by decide) (by decide) (by decide) (by decide), is 4 90 _ _ (by decide) (by decide) (by decide) (by decide), is 5 4 _ _ (by decide) (by decide) (by decide) (by decide)⟩, ⟨is 6 0 _ _ (by decide) (by decide) (by decide) (Nat.zero_le _), is 7 20 _ _ (by decide) (by decide) (by decide) (by decide), is 8 0 _ _ (by decide) (by decide) (by decide) (by decide), is 9 0 _ _ (by decide) (by decide) (by decide) (by decide), is 10 0 _ _ (by decide) (by decide) (by decide) (by decide), is 11 0 _ _ (by decide) (by decide) (by decide) (by decide)⟩, ⟨is 12 0 _ _ (by decide) (by decide) (by decide) (by decide), fun k hk => ?_⟩, ⟨is 45 0 _ _ (by decide) (by decide) (by decide) (by decide), fun k hk => ?_⟩⟩
  · rw [v00_n.2.2.2.2.2.2.2.2.2.2.2.2.1] at hk
    exact absurd hk (Nat.not_lt_zero _)
  · rw [v00_n.2.2.2.2.2.2.2.2.2.2.2.2.2] at hk
    exact absurd hk (Nat.not_lt_zero _)
theorem v00_hb : HB v00 := by
  have n := v00_n
  unfold HB
  omega
theorem h00_67 : ∀ f, h00 67 f = 0 := by
  intro f
  unfold h00 hc_X10 hc_X7
  simp (disch := omega) only [hset_ne, hc_X1_out, hc_X4_out, hc_X5_out, hc_X2_out, hc_X3_out, hc_X6_out]
theorem h00_68 : ∀ f, h00 68 f = 0 := by
  intro f
  unfold h00 hc_X10 hc_X7
  simp (disch := omega) only [hset_ne, hc_X1_out, hc_X4_out, hc_X5_out, hc_X2_out, hc_X3_out, hc_X6_out]
theorem h00_r : R h00 1 v00 := by
  have rs : ∀ k, k < 6 → h00 2 k = v00 k := by decide +kernel
  have rh : ∀ k, k < 6 → h00 8 k = v00 (6 + k) := by decide +kernel
  refine ⟨rs, rh, ⟨by decide +kernel, fun k hk => ?_⟩, by decide +kernel, fun k hk => ?_⟩
  · rw [v00_n.2.2.2.2.2.2.2.2.2.2.2.2.1] at hk
    exact absurd hk (Nat.not_lt_zero _)
  · rw [v00_n.2.2.2.2.2.2.2.2.2.2.2.2.2] at hk
    exact absurd hk (Nat.not_lt_zero _)
theorem h00_sv : SV h00 := by
  have n12 := v00_n.2.2.2.2.2.2.2.2.2.2.2.2.1
  refine ⟨v00, v00_wf.1, v00_wf.2.2.1, ⟨⟨?_, ?_⟩, by decide +kernel, fun k hk => ?_⟩, fun f hf => ?_, fun f hf => ?_⟩
  · rw [v00_n.1]
    decide +kernel
  · rw [v00_n.2.1]
    decide +kernel
  · rw [n12] at hk
    exact absurd hk (Nat.not_lt_zero _)
  · rw [h00_67, n12]
    unfold hbV
    split <;> rfl
  · rw [h00_68]
    have : lyV v00 (-5) f = false := by
      unfold lyV
      rw [n12]
      rfl
    unfold how
    rw [if_pos this]
    rfl
theorem ks_0 : KS h00 v00 [] := by
  refine ⟨0, fun _ _ => 0, false, fun _ => 0, 0, fun _ => 0, ⟨h00_r, h00_sv, ⟨by decide, by decide +kernel, fun j => 27 + 8 * j, fun j hj => ?_, fun i j _ _ e => by have e : 27 + 8 * i = 27 + 8 * j := e; omega, fun j hj => absurd hj (Nat.not_lt_zero _)⟩, ⟨by decide +kernel, fun e => Bool.noConfusion e⟩, by decide +kernel, by decide, fun j hj => absurd hj (Nat.not_lt_zero _)⟩, Nat.zero_le _, fun i hi => absurd hi (Nat.not_lt_zero _)⟩
  have : j = 0 ∨ j = 1 ∨ j = 2 ∨ j = 3 := by omega
  rcases this with q | q | q | q <;> subst q
  · exact ⟨Or.inl rfl, by decide +kernel⟩
  · exact ⟨Or.inr (Or.inl rfl), by decide +kernel⟩
  · exact ⟨Or.inr (Or.inr (Or.inl rfl)), by decide +kernel⟩
  · exact ⟨Or.inr (Or.inr (Or.inr rfl)), by decide +kernel⟩
theorem pure_main {L : Nat} {xs : Nat → Int32} : f_L_law_8 xs L h00 = some 1 := by
  have n := v00_n
  rcases a_set (w := 0) (k := 8) (by decide) v00_wf (by decide) (by decide) (by decide) with ⟨q, _⟩ | ⟨_, w1, a1⟩
  · rw [n.1] at q
    exact absurd q (by decide)
  have b1 := stV_hb (w := 0) (k := 8) v00_wf v00_hb (by decide) (by decide) (by decide)
  have e11 : N (stV v00 0 8) 1 = 2 := by
    unfold stV
    rw [if_neg (by decide), N_up (by decide), N_up (by decide), N_up (by decide)]
    exact n.2.1
  rcases a_set (w := 1) (k := 1) (by decide) w1 (by decide) (by decide) (by decide) with ⟨q, _⟩ | ⟨_, w2, a2⟩
  · rw [e11] at q
    exact absurd q (by decide)
  have b2 := stV_hb (w := 1) (k := 1) w1 b1 (by decide) (by decide) (by decide)
  obtain ⟨h1, e1, k1⟩ := a1 h00 [] (by decide) ks_0
  obtain ⟨h2, e2, k2⟩ := a2 h1 [] (by decide) k1.drop
  obtain ⟨h3, e3⟩ := lw_L25 (xs := xs) (L := L) 44 FU 0 0 _ h2 rfl (by decide) (Nat.zero_le _) ⟨w2, b2⟩ k2.drop
  rw [n.1] at e1
  rw [e11] at e2
  have e1 : f_X10_set (0 : Int32) (8 : Int32) h00 = some ((20 : Int32), h1) := e1
  have e2 : f_X10_set (1 : Int32) (1 : Int32) h1 = some ((2 : Int32), h2) := e2
  have e3 : f_L_law_L25 FU xs L (0 : Int32) h2 = some h3 := e3
  rw [f_L_law_8, ob_e e1]
  dsimp only
  rw [ob_e e2]
  dsimp only
  rw [ob_e e3, if_pos (by decide)]
