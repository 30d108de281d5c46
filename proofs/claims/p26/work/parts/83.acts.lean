/-! the acts: press, scratch, polish, set -/
/-- the part of the row that the head's bounds look at -/
def HB (v : Nat → Int32) : Prop := N v 10 ≤ N v 9 ∧ N v 9 ≤ N v 8 ∧ N v 0 ≤ N v 7 ∧ N v 7 ≤ N v 0 + 29 * N v 1
theorem HB.eq {u v : Nat → Int32} (e : ∀ i, i < 12 → u i = v i) (b : HB v) : HB u := by
  unfold HB
  rw [N_eq (e 10 (by decide)), N_eq (e 9 (by decide)), N_eq (e 8 (by decide)), N_eq (e 0 (by decide)), N_eq (e 7 (by decide)), N_eq (e 1 (by decide))]
  exact b
theorem WF.lo {T T' : Nat} {u v : Nat → Int32} (w : WF T v) (hT : T ≤ T') (e : ∀ i, i < 12 → u i = v i) (c : WC u) (p : WP u) : WF T' u := ⟨w.1.eq e, (w.2.1.eq e) |> fun w => ⟨w.1, w.2.1, w.2.2.1.mono hT, w.2.2.2.1.mono hT, w.2.2.2.2.1.mono hT, w.2.2.2.2.2.mono hT⟩, c, p⟩
theorem c_isPlace' {p : Nat} (hp : p < 4) (h : HP) : f_X10_isPlace (nI p) h = 1 := pl_in hp h
/-- press, where frame, place and symbol are in their ranges -/
theorem a_press {T : Nat} {v : Nat → Int32} {f p s : Nat} (wf : WF T v) (hf : f < TOT v) (hp : p < 4) (hs : s < 16) : (∃ r : Int32, (r = -3 ∨ r = -4 ∨ r = -5) ∧ Qy v r (Cl (f_X10_pressSymbol (nI f) (nI p) (nI s)))) ∨ ∃ r v', r < 16 ∧ WF T v' ∧ (∀ i, i < 45 → v' i = v i) ∧ Ay v v' (nI r) (Cl (f_X10_pressSymbol (nI f) (nI p) (nI s))) := by
  have ws := wf.1
  have wc := wf.2.2.1
  have wp := wf.2.2.2
  have hn := wp.1.2.1
  have p3 := wf.t3
  have ch : ∀ h, R h 1 v → f_X5_hasFrame 2 (nI f) h = 1 := fun h r => q_has wf r hf
  have cp : ∀ h, f_X10_isPlace (nI p) h = 1 := fun h => pl_in hp h
  have c1 : ¬ nI s < 0 := nI_pos (by omega)
  have c2 : nI s < (16 : Int32) := nI_lt (b := 16) (by omega) (by decide)
  by_cases h4 : f % 5 = 4
  · have ck : ∀ h, f_X5_isCheck (nI f) h = 1 := fun h => (c_isCheck (by omega)).trans (if_pos h4)
    refine Or.inl ⟨-4, Or.inr (Or.inl rfl), Qy.err wf (by decide) (fun h r => ?_)⟩
    rw [f_X10_pressSymbol, ch h r, if_neg (by decide), cp, if_neg (by decide), if_neg c1, if_pos c2, ck, if_neg (by decide)]
  · have ck : ∀ h, f_X5_isCheck (nI f) h = 0 := fun h => (c_isCheck (by omega)).trans (if_neg h4)
    obtain ⟨s0, hs0, ed⟩ := dSy_n (f := f) (q := p) wp
    have cd : ∀ h, R h 1 v → f_X8_standsAt 5 (nI f) (nI p) h = some (nI s0) := fun h r => by
      have := c_standsAt (o := 1) (f := f) (q := p) (by decide) wp r.2.2.2 (by omega) (by omega)
      rw [sy, if_neg h4, ed] at this
      exact this
    by_cases qs : nI s0 = nI s
    · refine Or.inl ⟨-5, Or.inr (Or.inr rfl), Qy.err wf (by decide) (fun h r => ?_)⟩
      rw [f_X10_pressSymbol, ch h r, if_neg (by decide), cp, if_neg (by decide), if_neg c1, if_pos c2, ck, if_pos rfl, ob_e (cd h r), if_pos qs]
    · have hr : (0 : Int32) ≤ nI s0 := nI_pos' (by omega)
      have cpr : ∀ h q, R h 1 v → f_X8_write 5 (nI f) (nI p) (nI s) h = some ((1 : Int32), q) → f_X10_pressSymbol (nI f) (nI p) (nI s) h = some (nI s0, q) := fun h q r e => by
        rw [f_X10_pressSymbol, ch h r, if_neg (by decide), cp, if_neg (by decide), if_neg c1, if_pos c2, ck, if_pos rfl, ob_e (cd h r), if_neg qs, ob_e e, if_neg (show ¬ (1 : Int32) = 0 by decide)]
      have cix : ∀ h, R h 1 v → f_X8_indexOf 5 (nI f * (4 : Int32) + nI p) h = some (match FIX v f p with | some i => nI i | none => (-1 : Int32)) := fun h r => c_indexOf (o := 1) wp r.2.2.2 (by omega) (by omega)
      have caf : ∀ h, f_X8_atFirst (nI f) (nI p) h = nI ((7 * f + 3 * p) % 16) := fun h => c_atFirst (by omega) (by omega)
      have hsz : ∀ h, R h 1 v → h 5 2 = nI (N v 45) := fun h r => r.2.2.2.1.trans wp.1.2.2
      have lset : ∀ {h : HP} {a j : Nat} {x y : Int32}, a ≠ 6 → a ≠ 7 → hset (hset h 6 j x) 7 j y a = h a := fun h6 h7 => by rw [hset_sR, sR_o h7, hset_sR, sR_o h6]
      cases hi : FIX v f p with
      | none =>
        have es0 : nI s0 = nI ((7 * f + 3 * p) % 16) := by rw [← ed, dSy_no hi]
        have qa : ¬ nI s = nI ((7 * f + 3 * p) % 16) := fun e => qs (es0.trans e.symm)
        by_cases q40 : N v 45 = 40
        · refine Or.inl ⟨-3, Or.inl rfl, Qy.err wf (by decide) (fun h r => ?_)⟩
          have cix := cix h r
          rw [hi] at cix
          have ew : f_X8_write 5 (nI f) (nI p) (nI s) h = some ((0 : Int32), h) := by
            rw [f_X8_write, ob_e cix, caf, if_neg qa, if_neg (by decide), hsz h r, q40, if_neg (by decide)]
          rw [f_X10_pressSymbol, ch h r, if_neg (by decide), cp, if_neg (by decide), if_neg c1, if_pos c2, ck, if_pos rfl, ob_e (cd h r), if_neg qs, ob_e ew, if_pos (show (0 : Int32) = 0 from rfl)]
        · have lo : ∀ i, i < 45 → prA v (N v 45 + 1) (N v 45) f p s i = v i := fun i hi => prA_lo hi
          refine Or.inr ⟨s0, prA v (N v 45 + 1) (N v 45) f p s, hs0, ?_, lo, Ay.of wf hr (fun h r sv => ?_)⟩
          · have wp' : WP (prA v (N v 45 + 1) (N v 45) f p s) := prA_wp (by omega) (by omega) h4 (by omega) (by omega) (fun k hk hne => wp.2 k (by omega))
            exact wf.lo (Nat.le_refl _) (fun i hi => lo i (by omega)) (wc.eq (fun i _ hi => lo i hi)) wp'
          · have cix := cix h r
            rw [hi] at cix
            have ew : f_X8_write 5 (nI f) (nI p) (nI s) h = some ((1 : Int32), hset (hset (hset h 5 2 (nI (N v 45 + 1))) 6 (N v 45) (nI f * (4 : Int32) + nI p)) 7 (N v 45) (nI s)) := by
              have l6 : N v 45 < ln 6 := Nat.lt_of_lt_of_eq (show N v 45 < 40 by omega) (by decide)
              have l7 : N v 45 < ln 7 := Nat.lt_of_lt_of_eq (show N v 45 < 40 by omega) (by decide)
              rw [f_X8_write, ob_e cix, caf, if_neg qa, if_neg (by decide), hsz h r, if_pos (show nI (N v 45) < (40 : Int32) from nI_lt (b := 40) (by omega) (by decide)), if_neg (by decide), tb_s, nI_1, put_n l6, tb_s, put_n l7, tb_s]
            refine ⟨_, cpr h _ r ew, r.newP wc (fun a h1 h2 h3 h4 h5 => ?_) lo (prA_rp (by omega) hset_same (fun k hk hne => ?_)), sv.of (fun o h1 h2 => ?_), fun o ho => ?_⟩
            · rw [lset (by omega) (by omega), hset_sR, sR_o (by omega)]
            · rw [hset_oth (by omega), hset_oth (by omega)]
              exact r.2.2.2.2 k (by omega)
            · rw [lset (by omega) (by omega), hset_sR, sR_o (by omega)]
            · rw [lset (by omega) (by omega), hset_sR, sR_o (by omega)]
      | some j =>
        have hj := fiN_some _ _ hi
        have hjn : j < N v 45 := by omega
        have l6 : j < ln 6 := Nat.lt_of_lt_of_eq (show j < 40 by omega) (by decide)
        have l7 : j < ln 7 := Nat.lt_of_lt_of_eq (show j < 40 by omega) (by decide)
        by_cases qa : nI s = nI ((7 * f + 3 * p) % 16)
        · obtain ⟨m, hm⟩ : ∃ m, N v 45 = m + 1 := ⟨N v 45 - 1, by omega⟩
          have lo : ∀ i, i < 45 → prB v m j f p s i = v i := fun i hi => prB_lo hi
          refine Or.inr ⟨s0, prB v m j f p s, hs0, wf.lo (Nat.le_refl _) (fun i hi => lo i (by omega)) (wc.eq (fun i _ hi => lo i hi)) (prB_wp wp hm), lo, Ay.of wf hr (fun h r sv => ?_)⟩
          have cix := cix h r
          rw [hi] at cix
          have m6 : m < ln 6 := Nat.lt_of_lt_of_eq (show m < 40 by omega) (by decide)
          have m7 : m < ln 7 := Nat.lt_of_lt_of_eq (show m < 40 by omega) (by decide)
          have ed : f_X8_drop 5 (nI j) h = hset (hset (hset h 5 2 (nI m)) 6 j (h 6 m)) 7 j (h 7 m) := by
            rw [f_X8_drop, if_neg (nI_pos (by omega)), hsz h r, if_pos (nI_lt hjn (by omega)), hm, nI_pred, tb_s, hset_same, at_n m6, hset_oth (by omega), put_n l6, tb_s, hset_oth (by omega), hset_same, at_n m7, hset_oth (by omega), hset_oth (by omega), put_n l7, tb_s]
          have ew : f_X8_write 5 (nI f) (nI p) (nI s) h = some ((1 : Int32), hset (hset (hset h 5 2 (nI m)) 6 j (h 6 m)) 7 j (h 7 m)) := by
            rw [f_X8_write, ob_e cix, caf, if_pos qa]
            dsimp only
            rw [ed, tb_s]
          refine ⟨_, cpr h _ r ew, r.newP wc (fun a h1 h2 h3 h4 h5 => ?_) lo (prB_rp wp r.2.2.2 hm), sv.of (fun o h1 h2 => ?_), fun o ho => ?_⟩
          · rw [lset (by omega) (by omega), hset_sR, sR_o (by omega)]
          · rw [lset (by omega) (by omega), hset_sR, sR_o (by omega)]
          · rw [lset (by omega) (by omega), hset_sR, sR_o (by omega)]
        · have lo : ∀ i, i < 45 → prA v (N v 45) j f p s i = v i := fun i hi => prA_lo hi
          have wp' : WP (prA v (N v 45) j f p s) := prA_wp (by omega) (by omega) h4 (by omega) (by omega) (fun k hk hne => wp.2 k (by omega))
          refine Or.inr ⟨s0, prA v (N v 45) j f p s, hs0, wf.lo (Nat.le_refl _) (fun i hi => lo i (by omega)) (wc.eq (fun i _ hi => lo i hi)) wp', lo, Ay.of wf hr (fun h r sv => ?_)⟩
          have cix := cix h r
          rw [hi] at cix
          have ew : f_X8_write 5 (nI f) (nI p) (nI s) h = some ((1 : Int32), hset (hset h 6 j (nI f * (4 : Int32) + nI p)) 7 j (nI s)) := by
            rw [f_X8_write, ob_e cix, caf, if_neg qa]
            dsimp only
            rw [if_pos (nI_pos' (by omega)), if_pos (nI_pos' (by omega)), tb_s, put_n l6, tb_s, put_n l7, tb_s]
          refine ⟨_, cpr h _ r ew, r.newP wc (fun a h1 h2 h3 h4 h5 => ?_) lo (prA_rp (by omega) (hsz h r) (fun k hk hne => ?_)), sv.of (fun o h1 h2 => ?_), fun o ho => ?_⟩
          · rw [lset (by omega) (by omega)]
          · exact r.2.2.2.2 k (by omega)
          · rw [lset (by omega) (by omega)]
          · rw [lset (by omega) (by omega)]
/-- scratch, where its angles and turns are in their ranges -/
theorem a_scratch {T : Nat} {v : Nat → Int32} {a b c d : Nat} (wf : WF T v) (hab : a ≤ b) (hb : b ≤ 359) (hcd : c ≤ d) (hd : d ≤ 29) : (N v 12 = 8 ∧ Qy v (-3) (Cl (f_X10_addScratch (nI a) (nI b) (nI c) (nI d)))) ∨ (WF T (scV v (N v 12) a b c d) ∧ (∀ i, i < 12 ∨ 45 ≤ i → scV v (N v 12) a b c d i = v i) ∧ Ay v (scV v (N v 12) a b c d) (dmC (scV v (N v 12) a b c d)) (Cl (f_X10_addScratch (nI a) (nI b) (nI c) (nI d)))) := by
  have ws := wf.1
  have wc := wf.2.2.1
  have hn := wc.1.2.1
  have e1 : (if nI a < 0 then (0 : Int32) else if nI b < nI a then 0 else if (360 : Int32) ≤ nI b then 0 else 1) = 1 := by
    rw [if_neg (nI_pos (by omega)), if_neg (nI_nlt hab (by omega)), if_neg (show ¬ (360 : Int32) ≤ nI b from nI_ge (b := 360) (by omega) (by decide))]
  have e2 : (if nI c < 0 then (0 : Int32) else if nI d < nI c then 0 else if (30 : Int32) ≤ nI d then 0 else 1) = 1 := by
    rw [if_neg (nI_pos (by omega)), if_neg (nI_nlt hcd (by omega)), if_neg (show ¬ (30 : Int32) ≤ nI d from nI_ge (b := 30) (by omega) (by decide))]
  have hsz : ∀ h, R h 1 v → h 3 1 = nI (N v 12) := fun h r => r.2.2.1.1.trans wc.1.2.2
  by_cases q8 : N v 12 = 8
  · refine Or.inl ⟨q8, Qy.err wf (by decide) (fun h r => ?_)⟩
    have ea : f_X4_add 3 (nI a) (nI b) (nI c) (nI d) h = ((0 : Int32), h) := by
      rw [f_X4_add, hsz h r, q8, if_neg (by decide)]
    rw [f_X10_addScratch, e1, tb_s, e2, tb_s, if_neg (by decide), if_neg (by decide), ea, tb_s, if_pos rfl]
  · have hn8 : N v 12 < 8 := by omega
    have wc' := scV_wc wc hn8 hab hb hcd hd
    have ev : ∀ i, i < 12 ∨ 45 ≤ i → scV v (N v 12) a b c d i = v i := fun i hi => scV_o (by omega) (by omega)
    have wf' : WF T (scV v (N v 12) a b c d) := wf.newC (Nat.le_refl _) ev wc'
    refine Or.inr ⟨wf', ev, Ay.of wf (dmC_0 wf') (fun h r sv => ?_)⟩
    have l4 : ln (3 + 1) = 32 := by decide
    have i0 : nI (N v 12) * (4 : Int32) = nI (4 * N v 12) := by rw [lit_n 4, pk_mul, Nat.mul_comm]
    have i2 : nI (4 * N v 12) + (2 : Int32) = nI (4 * N v 12 + 2) := by rw [lit_n 2, nI_add]
    have i3 : nI (4 * N v 12) + (3 : Int32) = nI (4 * N v 12 + 3) := by rw [lit_n 3, nI_add]
    obtain ⟨h1, eh1⟩ : ∃ h1, h1 = hset (hset (hset (hset (hset h 4 (4 * N v 12) (nI a)) 4 (4 * N v 12 + 1) (nI b)) 4 (4 * N v 12 + 2) (nI c)) 4 (4 * N v 12 + 3) (nI d)) 3 1 (nI (N v 12 + 1)) := ⟨_, rfl⟩
    have ea : f_X4_add 3 (nI a) (nI b) (nI c) (nI d) h = ((1 : Int32), h1) := by
      rw [f_X4_add, hsz h r, if_pos (show nI (N v 12) < (8 : Int32) from nI_lt (b := 8) hn8 (by decide)), i0, put_n (by omega), tb_s, hset_oth (by omega), hsz h r, i0, nI_1, put_n (by omega), tb_s, hset_oth (by omega), hset_oth (by omega), hsz h r, i0, i2, put_n (by omega), tb_s, hset_oth (by omega), hset_oth (by omega), hset_oth (by omega), hsz h r, i0, i3, put_n (by omega), tb_s, hset_oth (by omega), hset_oth (by omega), hset_oth (by omega), hset_oth (by omega), hsz h r, nI_1, eh1]
    have fr : ∀ o, o ≠ 3 → o ≠ 4 → h1 o = h o := fun o h3 h4 => by
      rw [eh1, hset_sR, sR_o h3, hset_sR, sR_o h4, hset_sR, sR_o h4, hset_sR, sR_o h4, hset_sR, sR_o h4]
    have n12 : N (scV v (N v 12) a b c d) 12 = N v 12 + 1 := by
      rw [N, scV_12, nI_clamp (by omega)]
    have r1 : R h1 1 (scV v (N v 12) a b c d) := by
      refine r.newC (fun o _ _ h3 h4 => fr o h3 h4) ev ⟨?_, fun k hk => ?_⟩
      · rw [scV_12, eh1]
        exact hset_same
      · rw [n12] at hk
        show h1 4 k = _
        rw [eh1, hset_oth (by omega)]
        by_cases q3 : k = 4 * N v 12 + 3
        · subst q3
          rw [hset_same, ← scV_3 (v := v) (n := N v 12) (a := a) (b := b) (c := c) (d := d)]
          rfl
        · rw [hset_oth (by omega)]
          by_cases q2 : k = 4 * N v 12 + 2
          · subst q2
            rw [hset_same, ← scV_2 (v := v) (n := N v 12) (a := a) (b := b) (c := c) (d := d)]
            rfl
          · rw [hset_oth (by omega)]
            by_cases q1 : k = 4 * N v 12 + 1
            · subst q1
              rw [hset_same, ← scV_1 (v := v) (n := N v 12) (a := a) (b := b) (c := c) (d := d)]
              rfl
            · rw [hset_oth (by omega)]
              by_cases q0 : k = 4 * N v 12
              · subst q0
                rw [hset_same, scV_0]
              · rw [hset_oth (by omega), scV_o (by omega) (by omega)]
                exact r.2.2.1.2 k (by omega)
    obtain ⟨h', a1, a2, a3, a4⟩ := c_afterC wf' r1 (sv.of (fun o h1 h2 => fr o (by omega) (by omega)))
    refine ⟨h', ?_, a2, a3, fun o ho => (a4 o (by omega)).trans (fr o (by omega) (by omega))⟩
    rw [f_X10_addScratch, e1, tb_s, e2, tb_s, if_neg (by decide), if_neg (by decide), ea, tb_s, if_neg (show ¬ (1 : Int32) = 0 by decide)]
    exact a1
theorem a_polish {T : Nat} {v : Nat → Int32} {k m : Nat} (wf : WF T v) (hk : k < N v 12) (hm : N v 12 = m + 1) : WF T (plV v m k) ∧ (∀ i, i < 12 ∨ 45 ≤ i → plV v m k i = v i) ∧ Ay v (plV v m k) (dmC (plV v m k)) (Cl (f_X10_polishAway (nI k))) := by
  have ws := wf.1
  have wc := wf.2.2.1
  have hn := wc.1.2.1
  have hsz : ∀ h, R h 1 v → h 3 1 = nI (N v 12) := fun h r => r.2.2.1.1.trans wc.1.2.2
  have wc' := plV_wc (x := k) wc hm (by omega)
  have ev : ∀ i, i < 12 ∨ 45 ≤ i → plV v m k i = v i := fun i hi => plV_o (by omega) (by omega) (by omega)
  have wf' : WF T (plV v m k) := wf.newC (Nat.le_refl _) ev wc'
  have n12 : N (plV v m k) 12 = m := by
    rw [N, plV_12, nI_clamp (by omega)]
  refine ⟨wf', ev, Ay.of wf (dmC_0 wf') (fun h r sv => ?_)⟩
  have hh : f_X4_has 3 (nI k) h = 1 := by
    rw [f_X4_has, if_neg (nI_pos (by omega)), hsz h r, if_neg (nI_ge hk (by omega))]
  obtain ⟨h1, a1, a2, a3, a4⟩ := c_drop_L13 (28 - 4 * k) FU (4 * k) h (by omega) (Nat.lt_of_le_of_lt (show 28 - 4 * k ≤ 28 by omega) (by decide))
  have ed : f_X4_drop 3 (nI k) h = some (hset h1 3 1 (nI m)) := by
    rw [f_X4_drop, hh, if_neg (by decide), show nI k * (4 : Int32) = nI (4 * k) by rw [lit_n 4, pk_mul, Nat.mul_comm], ob_e a1, a4 3 (by decide), hsz h r, hm, nI_pred]
  have fr : ∀ o, o ≠ 3 → o ≠ 4 → hset h1 3 1 (nI m) o = h o := fun o h3 h4 => by
    rw [hset_sR, sR_o h3, a4 o h4]
  have r1 : R (hset h1 3 1 (nI m)) 1 (plV v m k) := by
    refine r.newC (fun o _ _ h3 h4 => fr o h3 h4) ev ⟨?_, fun i hi => ?_⟩
    · rw [plV_12]
      exact hset_same
    · rw [n12] at hi
      show hset h1 3 1 (nI m) 4 i = _
      rw [hset_oth (by omega)]
      by_cases q : i < 4 * k
      · rw [a3 i (by omega), plV_o (by omega) (by omega) (by omega)]
        exact r.2.2.1.2 i (by omega)
      · rw [a2 i (by omega) (by omega), plV_m (by omega) (by omega)]
        exact r.2.2.1.2 (i + 4) (by omega)
  obtain ⟨h', b1, b2, b3, b4⟩ := c_afterC wf' r1 (sv.of (fun o h1 h2 => fr o (by omega) (by omega)))
  refine ⟨h', ?_, b2, b3, fun o ho => (b4 o (by omega)).trans (fr o (by omega) (by omega))⟩
  rw [f_X10_polishAway, hh, if_neg (by decide), ob_e ed]
  exact b1
