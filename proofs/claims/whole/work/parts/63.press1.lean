/-! press as an order, and the call -/
theorem c_isPlace {x : Int32} {h h' : HP} : f_X10_isPlace x h = f_X11_in x (0 : Int32) (3 : Int32) h' := by
  rcases in_n (x := x) (a := 0) (b := 3) (by decide) (by decide) with ⟨j, _, hj, rfl, ei⟩ | ⟨hno, ei⟩
  · have ei : ∀ h, f_X11_in (nI j) (0 : Int32) (3 : Int32) h = 1 := ei
    rw [ei, f_X10_isPlace, if_neg (nI_pos (by omega)), if_neg (show ¬ (4 : Int32) ≤ nI j from nI_ge (b := 4) (by omega) (by decide))]
  · have ei : ∀ h, f_X11_in x (0 : Int32) (3 : Int32) h = 0 := ei
    rw [ei, f_X10_isPlace]
    by_cases q : x < 0
    · rw [if_pos q]
    · obtain ⟨j, hj, rfl⟩ := nI_of q
      rw [if_neg q, if_pos (show (4 : Int32) ≤ nI j from nI_le (a := 4) (Nat.lt_of_not_le fun e => hno ⟨j, by omega, e, rfl⟩) hj)]
theorem m_prT {j f p s : Nat} {h1 : HP} {K : HP → Option (Int32 × HP)} (hj : j < 40) : gd (inB ((46 : Int32) + ((3 : Int32) * nI j)) 166) (tb (hset h1 71 ((46 : Int32) + ((3 : Int32) * nI j)).toNatClampNeg (nI f)) (fun h157 => gd (inB (((46 : Int32) + ((3 : Int32) * nI j)) + (1 : Int32)) 166) (tb (hset h157 71 (((46 : Int32) + ((3 : Int32) * nI j)) + (1 : Int32)).toNatClampNeg (nI p)) (fun h172 => gd (inB (((46 : Int32) + ((3 : Int32) * nI j)) + (2 : Int32)) 166) (tb (hset h172 71 (((46 : Int32) + ((3 : Int32) * nI j)) + (2 : Int32)).toNatClampNeg (nI s)) (fun h189 => K h189)))))) = K (sR h1 71 (pe (h1 71) j f p s)) := by
  have i0 : ((46 : Int32) + ((3 : Int32) * nI j)) = nI (46 + 3 * j) := by rw [lit_n 46, lit_n 3, pk_mul, nI_add]
  have i2 : nI (46 + 3 * j) + (2 : Int32) = nI (46 + 3 * j + 2) := by rw [lit_n 2, nI_add]
  rw [i0, nI_1, i2, gd_t (inB_n (by omega) (by decide)), nI_clamp (by omega), tb_s, gd_t (inB_n (by omega) (by decide)), nI_clamp (by omega), tb_s, gd_t (inB_n (by omega) (by decide)), nI_clamp (by omega), tb_s, hset_sR, hset_sR, hset_sR, sR_2, sR_2, sR_s, sR_s]
  rfl
theorem m_prL {j m : Nat} {h : HP} (hj : j < 40) (hm : m < 40) (e45 : h 71 45 = nI m) : f_X11_presses_L209 FU (nI j) (0 : Int32) h = some (sR h 71 (dr3 (h 71) j m)) := by
  have step : ∀ n k (h : HP), k < 3 → h 71 45 = nI m → f_X11_presses_L209 (n + 1) (nI j) (nI k) h = f_X11_presses_L209 n (nI j) (nI (k + 1)) (sR h 71 (dr (h 71) j m k)) := by
    intro n k h hk e
    have ij : (((46 : Int32) + ((3 : Int32) * nI j)) + nI k) = nI (46 + 3 * j + k) := by rw [lit_n 46, lit_n 3, pk_mul, nI_add, nI_add]
    have im : (((46 : Int32) + ((3 : Int32) * nI m)) + nI k) = nI (46 + 3 * m + k) := by rw [lit_n 46, lit_n 3, pk_mul, nI_add, nI_add]
    rw [f_X11_presses_L209, if_neg (show ¬ (3 : Int32) ≤ nI k from nI_ge (b := 3) hk (by decide)), e, im, ij, gd_t (inB_n (by omega) (by decide)), gd_t (inB_n (by omega) (by decide)), nI_clamp (by omega), nI_clamp (by omega), tb_s, hset_oth (by omega), e, im, gd_t (inB_n (by omega) (by decide)), nI_clamp (by omega), nI_1, hset_sR, hset_sR, sR_2, sR_s]
    rfl
  show f_X11_presses_L209 (999996 + 1 + 1 + 1 + 1) (nI j) (nI 0) h = _
  rw [step _ 0 _ (by decide) e45, step _ 1 _ (by decide) (by rw [sR_s, dr_lo (by decide)]; exact e45), step _ 2 _ (by decide) (by rw [sR_s, dr_lo (by decide), sR_s, dr_lo (by decide)]; exact e45), f_X11_presses_L209, if_pos (by decide), sR_2, sR_2, sR_s, sR_s]
  rfl
theorem dSy_no {v : Nat → Int32} {f p : Nat} (h : FIX v f p = none) : dSy v f p = nI ((7 * f + 3 * p) % 16) := by
  unfold dSy
  rw [h]
theorem fiN_eq {u v : Nat → Int32} {f p : Nat} (e : E6 u v) : ∀ k j, j + k ≤ 40 → fiN u f p k j = fiN v f p k j := by
  intro k
  induction k with
  | zero => intro j _; rfl
  | succ k ih =>
    intro j hj
    rw [fiN, fiN, e (46 + 3 * j) (by omega), e (46 + 3 * j + 1) (by omega), ih (j + 1) (by omega)]
theorem FIX_eq {u v : Nat → Int32} {f p : Nat} (e : E6 u v) (w : WP v) : FIX u f p = FIX v f p := by
  have := w.1.2.1
  unfold FIX
  rw [e.n (by decide), fiN_eq e _ _ (by omega)]
theorem dSy_eq {u v : Nat → Int32} {f p : Nat} (e : E6 u v) (w : WP v) : dSy u f p = dSy v f p := by
  have hn := w.1.2.1
  unfold dSy
  rw [FIX_eq e w]
  cases hi : FIX v f p with
  | none => rfl
  | some i =>
    have h1 := fiN_some _ _ hi
    exact e _ (by omega)
theorem sy_eq {u v : Nat → Int32} {f p : Nat} (e : E6 u v) (w : WP v) : sy u f p = sy v f p := by
  unfold sy suSy
  rw [dSy_eq e w, dSy_eq e w, dSy_eq e w, dSy_eq e w, dSy_eq e w]
theorem op_press {T : Nat} {v : Nat → Int32} {x y z : Int32} (wf : WF T v) : Op false T v (f_X10_pressSymbol x y z) (f_X11_presses x y z) := by
  have ws := wf.1
  have wc := wf.2.2.1
  have wp := wf.2.2.2
  have hn := wp.1.2.1
  have p3 : TOT v ≤ 3810 := (FM_tot ws.fm).2.1
  have err : ∀ r : Int32, ¬ 0 ≤ r → (∀ h, R h 1 v → f_X10_pressSymbol x y z h = some (r, h)) → (∀ g, E6 (g 71) v → f_X11_presses x y z g = some (r, g)) → Op false T v (f_X10_pressSymbol x y z) (f_X11_presses x y z) := fun r hr c m => ⟨r, r, v, fun h r1 sv => ⟨h, c h r1, r1, sv, fun _ _ => rfl⟩, fun g eg => ⟨g, m g eg, eg, fun _ _ _ => rfl⟩, wf.mono (by omega), Or.inl ⟨hr, rfl, rfl⟩⟩
  by_cases hx : ∃ f, f < TOT v ∧ x = nI f
  · obtain ⟨f, hf, rfl⟩ := hx
    have ch : ∀ h, R h 1 v → f_X5_hasFrame 2 (nI f) h = 1 := fun h r => c_hasFrame_y (ws.ge r.1) ws.fm hf
    have mh : ∀ g, E6 (g 71) v → f_X11_isFrame (nI f) g = 1 := fun g eg => m_has eg ws hf
    rcases in_n (x := y) (a := 0) (b := 3) (by decide) (by decide) with ⟨p, _, hp, rfl, ep⟩ | ⟨_, ep⟩
    · have ep : ∀ h, f_X11_in (nI p) (0 : Int32) (3 : Int32) h = 1 := ep
      have cp : ∀ h, f_X10_isPlace (nI p) h = 1 := fun h => (c_isPlace (h' := h)).trans (ep h)
      rcases in_n (x := z) (a := 0) (b := 15) (by decide) (by decide) with ⟨s, _, hs, rfl, es⟩ | ⟨hno, es⟩
      · have es : ∀ h, f_X11_in (nI s) (0 : Int32) (15 : Int32) h = 1 := es
        have c1 : ¬ nI s < 0 := nI_pos (by omega)
        have c2 : nI s < (16 : Int32) := nI_lt (b := 16) (by omega) (by decide)
        by_cases h4 : f % 5 = 4
        · have ck : ∀ h, f_X5_isCheck (nI f) h = 1 := fun h => (c_isCheck (by omega)).trans (if_pos h4)
          refine err (-4) (by decide) (fun h r => ?_) (fun g eg => ?_)
          · rw [f_X10_pressSymbol, ch h r, if_neg (by decide), cp, if_neg (by decide), if_neg c1, if_pos c2, ck, if_neg (by decide)]
          · rw [f_X11_presses, mh g eg, if_neg (by decide), ep, if_neg (by decide), es, if_neg (by decide), m_isCheck, ck, if_neg (by decide)]
        · have ck : ∀ h, f_X5_isCheck (nI f) h = 0 := fun h => (c_isCheck (by omega)).trans (if_neg h4)
          obtain ⟨s0, hs0, ed⟩ := dSy_n (f := f) (q := p) wp
          have cd : ∀ h, R h 1 v → f_X8_standsAt 5 (nI f) (nI p) h = some (nI s0) := fun h r => by
            have := c_standsAt (o := 1) (f := f) (q := p) (by decide) wp r.2.2.2 (by omega) (by omega)
            rw [sy, if_neg h4, ed] at this
            exact this
          have md : ∀ g, E6 (g 71) v → f_X11_dataSymbol (nI f) (nI p) g = some (nI s0) := fun g eg => by
            rw [m_dataSymbol (eg.symm.wp wp) rfl (by omega) (by omega), dSy_eq eg wp, ed]
          have mfi : ∀ g, E6 (g 71) v → f_X11_findPressed (nI f) (nI p) g = some (match FIX v f p with | some i => nI i | none => (-5 : Int32)) := fun g eg => by
            rw [m_findPressed (eg.symm.wp wp) rfl, FIX_eq eg wp]
            rfl
          by_cases qs : nI s0 = nI s
          · refine err (-5) (by decide) (fun h r => ?_) (fun g eg => ?_)
            · rw [f_X10_pressSymbol, ch h r, if_neg (by decide), cp, if_neg (by decide), if_neg c1, if_pos c2, ck, if_pos rfl, ob_e (cd h r), if_pos qs]
            · rw [f_X11_presses, mh g eg, if_neg (by decide), ep, if_neg (by decide), es, if_neg (by decide), m_isCheck, ck, if_pos rfl, ob_e (md g eg), if_pos qs]
          · have hr : (0 : Int32) ≤ nI s0 := nI_pos' (by omega)
            have cpr : ∀ h q, R h 1 v → f_X8_write 5 (nI f) (nI p) (nI s) h = some ((1 : Int32), q) → f_X10_pressSymbol (nI f) (nI p) (nI s) h = some (nI s0, q) := fun h q r e => by
              rw [f_X10_pressSymbol, ch h r, if_neg (by decide), cp, if_neg (by decide), if_neg c1, if_pos c2, ck, if_pos rfl, ob_e (cd h r), if_neg qs, ob_e e, if_neg (show ¬ (1 : Int32) = 0 by decide)]
            have cix : ∀ h, R h 1 v → f_X8_indexOf 5 (nI f * (4 : Int32) + nI p) h = some (match FIX v f p with | some i => nI i | none => (-1 : Int32)) := fun h r => c_indexOf (o := 1) wp r.2.2.2 (by omega) (by omega)
            have caf : ∀ h, f_X8_atFirst (nI f) (nI p) h = nI ((7 * f + 3 * p) % 16) := fun h => c_atFirst (by omega) (by omega)
            have hsz : ∀ h, R h 1 v → h 5 2 = nI (N v 45) := fun h r => r.2.2.2.1.trans wp.1.2.2
            have e45 : ∀ g : HP, E6 (g 71) v → g 71 45 = nI (N v 45) := fun g eg => (eg 45 (by decide)).trans wp.1.2.2
            have lset : ∀ {h : HP} {a j : Nat} {x y : Int32}, a ≠ 6 → a ≠ 7 → hset (hset h 6 j x) 7 j y a = h a := fun h6 h7 => by rw [hset_sR, sR_o h7, hset_sR, sR_o h6]
            cases hi : FIX v f p with
            | none =>
              have es0 : nI s0 = nI ((7 * f + 3 * p) % 16) := by rw [← ed, dSy_no hi]
              have qa : ¬ nI s = nI ((7 * f + 3 * p) % 16) := fun e => qs (es0.trans e.symm)
              by_cases q40 : N v 45 = 40
              · refine err (-3) (by decide) (fun h r => ?_) (fun g eg => ?_)
                · have cix := cix h r
                  rw [hi] at cix
                  have ew : f_X8_write 5 (nI f) (nI p) (nI s) h = some ((0 : Int32), h) := by
                    rw [f_X8_write, ob_e cix, caf, if_neg qa, if_neg (by decide), hsz h r, q40, if_neg (by decide)]
                  rw [f_X10_pressSymbol, ch h r, if_neg (by decide), cp, if_neg (by decide), if_neg c1, if_pos c2, ck, if_pos rfl, ob_e (cd h r), if_neg qs, ob_e ew, if_pos (show (0 : Int32) = 0 from rfl)]
                · have mfi := mfi g eg
                  rw [hi] at mfi
                  rw [f_X11_presses, mh g eg, if_neg (by decide), ep, if_neg (by decide), es, if_neg (by decide), m_isCheck, ck, if_pos rfl, ob_e (md g eg), if_neg qs, ob_e mfi, if_pos (show (-5 : Int32) = -5 from rfl), e45 g eg, q40, if_pos (show nI 40 = (40 : Int32) from rfl)]
              · have lo : ∀ i, i < 45 → prA v (N v 45 + 1) (N v 45) f p s i = v i := fun i hi => prA_lo hi
                refine ⟨nI s0, nI s0, prA v (N v 45 + 1) (N v 45) f p s, fun h r sv => ?_, fun g eg => ?_, ?_, Or.inr ⟨hr, hr, (fun e => by simp at e), fun _ => rfl⟩⟩
                · have cix := cix h r
                  rw [hi] at cix
                  have ew : f_X8_write 5 (nI f) (nI p) (nI s) h = some ((1 : Int32), hset (hset (hset h 5 2 (nI (N v 45 + 1))) 6 (N v 45) (nI f * (4 : Int32) + nI p)) 7 (N v 45) (nI s)) := by
                    have l6 : N v 45 < ln 6 := Nat.lt_of_lt_of_eq (show N v 45 < 40 by omega) (by decide)
                    have l7 : N v 45 < ln 7 := Nat.lt_of_lt_of_eq (show N v 45 < 40 by omega) (by decide)
                    rw [f_X8_write, ob_e cix, caf, if_neg qa, if_neg (by decide), hsz h r, if_pos (show nI (N v 45) < (40 : Int32) from nI_lt (b := 40) (by omega) (by decide)), if_neg (by decide), tb_s, nI_1, put_n l6, tb_s, put_n l7, tb_s]
                  refine ⟨_, cpr h _ r ew, r.newP wc (fun a h1 h2 h3 h4 h5 => ?_) lo (prA_rp (by omega) hset_same (fun k hk hne => ?_)), sv.of (fun o h1 h2 => ?_), fun o ho => ?_⟩
                  · rw [lset (by omega) (by omega), hset_sR, sR_o (by omega)]
                  · rw [hset_oth (by omega), hset_oth (by omega)]
                    exact r.2.2.2.2 k (by omega)
                  · rw [lset (by omega) (by omega), hset_sR, sR_o (by omega)]
                  · rw [lset (by omega) (by omega), hset_sR, sR_o (by omega)]
                · have mfi := mfi g eg
                  rw [hi] at mfi
                  refine ⟨sR (hset g 71 45 (nI (N v 45 + 1))) 71 (pe (hset g 71 45 (nI (N v 45 + 1)) 71) (N v 45) f p s), ?_, ?_, fun o h1 _ => by rw [sR_o h1, hset_sR, sR_o h1]⟩
                  · rw [f_X11_presses, mh g eg, if_neg (by decide), ep, if_neg (by decide), es, if_neg (by decide), m_isCheck, ck, if_pos rfl, ob_e (md g eg), if_neg qs, ob_e mfi, if_pos (show (-5 : Int32) = -5 from rfl), e45 g eg, if_neg (show ¬ nI (N v 45) = (40 : Int32) from fun e => q40 ((nI_eq (b := 40) (by omega) (by decide)).mp e)), if_pos (show (-5 : Int32) = -5 from rfl), tb_s, if_pos rfl, nI_1, tb_s]
                    refine (m_prT (by omega)).trans ?_
                    rw [m_atFirst, caf, if_neg qa]
                  · rw [sR_s, hset_sR, sR_s]
                    exact eg.upk.pe'
                · have wp' : WP (prA v (N v 45 + 1) (N v 45) f p s) := prA_wp (by omega) (by omega) h4 (by omega) (by omega) (fun k hk hne => wp.2 k (by omega))
                  exact ⟨(ws.eq (fun i hi => lo i (by omega))), (wf.2.1.eq (fun i hi => lo i (by omega))) |> fun w => ⟨w.1, w.2.1, w.2.2.1.mono (by omega), w.2.2.2.1.mono (by omega), w.2.2.2.2.1.mono (by omega), w.2.2.2.2.2.mono (by omega)⟩, wc.eq (fun i _ hi => lo i hi), wp'⟩
            | some j =>
              have hj := fiN_some _ _ hi
              have hjn : j < N v 45 := by omega
              have l6 : j < ln 6 := Nat.lt_of_lt_of_eq (show j < 40 by omega) (by decide)
              have l7 : j < ln 7 := Nat.lt_of_lt_of_eq (show j < 40 by omega) (by decide)
              have ne5 : ¬ nI j = (-5 : Int32) := fun e => by
                have := nI_pos (n := j) (by omega)
                rw [e] at this
                exact this (by decide)
              have nen : ¬ nI j = nI (N v 45) := fun e => by
                have := (nI_eq (by omega) (by omega)).mp e
                omega
              have mst : ∀ g, E6 (g 71) v → f_X11_presses (nI f) (nI p) (nI s) g = (if nI s = nI ((7 * f + 3 * p) % 16) then ob (f_X11_presses_L209 FU (nI j) (0 : Int32) (hset (sR (hset g 71 45 (nI (N v 45))) 71 (pe (hset g 71 45 (nI (N v 45)) 71) j f p s)) 71 45 ((sR (hset g 71 45 (nI (N v 45))) 71 (pe (hset g 71 45 (nI (N v 45)) 71) j f p s) 71 45) - (1 : Int32)))) (fun q209 => some (nI s0, q209)) else some (nI s0, sR (hset g 71 45 (nI (N v 45))) 71 (pe (hset g 71 45 (nI (N v 45)) 71) j f p s))) := fun g eg => by
                have mfi := mfi g eg
                rw [hi] at mfi
                rw [f_X11_presses, mh g eg, if_neg (by decide), ep, if_neg (by decide), es, if_neg (by decide), m_isCheck, ck, if_pos rfl, ob_e (md g eg), if_neg qs, ob_e mfi]
                dsimp only
                rw [if_neg ne5, if_neg ne5, tb_s, e45 g eg, if_neg nen, tb_s]
                refine (m_prT (by omega)).trans ?_
                rw [m_atFirst, caf]
              by_cases qa : nI s = nI ((7 * f + 3 * p) % 16)
              · obtain ⟨m, hm⟩ : ∃ m, N v 45 = m + 1 := ⟨N v 45 - 1, by omega⟩
                have lo : ∀ i, i < 45 → prB v m j f p s i = v i := fun i hi => prB_lo hi
                refine ⟨nI s0, nI s0, prB v m j f p s, fun h r sv => ?_, fun g eg => ?_, ?_, Or.inr ⟨hr, hr, (fun e => by simp at e), fun _ => rfl⟩⟩
                · have cix := cix h r
                  rw [hi] at cix
                  have m6 : m < ln 6 := Nat.lt_of_lt_of_eq (show m < 40 by omega) (by decide)
                  have m7 : m < ln 7 := Nat.lt_of_lt_of_eq (show m < 40 by omega) (by decide)
                  have ed : f_X8_drop 5 (nI j) h = hset (hset (hset h 5 2 (nI m)) 6 j (h 6 m)) 7 j (h 7 m) := by
                    rw [f_X8_drop, if_neg (nI_pos (by omega)), hsz h r, if_pos (nI_lt hjn (by omega)), hm, nI_pred, tb_s, hset_same, at_n m6, hset_oth (by omega), put_n l6, tb_s, hset_oth (by omega), hset_same, at_n m7, hset_oth (by omega), hset_oth (by omega), put_n l7, tb_s]
                  have ew : f_X8_write 5 (nI f) (nI p) (nI s) h = some ((1 : Int32), hset (hset (hset h 5 2 (nI m)) 6 j (h 6 m)) 7 j (h 7 m)) := by
                    rw [f_X8_write, ob_e cix, caf, if_pos qa]
                    dsimp only
                    rw [ed, tb_s]
                  refine ⟨_, cpr h _ r ew, r.newP wc (fun a h1 h2 h3 h4 h5 => ?_) lo (prB_rp wp r.2.2.2 hm), sv.of (fun o h1 h2 => ?_), fun o ho => ?_⟩
                  · rw [lset (by omega) (by omega), hset_sR, sR_o (by omega)]
                  · rw [lset (by omega) (by omega), hset_sR, sR_o (by omega)]
                  · rw [lset (by omega) (by omega), hset_sR, sR_o (by omega)]
                · have e1 : sR (hset g 71 45 (nI (m + 1))) 71 (pe (hset g 71 45 (nI (m + 1)) 71) j f p s) 71 45 = nI (m + 1) := by
                    rw [sR_s, pe_o (by omega), hset_same]
                  have mst := mst g eg
                  rw [if_pos qa, hm, e1, nI_pred] at mst
                  refine ⟨_, mst.trans (ob_e (m_prL (m := m) (by omega) (by omega) hset_same)), ?_, fun o h1 _ => by rw [sR_o h1, hset_sR, sR_o h1, sR_o h1, hset_sR, sR_o h1]⟩
                  rw [sR_s, hset_sR, sR_s, sR_s, hset_sR, sR_s]
                  unfold prB dr3
                  exact ((eg.upk.pe'.upk.dr' (by omega)).dr' (by omega)).dr' (by omega)
                · exact ⟨(ws.eq (fun i hi => lo i (by omega))), (wf.2.1.eq (fun i hi => lo i (by omega))) |> fun w => ⟨w.1, w.2.1, w.2.2.1.mono (by omega), w.2.2.2.1.mono (by omega), w.2.2.2.2.1.mono (by omega), w.2.2.2.2.2.mono (by omega)⟩, wc.eq (fun i _ hi => lo i hi), prB_wp wp hm⟩
              · have lo : ∀ i, i < 45 → prA v (N v 45) j f p s i = v i := fun i hi => prA_lo hi
                refine ⟨nI s0, nI s0, prA v (N v 45) j f p s, fun h r sv => ?_, fun g eg => ?_, ?_, Or.inr ⟨hr, hr, (fun e => by simp at e), fun _ => rfl⟩⟩
                · have cix := cix h r
                  rw [hi] at cix
                  have ew : f_X8_write 5 (nI f) (nI p) (nI s) h = some ((1 : Int32), hset (hset h 6 j (nI f * (4 : Int32) + nI p)) 7 j (nI s)) := by
                    rw [f_X8_write, ob_e cix, caf, if_neg qa]
                    dsimp only
                    rw [if_pos (nI_pos' (by omega)), if_pos (nI_pos' (by omega)), tb_s, put_n l6, tb_s, put_n l7, tb_s]
                  refine ⟨_, cpr h _ r ew, r.newP wc (fun a h1 h2 h3 h4 h5 => ?_) lo (prA_rp (by omega) (hsz h r) (fun k hk hne => ?_)), sv.of (fun o h1 h2 => ?_), fun o ho => ?_⟩
                  · rw [lset (by omega) (by omega)]
                  · exact r.2.2.2.2 k (by omega)
                  · rw [lset (by omega) (by omega)]
                  · rw [lset (by omega) (by omega)]
                · have mst := mst g eg
                  rw [if_neg qa] at mst
                  refine ⟨_, mst, ?_, fun o h1 _ => by rw [sR_o h1, hset_sR, sR_o h1]⟩
                  rw [sR_s, hset_sR, sR_s]
                  exact eg.upk.pe'
                · have wp' : WP (prA v (N v 45) j f p s) := prA_wp (by omega) (by omega) h4 (by omega) (by omega) (fun k hk hne => wp.2 k (by omega))
                  exact ⟨(ws.eq (fun i hi => lo i (by omega))), (wf.2.1.eq (fun i hi => lo i (by omega))) |> fun w => ⟨w.1, w.2.1, w.2.2.1.mono (by omega), w.2.2.2.1.mono (by omega), w.2.2.2.2.1.mono (by omega), w.2.2.2.2.2.mono (by omega)⟩, wc.eq (fun i _ hi => lo i hi), wp'⟩
      · have es : ∀ h, f_X11_in z (0 : Int32) (15 : Int32) h = 0 := es
        refine err (-2) (by decide) (fun h r => ?_) (fun g eg => ?_)
        · rw [f_X10_pressSymbol, ch h r, if_neg (by decide), cp, if_neg (by decide)]
          by_cases q : z < 0
          · rw [if_pos q]
          · obtain ⟨j, hj, rfl⟩ := nI_of q
            rw [if_neg q, if_neg (show ¬ nI j < (16 : Int32) from nI_nlt (a := j) (b := 16) (Nat.lt_of_not_le fun e => hno ⟨j, by omega, by omega, rfl⟩) hj)]
        · rw [f_X11_presses, mh g eg, if_neg (by decide), ep, if_neg (by decide), es, if_pos rfl]
    · have ep : ∀ h, f_X11_in y (0 : Int32) (3 : Int32) h = 0 := ep
      refine err (-2) (by decide) (fun h r => ?_) (fun g eg => ?_)
      · rw [f_X10_pressSymbol, ch h r, if_neg (by decide), c_isPlace (h' := h), ep, if_pos rfl]
      · rw [f_X11_presses, mh g eg, if_neg (by decide), ep, if_pos rfl]
  · refine err (-1) (by decide) (fun h r => ?_) (fun g eg => ?_)
    · rw [f_X10_pressSymbol, c_hasNo (ws.ge r.1) ws.fm hx, if_pos rfl]
    · rw [f_X11_presses, m_hasNo eg ws hx, if_pos rfl]
theorem two_press {T : Nat} {h : HP} {x y z : Int32} (inv : Inv T h) : Two T h (f_X10_press x y z) (f_X11_press x y z) := two_act inv (fun _ wf => op_press wf)
