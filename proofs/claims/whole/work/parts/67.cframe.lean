/-! the call frame -/
theorem two_frame {T : Nat} {h : HP} {x y : Int32} (inv : Inv T h) : Two T h (f_X10_frame x y) (f_X11_frame x y) := by
  obtain ⟨v, n, H, kb, kv, L, tx, ki, mi, wa⟩ := inv
  have wf := wa.1
  have ws := wf.1
  have wc := wf.2.2.1
  have hT := FM_tot ws.fm
  have p3 : TOT v ≤ 3810 := hT.2.1
  have p5 : TOT v % 5 = 0 := hT.2.2
  by_cases hx : ∃ f, f < TOT v ∧ x = nI f
  · obtain ⟨f, hf, rfl⟩ := hx
    have ch : f_X5_hasFrame 2 (nI f) h = 1 := c_hasFrame_y (ws.ge ki.1.1) ws.fm hf
    have mh : ∀ g : HP, E6 (g 71) v → f_X11_isFrame (nI f) g = 1 := fun g eg => m_has eg ws hf
    have cge := ws.ge ki.1.1
    have mge : ∀ g : HP, E6 (g 71) v → GE (N v 0) (N v 1) g 71 := fun g eg => eg.ge ws
    have tt : ∀ g : HP, E6 (g 71) v → TOT (g 71) = TOT v := fun g eg => (eg.lk wc).tot
    have ht : TU (N v 0) (N v 1) f < 1000 := Nat.lt_of_le_of_lt TU_le (by decide)
    obtain ⟨h1, o1, o2, o3⟩ := c_of ws wc ki.1.1 ki.1.2.2.1 ki.2.1
    have svh : SV h1 := ⟨v, ws, wc, o2⟩
    have ag : f_X5_groups 2 h = nI (TOT v / 5) := c_groups cge ws.fm
    have l67 : ln 67 = 3810 := by decide
    have l68 : ln 68 = 3810 := by decide
    by_cases n0 : y = 0
    · subst n0
      refine two_query (r := nI (TU (N v 0) (N v 1) f)) (h1 := h) ki mi wa ?_ ki.2.1 (fun _ _ => rfl) (fun g eg wg rg => ?_)
      · rw [f_X10_frame, ch, if_neg (show ¬ (1 : Int32) = 0 by decide), if_pos (show (0 : Int32) = 0 from rfl), ob_e (c_turnOf cge ws.fm (by omega))]
      · rw [f_X11_frame, mh g eg, if_neg (show ¬ (1 : Int32) = 0 by decide)]
        refine m_q wf eg (fun q eq mb fq => ?_)
        rw [if_pos (show (0 : Int32) = 0 from rfl), m_turnOf, ob_e (c_turnOf (mge q (eq ▸ eg)) ws.fm (by omega))]
    by_cases n1 : y = 1
    · subst n1
      refine two_query (r := nI f - nI (STn (N v 0) (N v 1) (TU (N v 0) (N v 1) f))) (h1 := h) ki mi wa ?_ ki.2.1 (fun _ _ => rfl) (fun g eg wg rg => ?_)
      · rw [f_X10_frame, ch, if_neg (show ¬ (1 : Int32) = 0 by decide), if_neg (show ¬ (1 : Int32) = 0 by decide), if_pos (show (1 : Int32) = 1 from rfl), ob_e (c_turnOf cge ws.fm (by omega)), c_firstOf cge ht]
      · rw [f_X11_frame, mh g eg, if_neg (show ¬ (1 : Int32) = 0 by decide)]
        refine m_q wf eg (fun q eq mb fq => ?_)
        rw [if_neg (show ¬ (1 : Int32) = 0 by decide), if_pos (show (1 : Int32) = 1 from rfl), m_turnOf, ob_e (c_turnOf (mge q (eq ▸ eg)) ws.fm (by omega)), m_start, c_firstOf (mge q (eq ▸ eg)) ht]
    by_cases n2 : y = 2
    · subst n2
      refine two_query (r := nI (f / 5)) (h1 := h) ki mi wa ?_ ki.2.1 (fun _ _ => rfl) (fun g eg wg rg => ?_)
      · rw [f_X10_frame, ch, if_neg (show ¬ (1 : Int32) = 0 by decide), if_neg (show ¬ (2 : Int32) = 0 by decide), if_neg (show ¬ (2 : Int32) = 1 by decide), if_pos (show (2 : Int32) = 2 from rfl), f_X5_groupOf, ag, lit_n 5, pk_div (by omega) (by decide) (by decide), if_neg (nI_ge (show f / 5 < TOT v / 5 by omega) (by omega))]
      · rw [f_X11_frame, mh g eg, if_neg (show ¬ (1 : Int32) = 0 by decide)]
        refine m_q wf eg (fun q eq mb fq => ?_)
        have hg : f_X11_hasGroup (nI f) q = 1 := by
          have a0 : f_X11_frames q = nI (TOT v) := by
            rw [m_frames]
            exact c_allFrames (mge q (eq ▸ eg))
          rw [f_X11_hasGroup, a0, lit_n 5, pk_div (by omega) (by decide) (by decide), pk_div (by omega) (by decide) (by decide)]
          exact if_neg (nI_ge (show f / 5 < TOT v / 5 by omega) (by omega))
        rw [if_neg (show ¬ (2 : Int32) = 0 by decide), if_neg (show ¬ (2 : Int32) = 1 by decide), if_pos (show (2 : Int32) = 2 from rfl), hg, if_neg (show ¬ (1 : Int32) = 0 by decide), lit_n 5, pk_div (by omega) (by decide) (by decide)]
    by_cases n3 : y = 3
    · subst n3
      refine two_query (r := if f % 5 = 4 then 1 else 0) (h1 := h) ki mi wa ?_ ki.2.1 (fun _ _ => rfl) (fun g eg wg rg => ?_)
      · rw [f_X10_frame, ch, if_neg (show ¬ (1 : Int32) = 0 by decide), if_neg (show ¬ (3 : Int32) = 0 by decide), if_neg (show ¬ (3 : Int32) = 1 by decide), if_neg (show ¬ (3 : Int32) = 2 by decide), if_pos (show (3 : Int32) = 3 from rfl), c_isCheck (by omega)]
        by_cases q4 : f % 5 = 4
        · rw [if_pos q4, if_neg (show ¬ (1 : Int32) = 0 by decide)]
        · rw [if_neg q4, if_pos (show (0 : Int32) = 0 from rfl)]
      · rw [f_X11_frame, mh g eg, if_neg (show ¬ (1 : Int32) = 0 by decide)]
        refine m_q wf eg (fun q eq mb fq => ?_)
        rw [if_neg (show ¬ (3 : Int32) = 0 by decide), if_neg (show ¬ (3 : Int32) = 1 by decide), if_neg (show ¬ (3 : Int32) = 2 by decide), if_pos (show (3 : Int32) = 3 from rfl), m_isCheck, c_isCheck (by omega)]
        by_cases q4 : f % 5 = 4
        · rw [if_pos q4, if_neg (show ¬ (1 : Int32) = 0 by decide)]
        · rw [if_neg q4, if_pos (show (0 : Int32) = 0 from rfl)]
    by_cases n4 : y = 4
    · subst n4
      refine two_query (r := bI (lyV v (-5) f)) (h1 := h1) ki mi wa ?_ svh (fun o ho => o3 o (by omega)) (fun g eg wg rg => ?_)
      · have dm := MS_all wc o2.2.1 f (by omega)
        rw [and_m1] at dm
        have dm : h1 67 f = 0 ↔ (decide (f < TOT v) && lyV v (-5) f) = false := dm
        rw [decide_eq_true hf, Bool.true_and] at dm
        rw [f_X10_frame, ch, if_neg (show ¬ (1 : Int32) = 0 by decide), if_neg (show ¬ (4 : Int32) = 0 by decide), if_neg (show ¬ (4 : Int32) = 1 by decide), if_neg (show ¬ (4 : Int32) = 2 by decide), if_neg (show ¬ (4 : Int32) = 3 by decide), if_pos (show (4 : Int32) = 4 from rfl), ob_e o1, f_X7_isDamaged, at_n (by omega)]
        cases hb : lyV v (-5) f with
        | false => rw [if_pos (dm.mpr hb), if_pos (show (0 : Int32) = 0 from rfl)]; rfl
        | true => rw [if_neg (fun e => Bool.noConfusion (hb.symm.trans (dm.mp e))), if_neg (show ¬ (1 : Int32) = 0 by decide)]; rfl
      · rw [f_X11_frame, mh g eg, if_neg (show ¬ (1 : Int32) = 0 by decide)]
        refine m_q wf eg (fun q eq mb fq => ?_)
        rw [if_neg (show ¬ (4 : Int32) = 0 by decide), if_neg (show ¬ (4 : Int32) = 1 by decide), if_neg (show ¬ (4 : Int32) = 2 by decide), if_neg (show ¬ (4 : Int32) = 3 by decide), if_pos (show (4 : Int32) = 4 from rfl), gd_t (inB_n (by omega) (by decide)), nI_clamp (by omega), mb.2 f (by rw [tt g eg]; exact hf)]
        cases lyV v (-5) f with
        | false => rw [if_pos (show bI false = 0 by decide)]; rfl
        | true => rw [if_neg (show ¬ bI true = 0 by decide)]; rfl
    by_cases n5 : y = 5
    · subst n5
      refine two_query (r := nI (how (lyV v (-5)) (TOT v) f)) (h1 := h1) ki mi wa ?_ svh (fun o ho => o3 o (by omega)) (fun g eg wg rg => ?_)
      · rw [f_X10_frame, ch, if_neg (show ¬ (1 : Int32) = 0 by decide), if_neg (show ¬ (5 : Int32) = 0 by decide), if_neg (show ¬ (5 : Int32) = 1 by decide), if_neg (show ¬ (5 : Int32) = 2 by decide), if_neg (show ¬ (5 : Int32) = 3 by decide), if_neg (show ¬ (5 : Int32) = 4 by decide), if_pos (show (5 : Int32) = 5 from rfl), ob_e o1, f_X7_howIs, at_n (by omega), o2.2.2 f hf]
      · rw [f_X11_frame, mh g eg, if_neg (show ¬ (1 : Int32) = 0 by decide)]
        refine m_q wf eg (fun q eq mb fq => ?_)
        have mhow : f_X11_how (nI f) q = some (nI (how (lyV v (-5)) (TOT v) f)) := by
          rw [m_how wg.1 mb (by rw [tt g eg]; exact hf), tt g eg]
        rw [if_neg (show ¬ (5 : Int32) = 0 by decide), if_neg (show ¬ (5 : Int32) = 1 by decide), if_neg (show ¬ (5 : Int32) = 2 by decide), if_neg (show ¬ (5 : Int32) = 3 by decide), if_neg (show ¬ (5 : Int32) = 4 by decide), if_pos (show (5 : Int32) = 5 from rfl), ob_e mhow]
    by_cases n6 : y = 6
    · subst n6
      refine two_query (r := nI (pT v f + fT v f)) (h1 := h) ki mi wa ?_ ki.2.1 (fun _ _ => rfl) (fun g eg wg rg => ?_)
      · rw [f_X10_frame, ch, if_neg (show ¬ (1 : Int32) = 0 by decide), if_neg (show ¬ (6 : Int32) = 0 by decide), if_neg (show ¬ (6 : Int32) = 1 by decide), if_neg (show ¬ (6 : Int32) = 2 by decide), if_neg (show ¬ (6 : Int32) = 3 by decide), if_neg (show ¬ (6 : Int32) = 4 by decide), if_neg (show ¬ (6 : Int32) = 5 by decide), if_pos (show (6 : Int32) = 6 from rfl), ob_e (c_length wf ki.1 (by omega))]
      · rw [f_X11_frame, mh g eg, if_neg (show ¬ (1 : Int32) = 0 by decide)]
        refine m_q wf eg (fun q eq mb fq => ?_)
        rw [if_neg (show ¬ (6 : Int32) = 0 by decide), if_neg (show ¬ (6 : Int32) = 1 by decide), if_neg (show ¬ (6 : Int32) = 2 by decide), if_neg (show ¬ (6 : Int32) = 3 by decide), if_neg (show ¬ (6 : Int32) = 4 by decide), if_neg (show ¬ (6 : Int32) = 5 by decide), if_pos (show (6 : Int32) = 6 from rfl), ob_e (m_pits wf (eq ▸ eg) (by omega)), ob_e (m_flats wf (eq ▸ eg) (by omega)), nI_add]
    by_cases n7 : y = 7
    · subst n7
      refine two_query (r := zI ((pT v f : Int) - fT v f) + (100 : Int32)) (h1 := h) ki mi wa ?_ ki.2.1 (fun _ _ => rfl) (fun g eg wg rg => ?_)
      · rw [f_X10_frame, ch, if_neg (show ¬ (1 : Int32) = 0 by decide), if_neg (show ¬ (7 : Int32) = 0 by decide), if_neg (show ¬ (7 : Int32) = 1 by decide), if_neg (show ¬ (7 : Int32) = 2 by decide), if_neg (show ¬ (7 : Int32) = 3 by decide), if_neg (show ¬ (7 : Int32) = 4 by decide), if_neg (show ¬ (7 : Int32) = 5 by decide), if_neg (show ¬ (7 : Int32) = 6 by decide), if_pos (show (7 : Int32) = 7 from rfl), ob_e (c_balance wf ki.1 (by omega))]
      · rw [f_X11_frame, mh g eg, if_neg (show ¬ (1 : Int32) = 0 by decide)]
        refine m_q wf eg (fun q eq mb fq => ?_)
        rw [if_neg (show ¬ (7 : Int32) = 0 by decide), if_neg (show ¬ (7 : Int32) = 1 by decide), if_neg (show ¬ (7 : Int32) = 2 by decide), if_neg (show ¬ (7 : Int32) = 3 by decide), if_neg (show ¬ (7 : Int32) = 4 by decide), if_neg (show ¬ (7 : Int32) = 5 by decide), if_neg (show ¬ (7 : Int32) = 6 by decide), if_pos (show (7 : Int32) = 7 from rfl), ob_e (m_pits wf (eq ▸ eg) (by omega)), ob_e (m_flats wf (eq ▸ eg) (by omega)), nI_z, nI_z, zI_sub]
    by_cases n8 : y = 8
    · subst n8
      refine two_query (r := nI (lrN v f 4)) (h1 := h) ki mi wa ?_ ki.2.1 (fun _ _ => rfl) (fun g eg wg rg => ?_)
      · rw [f_X10_frame, ch, if_neg (show ¬ (1 : Int32) = 0 by decide), if_neg (show ¬ (8 : Int32) = 0 by decide), if_neg (show ¬ (8 : Int32) = 1 by decide), if_neg (show ¬ (8 : Int32) = 2 by decide), if_neg (show ¬ (8 : Int32) = 3 by decide), if_neg (show ¬ (8 : Int32) = 4 by decide), if_neg (show ¬ (8 : Int32) = 5 by decide), if_neg (show ¬ (8 : Int32) = 6 by decide), if_neg (show ¬ (8 : Int32) = 7 by decide), if_pos (show (8 : Int32) = 8 from rfl), ob_e (c_longest wf ki.1 (by omega))]
      · rw [f_X11_frame, mh g eg, if_neg (show ¬ (1 : Int32) = 0 by decide)]
        refine m_q wf eg (fun q eq mb fq => ?_)
        rw [if_neg (show ¬ (8 : Int32) = 0 by decide), if_neg (show ¬ (8 : Int32) = 1 by decide), if_neg (show ¬ (8 : Int32) = 2 by decide), if_neg (show ¬ (8 : Int32) = 3 by decide), if_neg (show ¬ (8 : Int32) = 4 by decide), if_neg (show ¬ (8 : Int32) = 5 by decide), if_neg (show ¬ (8 : Int32) = 6 by decide), if_neg (show ¬ (8 : Int32) = 7 by decide), if_pos (show (8 : Int32) = 8 from rfl), ob_e (m_longest wf (eq ▸ eg) (by omega))]
    refine two_query (r := (-2 : Int32)) (h1 := h) ki mi wa ?_ ki.2.1 (fun _ _ => rfl) (fun g eg wg rg => ?_)
    · rw [f_X10_frame, ch, if_neg (show ¬ (1 : Int32) = 0 by decide), if_neg n0, if_neg n1, if_neg n2, if_neg n3, if_neg n4, if_neg n5, if_neg n6, if_neg n7, if_neg n8]
    · rw [f_X11_frame, mh g eg, if_neg (show ¬ (1 : Int32) = 0 by decide)]
      refine m_q wf eg (fun q eq mb fq => ?_)
      rw [if_neg n0, if_neg n1, if_neg n2, if_neg n3, if_neg n4, if_neg n5, if_neg n6, if_neg n7, if_neg n8]
  · refine two_query (r := (-1 : Int32)) (h1 := h) ki mi wa ?_ ki.2.1 (fun _ _ => rfl) (fun g eg wg rg => ⟨g, ?_, eg, fun _ _ _ _ => rfl⟩)
    · rw [f_X10_frame, c_hasNo (ws.ge ki.1.1) ws.fm hx, if_pos rfl]
    · rw [f_X11_frame, m_hasNo eg ws hx, if_pos rfl]
