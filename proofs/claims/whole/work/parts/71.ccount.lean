/-! the call count -/
theorem two_count {T : Nat} {h : HP} {y : Int32} (inv : Inv T h) : Two T h (f_X10_count y) (f_X11_count y) := by
  obtain ⟨v, n, H, kb, kv, L, tx, ki, mi, wa⟩ := inv
  have wf := wa.1
  have ws := wf.1
  have wc := wf.2.2.1
  have wh := wf.2.1
  have hT := FM_tot ws.fm
  have p3 : TOT v ≤ 3810 := hT.2.1
  have p6 : N v 6 ≤ TOT v := wh.1.2.1
  have caf : f_X5_allFrames 2 h = nI (TOT v) := c_allFrames (ws.ge ki.1.1)
  have maf : ∀ q : HP, E6 (q 71) v → f_X11_frames q = nI (TOT v) := fun q e => by
    rw [m_frames]
    exact c_allFrames (e.ge ws)
  have tt : ∀ g : HP, E6 (g 71) v → TOT (g 71) = TOT v := fun g eg => (eg.lk wc).tot
  obtain ⟨h1, o1, o2, o3⟩ := c_of ws wc ki.1.1 ki.1.2.2.1 ki.2.1
  have svh : SV h1 := ⟨v, ws, wc, o2⟩
  have cfr : ∀ x, x ≤ 3 → f_X7_framesThatAre (nI x) h1 = some (nI (cnt (fun f => decide (how (lyV v (-5)) (TOT v) f = x)) (TOT v))) := fun x hx => c_framesThatAre ws o2.1 hx o2.2.2
  have mfr : ∀ (q : HP) (x : Nat), x ≤ 3 → E6 (q 71) v → MB (q 71) (lyV v (-5)) q → f_X11_framesThat (nI x) q = some (nI (cnt (fun f => decide (how (lyV v (-5)) (TOT v) f = x)) (TOT v))) := fun q x hx eg mb => by
    rw [m_framesThat hx (eg.symm.wf wf).1 mb, tt q eg]
  by_cases n0 : y = 0
  · subst n0
    refine two_query (r := nI (TOT v)) (h1 := h) ki mi wa ?_ ki.2.1 (fun _ _ => rfl) (fun g eg wg rg => ?_)
    · rw [f_X10_count, if_pos (show (0 : Int32) = 0 from rfl), caf]
    · rw [f_X11_count]
      refine m_q wf eg (fun q eq mb fq => ?_)
      have eg2 : E6 (q 71) v := eq ▸ eg
      have mb : MB (q 71) (lyV v (-5)) q := by rw [eq]; exact mb
      rw [if_pos (show (0 : Int32) = 0 from rfl), maf q eg2]
  by_cases n1 : y = 1
  · subst n1
    refine two_query (r := nI (TOT v / 5)) (h1 := h) ki mi wa ?_ ki.2.1 (fun _ _ => rfl) (fun g eg wg rg => ?_)
    · rw [f_X10_count, if_neg (show ¬ (1 : Int32) = 0 by decide), if_pos (show (1 : Int32) = 1 from rfl), f_X5_groups, caf, lit_n 5, pk_div (by omega) (by decide) (by decide)]
    · rw [f_X11_count]
      refine m_q wf eg (fun q eq mb fq => ?_)
      have eg2 : E6 (q 71) v := eq ▸ eg
      have mb : MB (q 71) (lyV v (-5)) q := by rw [eq]; exact mb
      rw [if_neg (show ¬ (1 : Int32) = 0 by decide), if_pos (show (1 : Int32) = 1 from rfl), maf q eg2, lit_n 5, pk_div (by omega) (by decide) (by decide)]
  by_cases n2 : y = 2
  · subst n2
    refine two_query (r := v 12) (h1 := h) ki mi wa ?_ ki.2.1 (fun _ _ => rfl) (fun g eg wg rg => ?_)
    · rw [f_X10_count, if_neg (show ¬ (2 : Int32) = 0 by decide), if_neg (show ¬ (2 : Int32) = 1 by decide), if_pos (show (2 : Int32) = 2 from rfl), show h 3 1 = v 12 from ki.1.2.2.1.1]
    · rw [f_X11_count]
      refine m_q wf eg (fun q eq mb fq => ?_)
      have eg2 : E6 (q 71) v := eq ▸ eg
      have mb : MB (q 71) (lyV v (-5)) q := by rw [eq]; exact mb
      rw [if_neg (show ¬ (2 : Int32) = 0 by decide), if_neg (show ¬ (2 : Int32) = 1 by decide), if_pos (show (2 : Int32) = 2 from rfl), eg2 12 (by decide)]
  by_cases n3 : y = 3
  · subst n3
    refine two_query (r := v 6) (h1 := h) ki mi wa ?_ ki.2.1 (fun _ _ => rfl) (fun g eg wg rg => ?_)
    · rw [f_X10_count, if_neg (show ¬ (3 : Int32) = 0 by decide), if_neg (show ¬ (3 : Int32) = 1 by decide), if_neg (show ¬ (3 : Int32) = 2 by decide), if_pos (show (3 : Int32) = 3 from rfl), show h 8 0 = v 6 from ki.1.2.1 0 (by decide)]
    · rw [f_X11_count]
      refine m_q wf eg (fun q eq mb fq => ?_)
      have eg2 : E6 (q 71) v := eq ▸ eg
      have mb : MB (q 71) (lyV v (-5)) q := by rw [eq]; exact mb
      rw [if_neg (show ¬ (3 : Int32) = 0 by decide), if_neg (show ¬ (3 : Int32) = 1 by decide), if_neg (show ¬ (3 : Int32) = 2 by decide), if_pos (show (3 : Int32) = 3 from rfl), eg2 6 (by decide)]
  by_cases n4 : y = 4
  · subst n4
    refine two_query (r := nI (TU (N v 0) (N v 1) (N v 6))) (h1 := h) ki mi wa ?_ ki.2.1 (fun _ _ => rfl) (fun g eg wg rg => ?_)
    · rw [f_X10_count, if_neg (show ¬ (4 : Int32) = 0 by decide), if_neg (show ¬ (4 : Int32) = 1 by decide), if_neg (show ¬ (4 : Int32) = 2 by decide), if_neg (show ¬ (4 : Int32) = 3 by decide), if_pos (show (4 : Int32) = 4 from rfl), show h 8 0 = nI (N v 6) from (ki.1.2.1 0 (by decide)).trans wh.1.2.2, ob_e (c_turnOf (ws.ge ki.1.1) ws.fm (by omega))]
    · rw [f_X11_count]
      refine m_q wf eg (fun q eq mb fq => ?_)
      have eg2 : E6 (q 71) v := eq ▸ eg
      have mb : MB (q 71) (lyV v (-5)) q := by rw [eq]; exact mb
      rw [if_neg (show ¬ (4 : Int32) = 0 by decide), if_neg (show ¬ (4 : Int32) = 1 by decide), if_neg (show ¬ (4 : Int32) = 2 by decide), if_neg (show ¬ (4 : Int32) = 3 by decide), if_pos (show (4 : Int32) = 4 from rfl), (eg2 6 (by decide)).trans wh.1.2.2, m_turnOf, ob_e (c_turnOf (eg2.ge ws) ws.fm (by omega))]
  by_cases n5 : y = 5
  · subst n5
    refine two_query (r := v 7) (h1 := h) ki mi wa ?_ ki.2.1 (fun _ _ => rfl) (fun g eg wg rg => ?_)
    · rw [f_X10_count, if_neg (show ¬ (5 : Int32) = 0 by decide), if_neg (show ¬ (5 : Int32) = 1 by decide), if_neg (show ¬ (5 : Int32) = 2 by decide), if_neg (show ¬ (5 : Int32) = 3 by decide), if_neg (show ¬ (5 : Int32) = 4 by decide), if_pos (show (5 : Int32) = 5 from rfl), show h 8 1 = v 7 from ki.1.2.1 1 (by decide)]
    · rw [f_X11_count]
      refine m_q wf eg (fun q eq mb fq => ?_)
      have eg2 : E6 (q 71) v := eq ▸ eg
      have mb : MB (q 71) (lyV v (-5)) q := by rw [eq]; exact mb
      rw [if_neg (show ¬ (5 : Int32) = 0 by decide), if_neg (show ¬ (5 : Int32) = 1 by decide), if_neg (show ¬ (5 : Int32) = 2 by decide), if_neg (show ¬ (5 : Int32) = 3 by decide), if_neg (show ¬ (5 : Int32) = 4 by decide), if_pos (show (5 : Int32) = 5 from rfl), show (7 : Int32) + 5 - 5 = nI 7 from rfl, gd_t (inB_n (by omega) (by decide)), nI_clamp (by omega), eg2 7 (by decide)]
  by_cases n6 : y = 6
  · subst n6
    refine two_query (r := v 8) (h1 := h) ki mi wa ?_ ki.2.1 (fun _ _ => rfl) (fun g eg wg rg => ?_)
    · rw [f_X10_count, if_neg (show ¬ (6 : Int32) = 0 by decide), if_neg (show ¬ (6 : Int32) = 1 by decide), if_neg (show ¬ (6 : Int32) = 2 by decide), if_neg (show ¬ (6 : Int32) = 3 by decide), if_neg (show ¬ (6 : Int32) = 4 by decide), if_neg (show ¬ (6 : Int32) = 5 by decide), if_pos (show (6 : Int32) = 6 from rfl), show h 8 2 = v 8 from ki.1.2.1 2 (by decide)]
    · rw [f_X11_count]
      refine m_q wf eg (fun q eq mb fq => ?_)
      have eg2 : E6 (q 71) v := eq ▸ eg
      have mb : MB (q 71) (lyV v (-5)) q := by rw [eq]; exact mb
      rw [if_neg (show ¬ (6 : Int32) = 0 by decide), if_neg (show ¬ (6 : Int32) = 1 by decide), if_neg (show ¬ (6 : Int32) = 2 by decide), if_neg (show ¬ (6 : Int32) = 3 by decide), if_neg (show ¬ (6 : Int32) = 4 by decide), if_neg (show ¬ (6 : Int32) = 5 by decide), if_pos (show (6 : Int32) = 6 from rfl), show (7 : Int32) + 6 - 5 = nI 8 from rfl, gd_t (inB_n (by omega) (by decide)), nI_clamp (by omega), eg2 8 (by decide)]
  by_cases n7 : y = 7
  · subst n7
    refine two_query (r := v 9) (h1 := h) ki mi wa ?_ ki.2.1 (fun _ _ => rfl) (fun g eg wg rg => ?_)
    · rw [f_X10_count, if_neg (show ¬ (7 : Int32) = 0 by decide), if_neg (show ¬ (7 : Int32) = 1 by decide), if_neg (show ¬ (7 : Int32) = 2 by decide), if_neg (show ¬ (7 : Int32) = 3 by decide), if_neg (show ¬ (7 : Int32) = 4 by decide), if_neg (show ¬ (7 : Int32) = 5 by decide), if_neg (show ¬ (7 : Int32) = 6 by decide), if_pos (show (7 : Int32) = 7 from rfl), show h 8 3 = v 9 from ki.1.2.1 3 (by decide)]
    · rw [f_X11_count]
      refine m_q wf eg (fun q eq mb fq => ?_)
      have eg2 : E6 (q 71) v := eq ▸ eg
      have mb : MB (q 71) (lyV v (-5)) q := by rw [eq]; exact mb
      rw [if_neg (show ¬ (7 : Int32) = 0 by decide), if_neg (show ¬ (7 : Int32) = 1 by decide), if_neg (show ¬ (7 : Int32) = 2 by decide), if_neg (show ¬ (7 : Int32) = 3 by decide), if_neg (show ¬ (7 : Int32) = 4 by decide), if_neg (show ¬ (7 : Int32) = 5 by decide), if_neg (show ¬ (7 : Int32) = 6 by decide), if_pos (show (7 : Int32) = 7 from rfl), show (7 : Int32) + 7 - 5 = nI 9 from rfl, gd_t (inB_n (by omega) (by decide)), nI_clamp (by omega), eg2 9 (by decide)]
  by_cases n8 : y = 8
  · subst n8
    refine two_query (r := v 10) (h1 := h) ki mi wa ?_ ki.2.1 (fun _ _ => rfl) (fun g eg wg rg => ?_)
    · rw [f_X10_count, if_neg (show ¬ (8 : Int32) = 0 by decide), if_neg (show ¬ (8 : Int32) = 1 by decide), if_neg (show ¬ (8 : Int32) = 2 by decide), if_neg (show ¬ (8 : Int32) = 3 by decide), if_neg (show ¬ (8 : Int32) = 4 by decide), if_neg (show ¬ (8 : Int32) = 5 by decide), if_neg (show ¬ (8 : Int32) = 6 by decide), if_neg (show ¬ (8 : Int32) = 7 by decide), if_pos (show (8 : Int32) = 8 from rfl), show h 8 4 = v 10 from ki.1.2.1 4 (by decide)]
    · rw [f_X11_count]
      refine m_q wf eg (fun q eq mb fq => ?_)
      have eg2 : E6 (q 71) v := eq ▸ eg
      have mb : MB (q 71) (lyV v (-5)) q := by rw [eq]; exact mb
      rw [if_neg (show ¬ (8 : Int32) = 0 by decide), if_neg (show ¬ (8 : Int32) = 1 by decide), if_neg (show ¬ (8 : Int32) = 2 by decide), if_neg (show ¬ (8 : Int32) = 3 by decide), if_neg (show ¬ (8 : Int32) = 4 by decide), if_neg (show ¬ (8 : Int32) = 5 by decide), if_neg (show ¬ (8 : Int32) = 6 by decide), if_neg (show ¬ (8 : Int32) = 7 by decide), if_pos (show (8 : Int32) = 8 from rfl), show (7 : Int32) + 8 - 5 = nI 10 from rfl, gd_t (inB_n (by omega) (by decide)), nI_clamp (by omega), eg2 10 (by decide)]
  by_cases n9 : y = 9
  · subst n9
    refine two_query (r := v 11) (h1 := h) ki mi wa ?_ ki.2.1 (fun _ _ => rfl) (fun g eg wg rg => ?_)
    · rw [f_X10_count, if_neg (show ¬ (9 : Int32) = 0 by decide), if_neg (show ¬ (9 : Int32) = 1 by decide), if_neg (show ¬ (9 : Int32) = 2 by decide), if_neg (show ¬ (9 : Int32) = 3 by decide), if_neg (show ¬ (9 : Int32) = 4 by decide), if_neg (show ¬ (9 : Int32) = 5 by decide), if_neg (show ¬ (9 : Int32) = 6 by decide), if_neg (show ¬ (9 : Int32) = 7 by decide), if_neg (show ¬ (9 : Int32) = 8 by decide), if_pos (show (9 : Int32) = 9 from rfl), show h 8 5 = v 11 from ki.1.2.1 5 (by decide)]
    · rw [f_X11_count]
      refine m_q wf eg (fun q eq mb fq => ?_)
      have eg2 : E6 (q 71) v := eq ▸ eg
      have mb : MB (q 71) (lyV v (-5)) q := by rw [eq]; exact mb
      rw [if_neg (show ¬ (9 : Int32) = 0 by decide), if_neg (show ¬ (9 : Int32) = 1 by decide), if_neg (show ¬ (9 : Int32) = 2 by decide), if_neg (show ¬ (9 : Int32) = 3 by decide), if_neg (show ¬ (9 : Int32) = 4 by decide), if_neg (show ¬ (9 : Int32) = 5 by decide), if_neg (show ¬ (9 : Int32) = 6 by decide), if_neg (show ¬ (9 : Int32) = 7 by decide), if_neg (show ¬ (9 : Int32) = 8 by decide), if_pos (show (9 : Int32) = 9 from rfl), show (7 : Int32) + 9 - 5 = nI 11 from rfl, gd_t (inB_n (by omega) (by decide)), nI_clamp (by omega), eg2 11 (by decide)]
  by_cases n10 : y = 10
  · subst n10
    refine two_query (r := nI (cnt (fun f => decide (how (lyV v (-5)) (TOT v) f = 0)) (TOT v))) (h1 := h1) ki mi wa ?_ svh (fun o ho => o3 o (by omega)) (fun g eg wg rg => ?_)
    · rw [f_X10_count, if_neg (show ¬ (10 : Int32) = 0 by decide), if_neg (show ¬ (10 : Int32) = 1 by decide), if_neg (show ¬ (10 : Int32) = 2 by decide), if_neg (show ¬ (10 : Int32) = 3 by decide), if_neg (show ¬ (10 : Int32) = 4 by decide), if_neg (show ¬ (10 : Int32) = 5 by decide), if_neg (show ¬ (10 : Int32) = 6 by decide), if_neg (show ¬ (10 : Int32) = 7 by decide), if_neg (show ¬ (10 : Int32) = 8 by decide), if_neg (show ¬ (10 : Int32) = 9 by decide), if_pos (show (10 : Int32) = 10 from rfl), ob_e o1, show f_X7_framesThatAre (0 : Int32) h1 = _ from cfr 0 (by decide), ob_s]
    · rw [f_X11_count]
      refine m_q wf eg (fun q eq mb fq => ?_)
      have eg2 : E6 (q 71) v := eq ▸ eg
      have mb : MB (q 71) (lyV v (-5)) q := by rw [eq]; exact mb
      rw [if_neg (show ¬ (10 : Int32) = 0 by decide), if_neg (show ¬ (10 : Int32) = 1 by decide), if_neg (show ¬ (10 : Int32) = 2 by decide), if_neg (show ¬ (10 : Int32) = 3 by decide), if_neg (show ¬ (10 : Int32) = 4 by decide), if_neg (show ¬ (10 : Int32) = 5 by decide), if_neg (show ¬ (10 : Int32) = 6 by decide), if_neg (show ¬ (10 : Int32) = 7 by decide), if_neg (show ¬ (10 : Int32) = 8 by decide), if_neg (show ¬ (10 : Int32) = 9 by decide), if_pos (show (10 : Int32) = 10 from rfl), show f_X11_framesThat ((10 : Int32) - 10) q = _ from mfr q 0 (by decide) eg2 mb, ob_s]
  by_cases n11 : y = 11
  · subst n11
    refine two_query (r := nI (cnt (fun f => decide (how (lyV v (-5)) (TOT v) f = 1)) (TOT v))) (h1 := h1) ki mi wa ?_ svh (fun o ho => o3 o (by omega)) (fun g eg wg rg => ?_)
    · rw [f_X10_count, if_neg (show ¬ (11 : Int32) = 0 by decide), if_neg (show ¬ (11 : Int32) = 1 by decide), if_neg (show ¬ (11 : Int32) = 2 by decide), if_neg (show ¬ (11 : Int32) = 3 by decide), if_neg (show ¬ (11 : Int32) = 4 by decide), if_neg (show ¬ (11 : Int32) = 5 by decide), if_neg (show ¬ (11 : Int32) = 6 by decide), if_neg (show ¬ (11 : Int32) = 7 by decide), if_neg (show ¬ (11 : Int32) = 8 by decide), if_neg (show ¬ (11 : Int32) = 9 by decide), if_neg (show ¬ (11 : Int32) = 10 by decide), if_pos (show (11 : Int32) = 11 from rfl), ob_e o1, show f_X7_framesThatAre (1 : Int32) h1 = _ from cfr 1 (by decide), ob_s]
    · rw [f_X11_count]
      refine m_q wf eg (fun q eq mb fq => ?_)
      have eg2 : E6 (q 71) v := eq ▸ eg
      have mb : MB (q 71) (lyV v (-5)) q := by rw [eq]; exact mb
      rw [if_neg (show ¬ (11 : Int32) = 0 by decide), if_neg (show ¬ (11 : Int32) = 1 by decide), if_neg (show ¬ (11 : Int32) = 2 by decide), if_neg (show ¬ (11 : Int32) = 3 by decide), if_neg (show ¬ (11 : Int32) = 4 by decide), if_neg (show ¬ (11 : Int32) = 5 by decide), if_neg (show ¬ (11 : Int32) = 6 by decide), if_neg (show ¬ (11 : Int32) = 7 by decide), if_neg (show ¬ (11 : Int32) = 8 by decide), if_neg (show ¬ (11 : Int32) = 9 by decide), if_neg (show ¬ (11 : Int32) = 10 by decide), if_pos (show (11 : Int32) = 11 from rfl), show f_X11_framesThat ((11 : Int32) - 10) q = _ from mfr q 1 (by decide) eg2 mb, ob_s]
  by_cases n12 : y = 12
  · subst n12
    refine two_query (r := nI (cnt (fun f => decide (how (lyV v (-5)) (TOT v) f = 2)) (TOT v))) (h1 := h1) ki mi wa ?_ svh (fun o ho => o3 o (by omega)) (fun g eg wg rg => ?_)
    · rw [f_X10_count, if_neg (show ¬ (12 : Int32) = 0 by decide), if_neg (show ¬ (12 : Int32) = 1 by decide), if_neg (show ¬ (12 : Int32) = 2 by decide), if_neg (show ¬ (12 : Int32) = 3 by decide), if_neg (show ¬ (12 : Int32) = 4 by decide), if_neg (show ¬ (12 : Int32) = 5 by decide), if_neg (show ¬ (12 : Int32) = 6 by decide), if_neg (show ¬ (12 : Int32) = 7 by decide), if_neg (show ¬ (12 : Int32) = 8 by decide), if_neg (show ¬ (12 : Int32) = 9 by decide), if_neg (show ¬ (12 : Int32) = 10 by decide), if_neg (show ¬ (12 : Int32) = 11 by decide), if_pos (show (12 : Int32) = 12 from rfl), ob_e o1, show f_X7_framesThatAre (2 : Int32) h1 = _ from cfr 2 (by decide), ob_s]
    · rw [f_X11_count]
      refine m_q wf eg (fun q eq mb fq => ?_)
      have eg2 : E6 (q 71) v := eq ▸ eg
      have mb : MB (q 71) (lyV v (-5)) q := by rw [eq]; exact mb
      rw [if_neg (show ¬ (12 : Int32) = 0 by decide), if_neg (show ¬ (12 : Int32) = 1 by decide), if_neg (show ¬ (12 : Int32) = 2 by decide), if_neg (show ¬ (12 : Int32) = 3 by decide), if_neg (show ¬ (12 : Int32) = 4 by decide), if_neg (show ¬ (12 : Int32) = 5 by decide), if_neg (show ¬ (12 : Int32) = 6 by decide), if_neg (show ¬ (12 : Int32) = 7 by decide), if_neg (show ¬ (12 : Int32) = 8 by decide), if_neg (show ¬ (12 : Int32) = 9 by decide), if_neg (show ¬ (12 : Int32) = 10 by decide), if_neg (show ¬ (12 : Int32) = 11 by decide), if_pos (show (12 : Int32) = 12 from rfl), show f_X11_framesThat ((12 : Int32) - 10) q = _ from mfr q 2 (by decide) eg2 mb, ob_s]
  by_cases n13 : y = 13
  · subst n13
    refine two_query (r := nI (cnt (fun f => decide (how (lyV v (-5)) (TOT v) f = 3)) (TOT v))) (h1 := h1) ki mi wa ?_ svh (fun o ho => o3 o (by omega)) (fun g eg wg rg => ?_)
    · rw [f_X10_count, if_neg (show ¬ (13 : Int32) = 0 by decide), if_neg (show ¬ (13 : Int32) = 1 by decide), if_neg (show ¬ (13 : Int32) = 2 by decide), if_neg (show ¬ (13 : Int32) = 3 by decide), if_neg (show ¬ (13 : Int32) = 4 by decide), if_neg (show ¬ (13 : Int32) = 5 by decide), if_neg (show ¬ (13 : Int32) = 6 by decide), if_neg (show ¬ (13 : Int32) = 7 by decide), if_neg (show ¬ (13 : Int32) = 8 by decide), if_neg (show ¬ (13 : Int32) = 9 by decide), if_neg (show ¬ (13 : Int32) = 10 by decide), if_neg (show ¬ (13 : Int32) = 11 by decide), if_neg (show ¬ (13 : Int32) = 12 by decide), if_pos (show (13 : Int32) = 13 from rfl), ob_e o1, show f_X7_framesThatAre (3 : Int32) h1 = _ from cfr 3 (by decide), ob_s]
    · rw [f_X11_count]
      refine m_q wf eg (fun q eq mb fq => ?_)
      have eg2 : E6 (q 71) v := eq ▸ eg
      have mb : MB (q 71) (lyV v (-5)) q := by rw [eq]; exact mb
      rw [if_neg (show ¬ (13 : Int32) = 0 by decide), if_neg (show ¬ (13 : Int32) = 1 by decide), if_neg (show ¬ (13 : Int32) = 2 by decide), if_neg (show ¬ (13 : Int32) = 3 by decide), if_neg (show ¬ (13 : Int32) = 4 by decide), if_neg (show ¬ (13 : Int32) = 5 by decide), if_neg (show ¬ (13 : Int32) = 6 by decide), if_neg (show ¬ (13 : Int32) = 7 by decide), if_neg (show ¬ (13 : Int32) = 8 by decide), if_neg (show ¬ (13 : Int32) = 9 by decide), if_neg (show ¬ (13 : Int32) = 10 by decide), if_neg (show ¬ (13 : Int32) = 11 by decide), if_neg (show ¬ (13 : Int32) = 12 by decide), if_pos (show (13 : Int32) = 13 from rfl), show f_X11_framesThat ((13 : Int32) - 10) q = _ from mfr q 3 (by decide) eg2 mb, ob_s]
  by_cases n14 : y = 14
  · subst n14
    refine two_query (r := v 45) (h1 := h) ki mi wa ?_ ki.2.1 (fun _ _ => rfl) (fun g eg wg rg => ?_)
    · rw [f_X10_count, if_neg (show ¬ (14 : Int32) = 0 by decide), if_neg (show ¬ (14 : Int32) = 1 by decide), if_neg (show ¬ (14 : Int32) = 2 by decide), if_neg (show ¬ (14 : Int32) = 3 by decide), if_neg (show ¬ (14 : Int32) = 4 by decide), if_neg (show ¬ (14 : Int32) = 5 by decide), if_neg (show ¬ (14 : Int32) = 6 by decide), if_neg (show ¬ (14 : Int32) = 7 by decide), if_neg (show ¬ (14 : Int32) = 8 by decide), if_neg (show ¬ (14 : Int32) = 9 by decide), if_neg (show ¬ (14 : Int32) = 10 by decide), if_neg (show ¬ (14 : Int32) = 11 by decide), if_neg (show ¬ (14 : Int32) = 12 by decide), if_neg (show ¬ (14 : Int32) = 13 by decide), if_pos (show (14 : Int32) = 14 from rfl), show h 5 2 = v 45 from ki.1.2.2.2.1]
    · rw [f_X11_count]
      refine m_q wf eg (fun q eq mb fq => ?_)
      have eg2 : E6 (q 71) v := eq ▸ eg
      have mb : MB (q 71) (lyV v (-5)) q := by rw [eq]; exact mb
      rw [if_neg (show ¬ (14 : Int32) = 0 by decide), if_neg (show ¬ (14 : Int32) = 1 by decide), if_neg (show ¬ (14 : Int32) = 2 by decide), if_neg (show ¬ (14 : Int32) = 3 by decide), if_neg (show ¬ (14 : Int32) = 4 by decide), if_neg (show ¬ (14 : Int32) = 5 by decide), if_neg (show ¬ (14 : Int32) = 6 by decide), if_neg (show ¬ (14 : Int32) = 7 by decide), if_neg (show ¬ (14 : Int32) = 8 by decide), if_neg (show ¬ (14 : Int32) = 9 by decide), if_neg (show ¬ (14 : Int32) = 10 by decide), if_neg (show ¬ (14 : Int32) = 11 by decide), if_neg (show ¬ (14 : Int32) = 12 by decide), if_neg (show ¬ (14 : Int32) = 13 by decide), if_pos (show (14 : Int32) = 14 from rfl), eg2 45 (by decide)]
  by_cases n15 : y = 15
  · subst n15
    refine two_of (r := nI n) (h1 := h) mi ?_ ki (fun _ _ => rfl) (fun g mg => ?_) (wa.mono (by omega))
    · rw [f_X10_count, if_neg (show ¬ (15 : Int32) = 0 by decide), if_neg (show ¬ (15 : Int32) = 1 by decide), if_neg (show ¬ (15 : Int32) = 2 by decide), if_neg (show ¬ (15 : Int32) = 3 by decide), if_neg (show ¬ (15 : Int32) = 4 by decide), if_neg (show ¬ (15 : Int32) = 5 by decide), if_neg (show ¬ (15 : Int32) = 6 by decide), if_neg (show ¬ (15 : Int32) = 7 by decide), if_neg (show ¬ (15 : Int32) = 8 by decide), if_neg (show ¬ (15 : Int32) = 9 by decide), if_neg (show ¬ (15 : Int32) = 10 by decide), if_neg (show ¬ (15 : Int32) = 11 by decide), if_neg (show ¬ (15 : Int32) = 12 by decide), if_neg (show ¬ (15 : Int32) = 13 by decide), if_neg (show ¬ (15 : Int32) = 14 by decide), if_pos (show (15 : Int32) = 15 from rfl), show h 25 1 = nI n from ki.2.2.1.2.1]
    · have eg := mg.1
      have wg := eg.symm.wf wf
      have fq : ∀ o, o ≠ 76 → sR g 76 (lyR (g 71) (-5) (TOT (g 71)) (g 76)) o = g o := fun o ho => sR_o ho
      refine ⟨sR g 76 (lyR (g 71) (-5) (TOT (g 71)) (g 76)), ?_, mg.of6 (fun o _ h2 => fq o h2), fun o ho => fq o (by omega)⟩
      rw [f_X11_count, ob_e (m_lay wg.1 wg.2.2.1 rfl), if_neg (show ¬ (15 : Int32) = 0 by decide), if_neg (show ¬ (15 : Int32) = 1 by decide), if_neg (show ¬ (15 : Int32) = 2 by decide), if_neg (show ¬ (15 : Int32) = 3 by decide), if_neg (show ¬ (15 : Int32) = 4 by decide), if_neg (show ¬ (15 : Int32) = 5 by decide), if_neg (show ¬ (15 : Int32) = 6 by decide), if_neg (show ¬ (15 : Int32) = 7 by decide), if_neg (show ¬ (15 : Int32) = 8 by decide), if_neg (show ¬ (15 : Int32) = 9 by decide), if_neg (show ¬ (15 : Int32) = 10 by decide), if_neg (show ¬ (15 : Int32) = 11 by decide), if_neg (show ¬ (15 : Int32) = 12 by decide), if_neg (show ¬ (15 : Int32) = 13 by decide), if_neg (show ¬ (15 : Int32) = 14 by decide), if_pos (show (15 : Int32) = 15 from rfl), fq 70 (by decide), mg.2.1.2.1]
  by_cases n16 : y = 16
  · subst n16
    refine two_of (r := nI L) (h1 := h) mi ?_ ki (fun _ _ => rfl) (fun g mg => ?_) (wa.mono (by omega))
    · rw [f_X10_count, if_neg (show ¬ (16 : Int32) = 0 by decide), if_neg (show ¬ (16 : Int32) = 1 by decide), if_neg (show ¬ (16 : Int32) = 2 by decide), if_neg (show ¬ (16 : Int32) = 3 by decide), if_neg (show ¬ (16 : Int32) = 4 by decide), if_neg (show ¬ (16 : Int32) = 5 by decide), if_neg (show ¬ (16 : Int32) = 6 by decide), if_neg (show ¬ (16 : Int32) = 7 by decide), if_neg (show ¬ (16 : Int32) = 8 by decide), if_neg (show ¬ (16 : Int32) = 9 by decide), if_neg (show ¬ (16 : Int32) = 10 by decide), if_neg (show ¬ (16 : Int32) = 11 by decide), if_neg (show ¬ (16 : Int32) = 12 by decide), if_neg (show ¬ (16 : Int32) = 13 by decide), if_neg (show ¬ (16 : Int32) = 14 by decide), if_neg (show ¬ (16 : Int32) = 15 by decide), if_pos (show (16 : Int32) = 16 from rfl), show h 59 1 = nI L from ki.2.2.2.2.1]
    · have eg := mg.1
      have wg := eg.symm.wf wf
      have fq : ∀ o, o ≠ 76 → sR g 76 (lyR (g 71) (-5) (TOT (g 71)) (g 76)) o = g o := fun o ho => sR_o ho
      refine ⟨sR g 76 (lyR (g 71) (-5) (TOT (g 71)) (g 76)), ?_, mg.of6 (fun o _ h2 => fq o h2), fun o ho => fq o (by omega)⟩
      rw [f_X11_count, ob_e (m_lay wg.1 wg.2.2.1 rfl), if_neg (show ¬ (16 : Int32) = 0 by decide), if_neg (show ¬ (16 : Int32) = 1 by decide), if_neg (show ¬ (16 : Int32) = 2 by decide), if_neg (show ¬ (16 : Int32) = 3 by decide), if_neg (show ¬ (16 : Int32) = 4 by decide), if_neg (show ¬ (16 : Int32) = 5 by decide), if_neg (show ¬ (16 : Int32) = 6 by decide), if_neg (show ¬ (16 : Int32) = 7 by decide), if_neg (show ¬ (16 : Int32) = 8 by decide), if_neg (show ¬ (16 : Int32) = 9 by decide), if_neg (show ¬ (16 : Int32) = 10 by decide), if_neg (show ¬ (16 : Int32) = 11 by decide), if_neg (show ¬ (16 : Int32) = 12 by decide), if_neg (show ¬ (16 : Int32) = 13 by decide), if_neg (show ¬ (16 : Int32) = 14 by decide), if_neg (show ¬ (16 : Int32) = 15 by decide), if_pos (show (16 : Int32) = 16 from rfl), fq 70 (by decide), mg.2.2.2.1]
  by_cases n17 : y = 17
  · subst n17
    refine two_query (r := v 0) (h1 := h) ki mi wa ?_ ki.2.1 (fun _ _ => rfl) (fun g eg wg rg => ?_)
    · rw [f_X10_count, if_neg (show ¬ (17 : Int32) = 0 by decide), if_neg (show ¬ (17 : Int32) = 1 by decide), if_neg (show ¬ (17 : Int32) = 2 by decide), if_neg (show ¬ (17 : Int32) = 3 by decide), if_neg (show ¬ (17 : Int32) = 4 by decide), if_neg (show ¬ (17 : Int32) = 5 by decide), if_neg (show ¬ (17 : Int32) = 6 by decide), if_neg (show ¬ (17 : Int32) = 7 by decide), if_neg (show ¬ (17 : Int32) = 8 by decide), if_neg (show ¬ (17 : Int32) = 9 by decide), if_neg (show ¬ (17 : Int32) = 10 by decide), if_neg (show ¬ (17 : Int32) = 11 by decide), if_neg (show ¬ (17 : Int32) = 12 by decide), if_neg (show ¬ (17 : Int32) = 13 by decide), if_neg (show ¬ (17 : Int32) = 14 by decide), if_neg (show ¬ (17 : Int32) = 15 by decide), if_neg (show ¬ (17 : Int32) = 16 by decide), f_X10_countSetting, show (17 : Int32) - 17 = nI 0 from rfl, show f_X5_isSetting (nI 0) h = 1 from rfl, if_neg (show ¬ (1 : Int32) = 0 by decide), c_setAt (by decide), show h 2 0 = v 0 from ki.1.1 0 (by decide)]
    · rw [f_X11_count]
      refine m_q wf eg (fun q eq mb fq => ?_)
      have eg2 : E6 (q 71) v := eq ▸ eg
      have mb : MB (q 71) (lyV v (-5)) q := by rw [eq]; exact mb
      rw [if_neg (show ¬ (17 : Int32) = 0 by decide), if_neg (show ¬ (17 : Int32) = 1 by decide), if_neg (show ¬ (17 : Int32) = 2 by decide), if_neg (show ¬ (17 : Int32) = 3 by decide), if_neg (show ¬ (17 : Int32) = 4 by decide), if_neg (show ¬ (17 : Int32) = 5 by decide), if_neg (show ¬ (17 : Int32) = 6 by decide), if_neg (show ¬ (17 : Int32) = 7 by decide), if_neg (show ¬ (17 : Int32) = 8 by decide), if_neg (show ¬ (17 : Int32) = 9 by decide), if_neg (show ¬ (17 : Int32) = 10 by decide), if_neg (show ¬ (17 : Int32) = 11 by decide), if_neg (show ¬ (17 : Int32) = 12 by decide), if_neg (show ¬ (17 : Int32) = 13 by decide), if_neg (show ¬ (17 : Int32) = 14 by decide), if_neg (show ¬ (17 : Int32) = 15 by decide), if_neg (show ¬ (17 : Int32) = 16 by decide), if_pos (show (17 : Int32) = 17 from rfl), show (17 : Int32) - 17 = nI 0 from rfl, gd_t (inB_n (by omega) (by decide)), nI_clamp (by omega), eg2 0 (by decide)]
  by_cases n18 : y = 18
  · subst n18
    refine two_query (r := v 1) (h1 := h) ki mi wa ?_ ki.2.1 (fun _ _ => rfl) (fun g eg wg rg => ?_)
    · rw [f_X10_count, if_neg (show ¬ (18 : Int32) = 0 by decide), if_neg (show ¬ (18 : Int32) = 1 by decide), if_neg (show ¬ (18 : Int32) = 2 by decide), if_neg (show ¬ (18 : Int32) = 3 by decide), if_neg (show ¬ (18 : Int32) = 4 by decide), if_neg (show ¬ (18 : Int32) = 5 by decide), if_neg (show ¬ (18 : Int32) = 6 by decide), if_neg (show ¬ (18 : Int32) = 7 by decide), if_neg (show ¬ (18 : Int32) = 8 by decide), if_neg (show ¬ (18 : Int32) = 9 by decide), if_neg (show ¬ (18 : Int32) = 10 by decide), if_neg (show ¬ (18 : Int32) = 11 by decide), if_neg (show ¬ (18 : Int32) = 12 by decide), if_neg (show ¬ (18 : Int32) = 13 by decide), if_neg (show ¬ (18 : Int32) = 14 by decide), if_neg (show ¬ (18 : Int32) = 15 by decide), if_neg (show ¬ (18 : Int32) = 16 by decide), f_X10_countSetting, show (18 : Int32) - 17 = nI 1 from rfl, show f_X5_isSetting (nI 1) h = 1 from rfl, if_neg (show ¬ (1 : Int32) = 0 by decide), c_setAt (by decide), show h 2 1 = v 1 from ki.1.1 1 (by decide)]
    · rw [f_X11_count]
      refine m_q wf eg (fun q eq mb fq => ?_)
      have eg2 : E6 (q 71) v := eq ▸ eg
      have mb : MB (q 71) (lyV v (-5)) q := by rw [eq]; exact mb
      rw [if_neg (show ¬ (18 : Int32) = 0 by decide), if_neg (show ¬ (18 : Int32) = 1 by decide), if_neg (show ¬ (18 : Int32) = 2 by decide), if_neg (show ¬ (18 : Int32) = 3 by decide), if_neg (show ¬ (18 : Int32) = 4 by decide), if_neg (show ¬ (18 : Int32) = 5 by decide), if_neg (show ¬ (18 : Int32) = 6 by decide), if_neg (show ¬ (18 : Int32) = 7 by decide), if_neg (show ¬ (18 : Int32) = 8 by decide), if_neg (show ¬ (18 : Int32) = 9 by decide), if_neg (show ¬ (18 : Int32) = 10 by decide), if_neg (show ¬ (18 : Int32) = 11 by decide), if_neg (show ¬ (18 : Int32) = 12 by decide), if_neg (show ¬ (18 : Int32) = 13 by decide), if_neg (show ¬ (18 : Int32) = 14 by decide), if_neg (show ¬ (18 : Int32) = 15 by decide), if_neg (show ¬ (18 : Int32) = 16 by decide), if_neg (show ¬ (18 : Int32) = 17 by decide), if_pos (show (18 : Int32) = 18 from rfl), show (18 : Int32) - 17 = nI 1 from rfl, gd_t (inB_n (by omega) (by decide)), nI_clamp (by omega), eg2 1 (by decide)]
  by_cases n19 : y = 19
  · subst n19
    refine two_query (r := v 2) (h1 := h) ki mi wa ?_ ki.2.1 (fun _ _ => rfl) (fun g eg wg rg => ?_)
    · rw [f_X10_count, if_neg (show ¬ (19 : Int32) = 0 by decide), if_neg (show ¬ (19 : Int32) = 1 by decide), if_neg (show ¬ (19 : Int32) = 2 by decide), if_neg (show ¬ (19 : Int32) = 3 by decide), if_neg (show ¬ (19 : Int32) = 4 by decide), if_neg (show ¬ (19 : Int32) = 5 by decide), if_neg (show ¬ (19 : Int32) = 6 by decide), if_neg (show ¬ (19 : Int32) = 7 by decide), if_neg (show ¬ (19 : Int32) = 8 by decide), if_neg (show ¬ (19 : Int32) = 9 by decide), if_neg (show ¬ (19 : Int32) = 10 by decide), if_neg (show ¬ (19 : Int32) = 11 by decide), if_neg (show ¬ (19 : Int32) = 12 by decide), if_neg (show ¬ (19 : Int32) = 13 by decide), if_neg (show ¬ (19 : Int32) = 14 by decide), if_neg (show ¬ (19 : Int32) = 15 by decide), if_neg (show ¬ (19 : Int32) = 16 by decide), f_X10_countSetting, show (19 : Int32) - 17 = nI 2 from rfl, show f_X5_isSetting (nI 2) h = 1 from rfl, if_neg (show ¬ (1 : Int32) = 0 by decide), c_setAt (by decide), show h 2 2 = v 2 from ki.1.1 2 (by decide)]
    · rw [f_X11_count]
      refine m_q wf eg (fun q eq mb fq => ?_)
      have eg2 : E6 (q 71) v := eq ▸ eg
      have mb : MB (q 71) (lyV v (-5)) q := by rw [eq]; exact mb
      rw [if_neg (show ¬ (19 : Int32) = 0 by decide), if_neg (show ¬ (19 : Int32) = 1 by decide), if_neg (show ¬ (19 : Int32) = 2 by decide), if_neg (show ¬ (19 : Int32) = 3 by decide), if_neg (show ¬ (19 : Int32) = 4 by decide), if_neg (show ¬ (19 : Int32) = 5 by decide), if_neg (show ¬ (19 : Int32) = 6 by decide), if_neg (show ¬ (19 : Int32) = 7 by decide), if_neg (show ¬ (19 : Int32) = 8 by decide), if_neg (show ¬ (19 : Int32) = 9 by decide), if_neg (show ¬ (19 : Int32) = 10 by decide), if_neg (show ¬ (19 : Int32) = 11 by decide), if_neg (show ¬ (19 : Int32) = 12 by decide), if_neg (show ¬ (19 : Int32) = 13 by decide), if_neg (show ¬ (19 : Int32) = 14 by decide), if_neg (show ¬ (19 : Int32) = 15 by decide), if_neg (show ¬ (19 : Int32) = 16 by decide), if_neg (show ¬ (19 : Int32) = 17 by decide), if_neg (show ¬ (19 : Int32) = 18 by decide), if_pos (show (19 : Int32) = 19 from rfl), show (19 : Int32) - 17 = nI 2 from rfl, gd_t (inB_n (by omega) (by decide)), nI_clamp (by omega), eg2 2 (by decide)]
  by_cases n20 : y = 20
  · subst n20
    refine two_query (r := v 3) (h1 := h) ki mi wa ?_ ki.2.1 (fun _ _ => rfl) (fun g eg wg rg => ?_)
    · rw [f_X10_count, if_neg (show ¬ (20 : Int32) = 0 by decide), if_neg (show ¬ (20 : Int32) = 1 by decide), if_neg (show ¬ (20 : Int32) = 2 by decide), if_neg (show ¬ (20 : Int32) = 3 by decide), if_neg (show ¬ (20 : Int32) = 4 by decide), if_neg (show ¬ (20 : Int32) = 5 by decide), if_neg (show ¬ (20 : Int32) = 6 by decide), if_neg (show ¬ (20 : Int32) = 7 by decide), if_neg (show ¬ (20 : Int32) = 8 by decide), if_neg (show ¬ (20 : Int32) = 9 by decide), if_neg (show ¬ (20 : Int32) = 10 by decide), if_neg (show ¬ (20 : Int32) = 11 by decide), if_neg (show ¬ (20 : Int32) = 12 by decide), if_neg (show ¬ (20 : Int32) = 13 by decide), if_neg (show ¬ (20 : Int32) = 14 by decide), if_neg (show ¬ (20 : Int32) = 15 by decide), if_neg (show ¬ (20 : Int32) = 16 by decide), f_X10_countSetting, show (20 : Int32) - 17 = nI 3 from rfl, show f_X5_isSetting (nI 3) h = 1 from rfl, if_neg (show ¬ (1 : Int32) = 0 by decide), c_setAt (by decide), show h 2 3 = v 3 from ki.1.1 3 (by decide)]
    · rw [f_X11_count]
      refine m_q wf eg (fun q eq mb fq => ?_)
      have eg2 : E6 (q 71) v := eq ▸ eg
      have mb : MB (q 71) (lyV v (-5)) q := by rw [eq]; exact mb
      rw [if_neg (show ¬ (20 : Int32) = 0 by decide), if_neg (show ¬ (20 : Int32) = 1 by decide), if_neg (show ¬ (20 : Int32) = 2 by decide), if_neg (show ¬ (20 : Int32) = 3 by decide), if_neg (show ¬ (20 : Int32) = 4 by decide), if_neg (show ¬ (20 : Int32) = 5 by decide), if_neg (show ¬ (20 : Int32) = 6 by decide), if_neg (show ¬ (20 : Int32) = 7 by decide), if_neg (show ¬ (20 : Int32) = 8 by decide), if_neg (show ¬ (20 : Int32) = 9 by decide), if_neg (show ¬ (20 : Int32) = 10 by decide), if_neg (show ¬ (20 : Int32) = 11 by decide), if_neg (show ¬ (20 : Int32) = 12 by decide), if_neg (show ¬ (20 : Int32) = 13 by decide), if_neg (show ¬ (20 : Int32) = 14 by decide), if_neg (show ¬ (20 : Int32) = 15 by decide), if_neg (show ¬ (20 : Int32) = 16 by decide), if_neg (show ¬ (20 : Int32) = 17 by decide), if_neg (show ¬ (20 : Int32) = 18 by decide), if_neg (show ¬ (20 : Int32) = 19 by decide), if_pos (show (20 : Int32) = 20 from rfl), show (20 : Int32) - 17 = nI 3 from rfl, gd_t (inB_n (by omega) (by decide)), nI_clamp (by omega), eg2 3 (by decide)]
  by_cases n21 : y = 21
  · subst n21
    refine two_query (r := v 4) (h1 := h) ki mi wa ?_ ki.2.1 (fun _ _ => rfl) (fun g eg wg rg => ?_)
    · rw [f_X10_count, if_neg (show ¬ (21 : Int32) = 0 by decide), if_neg (show ¬ (21 : Int32) = 1 by decide), if_neg (show ¬ (21 : Int32) = 2 by decide), if_neg (show ¬ (21 : Int32) = 3 by decide), if_neg (show ¬ (21 : Int32) = 4 by decide), if_neg (show ¬ (21 : Int32) = 5 by decide), if_neg (show ¬ (21 : Int32) = 6 by decide), if_neg (show ¬ (21 : Int32) = 7 by decide), if_neg (show ¬ (21 : Int32) = 8 by decide), if_neg (show ¬ (21 : Int32) = 9 by decide), if_neg (show ¬ (21 : Int32) = 10 by decide), if_neg (show ¬ (21 : Int32) = 11 by decide), if_neg (show ¬ (21 : Int32) = 12 by decide), if_neg (show ¬ (21 : Int32) = 13 by decide), if_neg (show ¬ (21 : Int32) = 14 by decide), if_neg (show ¬ (21 : Int32) = 15 by decide), if_neg (show ¬ (21 : Int32) = 16 by decide), f_X10_countSetting, show (21 : Int32) - 17 = nI 4 from rfl, show f_X5_isSetting (nI 4) h = 1 from rfl, if_neg (show ¬ (1 : Int32) = 0 by decide), c_setAt (by decide), show h 2 4 = v 4 from ki.1.1 4 (by decide)]
    · rw [f_X11_count]
      refine m_q wf eg (fun q eq mb fq => ?_)
      have eg2 : E6 (q 71) v := eq ▸ eg
      have mb : MB (q 71) (lyV v (-5)) q := by rw [eq]; exact mb
      rw [if_neg (show ¬ (21 : Int32) = 0 by decide), if_neg (show ¬ (21 : Int32) = 1 by decide), if_neg (show ¬ (21 : Int32) = 2 by decide), if_neg (show ¬ (21 : Int32) = 3 by decide), if_neg (show ¬ (21 : Int32) = 4 by decide), if_neg (show ¬ (21 : Int32) = 5 by decide), if_neg (show ¬ (21 : Int32) = 6 by decide), if_neg (show ¬ (21 : Int32) = 7 by decide), if_neg (show ¬ (21 : Int32) = 8 by decide), if_neg (show ¬ (21 : Int32) = 9 by decide), if_neg (show ¬ (21 : Int32) = 10 by decide), if_neg (show ¬ (21 : Int32) = 11 by decide), if_neg (show ¬ (21 : Int32) = 12 by decide), if_neg (show ¬ (21 : Int32) = 13 by decide), if_neg (show ¬ (21 : Int32) = 14 by decide), if_neg (show ¬ (21 : Int32) = 15 by decide), if_neg (show ¬ (21 : Int32) = 16 by decide), if_neg (show ¬ (21 : Int32) = 17 by decide), if_neg (show ¬ (21 : Int32) = 18 by decide), if_neg (show ¬ (21 : Int32) = 19 by decide), if_neg (show ¬ (21 : Int32) = 20 by decide), if_pos (show (21 : Int32) = 21 from rfl), show (21 : Int32) - 17 = nI 4 from rfl, gd_t (inB_n (by omega) (by decide)), nI_clamp (by omega), eg2 4 (by decide)]
  by_cases n22 : y = 22
  · subst n22
    refine two_query (r := v 5) (h1 := h) ki mi wa ?_ ki.2.1 (fun _ _ => rfl) (fun g eg wg rg => ?_)
    · rw [f_X10_count, if_neg (show ¬ (22 : Int32) = 0 by decide), if_neg (show ¬ (22 : Int32) = 1 by decide), if_neg (show ¬ (22 : Int32) = 2 by decide), if_neg (show ¬ (22 : Int32) = 3 by decide), if_neg (show ¬ (22 : Int32) = 4 by decide), if_neg (show ¬ (22 : Int32) = 5 by decide), if_neg (show ¬ (22 : Int32) = 6 by decide), if_neg (show ¬ (22 : Int32) = 7 by decide), if_neg (show ¬ (22 : Int32) = 8 by decide), if_neg (show ¬ (22 : Int32) = 9 by decide), if_neg (show ¬ (22 : Int32) = 10 by decide), if_neg (show ¬ (22 : Int32) = 11 by decide), if_neg (show ¬ (22 : Int32) = 12 by decide), if_neg (show ¬ (22 : Int32) = 13 by decide), if_neg (show ¬ (22 : Int32) = 14 by decide), if_neg (show ¬ (22 : Int32) = 15 by decide), if_neg (show ¬ (22 : Int32) = 16 by decide), f_X10_countSetting, show (22 : Int32) - 17 = nI 5 from rfl, show f_X5_isSetting (nI 5) h = 1 from rfl, if_neg (show ¬ (1 : Int32) = 0 by decide), c_setAt (by decide), show h 2 5 = v 5 from ki.1.1 5 (by decide)]
    · rw [f_X11_count]
      refine m_q wf eg (fun q eq mb fq => ?_)
      have eg2 : E6 (q 71) v := eq ▸ eg
      have mb : MB (q 71) (lyV v (-5)) q := by rw [eq]; exact mb
      rw [if_neg (show ¬ (22 : Int32) = 0 by decide), if_neg (show ¬ (22 : Int32) = 1 by decide), if_neg (show ¬ (22 : Int32) = 2 by decide), if_neg (show ¬ (22 : Int32) = 3 by decide), if_neg (show ¬ (22 : Int32) = 4 by decide), if_neg (show ¬ (22 : Int32) = 5 by decide), if_neg (show ¬ (22 : Int32) = 6 by decide), if_neg (show ¬ (22 : Int32) = 7 by decide), if_neg (show ¬ (22 : Int32) = 8 by decide), if_neg (show ¬ (22 : Int32) = 9 by decide), if_neg (show ¬ (22 : Int32) = 10 by decide), if_neg (show ¬ (22 : Int32) = 11 by decide), if_neg (show ¬ (22 : Int32) = 12 by decide), if_neg (show ¬ (22 : Int32) = 13 by decide), if_neg (show ¬ (22 : Int32) = 14 by decide), if_neg (show ¬ (22 : Int32) = 15 by decide), if_neg (show ¬ (22 : Int32) = 16 by decide), if_neg (show ¬ (22 : Int32) = 17 by decide), if_neg (show ¬ (22 : Int32) = 18 by decide), if_neg (show ¬ (22 : Int32) = 19 by decide), if_neg (show ¬ (22 : Int32) = 20 by decide), if_neg (show ¬ (22 : Int32) = 21 by decide), if_pos (show (22 : Int32) = 22 from rfl), show (22 : Int32) - 17 = nI 5 from rfl, gd_t (inB_n (by omega) (by decide)), nI_clamp (by omega), eg2 5 (by decide)]
  refine two_query (r := (-2 : Int32)) (h1 := h) ki mi wa ?_ ki.2.1 (fun _ _ => rfl) (fun g eg wg rg => ?_)
  · have e : f_X5_isSetting (y - (17 : Int32)) h = 0 := by
      show f_X11_in (y - (17 : Int32)) (0 : Int32) (5 : Int32) h = 0
      rcases in_n (x := y - (17 : Int32)) (a := 0) (b := 5) (by decide) (by decide) with ⟨j, _, hj, e, _⟩ | ⟨_, e⟩
      · have e2 : y = nI (17 + j) := by
          have : y = y - (17 : Int32) + 17 := by rw [Int32.sub_add_cancel]
          rw [this, e, lit_n 17, nI_add, Nat.add_comm]
        have : j = 0 ∨ j = 1 ∨ j = 2 ∨ j = 3 ∨ j = 4 ∨ j = 5 := by omega
        rcases this with q | q | q | q | q | q <;> subst q
        · exact absurd e2 n17
        · exact absurd e2 n18
        · exact absurd e2 n19
        · exact absurd e2 n20
        · exact absurd e2 n21
        · exact absurd e2 n22
      · exact e h
    rw [f_X10_count, if_neg n0, if_neg n1, if_neg n2, if_neg n3, if_neg n4, if_neg n5, if_neg n6, if_neg n7, if_neg n8, if_neg n9, if_neg n10, if_neg n11, if_neg n12, if_neg n13, if_neg n14, if_neg n15, if_neg n16, f_X10_countSetting, e, if_pos rfl]
  · rw [f_X11_count]
    refine m_q wf eg (fun q eq mb fq => ?_)
    rw [if_neg n0, if_neg n1, if_neg n2, if_neg n3, if_neg n4, if_neg n5, if_neg n6, if_neg n7, if_neg n8, if_neg n9, if_neg n10, if_neg n11, if_neg n12, if_neg n13, if_neg n14, if_neg n15, if_neg n16, if_neg n17, if_neg n18, if_neg n19, if_neg n20, if_neg n21, if_neg n22]
