/-! play as an order, and the call -/
theorem plM_lt {F M X p s : Nat} (hF : FM F M) (hX : X ≤ 999) (s1 : 8 ≤ s) (s2 : s ≤ 214) : plM F M X p s < 8000 := by
  have h2 := TU_le (F := F) (M := M) (f := p)
  have a1 := fo_214 hF h2
  unfold plM dN
  omega
theorem op_play {T : Nat} {v : Nat → Int32} {x : Int32} (hT : T + 10000 < 2 ^ 31) (wf : WF T v) : Op false T v (f_X10_playFrames x) (f_X11_plays x) := by
  have ws := wf.1
  have wh := wf.2.1
  have wc := wf.2.2.1
  have hfm := FM_tot ws.fm
  have p3 : TOT v ≤ 3810 := hfm.2.1
  have p6 := wh.1.2.1
  rcases in_n (x := x) (a := 1) (b := 999) (by decide) (by decide) with ⟨X, x1, x2, rfl, ei⟩ | ⟨hno, ei⟩
  · have c1 : ¬ nI X < (1 : Int32) := nI_nlt (b := 1) x1 (by omega)
    have c2 : nI X ≤ (999 : Int32) := nI_le (b := 999) x2 (by decide)
    by_cases q : N v 6 < TOT v
    · have hm := plM_lt (p := N v 6) ws.fm x2 wh.2.1.1 wh.2.1.2.1
      have B := pl_rng (f := N v 3) (b := fun f => decide (f < TOT v) && lyV v (-5) f) ws.fm ws.sb.2.1 8000 X 0 0 (N v 6) (N v 7) (N v 8) wh.2.1.1 wh.2.1.2.1 p6 (Nat.le_refl _)
      have cr := fun (h : HP) (w : Nat → Int32) => c_readFrames_L15 (h := h) (w := w) (o := 8) (os := 2) (j := N v 11) (X := X) (b := fun f => decide (f < TOT v) && lyV v (-5) f) ws.sb (by decide) (by decide) (by omega) 8000 FU X 0 0 (N v 6) (N v 7) (N v 8) 0
      have mr := fun (h : HP) (w : Nat → Int32) (se : SE (N v 0) (N v 1) (N v 2) (N v 3) w) => m_plays_L41 (h := h) (w := w) (j := N v 11) (X := X) (r0 := N v 9) (b := fun f => decide (f < TOT v) && lyV v (-5) f) ws.sb (by omega) se 8000 FU X 0 0 (N v 6) (N v 7) (N v 8)
      generalize hP : pl (N v 0) (N v 1) (N v 2) (N v 3) (STn (N v 0) (N v 1) 30) (fun f => decide (f < TOT v) && lyV v (-5) f) 8000 X 0 0 (N v 6) (N v 7) (N v 8) = P at *
      have k0 := wh.2.2.1.2.1
      have r0 := wh.2.2.2.1.2.1
      have w0 := wh.2.2.2.2.1.2.1
      have j0 := wh.2.2.2.2.2.2.1
      have wf1 : WF (T + 10000) (mw v P.2.2.1 P.2.2.2.1 P.2.2.2.2 (N v 11)) := wf.head2 (by omega) hT B.2.1 B.1.1 B.1.2 (by omega) (by omega)
      have wf' : WF (T + 10000) (up (up (mw v P.2.2.1 P.2.2.2.1 P.2.2.2.2 (N v 11)) 9 (nI (N v 9 + P.1))) 10 (nI (N v 10 + P.2.1))) := by
        refine ⟨(wf1.1.upk (by omega)).upk (by omega), ?_, (wf1.2.2.1.upk (by omega)).upk (by omega), (wf1.2.2.2.upk (by omega)).upk (by omega)⟩
        obtain ⟨a1, a2, a3, a4, a5, a6⟩ := wf1.2.1
        unfold WH
        rw [TOT_up (by omega), TOT_up (by omega)]
        exact ⟨(a1.upk (by omega)).upk (by omega), (a2.upk (by omega)).upk (by omega), (a3.upk (by omega)).upk (by omega), (isN_up (by omega) (by omega) (by omega)).upk (by omega), isN_up (by omega) (by omega) (by omega), (a6.upk (by omega)).upk (by omega)⟩
      have hr : (0 : Int32) ≤ nI P.2.1 := nI_pos' (by omega)
      refine ⟨nI P.2.1, nI P.2.1, _, fun h r1 sv => ?_, fun g eg => ?_, wf', Or.inr ⟨hr, hr, (fun e => by simp at e), fun _ => rfl⟩⟩
      · have e80 : h 8 0 = nI (N v 6) := (r1.2.1 0 (by decide)).trans wh.1.2.2
        have eaf : f_X5_allFrames 2 h = nI (TOT v) := c_allFrames (ws.ge r1.1)
        obtain ⟨h1, o1, o2, o3⟩ := c_of ws wc r1.1 r1.2.2.1 sv
        have r2 : R h1 1 v := r1.of (fun a h1 h2 => o3 a (by omega))
        have w8 : h1 8 = hw (h1 8) (N v 6) (N v 7) (N v 8) (N v 11) := (hw_id ((r2.2.1 0 (by decide)).trans wh.1.2.2) ((r2.2.1 1 (by decide)).trans wh.2.1.2.2) ((r2.2.1 2 (by decide)).trans wh.2.2.1.2.2) ((r2.2.1 5 (by decide)).trans wh.2.2.2.2.2.2.2)).symm
        have ma := MS_all wc o2.2.1
        have cr := cr h1 (h1 8) hm (by decide) (by decide) (by omega) wh.2.1.1 wh.2.1.2.1 p6 (ws.se r2.1) w8 (fun q hq => by
          have := ma q hq
          rw [and_m1] at this
          exact this)
        rw [nI_0] at cr
        have rn := ((r2.head (w := h1 8) (p := P.2.2.1) (s := P.2.2.2.1) (k := P.2.2.2.2) (j := N v 11) rfl).uph (i := 3) (x := nI (N v 9 + P.1)) (by decide)).uph (i := 4) (x := nI (N v 10 + P.2.1)) (by decide)
        have k3 : h1 8 3 = nI (N v 9) := (r2.2.1 3 (by decide)).trans wh.2.2.2.1.2.2
        have k4 : h1 8 4 = nI (N v 10) := (r2.2.1 4 (by decide)).trans wh.2.2.2.2.1.2.2
        refine ⟨hset (hset (sR h1 8 (hw (h1 8) P.2.2.1 P.2.2.2.1 P.2.2.2.2 (N v 11))) 8 3 (nI (N v 9 + P.1))) 8 4 (nI (N v 10 + P.2.1)), ?_, rn, ?_, fun o ho => ?_⟩
        · rw [f_X10_playFrames, if_neg c1, if_pos c2, e80, eaf, if_pos (nI_lt q (by omega)), ob_e o1]
          have af1 : f_X5_allFrames 2 h1 = nI (STn (N v 0) (N v 1) 30) := c_allFrames (ws.ge r2.1)
          have rf : f_X1_readFrames 8 (nI X) 2 h1 = some (nI P.2.1, hset (hset (sR h1 8 (hw (h1 8) P.2.2.1 P.2.2.2.1 P.2.2.2.2 (N v 11))) 8 3 (nI (N v 9 + P.1))) 8 4 (nI (N v 10 + P.2.1))) := by
            rw [f_X1_readFrames, af1]
            refine (ob_e cr).trans ?_
            dsimp only
            rw [sR_s, hw_3, k3, nI_add, tb_s, hset_oth (by omega), sR_s, hw_4, k4, nI_add]
          exact ob_e rf
        · exact SV.of ⟨v, ws, wc, o2⟩ (fun o h1 h2 => by rw [hset_sR, sR_o (by omega), hset_sR, sR_o (by omega), sR_o (by omega)])
        · rw [hset_sR, sR_o (by omega), hset_sR, sR_o (by omega), sR_o (by omega), o3 o (by omega)]
      · have wg := eg.symm.wf wf
        have se : SE (N v 0) (N v 1) (N v 2) (N v 3) (g 71) := by
          rw [← eg.n (show 0 < 166 by decide), ← eg.n (show 1 < 166 by decide), ← eg.n (show 2 < 166 by decide), ← eg.n (show 3 < 166 by decide)]
          exact wg.1.sm
        have z : ∀ i lo hi, i < 166 → isN v i lo hi → g 71 i = nI (N v i) := fun i lo hi h q => (eg i h).trans q.2.2
        have u9 : up (g 71) 9 (nI (N v 9 + 0)) = g 71 := up_id (z 9 _ _ (by decide) wh.2.2.2.1)
        have w71 : sR g 76 (lyR (g 71) (-5) (TOT (g 71)) (g 76)) 71 = mw (up (g 71) 9 (nI (N v 9 + 0))) (N v 6) (N v 7) (N v 8) (N v 11) := by
          rw [sR_o (by decide), u9]
          exact (mw_id (z 6 _ _ (by decide) wh.1) (z 7 _ _ (by decide) wh.2.1) (z 8 _ _ (by decide) wh.2.2.1) (z 11 _ _ (by decide) wh.2.2.2.2.2)).symm
        have tt : TOT (g 71) = TOT v := (eg.lk wc).tot
        have mr := mr (sR g 76 (lyR (g 71) (-5) (TOT (g 71)) (g 76))) (g 71) se hm (by decide) (by omega) wh.2.1.1 wh.2.1.2.1 p6 w71 (fun q hq => by
          have hq : q < TOT v := hq
          have := (m_MB (x := -5) (h := g) rfl).2 q (by omega)
          show (_ ↔ (decide (q < TOT v) && lyV v (-5) q) = false)
          rw [this, bI_0, (eg.lk wc).ly, decide_eq_true hq, Bool.true_and])
        have e6 : g 71 6 = nI (N v 6) := z 6 _ _ (by decide) wh.1
        have fr : f_X11_frames g = nI (TOT v) := by
          rw [m_frames, c_allFrames (eg.ge ws)]
          rfl
        have e10 : ∀ a b c d, mw (up (g 71) 9 (nI (N v 9 + P.1))) a b c d 10 = nI (N v 10) := fun a b c d => by
          rw [mw_o (Or.inr (Or.inr (Or.inr rfl))), up_o (by decide)]
          exact z 10 _ _ (by decide) wh.2.2.2.2.1
        refine ⟨hset (sR (sR g 76 (lyR (g 71) (-5) (TOT (g 71)) (g 76))) 71 (mw (up (g 71) 9 (nI (N v 9 + P.1))) P.2.2.1 P.2.2.2.1 P.2.2.2.2 (N v 11))) 71 10 (nI (N v 10 + P.2.1)), ?_, ?_, fun o h1 h2 => ?_⟩
        · have ei := ei g
          have ei' : f_X11_in (nI X) (1 : Int32) (999 : Int32) g = 1 := ei
          rw [f_X11_plays, ei', if_neg (by decide), e6, fr, if_neg (fun e => by have := (nI_eq (by omega) (by omega)).mp e; omega), ob_e (m_lay wg.1 wg.2.2.1 rfl)]
          refine (ob_e mr).trans ?_
          dsimp only
          rw [sR_s, e10, nI_add]
        · rw [hset_sR, sR_s, sR_s]
          intro i hi
          have := eg i hi
          by_cases q10 : i = 10
          · subst q10
            rw [up_s, up_s]
          · rw [up_o q10, up_o q10]
            by_cases q9 : i = 9
            · subst q9
              rw [up_s, mw_o (Or.inr (Or.inr (Or.inl rfl))), up_s]
            · rw [up_o q9]
              unfold mw up
              repeat' split
              all_goals first | rfl | exact this | omega
        · rw [hset_sR, sR_o h1, sR_o h1, sR_o h2]
    · refine ⟨(-5 : Int32), (-5 : Int32), v, fun h r1 sv => ⟨h, ?_, r1, sv, fun _ _ => rfl⟩, fun g eg => ⟨g, ?_, eg, fun _ _ _ => rfl⟩, wf.mono (by omega), Or.inl ⟨by decide, rfl, rfl⟩⟩
      · have e80 : h 8 0 = nI (N v 6) := (r1.2.1 0 (by decide)).trans wh.1.2.2
        have eaf : f_X5_allFrames 2 h = nI (TOT v) := c_allFrames (ws.ge r1.1)
        rw [f_X10_playFrames, if_neg c1, if_pos c2, e80, eaf, if_neg (nI_nlt (by omega) (by omega))]
      · have e6 : g 71 6 = nI (N v 6) := (eg 6 (by decide)).trans wh.1.2.2
        have fr : f_X11_frames g = nI (TOT v) := by
          rw [m_frames, c_allFrames (eg.ge ws)]
          rfl
        have ei' : f_X11_in (nI X) (1 : Int32) (999 : Int32) g = 1 := ei g
        have : N v 6 = TOT v := by
          have : N v 6 ≤ TOT v := p6
          omega
        rw [f_X11_plays, ei', if_neg (by decide), e6, fr, if_pos (by rw [this])]
  · refine ⟨(-2 : Int32), (-2 : Int32), v, fun h r1 sv => ⟨h, ?_, r1, sv, fun _ _ => rfl⟩, fun g eg => ⟨g, ?_, eg, fun _ _ _ => rfl⟩, wf.mono (by omega), Or.inl ⟨by decide, rfl, rfl⟩⟩
    · rw [f_X10_playFrames]
      by_cases q1 : x < 1
      · rw [if_pos q1]
      · rw [if_neg q1]
        by_cases q2 : x ≤ 999
        · refine absurd ?_ hno
          have q0 : ¬ x < 0 := fun e => q1 (Int32.lt_trans e (by decide))
          obtain ⟨j, hj, rfl⟩ := nI_of q0
          refine ⟨j, ?_, ?_, rfl⟩
          · rcases Nat.lt_or_ge j 1 with c | c
            · exact absurd (nI_lt (b := 1) c (by decide)) q1
            · exact c
          · exact (nI_leI (b := 999) hj (by decide)).mp q2
        · rw [if_neg q2]
    · have ei' : f_X11_in x (1 : Int32) (999 : Int32) g = 0 := ei g
      rw [f_X11_plays, ei', if_pos rfl]
theorem two_play {T : Nat} {h : HP} {x : Int32} (hT : T + 1000000 < 2 ^ 31) (inv : Inv T h) : Two T h (f_X10_play x) (f_X11_play x) := two_act inv (fun _ wf => op_play (by omega) wf)
