/-! seek as an order -/
theorem op_seek {T : Nat} {v : Nat → Int32} {x : Int32} (hT : T + 10000 < 2 ^ 31) (wf : WF T v) : Op false T v (f_X10_seekFrame x) (f_X11_seeks x) := by
  have ws := wf.1
  have wh := wf.2.1
  have hfm := FM_tot ws.fm
  have p3 : TOT v ≤ 3810 := hfm.2.1
  by_cases hx : ∃ f, f < TOT v ∧ x = nI f
  · obtain ⟨f, hf, rfl⟩ := hx
    have sb := ws.sb
    have B := sk_B (m := N v 2) (f := N v 3) (k := N v 8) (j := N v 11) (x := f) ws.fm ws.2.2.2.2.1.1 ws.2.2.2.2.1.2.1 ws.2.2.2.2.2.2.1 wh.2.1.1 wh.2.1.2.1 wh.1.2.1 (by omega)
    have cg := fun (h : HP) (w : Nat → Int32) => c_goTo (h := h) (w := w) (o := 8) (os := 2) (x := f) (j := N v 11) (k := N v 8) (s := N v 7) (p := N v 6) sb (by decide) ws.2.2.2.2.2.2.1 ws.2.2.2.2.1.1 ws.2.2.2.2.1.2.1
    have ms := fun (h : HP) (w : Nat → Int32) => m_seeks (h := h) (w := w) (x := f) (j := N v 11) (k := N v 8) (s := N v 7) (p := N v 6) sb ws.2.2.2.2.2.2.1 ws.2.2.2.2.1.1 ws.2.2.2.2.1.2.1
    generalize hK : skK (N v 0) (N v 1) (N v 2) (N v 3) (N v 5) (N v 4) f (N v 6) (N v 7) (N v 8) (N v 11) = K at *
    generalize hS : skS (N v 0) (N v 1) (N v 2) (N v 3) (N v 5) (N v 4) f (N v 6) (N v 7) (N v 8) (N v 11) = S at *
    generalize hJ : skJ (N v 0) (N v 1) (N v 2) (N v 5) (N v 4) f (N v 6) (N v 7) (N v 8) (N v 11) = J at *
    have k0 := wh.2.2.1.2.1
    have j0 := wh.2.2.2.2.2.2.1
    have wf' : WF (T + 10000) (mw v f S K J) := wf.head2 (by omega) hT (Nat.le_of_lt hf) B.1.1 B.1.2 (by omega) (by omega)
    have hr : (0 : Int32) ≤ nI (K - N v 8) := nI_pos' (by omega)
    refine ⟨nI (K - N v 8), nI (K - N v 8), mw v f S K J, fun h r1 sv => ?_, fun g eg => ?_, wf', Or.inr ⟨hr, hr, (fun e => by simp at e), fun _ => rfl⟩⟩
    · have w8 : h 8 = hw (h 8) (N v 6) (N v 7) (N v 8) (N v 11) := (hw_id ((r1.2.1 0 (by decide)).trans wh.1.2.2) ((r1.2.1 1 (by decide)).trans wh.2.1.2.2) ((r1.2.1 2 (by decide)).trans wh.2.2.1.2.2) ((r1.2.1 5 (by decide)).trans wh.2.2.2.2.2.2.2)).symm
      have g4 : h 2 4 = nI (N v 4) := (r1.1 4 (by decide)).trans ws.2.2.2.2.1.2.2
      have g5 : h 2 5 = nI (N v 5) := (r1.1 5 (by decide)).trans ws.2.2.2.2.2.2.2
      have k8 : h 8 2 = nI (N v 8) := (r1.2.1 2 (by decide)).trans wh.2.2.1.2.2
      have cg := cg h (h 8) (ws.se r1.1) g5 w8 wh.2.1.1 wh.2.1.2.1 wh.1.2.1 hf
      refine ⟨sR h 8 (hw (h 8) f S K J), ?_, r1.head rfl, sv.of (fun o h1 h2 => sR_o (by omega)), fun o ho => sR_o (by omega)⟩
      rw [f_X10_seekFrame, c_hasFrame_y (ws.ge r1.1) ws.fm hf, if_neg (by decide), g4, ob_e cg, sR_s, hw_2, k8, pk_sub B.2.1.1]
    · have wg := eg.symm.wf wf
      have se : SE (N v 0) (N v 1) (N v 2) (N v 3) (g 71) := by
        rw [← eg.n (show 0 < 166 by decide), ← eg.n (show 1 < 166 by decide), ← eg.n (show 2 < 166 by decide), ← eg.n (show 3 < 166 by decide)]
        exact wg.1.sm
      have z : ∀ i lo hi, i < 166 → isN v i lo hi → g 71 i = nI (N v i) := fun i lo hi h q => (eg i h).trans q.2.2
      have w71 : g 71 = mw (g 71) (N v 6) (N v 7) (N v 8) (N v 11) := (mw_id (z 6 _ _ (by decide) wh.1) (z 7 _ _ (by decide) wh.2.1) (z 8 _ _ (by decide) wh.2.2.1) (z 11 _ _ (by decide) wh.2.2.2.2.2)).symm
      have ms := ms g (g 71) se (z 5 _ _ (by decide) ws.2.2.2.2.2) (z 4 _ _ (by decide) ws.2.2.2.2.1) w71 wh.2.1.1 wh.2.1.2.1 wh.1.2.1 hf
      exact ⟨_, ms, by rw [sR_s]; exact eg.mw, fun o h1 _ => sR_o h1⟩
  · refine ⟨(-1 : Int32), (-1 : Int32), v, fun h r1 sv => ⟨h, ?_, r1, sv, fun _ _ => rfl⟩, fun g eg => ⟨g, ?_, eg, fun _ _ _ => rfl⟩, wf.mono (by omega), Or.inl ⟨by decide, rfl, rfl⟩⟩
    · rw [f_X10_seekFrame, c_hasNo (ws.ge r1.1) ws.fm hx, if_pos rfl]
    · rw [f_X11_seeks, m_hasNo eg ws hx, if_pos rfl]
