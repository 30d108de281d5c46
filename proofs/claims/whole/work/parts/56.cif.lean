/-! the call ifSought -/
theorem m_try {T : Nat} {v : Nat → Int32} {g : HP} {f : Nat} (wf : WF T v) (eg : E6 (g 71) v) (hf : f < TOT v) : ∃ w, f_X11_seeks (nI f) (aS g) = some (nI (tK v (N v 4) f - N v 8), sR (aS g) 71 w) ∧ w 11 = nI (tJ v (N v 4) f) := by
  have ws := wf.1
  have wh := wf.2.1
  have wg := eg.symm.wf wf
  have se : SE (N v 0) (N v 1) (N v 2) (N v 3) (g 71) := by
    rw [← eg.n (show 0 < 166 by decide), ← eg.n (show 1 < 166 by decide), ← eg.n (show 2 < 166 by decide), ← eg.n (show 3 < 166 by decide)]
    exact wg.1.sm
  have z : ∀ i lo hi, i < 166 → isN v i lo hi → g 71 i = nI (N v i) := fun i lo hi h q => (eg i h).trans q.2.2
  have w71 : aS g 71 = mw (g 71) (N v 6) (N v 7) (N v 8) (N v 11) := aS_71.trans (mw_id (z 6 _ _ (by decide) wh.1) (z 7 _ _ (by decide) wh.2.1) (z 8 _ _ (by decide) wh.2.2.1) (z 11 _ _ (by decide) wh.2.2.2.2.2)).symm
  exact ⟨_, m_seeks (x := f) (h := aS g) ws.sb ws.2.2.2.2.2.2.1 ws.2.2.2.2.1.1 ws.2.2.2.2.1.2.1 se (z 5 _ _ (by decide) ws.2.2.2.2.2) (z 4 _ _ (by decide) ws.2.2.2.2.1) w71 wh.2.1.1 wh.2.1.2.1 wh.1.2.1 hf, rfl⟩
theorem m_noFrame {T : Nat} {v : Nat → Int32} {g : HP} {x : Int32} (wf : WF T v) (eg : E6 (g 71) v) : (∃ f, f < TOT v ∧ x = nI f ∧ f_X11_isFrame x g = 1) ∨ (∀ f, f < TOT v → x ≠ nI f) ∧ f_X11_isFrame x g = 0 := by
  have wg := eg.symm.wf wf
  have ge : GE (N v 0) (N v 1) g 71 := by
    unfold GE
    rw [← eg.n (show 0 < 166 by decide), ← eg.n (show 1 < 166 by decide)]
    exact ⟨wg.1.1.2.2, wg.1.2.1.2.2⟩
  rw [m_isFrame ge wf.1.fm]
  exact c_hasFrame ge wf.1.fm x
theorem two_ifSought {T : Nat} {h : HP} {x y : Int32} (inv : Inv T h) : Two T h (f_X10_ifSought x y) (f_X11_ifSought x y) := by
  obtain ⟨v, n, H, kb, kv, L, tx, ki, mi, wa⟩ := inv
  have wf := wa.1
  have ws := wf.1
  rcases c_hasFrame (ws.ge ki.1.1) ws.fm x with ⟨f, hf, rfl, e1⟩ | ⟨hno, e0⟩
  · rcases in_01 (x := y) (h := h) with ⟨hy, _⟩ | ⟨hy, _⟩
    · have g4 : h 2 4 = nI (N v 4) := (ki.1.1 4 (by decide)).trans ws.2.2.2.2.1.2.2
      obtain ⟨h1, a1, a2, a3⟩ := c_try wf ki.1 hf ws.2.2.2.2.1.1 ws.2.2.2.2.1.2.1
      have j8 : h1 8 5 = v 11 := by
        rw [a3 8 (by decide)]
        exact ki.1.2.1 5 (by decide)
      refine two_query (r := if y = 0 then nI (tK v (N v 4) f - N v 8) else nI (tJ v (N v 4) f) - v 11) (h1 := h1) ki mi wa ?_ (ki.2.1.of (fun o h1 h2 => a3 o (by omega))) (fun o ho => a3 o (by omega)) (fun g eg wg rg => ?_)
      · have body : ob (f_X10_trySeek (nI f) (h 2 4) h) (fun q40 => if y = 0 then some (q40.1, q40.2) else some ((q40.2 69 5) - (q40.2 8 5), q40.2)) = some ((if y = 0 then nI (tK v (N v 4) f - N v 8) else nI (tJ v (N v 4) f) - v 11), h1) := by
          rw [g4, ob_e a1]
          dsimp only
          rw [a2, j8]
          split <;> rfl
        rw [f_X10_ifSought, e1, if_neg (by decide)]
        rcases hy with e | e
        · rw [if_pos e]
          exact body
        · rw [if_neg (by rw [e]; decide), if_pos e]
          exact body
      · obtain ⟨w, b1, b2⟩ := m_try wf eg hf
        rcases m_noFrame (x := nI f) wf eg with ⟨_, _, _, ef⟩ | ⟨hn, _⟩
        · rcases in_01 (x := y) (h := g) with ⟨_, ei⟩ | ⟨hn, _⟩
          · refine ⟨sR (sR (aS g) 71 w) 71 (cpR (sR (aS g) 71 w 72) (sR (aS g) 71 w 71) 166), ?_, ?_, fun o h1 h2 _ => ?_⟩
            · rw [f_X11_ifSought, ef, if_neg (by decide), ei, if_neg (by decide), ob_e (m_putAside g)]
              refine (ob_e b1).trans ?_
              refine (ob_e (m_putBack _)).trans ?_
              have e72 : sR (aS g) 71 w 72 11 = v 11 := by
                rw [sR_o (by decide)]
                unfold aS
                rw [sR_s]
                exact (cpR_e 11 (by decide)).trans (eg 11 (by decide))
              have e71 : sR (aS g) 71 w 71 11 = nI (tJ v (N v 4) f) := by rw [sR_s, b2]
              dsimp only
              rw [e71, e72]
              split <;> rfl
            · rw [sR_s, sR_o (by decide)]
              refine cpR_e.trans ?_
              unfold aS
              rw [sR_s]
              exact cpR_e.trans eg
            · rw [sR_o h1, sR_o h1]
              exact sR_o h2
          · exact absurd hy (fun c => c.elim hn.1 hn.2)
        · exact absurd rfl (hn f hf)
    · refine two_query (r := (-2 : Int32)) (h1 := h) ki mi wa ?_ ki.2.1 (fun _ _ => rfl) (fun g eg wg rg => ⟨g, ?_, eg, fun _ _ _ _ => rfl⟩)
      · rw [f_X10_ifSought, e1, if_neg (by decide), if_neg hy.1, if_neg hy.2]
      · rcases m_noFrame (x := nI f) wf eg with ⟨_, _, _, ef⟩ | ⟨hn, _⟩
        · rcases in_01 (x := y) (h := g) with ⟨hz, _⟩ | ⟨_, ei⟩
          · exact absurd hz (fun c => c.elim hy.1 hy.2)
          · rw [f_X11_ifSought, ef, if_neg (by decide), ei, if_pos rfl]
        · exact absurd rfl (hn f hf)
  · refine two_query (r := (-1 : Int32)) (h1 := h) ki mi wa ?_ ki.2.1 (fun _ _ => rfl) (fun g eg wg rg => ⟨g, ?_, eg, fun _ _ _ _ => rfl⟩)
    · rw [f_X10_ifSought, e0, if_pos rfl]
    · rcases m_noFrame (x := x) wf eg with ⟨f, hf, e, _⟩ | ⟨_, ef⟩
      · exact absurd e (hno f hf)
      · rw [f_X11_ifSought, ef, if_pos rfl]
