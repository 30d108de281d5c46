/-! the call polishFirst -/
theorem m_pf {u : Nat → Int32} {g : HP} (w : WS u) (c : WC u) (e : g 71 = u) (h0 : 0 < N u 12) : ∃ g', f_X11_polishFirst_L20 FU (-5 : Int32) (0 : Int32) (0 : Int32) g = some (nI (pfB u (N u 12 - 1)).1, nI (pfB u (N u 12 - 1)).2, g') ∧ ∀ o, o ≠ 76 → g' o = g o := by
  have h8 := c.1.2.1
  have ft : f_X11_framesThat (3 : Int32) (sR g 76 (lyR u (nI 0) (TOT u) (g 76))) = some (nI (missW u (nI 0))) := m_framesThat (x := 3) (by decide) w (m_MB e)
  obtain ⟨g', a1, a2⟩ := m_pf_L20 w c (N u 12 - 1) 999999 0 (sR g 76 (lyR u (nI 0) (TOT u) (g 76))) (by omega) (by omega) (by rw [sR_o (by decide)]; exact e)
  refine ⟨g', ?_, fun o ho => (a2 o ho).trans (sR_o ho)⟩
  show f_X11_polishFirst_L20 (999999 + 1) (-5 : Int32) (nI 0) (nI 0) g = _
  rw [f_X11_polishFirst_L20, e, c.1.2.2, if_neg (nI_ge h0 (by omega)), ob_e (m_lay w c e), ob_e ft, if_pos rfl, tb_s, if_pos rfl, nI_1]
  exact a1
theorem in_01 {x : Int32} {h : HP} : (x = 0 ∨ x = 1) ∧ f_X11_in x (0 : Int32) (1 : Int32) h = 1 ∨ (x ≠ 0 ∧ x ≠ 1) ∧ f_X11_in x (0 : Int32) (1 : Int32) h = 0 := by
  rw [f_X11_in]
  by_cases q : x < 0
  · rw [if_pos q]
    exact Or.inr ⟨⟨fun e => by rw [e] at q; exact absurd q (by decide), fun e => by rw [e] at q; exact absurd q (by decide)⟩, rfl⟩
  · rw [if_neg q]
    obtain ⟨j, hj, rfl⟩ := nI_of q
    by_cases q2 : 1 < j
    · rw [if_pos (show (1 : Int32) < nI j from nI_lt (a := 1) q2 hj)]
      refine Or.inr ⟨⟨fun e => ?_, fun e => ?_⟩, rfl⟩
      · have := (nI_eq (b := 0) hj (by decide)).mp e
        omega
      · have := (nI_eq (b := 1) hj (by decide)).mp e
        omega
    · rw [if_neg (show ¬ (1 : Int32) < nI j from nI_nlt (a := 1) (b := j) (by omega) (by decide))]
      refine Or.inl ⟨?_, rfl⟩
      have : j = 0 ∨ j = 1 := by omega
      rcases this with e | e <;> subst e
      · exact Or.inl rfl
      · exact Or.inr rfl
theorem two_polishFirst {T : Nat} {h : HP} {x : Int32} (inv : Inv T h) : Two T h (f_X10_polishFirst x) (f_X11_polishFirst x) := by
  obtain ⟨v, n, H, kb, kv, L, tx, ki, mi, wa⟩ := inv
  have ws := wa.1.1
  have wc := wa.1.2.2.1
  have h8 := wc.1.2.1
  have rc := ki.1.2.2.1
  rcases in_01 (x := x) (h := h) with ⟨hx, _⟩ | ⟨hx, _⟩
  · by_cases q : N v 12 = 0
    · have e31 : h 3 1 = 0 := by
        refine rc.1.trans ?_
        rw [wc.1.2.2, q]
        rfl
      refine two_query (r := (-5 : Int32)) (h1 := h) ki mi wa ?_ ki.2.1 (fun _ _ => rfl) (fun g eg wg rg => ⟨g, ?_, eg, fun _ _ _ _ => rfl⟩)
      · rw [f_X10_polishFirst]
        rcases hx with e | e
        · rw [if_pos e, if_pos e31]
        · rw [if_neg (by rw [e]; decide), if_pos e, if_pos e31]
      · have e0 : f_X11_polishFirst_L20 FU (-5 : Int32) (0 : Int32) (0 : Int32) g = some ((-5 : Int32), (0 : Int32), g) := by
          show f_X11_polishFirst_L20 (999999 + 1) (-5 : Int32) (0 : Int32) (0 : Int32) g = _
          have : g 71 12 = 0 := by
            rw [eg 12 (by decide), wc.1.2.2, q]
            rfl
          rw [f_X11_polishFirst_L20, this, if_pos (by decide)]
        rcases in_01 (x := x) (h := g) with ⟨_, ei⟩ | ⟨hn, _⟩
        · rw [f_X11_polishFirst, ei, if_neg (by decide), ob_e e0, if_pos rfl]
        · exact absurd hx (fun c => c.elim hn.1 hn.2)
    · obtain ⟨h1, h2, h3, h4, a1, a2, a3, a4, a5, a6⟩ := c_pf ws wc ki.1.1 rc ki.2.1 (by omega)
      have ne : ¬ h 3 1 = 0 := by
        rw [show h 3 1 = nI (N v 12) from rc.1.trans wc.1.2.2]
        exact nI_ne0 (by omega) (by omega)
      refine two_query (r := if x = 0 then nI (pfB v (N v 12 - 1)).1 else nI (pfB v (N v 12 - 1)).2) (h1 := h4) ki mi wa ?_ a5 a6 (fun g eg wg rg => ?_)
      · have body : ob (f_X7_of 1 h) (fun q38 => ob (f_X7_missingWithout (0 : Int32) q38) (fun q42 => ob (f_X10_polishFirst_L49 FU (0 : Int32) q42.1 (1 : Int32) q42.2) (fun q49 => ob (f_X7_judge (-1 : Int32) q49.2.2) (fun q98 => if x = 0 then some (q49.1, q98) else some (q49.2.1, q98))))) = some ((if x = 0 then nI (pfB v (N v 12 - 1)).1 else nI (pfB v (N v 12 - 1)).2), h4) := by
          rw [ob_e a1, ob_e a2]
          refine (ob_e a3).trans ?_
          refine (ob_e a4).trans ?_
          split <;> rfl
        rw [f_X10_polishFirst]
        rcases hx with e | e
        · rw [if_pos e, if_neg ne]
          exact body
        · rw [if_neg (by rw [e]; decide), if_pos e, if_neg ne]
          exact body
      · have nn := eg.n (show 12 < 166 by decide)
        obtain ⟨g', b1, b2⟩ := m_pf wg.1 wg.2.2.1 rfl (by omega)
        refine ⟨g', ?_, by rw [b2 71 (by decide)]; exact eg, fun o _ _ h3 => b2 o h3⟩
        rcases in_01 (x := x) (h := g) with ⟨_, ei⟩ | ⟨hn, _⟩
        · have hp := pfB_le wg.1 (N (g 71) 12 - 1)
          have ne5 : ¬ nI (pfB (g 71) (N (g 71) 12 - 1)).1 = (-5 : Int32) := fun q => by
            have := nI_pos (n := (pfB (g 71) (N (g 71) 12 - 1)).1) (by omega)
            rw [q] at this
            exact this (by decide)
          rw [f_X11_polishFirst, ei, if_neg (by decide), ob_e b1, if_neg ne5, nn, eg.pf wc]
          split <;> rfl
        · exact absurd hx (fun c => c.elim hn.1 hn.2)
  · refine two_query (r := (-2 : Int32)) (h1 := h) ki mi wa ?_ ki.2.1 (fun _ _ => rfl) (fun g eg wg rg => ⟨g, ?_, eg, fun _ _ _ _ => rfl⟩)
    · rw [f_X10_polishFirst, if_neg hx.1, if_neg hx.2]
    · rcases in_01 (x := x) (h := g) with ⟨hy, _⟩ | ⟨_, ei⟩
      · exact absurd hy (fun c => c.elim hx.1 hx.2)
      · rw [f_X11_polishFirst, ei, if_pos rfl]
