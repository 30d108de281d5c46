/-! the call gap -/
def gpV (v : Nat → Int32) : Nat × Nat × Nat := gpN (fun f => decide (how (lyV v (-5)) (TOT v) f = 3)) (TOT v)
theorem E6.gp {u v : Nat → Int32} (e : E6 u v) (c : WC v) : gpV u = gpV v := by
  unfold gpV
  rw [(e.lk c).tot, (e.lk c).ly]
theorem two_gap {T : Nat} {h : HP} {x : Int32} (inv : Inv T h) : Two T h (f_X10_gap x) (f_X11_gap x) := by
  obtain ⟨v, n, H, kb, kv, L, tx, ki, mi, wa⟩ := inv
  have ws := wa.1.1
  have wc := wa.1.2.2.1
  have hT := FM_tot ws.fm
  have hT' : TOT v ≤ 3810 ∧ TOT v % 5 = 0 := hT.2
  have hG := gpN_le (p := fun f => decide (how (lyV v (-5)) (TOT v) f = 3)) (TOT v)
  rcases in_01 (x := x) (h := h) with ⟨hx, _⟩ | ⟨hx, _⟩
  · obtain ⟨h1, a1, a2, a3⟩ := c_of ws wc ki.1.1 ki.1.2.2.1 ki.2.1
    have af : f_X5_allFrames 2 h = nI (TOT v) := c_allFrames (ws.ge ki.1.1)
    have l := c_gap_L46 (h := h1) hT'.1 a2.2.2 (TOT v) FU 0 (by omega) (Nat.lt_of_le_of_lt hT'.1 (by decide))
    have l' : f_X10_gap_L46 FU (0 : Int32) (0 : Int32) (0 : Int32) (nI (TOT v)) (0 : Int32) h1 = some (nI (gpV v).1, nI (gpV v).2.1) := l
    have body : ob (f_X7_of 1 h) (fun q39 => ob (f_X10_gap_L46 FU (0 : Int32) (0 : Int32) (0 : Int32) (f_X5_allFrames 2 h) (0 : Int32) q39) (fun q46 => if q46.1 = 0 then some ((-5 : Int32), q39) else if x = 0 then some (q46.2, q39) else some (q46.1, q39))) = some ((if (gpV v).1 = 0 then (-5 : Int32) else if x = 0 then nI (gpV v).2.1 else nI (gpV v).1), h1) := by
      rw [ob_e a1, af]
      refine (ob_e l').trans ?_
      show (if nI (gpV v).1 = 0 then some ((-5 : Int32), h1) else if x = 0 then some (nI (gpV v).2.1, h1) else some (nI (gpV v).1, h1)) = _
      by_cases q : (gpV v).1 = 0
      · rw [if_pos (by rw [q]; rfl), if_pos q]
      · have : (gpV v).1 ≤ TOT v := hG.1
        rw [if_neg (nI_ne0 (by omega) (by omega)), if_neg q]
        split <;> rfl
    refine two_query (r := if (gpV v).1 = 0 then (-5 : Int32) else if x = 0 then nI (gpV v).2.1 else nI (gpV v).1) (h1 := h1) ki mi wa ?_ ⟨v, ws, wc, a2⟩ (fun o ho => a3 o (by omega)) (fun g eg wg rg => ?_)
    · rw [f_X10_gap]
      rcases hx with e | e
      · rw [if_pos e]
        exact body
      · rw [if_neg (by rw [e]; decide), if_pos e]
        exact body
    · have tt : TOT (g 71) = TOT v := (eg.lk wc).tot
      have lm := m_gap_L29 wg.1 (m_MB (x := -5) (h := g) rfl) (TOT (g 71)) FU 0 (by omega) (Nat.lt_of_le_of_lt (show TOT (g 71) ≤ 3810 by omega) (by decide))
      have lm' : f_X11_gap_L29 FU (-5 : Int32) (0 : Int32) (0 : Int32) (0 : Int32) (sR g 76 (lyR (g 71) (-5) (TOT (g 71)) (g 76))) = some (gpS (gpV (g 71)), nI (gpV (g 71)).1) := lm
      rw [eg.gp wc] at lm'
      refine ⟨sR g 76 (lyR (g 71) (-5) (TOT (g 71)) (g 76)), ?_, by rw [sR_o (by decide)]; exact eg, fun o _ _ h3 => sR_o h3⟩
      rcases in_01 (x := x) (h := g) with ⟨_, ei⟩ | ⟨hn, _⟩
      · rw [f_X11_gap, ei, if_neg (by decide), ob_e (m_lay wg.1 wg.2.2.1 rfl)]
        refine (ob_e lm').trans ?_
        show (if nI (gpV v).1 = 0 then _ else _) = _
        by_cases q : (gpV v).1 = 0
        · rw [if_pos (by rw [q]; rfl), if_pos q]
        · have : (gpV v).1 ≤ TOT v := hG.1
          have es : gpS (gpV v) = nI (gpV v).2.1 := if_neg q
          rw [if_neg (nI_ne0 (by omega) (by omega)), if_neg q, es]
          split <;> rfl
      · exact absurd hx (fun c => c.elim hn.1 hn.2)
  · refine two_query (r := (-2 : Int32)) (h1 := h) ki mi wa ?_ ki.2.1 (fun _ _ => rfl) (fun g eg wg rg => ⟨g, ?_, eg, fun _ _ _ _ => rfl⟩)
    · rw [f_X10_gap, if_neg hx.1, if_neg hx.2]
    · rcases in_01 (x := x) (h := g) with ⟨hy, _⟩ | ⟨_, ei⟩
      · exact absurd hy (fun c => c.elim hx.1 hx.2)
      · rw [f_X11_gap, ei, if_pos rfl]
