/-! the call symbol -/
theorem how_2 {b : Nat → Bool} {T f : Nat} (h : how b T f = 2) : f % 5 ≠ 4 ∧ f ≠ 0 ∧ aft f < T := by
  unfold how at h
  split at h
  · omega
  · split at h
    · omega
    · split at h
      · next c => exact ⟨c.1, c.2.1, c.2.2.1⟩
      · omega
def flN (v : Nat → Int32) (f p : Nat) : Nat := (sN v (bef f) p + sN v (aft f) p) / 2
def hwN (v : Nat → Int32) (f : Nat) : Nat := how (lyV v (-5)) (TOT v) f
def tdN (v : Nat → Int32) (f p : Nat) : Nat := if hwN v f = 2 then flN v f p else sN v f p
theorem aft_le {f : Nat} : aft f ≤ f + 2 := by
  unfold aft
  split <;> omega
theorem c_filled {T : Nat} {v : Nat → Int32} {h : HP} {f p : Nat} (wf : WF T v) (r : R h 1 v) (hf : f < 2 ^ 20) (h0 : f ≠ 0) (h4 : f % 5 ≠ 4) (hp : p < 4) : f_X10_filledSymbol (nI f) (nI p) h = some (nI (flN v f p)) := by
  have hb := bef_lt h0 h4
  have ha := aft_le (f := f)
  have s1 := (sN_n (f := bef f) (q := p) wf.2.2.2).1
  have s2 := (sN_n (f := aft f) (q := p) wf.2.2.2).1
  rw [f_X10_filledSymbol, c_ahead hf h0 h4, c_behind hf, ob_e (c_st wf r (by omega) hp), ob_e (c_st wf r (by omega) hp), nI_add, lit_n 2, pk_div (by omega) (by decide) (by decide)]
  rfl
theorem m_hw {T : Nat} {v : Nat → Int32} {q : HP} {f : Nat} (wf : WF T v) (eq : E6 (q 71) v) (mb : MB (q 71) (lyV v (-5)) q) (hf : f < TOT v) : f_X11_how (nI f) q = some (nI (hwN v f)) := by
  have tt : TOT (q 71) = TOT v := (eq.lk wf.2.2.1).tot
  rw [m_how (eq.symm.wf wf).1 mb (by rw [tt]; exact hf), tt]
  rfl
theorem m_told {T : Nat} {v : Nat → Int32} {q : HP} {f p : Nat} (wf : WF T v) (eq : E6 (q 71) v) (mb : MB (q 71) (lyV v (-5)) q) (hf : f < TOT v) (hp : p < 4) (h3 : hwN v f ≠ 3) : f_X11_toldSymbol (nI f) (nI p) q = some (nI (tdN v f p)) := by
  have p3 : TOT v ≤ 3810 := (FM_tot wf.1.fm).2.1
  have hl : hwN v f ≤ 3 := how_le
  rw [f_X11_toldSymbol, ob_e (m_hw wf eq mb hf)]
  by_cases q2 : hwN v f = 2
  · obtain ⟨h4, h0, _⟩ := how_2 q2
    have hb := bef_lt h0 h4
    have ha := aft_le (f := f)
    have s1 := (sN_n (f := bef f) (q := p) wf.2.2.2).1
    have s2 := (sN_n (f := aft f) (q := p) wf.2.2.2).1
    rw [q2, if_pos (by decide), m_before (by omega) h4 h0, m_after (by omega) h4, ob_e (m_st wf eq (by omega) hp), ob_e (m_st wf eq (by omega) hp), nI_add, lit_n 2, pk_div (by omega) (by decide) (by decide), tdN, if_pos q2]
    rfl
  · rw [if_neg (show ¬ (2 : Int32) ≤ nI (hwN v f) from nI_ge (b := 2) (by omega) (by decide)), ob_e (m_st wf eq (by omega) hp), tdN, if_neg q2]
theorem two_symbol {T : Nat} {h : HP} {x y z : Int32} (inv : Inv T h) : Two T h (f_X10_symbol x y z) (f_X11_symbol x y z) := by
  obtain ⟨v, n, H, kb, kv, L, tx, ki, mi, wa⟩ := inv
  have wf := wa.1
  have ws := wf.1
  have wc := wf.2.2.1
  have p3 : TOT v ≤ 3810 := (FM_tot ws.fm).2.1
  by_cases hx : ∃ f, f < TOT v ∧ x = nI f
  · obtain ⟨f, hf, rfl⟩ := hx
    have ch : f_X5_hasFrame 2 (nI f) h = 1 := c_hasFrame_y (ws.ge ki.1.1) ws.fm hf
    have mh : ∀ g : HP, E6 (g 71) v → f_X11_isFrame (nI f) g = 1 := fun g eg => m_has eg ws hf
    rcases in_n (x := y) (a := 0) (b := 3) (by decide) (by decide) with ⟨p, _, hp, rfl, ep⟩ | ⟨_, ep⟩
    · have ep : ∀ h, f_X11_in (nI p) (0 : Int32) (3 : Int32) h = 1 := ep
      have cp : ∀ h, f_X10_isPlace (nI p) h = 1 := fun h => (c_isPlace (h' := h)).trans (ep h)
      by_cases qz : z = 0
      · refine two_query (r := nI (sN v f p)) (h1 := h) ki mi wa ?_ ki.2.1 (fun _ _ => rfl) (fun g eg wg rg => ?_)
        · rw [f_X10_symbol, ch, if_neg (by decide), cp, if_neg (by decide), if_pos qz, ob_e (c_st wf ki.1 (by omega) (by omega))]
        · rw [f_X11_symbol, mh g eg, if_neg (by decide), ep, if_neg (by decide)]
          refine m_q wf eg (fun q eq mb fq => ?_)
          rw [if_pos qz, ob_e (m_st wf (eq ▸ eg) (by omega) (by omega))]
      · obtain ⟨h1, o1, o2, o3⟩ := c_of ws wc ki.1.1 ki.1.2.2.1 ki.2.1
        have r1 : R h1 1 v := ki.1.of (fun a h1 h2 => o3 a (by omega))
        have l68 : ln 68 = 3810 := by decide
        have eh : f_X7_howIs (nI f) h1 = nI (hwN v f) := by
          rw [f_X7_howIs, at_n (by omega), o2.2.2 f hf]
          rfl
        have hl : hwN v f ≤ 3 := how_le
        refine two_query (r := if hwN v f = 3 then (-5 : Int32) else nI (tdN v f p)) (h1 := h1) ki mi wa ?_ ⟨v, ws, wc, o2⟩ (fun o ho => o3 o (by omega)) (fun g eg wg rg => ?_)
        · have et : f_X10_toldSymbol (nI f) (nI p) h = some ((if hwN v f = 3 then (-5 : Int32) else nI (tdN v f p)), h1) := by
            rw [f_X10_toldSymbol, ob_e o1, eh]
            by_cases q3 : hwN v f = 3
            · rw [q3, if_pos (show nI 3 = (3 : Int32) from rfl), if_pos rfl]
            · rw [if_neg (show ¬ nI (hwN v f) = (3 : Int32) from fun e => q3 ((nI_eq (b := 3) (by omega) (by decide)).mp e)), if_neg q3]
              by_cases q2 : hwN v f = 2
              · obtain ⟨h4, h0, _⟩ := how_2 q2
                rw [q2, if_pos (show nI 2 = (2 : Int32) from rfl), ob_e (c_filled wf r1 (by omega) h0 h4 (by omega)), tdN, if_pos q2]
              · rw [if_neg (show ¬ nI (hwN v f) = (2 : Int32) from fun e => q2 ((nI_eq (b := 2) (by omega) (by decide)).mp e)), ob_e (c_st wf r1 (by omega) (by omega)), tdN, if_neg q2]
          rw [f_X10_symbol, ch, if_neg (by decide), cp, if_neg (by decide), if_neg qz, ob_e et]
        · rw [f_X11_symbol, mh g eg, if_neg (by decide), ep, if_neg (by decide)]
          refine m_q wf eg (fun q eq mb fq => ?_)
          have mb : MB (q 71) (lyV v (-5)) q := by rw [eq]; exact mb
          have eg' : E6 (q 71) v := eq ▸ eg
          rw [if_neg qz, ob_e (m_hw wf eg' mb hf)]
          by_cases q3 : hwN v f = 3
          · rw [q3, if_pos (show nI 3 = (3 : Int32) from rfl), if_pos rfl]
          · rw [if_neg (show ¬ nI (hwN v f) = (3 : Int32) from fun e => q3 ((nI_eq (b := 3) (by omega) (by decide)).mp e)), if_neg q3, ob_e (m_told wf eg' mb hf (by omega) q3)]
    · have ep : ∀ h, f_X11_in y (0 : Int32) (3 : Int32) h = 0 := ep
      refine two_query (r := (-2 : Int32)) (h1 := h) ki mi wa ?_ ki.2.1 (fun _ _ => rfl) (fun g eg wg rg => ⟨g, ?_, eg, fun _ _ _ _ => rfl⟩)
      · rw [f_X10_symbol, ch, if_neg (by decide), c_isPlace (h' := h), ep, if_pos rfl]
      · rw [f_X11_symbol, mh g eg, if_neg (by decide), ep, if_pos rfl]
  · refine two_query (r := (-1 : Int32)) (h1 := h) ki mi wa ?_ ki.2.1 (fun _ _ => rfl) (fun g eg wg rg => ⟨g, ?_, eg, fun _ _ _ _ => rfl⟩)
    · rw [f_X10_symbol, c_hasNo (ws.ge ki.1.1) ws.fm hx, if_pos rfl]
    · rw [f_X11_symbol, m_hasNo eg ws hx, if_pos rfl]
