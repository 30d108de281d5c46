/-! the call set -/
def sLo (w : Nat) : Nat := if w = 0 then 8 else if w = 2 then 1 else if w = 4 then 60 else 0
def sHi (w : Nat) : Nat := if w = 0 then 40 else if w = 1 then 6 else if w = 2 then 9 else if w = 3 then 5 else if w = 4 then 140 else 20
theorem six {w : Nat} (h : w ≤ 5) : w = 0 ∨ w = 1 ∨ w = 2 ∨ w = 3 ∨ w = 4 ∨ w = 5 := by omega
theorem c_range {w : Nat} {y : Int32} {h h' : HP} (hw : w ≤ 5) : f_X5_isInRange (nI w) y h = f_X11_in y (nI (sLo w)) (nI (sHi w)) h' := by
  rcases six hw with q | q | q | q | q | q <;> subst q <;> rfl
theorem m_low {w : Nat} {h : HP} (hw : w ≤ 5) : f_X11_low (nI w) h = nI (sLo w) := by
  rcases six hw with q | q | q | q | q | q <;> subst q <;> rfl
theorem m_high {w : Nat} {h : HP} (hw : w ≤ 5) : f_X11_high (nI w) h = nI (sHi w) := by
  rcases six hw with q | q | q | q | q | q <;> subst q <;> rfl
theorem c_setAt {w o : Nat} {h : HP} (hw : w ≤ 5) : f_X5_settingAt o (nI w) h = h o w := by
  rcases six hw with q | q | q | q | q | q <;> subst q <;> rfl
theorem c_change {w o : Nat} {y : Int32} {h : HP} (hw : w ≤ 5) : f_X5_change o (nI w) y h = hset h o w y := by
  rcases six hw with q | q | q | q | q | q <;> subst q <;> rfl
theorem sLo_b {w : Nat} : sLo w ≤ 60 ∧ sHi w ≤ 140 := by
  unfold sLo sHi
  constructor
  · repeat' split
    all_goals omega
  · repeat' split
    all_goals omega
theorem WS.set {v : Nat → Int32} {w k : Nat} (ws : WS v) (hw : w ≤ 5) (h1 : sLo w ≤ k) (h2 : k ≤ sHi w) : WS (up v w (nI k)) := by
  obtain ⟨a, b, c, d, e, f⟩ := ws
  unfold sLo at h1
  unfold sHi at h2
  rcases six hw with q | q | q | q | q | q <;> subst q <;> simp at h1 h2
  · exact ⟨isN_up (by omega) h1 h2, b.upk (by decide), c.upk (by decide), d.upk (by decide), e.upk (by decide), f.upk (by decide)⟩
  · exact ⟨a.upk (by decide), isN_up (by omega) (by omega) h2, c.upk (by decide), d.upk (by decide), e.upk (by decide), f.upk (by decide)⟩
  · exact ⟨a.upk (by decide), b.upk (by decide), isN_up (by omega) h1 h2, d.upk (by decide), e.upk (by decide), f.upk (by decide)⟩
  · exact ⟨a.upk (by decide), b.upk (by decide), c.upk (by decide), isN_up (by omega) (by omega) h2, e.upk (by decide), f.upk (by decide)⟩
  · exact ⟨a.upk (by decide), b.upk (by decide), c.upk (by decide), d.upk (by decide), isN_up (by omega) h1 h2, f.upk (by decide)⟩
  · exact ⟨a.upk (by decide), b.upk (by decide), c.upk (by decide), d.upk (by decide), e.upk (by decide), isN_up (by omega) (by omega) h2⟩
theorem R.ups {h : HP} {u : Nat → Int32} {o i : Nat} {x : Int32} (hi : i < 6) (r : R h o u) : R (hset h (o + 1) i x) o (up u i x) := by
  obtain ⟨rs, rh, rc, rp⟩ := r
  rw [hset_sR]
  refine ⟨fun k hk => ?_, fun k hk => ?_, ⟨?_, fun k hk => ?_⟩, ?_, fun k hk => ?_⟩
  · rw [sR_s]
    by_cases q : k = i
    · subst q
      rw [up_s, up_s]
    · rw [up_o q, up_o q]
      exact rs k hk
  · rw [sR_o (by omega), up_o (by omega)]
    exact rh k hk
  · rw [sR_o (by omega), up_o (by omega)]
    exact rc.1
  · rw [N_up (by omega)] at hk
    rw [sR_o (by omega), up_o (by omega)]
    exact rc.2 k hk
  · rw [sR_o (by omega), up_o (by omega)]
    exact rp.1
  · rw [N_up (by omega)] at hk
    rw [sR_o (by omega), sR_o (by omega), up_o (by omega), up_o (by omega), up_o (by omega)]
    exact rp.2 k hk
theorem E6.upk {u v : Nat → Int32} {i : Nat} {x : Int32} (e : E6 u v) : E6 (up u i x) (up v i x) := by
  intro k hk
  by_cases q : k = i
  · subst q
    rw [up_s, up_s]
  · rw [up_o q, up_o q]
    exact e k hk
/-- the row behind a setting -/
def stV (v : Nat → Int32) (w k : Nat) : Nat → Int32 := if 1 < w then up v w (nI k) else up (up (up v w (nI k)) 6 0) 7 (up v w (nI k) 0)
theorem stV_wf {T : Nat} {v : Nat → Int32} {w k : Nat} (hT : T < 2 ^ 31) (wf : WF T v) (hw : w ≤ 5) (h1 : sLo w ≤ k) (h2 : k ≤ sHi w) : WF T (stV v w k) := by
  obtain ⟨ws, wh, wc, wp⟩ := wf
  have ws' := ws.set hw h1 h2
  have wc' : WC (up v w (nI k)) := wc.upk (by omega)
  have wp' : WP (up v w (nI k)) := wp.upk (by omega)
  unfold stV
  by_cases q : 1 < w
  · rw [if_pos q]
    refine ⟨ws', ?_, wc', wp'⟩
    unfold WH
    rw [TOT_up q]
    obtain ⟨a, b, c, d, e, f⟩ := wh
    exact ⟨a.upk (by omega), b.upk (by omega), c.upk (by omega), d.upk (by omega), e.upk (by omega), f.upk (by omega)⟩
  · rw [if_neg q]
    obtain ⟨a, b, c, d, e, f⟩ := wh
    have u0 := ws'.1
    refine ⟨(ws'.upk (by omega)).upk (by omega), ?_, (wc'.upk (by omega)).upk (by omega), (wp'.upk (by omega)).upk (by omega)⟩
    unfold WH
    exact ⟨(isN_up (n := 0) (by decide) (by omega) (by omega)).upk (by omega), isN_of (up_s.trans u0.2.2) (by have := u0.2.1; omega) u0.1 (by have := u0.2.1; omega), ((c.upk (by omega)).upk (by omega)).upk (by omega), ((d.upk (by omega)).upk (by omega)).upk (by omega), ((e.upk (by omega)).upk (by omega)).upk (by omega), ((f.upk (by omega)).upk (by omega)).upk (by omega)⟩
theorem two_set {T : Nat} {h : HP} {x y : Int32} (hT : T + 1000000 < 2 ^ 31) (inv : Inv T h) : Two T h (f_X10_set x y) (f_X11_set x y) := by
  obtain ⟨v, n, H, kb, kv, L, tx, ki, mi, wa⟩ := inv
  have wf := wa.1
  have ws := wf.1
  have hn : n ≤ 4 := mi.2.1.1
  rcases in_n (x := x) (a := 0) (b := 5) (by decide) (by decide) with ⟨w, _, hw, rfl, ei⟩ | ⟨hno, ei⟩
  · have ei : ∀ h, f_X11_in (nI w) (0 : Int32) (5 : Int32) h = 1 := ei
    have hb := sLo_b (w := w)
    rcases in_n (x := y) (a := sLo w) (b := sHi w) (by omega) (by omega) with ⟨k, k1, k2, rfl, ey⟩ | ⟨hno2, ey⟩
    · have vw : ∃ m, m < 2 ^ 31 ∧ v w = nI m := by
        obtain ⟨a, b, c, d, e, f⟩ := ws
        rcases six hw with q | q | q | q | q | q <;> subst q
        · exact ⟨_, Nat.lt_of_le_of_lt a.2.1 (by decide), a.2.2⟩
        · exact ⟨_, Nat.lt_of_le_of_lt b.2.1 (by decide), b.2.2⟩
        · exact ⟨_, Nat.lt_of_le_of_lt c.2.1 (by decide), c.2.2⟩
        · exact ⟨_, Nat.lt_of_le_of_lt d.2.1 (by decide), d.2.2⟩
        · exact ⟨_, Nat.lt_of_le_of_lt e.2.1 (by decide), e.2.2⟩
        · exact ⟨_, Nat.lt_of_le_of_lt f.2.1 (by decide), f.2.2⟩
      obtain ⟨m, hm, evw⟩ := vw
      have e2w : h 2 w = nI m := (ki.1.1 w (by omega)).trans evw
      by_cases q : nI m = nI k
      · refine two_query (r := (-5 : Int32)) (h1 := h) ki mi wa ?_ ki.2.1 (fun _ _ => rfl) (fun g eg wg rg => ⟨g, ?_, eg, fun _ _ _ _ => rfl⟩)
        · rw [f_X10_set, c_range (h' := h) hw, ey, if_neg (by decide), c_setAt hw, e2w, if_pos q]
        · have ew : g 71 w = nI m := (eg w (by omega)).trans evw
          rw [f_X11_set, ei, if_neg (by decide), m_low hw, m_high hw, ey, if_neg (by decide), gd_t (inB_n (by omega) (by decide)), nI_clamp (by omega), ew, if_pos q]
      · have wf' := stV_wf (w := w) (k := k) (T := T) (by omega) wf hw k1 k2
        have hr : (0 : Int32) ≤ nI m := nI_pos' hm
        have cp := c6_copy (o := 9) (p := 1) (h := h) (by omega) wf.2.2.1 wf.2.2.2 ki.1
        have r1 : R (f_X6_copyFrom 9 1 h) 1 v := ki.1.of (fun a h1 h2 => cp.2 a (by omega))
        have sv : SV (f_X6_copyFrom 9 1 h) := ki.2.1.of (fun a h1 h2 => cp.2 a (by omega))
        have rs := r1.ups (i := w) (x := nI k) (by omega)
        have ws' := ws.set hw k1 k2
        have e1w : (nI w : Int32) = nI w := rfl
        have c1w : ((1 : Int32) < nI w) ↔ 1 < w := nI_ltI (a := 1) (by decide) (by omega)
        have cj : ∃ j, (if (1 : Int32) < nI w then f_X5_change 2 (nI w) (nI k) (f_X6_copyFrom 9 1 h) else tb (f_X1_goToStart 8 2 (f_X5_change 2 (nI w) (nI k) (f_X6_copyFrom 9 1 h))) (fun q73 => q73)) = j ∧ R j 1 (stV v w k) ∧ ∀ o, o ≠ 2 → o ≠ 8 → j o = f_X6_copyFrom 9 1 h o := by
          rw [c_change hw]
          by_cases q1 : 1 < w
          · rw [if_pos (c1w.mpr q1)]
            refine ⟨_, rfl, ?_, fun o h1 h2 => by rw [hset_sR, sR_o h1]⟩
            unfold stV
            rw [if_pos q1]
            exact rs
          · rw [if_neg (fun e => q1 (c1w.mp e))]
            have r6 := rs.uph (i := 0) (x := 0) (by decide)
            have fo : f_X5_framesOf 2 (0 : Int32) (hset (hset (f_X6_copyFrom 9 1 h) 2 w (nI k)) 8 0 0) = up v w (nI k) 0 := by
              have ge := (ws'.upk (i := 6) (x := 0) (by decide)).ge r6.1
              have := c_framesOf (t := 0) ge
              simp only [Nat.mul_zero, Nat.add_zero] at this
              rw [N_up (by decide), ← ws'.1.2.2] at this
              exact this
            refine ⟨hset (hset (hset (f_X6_copyFrom 9 1 h) 2 w (nI k)) 8 0 0) 8 1 (up v w (nI k) 0), ?_, ?_, fun o h1 h2 => by rw [hset_sR, sR_o h2, hset_sR, sR_o h2, hset_sR, sR_o h1]⟩
            · rw [tb_s, f_X1_goToStart, tb_s, fo]
            · unfold stV
              rw [if_neg q1]
              exact r6.uph (i := 1) (x := up v w (nI k) 0) (by decide)
        obtain ⟨j, ej, rj, fj⟩ := cj
        obtain ⟨h1, a1, a2, a3, a4⟩ := c_recd (r := nI m) (c1 := j) ki wf (fun o ho => fj o (by omega) (by omega)) (sv.of (fun o h1 h2 => fj o (by omega) (by omega))) rj
        refine two_of (r := nI m) (h1 := h1) mi ?_ (a2 hr) a4 (fun g mg => ?_) ((wa.mono (by omega)).push hn (wf'.mono (by omega)))
        · rw [f_X10_set, c_range (h' := h) hw, ey, if_neg (by decide), c_setAt hw, e2w, if_neg q, tb_s, tb_s, ej, tb_s, ob_e a1]
        · have eg := mg.1
          have ew : g 71 w = nI m := (eg w (by omega)).trans evw
          have mj : ∃ j, (if (1 : Int32) < nI w then hset (aS g) 71 w (nI k) else tb (hset (aS g) 71 w (nI k)) (fun h59 => tb (hset h59 71 6 (0 : Int32)) (fun h67 => hset h67 71 7 (h67 71 0)))) = j ∧ E6 (j 71) (stV v w k) ∧ ∀ o, o ≠ 71 → j o = aS g o := by
            by_cases q1 : 1 < w
            · rw [if_pos (c1w.mpr q1)]
              refine ⟨_, rfl, ?_, fun o h1 => by rw [hset_sR, sR_o h1]⟩
              unfold stV
              rw [if_pos q1, hset_sR, sR_s, aS_71]
              exact eg.upk
            · rw [if_neg (fun e => q1 (c1w.mp e))]
              refine ⟨_, rfl, ?_, fun o h1 => by rw [tb_s, tb_s, hset_sR, sR_o h1, hset_sR, sR_o h1, hset_sR, sR_o h1]⟩
              unfold stV
              rw [if_neg q1, tb_s, tb_s, hset_sR, sR_s, hset_sR, sR_s, hset_sR, sR_s, aS_71, up_o (show 0 ≠ 6 by decide)]
              have e0 : up (g 71) w (nI k) 0 = up v w (nI k) 0 := eg.upk 0 (by decide)
              rw [e0]
              exact eg.upk.upk.upk
          obtain ⟨j2, ej2, rj2, fj2⟩ := mj
          obtain ⟨g2, d1, d2, d3, d4, d5⟩ := m_recd (r := nI m) (g := j2) mg (fun o h1 h2 => fj2 o h1) (fun _ => rj2)
          refine ⟨g2, ?_, (d2 hr).1, d4⟩
          rw [f_X11_set, ei, if_neg (by decide), m_low hw, m_high hw, ey, if_neg (by decide), gd_t (inB_n (by omega) (by decide)), nI_clamp (by omega), ew, if_neg q, ob_e (m_putAside g), gd_t (inB_n (by omega) (by decide))]
          refine (congrArg (fun z => tb z _) ej2).trans ?_
          rw [tb_s]
          exact ob_e d1
    · refine two_query (r := (-2 : Int32)) (h1 := h) ki mi wa ?_ ki.2.1 (fun _ _ => rfl) (fun g eg wg rg => ⟨g, ?_, eg, fun _ _ _ _ => rfl⟩)
      · rw [f_X10_set, c_range (h' := h) hw, ey, if_pos rfl]
      · rw [f_X11_set, ei, if_neg (by decide), m_low hw, m_high hw, ey, if_pos rfl]
  · have ei : ∀ h, f_X11_in x (0 : Int32) (5 : Int32) h = 0 := ei
    refine two_query (r := (-2 : Int32)) (h1 := h) ki mi wa ?_ ki.2.1 (fun _ _ => rfl) (fun g eg wg rg => ⟨g, ?_, eg, fun _ _ _ _ => rfl⟩)
    · have ne : ∀ j, j ≤ 5 → ¬ x = nI j := fun j hj e => hno ⟨j, by omega, hj, e⟩
      have er : f_X5_isInRange x y h = 0 := by
        rw [f_X5_isInRange, if_neg (show ¬ x = (0 : Int32) from ne 0 (by decide)), if_neg (show ¬ x = (1 : Int32) from ne 1 (by decide)), if_neg (show ¬ x = (2 : Int32) from ne 2 (by decide)), if_neg (show ¬ x = (3 : Int32) from ne 3 (by decide)), if_neg (show ¬ x = (4 : Int32) from ne 4 (by decide)), if_neg (show ¬ x = (5 : Int32) from ne 5 (by decide))]
      rw [f_X10_set, er, if_pos rfl]
    · rw [f_X11_set, ei, if_pos rfl]
