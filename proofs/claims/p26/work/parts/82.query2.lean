/-! frame, symbol, turn, scratchOf -/
theorem q_has {T : Nat} {v : Nat → Int32} {h : HP} {f : Nat} (wf : WF T v) (r : R h 1 v) (hf : f < TOT v) : f_X5_hasFrame 2 (nI f) h = 1 := c_hasFrame_y (wf.1.ge r.1) wf.1.fm hf
theorem q_f0 {T : Nat} {v : Nat → Int32} {f : Nat} (wf : WF T v) (hf : f < TOT v) : Qy v (nI (TU (N v 0) (N v 1) f)) (f_X10_frame (nI f) (0 : Int32)) := Qy.same (fun h r => by
  have := wf.t3
  rw [f_X10_frame, q_has wf r hf, if_neg (by decide), if_pos rfl, ob_e (c_turnOf (wf.1.ge r.1) wf.1.fm (by omega))])
theorem q_f1 {T : Nat} {v : Nat → Int32} {f : Nat} (wf : WF T v) (hf : f < TOT v) : Qy v (nI (f - STn (N v 0) (N v 1) (TU (N v 0) (N v 1) f))) (f_X10_frame (nI f) (1 : Int32)) := Qy.same (fun h r => by
  have := wf.t3
  have ht : TU (N v 0) (N v 1) f < 1000 := Nat.lt_of_le_of_lt TU_le (by decide)
  rw [f_X10_frame, q_has wf r hf, if_neg (by decide), if_neg (by decide), if_pos rfl, ob_e (c_turnOf (wf.1.ge r.1) wf.1.fm (by omega)), c_firstOf (wf.1.ge r.1) ht, pk_sub TU_lo])
theorem q_f2 {T : Nat} {v : Nat → Int32} {f : Nat} (wf : WF T v) (hf : f < TOT v) : Qy v (nI (f / 5)) (f_X10_frame (nI f) (2 : Int32)) := Qy.same (fun h r => by
  have := wf.t3
  have ag : f_X5_groups 2 h = nI (TOT v / 5) := c_groups (wf.1.ge r.1) wf.1.fm
  rw [f_X10_frame, q_has wf r hf, if_neg (by decide), if_neg (by decide), if_neg (by decide), if_pos rfl, f_X5_groupOf, ag, lit_n 5, pk_div (by omega) (by decide) (by decide), if_neg (nI_ge (show f / 5 < TOT v / 5 by omega) (by omega))])
theorem q_f3 {T : Nat} {v : Nat → Int32} {f : Nat} (wf : WF T v) (hf : f < TOT v) : Qy v (if f % 5 = 4 then (1 : Int32) else (0 : Int32)) (f_X10_frame (nI f) (3 : Int32)) := Qy.same (fun h r => by
  have := wf.t3
  rw [f_X10_frame, q_has wf r hf, if_neg (by decide), if_neg (by decide), if_neg (by decide), if_neg (by decide), if_pos rfl, c_isCheck (by omega)]
  by_cases q4 : f % 5 = 4
  · rw [if_pos q4, if_neg (by decide)]
  · rw [if_neg q4, if_pos rfl])
theorem q_f4 {T : Nat} {v : Nat → Int32} {f : Nat} (wf : WF T v) (hf : f < TOT v) : Qy v (bI (lyV v (-5) f)) (f_X10_frame (nI f) (4 : Int32)) := Qy.mk (fun h r sv => by
  have ht := wf.t3
  have l67 : ln 67 = 3810 := by decide
  obtain ⟨h1, o1, o2, o3, o4, o5⟩ := q_of wf r sv
  refine ⟨h1, ?_, o3, o5⟩
  have ms := MS_all wf.2.2.1 o2.2.1 f (by omega)
  rw [and_m1] at ms
  have ms : h1 67 f = 0 ↔ (decide (f < TOT v) && lyV v (-5) f) = false := ms
  rw [decide_eq_true hf, Bool.true_and] at ms
  rw [f_X10_frame, q_has wf r hf, if_neg (by decide), if_neg (by decide), if_neg (by decide), if_neg (by decide), if_neg (by decide), if_pos rfl, ob_e o1, f_X7_isDamaged, at_n (by omega)]
  cases hb : lyV v (-5) f with
  | false =>
    rw [if_pos (ms.mpr hb), if_pos rfl]
    rfl
  | true =>
    rw [if_neg (fun e => Bool.noConfusion (hb.symm.trans (ms.mp e))), if_neg (by decide)]
    rfl)
theorem q_f5 {T : Nat} {v : Nat → Int32} {f : Nat} (wf : WF T v) (hf : f < TOT v) : Qy v (nI (hwN v f)) (f_X10_frame (nI f) (5 : Int32)) := Qy.mk (fun h r sv => by
  have ht := wf.t3
  have l68 : ln 68 = 3810 := by decide
  obtain ⟨h1, o1, o2, o3, o4, o5⟩ := q_of wf r sv
  refine ⟨h1, ?_, o3, o5⟩
  rw [f_X10_frame, q_has wf r hf, if_neg (by decide), if_neg (by decide), if_neg (by decide), if_neg (by decide), if_neg (by decide), if_neg (by decide), if_pos rfl, ob_e o1, f_X7_howIs, at_n (by omega), o2.2.2 f hf]
  rfl)
theorem q_f6 {T : Nat} {v : Nat → Int32} {f : Nat} (wf : WF T v) (hf : f < TOT v) : Qy v (nI (pT v f + fT v f)) (f_X10_frame (nI f) (6 : Int32)) := Qy.same (fun h r => by
  have ht := wf.t3
  rw [f_X10_frame, q_has wf r hf, if_neg (by decide), if_neg (by decide), if_neg (by decide), if_neg (by decide), if_neg (by decide), if_neg (by decide), if_neg (by decide), if_pos rfl, ob_e (c_length wf r (by omega))])
theorem q_f7 {T : Nat} {v : Nat → Int32} {f : Nat} (wf : WF T v) (hf : f < TOT v) : Qy v (zI ((pT v f : Int) - fT v f) + (100 : Int32)) (f_X10_frame (nI f) (7 : Int32)) := Qy.same (fun h r => by
  have ht := wf.t3
  rw [f_X10_frame, q_has wf r hf, if_neg (by decide), if_neg (by decide), if_neg (by decide), if_neg (by decide), if_neg (by decide), if_neg (by decide), if_neg (by decide), if_neg (by decide), if_pos rfl, ob_e (c_balance wf r (by omega))])
theorem q_f8 {T : Nat} {v : Nat → Int32} {f : Nat} (wf : WF T v) (hf : f < TOT v) : Qy v (nI (lrN v f 4)) (f_X10_frame (nI f) (8 : Int32)) := Qy.same (fun h r => by
  have ht := wf.t3
  rw [f_X10_frame, q_has wf r hf, if_neg (by decide), if_neg (by decide), if_neg (by decide), if_neg (by decide), if_neg (by decide), if_neg (by decide), if_neg (by decide), if_neg (by decide), if_neg (by decide), if_pos rfl, ob_e (c_longest wf r (by omega))])
theorem pl_in {p : Nat} (hp : p < 4) (h : HP) : f_X10_isPlace (nI p) h = 1 := by
  have : p = 0 ∨ p = 1 ∨ p = 2 ∨ p = 3 := by omega
  rcases this with q | q | q | q <;> subst q <;> (rw [f_X10_isPlace]; decide)
theorem q_s0 {T : Nat} {v : Nat → Int32} {f p : Nat} (wf : WF T v) (hf : f < TOT v) (hp : p < 4) : Qy v (nI (sN v f p)) (f_X10_symbol (nI f) (nI p) (0 : Int32)) := Qy.same (fun h r => by
  have ht := wf.t3
  rw [f_X10_symbol, q_has wf r hf, if_neg (by decide), pl_in hp, if_neg (by decide), if_pos rfl, ob_e (c_st wf r (by omega) hp)])
def tdS (v : Nat → Int32) (f p : Nat) : Int32 := if hwN v f = 3 then (-5 : Int32) else nI (tdN v f p)
theorem q_s1 {T : Nat} {v : Nat → Int32} {f p : Nat} (wf : WF T v) (hf : f < TOT v) (hp : p < 4) : Qy v (tdS v f p) (f_X10_symbol (nI f) (nI p) (1 : Int32)) := Qy.mk (fun h r sv => by
  have ht := wf.t3
  have l68 : ln 68 = 3810 := by decide
  obtain ⟨h1, o1, o2, o3, o4, o5⟩ := q_of wf r sv
  have eh : f_X7_howIs (nI f) h1 = nI (hwN v f) := by
    rw [f_X7_howIs, at_n (by omega), o2.2.2 f hf]
    rfl
  have hl : hwN v f ≤ 3 := how_le
  have et : f_X10_toldSymbol (nI f) (nI p) h = some (tdS v f p, h1) := by
    unfold tdS
    rw [f_X10_toldSymbol, ob_e o1, eh]
    by_cases q3 : hwN v f = 3
    · rw [q3, if_pos (show nI 3 = (3 : Int32) from rfl), if_pos rfl]
    · rw [if_neg (show ¬ nI (hwN v f) = (3 : Int32) from fun e => q3 ((nI_eq (b := 3) (by omega) (by decide)).mp e)), if_neg q3]
      by_cases q2 : hwN v f = 2
      · obtain ⟨h4, h0, _⟩ := how_2 q2
        rw [q2, if_pos (show nI 2 = (2 : Int32) from rfl), ob_e (c_filled wf o4 (by omega) h0 h4 (by omega)), tdN, if_pos q2]
      · rw [if_neg (show ¬ nI (hwN v f) = (2 : Int32) from fun e => q2 ((nI_eq (b := 2) (by omega) (by decide)).mp e)), ob_e (c_st wf o4 (by omega) (by omega)), tdN, if_neg q2]
  refine ⟨h1, ?_, o3, o5⟩
  rw [f_X10_symbol, q_has wf r hf, if_neg (by decide), pl_in hp, if_neg (by decide), if_neg (by decide), ob_e et])
theorem q_t0 {T : Nat} {v : Nat → Int32} {t : Nat} (wf : WF T v) (ht : t < 30) : Qy v (nI (N v 0 + N v 1 * t)) (f_X10_turn (nI t) (0 : Int32)) := Qy.same (fun h r => by
  have en : f_X5_framesOf 2 (nI t) h = nI (N v 0 + N v 1 * t) := c_framesOf (wf.1.ge r.1)
  rw [f_X10_turn, if_neg (nI_pos (by omega)), if_pos (show nI t < (30 : Int32) from nI_lt (b := 30) ht (by decide)), if_pos rfl, en])
theorem q_t1 {T : Nat} {v : Nat → Int32} {t : Nat} (wf : WF T v) (ht : t < 30) : Qy v (nI (STn (N v 0) (N v 1) t)) (f_X10_turn (nI t) (1 : Int32)) := Qy.same (fun h r => by
  have ef : f_X5_firstOf 2 (nI t) h = nI (STn (N v 0) (N v 1) t) := c_firstOf (wf.1.ge r.1) (by omega)
  rw [f_X10_turn, if_neg (nI_pos (by omega)), if_pos (show nI t < (30 : Int32) from nI_lt (b := 30) ht (by decide)), if_neg (by decide), if_pos rfl, ef])
theorem q_t2 {T : Nat} {v : Nat → Int32} {t : Nat} (wf : WF T v) (ht : t < 30) : Qy v (nI (cnt (fun i => lyV v (-5) (STn (N v 0) (N v 1) t + i)) (N v 0 + N v 1 * t))) (f_X10_turn (nI t) (2 : Int32)) := Qy.mk (fun h r sv => by
  have ws := wf.1
  obtain ⟨h1, o1, o2, o3, o4, o5⟩ := q_of wf r sv
  have hst := FM_st (t := t + 1) ws.fm (by omega)
  have hst0 := FM_st (t := t) ws.fm (by omega)
  have hs30 : STn (N v 0) (N v 1) (t + 1) ≤ TOT v := STn_le (by omega)
  have hs1 : STn (N v 0) (N v 1) (t + 1) = STn (N v 0) (N v 1) t + (N v 0 + N v 1 * t) := rfl
  have ef : f_X5_firstOf 2 (nI t) h = nI (STn (N v 0) (N v 1) t) := c_firstOf (ws.ge r.1) (by omega)
  have en : f_X5_framesOf 2 (nI t) h = nI (N v 0 + N v 1 * t) := c_framesOf (ws.ge r.1)
  have ma := MS_all wf.2.2.1 o2.2.1
  have l := damagedIn_rng (b := lyV v (-5)) (m := (-1 : Int32)) (h := h1) (a := STn (N v 0) (N v 1) t) hst (fun f h1 h2 => by
    have := ma f (by omega)
    rw [this]
    show (decide (f < TOT v) && lyV v (-5) f) = false ↔ _
    rw [decide_eq_true (by omega), Bool.true_and]) (STn (N v 0) (N v 1) (t + 1) - STn (N v 0) (N v 1) t) FU 0 (by omega) (Nat.lt_of_le_of_lt (show STn (N v 0) (N v 1) (t + 1) - STn (N v 0) (N v 1) t ≤ 3810 by omega) (by decide))
  have jm : jmax (nI (STn (N v 0) (N v 1) t)) (0 : Int32) = nI (STn (N v 0) (N v 1) t) := by
    rw [← nI_0, jmax_n (by omega) (by decide), Nat.max_eq_left (by omega)]
  have ed : f_X7_damagedIn (nI (STn (N v 0) (N v 1) t)) (nI (STn (N v 0) (N v 1) (t + 1))) (-1 : Int32) h1 = some (nI (cnt (fun i => lyV v (-5) (STn (N v 0) (N v 1) t + i)) (STn (N v 0) (N v 1) (t + 1) - STn (N v 0) (N v 1) t))) := by
    rw [f_X7_damagedIn, jm]
    exact ob_e (k := fun r => some r) l
  rw [show STn (N v 0) (N v 1) (t + 1) - STn (N v 0) (N v 1) t = N v 0 + N v 1 * t by omega] at ed
  refine ⟨h1, ?_, o3, o5⟩
  rw [f_X10_turn, if_neg (nI_pos (by omega)), if_pos (show nI t < (30 : Int32) from nI_lt (b := 30) ht (by decide)), if_neg (by decide), if_neg (by decide), if_pos rfl, ef, en, nI_add, ← hs1, ob_e o1, ob_e ed])
theorem q_sc4 {T : Nat} {v : Nat → Int32} {k : Nat} (wf : WF T v) (hk : k < N v 12) : Qy v (nI (cnt (dbF v k) (TOT v))) (f_X10_scratchOf (nI k) (4 : Int32)) := Qy.mk (fun h r sv => by
  obtain ⟨h1, o1, o2, o3, o4, o5⟩ := q_of wf r sv
  have l := c_damagedBy wf.1 wf.2.2.1 hk o2
  have e : f_X10_scratchOf (nI k) (4 : Int32) h = ob (f_X7_of 1 h) (fun q108 => ob (f_X7_damagedIn (0 : Int32) (3810 : Int32) (bitN k) q108) (fun q118 => some (q118, q108))) := by
    rw [f_X10_scratchOf, c_hasC wf r hk]
    rfl
  refine ⟨h1, ?_, o3, o5⟩
  rw [e, ob_e o1, ob_e l])
