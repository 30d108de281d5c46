/-! what the calls that leave the state answer, by the row -/
def cH (v : Nat → Int32) (x : Nat) : Nat := cnt (fun f => decide (how (lyV v (-5)) (TOT v) f = x)) (TOT v)
theorem WF.t3 {T : Nat} {v : Nat → Int32} (w : WF T v) : 240 ≤ TOT v ∧ TOT v ≤ 3810 ∧ TOT v % 5 = 0 := FM_tot w.1.fm
theorem q_c0 {T : Nat} {v : Nat → Int32} (wf : WF T v) : Qy v (nI (TOT v)) (f_X10_count (0 : Int32)) := Qy.same (fun h r => by
  have caf : f_X5_allFrames 2 h = nI (TOT v) := c_allFrames (wf.1.ge r.1)
  rw [f_X10_count, if_pos rfl, caf])
theorem q_c1 {T : Nat} {v : Nat → Int32} (wf : WF T v) : Qy v (nI (TOT v / 5)) (f_X10_count (1 : Int32)) := Qy.same (fun h r => by
  have ag : f_X5_groups 2 h = nI (TOT v / 5) := c_groups (wf.1.ge r.1) wf.1.fm
  rw [f_X10_count, if_neg (by decide), if_pos rfl, ag])
theorem q_c2 {T : Nat} {v : Nat → Int32} (wf : WF T v) : Qy v (nI (N v 12)) (f_X10_count (2 : Int32)) := Qy.same (fun h r => by
  rw [f_X10_count, if_neg (by decide), if_neg (by decide), if_pos rfl, r.2.2.1.1, wf.2.2.1.1.2.2])
theorem q_head {T : Nat} {v : Nat → Int32} (wf : WF T v) {h : HP} (r : R h 1 v) : h 8 0 = nI (N v 6) ∧ h 8 1 = nI (N v 7) ∧ h 8 2 = nI (N v 8) ∧ h 8 3 = nI (N v 9) ∧ h 8 4 = nI (N v 10) ∧ h 8 5 = nI (N v 11) := by
  have w := wf.2.1
  exact ⟨(r.2.1 0 (by decide)).trans w.1.2.2, (r.2.1 1 (by decide)).trans w.2.1.2.2, (r.2.1 2 (by decide)).trans w.2.2.1.2.2, (r.2.1 3 (by decide)).trans w.2.2.2.1.2.2, (r.2.1 4 (by decide)).trans w.2.2.2.2.1.2.2, (r.2.1 5 (by decide)).trans w.2.2.2.2.2.2.2⟩
theorem q_c3 {T : Nat} {v : Nat → Int32} (wf : WF T v) : Qy v (nI (N v 6)) (f_X10_count (3 : Int32)) := Qy.same (fun h r => by
  rw [f_X10_count, if_neg (by decide), if_neg (by decide), if_neg (by decide), if_pos rfl, (q_head wf r).1])
theorem q_c4 {T : Nat} {v : Nat → Int32} (wf : WF T v) : Qy v (nI (TU (N v 0) (N v 1) (N v 6))) (f_X10_count (4 : Int32)) := Qy.same (fun h r => by
  have := wf.2.1.1.2.1
  have := wf.t3
  rw [f_X10_count, if_neg (by decide), if_neg (by decide), if_neg (by decide), if_neg (by decide), if_pos rfl, (q_head wf r).1, ob_e (c_turnOf (wf.1.ge r.1) wf.1.fm (by omega))])
theorem q_c5 {T : Nat} {v : Nat → Int32} (wf : WF T v) : Qy v (nI (N v 7)) (f_X10_count (5 : Int32)) := Qy.same (fun h r => by
  rw [f_X10_count, if_neg (by decide), if_neg (by decide), if_neg (by decide), if_neg (by decide), if_neg (by decide), if_pos rfl, (q_head wf r).2.1])
theorem q_c6 {T : Nat} {v : Nat → Int32} (wf : WF T v) : Qy v (nI (N v 8)) (f_X10_count (6 : Int32)) := Qy.same (fun h r => by
  rw [f_X10_count, if_neg (by decide), if_neg (by decide), if_neg (by decide), if_neg (by decide), if_neg (by decide), if_neg (by decide), if_pos rfl, (q_head wf r).2.2.1])
theorem q_c7 {T : Nat} {v : Nat → Int32} (wf : WF T v) : Qy v (nI (N v 9)) (f_X10_count (7 : Int32)) := Qy.same (fun h r => by
  rw [f_X10_count, if_neg (by decide), if_neg (by decide), if_neg (by decide), if_neg (by decide), if_neg (by decide), if_neg (by decide), if_neg (by decide), if_pos rfl, (q_head wf r).2.2.2.1])
theorem q_c8 {T : Nat} {v : Nat → Int32} (wf : WF T v) : Qy v (nI (N v 10)) (f_X10_count (8 : Int32)) := Qy.same (fun h r => by
  rw [f_X10_count, if_neg (by decide), if_neg (by decide), if_neg (by decide), if_neg (by decide), if_neg (by decide), if_neg (by decide), if_neg (by decide), if_neg (by decide), if_pos rfl, (q_head wf r).2.2.2.2.1])
theorem q_c9 {T : Nat} {v : Nat → Int32} (wf : WF T v) : Qy v (nI (N v 11)) (f_X10_count (9 : Int32)) := Qy.same (fun h r => by
  rw [f_X10_count, if_neg (by decide), if_neg (by decide), if_neg (by decide), if_neg (by decide), if_neg (by decide), if_neg (by decide), if_neg (by decide), if_neg (by decide), if_neg (by decide), if_pos rfl, (q_head wf r).2.2.2.2.2])
/-- behind the survey -/
theorem q_of {T : Nat} {v : Nat → Int32} {h : HP} (wf : WF T v) (r : R h 1 v) (sv : SV h) : ∃ h1, f_X7_of 1 h = some h1 ∧ SVv v h1 ∧ SV h1 ∧ R h1 1 v ∧ ∀ o, o < 63 ∨ 69 < o → h1 o = h o := by
  obtain ⟨h1, o1, o2, o3⟩ := c_of wf.1 wf.2.2.1 r.1 r.2.2.1 sv
  exact ⟨h1, o1, o2, ⟨v, wf.1, wf.2.2.1, o2⟩, r.of (fun a h1 h2 => o3 a (by omega)), fun o ho => o3 o (by omega)⟩
theorem q_cH {T : Nat} {v : Nat → Int32} {x : Nat} (wf : WF T v) (hx : x ≤ 3) : Qy v (nI (cH v x)) (fun h => ob (f_X7_of 1 h) (fun q212 => ob (f_X7_framesThatAre (nI x) q212) (fun q216 => some (q216, q212)))) := Qy.mk (fun h r sv => by
  obtain ⟨h1, o1, o2, o3, o4, o5⟩ := q_of wf r sv
  refine ⟨h1, ?_, o3, o5⟩
  rw [ob_e o1, ob_e (c_framesThatAre wf.1 o2.1 hx o2.2.2)]
  rfl)
theorem q_c10 {T : Nat} {v : Nat → Int32} (wf : WF T v) : Qy v (nI (cH v 0)) (f_X10_count (10 : Int32)) := fun h l k => by
  have g := q_cH (x := 0) wf (by decide) h l k
  rw [f_X10_count, if_neg (by decide), if_neg (by decide), if_neg (by decide), if_neg (by decide), if_neg (by decide), if_neg (by decide), if_neg (by decide), if_neg (by decide), if_neg (by decide), if_neg (by decide), if_pos rfl]
  exact g
theorem q_c11 {T : Nat} {v : Nat → Int32} (wf : WF T v) : Qy v (nI (cH v 1)) (f_X10_count (11 : Int32)) := fun h l k => by
  have g := q_cH (x := 1) wf (by decide) h l k
  rw [f_X10_count, if_neg (by decide), if_neg (by decide), if_neg (by decide), if_neg (by decide), if_neg (by decide), if_neg (by decide), if_neg (by decide), if_neg (by decide), if_neg (by decide), if_neg (by decide), if_neg (by decide), if_pos rfl]
  exact g
theorem q_c12 {T : Nat} {v : Nat → Int32} (wf : WF T v) : Qy v (nI (cH v 2)) (f_X10_count (12 : Int32)) := fun h l k => by
  have g := q_cH (x := 2) wf (by decide) h l k
  rw [f_X10_count, if_neg (by decide), if_neg (by decide), if_neg (by decide), if_neg (by decide), if_neg (by decide), if_neg (by decide), if_neg (by decide), if_neg (by decide), if_neg (by decide), if_neg (by decide), if_neg (by decide), if_neg (by decide), if_pos rfl]
  exact g
theorem q_c13 {T : Nat} {v : Nat → Int32} (wf : WF T v) : Qy v (nI (cH v 3)) (f_X10_count (13 : Int32)) := fun h l k => by
  have g := q_cH (x := 3) wf (by decide) h l k
  rw [f_X10_count, if_neg (by decide), if_neg (by decide), if_neg (by decide), if_neg (by decide), if_neg (by decide), if_neg (by decide), if_neg (by decide), if_neg (by decide), if_neg (by decide), if_neg (by decide), if_neg (by decide), if_neg (by decide), if_neg (by decide), if_pos rfl]
  exact g
theorem q_c14 {T : Nat} {v : Nat → Int32} (wf : WF T v) : Qy v (nI (N v 45)) (f_X10_count (14 : Int32)) := Qy.same (fun h r => by
  have e : h 5 2 = nI (N v 45) := r.2.2.2.1.trans wf.2.2.2.1.2.2
  rw [f_X10_count, if_neg (by decide), if_neg (by decide), if_neg (by decide), if_neg (by decide), if_neg (by decide), if_neg (by decide), if_neg (by decide), if_neg (by decide), if_neg (by decide), if_neg (by decide), if_neg (by decide), if_neg (by decide), if_neg (by decide), if_neg (by decide), if_pos rfl, e])
theorem isN6 {v : Nat → Int32} {w : Nat} (ws : WS v) (hw : w ≤ 5) : v w = nI (N v w) ∧ N v w ≤ 140 := by
  obtain ⟨a, b, c, d, e, f⟩ := ws
  rcases six hw with q | q | q | q | q | q <;> subst q
  · exact ⟨a.2.2, Nat.le_trans a.2.1 (by decide)⟩
  · exact ⟨b.2.2, Nat.le_trans b.2.1 (by decide)⟩
  · exact ⟨c.2.2, Nat.le_trans c.2.1 (by decide)⟩
  · exact ⟨d.2.2, Nat.le_trans d.2.1 (by decide)⟩
  · exact ⟨e.2.2, Nat.le_trans e.2.1 (by decide)⟩
  · exact ⟨f.2.2, Nat.le_trans f.2.1 (by decide)⟩
theorem q_cs {T : Nat} {v : Nat → Int32} {w : Nat} (wf : WF T v) (hw : w ≤ 5) : Qy v (nI (N v w)) (f_X10_count (nI (17 + w))) := Qy.same (fun h r => by
  have ne : ∀ k, k < 17 → ¬ nI (17 + w) = nI k := fun k hk e => by
    have := (nI_eq (by omega) (by omega)).mp e
    omega
  have e17 : nI (17 + w) - (17 : Int32) = nI w := by
    rw [lit_n 17, pk_sub (by omega), Nat.add_sub_cancel_left]
  have es : f_X5_isSetting (nI w) h = 1 := by
    rcases six hw with q | q | q | q | q | q <;> subst q <;> (rw [f_X5_isSetting]; decide)
  rw [f_X10_count, if_neg (show ¬ nI (17 + w) = (0 : Int32) from ne 0 (by decide)), if_neg (show ¬ nI (17 + w) = (1 : Int32) from ne 1 (by decide)), if_neg (show ¬ nI (17 + w) = (2 : Int32) from ne 2 (by decide)), if_neg (show ¬ nI (17 + w) = (3 : Int32) from ne 3 (by decide)), if_neg (show ¬ nI (17 + w) = (4 : Int32) from ne 4 (by decide)), if_neg (show ¬ nI (17 + w) = (5 : Int32) from ne 5 (by decide)), if_neg (show ¬ nI (17 + w) = (6 : Int32) from ne 6 (by decide)), if_neg (show ¬ nI (17 + w) = (7 : Int32) from ne 7 (by decide)), if_neg (show ¬ nI (17 + w) = (8 : Int32) from ne 8 (by decide)), if_neg (show ¬ nI (17 + w) = (9 : Int32) from ne 9 (by decide)), if_neg (show ¬ nI (17 + w) = (10 : Int32) from ne 10 (by decide)), if_neg (show ¬ nI (17 + w) = (11 : Int32) from ne 11 (by decide)), if_neg (show ¬ nI (17 + w) = (12 : Int32) from ne 12 (by decide)), if_neg (show ¬ nI (17 + w) = (13 : Int32) from ne 13 (by decide)), if_neg (show ¬ nI (17 + w) = (14 : Int32) from ne 14 (by decide)), if_neg (show ¬ nI (17 + w) = (15 : Int32) from ne 15 (by decide)), if_neg (show ¬ nI (17 + w) = (16 : Int32) from ne 16 (by decide)), e17, f_X10_countSetting, es, if_neg (by decide), c_setAt hw, r.1 w (by omega), (isN6 wf.1 hw).1])
