/-! a seek that is only tried -/
def tK (v : Nat → Int32) (g f : Nat) : Nat := skK (N v 0) (N v 1) (N v 2) (N v 3) (N v 5) g f (N v 6) (N v 7) (N v 8) (N v 11)
def tJ (v : Nat → Int32) (g f : Nat) : Nat := skJ (N v 0) (N v 1) (N v 2) (N v 5) g f (N v 6) (N v 7) (N v 8) (N v 11)
theorem c_try {T : Nat} {v : Nat → Int32} {h : HP} {f g : Nat} (wf : WF T v) (r : R h 1 v) (hf : f < TOT v) (g1 : 60 ≤ g) (g2 : g ≤ 140) : ∃ h1, f_X10_trySeek (nI f) (nI g) h = some (nI (tK v g f - N v 8), h1) ∧ h1 69 5 = nI (tJ v g f) ∧ ∀ o, o ≠ 69 → h1 o = h o := by
  have ws := wf.1
  have wh := wf.2.1
  have hfm := FM_tot ws.fm
  have p3 : TOT v ≤ 3810 := hfm.2.1
  have cp := c1_copy (o := 69) (p := 8) (h := h) (by decide)
  have B := sk_B (m := N v 2) (f := N v 3) (k := N v 8) (j := N v 11) (x := f) (g := g) ws.fm g1 g2 ws.2.2.2.2.2.2.1 wh.2.1.1 wh.2.1.2.1 wh.1.2.1 (by omega)
  have e2 : f_X1_copyFrom 69 8 h 2 = h 2 := cp.2 2 (by decide)
  have w69 : f_X1_copyFrom 69 8 h 69 = hw (f_X1_copyFrom 69 8 h 69) (N v 6) (N v 7) (N v 8) (N v 11) := (hw_id ((cp.1 0 (by decide)).trans ((r.2.1 0 (by decide)).trans wh.1.2.2)) ((cp.1 1 (by decide)).trans ((r.2.1 1 (by decide)).trans wh.2.1.2.2)) ((cp.1 2 (by decide)).trans ((r.2.1 2 (by decide)).trans wh.2.2.1.2.2)) ((cp.1 5 (by decide)).trans ((r.2.1 5 (by decide)).trans wh.2.2.2.2.2.2.2))).symm
  have k8 : h 8 2 = nI (N v 8) := (r.2.1 2 (by decide)).trans wh.2.2.1.2.2
  have cg := c_goTo (h := f_X1_copyFrom 69 8 h) (o := 69) (os := 2) (x := f) (g := g) ws.sb (by decide) ws.2.2.2.2.2.2.1 g1 g2 (by rw [e2]; exact ws.se r.1) (by rw [e2]; exact (r.1 5 (by decide)).trans ws.2.2.2.2.2.2.2) w69 wh.2.1.1 wh.2.1.2.1 wh.1.2.1 hf
  refine ⟨sR (f_X1_copyFrom 69 8 h) 69 (hw (f_X1_copyFrom 69 8 h 69) f (skS (N v 0) (N v 1) (N v 2) (N v 3) (N v 5) g f (N v 6) (N v 7) (N v 8) (N v 11)) (tK v g f) (tJ v g f)), ?_, ?_, fun o ho => ?_⟩
  · rw [f_X10_trySeek, tb_s]
    refine (ob_e cg).trans ?_
    rw [sR_s, hw_2, sR_o (by decide), cp.2 8 (by decide), k8, pk_sub B.2.1.1]
    rfl
  · rw [sR_s, hw_5]
  · rw [sR_o ho, cp.2 o ho]

