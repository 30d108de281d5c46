/-! the acts: set, play, seek -/
theorem a_set {T : Nat} {v : Nat → Int32} {w k : Nat} (hT : T < 2 ^ 31) (wf : WF T v) (hw : w ≤ 5) (k1 : sLo w ≤ k) (k2 : k ≤ sHi w) : (N v w = k ∧ Qy v (-5) (f_X10_set (nI w) (nI k))) ∨ (N v w ≠ k ∧ WF T (stV v w k) ∧ Ay v (stV v w k) (nI (N v w)) (f_X10_set (nI w) (nI k))) := by
  have ws := wf.1
  have hb := sLo_b (w := w)
  obtain ⟨evw, hm⟩ := isN6 ws hw
  have er : ∀ h, f_X5_isInRange (nI w) (nI k) h = 1 := fun h => by
    rw [c_range (h' := h) hw, inF, if_neg (nI_nlt k1 (by omega)), if_neg (nI_nlt k2 (by omega))]
  have e2w : ∀ h, R h 1 v → h 2 w = nI (N v w) := fun h r => (r.1 w (by omega)).trans evw
  by_cases q : N v w = k
  · refine Or.inl ⟨q, Qy.same (fun h r => ?_)⟩
    rw [f_X10_set, er, if_neg (by decide), c_setAt hw, e2w h r, if_pos (by rw [q])]
  · have q' : ¬ nI (N v w) = nI k := fun e => q ((nI_eq (by omega) (by omega)).mp e)
    have wf' := stV_wf (w := w) (k := k) (T := T) hT wf hw k1 k2
    have hr : (0 : Int32) ≤ nI (N v w) := nI_pos' (by omega)
    refine Or.inr ⟨q, wf', fun h l hl ks => ?_⟩
    obtain ⟨n, H, kb, kv, L, tx, ki, kk⟩ := ks
    have cp := c6_copy (o := 9) (p := 1) (h := h) (by omega) wf.2.2.1 wf.2.2.2 ki.1
    have r1 : R (f_X6_copyFrom 9 1 h) 1 v := ki.1.of (fun a h1 h2 => cp.2 a (by omega))
    have sv : SV (f_X6_copyFrom 9 1 h) := ki.2.1.of (fun a h1 h2 => cp.2 a (by omega))
    have rs := r1.ups (i := w) (x := nI k) (by omega)
    have ws' := ws.set hw k1 k2
    have c1w : ((1 : Int32) < nI w) ↔ 1 < w := nI_ltI (a := 1) (by decide) (by omega)
    have cj : ∃ j, (if (1 : Int32) < nI w then f_X5_change 2 (nI w) (nI k) (f_X6_copyFrom 9 1 h) else tb (f_X1_goToStart 8 2 (f_X5_change 2 (nI w) (nI k) (f_X6_copyFrom 9 1 h))) (fun q73 => q73)) = j ∧ R j 1 (stV v w k) ∧ ∀ o, o ≠ 2 → o ≠ 8 → j o = f_X6_copyFrom 9 1 h o := by
      rw [c_change hw]
      by_cases q1 : 1 < w
      · rw [if_pos (c1w.mpr q1)]
        refine ⟨_, rfl, ?_, fun o h1 h2 => by rw [hset_sR, sR_o h1]⟩
        unfold stV
        rw [if_pos q1]
        exact rs
      · rw [if_neg (fun e => q1 (c1w.mp e))]
        have r6 := rs.uph (i := 0) (x := 0) (by decide)
        have fo : f_X5_framesOf 2 (0 : Int32) (hset (hset (f_X6_copyFrom 9 1 h) 2 w (nI k)) 8 0 0) = up v w (nI k) 0 := by
          have ge := (ws'.upk (i := 6) (x := 0) (by decide)).ge r6.1
          have := c_framesOf (t := 0) ge
          simp only [Nat.mul_zero, Nat.add_zero] at this
          rw [N_up (by decide), ← ws'.1.2.2] at this
          exact this
        refine ⟨hset (hset (hset (f_X6_copyFrom 9 1 h) 2 w (nI k)) 8 0 0) 8 1 (up v w (nI k) 0), ?_, ?_, fun o h1 h2 => by rw [hset_sR, sR_o h2, hset_sR, sR_o h2, hset_sR, sR_o h1]⟩
        · rw [tb_s, f_X1_goToStart, tb_s, fo]
        · unfold stV
          rw [if_neg q1]
          exact r6.uph (i := 1) (x := up v w (nI k) 0) (by decide)
    obtain ⟨j, ej, rj, fj⟩ := cj
    obtain ⟨h1, a1, a2, a3, a4⟩ := c_recd (r := nI (N v w)) (c1 := j) ki wf (fun o ho => fj o (by omega) (by omega)) (sv.of (fun o h1 h2 => fj o (by omega) (by omega))) rj
    refine ⟨h1, ?_, KS.act (h := h) hl kk ki.2.2.1.1 (a2 hr)⟩
    rw [f_X10_set, er, if_neg (by decide), c_setAt hw, e2w h ki.1, if_neg q', tb_s, tb_s, ej, tb_s, ob_e a1]
/-- the row behind a play, the frames it reads, those of them that are whole -/
def plP (v : Nat → Int32) (X : Nat) : Nat × Nat × Nat × Nat × Nat := pl (N v 0) (N v 1) (N v 2) (N v 3) (TOT v) (fun f => decide (f < TOT v) && lyV v (-5) f) 8000 X 0 0 (N v 6) (N v 7) (N v 8)
def plW (v : Nat → Int32) (X : Nat) : Nat → Int32 := up (up (mw v (plP v X).2.2.1 (plP v X).2.2.2.1 (plP v X).2.2.2.2 (N v 11)) 9 (nI (N v 9 + (plP v X).1))) 10 (nI (N v 10 + (plP v X).2.1))
theorem a_playN {T : Nat} {v : Nat → Int32} {X : Nat} (wf : WF T v) (x1 : 1 ≤ X) (x2 : X ≤ 999) (q : ¬ N v 6 < TOT v) : Qy v (-5) (f_X10_play (nI X)) := by
  have hT := wf.t3
  have p6 := wf.2.1.1.2.1
  refine Qy.err (C := f_X10_playFrames (nI X)) wf (by decide) (fun h r => ?_)
  have eaf : f_X5_allFrames 2 h = nI (TOT v) := c_allFrames (wf.1.ge r.1)
  rw [f_X10_playFrames, if_neg (show ¬ nI X < (1 : Int32) from nI_nlt (b := 1) x1 (by omega)), if_pos (show nI X ≤ (999 : Int32) from nI_le (b := 999) x2 (by decide)), (q_head wf r).1, eaf, if_neg (nI_nlt (by omega) (by omega))]
theorem a_play {T : Nat} {v : Nat → Int32} {X : Nat} (hT : T + 10000 < 2 ^ 31) (wf : WF T v) (x1 : 1 ≤ X) (x2 : X ≤ 999) (q : N v 6 < TOT v) : WF (T + 10000) (plW v X) ∧ Ay v (plW v X) (nI (plP v X).2.1) (f_X10_play (nI X)) := by
  have ws := wf.1
  have wh := wf.2.1
  have wc := wf.2.2.1
  have p3 := wf.t3
  have p6 := wh.1.2.1
  have c1 : ¬ nI X < (1 : Int32) := nI_nlt (b := 1) x1 (by omega)
  have c2 : nI X ≤ (999 : Int32) := nI_le (b := 999) x2 (by decide)
  have hm := plM_lt (p := N v 6) ws.fm x2 wh.2.1.1 wh.2.1.2.1
  have B := pl_rng (f := N v 3) (b := fun f => decide (f < TOT v) && lyV v (-5) f) ws.fm ws.sb.2.1 8000 X 0 0 (N v 6) (N v 7) (N v 8) wh.2.1.1 wh.2.1.2.1 p6 (Nat.le_refl _)
  have cr := fun (h : HP) (w : Nat → Int32) => c_readFrames_L15 (h := h) (w := w) (o := 8) (os := 2) (j := N v 11) (X := X) (b := fun f => decide (f < TOT v) && lyV v (-5) f) ws.sb (by decide) (by decide) (by omega) 8000 FU X 0 0 (N v 6) (N v 7) (N v 8) 0
  unfold plW
  have eP : plP v X = pl (N v 0) (N v 1) (N v 2) (N v 3) (STn (N v 0) (N v 1) 30) (fun f => decide (f < TOT v) && lyV v (-5) f) 8000 X 0 0 (N v 6) (N v 7) (N v 8) := rfl
  rw [← eP] at B
  simp only [← eP] at cr
  generalize plP v X = P at *
  have k0 := wh.2.2.1.2.1
  have r0 := wh.2.2.2.1.2.1
  have w0 := wh.2.2.2.2.1.2.1
  have j0 := wh.2.2.2.2.2.2.1
  have wf1 : WF (T + 10000) (mw v P.2.2.1 P.2.2.2.1 P.2.2.2.2 (N v 11)) := wf.head2 (by omega) hT B.2.1 B.1.1 B.1.2 (by omega) (by omega)
  have wf' : WF (T + 10000) (up (up (mw v P.2.2.1 P.2.2.2.1 P.2.2.2.2 (N v 11)) 9 (nI (N v 9 + P.1))) 10 (nI (N v 10 + P.2.1))) := by
    refine ⟨(wf1.1.upk (by omega)).upk (by omega), ?_, (wf1.2.2.1.upk (by omega)).upk (by omega), (wf1.2.2.2.upk (by omega)).upk (by omega)⟩
    obtain ⟨a1, a2, a3, a4, a5, a6⟩ := wf1.2.1
    unfold WH
    rw [TOT_up (by omega), TOT_up (by omega)]
    exact ⟨(a1.upk (by omega)).upk (by omega), (a2.upk (by omega)).upk (by omega), (a3.upk (by omega)).upk (by omega), (isN_up (by omega) (by omega) (by omega)).upk (by omega), isN_up (by omega) (by omega) (by omega), (a6.upk (by omega)).upk (by omega)⟩
  have hr : (0 : Int32) ≤ nI P.2.1 := nI_pos' (by omega)
  refine ⟨wf', Ay.of (C := f_X10_playFrames (nI X)) wf hr (fun h r1 sv => ?_)⟩
  have e80 : h 8 0 = nI (N v 6) := (r1.2.1 0 (by decide)).trans wh.1.2.2
  have eaf : f_X5_allFrames 2 h = nI (TOT v) := c_allFrames (ws.ge r1.1)
  obtain ⟨h1, o1, o2, o3⟩ := c_of ws wc r1.1 r1.2.2.1 sv
  have r2 : R h1 1 v := r1.of (fun a h1 h2 => o3 a (by omega))
  have w8 : h1 8 = hw (h1 8) (N v 6) (N v 7) (N v 8) (N v 11) := (hw_id ((r2.2.1 0 (by decide)).trans wh.1.2.2) ((r2.2.1 1 (by decide)).trans wh.2.1.2.2) ((r2.2.1 2 (by decide)).trans wh.2.2.1.2.2) ((r2.2.1 5 (by decide)).trans wh.2.2.2.2.2.2.2)).symm
  have ma := MS_all wc o2.2.1
  have cr := cr h1 (h1 8) hm (by decide) (by decide) (by omega) wh.2.1.1 wh.2.1.2.1 p6 (ws.se r2.1) w8 (fun q hq => by
    have := ma q hq
    rw [and_m1] at this
    exact this)
  rw [nI_0] at cr
  have rn := ((r2.head (w := h1 8) (p := P.2.2.1) (s := P.2.2.2.1) (k := P.2.2.2.2) (j := N v 11) rfl).uph (i := 3) (x := nI (N v 9 + P.1)) (by decide)).uph (i := 4) (x := nI (N v 10 + P.2.1)) (by decide)
  have k3 : h1 8 3 = nI (N v 9) := (r2.2.1 3 (by decide)).trans wh.2.2.2.1.2.2
  have k4 : h1 8 4 = nI (N v 10) := (r2.2.1 4 (by decide)).trans wh.2.2.2.2.1.2.2
  refine ⟨hset (hset (sR h1 8 (hw (h1 8) P.2.2.1 P.2.2.2.1 P.2.2.2.2 (N v 11))) 8 3 (nI (N v 9 + P.1))) 8 4 (nI (N v 10 + P.2.1)), ?_, rn, ?_, fun o ho => ?_⟩
  · rw [f_X10_playFrames, if_neg c1, if_pos c2, e80, eaf, if_pos (nI_lt q (by omega)), ob_e o1]
    have af1 : f_X5_allFrames 2 h1 = nI (STn (N v 0) (N v 1) 30) := c_allFrames (ws.ge r2.1)
    have rf : f_X1_readFrames 8 (nI X) 2 h1 = some (nI P.2.1, hset (hset (sR h1 8 (hw (h1 8) P.2.2.1 P.2.2.2.1 P.2.2.2.2 (N v 11))) 8 3 (nI (N v 9 + P.1))) 8 4 (nI (N v 10 + P.2.1))) := by
      rw [f_X1_readFrames, af1]
      refine (ob_e cr).trans ?_
      dsimp only
      rw [sR_s, hw_3, k3, nI_add, tb_s, hset_oth (by omega), sR_s, hw_4, k4, nI_add]
    exact ob_e rf
  · exact SV.of ⟨v, ws, wc, o2⟩ (fun o h1 h2 => by rw [hset_sR, sR_o (by omega), hset_sR, sR_o (by omega), sR_o (by omega)])
  · rw [hset_sR, sR_o (by omega), hset_sR, sR_o (by omega), sR_o (by omega), o3 o (by omega)]
/-- the row behind a seek -/
def tS (v : Nat → Int32) (g f : Nat) : Nat := skS (N v 0) (N v 1) (N v 2) (N v 3) (N v 5) g f (N v 6) (N v 7) (N v 8) (N v 11)
def skW (v : Nat → Int32) (f : Nat) : Nat → Int32 := mw v f (tS v (N v 4) f) (tK v (N v 4) f) (tJ v (N v 4) f)
theorem t_B {T : Nat} {v : Nat → Int32} {f g : Nat} (wf : WF T v) (hf : f < TOT v) (g1 : 60 ≤ g) (g2 : g ≤ 140) : (8 ≤ tS v g f ∧ tS v g f ≤ 214) ∧ (N v 8 ≤ tK v g f ∧ tK v g f ≤ N v 8 + 10000) ∧ (N v 11 ≤ tJ v g f ∧ tJ v g f ≤ N v 11 + 31) := by
  have ws := wf.1
  have wh := wf.2.1
  have := wf.t3
  exact sk_B ws.fm g1 g2 ws.2.2.2.2.2.2.1 wh.2.1.1 wh.2.1.2.1 wh.1.2.1 (by omega)
theorem a_seek {T : Nat} {v : Nat → Int32} {f : Nat} (hT : T + 10000 < 2 ^ 31) (wf : WF T v) (hf : f < TOT v) : WF (T + 10000) (skW v f) ∧ Ay v (skW v f) (nI (tK v (N v 4) f - N v 8)) (f_X10_seek (nI f)) := by
  have ws := wf.1
  have wh := wf.2.1
  have p3 := wf.t3
  have B := t_B wf hf ws.2.2.2.2.1.1 ws.2.2.2.2.1.2.1
  have k0 := wh.2.2.1.2.1
  have j0 := wh.2.2.2.2.2.2.1
  have wf' : WF (T + 10000) (skW v f) := wf.head2 (by omega) hT (Nat.le_of_lt hf) B.1.1 B.1.2 (by omega) (by omega)
  refine ⟨wf', Ay.of (C := f_X10_seekFrame (nI f)) wf (nI_pos' (by omega)) (fun h r1 sv => ?_)⟩
  have w8 : h 8 = hw (h 8) (N v 6) (N v 7) (N v 8) (N v 11) := (hw_id ((r1.2.1 0 (by decide)).trans wh.1.2.2) ((r1.2.1 1 (by decide)).trans wh.2.1.2.2) ((r1.2.1 2 (by decide)).trans wh.2.2.1.2.2) ((r1.2.1 5 (by decide)).trans wh.2.2.2.2.2.2.2)).symm
  have g4 : h 2 4 = nI (N v 4) := (r1.1 4 (by decide)).trans ws.2.2.2.2.1.2.2
  have g5 : h 2 5 = nI (N v 5) := (r1.1 5 (by decide)).trans ws.2.2.2.2.2.2.2
  have k8 : h 8 2 = nI (N v 8) := (r1.2.1 2 (by decide)).trans wh.2.2.1.2.2
  have cg := c_goTo (o := 8) (os := 2) (x := f) ws.sb (by decide) ws.2.2.2.2.2.2.1 ws.2.2.2.2.1.1 ws.2.2.2.2.1.2.1 (ws.se r1.1) g5 w8 wh.2.1.1 wh.2.1.2.1 wh.1.2.1 hf
  have cg : f_X1_goTo 8 (nI f) 2 (nI (N v 4)) h = some (sR h 8 (hw (h 8) f (tS v (N v 4) f) (tK v (N v 4) f) (tJ v (N v 4) f))) := cg
  have rn := r1.head (w := h 8) (p := f) (s := tS v (N v 4) f) (k := tK v (N v 4) f) (j := tJ v (N v 4) f) rfl
  refine ⟨sR h 8 (hw (h 8) f (tS v (N v 4) f) (tK v (N v 4) f) (tJ v (N v 4) f)), ?_, rn, sv.of (fun o h1 h2 => sR_o (by omega)), fun o ho => sR_o (by omega)⟩
  rw [f_X10_seekFrame, q_has wf r1 hf, if_neg (by decide), g4, ob_e cg, sR_s, hw_2, k8, pk_sub B.2.1.1]
/-- what seeking would take -/
theorem q_try {T : Nat} {v : Nat → Int32} {h : HP} {f : Nat} (wf : WF T v) (r : R h 1 v) (hf : f < TOT v) : ∃ h1, f_X10_trySeek (nI f) (h 2 4) h = some (nI (tK v (N v 4) f - N v 8), h1) ∧ h1 69 5 = nI (tJ v (N v 4) f) ∧ ∀ o, o ≠ 69 → h1 o = h o := by
  have g4 : h 2 4 = nI (N v 4) := (r.1 4 (by decide)).trans wf.1.2.2.2.2.1.2.2
  rw [g4]
  exact c_try wf r hf wf.1.2.2.2.2.1.1 wf.1.2.2.2.2.1.2.1
theorem q_if0 {T : Nat} {v : Nat → Int32} {f : Nat} (wf : WF T v) (hf : f < TOT v) : Qy v (nI (tK v (N v 4) f - N v 8)) (f_X10_ifSought (nI f) (0 : Int32)) := Qy.mk (fun h r sv => by
  obtain ⟨h1, e1, e2, e3⟩ := q_try wf r hf
  refine ⟨h1, ?_, sv.of (fun o h1 h2 => e3 o (by omega)), fun o ho => ?_⟩
  · rw [f_X10_ifSought, q_has wf r hf, if_neg (by decide), if_pos rfl, ob_e e1, if_pos rfl]
  · rcases Nat.lt_or_ge o 63 with q | q
    · exact e3 o (by omega)
    · exact e3 o (by omega))
theorem q_if1 {T : Nat} {v : Nat → Int32} {f : Nat} (wf : WF T v) (hf : f < TOT v) : Qy v (nI (tJ v (N v 4) f - N v 11)) (f_X10_ifSought (nI f) (1 : Int32)) := Qy.mk (fun h r sv => by
  obtain ⟨h1, e1, e2, e3⟩ := q_try wf r hf
  have B := t_B wf hf wf.1.2.2.2.2.1.1 wf.1.2.2.2.2.1.2.1
  refine ⟨h1, ?_, sv.of (fun o h1 h2 => e3 o (by omega)), fun o ho => e3 o (by omega)⟩
  rw [f_X10_ifSought, q_has wf r hf, if_neg (by decide), if_neg (by decide), if_pos rfl, ob_e e1, if_neg (by decide)]
  dsimp only
  rw [e2, e3 8 (by decide), (q_head wf r).2.2.2.2.2, pk_sub B.2.2.1])
theorem q_best {T : Nat} {v : Nat → Int32} {f : Nat} (wf : WF T v) (hf : f < TOT v) : Qy v (nI (bgB v f 80).1) (f_X10_bestGuess (nI f)) := Qy.mk (fun h r sv => by
  obtain ⟨h1, e1, e2, e3⟩ := c_try (g := 60) wf r hf (by decide) (by decide)
  have r1 : R h1 1 v := r.of (fun a h1 h2 => e3 a (by omega))
  obtain ⟨h2, f1, f2⟩ := c_bg_L31 wf hf 80 FU 0 h1 rfl (by decide) r1
  have f1 : f_X10_bestGuess_L31 FU (nI f) (60 : Int32) (nI (tK v 60 f - N v 8)) (61 : Int32) h1 = some (nI (bgB v f 80).1, h2) := f1
  have e1 : f_X10_trySeek (nI f) (60 : Int32) h = some (nI (tK v 60 f - N v 8), h1) := e1
  have fr : ∀ o, o ≠ 69 → h2 o = h o := fun o ho => (f2 o ho).trans (e3 o ho)
  refine ⟨h2, ?_, sv.of (fun o h1 h2 => fr o (by omega)), fun o ho => fr o (by omega)⟩
  rw [f_X10_bestGuess, q_has wf r hf, if_neg (by decide), ob_e e1]
  dsimp only
  rw [ob_e f1])
theorem q_pf {T : Nat} {v : Nat → Int32} (wf : WF T v) : Qy v (if N v 12 = 0 then (-5 : Int32) else nI (pfB v (N v 12 - 1)).1) (f_X10_polishFirst (0 : Int32)) ∧ Qy v (if N v 12 = 0 then (-5 : Int32) else nI (pfB v (N v 12 - 1)).2) (f_X10_polishFirst (1 : Int32)) := by
  have e31 : ∀ h, R h 1 v → h 3 1 = nI (N v 12) := fun h r => r.2.2.1.1.trans wf.2.2.1.1.2.2
  have h8 := wf.2.2.1.1.2.1
  by_cases q : N v 12 = 0
  · rw [if_pos q, if_pos q]
    refine ⟨Qy.same (fun h r => ?_), Qy.same (fun h r => ?_)⟩
    · rw [f_X10_polishFirst, if_pos rfl, e31 h r, q, if_pos (show nI 0 = 0 from nI_0)]
    · rw [f_X10_polishFirst, if_neg (by decide), if_pos rfl, e31 h r, q, if_pos (show nI 0 = 0 from nI_0)]
  · rw [if_neg q, if_neg q]
    refine ⟨Qy.mk (fun h r sv => ?_), Qy.mk (fun h r sv => ?_)⟩
    · obtain ⟨h1, h2, h3, h4, e1, e2, e3, e4, e5, e6⟩ := c_pf wf.1 wf.2.2.1 r.1 r.2.2.1 sv (by omega)
      refine ⟨h4, ?_, e5, e6⟩
      rw [f_X10_polishFirst, if_pos rfl, e31 h r, if_neg (nI_ne0 (by omega) (by omega)), ob_e e1, ob_e e2]
      refine (ob_e e3).trans ?_
      refine (ob_e e4).trans ?_
      rw [if_pos rfl]
    · obtain ⟨h1, h2, h3, h4, e1, e2, e3, e4, e5, e6⟩ := c_pf wf.1 wf.2.2.1 r.1 r.2.2.1 sv (by omega)
      refine ⟨h4, ?_, e5, e6⟩
      rw [f_X10_polishFirst, if_neg (by decide), if_pos rfl, e31 h r, if_neg (nI_ne0 (by omega) (by omega)), ob_e e1, ob_e e2]
      refine (ob_e e3).trans ?_
      refine (ob_e e4).trans ?_
      rw [if_neg (by decide)]
theorem q_gap {T : Nat} {v : Nat → Int32} (wf : WF T v) : Qy v (if (gpV v).1 = 0 then (-5 : Int32) else nI (gpV v).2.1) (f_X10_gap (0 : Int32)) ∧ Qy v (if (gpV v).1 = 0 then (-5 : Int32) else nI (gpV v).1) (f_X10_gap (1 : Int32)) := by
  have p3 := wf.t3
  have key : ∀ h, R h 1 v → SV h → ∃ h1, f_X7_of 1 h = some h1 ∧ SV h1 ∧ (∀ o, o < 63 ∨ 69 < o → h1 o = h o) ∧ f_X5_allFrames 2 h = nI (TOT v) ∧ f_X10_gap_L46 FU (0 : Int32) (0 : Int32) (0 : Int32) (nI (TOT v)) (0 : Int32) h1 = some (nI (gpV v).1, nI (gpV v).2.1) := fun h r sv => by
    obtain ⟨h1, o1, o2, o3, o4, o5⟩ := q_of wf r sv
    have caf : f_X5_allFrames 2 h = nI (TOT v) := c_allFrames (wf.1.ge r.1)
    have l := c_gap_L46 (by omega) o2.2.2 (TOT v) FU 0 (by omega) (Nat.lt_of_le_of_lt p3.2.1 (by decide))
    exact ⟨h1, o1, o3, o5, caf, l⟩
  have gl := gpN_le (p := fun f => decide (how (lyV v (-5)) (TOT v) f = 3)) (TOT v)
  have gl1 : (gpV v).1 ≤ TOT v := gl.1
  refine ⟨Qy.mk (fun h r sv => ?_), Qy.mk (fun h r sv => ?_)⟩
  · obtain ⟨h1, e1, e2, e3, e4, e5⟩ := key h r sv
    refine ⟨h1, ?_, e2, e3⟩
    rw [f_X10_gap, if_pos rfl, ob_e e1, e4]
    refine (ob_e e5).trans ?_
    dsimp only
    by_cases q : (gpV v).1 = 0
    · rw [if_pos q, q, if_pos (show nI 0 = 0 from nI_0)]
    · rw [if_neg q, if_neg (nI_ne0 (by omega) (by omega)), if_pos rfl]
  · obtain ⟨h1, e1, e2, e3, e4, e5⟩ := key h r sv
    refine ⟨h1, ?_, e2, e3⟩
    rw [f_X10_gap, if_neg (by decide), if_pos rfl, ob_e e1, e4]
    refine (ob_e e5).trans ?_
    dsimp only
    by_cases q : (gpV v).1 = 0
    · rw [if_pos q, q, if_pos (show nI 0 = 0 from nI_0)]
    · rw [if_neg q, if_neg (nI_ne0 (by omega) (by omega)), if_neg (by decide)]
theorem q_right {T : Nat} {v : Nat → Int32} (wf : WF T v) : Qy v (FP.ddiv (FP.i2d (nI (cnt (rtF v) (TOT v)))) (FP.i2d (nI (cnt dtF (TOT v))))) f_X10_right := Qy.mk (fun h r sv => by
  have p3 := wf.t3
  have d1 : 1 ≤ cnt dtF (TOT v) := by
    have := cnt_mono (p := dtF) (m := 1) (TOT v - 1)
    rw [show 1 + (TOT v - 1) = TOT v by omega, show cnt dtF 1 = 1 by decide] at this
    exact this
  have d2 := cnt_le dtF (TOT v)
  have d3 := cnt_le (rtF v) (TOT v)
  have dk := ddiv_ok (a := cnt (rtF v) (TOT v)) (b := cnt dtF (TOT v)) (by omega) (by omega) d1
  obtain ⟨h1, o1, o2, o3, o4, o5⟩ := q_of wf r sv
  have caf : f_X5_allFrames 2 h = nI (TOT v) := c_allFrames (wf.1.ge r.1)
  have lc := c_right_L30 wf o4 o2 (TOT v) FU 0 (by omega) (Nat.lt_of_le_of_lt p3.2.1 (by decide))
  have lc' : f_X10_right_L30 FU (0 : Int32) (0 : Int32) (nI (TOT v)) (0 : Int32) h1 = some (nI (cnt dtF (TOT v)), nI (cnt (rtF v) (TOT v))) := lc
  refine ⟨h1, ?_, o3, o5⟩
  rw [f_X10_right, ob_e o1, caf]
  refine (ob_e lc').trans ?_
  dsimp only
  rw [if_neg (nI_ne0 (by omega) (by omega)), gd_t dk])
