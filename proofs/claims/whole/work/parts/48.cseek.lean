/-! the call seek -/
theorem aS_71 {g : HP} : aS g 71 = g 71 := sR_o (by decide)
theorem two_seek {T : Nat} {h : HP} {x : Int32} (hT : T + 1000000 < 2 ^ 31) (inv : Inv T h) : Two T h (f_X10_seek x) (f_X11_seek x) := by
  obtain ⟨v, n, H, kb, kv, L, tx, ki, mi, wa⟩ := inv
  have wf := wa.1
  have ws := wf.1
  have wh := wf.2.1
  have hn : n ≤ 4 := mi.2.1.1
  have cp := c6_copy (o := 9) (p := 1) (h := h) (by omega) wf.2.2.1 wf.2.2.2 ki.1
  have r1 : R (f_X6_copyFrom 9 1 h) 1 v := ki.1.of (fun a h1 h2 => cp.2 a (by omega))
  have sv : SV (f_X6_copyFrom 9 1 h) := ki.2.1.of (fun a h1 h2 => cp.2 a (by omega))
  have hfm := FM_tot ws.fm
  rcases c_hasFrame (ws.ge r1.1) ws.fm x with ⟨f, hf, rfl, e1⟩ | ⟨hno, e0⟩
  · have sb := ws.sb
    have p3 : TOT v ≤ 3810 := hfm.2.1
    have B := sk_B (m := N v 2) (f := N v 3) (k := N v 8) (j := N v 11) (x := f) ws.fm ws.2.2.2.2.1.1 ws.2.2.2.2.1.2.1 ws.2.2.2.2.2.2.1 wh.2.1.1 wh.2.1.2.1 wh.1.2.1 (by omega)
    have w8 : f_X6_copyFrom 9 1 h 8 = hw (f_X6_copyFrom 9 1 h 8) (N v 6) (N v 7) (N v 8) (N v 11) := (hw_id ((r1.2.1 0 (by decide)).trans wh.1.2.2) ((r1.2.1 1 (by decide)).trans wh.2.1.2.2) ((r1.2.1 2 (by decide)).trans wh.2.2.1.2.2) ((r1.2.1 5 (by decide)).trans wh.2.2.2.2.2.2.2)).symm
    have g4 : f_X6_copyFrom 9 1 h 2 4 = nI (N v 4) := (r1.1 4 (by decide)).trans ws.2.2.2.2.1.2.2
    have g5 : f_X6_copyFrom 9 1 h 2 5 = nI (N v 5) := (r1.1 5 (by decide)).trans ws.2.2.2.2.2.2.2
    have k8 : f_X6_copyFrom 9 1 h 8 2 = nI (N v 8) := (r1.2.1 2 (by decide)).trans wh.2.2.1.2.2
    have cg := c_goTo (o := 8) (os := 2) (x := f) sb (by decide) ws.2.2.2.2.2.2.1 ws.2.2.2.2.1.1 ws.2.2.2.2.1.2.1 (ws.se r1.1) g5 w8 wh.2.1.1 wh.2.1.2.1 wh.1.2.1 hf
    have rn := r1.head (w := f_X6_copyFrom 9 1 h 8) (p := f) (s := skS (N v 0) (N v 1) (N v 2) (N v 3) (N v 5) (N v 4) f (N v 6) (N v 7) (N v 8) (N v 11)) (k := skK (N v 0) (N v 1) (N v 2) (N v 3) (N v 5) (N v 4) f (N v 6) (N v 7) (N v 8) (N v 11)) (j := skJ (N v 0) (N v 1) (N v 2) (N v 5) (N v 4) f (N v 6) (N v 7) (N v 8) (N v 11)) rfl
    generalize hK : skK (N v 0) (N v 1) (N v 2) (N v 3) (N v 5) (N v 4) f (N v 6) (N v 7) (N v 8) (N v 11) = K at *
    generalize hS : skS (N v 0) (N v 1) (N v 2) (N v 3) (N v 5) (N v 4) f (N v 6) (N v 7) (N v 8) (N v 11) = S at *
    generalize hJ : skJ (N v 0) (N v 1) (N v 2) (N v 5) (N v 4) f (N v 6) (N v 7) (N v 8) (N v 11) = J at *
    have cs : f_X10_seekFrame (nI f) (f_X6_copyFrom 9 1 h) = some (nI (K - N v 8), sR (f_X6_copyFrom 9 1 h) 8 (hw (f_X6_copyFrom 9 1 h 8) f S K J)) := by
      rw [f_X10_seekFrame, e1, if_neg (by decide), g4, ob_e cg, sR_s, hw_2, k8, pk_sub B.2.1.1]
    have k0 := wh.2.2.1.2.1
    have j0 := wh.2.2.2.2.2.2.1
    have wf' : WF (T + 1000000) (mw v f S K J) := wf.head hT (Nat.le_of_lt hf) B.1.1 B.1.2 (by omega) (by omega)
    have hr : (0 : Int32) ≤ nI (K - N v 8) := nI_pos' (by omega)
    obtain ⟨h1, a1, a2, a3, a4⟩ := c_recd (r := nI (K - N v 8)) (c1 := sR (f_X6_copyFrom 9 1 h) 8 (hw (f_X6_copyFrom 9 1 h 8) f S K J)) ki wf (fun o ho => sR_o (by omega)) (sv.of (fun o h1 h2 => sR_o (by omega))) rn
    refine two_of (r := nI (K - N v 8)) (h1 := h1) mi ?_ (a2 hr) a4 (fun g mg => ?_) ((wa.mono (by omega)).push hn wf')
    · rw [f_X10_seek, tb_s, ob_e cs, ob_e a1]
    · have eg := mg.1
      have wg := eg.symm.wf wf
      have n' : ∀ i, i < 166 → N (g 71) i = N v i := fun i hi => eg.n hi
      have se : SE (N v 0) (N v 1) (N v 2) (N v 3) (g 71) := by
        rw [← n' 0 (by decide), ← n' 1 (by decide), ← n' 2 (by decide), ← n' 3 (by decide)]
        exact wg.1.sm
      have z : ∀ i lo hi, i < 166 → isN v i lo hi → g 71 i = nI (N v i) := fun i lo hi h q => (eg i h).trans q.2.2
      have w71 : aS g 71 = mw (g 71) (N v 6) (N v 7) (N v 8) (N v 11) := aS_71.trans (mw_id (z 6 _ _ (by decide) wh.1) (z 7 _ _ (by decide) wh.2.1) (z 8 _ _ (by decide) wh.2.2.1) (z 11 _ _ (by decide) wh.2.2.2.2.2)).symm
      have ms := m_seeks (x := f) (h := aS g) sb ws.2.2.2.2.2.2.1 ws.2.2.2.2.1.1 ws.2.2.2.2.1.2.1 se (z 5 _ _ (by decide) ws.2.2.2.2.2) (z 4 _ _ (by decide) ws.2.2.2.2.1) w71 wh.2.1.1 wh.2.1.2.1 wh.1.2.1 hf
      rw [hK, hS, hJ] at ms
      obtain ⟨g', b1, b2, b3, b4, b5⟩ := m_recd (r := nI (K - N v 8)) (g := sR (aS g) 71 (mw (g 71) f S K J)) (v' := mw v f S K J) mg (fun o h1 h2 => sR_o h1) (fun _ => by rw [sR_s]; exact eg.mw)
      refine ⟨g', ?_, (b2 hr).1, b4⟩
      rw [f_X11_seek, ob_e (m_putAside g)]
      refine (ob_e ms).trans ?_
      exact ob_e b1
  · obtain ⟨h1, a1, a2, a3, a4⟩ := c_recd (r := (-1 : Int32)) (c1 := f_X6_copyFrom 9 1 h) ki wf (fun o ho => rfl) sv r1
    refine two_of (r := (-1 : Int32)) (h1 := h1) mi ?_ (a3 (by decide)) a4 (fun g mg => ?_) (wa.mono (by omega))
    · rw [f_X10_seek, tb_s, f_X10_seekFrame, e0, if_pos rfl, ob_s, ob_e a1]
    · have eg := mg.1
      have wg := eg.symm.wf wf
      have ge : GE (N v 0) (N v 1) (aS g) 71 := by
        unfold GE
        rw [aS_71, ← eg.n (show 0 < 166 by decide), ← eg.n (show 1 < 166 by decide)]
        exact ⟨wg.1.1.2.2, wg.1.2.1.2.2⟩
      have ef : f_X11_isFrame x (aS g) = 0 := by
        rw [m_isFrame ge ws.fm]
        rcases c_hasFrame ge ws.fm x with ⟨f, hf, e, _⟩ | ⟨_, e⟩
        · exact absurd e (hno f hf)
        · exact e
      obtain ⟨g', b1, b2, b3, b4, b5⟩ := m_recd (r := (-1 : Int32)) (g := aS g) (v' := v) mg (fun o h1 h2 => rfl) (fun e => absurd e (by decide))
      refine ⟨g', ?_, b3 (by decide), b4⟩
      rw [f_X11_seek, ob_e (m_putAside g)]
      have es : f_X11_seeks x (aS g) = some ((-1 : Int32), aS g) := by rw [f_X11_seeks, ef, if_pos rfl]
      refine (ob_e es).trans ?_
      exact ob_e b1
