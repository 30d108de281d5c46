/-! the calls restore and undo -/
theorem two_restore {T : Nat} {h : HP} (hT : T + 1000000 < 2 ^ 31) (inv : Inv T h) : Two T h f_X10_restore f_X11_restore := by
  obtain ⟨v, n, H, kb, kv, L, tx, ki, mi, wa⟩ := inv
  have hn : n ≤ 4 := mi.2.1.1
  cases kb with
  | false =>
    refine two_of (r := (-5 : Int32)) (h1 := h) mi ?_ ki (fun _ _ => rfl) (fun g mg => ⟨g, ?_, mg, fun _ _ => rfl⟩) (wa.mono (by omega))
    · rw [f_X10_restore, ki.2.2.2.1.1, if_pos (by decide)]
    · rw [f_X11_restore, mg.2.2.1.1, if_pos (by decide)]
  | true =>
    have wk := wa.2.2 rfl
    have wf := wa.1
    have cp := c6_copy (o := 9) (p := 1) (h := h) (by omega) wf.2.2.1 wf.2.2.2 ki.1
    have rk : R (f_X6_copyFrom 9 1 h) 17 kv := (ki.2.2.2.1.2 rfl).of (fun a h1 h2 => cp.2 a (by omega))
    have c2 := c6_copy (o := 1) (p := 17) (h := f_X6_copyFrom 9 1 h) (by omega) wk.2.2.1 wk.2.2.2 rk
    have sv : SV (f_X6_copyFrom 1 17 (f_X6_copyFrom 9 1 h)) := ki.2.1.of (fun a h1 h2 => (c2.2 a (by omega)).trans (cp.2 a (by omega)))
    have k8 := wk.2.1.2.2.1
    have hr : (0 : Int32) ≤ nI (N kv 8) := nI_pos' (by have := k8.2.1; omega)
    have e8 : f_X6_copyFrom 1 17 (f_X6_copyFrom 9 1 h) 8 2 = nI (N kv 8) := (c2.1.2.1 2 (by decide)).trans k8.2.2
    obtain ⟨h1, a1, a2, a3, a4⟩ := c_recd (r := nI (N kv 8)) (c1 := f_X6_copyFrom 1 17 (f_X6_copyFrom 9 1 h)) ki wf (fun o ho => c2.2 o (by omega)) sv c2.1
    refine two_of (r := nI (N kv 8)) (h1 := h1) mi ?_ (a2 hr) a4 (fun g mg => ?_) ((wa.mono (by omega)).push hn (wk.mono (by omega)))
    · rw [f_X10_restore, ki.2.2.2.1.1, if_neg (by decide), tb_s, tb_s, e8, ob_e a1]
    · have e74 := mg.2.2.1.2 rfl
      have f74 : aS g 74 = g 74 := sR_o (by decide)
      have z8 : sR (aS g) 71 (cpR (aS g 74) (aS g 71) 166) 71 8 = nI (N kv 8) := by
        rw [sR_s, f74]
        exact (cpR_e 8 (by decide)).trans ((e74 8 (by decide)).trans k8.2.2)
      obtain ⟨g', b1, b2, b3, b4, b5⟩ := m_recd (r := nI (N kv 8)) (g := sR (aS g) 71 (cpR (aS g 74) (aS g 71) 166)) (v' := kv) mg (fun o h1 h2 => sR_o h1) (fun _ => by
        rw [sR_s, f74]
        exact cpR_e.trans e74)
      refine ⟨g', ?_, (b2 hr).1, b4⟩
      rw [f_X11_restore, mg.2.2.1.1, if_neg (by decide), ob_e (m_putAside g)]
      refine (ob_e (m_restore_L16 (aS g))).trans ?_
      rw [z8]
      exact ob_e b1
theorem m_undo_L22 {m : Nat} (hm : m < 4) : ∀ e n i h, i + e = 166 → e < n → h 70 3 = nI m → (∀ k, k < i → h 71 k = h 73 (166 * m + k)) → ∃ w, f_X11_undo_L22 n (nI i) h = some (sR h 71 w) ∧ ∀ k, k < 166 → w k = h 73 (166 * m + k) := by
  intro e
  induction e with
  | zero =>
    intro n i h hi hn e3 er
    obtain ⟨n, rfl⟩ : ∃ n', n = n' + 1 := ⟨n - 1, by omega⟩
    have : i = 166 := by omega
    subst this
    rw [f_X11_undo_L22, if_pos (by decide)]
    exact ⟨h 71, by rw [sR_id], er⟩
  | succ e ih =>
    intro n i h hi hn e3 er
    obtain ⟨n, rfl⟩ : ∃ n', n = n' + 1 := ⟨n - 1, by omega⟩
    have ix : ((166 : Int32) * nI m) + nI i = nI (166 * m + i) := by rw [lit_n 166, pk_mul, nI_add]
    rw [f_X11_undo_L22, if_neg (show ¬ (166 : Int32) ≤ nI i from nI_ge (b := 166) (by omega) (by decide)), e3, ix, gd_t (inB_n (by omega) (by decide)), gd_t (inB_n (by omega) (by decide)), nI_clamp (by omega), nI_clamp (by omega), nI_1, hset_sR]
    obtain ⟨w, g1, g2⟩ := ih n (i + 1) (sR h 71 (up (h 71) i (h 73 (166 * m + i)))) (by omega) (by omega) (by rw [sR_o (by decide)]; exact e3) (fun k hk => by
      rw [sR_s, sR_o (by decide)]
      by_cases q : k = i
      · subst q
        exact up_s
      · rw [up_o q]
        exact er k (by omega))
    refine ⟨w, by rw [g1, sR_2], fun k hk => ?_⟩
    rw [g2 k hk, sR_o (by decide)]
theorem two_undo {T : Nat} {h : HP} (inv : Inv T h) : Two T h f_X10_undo f_X11_undo := by
  obtain ⟨v, n, H, kb, kv, L, tx, ki, mi, wa⟩ := inv
  cases n with
  | zero =>
    have e25 : h 25 1 = nI 0 := ki.2.2.1.2.1
    refine two_of (r := (-5 : Int32)) (h1 := h) mi ?_ ki (fun _ _ => rfl) (fun g mg => ⟨g, ?_, mg, fun _ _ => rfl⟩) (wa.mono (by omega))
    · have : f_X2_stateAt (h 25 1 - 1) h = 0 := by
        rw [e25, f_X2_stateAt, if_pos (by decide)]
      rw [f_X10_undo, f_X2_takeLatest, if_pos this, ob_s, if_pos rfl]
    · have : g 70 3 = nI 0 := mg.2.1.2.1
      rw [f_X11_undo, this, if_pos (by decide)]
  | succ m =>
    obtain ⟨i1, i2, ⟨c1, c2, σ, s1, s2, s3⟩, i4, i5, i6, i7⟩ := ki
    have hm : m < 4 := by omega
    have am := isS_st (s1 m hm).1
    have rg := isS_rng (s1 m hm).1
    have wH := wa.2.1 m (by omega)
    have cp := c6_copy (o := 1) (p := σ m) (h := h) (by omega) wH.2.2.1 wH.2.2.2 (s3 m (by omega))
    have est : f_X2_stateAt (h 25 1 - 1) h = nI (σ m) := by
      rw [c2, nI_pred, c_stateAt hm, (s1 m hm).2]
    have fr : ∀ o, o ≠ 25 → (o ≤ 1 ∨ 8 < o) → hset (f_X6_copyFrom 1 (σ m) h) 25 1 (nI m) o = h o := fun o h1 h2 => by
      rw [hset_sR, sR_o h1, cp.2 o (by omega)]
    refine two_of (r := nI m) (h1 := hset (f_X6_copyFrom 1 (σ m) h) 25 1 (nI m)) (v' := H m) (n' := m) (H' := H) (kb' := kb) (kv' := kv) (L' := L) (tx' := tx) mi ?_ ⟨?_, ?_, ⟨by omega, hset_same, σ, fun j hj => ?_, s2, fun j hj => ?_⟩, ⟨?_, fun k => ?_⟩, ?_, i6, ?_⟩ (fun o ho => fr o (by omega) (by omega)) (fun g mg => ?_) ⟨wH.mono (by omega), fun j hj => (wa.2.1 j (by omega)).mono (by omega), fun k => (wa.2.2 k).mono (by omega)⟩
    · have e1 : f_X6_copyFrom 1 (σ m) h 25 1 = nI (m + 1) := by
        rw [cp.2 25 (by omega)]
        exact c2
      rw [f_X10_undo, f_X2_takeLatest, est, if_neg am.2.1, gd_t am.1, am.2.2, tb_s, e1, nI_pred, ob_s, if_neg (show ¬ (1 : Int32) = 0 by decide)]
      show some (hset (f_X6_copyFrom 1 (σ m) h) 25 1 (nI m) 25 1, _) = _
      rw [hset_same]
    · exact cp.1.of (fun a h1 h2 => by rw [hset_sR, sR_o (by omega)])
    · exact i2.of (fun a h1 h2 => fr a (by omega) (by omega))
    · rw [fr 26 (by decide) (by omega)]
      exact s1 j hj
    · have rj := isS_rng (s1 j (by omega)).1
      exact (s3 j (by omega)).of (fun a h1 h2 => fr a (by omega) (by omega))
    · rw [fr 0 (by decide) (by omega)]
      exact i4.1
    · exact (i4.2 k).of (fun a h1 h2 => fr a (by omega) (by omega))
    · rw [fr 59 (by decide) (by omega)]
      exact i5
    · intro j hj
      rw [fr 60 (by decide) (by omega)]
      exact i7 j hj
    · obtain ⟨m1, m2, m3, m4, m5⟩ := mg
      obtain ⟨w, u1, u2⟩ := m_undo_L22 hm 166 FU 0 (hset g 70 3 (nI m)) rfl (by decide) hset_same (fun k hk => absurd hk (Nat.not_lt_zero _))
      rw [nI_0] at u1
      have e70 : ∀ k, k ≠ 3 → sR (hset g 70 3 (nI m)) 71 w 70 k = g 70 k := fun k hk => by
        rw [sR_o (by decide), hset_oth (by omega)]
      have eo : ∀ o, o ≠ 70 → o ≠ 71 → sR (hset g 70 3 (nI m)) 71 w o = g o := fun o h1 h2 => by
        rw [sR_o h2, hset_sR, sR_o h1]
      refine ⟨sR (hset g 70 3 (nI m)) 71 w, ?_, ⟨?_, ⟨by omega, ?_, fun j hj => ?_⟩, ⟨?_, fun k => ?_⟩, ?_, fun j hj => ?_⟩, fun o ho => eo o (by omega) (by omega)⟩
      · rw [f_X11_undo, m2.2.1, if_neg (nI_ne0 (by omega) (by omega)), nI_pred, ob_e u1, sR_o (by decide), hset_same]
      · rw [sR_s]
        intro k hk
        rw [u2 k hk, hset_oth (by omega)]
        exact m2.2.2 m (by omega) k hk
      · rw [sR_o (by decide), hset_same]
      · rw [eo 73 (by decide) (by decide)]
        exact m2.2.2 j (by omega)
      · rw [e70 5 (by decide)]
        exact m3.1
      · rw [eo 74 (by decide) (by decide)]
        exact m3.2 k
      · rw [e70 7 (by decide)]
        exact m4
      · rw [eo 75 (by decide) (by decide)]
        exact m5 j hj
