/-! the calls type, clearText, keep, restore -/
theorem two_type {T : Nat} {h : HP} {x : Int32} (hx : vp_nar .char x = x) (inv : Inv T h) : Two T h (fun h => some (f_X10_type x h)) (f_X11_type x) := by
  obtain ⟨v, n, H, kb, kv, L, tx, ki, mi, wa⟩ := inv
  obtain ⟨i1, i2, i3, i4, i5, i6, i7⟩ := ki
  by_cases q : L = 60
  · subst q
    refine two_of (r := (-3 : Int32)) (h1 := h) mi ?_ ⟨i1, i2, i3, i4, i5, i6, i7⟩ (fun _ _ => rfl) (fun g mg => ⟨g, ?_, mg, fun _ _ => rfl⟩) (wa.mono (by omega))
    · show some (f_X10_type x h) = _
      rw [f_X10_type, f_X3_append, i5, if_neg (by decide), if_neg (by decide), tb_s, if_pos rfl]
    · rw [f_X11_type, mg.2.2.2.1, if_pos (by decide)]
  · have hL : L < 60 := by omega
    refine two_of (r := nI (L + 1)) (h1 := hset (hset h 60 L x) 59 1 (nI (L + 1))) (L' := L + 1) (tx' := up tx L x) mi ?_ ⟨?_, ?_, ?_, ⟨?_, fun k => ?_⟩, ?_, by omega, ?_⟩ (fun o ho => ?_) (fun g mg => ?_) (wa.mono (by omega))
    · show some (f_X10_type x h) = _
      rw [f_X10_type, f_X3_append, i5, if_neg (nI_pos (by omega)), if_pos (show nI L < (60 : Int32) from nI_lt (b := 60) hL (by decide)), tb_s, tb_s, hx, nI_clamp (by omega), if_neg (show ¬ (1 : Int32) = 0 by decide), hset_oth (by omega), i5, nI_1]
      show some (hset (hset h 60 L x) 59 1 (nI (L + 1)) 59 1, _) = _
      rw [hset_same]
    · exact i1.of (fun a h1 h2 => by rw [hset_sR, sR_o (by omega), hset_sR, sR_o (by omega)])
    · exact i2.of (fun a h1 h2 => by rw [hset_sR, sR_o (by omega), hset_sR, sR_o (by omega)])
    · exact i3.of (fun a h1 h2 => by rw [hset_sR, sR_o (by omega), hset_sR, sR_o (by omega)])
    · rw [hset_oth (by omega), hset_oth (by omega)]
      exact i4.1
    · exact (i4.2 k).of (fun a h1 h2 => by rw [hset_sR, sR_o (by omega), hset_sR, sR_o (by omega)])
    · exact hset_same
    · intro j hj
      rw [hset_oth (by omega)]
      by_cases e : j = L
      · subst e
        rw [hset_same, up_s]
      · rw [hset_oth (by omega), up_o e]
        exact i7 j (by omega)
    · rw [hset_sR, sR_o (by omega), hset_sR, sR_o (by omega)]
    · obtain ⟨m1, m2, m3, m4, m5⟩ := mg
      refine ⟨hset (hset g 75 L x) 70 7 (nI (L + 1)), ?_, ⟨?_, ⟨m2.1, ?_, ?_⟩, ⟨?_, fun k => ?_⟩, hset_same, fun j hj => ?_⟩, fun o ho => ?_⟩
      · rw [f_X11_type, m4, if_neg (show ¬ nI L = (60 : Int32) from fun e => q ((nI_eq (b := 60) (by omega) (by decide)).mp e)), gd_t (inB_n hL (by decide)), nI_clamp (by omega), tb_s, hset_oth (by omega), m4, nI_1, tb_s, hset_same]
      · rw [hset_sR, sR_o (by decide), hset_sR, sR_o (by decide)]
        exact m1
      · rw [hset_oth (by omega), hset_oth (by omega)]
        exact m2.2.1
      · rw [hset_sR, sR_o (by decide), hset_sR, sR_o (by decide)]
        exact m2.2.2
      · rw [hset_oth (by omega), hset_oth (by omega)]
        exact m3.1
      · rw [hset_sR, sR_o (by decide), hset_sR, sR_o (by decide)]
        exact m3.2 k
      · rw [hset_oth (by omega)]
        by_cases e : j = L
        · subst e
          rw [hset_same, up_s]
        · rw [hset_oth (by omega), up_o e]
          exact m5 j (by omega)
      · rw [hset_sR, sR_o (by omega), hset_sR, sR_o (by omega)]
theorem two_clearText {T : Nat} {h : HP} (inv : Inv T h) : Two T h (fun h => some (f_X10_clearText h)) (fun h => some (f_X11_clearText h)) := by
  obtain ⟨v, n, H, kb, kv, L, tx, ki, mi, wa⟩ := inv
  obtain ⟨i1, i2, i3, i4, i5, i6, i7⟩ := ki
  refine two_of (r := nI L) (h1 := hset h 59 1 0) (L' := 0) (tx' := tx) mi ?_ ⟨?_, ?_, ?_, ⟨?_, fun k => ?_⟩, hset_same, by omega, fun j hj => absurd hj (Nat.not_lt_zero _)⟩ (fun o ho => ?_) (fun g mg => ?_) (wa.mono (by omega))
  · show some (f_X10_clearText h) = _
    rw [f_X10_clearText, f_X3_clear, i5]
    rfl
  · exact i1.of (fun a h1 h2 => by rw [hset_sR, sR_o (by omega)])
  · exact i2.of (fun a h1 h2 => by rw [hset_sR, sR_o (by omega)])
  · exact i3.of (fun a h1 h2 => by rw [hset_sR, sR_o (by omega)])
  · rw [hset_oth (by omega)]
    exact i4.1
  · exact (i4.2 k).of (fun a h1 h2 => by rw [hset_sR, sR_o (by omega)])
  · rw [hset_sR, sR_o (by omega)]
  · obtain ⟨m1, m2, m3, m4, m5⟩ := mg
    refine ⟨hset g 70 7 0, ?_, ⟨?_, ⟨m2.1, ?_, ?_⟩, ⟨?_, fun k => ?_⟩, hset_same, fun j hj => absurd hj (Nat.not_lt_zero _)⟩, fun o ho => ?_⟩
    · show some (f_X11_clearText g) = _
      rw [f_X11_clearText, m4]
    · rw [hset_sR, sR_o (by decide)]
      exact m1
    · rw [hset_oth (by omega)]
      exact m2.2.1
    · rw [hset_sR, sR_o (by decide)]
      exact m2.2.2
    · rw [hset_oth (by omega)]
      exact m3.1
    · rw [hset_sR, sR_o (by decide)]
      exact m3.2 k
    · rw [hset_sR, sR_o (by omega)]
theorem two_keep {T : Nat} {h : HP} (inv : Inv T h) : Two T h (fun h => some (f_X10_keep h)) f_X11_keep := by
  obtain ⟨v, n, H, kb, kv, L, tx, ki, mi, wa⟩ := inv
  obtain ⟨i1, i2, i3, i4, i5, i6, i7⟩ := ki
  have cp := c6_copy (o := 17) (p := 1) (h := h) (by omega) wa.1.2.2.1 wa.1.2.2.2 i1
  refine two_of (r := v 8) (h1 := hset (f_X6_copyFrom 17 1 h) 0 3 1) (kb' := true) (kv' := v) (tx' := tx) mi ?_ ⟨?_, ?_, ?_, ⟨hset_same, fun _ => ?_⟩, ?_, i6, ?_⟩ (fun o ho => ?_) (fun g mg => ?_) ⟨(wa.mono (by omega)).1, (wa.mono (by omega)).2.1, fun _ => (wa.mono (by omega)).1⟩
  · show some (f_X10_keep h) = _
    have : hset (f_X6_copyFrom 17 1 h) 0 3 1 8 2 = v 8 := by
      rw [hset_oth (by omega), cp.2 8 (by omega)]
      exact i1.2.1 2 (by decide)
    rw [f_X10_keep, tb_s, tb_s, this]
  · exact i1.of (fun a h1 h2 => by rw [hset_sR, sR_o (by omega), cp.2 a (by omega)])
  · exact i2.of (fun a h1 h2 => by rw [hset_sR, sR_o (by omega), cp.2 a (by omega)])
  · exact i3.of (fun a h1 h2 => by rw [hset_sR, sR_o (by omega), cp.2 a (by omega)])
  · exact cp.1.of (fun a h1 h2 => by rw [hset_sR, sR_o (by omega)])
  · rw [hset_oth (by omega), cp.2 59 (by omega)]
    exact i5
  · intro j hj
    rw [hset_oth (by omega), cp.2 60 (by omega)]
    exact i7 j hj
  · rw [hset_sR, sR_o (by omega), cp.2 o (by omega)]
  · obtain ⟨m1, m2, m3, m4, m5⟩ := mg
    refine ⟨hset (sR g 74 (cpR (g 71) (g 74) 166)) 70 5 1, ?_, ⟨?_, ⟨m2.1, ?_, ?_⟩, ⟨hset_same, fun _ => ?_⟩, ?_, fun j hj => ?_⟩, fun o ho => ?_⟩
    · have : hset (sR g 74 (cpR (g 71) (g 74) 166)) 70 5 1 71 8 = v 8 := by
        rw [hset_oth (by omega), sR_o (by decide)]
        exact m1 8 (by decide)
      rw [f_X11_keep, ob_e (m_keep_L2 g), tb_s, this]
    · rw [hset_sR, sR_o (by decide), sR_o (by decide)]
      exact m1
    · rw [hset_oth (by omega), sR_o (by decide)]
      exact m2.2.1
    · rw [hset_sR, sR_o (by decide), sR_o (by decide)]
      exact m2.2.2
    · rw [hset_sR, sR_o (by decide), sR_s]
      exact cpR_e.trans m1
    · rw [hset_oth (by omega), sR_o (by decide)]
      exact m4
    · rw [hset_oth (by omega), sR_o (by decide)]
      exact m5 j hj
    · rw [hset_sR, sR_o (by omega), sR_o (by omega)]
