/-! press as an order, and the call -/
theorem c_isPlace {x : Int32} {h h' : HP} : f_X10_isPlace x h = inF x (0 : Int32) (3 : Int32) h' := by
  rcases in_n (x := x) (a := 0) (b := 3) (by decide) (by decide) with ⟨j, _, hj, rfl, ei⟩ | ⟨hno, ei⟩
  · have ei : ∀ h, inF (nI j) (0 : Int32) (3 : Int32) h = 1 := ei
    rw [ei, f_X10_isPlace, if_neg (nI_pos (by omega)), if_neg (show ¬ (4 : Int32) ≤ nI j from nI_ge (b := 4) (by omega) (by decide))]
  · have ei : ∀ h, inF x (0 : Int32) (3 : Int32) h = 0 := ei
    rw [ei, f_X10_isPlace]
    by_cases q : x < 0
    · rw [if_pos q]
    · obtain ⟨j, hj, rfl⟩ := nI_of q
      rw [if_neg q, if_pos (show (4 : Int32) ≤ nI j from nI_le (a := 4) (Nat.lt_of_not_le fun e => hno ⟨j, by omega, e, rfl⟩) hj)]
theorem m_prT {j f p s : Nat} {h1 : HP} {K : HP → Option (Int32 × HP)} (hj : j < 40) : gd (inB ((46 : Int32) + ((3 : Int32) * nI j)) 166) (tb (hset h1 71 ((46 : Int32) + ((3 : Int32) * nI j)).toNatClampNeg (nI f)) (fun h157 => gd (inB (((46 : Int32) + ((3 : Int32) * nI j)) + (1 : Int32)) 166) (tb (hset h157 71 (((46 : Int32) + ((3 : Int32) * nI j)) + (1 : Int32)).toNatClampNeg (nI p)) (fun h172 => gd (inB (((46 : Int32) + ((3 : Int32) * nI j)) + (2 : Int32)) 166) (tb (hset h172 71 (((46 : Int32) + ((3 : Int32) * nI j)) + (2 : Int32)).toNatClampNeg (nI s)) (fun h189 => K h189)))))) = K (sR h1 71 (pe (h1 71) j f p s)) := by
  have i0 : ((46 : Int32) + ((3 : Int32) * nI j)) = nI (46 + 3 * j) := by rw [lit_n 46, lit_n 3, pk_mul, nI_add]
  have i2 : nI (46 + 3 * j) + (2 : Int32) = nI (46 + 3 * j + 2) := by rw [lit_n 2, nI_add]
  rw [i0, nI_1, i2, gd_t (inB_n (by omega) (by decide)), nI_clamp (by omega), tb_s, gd_t (inB_n (by omega) (by decide)), nI_clamp (by omega), tb_s, gd_t (inB_n (by omega) (by decide)), nI_clamp (by omega), tb_s, hset_sR, hset_sR, hset_sR, sR_2, sR_2, sR_s, sR_s]
  rfl
theorem dSy_no {v : Nat → Int32} {f p : Nat} (h : FIX v f p = none) : dSy v f p = nI ((7 * f + 3 * p) % 16) := by
  unfold dSy
  rw [h]
theorem fiN_eq {u v : Nat → Int32} {f p : Nat} (e : E6 u v) : ∀ k j, j + k ≤ 40 → fiN u f p k j = fiN v f p k j := by
  intro k
  induction k with
  | zero => intro j _; rfl
  | succ k ih =>
    intro j hj
    rw [fiN, fiN, e (46 + 3 * j) (by omega), e (46 + 3 * j + 1) (by omega), ih (j + 1) (by omega)]
theorem FIX_eq {u v : Nat → Int32} {f p : Nat} (e : E6 u v) (w : WP v) : FIX u f p = FIX v f p := by
  have := w.1.2.1
  unfold FIX
  rw [e.n (by decide), fiN_eq e _ _ (by omega)]
theorem dSy_eq {u v : Nat → Int32} {f p : Nat} (e : E6 u v) (w : WP v) : dSy u f p = dSy v f p := by
  have hn := w.1.2.1
  unfold dSy
  rw [FIX_eq e w]
  cases hi : FIX v f p with
  | none => rfl
  | some i =>
    have h1 := fiN_some _ _ hi
    exact e _ (by omega)
theorem sy_eq {u v : Nat → Int32} {f p : Nat} (e : E6 u v) (w : WP v) : sy u f p = sy v f p := by
  unfold sy suSy
  rw [dSy_eq e w, dSy_eq e w, dSy_eq e w, dSy_eq e w, dSy_eq e w]
