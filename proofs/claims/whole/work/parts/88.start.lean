/-! the start; the law's loop -/
theorem h00_67 : ∀ f, h00 67 f = 0 := by
  intro f
  unfold h00 hc_X11 hc_X10 hc_X7
  simp (disch := omega) only [hset_ne, hc_X1_out, hc_X4_out, hc_X5_out, hc_X2_out, hc_X3_out, hc_X6_out]
theorem h00_68 : ∀ f, h00 68 f = 0 := by
  intro f
  unfold h00 hc_X11 hc_X10 hc_X7
  simp (disch := omega) only [hset_ne, hc_X1_out, hc_X4_out, hc_X5_out, hc_X2_out, hc_X3_out, hc_X6_out]
theorem h00_71 : ∀ k, k < 166 → h00 71 k = if k = 0 then 20 else if k = 1 then 2 else if k = 2 then 3 else if k = 3 then 1 else if k = 4 then 90 else if k = 5 then 4 else if k = 7 then 20 else 0 := by decide +kernel
theorem h00_n : N (h00 71) 0 = 20 ∧ N (h00 71) 1 = 2 ∧ N (h00 71) 2 = 3 ∧ N (h00 71) 3 = 1 ∧ N (h00 71) 4 = 90 ∧ N (h00 71) 5 = 4 ∧ N (h00 71) 6 = 0 ∧ N (h00 71) 7 = 20 ∧ N (h00 71) 8 = 0 ∧ N (h00 71) 9 = 0 ∧ N (h00 71) 10 = 0 ∧ N (h00 71) 11 = 0 ∧ N (h00 71) 12 = 0 ∧ N (h00 71) 45 = 0 := by decide +kernel
theorem h00_wf : WF 0 (h00 71) := by
  have e := h00_71
  have is : ∀ k n lo hi, k < 166 → h00 71 k = nI n → n < 2 ^ 31 → lo ≤ n → n ≤ hi → isN (h00 71) k lo hi := fun k n lo hi _ h1 h2 h3 h4 => isN_of h1 h2 h3 h4
  refine ⟨⟨is 0 20 _ _ (by decide) (e 0 (by decide)) (by decide) (by decide) (by decide), is 1 2 _ _ (by decide) (e 1 (by decide)) (by decide) (by decide) (by decide), is 2 3 _ _ (by decide) (e 2 (by decide)) (by decide) (by decide) (by decide), is 3 1 _ _ (by decide) (e 3 (by decide)) (by decide) (by decide) (by decide), is 4 90 _ _ (by decide) (e 4 (by decide)) (by decide) (by decide) (by decide), is 5 4 _ _ (by decide) (e 5 (by decide)) (by decide) (by decide) (by decide)⟩, ⟨is 6 0 _ _ (by decide) (e 6 (by decide)) (by decide) (by decide) (Nat.zero_le _), is 7 20 _ _ (by decide) (e 7 (by decide)) (by decide) (by decide) (by decide), is 8 0 _ _ (by decide) (e 8 (by decide)) (by decide) (by decide) (by decide), is 9 0 _ _ (by decide) (e 9 (by decide)) (by decide) (by decide) (by decide), is 10 0 _ _ (by decide) (e 10 (by decide)) (by decide) (by decide) (by decide), is 11 0 _ _ (by decide) (e 11 (by decide)) (by decide) (by decide) (by decide)⟩, ⟨is 12 0 _ _ (by decide) (e 12 (by decide)) (by decide) (by decide) (by decide), fun k hk => ?_⟩, ⟨is 45 0 _ _ (by decide) (e 45 (by decide)) (by decide) (by decide) (by decide), fun k hk => ?_⟩⟩
  · rw [h00_n.2.2.2.2.2.2.2.2.2.2.2.2.1] at hk
    exact absurd hk (Nat.not_lt_zero _)
  · rw [h00_n.2.2.2.2.2.2.2.2.2.2.2.2.2] at hk
    exact absurd hk (Nat.not_lt_zero _)
theorem h00_r : R h00 1 (h00 71) := by
  have rs : ∀ k, k < 6 → h00 2 k = h00 71 k := by decide +kernel
  have rh : ∀ k, k < 6 → h00 8 k = h00 71 (6 + k) := by decide +kernel
  refine ⟨rs, rh, ⟨by decide +kernel, fun k hk => ?_⟩, by decide +kernel, fun k hk => ?_⟩
  · rw [h00_n.2.2.2.2.2.2.2.2.2.2.2.2.1] at hk
    exact absurd hk (Nat.not_lt_zero _)
  · rw [h00_n.2.2.2.2.2.2.2.2.2.2.2.2.2] at hk
    exact absurd hk (Nat.not_lt_zero _)
theorem h00_sv : SV h00 := by
  have n12 := h00_n.2.2.2.2.2.2.2.2.2.2.2.2.1
  refine ⟨h00 71, h00_wf.1, h00_wf.2.2.1, ⟨⟨?_, ?_⟩, by decide +kernel, fun k hk => ?_⟩, fun f hf => ?_, fun f hf => ?_⟩
  · rw [h00_n.1]
    decide +kernel
  · rw [h00_n.2.1]
    decide +kernel
  · rw [n12] at hk
    exact absurd hk (Nat.not_lt_zero _)
  · rw [h00_67, n12]
    unfold hbV
    split <;> rfl
  · rw [h00_68]
    have : lyV (h00 71) (-5) f = false := by
      unfold lyV
      rw [n12]
      rfl
    unfold how
    rw [if_pos this]
    rfl
theorem inv_0 : Inv 0 h00 := by
  refine ⟨h00 71, 0, fun _ _ => 0, false, fun _ => 0, 0, fun _ => 0, ⟨h00_r, h00_sv, ⟨by decide, by decide +kernel, fun j => 27 + 8 * j, fun j hj => ?_, fun i j _ _ e => by have e : 27 + 8 * i = 27 + 8 * j := e; omega, fun j hj => absurd hj (Nat.not_lt_zero _)⟩, ⟨by decide +kernel, fun e => Bool.noConfusion e⟩, by decide +kernel, by decide, fun j hj => absurd hj (Nat.not_lt_zero _)⟩, ⟨fun _ _ => rfl, ⟨by decide, by decide +kernel, fun j hj => absurd hj (Nat.not_lt_zero _)⟩, ⟨by decide +kernel, fun e => Bool.noConfusion e⟩, by decide +kernel, fun j hj => absurd hj (Nat.not_lt_zero _)⟩, h00_wf, fun j hj => absurd hj (Nat.not_lt_zero _), fun e => Bool.noConfusion e⟩
  have : j = 0 ∨ j = 1 ∨ j = 2 ∨ j = 3 := by omega
  rcases this with q | q | q | q <;> subst q
  · exact ⟨Or.inl rfl, by decide +kernel⟩
  · exact ⟨Or.inr (Or.inl rfl), by decide +kernel⟩
  · exact ⟨Or.inr (Or.inr (Or.inl rfl)), by decide +kernel⟩
  · exact ⟨Or.inr (Or.inr (Or.inr rfl)), by decide +kernel⟩
/-- the ticks and such after so many calls, at most -/
def TB : Nat → Nat
  | 0 => 0
  | c + 1 => TB c + 1000000
theorem TB_lt : ∀ c, c < 514 → TB c + 1000000 < 2 ^ 31 := by decide +kernel
