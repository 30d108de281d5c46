/-! the spiral: frames of a turn, first frames, turns of frames -/
def STn (F M : Nat) : Nat → Nat
  | 0 => 0
  | t + 1 => STn F M t + (F + M * t)
theorem tri_s (t : Nat) : (t + 1) * t / 2 = t * (t - 1) / 2 + t := by
  cases t with
  | zero => rfl
  | succ s =>
    have e : (s + 1 + 1) * (s + 1) = (s + 1) * s + (s + 1) * 2 := by
      rw [← Nat.mul_add, Nat.mul_comm]
    rw [e, Nat.add_mul_div_right _ _ (by decide)]
    rfl
theorem STn_cl (F M t : Nat) : F * t + M * (t * (t - 1) / 2) = STn F M t := by
  induction t with
  | zero => simp [STn]
  | succ t ih =>
    show F * (t + 1) + M * ((t + 1) * t / 2) = STn F M t + (F + M * t)
    rw [tri_s, Nat.mul_add, Nat.mul_add, ← ih]
    omega
theorem STn_30 (F M : Nat) : STn F M 30 = 30 * F + 435 * M := by
  rw [← STn_cl]
  show F * 30 + M * 435 = _
  omega
theorem STn_lt {F M s t : Nat} (h : s < t) : STn F M s + (F + M * s) ≤ STn F M t := by
  induction t with
  | zero => omega
  | succ t ih =>
    show _ ≤ STn F M t + (F + M * t)
    rcases Nat.lt_or_ge s t with q | q
    · have := ih q
      omega
    · have : s = t := by omega
      subst this
      exact Nat.le_refl _
theorem STn_le {F M s t : Nat} (h : s ≤ t) : STn F M s ≤ STn F M t := by
  rcases Nat.lt_or_ge s t with q | q
  · have := STn_lt (F := F) (M := M) q
    omega
  · have : s = t := by omega
    subst this
    exact Nat.le_refl _
def FM (F M : Nat) : Prop := 8 ≤ F ∧ F ≤ 40 ∧ M ≤ 6
theorem FM_tot {F M : Nat} (h : FM F M) : 240 ≤ STn F M 30 ∧ STn F M 30 ≤ 3810 ∧ STn F M 30 % 5 = 0 := by
  rw [STn_30]
  unfold FM at h
  omega
theorem FM_st {F M t : Nat} (h : FM F M) (ht : t ≤ 30) : STn F M t ≤ 3810 := Nat.le_trans (STn_le ht) (FM_tot h).2.1
theorem FM_fo {F M t : Nat} (h : FM F M) (ht : t ≤ 30) : 8 ≤ F + M * t ∧ F + M * t ≤ 220 := by
  have h1 : M * t ≤ 6 * 30 := Nat.mul_le_mul h.2.2 ht
  unfold FM at h
  omega
/-- the settings 0 and 1 stand at o -/
def GE (F M : Nat) (h : HP) (o : Nat) : Prop := h o 0 = nI F ∧ h o 1 = nI M
theorem g_tri {t : Nat} (ht : t < 1000) : (nI t * (nI t - (1 : Int32))) / (2 : Int32) = nI (t * (t - 1) / 2) := by
  cases t with
  | zero => decide
  | succ s =>
    have h1 : (s + 1) * s ≤ 1000 * 1000 := Nat.mul_le_mul (by omega) (by omega)
    have h2 : (s + 1) * s < 2 ^ 31 := by omega
    rw [nI_pred, pk_mul, lit_n 2, pk_div h2 (by decide) (by decide)]
    rfl
theorem c_framesOf {F M t o : Nat} {h : HP} (g : GE F M h o) : f_X5_framesOf o (nI t) h = nI (F + M * t) := by
  rw [f_X5_framesOf, g.1, g.2, pk_mul, nI_add]
theorem c_firstOf {F M t o : Nat} {h : HP} (g : GE F M h o) (ht : t < 1000) : f_X5_firstOf o (nI t) h = nI (STn F M t) := by
  rw [f_X5_firstOf, g.1, g.2, g_tri ht, pk_mul, pk_mul, nI_add, STn_cl]
theorem c_allFrames {F M o : Nat} {h : HP} (g : GE F M h o) : f_X5_allFrames o h = nI (STn F M 30) := c_firstOf g (by decide)
/-- the frame x is on the disc, or not -/
theorem c_hasFrame {F M o : Nat} {h : HP} (g : GE F M h o) (hF : FM F M) (x : Int32) : (∃ f, f < STn F M 30 ∧ x = nI f ∧ f_X5_hasFrame o x h = 1) ∨ ((∀ f, f < STn F M 30 → x ≠ nI f) ∧ f_X5_hasFrame o x h = 0) := by
  have hT := FM_tot hF
  rw [f_X5_hasFrame, c_allFrames g]
  by_cases h0 : x < 0
  · refine Or.inr ⟨fun f hf e => ?_, if_pos h0⟩
    rw [e] at h0
    exact nI_pos (by omega) h0
  · obtain ⟨j, hj, rfl⟩ := nI_of h0
    rw [if_neg h0]
    by_cases h1 : STn F M 30 ≤ j
    · rw [if_pos (nI_le h1 hj)]
      refine Or.inr ⟨fun f hf e => ?_, rfl⟩
      have := (nI_eq hj (by omega)).mp e
      omega
    · rw [if_neg (fun q => h1 ((nI_leI (by omega) hj).mp q))]
      exact Or.inl ⟨j, by omega, rfl, rfl⟩
theorem c_hasFrame_y {F M o f : Nat} {h : HP} (g : GE F M h o) (hF : FM F M) (hf : f < STn F M 30) : f_X5_hasFrame o (nI f) h = 1 := by
  rcases c_hasFrame g hF (nI f) with ⟨f', _, _, h3⟩ | ⟨h1, _⟩
  · exact h3
  · exact absurd rfl (h1 f hf)
/-- the turn of a frame -/
def tuN (F M f : Nat) : Nat → Nat → Nat
  | 0, t => t
  | k + 1, t => if f < STn F M (t + 1) then t else tuN F M f k (t + 1)
def TU (F M f : Nat) : Nat := tuN F M f 29 0
theorem tuN_le {F M f : Nat} : ∀ k t, t ≤ tuN F M f k t ∧ tuN F M f k t ≤ t + k := by
  intro k
  induction k with
  | zero => intro t; exact ⟨Nat.le_refl _, Nat.le_refl _⟩
  | succ k ih =>
    intro t
    rw [tuN]
    split
    · omega
    · have := ih (t + 1)
      omega
theorem tuN_lo {F M f : Nat} : ∀ k t, STn F M t ≤ f → STn F M (tuN F M f k t) ≤ f := by
  intro k
  induction k with
  | zero => intro t h; exact h
  | succ k ih =>
    intro t h
    rw [tuN]
    split
    · exact h
    · exact ih (t + 1) (by omega)
theorem tuN_hi {F M f : Nat} : ∀ k t, tuN F M f k t = t + k ∨ f < STn F M (tuN F M f k t + 1) := by
  intro k
  induction k with
  | zero => intro t; exact Or.inl rfl
  | succ k ih =>
    intro t
    rw [tuN]
    split
    · next h => exact Or.inr h
    · rcases ih (t + 1) with h | h
      · exact Or.inl (by omega)
      · exact Or.inr h
theorem TU_le {F M f : Nat} : TU F M f ≤ 29 := by
  have := (tuN_le (F := F) (M := M) (f := f) 29 0).2
  unfold TU
  omega
theorem TU_lo {F M f : Nat} : STn F M (TU F M f) ≤ f := tuN_lo 29 0 (Nat.zero_le _)
theorem TU_hi {F M f : Nat} (hf : f < STn F M 30) : f < STn F M (TU F M f + 1) := by
  rcases tuN_hi (F := F) (M := M) (f := f) 29 0 with h | h
  · unfold TU
    rw [h]
    exact hf
  · exact h
theorem TU_of {F M f t : Nat} (ht : t ≤ 29) (h1 : STn F M t ≤ f) (h2 : f < STn F M (t + 1)) : TU F M f = t := by
  have a1 := TU_lo (F := F) (M := M) (f := f)
  have a2 : f < STn F M (TU F M f + 1) := TU_hi (Nat.lt_of_lt_of_le h2 (STn_le (by omega)))
  rcases Nat.lt_trichotomy (TU F M f) t with q | q | q
  · have := STn_le (F := F) (M := M) (show TU F M f + 1 ≤ t by omega)
    omega
  · exact q
  · have := STn_le (F := F) (M := M) (show t + 1 ≤ TU F M f by omega)
    omega
theorem TU_end {F M f : Nat} (hf : STn F M 30 ≤ f) : TU F M f = 29 := by
  rcases tuN_hi (F := F) (M := M) (f := f) 29 0 with h | h
  · exact h
  · have h1 := TU_le (F := F) (M := M) (f := f)
    have h2 := STn_le (F := F) (M := M) (show TU F M f + 1 ≤ 30 by omega)
    unfold TU at h2
    omega
theorem c_turnOf_L2 {F M f o : Nat} {h : HP} (g : GE F M h o) (hF : FM F M) (hf : f < 2 ^ 31) : ∀ k n t, t + k = 29 → k < n → f_X5_turnOf_L2 n o (nI f) (nI t) h = some (nI (tuN F M f k t)) := by
  intro k
  induction k with
  | zero =>
    intro n t ht hn
    obtain ⟨n, rfl⟩ : ∃ n', n = n' + 1 := ⟨n - 1, by omega⟩
    have : t = 29 := by omega
    subst this
    rw [f_X5_turnOf_L2]
    exact if_pos (by decide)
  | succ k ih =>
    intro n t ht hn
    obtain ⟨n, rfl⟩ : ∃ n', n = n' + 1 := ⟨n - 1, by omega⟩
    rw [f_X5_turnOf_L2, lit_n 29, if_neg (nI_ge (by omega) (by omega)), nI_1, c_firstOf g (by omega), tuN]
    have h1 := FM_st (t := t + 1) hF (by omega)
    by_cases h2 : f < STn F M (t + 1)
    · rw [if_pos (nI_lt h2 (by omega)), if_pos h2]
    · rw [if_neg (nI_nlt (by omega) hf), if_neg h2]
      exact ih n (t + 1) (by omega) (by omega)
theorem c_turnOf {F M f o : Nat} {h : HP} (g : GE F M h o) (hF : FM F M) (hf : f < 2 ^ 31) : f_X5_turnOf o (nI f) h = some (nI (TU F M f)) := by
  rw [f_X5_turnOf]
  exact ob_e (k := fun r => some r) (c_turnOf_L2 g hF hf 29 FU 0 rfl (by decide))
theorem c_groups {F M o : Nat} {h : HP} (g : GE F M h o) (hF : FM F M) : f_X5_groups o h = nI (STn F M 30 / 5) := by
  have hT := FM_tot hF
  rw [f_X5_groups, c_allFrames g, lit_n 5, pk_div (by omega) (by decide) (by decide)]
theorem c_isCheck {f : Nat} {h : HP} (hf : f < 2 ^ 31) : f_X5_isCheck (nI f) h = if f % 5 = 4 then 1 else 0 := by
  rw [f_X5_isCheck, lit_n 5, jrem_n hf (by decide) (by decide), lit_n 4]
  by_cases h4 : f % 5 = 4
  · rw [if_pos h4, if_pos (by rw [h4])]
  · rw [if_neg h4, if_neg (fun q => h4 ((nI_eq (by omega) (by decide)).mp q))]
