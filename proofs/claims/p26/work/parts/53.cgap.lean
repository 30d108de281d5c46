/-! the call gap -/
def gpN (p : Nat → Bool) : Nat → Nat × Nat × Nat
  | 0 => (0, 0, 0)
  | k + 1 =>
    if (if p k = true then (gpN p k).2.2 + 1 else 0) ≤ (gpN p k).1 then ((gpN p k).1, (gpN p k).2.1, if p k = true then (gpN p k).2.2 + 1 else 0)
    else ((if p k = true then (gpN p k).2.2 + 1 else 0), k + 1 - (if p k = true then (gpN p k).2.2 + 1 else 0), if p k = true then (gpN p k).2.2 + 1 else 0)
theorem gpN_le {p : Nat → Bool} : ∀ k, (gpN p k).1 ≤ k ∧ (gpN p k).2.1 ≤ k ∧ (gpN p k).2.2 ≤ k := by
  intro k
  induction k with
  | zero => exact ⟨Nat.le_refl _, Nat.le_refl _, Nat.le_refl _⟩
  | succ k ih =>
    rw [gpN]
    cases p k with
    | true =>
      simp only [if_true]
      split
      · exact ⟨by show (gpN p k).1 ≤ k + 1; omega, by show (gpN p k).2.1 ≤ k + 1; omega, by show (gpN p k).2.2 + 1 ≤ k + 1; omega⟩
      · exact ⟨by show (gpN p k).2.2 + 1 ≤ k + 1; omega, by show k + 1 - _ ≤ k + 1; omega, by show (gpN p k).2.2 + 1 ≤ k + 1; omega⟩
    | false =>
      simp
      omega
theorem gp_st {k r : Nat} (h : r ≤ k + 1) : (nI k - nI r) + (1 : Int32) = nI (k + 1 - r) := by
  rw [nI_z, nI_z, zI_sub, z1, zI_add, nI_z]
  congr 1
  omega
theorem c_gap_L46 {b : Nat → Bool} {T : Nat} {h : HP} (hT : T ≤ 3810) (s : ∀ f, f < T → h 68 f = nI (how b T f)) : ∀ d n k, k + d = T → d < n → f_X10_gap_L46 n (nI (gpN (fun f => decide (how b T f = 3)) k).1) (nI (gpN (fun f => decide (how b T f = 3)) k).2.1) (nI (gpN (fun f => decide (how b T f = 3)) k).2.2) (nI T) (nI k) h = some (nI (gpN (fun f => decide (how b T f = 3)) T).1, nI (gpN (fun f => decide (how b T f = 3)) T).2.1) := by
  have l68 : ln 68 = 3810 := by decide
  intro d
  induction d with
  | zero =>
    intro n k hk hn
    obtain ⟨n, rfl⟩ : ∃ n', n = n' + 1 := ⟨n - 1, by omega⟩
    have : k = T := by omega
    rw [f_X10_gap_L46, if_pos (nI_le (by omega) (by omega)), this]
  | succ d ih =>
    intro n k hk hn
    obtain ⟨n, rfl⟩ : ∃ n', n = n' + 1 := ⟨n - 1, by omega⟩
    have h3 := how_le (b := b) (T := T) (f := k)
    have hg := gpN_le (p := fun f => decide (how b T f = 3)) k
    rw [f_X10_gap_L46, if_neg (nI_ge (by omega) (by omega)), f_X7_howIs, at_n (by omega), s k (by omega)]
    rw [← ih n (k + 1) (by omega) (by omega), gpN]
    generalize gpN (fun f => decide (how b T f = 3)) k = G at *
    have run : (if nI (how b T k) = (3 : Int32) then nI G.2.2 + (1 : Int32) else (0 : Int32)) = nI (if decide (how b T k = 3) = true then G.2.2 + 1 else 0) := by
      by_cases q : how b T k = 3
      · rw [if_pos (show nI (how b T k) = (3 : Int32) by rw [q]; rfl), if_pos (decide_eq_true q), nI_1]
      · rw [if_neg (show ¬ nI (how b T k) = (3 : Int32) from fun c => q ((nI_eq (b := 3) (by omega) (by decide)).mp c)), if_neg (by simp [q])]
        rfl
    rw [run, tb_s]
    have hv : (if decide (how b T k = 3) = true then G.2.2 + 1 else 0) ≤ k + 1 := by
      split <;> omega
    generalize (if decide (how b T k = 3) = true then G.2.2 + 1 else 0) = V at *
    rw [gp_st hv, nI_1]
    by_cases q : V ≤ G.1
    · rw [if_pos (nI_le q (by omega)), if_pos (nI_le q (by omega)), if_pos q]
    · rw [if_neg (nI_ge (by omega) (by omega)), if_neg (nI_ge (by omega) (by omega)), if_neg q]
def gpS (G : Nat × Nat × Nat) : Int32 := if G.1 = 0 then (-5 : Int32) else nI G.2.1
