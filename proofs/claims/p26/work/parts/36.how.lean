/-! the model's frames: damaged, sound, how, counts of them -/
theorem bef_lt {f : Nat} (h0 : f ≠ 0) (h4 : f % 5 ≠ 4) : bef f < f := by
  unfold bef
  split <;> omega
theorem how_le {b : Nat → Bool} {T f : Nat} : how b T f ≤ 3 := by
  unfold how
  repeat' split
  all_goals omega
/-- how many below n -/
def cnt (p : Nat → Bool) : Nat → Nat
  | 0 => 0
  | n + 1 => cnt p n + (p n).toNat
theorem cnt_le (p : Nat → Bool) (n : Nat) : cnt p n ≤ n := by
  induction n with
  | zero => exact Nat.le_refl _
  | succ n ih =>
    have := Bool.toNat_le (p n)
    rw [cnt]
    omega
theorem m_MB {v : Nat → Int32} {x : Int32} {h : HP} (e : h 71 = v) : MB v (lyV v x) (sR h 76 (lyR v x (TOT v) (h 76))) := by
  refine ⟨(sR_o (by decide)).trans e, fun f hf => ?_⟩
  rw [sR_s]
  exact if_pos hf
