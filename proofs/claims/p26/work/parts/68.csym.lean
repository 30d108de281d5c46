/-! the call symbol -/
theorem how_2 {b : Nat → Bool} {T f : Nat} (h : how b T f = 2) : f % 5 ≠ 4 ∧ f ≠ 0 ∧ aft f < T := by
  unfold how at h
  split at h
  · omega
  · split at h
    · omega
    · split at h
      · next c => exact ⟨c.1, c.2.1, c.2.2.1⟩
      · omega
def flN (v : Nat → Int32) (f p : Nat) : Nat := (sN v (bef f) p + sN v (aft f) p) / 2
def hwN (v : Nat → Int32) (f : Nat) : Nat := how (lyV v (-5)) (TOT v) f
def tdN (v : Nat → Int32) (f p : Nat) : Nat := if hwN v f = 2 then flN v f p else sN v f p
theorem aft_le {f : Nat} : aft f ≤ f + 2 := by
  unfold aft
  split <;> omega
theorem c_filled {T : Nat} {v : Nat → Int32} {h : HP} {f p : Nat} (wf : WF T v) (r : R h 1 v) (hf : f < 2 ^ 20) (h0 : f ≠ 0) (h4 : f % 5 ≠ 4) (hp : p < 4) : f_X10_filledSymbol (nI f) (nI p) h = some (nI (flN v f p)) := by
  have hb := bef_lt h0 h4
  have ha := aft_le (f := f)
  have s1 := (sN_n (f := bef f) (q := p) wf.2.2.2).1
  have s2 := (sN_n (f := aft f) (q := p) wf.2.2.2).1
  rw [f_X10_filledSymbol, c_ahead hf h0 h4, c_behind hf, ob_e (c_st wf r (by omega) hp), ob_e (c_st wf r (by omega) hp), nI_add, lit_n 2, pk_div (by omega) (by decide) (by decide)]
  rfl
