/-! the model's rows put aside, put back, recorded -/
def cpR (a b : Nat → Int32) (i : Nat) : Nat → Int32 := fun k => if k < i then a k else b k
theorem cpR_s {a b : Nat → Int32} {i : Nat} : up (cpR a b i) i (a i) = cpR a b (i + 1) := by
  funext k
  unfold up cpR
  by_cases q : k = i
  · subst q
    rw [if_pos rfl, if_pos (by omega)]
  · rw [if_neg q]
    by_cases q2 : k < i
    · rw [if_pos q2, if_pos (by omega)]
    · rw [if_neg q2, if_neg (by omega)]
theorem cpR_0 {a b : Nat → Int32} : cpR a b 0 = b := by
  funext k
  exact if_neg (Nat.not_lt_zero _)
theorem cpR_e {a b : Nat → Int32} : E6 (cpR a b 166) a := fun k hk => if_pos hk
theorem m_copyL {f : Nat → Int32 → HP → Option HP} {s d : Nat} (hsd : s ≠ d) (hf : ∀ n i h, i < 166 → f (n + 1) (nI i) h = f n (nI (i + 1)) (hset h d i (h s i))) (hl : ∀ n h, f (n + 1) (nI 166) h = some h) : ∀ e n i h b, i + e = 166 → e < n → h d = cpR (h s) b i → f n (nI i) h = some (sR h d (cpR (h s) b 166)) := by
  intro e
  induction e with
  | zero =>
    intro n i h b hi hn er
    obtain ⟨n, rfl⟩ : ∃ n', n = n' + 1 := ⟨n - 1, by omega⟩
    have : i = 166 := by omega
    subst this
    rw [hl, ← er, sR_id]
  | succ e ih =>
    intro n i h b hi hn er
    obtain ⟨n, rfl⟩ : ∃ n', n = n' + 1 := ⟨n - 1, by omega⟩
    rw [hf n i h (by omega), hset_sR]
    have := ih n (i + 1) (sR h d (up (h d) i (h s i))) b (by omega) (by omega) (by rw [sR_s, sR_o hsd, er, cpR_s])
    rw [this, sR_2, sR_o hsd]
theorem m_copy {f : Nat → Int32 → HP → Option HP} {s d : Nat} (hsd : s ≠ d) (hf : ∀ n i h, i < 166 → f (n + 1) (nI i) h = f n (nI (i + 1)) (hset h d i (h s i))) (hl : ∀ n h, f (n + 1) (nI 166) h = some h) (h : HP) : f FU (0 : Int32) h = some (sR h d (cpR (h s) (h d) 166)) := by
  have := m_copyL hsd hf hl 166 FU 0 h (h d) rfl (by decide) cpR_0.symm
  rw [nI_0] at this
  exact this
