/-! the call turn -/
def lenF (v : Nat → Int32) (a : Nat) : Nat → Nat
  | 0 => 0
  | k + 1 => lenF v a k + (pT v (a + k) + fT v (a + k))
theorem damagedIn_rng {b : Nat → Bool} {m : Int32} {h : HP} {a e : Nat} (he : e ≤ 3810) (s : ∀ f, a ≤ f → f < e → (h 67 f &&& m = 0 ↔ b f = false)) : ∀ d n k, a + k + d = e → d < n → f_X7_damagedIn_L10 n (nI e) m (nI (cnt (fun i => b (a + i)) k)) (nI (a + k)) h = some (nI (cnt (fun i => b (a + i)) (e - a))) := by
  intro d
  induction d with
  | zero =>
    intro n k hk hn
    obtain ⟨n, rfl⟩ : ∃ n', n = n' + 1 := ⟨n - 1, by omega⟩
    rw [f_X7_damagedIn_L10, if_pos (nI_le (by omega) (by omega)), show e - a = k by omega]
  | succ d ih =>
    intro n k hk hn
    obtain ⟨n, rfl⟩ : ∃ n', n = n' + 1 := ⟨n - 1, by omega⟩
    have hk3 : ¬ (3810 : Int32) ≤ nI (a + k) := nI_ge (a := a + k) (b := 3810) (by omega) (by decide)
    rw [f_X7_damagedIn_L10, if_neg (nI_ge (by omega) (by omega)), if_neg hk3, gd_t (inB_n (by omega) (by decide)), nI_clamp (by omega)]
    have s1 := s (a + k) (by omega) (by omega)
    have : (if h 67 (a + k) &&& m = 0 then nI (cnt (fun i => b (a + i)) k) else nI (cnt (fun i => b (a + i)) k) + (1 : Int32)) = nI (cnt (fun i => b (a + i)) (k + 1)) := by
      rw [cnt]
      cases hb : b (a + k) with
      | true =>
        rw [if_neg (fun e => Bool.noConfusion (hb.symm.trans (s1.mp e))), nI_1]
        rfl
      | false =>
        rw [if_pos (s1.mpr hb)]
        rfl
    rw [this, nI_1, Nat.add_assoc]
    exact ih n (k + 1) (by omega) (by omega)
theorem c_lenAll {T : Nat} {v : Nat → Int32} {h : HP} {a e : Nat} (wf : WF T v) (r : R h 1 v) (he : e ≤ 3810) : ∀ d n k, a + k + d = e → d < n → f_X8_lengthOfAll_L5 n 5 (nI e) (nI (lenF v a k)) (nI (a + k)) h = some (nI (lenF v a (e - a))) := by
  intro d
  induction d with
  | zero =>
    intro n k hk hn
    obtain ⟨n, rfl⟩ : ∃ n', n = n' + 1 := ⟨n - 1, by omega⟩
    rw [f_X8_lengthOfAll_L5, if_pos (nI_le (by omega) (by omega)), show e - a = k by omega]
  | succ d ih =>
    intro n k hk hn
    obtain ⟨n, rfl⟩ : ∃ n', n = n' + 1 := ⟨n - 1, by omega⟩
    rw [f_X8_lengthOfAll_L5, if_neg (nI_ge (by omega) (by omega)), ob_e (c_length wf r (by omega)), nI_add, nI_1, Nat.add_assoc]
    exact ih n (k + 1) (by omega) (by omega)
