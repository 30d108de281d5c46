/-! the call polishFirst -/
theorem in_01 {x : Int32} {h : HP} : (x = 0 ∨ x = 1) ∧ inF x (0 : Int32) (1 : Int32) h = 1 ∨ (x ≠ 0 ∧ x ≠ 1) ∧ inF x (0 : Int32) (1 : Int32) h = 0 := by
  rw [inF]
  by_cases q : x < 0
  · rw [if_pos q]
    exact Or.inr ⟨⟨fun e => by rw [e] at q; exact absurd q (by decide), fun e => by rw [e] at q; exact absurd q (by decide)⟩, rfl⟩
  · rw [if_neg q]
    obtain ⟨j, hj, rfl⟩ := nI_of q
    by_cases q2 : 1 < j
    · rw [if_pos (show (1 : Int32) < nI j from nI_lt (a := 1) q2 hj)]
      refine Or.inr ⟨⟨fun e => ?_, fun e => ?_⟩, rfl⟩
      · have := (nI_eq (b := 0) hj (by decide)).mp e
        omega
      · have := (nI_eq (b := 1) hj (by decide)).mp e
        omega
    · rw [if_neg (show ¬ (1 : Int32) < nI j from nI_nlt (a := 1) (b := j) (by omega) (by decide))]
      refine Or.inl ⟨?_, rfl⟩
      have : j = 0 ∨ j = 1 := by omega
      rcases this with e | e <;> subst e
      · exact Or.inl rfl
      · exact Or.inr rfl
