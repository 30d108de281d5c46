/-! play as an order, and the call -/
theorem plM_lt {F M X p s : Nat} (hF : FM F M) (hX : X ≤ 999) (s1 : 8 ≤ s) (s2 : s ≤ 214) : plM F M X p s < 8000 := by
  have h2 := TU_le (F := F) (M := M) (f := p)
  have a1 := fo_214 hF h2
  unfold plM dN
  omega
