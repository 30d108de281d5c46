theorem pure_main {L : Nat} {xs : Nat → Int32} (hL : L ≤ 2560) : f_L_law_L18 FU xs L 0 h00 = some 1 := by
  sorry
