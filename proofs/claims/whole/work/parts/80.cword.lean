/-! one order: both read it alike -/
section
variable {x : Nat → Int32} {L : Nat} {st : Nat × Bool}
theorem kk65 : kdC 65 = true := by decide
theorem lo65 : loC 65 = 0 := by decide
theorem hi65 : hiC 65 = 359 := by decide
theorem it65 : itS x L 65 st = nmS x L 0 359 st := by
  unfold itS
  rw [if_pos kk65, lo65, hi65]
theorem kk84 : kdC 84 = true := by decide
theorem lo84 : loC 84 = 0 := by decide
theorem hi84 : hiC 84 = 29 := by decide
theorem it84 : itS x L 84 st = nmS x L 0 29 st := by
  unfold itS
  rw [if_pos kk84, lo84, hi84]
theorem kk68 : kdC 68 = true := by decide
theorem lo68 : loC 68 = 0 := by decide
theorem hi68 : hiC 68 = 9 := by decide
theorem it68 : itS x L 68 st = nmS x L 0 9 st := by
  unfold itS
  rw [if_pos kk68, lo68, hi68]
theorem kk70 : kdC 70 = true := by decide
theorem lo70 : loC 70 = 0 := by decide
theorem hi70 : hiC 70 = 9999 := by decide
theorem it70 : itS x L 70 st = nmS x L 0 9999 st := by
  unfold itS
  rw [if_pos kk70, lo70, hi70]
theorem kk78 : kdC 78 = true := by decide
theorem lo78 : loC 78 = 1 := by decide
theorem hi78 : hiC 78 = 999 := by decide
theorem it78 : itS x L 78 st = nmS x L 1 999 st := by
  unfold itS
  rw [if_pos kk78, lo78, hi78]
theorem kk80 : kdC 80 = true := by decide
theorem lo80 : loC 80 = 0 := by decide
theorem hi80 : hiC 80 = 3 := by decide
theorem it80 : itS x L 80 st = nmS x L 0 3 st := by
  unfold itS
  rw [if_pos kk80, lo80, hi80]
theorem kk83 : kdC 83 = true := by decide
theorem lo83 : loC 83 = 0 := by decide
theorem hi83 : hiC 83 = 15 := by decide
theorem it83 : itS x L 83 st = nmS x L 0 15 st := by
  unfold itS
  rw [if_pos kk83, lo83, hi83]
theorem kk45 : ¬ kdC 45 = true := by decide
theorem it45 : itS x L 45 st = s1S x L 45 st := by
  unfold itS
  rw [if_neg kk45]
theorem kk64 : ¬ kdC 64 = true := by decide
theorem it64 : itS x L 64 st = s1S x L 64 st := by
  unfold itS
  rw [if_neg kk64]
theorem kk46 : ¬ kdC 46 = true := by decide
theorem it46 : itS x L 46 st = s1S x L 46 st := by
  unfold itS
  rw [if_neg kk46]
theorem kk58 : ¬ kdC 58 = true := by decide
theorem it58 : itS x L 58 st = s1S x L 58 st := by
  unfold itS
  rw [if_neg kk58]
theorem cF_0 : cF x L (frL 0) st = nmS x L 0 29 (s1S x L 45 (nmS x L 0 29 (s1S x L 64 (nmS x L 0 359 (s1S x L 45 (nmS x L 0 359 (st))))))) := by
  show cF x L [65,45,65,64,84,45,84] st = _
  simp only [cF, it45, it64, it65, it84]
theorem cV_00 : cV x L (frL 0) st 0 = nvS x L 0 359 (st) := by
  show cV x L [65,45,65,64,84,45,84] st 0 = _
  rw [cV, if_pos kk65, if_pos (by decide), lo65, hi65]
theorem cV_01 : cV x L (frL 0) st 1 = nvS x L 0 359 (s1S x L 45 (nmS x L 0 359 (st))) := by
  show cV x L [65,45,65,64,84,45,84] st 1 = _
  rw [cV, if_pos kk65, if_neg (by decide), cV, if_neg kk45, cV, if_pos kk65, if_pos (by decide), lo65, hi65]
  simp only [it45, it65]
theorem cV_02 : cV x L (frL 0) st 2 = nvS x L 0 29 (s1S x L 64 (nmS x L 0 359 (s1S x L 45 (nmS x L 0 359 (st))))) := by
  show cV x L [65,45,65,64,84,45,84] st 2 = _
  rw [cV, if_pos kk65, if_neg (by decide), cV, if_neg kk45, cV, if_pos kk65, if_neg (by decide), cV, if_neg kk64, cV, if_pos kk84, if_pos (by decide), lo84, hi84]
  simp only [it45, it64, it65]
theorem cV_03 : cV x L (frL 0) st 3 = nvS x L 0 29 (s1S x L 45 (nmS x L 0 29 (s1S x L 64 (nmS x L 0 359 (s1S x L 45 (nmS x L 0 359 (st))))))) := by
  show cV x L [65,45,65,64,84,45,84] st 3 = _
  rw [cV, if_pos kk65, if_neg (by decide), cV, if_neg kk45, cV, if_pos kk65, if_neg (by decide), cV, if_neg kk64, cV, if_pos kk84, if_neg (by decide), cV, if_neg kk45, cV, if_pos kk84, if_pos (by decide), lo84, hi84]
  simp only [it45, it64, it65, it84]
theorem cF_1 : cF x L (frL 1) st = nmS x L 0 9 (st) := by
  show cF x L [68] st = _
  simp only [cF, it68]
theorem cV_10 : cV x L (frL 1) st 0 = nvS x L 0 9 (st) := by
  show cV x L [68] st 0 = _
  rw [cV, if_pos kk68, if_pos (by decide), lo68, hi68]
theorem cF_2 : cF x L (frL 2) st = nmS x L 0 9999 (st) := by
  show cF x L [70] st = _
  simp only [cF, it70]
theorem cV_20 : cV x L (frL 2) st 0 = nvS x L 0 9999 (st) := by
  show cV x L [70] st 0 = _
  rw [cV, if_pos kk70, if_pos (by decide), lo70, hi70]
theorem cF_3 : cF x L (frL 3) st = nmS x L 1 999 (st) := by
  show cF x L [78] st = _
  simp only [cF, it78]
theorem cV_30 : cV x L (frL 3) st 0 = nvS x L 1 999 (st) := by
  show cV x L [78] st 0 = _
  rw [cV, if_pos kk78, if_pos (by decide), lo78, hi78]
theorem cF_4 : cF x L (frL 4) st = nmS x L 0 15 (s1S x L 58 (nmS x L 0 3 (s1S x L 46 (nmS x L 0 9999 (st))))) := by
  show cF x L [70,46,80,58,83] st = _
  simp only [cF, it46, it58, it70, it80, it83]
theorem cV_40 : cV x L (frL 4) st 0 = nvS x L 0 9999 (st) := by
  show cV x L [70,46,80,58,83] st 0 = _
  rw [cV, if_pos kk70, if_pos (by decide), lo70, hi70]
theorem cV_41 : cV x L (frL 4) st 1 = nvS x L 0 3 (s1S x L 46 (nmS x L 0 9999 (st))) := by
  show cV x L [70,46,80,58,83] st 1 = _
  rw [cV, if_pos kk70, if_neg (by decide), cV, if_neg kk46, cV, if_pos kk80, if_pos (by decide), lo80, hi80]
  simp only [it46, it70]
theorem cV_42 : cV x L (frL 4) st 2 = nvS x L 0 15 (s1S x L 58 (nmS x L 0 3 (s1S x L 46 (nmS x L 0 9999 (st))))) := by
  show cV x L [70,46,80,58,83] st 2 = _
  rw [cV, if_pos kk70, if_neg (by decide), cV, if_neg kk46, cV, if_pos kk80, if_neg (by decide), cV, if_neg kk58, cV, if_pos kk83, if_pos (by decide), lo83, hi83]
  simp only [it46, it58, it70, it80]
end
theorem c_word {h : HP} {x : Nat → Int32} {L p : Nat} (k : KTx h x L) (hp : p ≤ L) (e5 : h 59 5 = nI p) : ∃ q, f_X3_readWord h = some q ∧ ((q.1 = 0 ∧ q.2 = hset h 59 5 (nI (oM x L p).1) ∧ (oM x L p).2 = true) ∨ ∃ w p', w < 5 ∧ q.1 = nI (w + 1) ∧ p' ≤ L ∧ q.2 = hset h 59 5 (nI p') ∧ oM x L p = cF x L (frL w) (p', false) ∧ mO x L p = mOp w (cV x L (frL w) (p', false) 0) (cV x L (frL w) (p', false) 1) (cV x L (frL w) (p', false) 2) (cV x L (frL w) (p', false) 3)) := by
  have rw0 := c_readWord k hp e5
  have nx : ∀ (c : Int32) (q : Nat), (q < L ∧ x q = c → nxS x L c (q, false) = true) ∧ (¬ (q < L ∧ x q = c) → nxS x L c (q, false) = false) := fun c q => ⟨fun e => decide_eq_true ⟨rfl, e⟩, fun e => decide_eq_false (fun f => e f.2)⟩
  have s1 : ∀ (c : Int32) (q : Nat), (q < L ∧ x q = c → s1S x L c (q, false) = (q + 1, false)) ∧ (¬ (q < L ∧ x q = c) → s1S x L c (q, false) = (q, true)) := fun c q => ⟨fun e => by rw [s1S_eq, if_pos (show (q, false).2 = false ∧ (q, false).1 < L ∧ x (q, false).1 = c from ⟨rfl, e.1, e.2⟩)], fun e => by rw [s1S_eq, if_neg (show ¬ ((q, false).2 = false ∧ (q, false).1 < L ∧ x (q, false).1 = c) from fun f => e ⟨f.2.1, f.2.2⟩)]⟩
  have mt1 : ∀ (c : Int32) (l : List Int32) (q : Nat), (q < L ∧ x q = c → mtN x L (c :: l) q = mtN x L l (q + 1) + 1) ∧ (¬ (q < L ∧ x q = c) → mtN x L (c :: l) q = 0) := fun c l q => ⟨fun e => if_pos e, fun e => if_neg e⟩
  have diff : ∀ {q : Nat} {a b : Int32}, (q < L ∧ x q = a) → a ≠ b → ¬ (q < L ∧ x q = b) := fun h1 h2 h3 => h2 (h1.2.symm.trans h3.2)
  by_cases hA : p < L ∧ x p = 115
  · have m0 : mtN x L [115,99,114,97,116,99,104,61] p = mtN x L [99,114,97,116,99,104,61] (p + 1) + 1 := (mt1 _ _ _).1 hA
    have m1 : mtN x L [112,111,108,105,115,104,61] p = 0 := (mt1 _ _ _).2 (diff hA (by decide))
    have m2 : mtN x L [115,101,101,107,61] p = mtN x L [101,101,107,61] (p + 1) + 1 := (mt1 _ _ _).1 hA
    have m3 : mtN x L [112,108,97,121,61] p = 0 := (mt1 _ _ _).2 (diff hA (by decide))
    have m4 : mtN x L [112,114,101,115,115,61] p = 0 := (mt1 _ _ _).2 (diff hA (by decide))
    have ei : iS x L p = true := (nx _ _).1 hA
    have es : st1 x L p = (p + 1, false) := by
      unfold st1
      rw [if_pos ei]
      exact (s1 _ _).1 hA
    have eo : oM x L p = oS x L (p + 1, false) := by
      unfold oM
      rw [es, if_neg (show ¬ (p + 1, false).2 = true from fun e => Bool.noConfusion e), if_pos ei]
    have em : mO x L p = mS x L (p + 1, false) := by
      unfold mO
      rw [if_pos ei, es]
    rw [m0, m1, m2, m3, m4] at rw0
    by_cases h9 : p + 1 < L ∧ x (p + 1) = 99
    · have e2 : mtN x L [101,101,107,61] (p + 1) = 0 := (mt1 _ _ _).2 (diff h9 (by decide))
      have n9 : nxS x L 99 (p + 1, false) = true := (nx _ _).1 h9
      have hb := mtN_le (x := x) (L := L) [99,114,97,116,99,104,61] (p + 1) (by omega)
      have hb1 : mtN x L [99,114,97,116,99,104,61] (p + 1) ≤ 7 := hb.1
      have eq0 : qS0 x L (p + 1, false) = (p + 1 + mtN x L [99,114,97,116,99,104,61] (p + 1), decide (mtN x L [99,114,97,116,99,104,61] (p + 1) ≠ 7)) := chL_mt [99,114,97,116,99,104,61] (p + 1)
      have eo2 : oM x L p = cF x L (frL 0) (qS0 x L (p + 1, false)) := by
        rw [eo]
        unfold oS
        rw [if_pos n9]
        rfl
      rw [e2] at rw0
      generalize mtN x L [99,114,97,116,99,104,61] (p + 1) = m at *
      by_cases q : m = 7
      · subst q
        rw [if_pos rfl] at rw0
        have eq0 : qS0 x L (p + 1, false) = (p + 8, false) := eq0
        refine ⟨_, rw0, Or.inr ⟨0, p + 8, by decide, rfl, by omega, rfl, ?_, ?_⟩⟩
        · rw [eo2, eq0]
        · rw [em, cV_00, cV_01, cV_02, cV_03]
          unfold mS
          rw [if_pos n9]
          unfold qS3 qS2 qS1
          rw [eq0]
          rfl
      · rw [if_neg (by omega), if_neg (by decide), if_neg (by decide), if_neg (by decide), if_neg (by decide)] at rw0
        rw [decide_eq_true q] at eq0
        have eo3 : oM x L p = (p + 1 + m, true) := by rw [eo2, eq0, cF_w]
        refine ⟨_, rw0, Or.inl ⟨rfl, ?_, by rw [eo3]⟩⟩
        rw [eo3]
        show hset h 59 5 (nI (p + mx5 (m + 1) 0 (0 + 1) 0 0)) = hset h 59 5 (nI (p + 1 + m))
        have : p + mx5 (m + 1) 0 (0 + 1) 0 0 = p + 1 + m := by
          unfold mx5
          omega
        rw [this]
    · have e0 : mtN x L [99,114,97,116,99,104,61] (p + 1) = 0 := (mt1 _ _ _).2 h9
      have n9 : ¬ nxS x L 99 (p + 1, false) = true := by rw [(nx _ _).2 h9]; decide
      have hb := mtN_le (x := x) (L := L) [101,101,107,61] (p + 1) (by omega)
      have hb1 : mtN x L [101,101,107,61] (p + 1) ≤ 4 := hb.1
      have eq0 : qE0 x L (p + 1, false) = (p + 1 + mtN x L [101,101,107,61] (p + 1), decide (mtN x L [101,101,107,61] (p + 1) ≠ 4)) := chL_mt [101,101,107,61] (p + 1)
      have eo2 : oM x L p = cF x L (frL 2) (qE0 x L (p + 1, false)) := by
        rw [eo]
        unfold oS
        rw [if_neg n9]
        rfl
      rw [e0] at rw0
      generalize mtN x L [101,101,107,61] (p + 1) = m at *
      by_cases q : m = 4
      · subst q
        rw [if_neg (by decide), if_neg (by decide), if_pos rfl] at rw0
        have eq0 : qE0 x L (p + 1, false) = (p + 5, false) := eq0
        refine ⟨_, rw0, Or.inr ⟨2, p + 5, by decide, rfl, by omega, rfl, ?_, ?_⟩⟩
        · rw [eo2, eq0]
        · rw [em, cV_20]
          unfold mS
          rw [if_neg n9, eq0]
          rfl
      · rw [if_neg (by decide), if_neg (by decide), if_neg (by omega), if_neg (by decide), if_neg (by decide)] at rw0
        rw [decide_eq_true q] at eq0
        have eo3 : oM x L p = (p + 1 + m, true) := by rw [eo2, eq0, cF_w]
        refine ⟨_, rw0, Or.inl ⟨rfl, ?_, by rw [eo3]⟩⟩
        rw [eo3]
        show hset h 59 5 (nI (p + mx5 (0 + 1) 0 (m + 1) 0 0)) = hset h 59 5 (nI (p + 1 + m))
        have : p + mx5 (0 + 1) 0 (m + 1) 0 0 = p + 1 + m := by
          unfold mx5
          omega
        rw [this]
  · have ei : ¬ iS x L p = true := by
      have : iS x L p = false := (nx _ _).2 hA
      rw [this]
      decide
    have m0 : mtN x L [115,99,114,97,116,99,104,61] p = 0 := (mt1 _ _ _).2 hA
    have m2 : mtN x L [115,101,101,107,61] p = 0 := (mt1 _ _ _).2 hA
    by_cases hB : p < L ∧ x p = 112
    · have m1 : mtN x L [112,111,108,105,115,104,61] p = mtN x L [111,108,105,115,104,61] (p + 1) + 1 := (mt1 _ _ _).1 hB
      have m3 : mtN x L [112,108,97,121,61] p = mtN x L [108,97,121,61] (p + 1) + 1 := (mt1 _ _ _).1 hB
      have m4 : mtN x L [112,114,101,115,115,61] p = mtN x L [114,101,115,115,61] (p + 1) + 1 := (mt1 _ _ _).1 hB
      have es : st1 x L p = (p + 1, false) := by
        unfold st1
        rw [if_neg ei]
        exact (s1 _ _).1 hB
      have eo : oM x L p = oP x L (p + 1, false) := by
        unfold oM
        rw [es, if_neg (show ¬ (p + 1, false).2 = true from fun e => Bool.noConfusion e), if_neg ei]
      have em : mO x L p = mP x L (p + 1, false) := by
        unfold mO
        rw [if_neg ei, es]
      rw [m0, m1, m2, m3, m4] at rw0
      by_cases h1 : p + 1 < L ∧ x (p + 1) = 111
      · have e3 : mtN x L [108,97,121,61] (p + 1) = 0 := (mt1 _ _ _).2 (diff h1 (by decide))
        have e4 : mtN x L [114,101,115,115,61] (p + 1) = 0 := (mt1 _ _ _).2 (diff h1 (by decide))
        have n1 : nxS x L 111 (p + 1, false) = true := (nx _ _).1 h1
        have hb := mtN_le (x := x) (L := L) [111,108,105,115,104,61] (p + 1) (by omega)
        have hb1 : mtN x L [111,108,105,115,104,61] (p + 1) ≤ 6 := hb.1
        have eq0 : qO0 x L (p + 1, false) = (p + 1 + mtN x L [111,108,105,115,104,61] (p + 1), decide (mtN x L [111,108,105,115,104,61] (p + 1) ≠ 6)) := chL_mt [111,108,105,115,104,61] (p + 1)
        have eo2 : oM x L p = cF x L (frL 1) (qO0 x L (p + 1, false)) := by
          rw [eo, cF_1, nm_small (by decide)]
          unfold oP
          rw [if_pos n1]
          rfl
        rw [e3, e4] at rw0
        generalize mtN x L [111,108,105,115,104,61] (p + 1) = m at *
        by_cases q : m = 6
        · subst q
          rw [if_neg (by decide), if_pos rfl] at rw0
          have eq0 : qO0 x L (p + 1, false) = (p + 7, false) := eq0
          refine ⟨_, rw0, Or.inr ⟨1, p + 7, by decide, rfl, by omega, rfl, ?_, ?_⟩⟩
          · rw [eo2, eq0]
          · rw [em, cV_10, nv_small (by decide)]
            unfold mP
            rw [if_pos n1, eq0]
            rfl
        · rw [if_neg (by decide), if_neg (by omega), if_neg (by decide), if_neg (by decide), if_neg (by decide)] at rw0
          rw [decide_eq_true q] at eq0
          have eo3 : oM x L p = (p + 1 + m, true) := by rw [eo2, eq0, cF_w]
          refine ⟨_, rw0, Or.inl ⟨rfl, ?_, by rw [eo3]⟩⟩
          rw [eo3]
          show hset h 59 5 (nI (p + mx5 0 (m + 1) 0 (0 + 1) (0 + 1))) = hset h 59 5 (nI (p + 1 + m))
          have : p + mx5 0 (m + 1) 0 (0 + 1) (0 + 1) = p + 1 + m := by
            unfold mx5
            omega
          rw [this]
      · have e1 : mtN x L [111,108,105,115,104,61] (p + 1) = 0 := (mt1 _ _ _).2 h1
        have n1 : ¬ nxS x L 111 (p + 1, false) = true := by rw [(nx _ _).2 h1]; decide
        rw [e1] at rw0
        by_cases h8 : p + 1 < L ∧ x (p + 1) = 108
        · have e4 : mtN x L [114,101,115,115,61] (p + 1) = 0 := (mt1 _ _ _).2 (diff h8 (by decide))
          have n8 : nxS x L 108 (p + 1, false) = true := (nx _ _).1 h8
          have hb := mtN_le (x := x) (L := L) [108,97,121,61] (p + 1) (by omega)
          have hb1 : mtN x L [108,97,121,61] (p + 1) ≤ 4 := hb.1
          have eq0 : qL0 x L (p + 1, false) = (p + 1 + mtN x L [108,97,121,61] (p + 1), decide (mtN x L [108,97,121,61] (p + 1) ≠ 4)) := chL_mt [108,97,121,61] (p + 1)
          have eo2 : oM x L p = cF x L (frL 3) (qL0 x L (p + 1, false)) := by
            rw [eo, cF_3]
            unfold oP
            rw [if_neg n1, if_pos n8]
          rw [e4] at rw0
          generalize mtN x L [108,97,121,61] (p + 1) = m at *
          by_cases q : m = 4
          · subst q
            rw [if_neg (by decide), if_neg (by decide), if_neg (by decide), if_pos rfl] at rw0
            have eq0 : qL0 x L (p + 1, false) = (p + 5, false) := eq0
            refine ⟨_, rw0, Or.inr ⟨3, p + 5, by decide, rfl, by omega, rfl, ?_, ?_⟩⟩
            · rw [eo2, eq0]
            · rw [em, cV_30]
              unfold mP
              rw [if_neg n1, if_pos n8, eq0]
              rfl
          · rw [if_neg (by decide), if_neg (by decide), if_neg (by decide), if_neg (by omega), if_neg (by decide)] at rw0
            rw [decide_eq_true q] at eq0
            have eo3 : oM x L p = (p + 1 + m, true) := by rw [eo2, eq0, cF_w]
            refine ⟨_, rw0, Or.inl ⟨rfl, ?_, by rw [eo3]⟩⟩
            rw [eo3]
            show hset h 59 5 (nI (p + mx5 0 (0 + 1) 0 (m + 1) (0 + 1))) = hset h 59 5 (nI (p + 1 + m))
            have : p + mx5 0 (0 + 1) 0 (m + 1) (0 + 1) = p + 1 + m := by
              unfold mx5
              omega
            rw [this]
        · have e3 : mtN x L [108,97,121,61] (p + 1) = 0 := (mt1 _ _ _).2 h8
          have n8 : ¬ nxS x L 108 (p + 1, false) = true := by rw [(nx _ _).2 h8]; decide
          have hb := mtN_le (x := x) (L := L) [114,101,115,115,61] (p + 1) (by omega)
          have hb1 : mtN x L [114,101,115,115,61] (p + 1) ≤ 5 := hb.1
          have eq0 : qR0 x L (p + 1, false) = (p + 1 + mtN x L [114,101,115,115,61] (p + 1), decide (mtN x L [114,101,115,115,61] (p + 1) ≠ 5)) := chL_mt [114,101,115,115,61] (p + 1)
          have eo2 : oM x L p = cF x L (frL 4) (qR0 x L (p + 1, false)) := by
            rw [eo, cF_4, nm_small (hi := 3) (by decide)]
            unfold oP
            rw [if_neg n1, if_neg n8]
            rfl
          rw [e3] at rw0
          generalize mtN x L [114,101,115,115,61] (p + 1) = m at *
          by_cases q : m = 5
          · subst q
            rw [if_neg (by decide), if_neg (by decide), if_neg (by decide), if_neg (by decide), if_pos rfl] at rw0
            have eq0 : qR0 x L (p + 1, false) = (p + 6, false) := eq0
            refine ⟨_, rw0, Or.inr ⟨4, p + 6, by decide, rfl, by omega, rfl, ?_, ?_⟩⟩
            · rw [eo2, eq0]
            · rw [em, cV_40, cV_41, cV_42, nv_small (hi := 3) (by decide), nm_small (hi := 3) (by decide)]
              unfold mP
              rw [if_neg n1, if_neg n8]
              unfold qR2 qR1
              rw [eq0]
              rfl
          · rw [if_neg (by decide), if_neg (by decide), if_neg (by decide), if_neg (by decide), if_neg (by omega)] at rw0
            rw [decide_eq_true q] at eq0
            have eo3 : oM x L p = (p + 1 + m, true) := by rw [eo2, eq0, cF_w]
            refine ⟨_, rw0, Or.inl ⟨rfl, ?_, by rw [eo3]⟩⟩
            rw [eo3]
            show hset h 59 5 (nI (p + mx5 0 (0 + 1) 0 (0 + 1) (m + 1))) = hset h 59 5 (nI (p + 1 + m))
            have : p + mx5 0 (0 + 1) 0 (0 + 1) (m + 1) = p + 1 + m := by
              unfold mx5
              omega
            rw [this]
    · have m1 : mtN x L [112,111,108,105,115,104,61] p = 0 := (mt1 _ _ _).2 hB
      have m3 : mtN x L [112,108,97,121,61] p = 0 := (mt1 _ _ _).2 hB
      have m4 : mtN x L [112,114,101,115,115,61] p = 0 := (mt1 _ _ _).2 hB
      have es : st1 x L p = (p, true) := by
        unfold st1
        rw [if_neg ei]
        exact (s1 _ _).2 hB
      have eo : oM x L p = (p, true) := by
        unfold oM
        rw [es, if_pos rfl]
      rw [m0, m1, m2, m3, m4, if_neg (by decide), if_neg (by decide), if_neg (by decide), if_neg (by decide), if_neg (by decide)] at rw0
      refine ⟨_, rw0, Or.inl ⟨rfl, ?_, by rw [eo]⟩⟩
      rw [eo]
      rfl
