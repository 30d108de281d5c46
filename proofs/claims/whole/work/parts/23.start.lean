/-! the law's entry: what the tables and the start give -/
theorem ins_X1 : Cond.instantiable RX1 6 ∈ BIG := big_in (List.mem_of_getElem? (i := 167) (by decide +kernel)) (by decide +kernel)
theorem ins_X2 : Cond.instantiable RX2 2 ∈ BIG := big_in (List.mem_of_getElem? (i := 217) (by decide +kernel)) (by decide +kernel)
theorem ins_X3 : Cond.instantiable RX3 6 ∈ BIG := big_in (List.mem_of_getElem? (i := 234) (by decide +kernel)) (by decide +kernel)
theorem ins_X4 : Cond.instantiable RX4 2 ∈ BIG := big_in (List.mem_of_getElem? (i := 134) (by decide +kernel)) (by decide +kernel)
theorem ins_X5 : Cond.instantiable RX5 6 ∈ BIG := big_in (List.mem_of_getElem? (i := 105) (by decide +kernel)) (by decide +kernel)
theorem ins_X6 : Cond.instantiable RX6 4 ∈ BIG := big_in (List.mem_of_getElem? (i := 99) (by decide +kernel)) (by decide +kernel)
theorem ins_X7 : Cond.instantiable RX7 4 ∈ BIG := big_in (List.mem_of_getElem? (i := 264) (by decide +kernel)) (by decide +kernel)
theorem ins_X8 : Cond.instantiable RX8 3 ∈ BIG := big_in (List.mem_of_getElem? (i := 150) (by decide +kernel)) (by decide +kernel)
theorem ins_X10 : Cond.instantiable RX10 8 ∈ BIG := big_in (List.mem_of_getElem? (i := 91) (by decide +kernel)) (by decide +kernel)
theorem ins_X11 : Cond.instantiable RX11 11 ∈ BIG := big_in (List.mem_of_getElem? (i := 870) (by decide +kernel)) (by decide +kernel)
theorem inz_X10 : Cond.initialized RX10 ∈ BIG := big_in (List.mem_of_getElem? (i := 70) (by decide +kernel)) (by decide +kernel)
theorem inz_X11 : Cond.initialized RX11 ∈ BIG := big_in (List.mem_of_getElem? (i := 79) (by decide +kernel)) (by decide +kernel)
theorem cl_10 : Cond.classLink RL 7 RX10 ∈ BIG := big_in (List.mem_of_getElem? (i := 90) (by decide +kernel)) (by decide +kernel)
theorem cl_11 : Cond.classLink RL 10 RX11 ∈ BIG := big_in (List.mem_of_getElem? (i := 869) (by decide +kernel)) (by decide +kernel)
theorem ml_10 : Cond.methodLink RL 9 yX10_init ∈ BIG := big_in (List.mem_of_getElem? (i := 92) (by decide +kernel)) (by decide +kernel)
theorem ml_11 : Cond.methodLink RL 12 yX11_init ∈ BIG := big_in (List.mem_of_getElem? (i := 871) (by decide +kernel)) (by decide +kernel)
theorem ls_W : Cond.laysStatic "LineDisc" "WORDS" "[LLineDisc$Word;" ∈ lw_tbl := List.mem_of_getElem? (i := 626) (by decide +kernel)
theorem ls_S : Cond.laysStatic "LineDisc$1" "$SwitchMap$LineDisc$Word" "[I" ∈ lw_tbl := List.mem_of_getElem? (i := 724) (by decide +kernel)
theorem ls_C : Cond.laysStatic "java/lang/String" "COMPACT_STRINGS" "Z" ∈ lw_tbl := List.mem_of_getElem? (i := 640) (by decide +kernel)
theorem ls_P : Cond.laysStatic "jdk/internal/util/Preconditions" "SIOOBE_FORMATTER" "Ljava/util/function/BiFunction;" ∈ lw_tbl := List.mem_of_getElem? (i := 656) (by decide +kernel)
theorem it_W : Cond.initialized "LineDisc" ∈ lw_tbl := List.mem_of_getElem? (i := 70) (by decide +kernel)
theorem it_S : Cond.initialized "LineDisc$1" ∈ lw_tbl := List.mem_of_getElem? (i := 89) (by decide +kernel)
theorem it_C : Cond.initialized "java/lang/String" ∈ lw_tbl := List.mem_of_getElem? (i := 83) (by decide +kernel)
theorem it_P : Cond.initialized "jdk/internal/util/Preconditions" ∈ lw_tbl := List.mem_of_getElem? (i := 85) (by decide +kernel)
theorem ao_State : Cond.arrayOver (.object "LineDisc$State") ∈ lw_tbl := List.mem_of_getElem? (i := 223) (by decide +kernel)
theorem ao_Word : Cond.arrayOver (.object "LineDisc$Word") ∈ lw_tbl := List.mem_of_getElem? (i := 240) (by decide +kernel)
def nmW : List String := ["SCRATCH", "POLISH", "SEEK", "PLAY", "PRESS"]
def cpS : List Nat := [48, 56, 61, 66, 71, 50, 58, 63, 68, 73]
abbrev tmS (i : Nat) : Term := .string "LineDisc$Word" (cpS.getD i 0)
abbrev tmV (i : Nat) : Term := .field (tmS i) "java/lang/String" "value" "[B"
abbrev tmW (i : Nat) : Term := .static "LineDisc$Word" (nmW.getD i "") "LLineDisc$Word;"
abbrev tmA : Term := .static "LineDisc" "WORDS" "[LLineDisc$Word;"
abbrev tmM : Term := .static "LineDisc$1" "$SwitchMap$LineDisc$Word" "[I"
def FL : List Cond := flatC (Jvm.Cond.and given_1 narrow_1)
theorem sf_1 : ∀ i, i < 10 → Cond.exactly (tmS i) "java/lang/String" ∈ FL := by decide +kernel
theorem sf_2 : ∀ i, i < 10 → Cond.eq (.field (tmS i) "java/lang/String" "coder" "B") (.int 0) ∈ FL := by decide +kernel
theorem sf_3 : ∀ i, i < 10 → Cond.arrayOf (tmV i) .byte ∈ FL := by decide +kernel
theorem sf_4 : ∀ i, i < 10 → Cond.eq (.length (tmV i)) (.int (Int32.ofNat (lenL.getD i 0))) ∈ FL := by decide +kernel
theorem sf_5 : ∀ i, i < 10 → ∀ j, j < lenL.getD i 0 → Cond.eq (.elem (tmV i) (.int (Int32.ofNat j))) (.int ((strL.getD i []).getD j 0)) ∈ FL := by decide +kernel
theorem sf_6 : ∀ i, i < 10 → ∀ j, j < 10 → i ≠ j → Cond.not (.eq (tmS i) (tmS j)) ∈ FL ∨ Cond.not (.eq (tmS j) (tmS i)) ∈ FL := by decide +kernel
theorem sf_7 : ∀ i, i < 5 → Cond.exactly (tmW i) "LineDisc$Word" ∈ FL := by decide +kernel
theorem sf_8 : ∀ i, i < 5 → Cond.eq (.field (tmW i) "java/lang/Enum" "ordinal" "I") (.int (Int32.ofNat i)) ∈ FL := by decide +kernel
theorem sf_9 : ∀ i, i < 5 → Cond.eq (.field (tmW i) "LineDisc$Word" "letters" "Ljava/lang/String;") (tmS i) ∈ FL := by decide +kernel
theorem sf_10 : ∀ i, i < 5 → Cond.eq (.field (tmW i) "LineDisc$Word" "form" "Ljava/lang/String;") (tmS (5 + i)) ∈ FL := by decide +kernel
theorem sf_11 : Cond.arrayOf tmA (.object "LineDisc$Word") ∈ FL := by decide +kernel
theorem sf_12 : Cond.eq (.length tmA) (.int 5) ∈ FL := by decide +kernel
theorem sf_13 : ∀ i, i < 5 → Cond.eq (.elem tmA (.int (Int32.ofNat i))) (tmW i) ∈ FL := by decide +kernel
theorem sf_14 : Cond.arrayOf tmM .int ∈ FL := by decide +kernel
theorem sf_15 : Cond.eq (.length tmM) (.int 5) ∈ FL := by decide +kernel
theorem sf_16 : ∀ i, i < 5 → Cond.eq (.elem tmM (.int (Int32.ofNat i))) (.int (Int32.ofNat (i + 1))) ∈ FL := by decide +kernel
theorem sf_17 : Cond.eq (.static "java/lang/String" "COMPACT_STRINGS" "Z") (.int 1) ∈ FL := by decide +kernel
theorem sf_18 : Cond.isRef (.static "jdk/internal/util/Preconditions" "SIOOBE_FORMATTER" "Ljava/util/function/BiFunction;") ∈ FL := by decide +kernel
/-- what stands from the start -/
theorem st_facts {args : Array Value} {s : State} (hs : ∀ c ∈ FL, c.before args s = true) (hts : ∀ w ∈ lw_tbl, w.before args s = true) : ∃ gA : Nat → Nat, ∀ (D : va_G) (gC : Nat → ClassId) (N : Nat), ST (D, s.heap.size, gC, N, gA) s s.heap := by
  have hA : ∀ a : Nat, a < s.heap.size → ¬ (fun q : Nat => s.heap.size ≤ q) a := fun a h => Nat.not_le.mpr h
  obtain ⟨sK, sV, hSS, hSe⟩ := vk_Sof (args := args) (s := s) (N := 10) (tm := tmS) (len := lenL) (byt := strL) (A := fun q : Nat => s.heap.size ≤ q) len_ok (fun i hi => hs _ (sf_1 i hi)) (fun i hi => hs _ (sf_2 i hi)) (fun i hi => hs _ (sf_3 i hi)) (fun i hi => hs _ (sf_4 i hi)) (fun i hi j hj => hs _ (sf_5 i hi j hj)) (fun i j hi hj hij => (sf_6 i hi j hj hij).elim (fun h => Or.inl (hs _ h)) (fun h => Or.inr (hs _ h))) hA
  have h0 : ∀ i : Nat, ∃ t : Nat, i < 5 → (tmW i).eval args s none [] s = some (.ref t) ∧ va_O "LineDisc$Word" t (fun q : Nat => s.heap.size ≤ q) s s.heap := by
    intro i
    by_cases hi : i < 5
    · obtain ⟨a, c, cell, k, q1, q2, q3, q4, q5, q6, -⟩ := Cond.exactly_spec (args := args) (first := s) (o := none) (s := s) (idx := []) (t := tmW i) (cls := "LineDisc$Word") (hs _ (sf_7 i hi))
      exact ⟨a, fun _ => ⟨q1, cell, q3, q5, by rw [q6]; exact q2, hA a (Array.getElem?_eq_some_iff.mp q3).1⟩⟩
    · exact ⟨0, fun h => absurd h hi⟩
  obtain ⟨wA, hwA⟩ := Classical.axiomOfChoice h0
  obtain ⟨tW, hW1, hW2⟩ := va_Tof (N := 5) (f := fun i => .ref (wA i)) (A := fun q : Nat => s.heap.size ≤ q) (by decide) (hs _ sf_11) (va_eqt (hs _ sf_12)) (fun j hj => va_eqv (hs _ (sf_13 j hj)) (hwA j hj).1) hA
  obtain ⟨tS, hS1, hS2⟩ := va_Tof (N := 5) (f := fun i => .int (nI (i + 1))) (A := fun q : Nat => s.heap.size ≤ q) (by decide) (hs _ sf_14) (va_eqt (hs _ sf_15)) (fun j hj => va_eqt (hs _ (sf_16 j hj))) hA
  refine ⟨fun k => if k = 0 then tW else if k = 1 then tS else if k < 20 then wA (k - 11) else if k < 30 then sK (k - 20) else sV (k - 30), fun D gC N => ?_⟩
  have e1 : ∀ i, i < 5 → (if 11 + i = 0 then tW else if 11 + i = 1 then tS else if 11 + i < 20 then wA (11 + i - 11) else if 11 + i < 30 then sK (11 + i - 20) else sV (11 + i - 30)) = wA i := by
    intro i hi
    rw [if_neg (by omega), if_neg (by omega), if_pos (by omega), show 11 + i - 11 = i by omega]
  have e2 : ∀ i, i < 10 → (if 20 + i = 0 then tW else if 20 + i = 1 then tS else if 20 + i < 20 then wA (20 + i - 11) else if 20 + i < 30 then sK (20 + i - 20) else sV (20 + i - 30)) = sK i := by
    intro i hi
    rw [if_neg (by omega), if_neg (by omega), if_neg (by omega), if_pos (by omega), show 20 + i - 20 = i by omega]
  have e3 : ∀ i, (if 30 + i = 0 then tW else if 30 + i = 1 then tS else if 30 + i < 20 then wA (30 + i - 11) else if 30 + i < 30 then sK (30 + i - 20) else sV (30 + i - 30)) = sV i := by
    intro i
    rw [if_neg (by omega), if_neg (by omega), if_neg (by omega), if_neg (by omega), show 30 + i - 30 = i by omega]
  refine ⟨va_Zref (hts _ ls_W) (hts _ it_W) hW1 hA, ?_, va_Zref (hts _ ls_S) (hts _ it_S) hS1 hA, hS2, ?_, ?_, ?_, ?_, ?_, va_Zof (hts _ ls_C) (hts _ it_C) (va_eqi (hs _ sf_17)) hA, va_Zqof (hts _ ls_P) (hts _ it_P) (hs _ sf_18) hA⟩
  · obtain ⟨cell, g1, g2, g3, g4, g5, g6, g7⟩ := hW2
    exact ⟨cell, g1, g2, g3, g4, g5, fun j hj => by rw [g6 j hj]; exact congrArg (fun x => some (Value.ref x)) (e1 j hj).symm, g7⟩
  · intro i hi
    have h := va_Efof (args := args) (s := s) (N := 5) (E := "LineDisc$Word") (d0 := "LLineDisc$Word;") (o := "java/lang/Enum") (n := "ordinal") (d := "I") (nm := nmW) (v := fun i => .int (nI i)) (tm := fun i => .int (Int32.ofNat i)) (ad := wA) (A := fun q : Nat => s.heap.size ≤ q) (fun i hi => (hwA i hi).1) (fun i hi => hs _ (sf_8 i hi)) (fun i hi => rfl) hA i hi
    show va_OF _ _ _ _ (if 11 + i = 0 then tW else if 11 + i = 1 then tS else if 11 + i < 20 then wA (11 + i - 11) else if 11 + i < 30 then sK (11 + i - 20) else sV (11 + i - 30)) _ _ _
    rw [e1 i hi]
    exact h
  · intro i hi
    have h := va_Efof (args := args) (s := s) (N := 5) (E := "LineDisc$Word") (d0 := "LLineDisc$Word;") (o := "LineDisc$Word") (n := "letters") (d := "Ljava/lang/String;") (nm := nmW) (v := fun i => .ref (sK i)) (tm := tmS) (ad := wA) (A := fun q : Nat => s.heap.size ≤ q) (fun i hi => (hwA i hi).1) (fun i hi => hs _ (sf_9 i hi)) (fun i hi => hSe i (by omega)) hA i hi
    show va_OF _ _ _ (.ref (if 20 + i = 0 then tW else if 20 + i = 1 then tS else if 20 + i < 20 then wA (20 + i - 11) else if 20 + i < 30 then sK (20 + i - 20) else sV (20 + i - 30))) (if 11 + i = 0 then tW else if 11 + i = 1 then tS else if 11 + i < 20 then wA (11 + i - 11) else if 11 + i < 30 then sK (11 + i - 20) else sV (11 + i - 30)) _ _ _
    rw [e1 i hi, e2 i (by omega)]
    exact h
  · intro i hi
    have h := va_Efof (args := args) (s := s) (N := 5) (E := "LineDisc$Word") (d0 := "LLineDisc$Word;") (o := "LineDisc$Word") (n := "form") (d := "Ljava/lang/String;") (nm := nmW) (v := fun i => .ref (sK (5 + i))) (tm := fun i => tmS (5 + i)) (ad := wA) (A := fun q : Nat => s.heap.size ≤ q) (fun i hi => (hwA i hi).1) (fun i hi => hs _ (sf_10 i hi)) (fun i hi => hSe (5 + i) (by omega)) hA i hi
    show va_OF _ _ _ (.ref (if 20 + (5 + i) = 0 then tW else if 20 + (5 + i) = 1 then tS else if 20 + (5 + i) < 20 then wA (20 + (5 + i) - 11) else if 20 + (5 + i) < 30 then sK (20 + (5 + i) - 20) else sV (20 + (5 + i) - 30))) (if 11 + i = 0 then tW else if 11 + i = 1 then tS else if 11 + i < 20 then wA (11 + i - 11) else if 11 + i < 30 then sK (11 + i - 20) else sV (11 + i - 30)) _ _ _
    rw [e1 i hi, e2 (5 + i) (by omega)]
    exact h
  · intro i hi
    show va_O _ (if 11 + i = 0 then tW else if 11 + i = 1 then tS else if 11 + i < 20 then wA (11 + i - 11) else if 11 + i < 30 then sK (11 + i - 20) else sV (11 + i - 30)) _ _ _
    rw [e1 i hi]
    exact (hwA i hi).2
  · refine ⟨fun i hi => ?_, fun i j hi hj e => ?_⟩
    · have h := hSS.1 i hi
      show va_O _ (if 20 + i = 0 then tW else if 20 + i = 1 then tS else if 20 + i < 20 then wA (20 + i - 11) else if 20 + i < 30 then sK (20 + i - 20) else sV (20 + i - 30)) _ _ _ ∧ va_OF _ _ _ _ (if 20 + i = 0 then tW else if 20 + i = 1 then tS else if 20 + i < 20 then wA (20 + i - 11) else if 20 + i < 30 then sK (20 + i - 20) else sV (20 + i - 30)) _ _ _ ∧ va_OF _ _ _ (.ref (if 30 + i = 0 then tW else if 30 + i = 1 then tS else if 30 + i < 20 then wA (30 + i - 11) else if 30 + i < 30 then sK (30 + i - 20) else sV (30 + i - 30))) (if 20 + i = 0 then tW else if 20 + i = 1 then tS else if 20 + i < 20 then wA (20 + i - 11) else if 20 + i < 30 then sK (20 + i - 20) else sV (20 + i - 30)) _ _ _ ∧ va_T _ (if 30 + i = 0 then tW else if 30 + i = 1 then tS else if 30 + i < 20 then wA (30 + i - 11) else if 30 + i < 30 then sK (30 + i - 20) else sV (30 + i - 30)) _ _ _ _ _
      rw [e2 i hi, e3 i]
      exact h
    · refine hSS.2 i j hi hj ?_
      have e' : (if 20 + i = 0 then tW else if 20 + i = 1 then tS else if 20 + i < 20 then wA (20 + i - 11) else if 20 + i < 30 then sK (20 + i - 20) else sV (20 + i - 30)) = (if 20 + j = 0 then tW else if 20 + j = 1 then tS else if 20 + j < 20 then wA (20 + j - 11) else if 20 + j < 30 then sK (20 + j - 20) else sV (20 + j - 30)) := e
      rw [e2 i hi, e2 j hj] at e'
      exact e'
theorem ns_start {args : Array Value} {s : State} (hts : ∀ w ∈ lw_tbl, w.before args s = true) : NS s := by
  refine ⟨fun w hw hn => ?_, va_AO.of (hts _ ao_State), va_AO.of (hts _ ao_Word)⟩
  have h1 := hts w hw
  cases w with
  | methodLinkNest a i x b => exact va_Nw.of rfl h1
  | fieldLinkNest a i b n d c => exact va_Nw.of rfl h1
  | _ => simp [isNest] at hn
theorem k_start {args : Array Value} {s : State} (hts : ∀ w ∈ lw_tbl, w.before args s = true) : ∃ (D : va_G) (gC : Nat → ClassId), ∀ (B N : Nat) (gA : Nat → Nat), va_K D vwCl (tyG (D, B, gC, N, gA)) s := by
  have hb : ∀ w ∈ BIG, w.before args s = true := fun w hw => hts w (List.mem_filter.mp hw).1
  have one : ∀ c : Nat, ∃ z : ClassId × (Nat → Nat), ∀ q : vw_C, vwCl[c]? = some q → u_Kn s q.1 q.2.1 q.2.2 z.1 z.2 := by
    intro c
    match c with
    | 0 =>
      obtain ⟨cC, iS, h⟩ := u_known (C := RX1) (T := TX1) (N := 6) (n := 6) hb inX1 (hb _ ins_X1)
      exact ⟨(cC, iS), fun q hq => by cases hq; exact h⟩
    | 1 =>
      obtain ⟨cC, iS, h⟩ := u_known (C := RX2) (T := TX2) (N := 2) (n := 2) hb inX2 (hb _ ins_X2)
      exact ⟨(cC, iS), fun q hq => by cases hq; exact h⟩
    | 2 =>
      obtain ⟨cC, iS, h⟩ := u_known (C := RX3) (T := TX3) (N := 6) (n := 6) hb inX3 (hb _ ins_X3)
      exact ⟨(cC, iS), fun q hq => by cases hq; exact h⟩
    | 3 =>
      obtain ⟨cC, iS, h⟩ := u_known (C := RX4) (T := TX4) (N := 2) (n := 2) hb inX4 (hb _ ins_X4)
      exact ⟨(cC, iS), fun q hq => by cases hq; exact h⟩
    | 4 =>
      obtain ⟨cC, iS, h⟩ := u_known (C := RX5) (T := TX5) (N := 6) (n := 6) hb inX5 (hb _ ins_X5)
      exact ⟨(cC, iS), fun q hq => by cases hq; exact h⟩
    | 5 =>
      obtain ⟨cC, iS, h⟩ := u_known (C := RX6) (T := TX6) (N := 4) (n := 4) hb inX6 (hb _ ins_X6)
      exact ⟨(cC, iS), fun q hq => by cases hq; exact h⟩
    | 6 =>
      obtain ⟨cC, iS, h⟩ := u_known (C := RX7) (T := TX7) (N := 4) (n := 4) hb inX7 (hb _ ins_X7)
      exact ⟨(cC, iS), fun q hq => by cases hq; exact h⟩
    | 7 =>
      obtain ⟨cC, iS, h⟩ := u_known (C := RX8) (T := TX8) (N := 3) (n := 3) hb inX8 (hb _ ins_X8)
      exact ⟨(cC, iS), fun q hq => by cases hq; exact h⟩
    | 8 =>
      obtain ⟨cC, iS, h⟩ := u_known (C := RX10) (T := TX10) (N := 8) (n := 8) hb inX10 (hb _ ins_X10)
      exact ⟨(cC, iS), fun q hq => by cases hq; exact h⟩
    | 9 =>
      obtain ⟨cC, iS, h⟩ := u_known (C := RX11) (T := TX11) (N := 11) (n := 11) hb inX11 (hb _ ins_X11)
      exact ⟨(cC, iS), fun q hq => by cases hq; exact h⟩
    | k + 10 => exact ⟨(0, fun _ => 0), fun q hq => by simp [vwCl] at hq⟩
  obtain ⟨z, hz⟩ := Classical.axiomOfChoice one
  obtain ⟨cI, kI, pI, i1, i2, i3⟩ := Cond.arrayClass_spec (args := args) (first := s) (o := none) (s := s) (idx := []) (type := .int) (hb _ aw_int)
  obtain ⟨cC, kC, pC, c1, c2, c3⟩ := Cond.arrayClass_spec (args := args) (first := s) (o := none) (s := s) (idx := []) (type := .char) (hb _ aw_char)
  obtain ⟨cZ, kZ, pZ, z1, z2, z3⟩ := Cond.arrayClass_spec (args := args) (first := s) (o := none) (s := s) (idx := []) (type := .boolean) (hb _ aw_boolean)
  obtain ⟨pS, cS, kS, s1, s2, s3, s4, s5⟩ := Cond.arrayOver_spec (args := args) (first := s) (o := none) (idx := []) (n := "LineDisc$State") (hts _ ao_State)
  obtain ⟨pW, cW, kW, w1, w2, w3, w4, w5⟩ := Cond.arrayOver_spec (args := args) (first := s) (o := none) (idx := []) (n := "LineDisc$Word") (hts _ ao_Word)
  refine ⟨(fun c => (z c).1, fun c => (z c).2), fun k => if k = 10 then cI else if k = 11 then cC else if k = 12 then cZ else if k = 13 then cS else cW, fun B N gA => ⟨fun c q hq => hz c q hq, fun k q hq => ?_⟩⟩
  match k, hq with
  | 0, hq => cases hq; exact ⟨fun n f => ⟨fun k h => (by cases h), kI, i2, pI, i3⟩, i1⟩
  | 1, hq => cases hq; exact ⟨fun n f => ⟨fun k h => (by cases h), kC, c2, pC, c3⟩, c1⟩
  | 2, hq => cases hq; exact ⟨fun n f => ⟨fun k h => (by cases h), kZ, z2, pZ, z3⟩, z1⟩
  | 3, hq => cases hq; exact ⟨fun n f => ⟨fun k h => (by cases h), kS, s3, pS, s4⟩, kS, pS, s3, s4, s1, s5⟩
  | 4, hq => cases hq; exact ⟨fun n f => ⟨fun k h => (by cases h), kW, w3, pW, w4⟩, kW, pW, w3, w4, w1, w5⟩
  | k + 5, hq => simp [tyG] at hq
/-- the heap behind the two constructors -/
def h00 : HP := hc_X11 (hc_X10 (fun _ _ => 0))
theorem g_end : ∀ o, o < 77 → ∀ k, k < nf (kd o) → off (kd o) k ≠ 0 → k < (gc_X11 (gc_X10 (fun _ => 0))) o := by decide +kernel
theorem wl_end {G : GM} {h : HP} : wl G 77 (gc_X11 (gc_X10 (fun _ => 0))) h = wl G 77 gF h := by
  refine List.map_congr_left fun o ho => ?_
  have ho := List.mem_range.mp ho
  by_cases hk : kd o < 10
  · rw [ent, ent, if_pos hk, if_pos hk]
    have e : (List.range (nf (kd o))).map (fv G (gc_X11 (gc_X10 (fun _ => 0))) h o) = (List.range (nf (kd o))).map (fv G gF h o) := by
      refine List.map_congr_left fun k hk2 => ?_
      have hk2 := List.mem_range.mp hk2
      by_cases h0 : off (kd o) k = 0
      · simp [fv, h0]
      · have h1 := g_end o ho k hk2 h0
        have h2 : k < gF o := by
          have : nf (kd o) ≤ 11 := (show ∀ c, c < 10 → nf c ≤ 11 by decide) _ hk
          show k < 99
          omega
        simp [fv, h0, h1, h2]
    rw [e]
  · simp [ent, hk]

