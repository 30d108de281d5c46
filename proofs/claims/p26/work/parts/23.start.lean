/-! the law's entry: what the tables and the start give -/
theorem ins_X1 : Cond.instantiable RX1 6 ∈ BIG := big_in (List.mem_of_getElem? (i := 113) (by decide +kernel)) (by decide +kernel)
theorem ins_X2 : Cond.instantiable RX2 2 ∈ BIG := big_in (List.mem_of_getElem? (i := 163) (by decide +kernel)) (by decide +kernel)
theorem ins_X3 : Cond.instantiable RX3 6 ∈ BIG := big_in (List.mem_of_getElem? (i := 180) (by decide +kernel)) (by decide +kernel)
theorem ins_X4 : Cond.instantiable RX4 2 ∈ BIG := big_in (List.mem_of_getElem? (i := 80) (by decide +kernel)) (by decide +kernel)
theorem ins_X5 : Cond.instantiable RX5 6 ∈ BIG := big_in (List.mem_of_getElem? (i := 51) (by decide +kernel)) (by decide +kernel)
theorem ins_X6 : Cond.instantiable RX6 4 ∈ BIG := big_in (List.mem_of_getElem? (i := 45) (by decide +kernel)) (by decide +kernel)
theorem ins_X7 : Cond.instantiable RX7 4 ∈ BIG := big_in (List.mem_of_getElem? (i := 209) (by decide +kernel)) (by decide +kernel)
theorem ins_X8 : Cond.instantiable RX8 3 ∈ BIG := big_in (List.mem_of_getElem? (i := 96) (by decide +kernel)) (by decide +kernel)
theorem ins_X10 : Cond.instantiable RX10 8 ∈ BIG := big_in (List.mem_of_getElem? (i := 37) (by decide +kernel)) (by decide +kernel)
theorem inz_X10 : Cond.initialized RX10 ∈ BIG := big_in (List.mem_of_getElem? (i := 24) (by decide +kernel)) (by decide +kernel)
theorem cl_10 : Cond.classLink RL 9 RX10 ∈ BIG := big_in (List.mem_of_getElem? (i := 36) (by decide +kernel)) (by decide +kernel)
theorem ml_10 : Cond.methodLink RL 73 yX10_init ∈ BIG := big_in (List.mem_of_getElem? (i := 38) (by decide +kernel)) (by decide +kernel)
theorem ao_State : Cond.arrayOver (.object "LineDisc$State") ∈ lw_tbl := List.mem_of_getElem? (i := 169) (by decide +kernel)
theorem ao_Word : Cond.arrayOver (.object "LineDisc$Word") ∈ lw_tbl := List.mem_of_getElem? (i := 186) (by decide +kernel)
def FL : List Cond := flatC (Jvm.Cond.and given_1 narrow_1)
theorem st_facts {s : State} : ∃ gA : Nat → Nat, ∀ (D : va_G) (gC : Nat → ClassId) (N : Nat), ST (D, s.heap.size, gC, N, gA) s s.heap := ⟨fun _ => 0, fun _ _ _ => trivial⟩
theorem ns_start {args : Array Value} {s : State} (hts : ∀ w ∈ lw_tbl, w.before args s = true) : NS s := by
  refine ⟨fun w hw hn => ?_, va_AO.of (hts _ ao_State), va_AO.of (hts _ ao_Word)⟩
  have h1 := hts w hw
  cases w with
  | methodLinkNest a i x b => exact va_Nw.of rfl h1
  | fieldLinkNest a i b n d c => exact va_Nw.of rfl h1
  | _ => simp [isNest] at hn
theorem k_start {args : Array Value} {s : State} (hts : ∀ w ∈ lw_tbl, w.before args s = true) : ∃ (D : va_G) (gC : Nat → ClassId), ∀ (B N : Nat) (gA : Nat → Nat), va_K D vwCl (tyG (D, B, gC, N, gA)) s := by
  have hb : ∀ w ∈ BIG, w.before args s = true := fun w hw => hts w (List.mem_filter.mp hw).1
  have one : ∀ c : Nat, ∃ z : ClassId × (Nat → Nat), ∀ q : vw_C, vwCl[c]? = some q → u_Kn s q.1 q.2.1 q.2.2 z.1 z.2 := by
    intro c
    match c with
    | 0 =>
      obtain ⟨cC, iS, h⟩ := u_known (C := RX1) (T := TX1) (N := 6) (n := 6) hb inX1 (hb _ ins_X1)
      exact ⟨(cC, iS), fun q hq => by cases hq; exact h⟩
    | 1 =>
      obtain ⟨cC, iS, h⟩ := u_known (C := RX2) (T := TX2) (N := 2) (n := 2) hb inX2 (hb _ ins_X2)
      exact ⟨(cC, iS), fun q hq => by cases hq; exact h⟩
    | 2 =>
      obtain ⟨cC, iS, h⟩ := u_known (C := RX3) (T := TX3) (N := 6) (n := 6) hb inX3 (hb _ ins_X3)
      exact ⟨(cC, iS), fun q hq => by cases hq; exact h⟩
    | 3 =>
      obtain ⟨cC, iS, h⟩ := u_known (C := RX4) (T := TX4) (N := 2) (n := 2) hb inX4 (hb _ ins_X4)
      exact ⟨(cC, iS), fun q hq => by cases hq; exact h⟩
    | 4 =>
      obtain ⟨cC, iS, h⟩ := u_known (C := RX5) (T := TX5) (N := 6) (n := 6) hb inX5 (hb _ ins_X5)
      exact ⟨(cC, iS), fun q hq => by cases hq; exact h⟩
    | 5 =>
      obtain ⟨cC, iS, h⟩ := u_known (C := RX6) (T := TX6) (N := 4) (n := 4) hb inX6 (hb _ ins_X6)
      exact ⟨(cC, iS), fun q hq => by cases hq; exact h⟩
    | 6 =>
      obtain ⟨cC, iS, h⟩ := u_known (C := RX7) (T := TX7) (N := 4) (n := 4) hb inX7 (hb _ ins_X7)
      exact ⟨(cC, iS), fun q hq => by cases hq; exact h⟩
    | 7 =>
      obtain ⟨cC, iS, h⟩ := u_known (C := RX8) (T := TX8) (N := 3) (n := 3) hb inX8 (hb _ ins_X8)
      exact ⟨(cC, iS), fun q hq => by cases hq; exact h⟩
    | 8 =>
      obtain ⟨cC, iS, h⟩ := u_known (C := RX10) (T := TX10) (N := 8) (n := 8) hb inX10 (hb _ ins_X10)
      exact ⟨(cC, iS), fun q hq => by cases hq; exact h⟩
    | k + 9 => exact ⟨(0, fun _ => 0), fun q hq => by simp [vwCl] at hq⟩
  obtain ⟨z, hz⟩ := Classical.axiomOfChoice one
  obtain ⟨cI, kI, pI, i1, i2, i3⟩ := Cond.arrayClass_spec (args := args) (first := s) (o := none) (s := s) (idx := []) (type := .int) (hb _ aw_int)
  obtain ⟨cC, kC, pC, c1, c2, c3⟩ := Cond.arrayClass_spec (args := args) (first := s) (o := none) (s := s) (idx := []) (type := .char) (hb _ aw_char)
  obtain ⟨pS, cS, kS, s1, s2, s3, s4, s5⟩ := Cond.arrayOver_spec (args := args) (first := s) (o := none) (idx := []) (n := "LineDisc$State") (hts _ ao_State)
  obtain ⟨pW, cW, kW, w1, w2, w3, w4, w5⟩ := Cond.arrayOver_spec (args := args) (first := s) (o := none) (idx := []) (n := "LineDisc$Word") (hts _ ao_Word)
  refine ⟨(fun c => (z c).1, fun c => (z c).2), fun k => if k = 10 then cI else if k = 11 then cC else if k = 12 then cI else if k = 13 then cS else cW, fun B N gA => ⟨fun c q hq => hz c q hq, fun k q hq => ?_⟩⟩
  match k, hq with
  | 0, hq => cases hq; exact ⟨fun n f => ⟨fun k h => (by cases h), kI, i2, pI, i3⟩, i1⟩
  | 1, hq => cases hq; exact ⟨fun n f => ⟨fun k h => (by cases h), kC, c2, pC, c3⟩, c1⟩
  | 2, hq => cases hq; exact ⟨fun n f => ⟨fun k h => (by cases h), kI, i2, pI, i3⟩, i1⟩
  | 3, hq => cases hq; exact ⟨fun n f => ⟨fun k h => (by cases h), kS, s3, pS, s4⟩, kS, pS, s3, s4, s1, s5⟩
  | 4, hq => cases hq; exact ⟨fun n f => ⟨fun k h => (by cases h), kW, w3, pW, w4⟩, kW, pW, w3, w4, w1, w5⟩
  | k + 5, hq => simp [tyG] at hq
/-- the heap behind the constructor -/
def h00 : HP := hc_X10 (fun _ _ => 0)
theorem g_end : ∀ o, o < 70 → ∀ k, k < nf (kd o) → off (kd o) k ≠ 0 → k < (gc_X10 (fun _ => 0)) o := by decide +kernel
theorem wl_end {G : GM} {h : HP} : wl G 70 (gc_X10 (fun _ => 0)) h = wl G 70 gF h := by
  refine List.map_congr_left fun o ho => ?_
  have ho := List.mem_range.mp ho
  by_cases hk : kd o < 10
  · rw [ent, ent, if_pos hk, if_pos hk]
    have e : (List.range (nf (kd o))).map (fv G (gc_X10 (fun _ => 0)) h o) = (List.range (nf (kd o))).map (fv G gF h o) := by
      refine List.map_congr_left fun k hk2 => ?_
      have hk2 := List.mem_range.mp hk2
      by_cases h0 : off (kd o) k = 0
      · simp [fv, h0]
      · have h1 := g_end o ho k hk2 h0
        have h2 : k < gF o := by
          have : nf (kd o) ≤ 11 := (show ∀ c, c < 10 → nf c ≤ 11 by decide) _ hk
          show k < 99
          omega
        simp [fv, h0, h1, h2]
    rw [e]
  · simp [ent, hk]

