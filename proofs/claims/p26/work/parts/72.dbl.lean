/-! quotients of counts are numbers -/
theorem dok_nat {n : Nat} (h : n % 2 ^ 63 ≤ 9218868437227405312) : dok (UInt64.ofNat n) = true := by
  unfold dok
  refine decide_eq_true ?_
  rw [UInt64.le_iff_toNat_le, UInt64.toNat_and, show (0x7fffffffffffffff : UInt64).toNat = 2 ^ 63 - 1 from rfl, Nat.and_two_pow_sub_one_eq_mod, UInt64.toNat_ofNat', show (0x7ff0000000000000 : UInt64).toNat = 9218868437227405312 from rfl]
  omega
theorem dok_bound {s : Bool} {c : Nat} {q : Int} (hc : c < 2 ^ 53) : dok (UInt64.ofNat (FP.Core.encode FP.Core.b64 (FP.Core.bound FP.Core.b64 s c q))) = true := by
  have e1 : FP.Core.Fmt.qmax FP.Core.b64 = 971 := by decide
  have e2 : FP.Core.Fmt.qmin FP.Core.b64 = -1074 := by decide
  have e3 : FP.Core.Fmt.tails FP.Core.b64 = 4503599627370496 := by decide
  have e4 : FP.Core.Fmt.exps FP.Core.b64 = 2048 := by decide
  have hs := Bool.toNat_le s
  refine dok_nat ?_
  unfold FP.Core.bound
  rw [e1]
  by_cases hq : q ≤ 971
  · rw [if_pos hq, FP.Core.encode, e3, e2]
    by_cases h2 : c < 4503599627370496
    · rw [if_pos h2, FP.Core.assemble, e3, e4]
      omega
    · rw [if_neg h2, FP.Core.assemble, e3, e4]
      omega
  · rw [if_neg hq, FP.Core.encode, FP.Core.assemble, e3, e4]
    omega
theorem dok_rr {s : Bool} {a b : Nat} {e : Int} : dok (UInt64.ofNat (FP.Core.encode FP.Core.b64 (FP.Core.roundRatio FP.Core.b64 s a b e))) = true := by
  have e1 : FP.Core.Fmt.p FP.Core.b64 = 53 := rfl
  have e3 : FP.Core.Fmt.tails FP.Core.b64 = 4503599627370496 := by decide
  unfold FP.Core.roundRatio
  by_cases h0 : a = 0
  · rw [if_pos h0]
    cases s <;> decide +kernel
  · rw [if_neg h0, FP.Core.roundAt, FP.Core.settle, e1]
    by_cases h1 : FP.Core.nearest (FP.Core.unitsNum a e (FP.Core.quantum FP.Core.b64 a b e)) (FP.Core.unitsDen b e (FP.Core.quantum FP.Core.b64 a b e)) < 2 ^ 53
    · rw [if_pos h1]
      exact dok_bound h1
    · rw [if_neg h1, e3]
      exact dok_bound (by decide)
def fin64 (n : Nat) : Bool := match FP.Core.decode FP.Core.b64 n with
  | .fin _ c _ => decide (c ≠ 0)
  | _ => false
theorem i2d_all : ∀ i, i < 62 → ∀ j, j < 62 → 62 * i + j = 0 ∨ fin64 (FP.i2d (nI (62 * i + j))).toNat = true := by decide +kernel
theorem i2d_f {a : Nat} (ha : a ≤ 3810) (h0 : 0 < a) : ∃ s c q, FP.Core.decode FP.Core.b64 (FP.i2d (nI a)).toNat = .fin s c q ∧ c ≠ 0 := by
  have h := i2d_all (a / 62) (by omega) (a % 62) (by omega)
  rw [show 62 * (a / 62) + a % 62 = a by omega] at h
  rcases h with h | h
  · omega
  · unfold fin64 at h
    split at h
    · next s c q e => exact ⟨s, c, q, e, of_decide_eq_true h⟩
    · exact Bool.noConfusion h
theorem i2d_0 : ∃ s q, FP.Core.decode FP.Core.b64 (FP.i2d (nI 0)).toNat = .fin s 0 q := ⟨false, -1074, by decide +kernel⟩
theorem ddiv_ok {a b : Nat} (ha : a ≤ 3810) (hb : b ≤ 3810) (h0 : 0 < b) : dok (FP.ddiv (FP.i2d (nI a)) (FP.i2d (nI b))) = true := by
  obtain ⟨t, d, r, e2, hd⟩ := i2d_f hb h0
  have e1 : ∃ s c q, FP.Core.decode FP.Core.b64 (FP.i2d (nI a)).toNat = .fin s c q := by
    rcases Nat.eq_zero_or_pos a with h | h
    · subst h
      obtain ⟨s, q, e⟩ := i2d_0
      exact ⟨s, 0, q, e⟩
    · obtain ⟨s, c, q, e, _⟩ := i2d_f ha h
      exact ⟨s, c, q, e⟩
  obtain ⟨s, c, q, e1⟩ := e1
  have : FP.ddiv (FP.i2d (nI a)) (FP.i2d (nI b)) = UInt64.ofNat (FP.Core.encode FP.Core.b64 (FP.Core.roundRatio FP.Core.b64 (s != t) c d (q - r))) := by
    show FP.Core.ddiv _ _ = _
    unfold FP.Core.ddiv FP.Core.div
    rw [e1, e2, FP.Core.quotient, if_neg hd]
  rw [this]
  exact dok_rr
theorem ordd_self {d : FP.Core.Datum} (h : d ≠ .nan) : FP.Core.order d d = some .eq := by
  cases d with
  | nan => exact absurd rfl h
  | inf s =>
    rw [FP.Core.order]
    exact congrArg some (Std.ReflCmp.compare_self)
  | fin s c q =>
    rw [FP.Core.order]
    exact congrArg some (Std.ReflCmp.compare_self)
theorem dok_dec {r : UInt64} (h : dok r = true) : FP.Core.decode FP.Core.b64 r.toNat ≠ .nan := by
  have e3 : FP.Core.Fmt.tails FP.Core.b64 = 4503599627370496 := by decide
  have e4 : FP.Core.Fmt.exps FP.Core.b64 = 2048 := by decide
  unfold dok at h
  have h := of_decide_eq_true h
  rw [UInt64.le_iff_toNat_le, UInt64.toNat_and, show (0x7fffffffffffffff : UInt64).toNat = 2 ^ 63 - 1 from rfl, Nat.and_two_pow_sub_one_eq_mod, show (0x7ff0000000000000 : UInt64).toNat = 9218868437227405312 from rfl] at h
  unfold FP.Core.decode FP.Core.fieldE FP.Core.fieldT
  rw [e3, e4]
  split
  · split
    · exact fun e => FP.Core.Datum.noConfusion e
    · omega
  · split
    · exact fun e => FP.Core.Datum.noConfusion e
    · exact fun e => FP.Core.Datum.noConfusion e
theorem dcl_self {r : UInt64} (h : dok r = true) : dcl r r = 0 := by
  have e : FP.dcmp r r = some .eq := by
    show FP.Core.dcmp r r = _
    unfold FP.Core.dcmp FP.Core.cmp
    exact ordd_self (dok_dec h)
  unfold dcl
  rw [e]
  rfl

