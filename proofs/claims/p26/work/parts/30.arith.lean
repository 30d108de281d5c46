/-! numbers: 32-bit ints as whole numbers -/
def inF (x0 : Int32) (x1 : Int32) (x2 : Int32) (_ : HP) : Int32 := if x0 < x1 then (0 : Int32) else if x2 < x0 then (0 : Int32) else (1 : Int32)
def zI (z : Int) : Int32 := Int32.ofInt z
theorem zI_add (a b : Int) : zI a + zI b = zI (a + b) := (Int32.ofInt_add a b).symm
theorem zI_sub (a b : Int) : zI a - zI b = zI (a - b) := (Int32.ofInt_sub a b).symm
theorem zI_mul (a b : Int) : zI a * zI b = zI (a * b) := (Int32.ofInt_mul a b).symm
theorem zI_neg (a : Int) : -zI a = zI (-a) := (Int32.ofInt_neg a).symm
theorem zI_toInt {z : Int} (h1 : -2147483648 ≤ z) (h2 : z < 2147483648) : (zI z).toInt = z := Int32.toInt_ofInt_of_le h1 h2
theorem nI_z (n : Nat) : nI n = zI (n : Int) := Int32.ofInt_eq_ofNat.symm
theorem lit_z (n : Nat) : (no_index (OfNat.ofNat n) : Int32) = zI (n : Int) := nI_z n
theorem zI_of (x : Int32) : ∃ z : Int, -2147483648 ≤ z ∧ z < 2147483648 ∧ x = zI z := ⟨x.toInt, Int32.le_toInt x, Int32.toInt_lt x, (Int32.ofInt_toInt x).symm⟩
theorem zI_le {a b : Int} (a1 : -2147483648 ≤ a) (a2 : a < 2147483648) (b1 : -2147483648 ≤ b) (b2 : b < 2147483648) : zI a ≤ zI b ↔ a ≤ b := by
  rw [Int32.le_iff_toInt_le, zI_toInt a1 a2, zI_toInt b1 b2]
theorem zI_lt {a b : Int} (a1 : -2147483648 ≤ a) (a2 : a < 2147483648) (b1 : -2147483648 ≤ b) (b2 : b < 2147483648) : zI a < zI b ↔ a < b := by
  rw [Int32.lt_iff_toInt_lt, zI_toInt a1 a2, zI_toInt b1 b2]
theorem zI_eq {a b : Int} (a1 : -2147483648 ≤ a) (a2 : a < 2147483648) (b1 : -2147483648 ≤ b) (b2 : b < 2147483648) : zI a = zI b ↔ a = b := by
  rw [← Int32.toInt_inj, zI_toInt a1 a2, zI_toInt b1 b2]
theorem zI_div {a b : Int} (a1 : -2147483648 < a) (a2 : a < 2147483648) (b1 : 0 < b) (b2 : b < 2147483648) : zI a / zI b = zI (a.tdiv b) := by
  rw [← Int32.toInt_inj, Int32.toInt_div_of_ne_right, zI_toInt (by omega) a2, zI_toInt (by omega) b2]
  · rw [zI_toInt]
    · have h1 : (a.tdiv b).natAbs ≤ a.natAbs := by
        rw [Int.natAbs_tdiv]
        exact Nat.div_le_self _ _
      omega
    · have h1 : (a.tdiv b).natAbs ≤ a.natAbs := by
        rw [Int.natAbs_tdiv]
        exact Nat.div_le_self _ _
      omega
  · intro h
    have h2 := (Int32.toInt_inj.mpr h)
    rw [zI_toInt (by omega) b2] at h2
    have h3 : (-1 : Int32).toInt = -1 := by decide
    omega
theorem lit_n (n : Nat) : (no_index (OfNat.ofNat n) : Int32) = nI n := rfl
theorem neg1 : (-1 : Int32) = zI (-1) := by decide
theorem neg2 : (-2 : Int32) = zI (-2) := by decide
theorem neg3 : (-3 : Int32) = zI (-3) := by decide
theorem neg4 : (-4 : Int32) = zI (-4) := by decide
theorem neg5 : (-5 : Int32) = zI (-5) := by decide
theorem jrem_n {a d : Nat} (ha : a < 2 ^ 31) (h0 : 0 < d) (hd : d < 2 ^ 31) : jrem (nI a) (nI d) = nI (a % d) := pk_rem ha h0 hd
theorem jmin_n {a b : Nat} (ha : a < 2 ^ 31) (hb : b < 2 ^ 31) : jmin (nI a) (nI b) = nI (min a b) := by
  unfold jmin
  by_cases h : b < a
  · rw [if_pos ((nI_ltI hb ha).mpr h), Nat.min_eq_right (by omega)]
  · rw [if_neg (fun q => h ((nI_ltI hb ha).mp q)), Nat.min_eq_left (by omega)]
theorem jmax_n {a b : Nat} (ha : a < 2 ^ 31) (hb : b < 2 ^ 31) : jmax (nI a) (nI b) = nI (max a b) := by
  unfold jmax
  by_cases h : a < b
  · rw [if_pos ((nI_ltI ha hb).mpr h), Nat.max_eq_right (by omega)]
  · rw [if_neg (fun q => h ((nI_ltI ha hb).mp q)), Nat.max_eq_left (by omega)]
theorem inB_n {n N : Nat} (h : n < N) (hN : N < 2 ^ 31) : inB (nI n) N = true := inB_eq.mpr (vp_in_nI h hN)
theorem gd_t {β : Type} {b : Bool} {k : Option β} (h : b = true) : gd b k = k := by
  unfold gd
  rw [if_pos h]
theorem ob_s {α β : Type} {a : α} {k : α → Option β} : ob (some a) k = k a := rfl
theorem ob_e {α β : Type} {x : Option α} {a : α} {k : α → Option β} (h : x = some a) : ob x k = k a := by
  rw [h]
  rfl
theorem tb_s {α β : Type} {a : α} {k : α → β} : tb a k = k a := rfl
theorem at_n {o n : Nat} {h : HP} (hn : n < ln o) : f_X10_at o (nI n) h = h o n := by
  have h1 := ln_lt o
  rw [f_X10_at, if_pos (inB_n hn h1), nI_clamp (by omega)]
theorem put_n {o n : Nat} {v : Int32} {h : HP} (hn : n < ln o) : f_X10_put o (nI n) v h = hset h o n v := by
  have h1 := ln_lt o
  rw [f_X10_put, if_pos (inB_n hn h1), nI_clamp (by omega)]
theorem FU_ge {n : Nat} (h : n ≤ 1000000) : n ≤ FU := h

