/-! damage: what the model lays -/
def dmg (v : Nat → Int32) (k t i : Nat) : Bool := decide (N v (13 + 4 * k + 2) ≤ t ∧ t ≤ N v (13 + 4 * k + 3) ∧ 360 * i < (N v (13 + 4 * k + 1) + 1) * (N v 0 + N v 1 * t) ∧ N v (13 + 4 * k) * (N v 0 + N v 1 * t) < 360 * (i + 1))
def anyD (v : Nat → Int32) (x : Int32) (t i : Nat) : Nat → Bool
  | 0 => false
  | k + 1 => anyD v x t i k || (decide (nI k ≠ x) && dmg v k t i)
def bI (b : Bool) : Int32 := if b = true then 1 else 0
/-- the row of damage, laid up to the frame B -/
def lyV (v : Nat → Int32) (x : Int32) (f : Nat) : Bool := anyD v x (TU (N v 0) (N v 1) f) (f - STn (N v 0) (N v 1) (TU (N v 0) (N v 1) f)) (N v 12)
def lyR (v : Nat → Int32) (x : Int32) (B : Nat) (r : Nat → Int32) : Nat → Int32 := fun f => if f < B then bI (lyV v x f) else r f
theorem lyR_s {v : Nat → Int32} {x : Int32} {B : Nat} {r : Nat → Int32} : up (lyR v x B r) B (bI (lyV v x B)) = lyR v x (B + 1) r := by
  funext f
  unfold up lyR
  by_cases q : f = B
  · subst q
    rw [if_pos rfl, if_pos (by omega)]
  · rw [if_neg q]
    by_cases q2 : f < B
    · rw [if_pos q2, if_pos (by omega)]
    · rw [if_neg q2, if_neg (by omega)]
theorem lyR_0 {v : Nat → Int32} {x : Int32} {r : Nat → Int32} : lyR v x 0 r = r := by
  funext f
  exact if_neg (by omega)
theorem nar_bI {b : Bool} : vp_nar .boolean (bI b) = bI b := by
  cases b <;> decide
/-- what a frame is, from what is damaged -/
def grp (b : Nat → Bool) (g : Nat) : Nat := (b (5 * g)).toNat + (b (5 * g + 1)).toNat + (b (5 * g + 2)).toNat + (b (5 * g + 3)).toNat + (b (5 * g + 4)).toNat
def snd (b : Nat → Bool) (f : Nat) : Bool := !(b f) || decide (grp b (f / 5) = 1)
def bef (f : Nat) : Nat := if f % 5 = 0 then f - 2 else f - 1
def aft (f : Nat) : Nat := if f % 5 = 3 then f + 2 else f + 1
def how (b : Nat → Bool) (T f : Nat) : Nat :=
  if b f = false then 0 else if grp b (f / 5) = 1 then 1
  else if f % 5 ≠ 4 ∧ f ≠ 0 ∧ aft f < T ∧ snd b (bef f) = true ∧ snd b (aft f) = true then 2 else 3
theorem bI_0 {b : Bool} : (bI b = 0) ↔ b = false := by
  cases b <;> decide
theorem bI_n {b : Bool} : bI b = nI b.toNat := by
  cases b <;> decide
def MB (v : Nat → Int32) (b : Nat → Bool) (h : HP) : Prop := h 71 = v ∧ ∀ f, f < TOT v → h 76 f = bI (b f)
