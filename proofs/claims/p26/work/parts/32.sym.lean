/-! a state's row of 166 numbers; what the class holds of it -/
def N (v : Nat → Int32) (k : Nat) : Nat := (v k).toNatClampNeg
def isN (v : Nat → Int32) (k lo hi : Nat) : Prop := lo ≤ N v k ∧ N v k ≤ hi ∧ v k = nI (N v k)
theorem isN_of {v : Nat → Int32} {k lo hi n : Nat} (h : v k = nI n) (hn : n < 2 ^ 31) (h1 : lo ≤ n) (h2 : n ≤ hi) : isN v k lo hi := by
  have : N v k = n := by rw [N, h, nI_clamp hn]
  unfold isN
  rw [this]
  exact ⟨h1, h2, h⟩
def TOT (v : Nat → Int32) : Nat := STn (N v 0) (N v 1) 30
/-- the part of the settings -/
def WS (v : Nat → Int32) : Prop := isN v 0 8 40 ∧ isN v 1 0 6 ∧ isN v 2 1 9 ∧ isN v 3 0 5 ∧ isN v 4 60 140 ∧ isN v 5 0 20
/-- the part of the head -/
def WH (T : Nat) (v : Nat → Int32) : Prop := isN v 6 0 (TOT v) ∧ isN v 7 8 214 ∧ isN v 8 0 T ∧ isN v 9 0 T ∧ isN v 10 0 T ∧ isN v 11 0 T
/-- the part of the scratches -/
def WC (v : Nat → Int32) : Prop := isN v 12 0 8 ∧ ∀ k, k < N v 12 → isN v (13 + 4 * k) 0 359 ∧ isN v (13 + 4 * k + 1) (N v (13 + 4 * k)) 359 ∧ isN v (13 + 4 * k + 2) 0 29 ∧ isN v (13 + 4 * k + 3) (N v (13 + 4 * k + 2)) 29
/-- the part of the symbols -/
def WP (v : Nat → Int32) : Prop := isN v 45 0 40 ∧ ∀ k, k < N v 45 → isN v (46 + 3 * k) 0 3809 ∧ N v (46 + 3 * k) % 5 ≠ 4 ∧ isN v (46 + 3 * k + 1) 0 3 ∧ isN v (46 + 3 * k + 2) 0 15
def WF (T : Nat) (v : Nat → Int32) : Prop := WS v ∧ WH T v ∧ WC v ∧ WP v
/-- the class's State o holds the row -/
def RS (h : HP) (o : Nat) (v : Nat → Int32) : Prop := ∀ k, k < 6 → h (o + 1) k = v k
def RH (h : HP) (o : Nat) (v : Nat → Int32) : Prop := ∀ k, k < 6 → h o k = v (6 + k)
def RC (h : HP) (o : Nat) (v : Nat → Int32) : Prop := h (o + 2) 1 = v 12 ∧ ∀ k, k < 4 * N v 12 → h (o + 3) k = v (13 + k)
def RP (h : HP) (o : Nat) (v : Nat → Int32) : Prop := h (o + 4) 2 = v 45 ∧ ∀ k, k < N v 45 → h (o + 5) k = v (46 + 3 * k) * 4 + v (46 + 3 * k + 1) ∧ h (o + 6) k = v (46 + 3 * k + 2)
def R (h : HP) (o : Nat) (v : Nat → Int32) : Prop := RS h o v ∧ RH h (o + 7) v ∧ RC h o v ∧ RP h o v
theorem WS.fm {v : Nat → Int32} (w : WS v) : FM (N v 0) (N v 1) := ⟨w.1.1, w.1.2.1, w.2.1.2.1⟩
theorem WS.ge {v : Nat → Int32} {h : HP} {o : Nat} (w : WS v) (r : RS h o v) : GE (N v 0) (N v 1) h (o + 1) := ⟨(r 0 (by decide)).trans w.1.2.2, (r 1 (by decide)).trans w.2.1.2.2⟩
theorem WS.gm {v : Nat → Int32} {h : HP} (w : WS v) (e : h 71 = v) : GE (N v 0) (N v 1) h 71 := by
  subst e
  exact ⟨w.1.2.2, w.2.1.2.2⟩
/-! the pressed symbols -/
def fiN (v : Nat → Int32) (f q : Nat) : Nat → Nat → Option Nat
  | 0, _ => none
  | k + 1, j => if v (46 + 3 * j) = nI f ∧ v (46 + 3 * j + 1) = nI q then some j else fiN v f q k (j + 1)
def FIX (v : Nat → Int32) (f q : Nat) : Option Nat := fiN v f q (N v 45) 0
def dSy (v : Nat → Int32) (f q : Nat) : Int32 :=
  match FIX v f q with
  | some j => v (46 + 3 * j + 2)
  | none => nI ((7 * f + 3 * q) % 16)
theorem fiN_some {v : Nat → Int32} {f q i : Nat} : ∀ k j, fiN v f q k j = some i → j ≤ i ∧ i < j + k ∧ v (46 + 3 * i) = nI f ∧ v (46 + 3 * i + 1) = nI q := by
  intro k
  induction k with
  | zero => intro j h; simp [fiN] at h
  | succ k ih =>
    intro j h
    rw [fiN] at h
    split at h
    · next hc =>
      injection h with h
      subst h
      exact ⟨Nat.le_refl _, by omega, hc.1, hc.2⟩
    · have := ih _ h
      exact ⟨by omega, by omega, this.2.2.1, this.2.2.2⟩
theorem c_cell {v : Nat → Int32} {h : HP} {o j f q : Nat} (w : WP v) (r : RP h o v) (hj : j < N v 45) (hf : f < 2 ^ 28) (hq : q < 4) : (h (o + 5) j = nI f * (4 : Int32) + nI q) ↔ (v (46 + 3 * j) = nI f ∧ v (46 + 3 * j + 1) = nI q) := by
  have h1 := (r.2 j hj).1
  obtain ⟨a, b, c, d⟩ := w.2 j hj
  have ha := a.2.1
  have hc := c.2.1
  rw [h1, a.2.2, c.2.2, lit_n 4, pk_mul, pk_mul, nI_add, nI_add, nI_eq (by omega) (by omega), nI_eq (by omega) (by omega), nI_eq (by omega) (by omega)]
  omega
theorem c_indexOf_L2 {v : Nat → Int32} {h : HP} {o f q : Nat} (w : WP v) (r : RP h o v) (hf : f < 2 ^ 28) (hq : q < 4) : ∀ k n j, j + k = N v 45 → k < n → f_X8_indexOf_L2 n (o + 4) (nI f * (4 : Int32) + nI q) (nI j) h = some (match fiN v f q k j with | some i => nI i | none => (-1 : Int32)) := by
  have hp := w.1.2.1
  have hv : h (o + 4) 2 = nI (N v 45) := r.1.trans w.1.2.2
  intro k
  induction k with
  | zero =>
    intro n j hj hn
    obtain ⟨n, rfl⟩ : ∃ n', n = n' + 1 := ⟨n - 1, by omega⟩
    rw [f_X8_indexOf_L2, hv, if_pos (nI_le (by omega) (by omega)), fiN]
  | succ k ih =>
    intro n j hj hn
    obtain ⟨n, rfl⟩ : ∃ n', n = n' + 1 := ⟨n - 1, by omega⟩
    rw [f_X8_indexOf_L2, hv, if_neg (nI_ge (by omega) (by omega)), lit_n 40, if_neg (nI_ge (by omega) (by omega)), gd_t (inB_n (by omega) (by decide)), nI_clamp (by omega), fiN]
    by_cases hc : v (46 + 3 * j) = nI f ∧ v (46 + 3 * j + 1) = nI q
    · rw [if_pos ((c_cell w r (by omega) hf hq).mpr hc), if_pos hc]
    · rw [if_neg (fun e => hc ((c_cell w r (by omega) hf hq).mp e)), if_neg hc, nI_1]
      exact ih n (j + 1) (by omega) (by omega)
theorem c_indexOf {v : Nat → Int32} {h : HP} {o f q : Nat} (w : WP v) (r : RP h o v) (hf : f < 2 ^ 28) (hq : q < 4) : f_X8_indexOf (o + 4) (nI f * (4 : Int32) + nI q) h = some (match FIX v f q with | some i => nI i | none => (-1 : Int32)) := by
  have hp := w.1.2.1
  exact c_indexOf_L2 w r hf hq (N v 45) FU 0 (by omega) (Nat.lt_of_le_of_lt hp (by decide))
theorem c_atFirst {f q : Nat} {h : HP} (hf : f < 2 ^ 28) (hq : q < 4) : f_X8_atFirst (nI f) (nI q) h = nI ((7 * f + 3 * q) % 16) := by
  rw [f_X8_atFirst, lit_n 7, lit_n 3, lit_n 16, pk_mul, pk_mul, nI_add, jrem_n (by omega) (by decide) (by decide)]
theorem c_dataAt {v : Nat → Int32} {h : HP} {o f q : Nat} (ho : ln (o + 6) = 40) (w : WP v) (r : RP h o v) (hf : f < 2 ^ 28) (hq : q < 4) : f_X8_dataAt (o + 4) (nI f) (nI q) h = some (dSy v f q) := by
  have hp := w.1.2.1
  rw [f_X8_dataAt, ob_e (c_indexOf w r hf hq), dSy]
  cases hi : FIX v f q with
  | none =>
    show (if (0 : Int32) ≤ (-1 : Int32) then _ else _) = _
    rw [if_neg (by decide), c_atFirst hf hq]
  | some i =>
    have h1 := fiN_some _ _ hi
    show (if (0 : Int32) ≤ nI i then _ else _) = _
    have h2 : i < ln (o + 4 + 2) := by
      show i < ln (o + 6)
      omega
    rw [if_pos (nI_pos' (by omega)), at_n h2, (r.2 i (by omega)).2]
theorem m_ix {j d : Nat} : ((46 : Int32) + ((3 : Int32) * nI j)) = nI (46 + 3 * j) := by
  rw [lit_n 46, lit_n 3, pk_mul, nI_add]
theorem dSy_n {v : Nat → Int32} {f q : Nat} (w : WP v) : ∃ s, s < 16 ∧ dSy v f q = nI s := by
  rw [dSy]
  cases hi : FIX v f q with
  | none => exact ⟨(7 * f + 3 * q) % 16, Nat.mod_lt _ (by decide), rfl⟩
  | some i =>
    have h1 := fiN_some _ _ hi
    have h2 := (w.2 i (by omega)).2.2.2
    exact ⟨N v (46 + 3 * i + 2), by have := h2.2.1; omega, h2.2.2⟩
/-- the symbol that stands at a place of a frame -/
def suSy (v : Nat → Int32) (f q : Nat) : Int32 := dSy v (f - 4) q + dSy v (f - 3) q + dSy v (f - 2) q + dSy v (f - 1) q
def sy (v : Nat → Int32) (f q : Nat) : Int32 := if f % 5 = 4 then jrem (suSy v f q) (16 : Int32) else dSy v f q
theorem sy_n {v : Nat → Int32} {f q : Nat} (w : WP v) : ∃ s, s < 16 ∧ sy v f q = nI s := by
  rw [sy]
  split
  · obtain ⟨a, ha, ea⟩ := dSy_n (f := f - 4) (q := q) w
    obtain ⟨b, hb, eb⟩ := dSy_n (f := f - 3) (q := q) w
    obtain ⟨c, hc, ec⟩ := dSy_n (f := f - 2) (q := q) w
    obtain ⟨d, hd, ed⟩ := dSy_n (f := f - 1) (q := q) w
    refine ⟨(a + b + c + d) % 16, Nat.mod_lt _ (by decide), ?_⟩
    rw [suSy, ea, eb, ec, ed, nI_add, nI_add, nI_add, lit_n 16, jrem_n (by omega) (by decide) (by decide)]
  · exact dSy_n w
theorem c_standsAt {v : Nat → Int32} {h : HP} {o f q : Nat} (ho : ln (o + 6) = 40) (w : WP v) (r : RP h o v) (hf : f < 2 ^ 28) (hq : q < 4) : f_X8_standsAt (o + 4) (nI f) (nI q) h = some (sy v f q) := by
  have hU : ∃ n, FU = n + 5 := ⟨999995, rfl⟩
  rw [f_X8_standsAt, c_isCheck (by omega), sy]
  by_cases h4 : f % 5 = 4
  · rw [if_pos h4, if_pos h4, if_neg (by decide)]
    obtain ⟨n, hn⟩ := hU
    have ix : (nI f - (5 : Int32)) + (1 : Int32) = nI (f - 4) := by
      rw [lit_n 5]
      apply Int32.toInt_inj.mp
      rw [Int32.toInt_add, pk_sub_toInt (by omega) (by decide), nI_toInt (by omega)]
      show ((f : Int) - 5 + 1).bmod (2 ^ 32) = _
      rw [Int.bmod_eq_of_le] <;> omega
    have e1 : f - 4 + 1 = f - 3 := by omega
    have e2 : f - 3 + 1 = f - 2 := by omega
    have e3 : f - 2 + 1 = f - 1 := by omega
    have e4 : f - 1 + 1 = f := by omega
    have key : f_X8_standsAt_L23 FU (o + 4) (nI f) (nI q) (0 : Int32) ((nI f - (5 : Int32)) + (1 : Int32)) h = some (suSy v f q) := by
      rw [ix, hn]
      rw [f_X8_standsAt_L23, if_neg (nI_ge (by omega) (by omega)), ob_e (c_dataAt ho w r (by omega) hq), nI_1, e1]
      rw [f_X8_standsAt_L23, if_neg (nI_ge (by omega) (by omega)), ob_e (c_dataAt ho w r (by omega) hq), nI_1, e2]
      rw [f_X8_standsAt_L23, if_neg (nI_ge (by omega) (by omega)), ob_e (c_dataAt ho w r (by omega) hq), nI_1, e3]
      rw [f_X8_standsAt_L23, if_neg (nI_ge (by omega) (by omega)), ob_e (c_dataAt ho w r (by omega) hq), nI_1, e4]
      rw [f_X8_standsAt_L23, if_pos (nI_le (Nat.le_refl _) (by omega)), suSy, Int32.zero_add]
    rw [ob_e key]
  · rw [if_neg h4, if_neg h4, if_pos rfl, ob_e (c_dataAt ho w r hf hq)]
