/-! what is told of a frame -/
theorem c_ahead {f : Nat} {h : HP} (hf : f < 2 ^ 20) (h0 : f ≠ 0) (h4 : f % 5 ≠ 4) : f_X5_dataAhead (nI f) h = nI (bef f) := by
  rw [f_X5_dataAhead, lit_n 5, jrem_n (by omega) (by decide) (by decide), bef]
  by_cases q : f % 5 = 0
  · rw [if_pos (by rw [q]; rfl), if_pos q, lit_n 2, pk_sub (by omega)]
  · rw [if_neg (show ¬ nI (f % 5) = (0 : Int32) from fun e => q ((nI_eq (b := 0) (by omega) (by decide)).mp e)), if_neg q, lit_n 1, pk_sub (by omega)]
theorem c_behind {f : Nat} {h : HP} (hf : f < 2 ^ 20) : f_X5_dataBehind (nI f) h = nI (aft f) := by
  rw [f_X5_dataBehind, lit_n 5, jrem_n (by omega) (by decide) (by decide), aft, lit_n 3]
  by_cases q : f % 5 = 3
  · rw [if_pos (by rw [q]), if_pos q, lit_n 2, nI_add]
  · rw [if_neg (fun e => q ((nI_eq (by omega) (by decide)).mp e)), if_neg q, nI_1]
def sN (v : Nat → Int32) (f q : Nat) : Nat := (sy v f q).toNatClampNeg
theorem sN_n {v : Nat → Int32} {f q : Nat} (w : WP v) : sN v f q < 16 ∧ sy v f q = nI (sN v f q) := by
  obtain ⟨s, hs, e⟩ := sy_n (f := f) (q := q) w
  unfold sN
  rw [e, nI_clamp (by omega)]
  exact ⟨hs, rfl⟩
theorem c_st {T : Nat} {v : Nat → Int32} {h : HP} {f q : Nat} (wf : WF T v) (r : R h 1 v) (hf : f < 2 ^ 28) (hq : q < 4) : f_X8_standsAt 5 (nI f) (nI q) h = some (nI (sN v f q)) := by
  rw [← (sN_n wf.2.2.2).2]
  exact c_standsAt (o := 1) (by decide) wf.2.2.2 r.2.2.2 hf hq
theorem pit_n {s : Nat} {h : HP} (hs : s < 16) : f_X8_pitOf (nI s) h = nI (3 + s / 4) := by
  rw [f_X8_pitOf, lit_n 3, lit_n 4, pk_div (by omega) (by decide) (by decide), nI_add]
theorem flat_n {s : Nat} {h : HP} (hs : s < 16) : f_X8_flatOf (nI s) h = nI (3 + s % 4) := by
  rw [f_X8_flatOf, lit_n 3, lit_n 4, jrem_n (by omega) (by decide) (by decide), nI_add]
def pT (v : Nat → Int32) (f : Nat) : Nat := 12 + sN v f 0 / 4 + sN v f 1 / 4 + sN v f 2 / 4 + sN v f 3 / 4
def fT (v : Nat → Int32) (f : Nat) : Nat := 12 + sN v f 0 % 4 + sN v f 1 % 4 + sN v f 2 % 4 + sN v f 3 % 4
def lrN (v : Nat → Int32) (f : Nat) : Nat → Nat
  | 0 => 0
  | q + 1 => max (lrN v f q) (max (3 + sN v f q / 4) (3 + sN v f q % 4))
theorem c_length {T : Nat} {v : Nat → Int32} {h : HP} {f : Nat} (wf : WF T v) (r : R h 1 v) (hf : f < 2 ^ 28) : f_X8_lengthOf 5 (nI f) h = some (nI (pT v f + fT v f)) := by
  have step : ∀ n a q, q < 4 → f_X8_lengthOf_L4 (n + 1) 5 (nI f) (nI a) (nI q) h = f_X8_lengthOf_L4 n 5 (nI f) (nI (a + (3 + sN v f q / 4 + (3 + sN v f q % 4)))) (nI (q + 1)) h := by
    intro n a q hq
    have hs := (sN_n (f := f) (q := q) wf.2.2.2).1
    rw [f_X8_lengthOf_L4, if_neg (show ¬ (4 : Int32) ≤ nI q from nI_ge (b := 4) hq (by decide)), ob_e (c_st wf r hf hq), pit_n hs, flat_n hs, nI_add, nI_add, tb_s, nI_1]
  have key : f_X8_lengthOf_L4 (999995 + 1 + 1 + 1 + 1 + 1) 5 (nI f) (nI 0) (nI 0) h = some (nI (pT v f + fT v f)) := by
    rw [step _ _ 0 (by decide), step _ _ 1 (by decide), step _ _ 2 (by decide), step _ _ 3 (by decide), f_X8_lengthOf_L4, if_pos (by decide)]
    congr 2
    unfold pT fT
    omega
  rw [f_X8_lengthOf]
  exact ob_e (k := fun r => some r) key
theorem c_balance {T : Nat} {v : Nat → Int32} {h : HP} {f : Nat} (wf : WF T v) (r : R h 1 v) (hf : f < 2 ^ 28) : f_X8_balanceOf 5 (nI f) h = some (zI ((pT v f : Int) - fT v f)) := by
  have step : ∀ n a q, q < 4 → f_X8_balanceOf_L4 (n + 1) 5 (nI f) (zI a) (nI q) h = f_X8_balanceOf_L4 n 5 (nI f) (zI (a + (((3 + sN v f q / 4 : Nat) : Int) - ((3 + sN v f q % 4 : Nat) : Int)))) (nI (q + 1)) h := by
    intro n a q hq
    have hs := (sN_n (f := f) (q := q) wf.2.2.2).1
    rw [f_X8_balanceOf_L4, if_neg (show ¬ (4 : Int32) ≤ nI q from nI_ge (b := 4) hq (by decide)), ob_e (c_st wf r hf hq), pit_n hs, flat_n hs, nI_z (3 + sN v f q / 4), nI_z (3 + sN v f q % 4), zI_sub, zI_add, tb_s, nI_1]
  have key : f_X8_balanceOf_L4 (999995 + 1 + 1 + 1 + 1 + 1) 5 (nI f) (zI 0) (nI 0) h = some (zI ((pT v f : Int) - fT v f)) := by
    rw [step _ _ 0 (by decide), step _ _ 1 (by decide), step _ _ 2 (by decide), step _ _ 3 (by decide), f_X8_balanceOf_L4, if_pos (by decide)]
    congr 2
    unfold pT fT
    omega
  rw [f_X8_balanceOf]
  exact ob_e (k := fun r => some r) key
theorem c_longest {T : Nat} {v : Nat → Int32} {h : HP} {f : Nat} (wf : WF T v) (r : R h 1 v) (hf : f < 2 ^ 28) : f_X8_longestRunOf 5 (nI f) h = some (nI (lrN v f 4)) := by
  have lb : ∀ q, lrN v f q ≤ 6 := by
    intro q
    induction q with
    | zero => exact Nat.zero_le _
    | succ q ih =>
      have hs := (sN_n (f := f) (q := q) wf.2.2.2).1
      rw [lrN]
      omega
  have step : ∀ n q, q < 4 → f_X8_longestRunOf_L4 (n + 1) 5 (nI f) (nI (lrN v f q)) (nI q) h = f_X8_longestRunOf_L4 n 5 (nI f) (nI (lrN v f (q + 1))) (nI (q + 1)) h := by
    intro n q hq
    have hs := (sN_n (f := f) (q := q) wf.2.2.2).1
    have := lb q
    rw [f_X8_longestRunOf_L4, if_neg (show ¬ (4 : Int32) ≤ nI q from nI_ge (b := 4) hq (by decide)), ob_e (c_st wf r hf hq), pit_n hs, flat_n hs, jmax_n (by omega) (by omega), jmax_n (by omega) (by omega), tb_s, nI_1, lrN]
  have key : f_X8_longestRunOf_L4 (999995 + 1 + 1 + 1 + 1 + 1) 5 (nI f) (nI (lrN v f 0)) (nI 0) h = some (nI (lrN v f 4)) := by
    rw [step _ 0 (by decide), step _ 1 (by decide), step _ 2 (by decide), step _ 3 (by decide), f_X8_longestRunOf_L4, if_pos (by decide)]
  rw [f_X8_longestRunOf]
  exact ob_e (k := fun r => some r) key
theorem mx_n {a b : Nat} (ha : a < 2 ^ 31) (hb : b < 2 ^ 31) : (if nI a ≤ nI b then nI b else nI a) = nI (max b a) := by
  by_cases q : a ≤ b
  · rw [if_pos (nI_le q hb), Nat.max_eq_left q]
  · rw [if_neg (nI_ge (by omega) ha), Nat.max_eq_right (by omega)]
