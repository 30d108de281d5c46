/-! polish as an order, and the call -/
theorem c_drop_L13 : ∀ d n i (h : HP), i + d = 28 → d < n → ∃ h', f_X4_drop_L13 n 3 (nI i) h = some h' ∧ (∀ k, i ≤ k → k < 28 → h' 4 k = h 4 (k + 4)) ∧ (∀ k, k < i ∨ 28 ≤ k → h' 4 k = h 4 k) ∧ ∀ o, o ≠ 4 → h' o = h o := by
  have l4 : ln (3 + 1) = 32 := by decide
  intro d
  induction d with
  | zero =>
    intro n i h hi hn
    obtain ⟨n, rfl⟩ : ∃ n', n = n' + 1 := ⟨n - 1, by omega⟩
    have : i = 28 := by omega
    subst this
    rw [f_X4_drop_L13, if_pos (by decide)]
    exact ⟨h, rfl, fun k h1 h2 => by omega, fun _ _ => rfl, fun _ _ => rfl⟩
  | succ d ih =>
    intro n i h hi hn
    obtain ⟨n, rfl⟩ : ∃ n', n = n' + 1 := ⟨n - 1, by omega⟩
    obtain ⟨h', a1, a2, a3, a4⟩ := ih n (i + 1) (hset h 4 i (h 4 (i + 4))) (by omega) (by omega)
    refine ⟨h', ?_, fun k h1 h2 => ?_, fun k hk => ?_, fun o ho => ?_⟩
    · rw [f_X4_drop_L13, if_neg (show ¬ (32 : Int32) - 4 ≤ nI i from nI_ge (b := 28) (by omega) (by decide)), lit_n 4, nI_add, at_n (by omega), put_n (by omega), tb_s, nI_1]
      exact a1
    · by_cases q : k = i
      · subst q
        rw [a3 k (by omega), hset_same]
      · rw [a2 k (by omega) h2, hset_oth (by omega)]
    · rw [a3 k (by omega), hset_oth (by omega)]
    · rw [a4 o ho, hset_sR, sR_o ho]
/-- the row behind a polish -/
def plV (v : Nat → Int32) (m x : Nat) : Nat → Int32 := fun i => if i = 12 then nI m else if 13 + 4 * x ≤ i ∧ i < 13 + 4 * m then v (i + 4) else if 13 + 4 * m ≤ i ∧ i < 13 + 4 * m + 4 then 0 else v i
theorem plV_12 {v : Nat → Int32} {m x : Nat} : plV v m x 12 = nI m := if_pos rfl
theorem plV_o {v : Nat → Int32} {m x i : Nat} (hx : x ≤ m) (h : i < 13 + 4 * x ∨ 13 + 4 * m + 4 ≤ i) (h2 : i ≠ 12) : plV v m x i = v i := by
  unfold plV
  rw [if_neg h2, if_neg (by omega), if_neg (by omega)]
theorem plV_m {v : Nat → Int32} {m x i : Nat} (h1 : 13 + 4 * x ≤ i) (h2 : i < 13 + 4 * m) : plV v m x i = v (i + 4) := by
  unfold plV
  rw [if_neg (by omega), if_pos ⟨h1, h2⟩]
theorem plV_z {v : Nat → Int32} {m x i : Nat} (h1 : 13 + 4 * m ≤ i) (h2 : i < 13 + 4 * m + 4) : plV v m x i = 0 := by
  unfold plV
  rw [if_neg (by omega), if_neg (by omega), if_pos ⟨h1, h2⟩]
theorem plV_wc {v : Nat → Int32} {m x : Nat} (w : WC v) (hm : N v 12 = m + 1) (hx : x ≤ m) : WC (plV v m x) := by
  have h8 := w.1.2.1
  have n12 : N (plV v m x) 12 = m := by
    rw [N, plV_12, nI_clamp (by omega)]
  refine ⟨isN_of plV_12 (by omega) (by omega) (by omega), fun k hk => ?_⟩
  rw [n12] at hk
  by_cases q : k < x
  · obtain ⟨c0, c1, c2, c3⟩ := w.2 k (by omega)
    rw [N_eq (plV_o (i := 13 + 4 * k) hx (by omega) (by omega)), N_eq (plV_o (i := 13 + 4 * k + 2) hx (by omega) (by omega))]
    exact ⟨c0.eq (plV_o hx (by omega) (by omega)), c1.eq (plV_o hx (by omega) (by omega)), c2.eq (plV_o hx (by omega) (by omega)), c3.eq (plV_o hx (by omega) (by omega))⟩
  · have c := w.2 (k + 1) (by omega)
    rw [show 13 + 4 * (k + 1) = 13 + 4 * k + 4 by omega] at c
    have e0 : plV v m x (13 + 4 * k) = v (13 + 4 * k + 4) := plV_m (by omega) (by omega)
    have e1 : plV v m x (13 + 4 * k + 1) = v (13 + 4 * k + 4 + 1) := plV_m (by omega) (by omega)
    have e2 : plV v m x (13 + 4 * k + 2) = v (13 + 4 * k + 4 + 2) := plV_m (by omega) (by omega)
    have e3 : plV v m x (13 + 4 * k + 3) = v (13 + 4 * k + 4 + 3) := plV_m (by omega) (by omega)
    unfold isN N at *
    rw [e0, e1, e2, e3]
    exact c
