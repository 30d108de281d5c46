/-! the class's survey: the hits -/
theorem and_or (a b m : Int32) : (a ||| b) &&& m = (a &&& m) ||| (b &&& m) := by
  apply Int32.toBitVec_inj.mp
  simp [BitVec.and_or_distrib_right]
def bitN (k : Nat) : Int32 := (1 : Int32) <<< (nI k &&& 31)
def hbk (v : Nat → Int32) (t i : Nat) : Nat → Int32
  | 0 => 0
  | k + 1 => if dmg v k t i = true then hbk v t i k ||| bitN k else hbk v t i k
def hbV (v : Nat → Int32) (k f : Nat) : Int32 := if f < TOT v then hbk v (TU (N v 0) (N v 1) f) (f - STn (N v 0) (N v 1) (TU (N v 0) (N v 1) f)) k else 0
theorem bit_all : ∀ k, k < 8 → ¬ bitN k &&& (-1 : Int32) = 0 := by decide
theorem bit_but : ∀ j, j < 8 → ∀ k, k < 8 → ((bitN k &&& (bitN j ^^^ (-1 : Int32)) = 0) ↔ k = j) := by decide
theorem zero_and (m : Int32) : (0 : Int32) &&& m = 0 := by
  apply Int32.toBitVec_inj.mp
  simp
theorem hbk_all {v : Nat → Int32} {t i : Nat} : ∀ c, c ≤ 8 → ((hbk v t i c &&& (-1 : Int32) = 0) ↔ anyD v (-5) t i c = false) := by
  intro c
  induction c with
  | zero =>
    intro _
    rw [hbk, zero_and, anyD]
    simp
  | succ c ih =>
    intro hc
    have ih := ih (by omega)
    have hne : nI c ≠ (-5 : Int32) := fun e => by
      have := nI_pos (n := c) (by omega)
      rw [e] at this
      exact this (by decide)
    rw [hbk, anyD, decide_eq_true hne, Bool.true_and]
    cases dmg v c t i with
    | true =>
      rw [if_pos rfl, and_or, Int32.or_eq_zero_iff]
      have := bit_all c (by omega)
      exact ⟨fun h => absurd h.2 this, fun h => by simp at h⟩
    | false =>
      rw [if_neg (by decide), Bool.or_false]
      exact ih
theorem hbk_but {v : Nat → Int32} {t i j : Nat} (hj : j < 8) : ∀ c, c ≤ 8 → ((hbk v t i c &&& (bitN j ^^^ (-1 : Int32)) = 0) ↔ anyD v (nI j) t i c = false) := by
  intro c
  induction c with
  | zero =>
    intro _
    rw [hbk, zero_and, anyD]
    simp
  | succ c ih =>
    intro hc
    have ih := ih (by omega)
    rw [hbk, anyD]
    cases dmg v c t i with
    | true =>
      rw [if_pos rfl, and_or, Int32.or_eq_zero_iff, bit_but j hj c (by omega), ih, Bool.and_true]
      by_cases q : c = j
      · subst q
        simp
      · have : nI c ≠ nI j := fun e => q ((nI_eq (by omega) (by omega)).mp e)
        simp [q, this]
    | false =>
      rw [if_neg (by decide), Bool.and_false, Bool.or_false]
      exact ih
/-- what the survey holds of the scratches: v -/
def VS (v : Nat → Int32) (h : HP) : Prop := GE (N v 0) (N v 1) h 64 ∧ h 65 1 = v 12 ∧ ∀ k, k < 4 * N v 12 → h 66 k = v (13 + k)
theorem VS.of {v : Nat → Int32} {h h' : HP} (s : VS v h) (e4 : h' 64 = h 64) (e5 : h' 65 = h 65) (e6 : h' 66 = h 66) : VS v h' := by
  unfold VS GE
  rw [e4, e5, e6]
  exact s
def PS (v : Nat → Int32) (k c : Nat) (h : HP) : Prop := ∀ f, f < 3810 → h 67 f = if f < c then hbV v (k + 1) f else hbV v k f
theorem PS.skip {v : Nat → Int32} {k c d : Nat} {h : HP} (p : PS v k c h) (hcd : c ≤ d) (hs : ∀ f, c ≤ f → f < d → hbV v (k + 1) f = hbV v k f) : PS v k d h := by
  intro f hf
  rw [p f hf]
  by_cases q : f < c
  · rw [if_pos q, if_pos (by omega)]
  · rw [if_neg q]
    by_cases q2 : f < d
    · rw [if_pos q2, hs f (by omega) q2]
    · rw [if_neg q2]
theorem markRow_L7 {v : Nat → Int32} {k e : Nat} (he : e < 3810) : ∀ d n c h, c + d = e + 1 → d < n → PS v k c h → (∀ f, c ≤ f → f ≤ e → hbV v (k + 1) f = hbV v k f ||| bitN k) → ∃ h', f_X7_markRow_L7 n (nI e) (bitN k) (nI c) h = some h' ∧ PS v k (e + 1) h' ∧ ∀ o, o ≠ 67 → h' o = h o := by
  intro d
  induction d with
  | zero =>
    intro n c h hc hn p _
    obtain ⟨n, rfl⟩ : ∃ n', n = n' + 1 := ⟨n - 1, by omega⟩
    rw [f_X7_markRow_L7, if_pos (nI_lt (by omega) (by omega))]
    have : c = e + 1 := by omega
    exact ⟨h, rfl, this ▸ p, fun _ _ => rfl⟩
  | succ d ih =>
    intro n c h hc hn p hm
    obtain ⟨n, rfl⟩ : ∃ n', n = n' + 1 := ⟨n - 1, by omega⟩
    rw [f_X7_markRow_L7, if_neg (nI_nlt (by omega) (by omega)), lit_n 3810, if_neg (nI_ge (by omega) (by omega)), gd_t (inB_n (by omega) (by decide)), gd_t (inB_n (by omega) (by decide)), nI_clamp (by omega), nI_1]
    have p' : PS v k (c + 1) (hset h 67 c (h 67 c ||| bitN k)) := by
      intro f hf
      by_cases q : f = c
      · subst q
        rw [hset_same, p f hf, if_neg (by omega), if_pos (by omega), hm f (by omega) (by omega)]
      · rw [hset_oth (by omega), p f hf]
        by_cases q2 : f < c
        · rw [if_pos q2, if_pos (by omega)]
        · rw [if_neg q2, if_neg (by omega)]
    obtain ⟨h', e1, e2, e3⟩ := ih n (c + 1) _ (by omega) (by omega) p' (fun f h1 h2 => hm f (by omega) h2)
    refine ⟨h', e1, e2, fun o ho => ?_⟩
    rw [e3 o ho, hset_sR, sR_o ho]
theorem markRow {v : Nat → Int32} {k c e : Nat} {h : HP} (he : e < 3810) (hce : c ≤ e + 1) (p : PS v k c h) (hm : ∀ f, c ≤ f → f ≤ e → hbV v (k + 1) f = hbV v k f ||| bitN k) : ∃ h', f_X7_markRow (nI c) (nI e) (bitN k) h = some h' ∧ PS v k (e + 1) h' ∧ ∀ o, o ≠ 67 → h' o = h o := by
  obtain ⟨h', e1, e2, e3⟩ := markRow_L7 he (e + 1 - c) FU c h (by omega) (Nat.lt_of_le_of_lt (show e + 1 - c ≤ 3810 by omega) (by decide)) p hm
  refine ⟨h', ?_, e2, e3⟩
  have : jmax (nI c) (0 : Int32) = nI c := by
    rw [← nI_0, jmax_n (by omega) (by decide), Nat.max_eq_left (by omega)]
  rw [f_X7_markRow, this]
  exact ob_e (k := fun r => some r) e1
theorem hbV_t {v : Nat → Int32} {k t i f : Nat} (w : WS v) (ht : t ≤ 29) (hi : i < N v 0 + N v 1 * t) (hf : f = STn (N v 0) (N v 1) t + i) : hbV v k f = hbk v t i k := by
  have tu : TU (N v 0) (N v 1) f = t := by
    refine TU_of ht (by omega) ?_
    show f < STn (N v 0) (N v 1) t + (N v 0 + N v 1 * t)
    omega
  have hst : STn (N v 0) (N v 1) t + (N v 0 + N v 1 * t) ≤ STn (N v 0) (N v 1) 30 := STn_lt (by omega)
  unfold hbV TOT
  rw [if_pos (by omega), tu, hf, Nat.add_sub_cancel_left]
theorem hbV_no {v : Nat → Int32} {k f : Nat} (hd : f < TOT v → dmg v k (TU (N v 0) (N v 1) f) (f - STn (N v 0) (N v 1) (TU (N v 0) (N v 1) f)) = false) : hbV v (k + 1) f = hbV v k f := by
  unfold hbV
  by_cases q : f < TOT v
  · rw [if_pos q, if_pos q, hbk, hd q, if_neg (by decide)]
  · rw [if_neg q, if_neg q]
theorem dmg_out {v : Nat → Int32} {k t i : Nat} (h : t < N v (13 + 4 * k + 2) ∨ N v (13 + 4 * k + 3) < t) : dmg v k t i = false := by
  unfold dmg
  exact decide_eq_false (by omega)
theorem markTurn {v : Nat → Int32} {k t : Nat} {h : HP} (w : WS v) (c : WC v) (s : VS v h) (hk : k < N v 12) (ht : t ≤ 29) (h1 : N v (13 + 4 * k + 2) ≤ t) (h2 : t ≤ N v (13 + 4 * k + 3)) (p : PS v k (STn (N v 0) (N v 1) t) h) : ∃ h', f_X7_markRow ((f_X5_firstOf 64 (nI t) h) + ((nI (N v (13 + 4 * k)) * (f_X5_framesOf 64 (nI t) h)) / (360 : Int32))) ((f_X5_firstOf 64 (nI t) h) + (((nI (N v (13 + 4 * k + 1) + 1) * (f_X5_framesOf 64 (nI t) h)) - (1 : Int32)) / (360 : Int32))) (bitN k) h = some h' ∧ PS v k (STn (N v 0) (N v 1) (t + 1)) h' ∧ ∀ o, o ≠ 67 → h' o = h o := by
  have h8 := c.1.2.1
  obtain ⟨c0, c1, c2, c3⟩ := c.2 k hk
  have hF := w.fm
  have hfo := FM_fo (t := t) hF (by omega)
  have hst := FM_st (t := t + 1) hF (by omega)
  have hs1 : STn (N v 0) (N v 1) (t + 1) = STn (N v 0) (N v 1) t + (N v 0 + N v 1 * t) := rfl
  have d0 := c0.2.1
  have d1 := c1.2.1
  have d01 := c1.1
  have a1 : 1 * 8 ≤ (N v (13 + 4 * k + 1) + 1) * (N v 0 + N v 1 * t) := Nat.mul_le_mul (by omega) hfo.1
  have a2 : (N v (13 + 4 * k + 1) + 1) * (N v 0 + N v 1 * t) ≤ 360 * (N v 0 + N v 1 * t) := Nat.mul_le_mul (by omega) (Nat.le_refl _)
  have a3 : (N v (13 + 4 * k)) * (N v 0 + N v 1 * t) ≤ (N v (13 + 4 * k + 1)) * (N v 0 + N v 1 * t) := Nat.mul_le_mul d01 (Nat.le_refl _)
  have a4 : (N v (13 + 4 * k + 1) + 1) * (N v 0 + N v 1 * t) = (N v (13 + 4 * k + 1)) * (N v 0 + N v 1 * t) + (N v 0 + N v 1 * t) := by rw [Nat.add_mul, Nat.one_mul]
  have dm : ∀ i, dmg v k t i = decide (360 * i < (N v (13 + 4 * k + 1) + 1) * (N v 0 + N v 1 * t) ∧ N v (13 + 4 * k) * (N v 0 + N v 1 * t) < 360 * (i + 1)) := by
    intro i
    unfold dmg
    simp [h1, h2]
  rw [c_firstOf s.1 (by omega), c_framesOf s.1, pk_mul, pk_mul, lit_n 360, lit_n 1, pk_sub (by omega), pk_div (by omega) (by decide) (by decide), pk_div (by omega) (by decide) (by decide), nI_add, nI_add]
  have hv : ∀ k' i f, i < N v 0 + N v 1 * t → f = STn (N v 0) (N v 1) t + i → hbV v k' f = hbk v t i k' := fun k' i f hi hf => hbV_t w ht hi hf
  generalize hA : (N v (13 + 4 * k + 1) + 1) * (N v 0 + N v 1 * t) = A at *
  generalize hB : N v (13 + 4 * k) * (N v 0 + N v 1 * t) = B at *
  generalize N v 0 + N v 1 * t = L at *
  generalize hS : STn (N v 0) (N v 1) t = S at *
  have no : ∀ f, S ≤ f → f < S + L → ¬ (360 * (f - S) < A ∧ B < 360 * ((f - S) + 1)) → hbV v (k + 1) f = hbV v k f := by
    intro f f1 f2 f3
    rw [hv (k + 1) (f - S) f (by omega) (by omega), hv k (f - S) f (by omega) (by omega), hbk, dm, decide_eq_false f3, if_neg (by decide)]
  have yes : ∀ f, S ≤ f → f < S + L → (360 * (f - S) < A ∧ B < 360 * ((f - S) + 1)) → hbV v (k + 1) f = hbV v k f ||| bitN k := by
    intro f f1 f2 f3
    rw [hv (k + 1) (f - S) f (by omega) (by omega), hv k (f - S) f (by omega) (by omega), hbk, dm, decide_eq_true f3, if_pos rfl]
  have p1 : PS v k (S + B / 360) h := p.skip (by omega) (fun f f1 f2 => no f f1 (by omega) (by omega))
  obtain ⟨h', e1, e2, e3⟩ := markRow (show S + (A - 1) / 360 < 3810 by omega) (by omega) p1 (fun f f1 f2 => yes f (by omega) (by omega) (by omega))
  refine ⟨h', e1, ?_, e3⟩
  rw [hs1]
  exact e2.skip (by omega) (fun f f1 f2 => no f (by omega) f2 (by omega))

