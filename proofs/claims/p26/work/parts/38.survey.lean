/-! the class's survey: scratches marked, groups judged -/
theorem markScratch_L49 {v : Nat → Int32} {k : Nat} (w : WS v) (c : WC v) (hk : k < N v 12) : ∀ d n t h, t + d = N v (13 + 4 * k + 3) + 1 → d < n → N v (13 + 4 * k + 2) ≤ t → VS v h → PS v k (STn (N v 0) (N v 1) t) h → ∃ h', f_X7_markScratch_L49 n (nI k) (nI (N v (13 + 4 * k))) (nI (N v (13 + 4 * k + 1) + 1)) (nI (N v (13 + 4 * k + 3))) (nI t) h = some h' ∧ PS v k (STn (N v 0) (N v 1) (N v (13 + 4 * k + 3) + 1)) h' ∧ ∀ o, o ≠ 67 → h' o = h o := by
  obtain ⟨c0, c1, c2, c3⟩ := c.2 k hk
  have d3 := c3.2.1
  intro d
  induction d with
  | zero =>
    intro n t h ht hn hlo s p
    obtain ⟨n, rfl⟩ : ∃ n', n = n' + 1 := ⟨n - 1, by omega⟩
    rw [f_X7_markScratch_L49, if_pos (nI_lt (by omega) (by omega))]
    have : t = N v (13 + 4 * k + 3) + 1 := by omega
    exact ⟨h, rfl, this ▸ p, fun _ _ => rfl⟩
  | succ d ih =>
    intro n t h ht hn hlo s p
    obtain ⟨n, rfl⟩ : ∃ n', n = n' + 1 := ⟨n - 1, by omega⟩
    rw [f_X7_markScratch_L49, if_neg (nI_nlt (by omega) (by omega)), nI_1 t]
    obtain ⟨h1, e1, p1, f1⟩ := markTurn w c s hk (by omega) hlo (by omega) p
    obtain ⟨h2, e2, p2, f2⟩ := ih n (t + 1) h1 (by omega) (by omega) (by omega) (s.of (f1 64 (by decide)) (f1 65 (by decide)) (f1 66 (by decide))) p1
    refine ⟨h2, ?_, p2, fun o ho => (f2 o ho).trans (f1 o ho)⟩
    exact (ob_e e1).trans e2
theorem markScratch {v : Nat → Int32} {k : Nat} {h : HP} (w : WS v) (c : WC v) (s : VS v h) (hk : k < N v 12) (p : PS v k 0 h) : ∃ h', f_X7_markScratch (nI k) h = some h' ∧ PS v (k + 1) 0 h' ∧ ∀ o, o ≠ 67 → h' o = h o := by
  have h8 := c.1.2.1
  have hF := w.fm
  obtain ⟨c0, c1, c2, c3⟩ := c.2 k hk
  have d0 := c0.2.1
  have d1 := c1.2.1
  have d2 := c2.2.1
  have d3 := c3.2.1
  have d23 := c3.1
  have l66 : ln 66 = 32 := by decide
  have g : ∀ q, q < 4 → f_X10_at 66 (nI (4 * k + q)) h = v (13 + 4 * k + q) := by
    intro q hq
    rw [at_n (by omega), s.2.2 _ (by omega)]
    congr 1
    omega
  have e4 : nI k * (4 : Int32) = nI (4 * k) := by
    rw [lit_n 4, pk_mul, Nat.mul_comm]
  have g0 : f_X4_fromOf 65 (nI k) h = nI (N v (13 + 4 * k)) := by
    rw [f_X4_fromOf, e4]
    exact (g 0 (by decide)).trans c0.2.2
  have g1 : f_X4_toOf 65 (nI k) h = nI (N v (13 + 4 * k + 1)) := by
    rw [f_X4_toOf, e4, nI_1]
    exact (g 1 (by decide)).trans c1.2.2
  have g2 : f_X4_innerOf 65 (nI k) h = nI (N v (13 + 4 * k + 2)) := by
    rw [f_X4_innerOf, e4, lit_n 2, nI_add]
    exact (g 2 (by decide)).trans c2.2.2
  have g3 : f_X4_outerOf 65 (nI k) h = nI (N v (13 + 4 * k + 3)) := by
    rw [f_X4_outerOf, e4, lit_n 3, nI_add]
    exact (g 3 (by decide)).trans c3.2.2
  have p1 : PS v k (STn (N v 0) (N v 1) (N v (13 + 4 * k + 2))) h := by
    refine p.skip (Nat.zero_le _) (fun f _ f2 => hbV_no (fun _ => dmg_out (Or.inl ?_)))
    rcases Nat.lt_or_ge (TU (N v 0) (N v 1) f) (N v (13 + 4 * k + 2)) with q | q
    · exact q
    · have := STn_le (F := N v 0) (M := N v 1) q
      have := TU_lo (F := N v 0) (M := N v 1) (f := f)
      omega
  obtain ⟨h', e1, p2, f1⟩ := markScratch_L49 w c hk (N v (13 + 4 * k + 3) + 1 - N v (13 + 4 * k + 2)) FU (N v (13 + 4 * k + 2)) h (by omega) (Nat.lt_of_le_of_lt (show N v (13 + 4 * k + 3) + 1 - N v (13 + 4 * k + 2) ≤ 30 by omega) (by decide)) (Nat.le_refl _) s p1
  have m29 : jmin (nI (N v (13 + 4 * k + 3))) (29 : Int32) = nI (N v (13 + 4 * k + 3)) := by
    rw [lit_n 29, jmin_n (by omega) (by decide), Nat.min_eq_left (by omega)]
  have m0 : jmax (nI (N v (13 + 4 * k + 2))) (0 : Int32) = nI (N v (13 + 4 * k + 2)) := by
    rw [← nI_0, jmax_n (by omega) (by decide), Nat.max_eq_left (by omega)]
  refine ⟨h', ?_, ?_, f1⟩
  · rw [f_X7_markScratch, g0, g1, g2, g3, m29, m0, nI_1]
    exact ob_e (k := fun r => some r) e1
  · intro f hf
    rw [p2 f hf, if_neg (Nat.not_lt_zero _)]
    by_cases q : f < STn (N v 0) (N v 1) (N v (13 + 4 * k + 3) + 1)
    · rw [if_pos q]
    · rw [if_neg q]
      refine (hbV_no (fun hT => dmg_out (Or.inr ?_))).symm
      rcases Nat.lt_or_ge (N v (13 + 4 * k + 3)) (TU (N v 0) (N v 1) f) with q2 | q2
      · exact q2
      · have := STn_le (F := N v 0) (M := N v 1) (show TU (N v 0) (N v 1) f + 1 ≤ N v (13 + 4 * k + 3) + 1 by omega)
        have := TU_hi (F := N v 0) (M := N v 1) (f := f) hT
        omega
theorem of_L60 {v : Nat → Int32} {x : Nat} (w : WS v) (c : WC v) : ∀ d n k h, k + d = N v 12 → d < n → VS v h → PS v k 0 h → ∃ h', f_X7_of_L60 n x (nI k) h = some h' ∧ PS v (N v 12) 0 h' ∧ ∀ o, o ≠ 67 → h' o = h o := by
  have h8 := c.1.2.1
  intro d
  induction d with
  | zero =>
    intro n k h hk hn s p
    obtain ⟨n, rfl⟩ : ∃ n', n = n' + 1 := ⟨n - 1, by omega⟩
    rw [f_X7_of_L60, s.2.1, c.1.2.2, if_pos (nI_le (by omega) (by omega))]
    have : k = N v 12 := by omega
    exact ⟨h, rfl, this ▸ p, fun _ _ => rfl⟩
  | succ d ih =>
    intro n k h hk hn s p
    obtain ⟨n, rfl⟩ : ∃ n', n = n' + 1 := ⟨n - 1, by omega⟩
    rw [f_X7_of_L60, s.2.1, c.1.2.2, if_neg (nI_ge (by omega) (by omega)), nI_1]
    obtain ⟨h1, e1, p1, f1⟩ := markScratch w c s (by omega) p
    obtain ⟨h2, e2, p2, f2⟩ := ih n (k + 1) h1 (by omega) (by omega) (s.of (f1 64 (by decide)) (f1 65 (by decide)) (f1 66 (by decide))) p1
    exact ⟨h2, (ob_e e1).trans e2, p2, fun o ho => (f2 o ho).trans (f1 o ho)⟩
theorem fill_L5 {o : Nat} {x : Int32} : ∀ d n i h, i + d = ln o → d < n → (∀ f, f < i → h o f = x) → ∃ h', f_J7_fill_53178_L5 n o x (nI i) (nI (ln o)) h = some h' ∧ (∀ f, f < ln o → h' o f = x) ∧ ∀ a, a ≠ o → h' a = h a := by
  have hl := ln_lt o
  intro d
  induction d with
  | zero =>
    intro n i h hi hn p
    obtain ⟨n, rfl⟩ : ∃ n', n = n' + 1 := ⟨n - 1, by omega⟩
    rw [f_J7_fill_53178_L5, if_pos (nI_le (by omega) (by omega))]
    exact ⟨h, rfl, fun f hf => p f (by omega), fun _ _ => rfl⟩
  | succ d ih =>
    intro n i h hi hn p
    obtain ⟨n, rfl⟩ : ∃ n', n = n' + 1 := ⟨n - 1, by omega⟩
    rw [f_J7_fill_53178_L5, if_neg (nI_ge (by omega) (by omega)), gd_t (inB_n (by omega) (by omega)), nI_clamp (by omega), nI_1]
    obtain ⟨h', e1, p1, f1⟩ := ih n (i + 1) (hset h o i x) (by omega) (by omega) (fun f hf => by
      by_cases q : f = i
      · subst q
        exact hset_same
      · rw [hset_oth (by omega)]
        exact p f (by omega))
    refine ⟨h', e1, p1, fun a ha => ?_⟩
    rw [f1 a ha, hset_sR, sR_o ha]
/-- hits that a mask leaves: b -/
def MS (b : Nat → Bool) (m : Int32) (h : HP) : Prop := ∀ f, f < 3810 → ((h 67 f &&& m = 0) ↔ b f = false)
theorem damagedIn5 {b : Nat → Bool} {m : Int32} {h : HP} {g : Nat} (s : MS b m h) (hg : 5 * g + 5 ≤ 3810) : f_X7_damagedIn (nI (5 * g)) (nI (5 * g + 5)) m h = some (nI (grp b g)) := by
  have step : ∀ n c i, i < 5 → f_X7_damagedIn_L10 (n + 1) (nI (5 * g + 5)) m (nI c) (nI (5 * g + i)) h = f_X7_damagedIn_L10 n (nI (5 * g + 5)) m (nI (c + (b (5 * g + i)).toNat)) (nI (5 * g + i + 1)) h := by
    intro n c i hi
    rw [f_X7_damagedIn_L10, if_neg (nI_ge (by omega) (by omega)), lit_n 3810, if_neg (nI_ge (by omega) (by omega)), gd_t (inB_n (by omega) (by decide)), nI_clamp (by omega)]
    have := s (5 * g + i) (by omega)
    cases hb : b (5 * g + i) with
    | true =>
      rw [hb] at this
      rw [if_neg (fun e => Bool.noConfusion (this.mp e)), nI_1, nI_1]
      rfl
    | false =>
      rw [if_pos (this.mpr hb), nI_1]
      rfl
  have mx : jmax (nI (5 * g)) (0 : Int32) = nI (5 * g) := by
    rw [← nI_0, jmax_n (by omega) (by decide), Nat.max_eq_left (by omega)]
  have key : f_X7_damagedIn_L10 (999994 + 1 + 1 + 1 + 1 + 1 + 1) (nI (5 * g + 5)) m (nI 0) (nI (5 * g + 0)) h = some (nI (grp b g)) := by
    rw [step _ _ 0 (by decide), step _ _ (0 + 1) (by decide), step _ _ (0 + 1 + 1) (by decide), step _ _ (0 + 1 + 1 + 1) (by decide), step _ _ (0 + 1 + 1 + 1 + 1) (by decide), f_X7_damagedIn_L10, if_pos (nI_le (by omega) (by omega)), Nat.zero_add]
    rfl
  rw [f_X7_damagedIn, mx]
  exact ob_e (k := fun r => some r) key
/-- the first judgement -/
def how0 (b : Nat → Bool) (f : Nat) : Nat := if b f = false then 0 else if grp b (f / 5) = 1 then 1 else 3
theorem judgeGroup_L40 {b : Nat → Bool} {m : Int32} {g x : Nat} (hg : 5 * g + 5 ≤ 3810) (hx : ∀ f, f / 5 = g → b f = true → how0 b f = x) : ∀ d n i h, i + d = 5 → d < n → MS b m h → (∀ f, f < 5 * g + i → h 68 f = nI (how0 b f)) → ∃ h', f_X7_judgeGroup_L40 n (nI (5 * g + 5)) m (nI x) (nI (5 * g + i)) h = some h' ∧ (∀ f, f < 5 * g + 5 → h' 68 f = nI (how0 b f)) ∧ ∀ o, o ≠ 68 → h' o = h o := by
  have l67 : ln 67 = 3810 := by decide
  have l68 : ln 68 = 3810 := by decide
  intro d
  induction d with
  | zero =>
    intro n i h hi hn s p
    obtain ⟨n, rfl⟩ : ∃ n', n = n' + 1 := ⟨n - 1, by omega⟩
    rw [f_X7_judgeGroup_L40, if_pos (nI_le (by omega) (by omega))]
    exact ⟨h, rfl, fun f hf => p f (by omega), fun _ _ => rfl⟩
  | succ d ih =>
    intro n i h hi hn s p
    obtain ⟨n, rfl⟩ : ∃ n', n = n' + 1 := ⟨n - 1, by omega⟩
    rw [f_X7_judgeGroup_L40, if_neg (nI_ge (by omega) (by omega)), at_n (by omega), put_n (by omega), tb_s, nI_1]
    have val : (if h 67 (5 * g + i) &&& m = 0 then (0 : Int32) else nI x) = nI (how0 b (5 * g + i)) := by
      have s1 := s (5 * g + i) (by omega)
      cases hb : b (5 * g + i) with
      | true =>
        rw [if_neg (fun e => by rw [s1.mp e] at hb; exact absurd hb (by decide)), hx _ (by omega) hb]
      | false =>
        rw [if_pos (s1.mpr hb), how0, if_pos hb]
        rfl
    rw [val]
    obtain ⟨h', e1, p1, f1⟩ := ih n (i + 1) (hset h 68 (5 * g + i) (nI (how0 b (5 * g + i)))) (by omega) (by omega) (fun f hf => by
      rw [hset_oth (by omega)]
      exact s f hf) (fun f hf => by
      by_cases q : f = 5 * g + i
      · subst q
        exact hset_same
      · rw [hset_oth (by omega)]
        exact p f (by omega))
    refine ⟨h', e1, p1, fun o ho => ?_⟩
    rw [f1 o ho, hset_sR, sR_o ho]

