/-! the model's rows put aside, put back, recorded -/
def cpR (a b : Nat → Int32) (i : Nat) : Nat → Int32 := fun k => if k < i then a k else b k
theorem cpR_s {a b : Nat → Int32} {i : Nat} : up (cpR a b i) i (a i) = cpR a b (i + 1) := by
  funext k
  unfold up cpR
  by_cases q : k = i
  · subst q
    rw [if_pos rfl, if_pos (by omega)]
  · rw [if_neg q]
    by_cases q2 : k < i
    · rw [if_pos q2, if_pos (by omega)]
    · rw [if_neg q2, if_neg (by omega)]
theorem cpR_0 {a b : Nat → Int32} : cpR a b 0 = b := by
  funext k
  exact if_neg (Nat.not_lt_zero _)
theorem cpR_e {a b : Nat → Int32} : E6 (cpR a b 166) a := fun k hk => if_pos hk
theorem m_copyL {f : Nat → Int32 → HP → Option HP} {s d : Nat} (hsd : s ≠ d) (hf : ∀ n i h, i < 166 → f (n + 1) (nI i) h = f n (nI (i + 1)) (hset h d i (h s i))) (hl : ∀ n h, f (n + 1) (nI 166) h = some h) : ∀ e n i h b, i + e = 166 → e < n → h d = cpR (h s) b i → f n (nI i) h = some (sR h d (cpR (h s) b 166)) := by
  intro e
  induction e with
  | zero =>
    intro n i h b hi hn er
    obtain ⟨n, rfl⟩ : ∃ n', n = n' + 1 := ⟨n - 1, by omega⟩
    have : i = 166 := by omega
    subst this
    rw [hl, ← er, sR_id]
  | succ e ih =>
    intro n i h b hi hn er
    obtain ⟨n, rfl⟩ : ∃ n', n = n' + 1 := ⟨n - 1, by omega⟩
    rw [hf n i h (by omega), hset_sR]
    have := ih n (i + 1) (sR h d (up (h d) i (h s i))) b (by omega) (by omega) (by rw [sR_s, sR_o hsd, er, cpR_s])
    rw [this, sR_2, sR_o hsd]
theorem m_copy {f : Nat → Int32 → HP → Option HP} {s d : Nat} (hsd : s ≠ d) (hf : ∀ n i h, i < 166 → f (n + 1) (nI i) h = f n (nI (i + 1)) (hset h d i (h s i))) (hl : ∀ n h, f (n + 1) (nI 166) h = some h) (h : HP) : f FU (0 : Int32) h = some (sR h d (cpR (h s) (h d) 166)) := by
  have := m_copyL hsd hf hl 166 FU 0 h (h d) rfl (by decide) cpR_0.symm
  rw [nI_0] at this
  exact this
theorem m_putAside (h : HP) : f_X11_putAside h = some (sR h 72 (cpR (h 71) (h 72) 166)) := by
  rw [f_X11_putAside]
  refine ob_e (k := fun r => some r) (m_copy (by decide) (fun n i h hi => ?_) (fun n h => ?_) h)
  · rw [f_X11_putAside_L2, if_neg (show ¬ (166 : Int32) ≤ nI i from nI_ge (b := 166) hi (by decide)), gd_t (inB_n hi (by decide)), gd_t (inB_n hi (by decide)), nI_clamp (by omega), nI_1]
  · rw [f_X11_putAside_L2, if_pos (by decide)]
theorem m_putBack (h : HP) : f_X11_putBack h = some (sR h 71 (cpR (h 72) (h 71) 166)) := by
  rw [f_X11_putBack]
  refine ob_e (k := fun r => some r) (m_copy (by decide) (fun n i h hi => ?_) (fun n h => ?_) h)
  · rw [f_X11_putBack_L2, if_neg (show ¬ (166 : Int32) ≤ nI i from nI_ge (b := 166) hi (by decide)), gd_t (inB_n hi (by decide)), gd_t (inB_n hi (by decide)), nI_clamp (by omega), nI_1]
  · rw [f_X11_putBack_L2, if_pos (by decide)]
theorem m_keep_L2 (h : HP) : f_X11_keep_L2 FU (0 : Int32) h = some (sR h 74 (cpR (h 71) (h 74) 166)) := by
  refine m_copy (by decide) (fun n i h hi => ?_) (fun n h => ?_) h
  · rw [f_X11_keep_L2, if_neg (show ¬ (166 : Int32) ≤ nI i from nI_ge (b := 166) hi (by decide)), gd_t (inB_n hi (by decide)), gd_t (inB_n hi (by decide)), nI_clamp (by omega), nI_1]
  · rw [f_X11_keep_L2, if_pos (by decide)]
theorem m_restore_L16 (h : HP) : f_X11_restore_L16 FU (0 : Int32) h = some (sR h 71 (cpR (h 74) (h 71) 166)) := by
  refine m_copy (by decide) (fun n i h hi => ?_) (fun n h => ?_) h
  · rw [f_X11_restore_L16, if_neg (show ¬ (166 : Int32) ≤ nI i from nI_ge (b := 166) hi (by decide)), gd_t (inB_n hi (by decide)), gd_t (inB_n hi (by decide)), nI_clamp (by omega), nI_1]
  · rw [f_X11_restore_L16, if_pos (by decide)]
/-- the model's history -/
def MH (h : HP) (n : Nat) (H : Nat → Nat → Int32) : Prop := n ≤ 4 ∧ h 70 3 = nI n ∧ ∀ j, j < n → E6 (fun k => h 73 (166 * j + k)) (H j)
theorem m_act_L20 : ∀ e n i h (r : Nat → Int32), i + e = 498 → e < n → (∀ k, h 73 k = if k < i then r (166 + k) else r k) → ∃ h', f_X11_act_L20 n (nI i) h = some h' ∧ (∀ k, k < 498 → h' 73 k = r (166 + k)) ∧ ∀ o, o ≠ 73 → h' o = h o := by
  intro e
  induction e with
  | zero =>
    intro n i h r hi hn er
    obtain ⟨n, rfl⟩ : ∃ n', n = n' + 1 := ⟨n - 1, by omega⟩
    have : i = 498 := by omega
    subst this
    rw [f_X11_act_L20, if_pos (by decide)]
    exact ⟨h, rfl, fun k hk => (er k).trans (if_pos hk), fun _ _ => rfl⟩
  | succ e ih =>
    intro n i h r hi hn er
    obtain ⟨n, rfl⟩ : ∃ n', n = n' + 1 := ⟨n - 1, by omega⟩
    have ix : (166 : Int32) + nI i = nI (166 + i) := by rw [lit_n 166, nI_add]
    rw [f_X11_act_L20, if_neg (show ¬ (498 : Int32) ≤ nI i from nI_ge (b := 498) (by omega) (by decide)), ix, gd_t (inB_n (by omega) (by decide)), gd_t (inB_n (by omega) (by decide)), nI_clamp (by omega), nI_clamp (by omega), nI_1, er (166 + i), if_neg (by omega)]
    obtain ⟨h', e1, e2, e3⟩ := ih n (i + 1) (hset h 73 i (r (166 + i))) r (by omega) (by omega) (fun k => by
      by_cases q : k = i
      · subst q
        rw [hset_same, if_pos (by omega)]
      · rw [hset_oth (by omega), er k]
        by_cases q2 : k < i
        · rw [if_pos q2, if_pos (by omega)]
        · rw [if_neg q2, if_neg (by omega)])
    exact ⟨h', e1, e2, fun o ho => (e3 o ho).trans (by rw [hset_sR, sR_o ho])⟩
theorem m_act_L61 {m : Nat} (hm : m < 4) : ∀ e n i h, i + e = 166 → e < n → h 70 3 = nI m → (∀ k, k < i → h 73 (166 * m + k) = h 72 k) → ∃ h', f_X11_act_L61 n (nI i) h = some h' ∧ (∀ k, k < 166 → h' 73 (166 * m + k) = h 72 k) ∧ (∀ k, k < 166 * m → h' 73 k = h 73 k) ∧ ∀ o, o ≠ 73 → h' o = h o := by
  intro e
  induction e with
  | zero =>
    intro n i h hi hn e3 er
    obtain ⟨n, rfl⟩ : ∃ n', n = n' + 1 := ⟨n - 1, by omega⟩
    have : i = 166 := by omega
    subst this
    rw [f_X11_act_L61, if_pos (by decide)]
    exact ⟨h, rfl, er, fun _ _ => rfl, fun _ _ => rfl⟩
  | succ e ih =>
    intro n i h hi hn e3 er
    obtain ⟨n, rfl⟩ : ∃ n', n = n' + 1 := ⟨n - 1, by omega⟩
    have ix : ((166 : Int32) * nI m) + nI i = nI (166 * m + i) := by rw [lit_n 166, pk_mul, nI_add]
    rw [f_X11_act_L61, if_neg (show ¬ (166 : Int32) ≤ nI i from nI_ge (b := 166) (by omega) (by decide)), e3, ix, gd_t (inB_n (by omega) (by decide)), gd_t (inB_n (by omega) (by decide)), nI_clamp (by omega), nI_clamp (by omega), nI_1]
    obtain ⟨h', g1, g2, g3, g4⟩ := ih n (i + 1) (hset h 73 (166 * m + i) (h 72 i)) (by omega) (by omega) (by rw [hset_oth (by omega)]; exact e3) (fun k hk => by
      rw [hset_oth (show ¬ (72 = 73 ∧ k = 166 * m + i) by omega)]
      by_cases q : k = i
      · subst q
        exact hset_same
      · rw [hset_oth (by omega)]
        exact er k (by omega))
    refine ⟨h', g1, fun k hk => ?_, fun k hk => ?_, fun o ho => (g4 o ho).trans (by rw [hset_sR, sR_o ho])⟩
    · rw [g2 k hk, hset_oth (by omega)]
    · rw [g3 k hk, hset_oth (by omega)]
theorem m_act_yes {h : HP} {n : Nat} {H : Nat → Nat → Int32} {x : Int32} (hx : 0 ≤ x) (c : MH h n H) : ∃ h', f_X11_act x h = some (x, h') ∧ MH h' (pN n) (pH n H (h 72)) ∧ (∀ o, o ≠ 70 → o ≠ 73 → h' o = h o) ∧ ∀ k, k ≠ 3 → h' 70 k = h 70 k := by
  obtain ⟨c1, c2, c3⟩ := c
  have core : ∀ (m : Nat) (h0 : HP) (H0 : Nat → Nat → Int32), m < 4 → h0 70 3 = nI m → (∀ j, j < m → E6 (fun k => h0 73 (166 * j + k)) (H0 j)) → ∃ h', ob (f_X11_act_L61 FU (0 : Int32) h0) (fun q61 => some (x, hset q61 70 3 ((q61 70 3) + (1 : Int32)))) = some (x, h') ∧ MH h' (m + 1) (fun j => if j = m then h0 72 else H0 j) ∧ (∀ o, o ≠ 70 → o ≠ 73 → h' o = h0 o) ∧ ∀ k, k ≠ 3 → h' 70 k = h0 70 k := by
    intro m h0 H0 hm e0 eH
    obtain ⟨h1, g1, g2, g3, g4⟩ := m_act_L61 hm 166 FU 0 h0 rfl (by decide) e0 (fun k hk => absurd hk (Nat.not_lt_zero _))
    rw [nI_0] at g1
    rw [ob_e g1]
    refine ⟨_, rfl, ⟨by omega, ?_, fun j hj k hk => ?_⟩, fun o h1 h2 => ?_, fun k hk => ?_⟩
    · rw [hset_same, g4 70 (by decide), e0, nI_1]
    · show hset h1 70 3 _ 73 (166 * j + k) = (if j = m then h0 72 else H0 j) k
      rw [hset_oth (by omega)]
      by_cases q : j = m
      · subst q
        rw [if_pos rfl, g2 k hk]
      · rw [if_neg q, g3 _ (by omega)]
        exact eH j (by omega) k hk
    · rw [hset_sR, sR_o h1, g4 o h2]
    · rw [hset_oth (by omega), g4 70 (by decide)]
  rw [f_X11_act, if_pos hx, c2]
  by_cases q : n = 4
  · subst q
    rw [if_pos (by decide)]
    obtain ⟨h1, g1, g2, g3⟩ := m_act_L20 498 FU 0 h (h 73) rfl (by decide) (fun k => by rw [if_neg (Nat.not_lt_zero _)])
    rw [nI_0] at g1
    rw [ob_e g1, ob_s]
    have e70 : h1 70 3 - 1 = nI 3 := by
      rw [g3 70 (by decide), c2]
      decide
    rw [e70]
    obtain ⟨h', f1, f2, f3, f4⟩ := core 3 (hset h1 70 3 (nI 3)) (fun j => H (j + 1)) (by decide) hset_same (fun j hj k hk => by
      show hset h1 70 3 (nI 3) 73 (166 * j + k) = _
      rw [hset_oth (by omega), g2 _ (by omega)]
      have := c3 (j + 1) (by omega) k hk
      rw [← this]
      show _ = h 73 (166 * (j + 1) + k)
      rw [show 166 * (j + 1) + k = 166 + (166 * j + k) by omega])
    have e72 : hset h1 70 3 (nI 3) 72 = h 72 := by rw [hset_sR, sR_o (by decide), g3 72 (by decide)]
    refine ⟨h', f1, ?_, fun o h1 h2 => ?_, fun k hk => ?_⟩
    · unfold pN pH
      rw [if_pos rfl, if_pos rfl]
      refine ⟨f2.1, f2.2.1, fun j hj k hk => ?_⟩
      have := f2.2.2 j hj k hk
      rw [this, e72]
      by_cases q3 : j < 3
      · show (if j = 3 then h 72 else H (j + 1)) k = (if j < 3 then H (j + 1) else h 72) k
        rw [if_neg (by omega), if_pos q3]
      · show (if j = 3 then h 72 else H (j + 1)) k = (if j < 3 then H (j + 1) else h 72) k
        rw [if_pos (by omega), if_neg q3]
    · rw [f3 o h1 h2, hset_sR, sR_o h1, g3 o h2]
    · rw [f4 k hk, hset_oth (by omega), g3 70 (by decide)]
  · rw [if_neg (show ¬ nI n = (4 : Int32) from fun e => q ((nI_eq (b := 4) (by omega) (by decide)).mp e)), ob_s]
    obtain ⟨h', f1, f2, f3, f4⟩ := core n h H (by omega) c2 c3
    refine ⟨h', f1, ?_, f3, f4⟩
    unfold pN pH
    rw [if_neg q, if_neg q]
    exact f2
theorem m_act_no {h : HP} {x : Int32} (hx : ¬ 0 ≤ x) : f_X11_act x h = some (x, sR h 71 (cpR (h 72) (h 71) 166)) := by
  rw [f_X11_act, if_neg hx, ob_e (m_putBack h)]
