/-! the history of the class -/
def isS (o : Nat) : Prop := o = 27 ∨ o = 35 ∨ o = 43 ∨ o = 51
theorem isS_st {o : Nat} (q : isS o) : isSt (nI o) = true ∧ ¬ nI o = 0 ∧ (nI o).toNatClampNeg = o := by
  rcases q with q | q | q | q <;> subst q <;> decide
theorem isS_far {o p : Nat} (q : isS o) (r : isS p) (hne : o ≠ p) : p + 7 < o ∨ o + 7 < p := by
  unfold isS at q r
  omega
theorem isS_rng {o : Nat} (q : isS o) : 27 ≤ o ∧ o ≤ 51 := by
  unfold isS at q
  omega
def CHs (h : HP) (n : Nat) (H : Nat → Nat → Int32) (σ : Nat → Nat) : Prop := (∀ j, j < 4 → isS (σ j) ∧ h 26 j = nI (σ j)) ∧ (∀ i j, i < 4 → j < 4 → σ i = σ j → i = j) ∧ ∀ j, j < n → R h (σ j) (H j)
def CH (h : HP) (n : Nat) (H : Nat → Nat → Int32) : Prop := n ≤ 4 ∧ h 25 1 = nI n ∧ ∃ σ, CHs h n H σ
def pN (n : Nat) : Nat := if n = 4 then 4 else n + 1
def pH (n : Nat) (H : Nat → Nat → Int32) (vo : Nat → Int32) : Nat → Nat → Int32 := if n = 4 then (fun j => if j < 3 then H (j + 1) else vo) else (fun j => if j = n then vo else H j)
theorem CH.of {h h' : HP} {n : Nat} {H : Nat → Nat → Int32} (c : CH h n H) (e : ∀ o, 25 ≤ o → o ≤ 58 → h' o = h o) : CH h' n H := by
  obtain ⟨c1, c2, σ, s1, s2, s3⟩ := c
  refine ⟨c1, by rw [e 25 (by decide) (by decide)]; exact c2, σ, ⟨fun j hj => ?_, s2, fun j hj => ?_⟩⟩
  · rw [e 26 (by decide) (by decide)]
    exact s1 j hj
  · have := isS_rng (s1 j (by omega)).1
    exact (s3 j hj).of (fun a h1 h2 => e a (by omega) (by omega))
theorem c_stateAt {h : HP} {j : Nat} (hj : j < 4) : f_X2_stateAt (nI j) h = h 26 j := by
  rw [f_X2_stateAt, if_neg (nI_pos (by omega)), if_neg (show ¬ (4 : Int32) ≤ nI j from nI_ge (b := 4) hj (by decide)), nI_clamp (by omega)]
theorem c_dropOldest {h : HP} {σ : Nat → Nat} {n : Nat} (s : ∀ j, j < 4 → isS (σ j) ∧ h 26 j = nI (σ j)) (e : h 25 1 = nI (n + 1)) : ∃ h', f_X2_dropOldest h = some h' ∧ (∀ j, j < 3 → h' 26 j = nI (σ (j + 1))) ∧ h' 26 3 = nI (σ 0) ∧ h' 25 1 = nI n ∧ ∀ o, o ≠ 25 → o ≠ 26 → h' o = h o := by
  have a0 := isS_st (s 0 (by decide)).1
  have a1 := isS_st (s 1 (by decide)).1
  have a2 := isS_st (s 2 (by decide)).1
  have a3 := isS_st (s 3 (by decide)).1
  have e0 : f_X2_stateAt (0 : Int32) h = nI (σ 0) := (c_stateAt (h := h) (j := 0) (by decide)).trans (s 0 (by decide)).2
  have step : ∀ m k h0, 1 ≤ k → k < 4 → h0 26 k = nI (σ k) → f_X2_dropOldest_L8 (m + 1) (nI k) h0 = f_X2_dropOldest_L8 m (nI (k + 1)) (hset h0 26 (k - 1) (nI (σ k))) := by
    intro m k h0 k1 k2 ek
    rw [f_X2_dropOldest_L8, if_neg (show ¬ (4 : Int32) ≤ nI k from nI_ge (b := 4) k2 (by decide)), lit_n 1, pk_sub k1, gd_t (inB_n (by omega) (by decide)), gd_t (inB_n (by omega) (by decide)), nI_clamp (by omega), nI_clamp (by omega), ek, gd_t (isS_st (s k k2).1).1, ← lit_n 1, nI_1]
  have key : f_X2_dropOldest_L8 (999996 + 1 + 1 + 1 + 1) (nI 1) h = some (hset (hset (hset h 26 0 (nI (σ 1))) 26 1 (nI (σ 2))) 26 2 (nI (σ 3))) := by
    rw [step _ 1 _ (by decide) (by decide) (s 1 (by decide)).2, step _ 2 _ (by decide) (by decide) (by rw [hset_oth (by decide)]; exact (s 2 (by decide)).2), step _ 3 _ (by decide) (by decide) (by rw [hset_oth (by decide), hset_oth (by decide)]; exact (s 3 (by decide)).2), f_X2_dropOldest_L8, if_pos (by decide)]
  rw [f_X2_dropOldest, e0, if_neg a0.2.1, gd_t a0.1]
  refine ⟨hset (hset (hset (hset (hset h 26 0 (nI (σ 1))) 26 1 (nI (σ 2))) 26 2 (nI (σ 3))) 26 3 (nI (σ 0))) 25 1 (nI n), (ob_e key).trans ?_, ?_⟩
  · rw [if_neg (by decide), gd_t (by decide), ob_s]
    have : (((4 : Int32) - (1 : Int32)).toNatClampNeg) = 3 := by decide
    rw [this]
    simp [hset, e, nI_pred]
  · refine ⟨fun j hj => ?_, ?_, ?_, fun o h1 h2 => ?_⟩
    · have : j = 0 ∨ j = 1 ∨ j = 2 := by omega
      rcases this with q | q | q <;> subst q <;> simp [hset]
    · simp [hset]
    · simp [hset]
    · funext k
      simp [hset, h1, h2]
theorem c_add {h : HP} {n : Nat} {H : Nat → Nat → Int32} {vo : Nat → Int32} (c : CH h n H) (r : R h 9 vo) (wc : WC vo) (wp : WP vo) : ∃ h', f_X2_add 9 h = some h' ∧ CH h' (pN n) (pH n H vo) ∧ ∀ o, o ≤ 24 ∨ 59 ≤ o → h' o = h o := by
  obtain ⟨c1, c2, σ, s1, s2, s3⟩ := c
  have core : ∀ (m : Nat) (h0 : HP) (H0 : Nat → Nat → Int32) (τ : Nat → Nat), m < 4 → h0 25 1 = nI m → CHs h0 m H0 τ → R h0 9 vo → ∃ h', (if f_X2_stateAt (h0 25 1) h0 = 0 then some h0 else gd (isSt (f_X2_stateAt (h0 25 1) h0)) (tb (f_X6_copyFrom ((f_X2_stateAt (h0 25 1) h0).toNatClampNeg) 9 h0) (fun q27 => some (hset q27 25 1 ((q27 25 1) + (1 : Int32)))))) = some h' ∧ CH h' (m + 1) (fun j => if j = m then vo else H0 j) ∧ ∀ o, o ≤ 24 ∨ 59 ≤ o → h' o = h0 o := by
    intro m h0 H0 τ hm e0 ⟨t1, t2, t3⟩ r0
    have am := isS_st (t1 m hm).1
    have rg := isS_rng (t1 m hm).1
    have cp := c6_copy (o := τ m) (p := 9) (h := h0) (by omega) wc wp r0
    rw [e0, c_stateAt hm, (t1 m hm).2, if_neg am.2.1, gd_t am.1, am.2.2, tb_s]
    generalize f_X6_copyFrom (τ m) 9 h0 = h1 at cp ⊢
    have fr : ∀ o, o ≠ 25 → (o ≤ τ m ∨ τ m + 7 < o) → hset h1 25 1 (h1 25 1 + 1) o = h0 o := by
      intro o h1 h2
      rw [hset_sR, sR_o h1, cp.2 o h2]
    refine ⟨_, rfl, ⟨by omega, ?_, τ, ⟨fun j hj => ?_, t2, fun j hj => ?_⟩⟩, fun o ho => fr o (by omega) (by omega)⟩
    · rw [hset_same, cp.2 25 (by omega), e0, nI_1]
    · rw [fr 26 (by decide) (by omega)]
      exact t1 j hj
    · by_cases q : j = m
      · subst q
        show R _ _ (if j = j then vo else H0 j)
        rw [if_pos rfl]
        exact cp.1.of (fun a h1 h2 => by rw [hset_sR, sR_o (by omega)])
      · show R _ _ (if j = m then vo else H0 j)
        rw [if_neg q]
        have rj := isS_rng (t1 j (by omega)).1
        have far := isS_far (t1 j (by omega)).1 (t1 m hm).1 (fun e => q (t2 j m (by omega) hm e))
        exact (t3 j (by omega)).of (fun a h1 h2 => fr a (by omega) (by omega))
  rw [f_X2_add]
  by_cases q : n = 4
  · subst q
    obtain ⟨h1, e1, p1, p2, p3, p4⟩ := c_dropOldest (n := 3) s1 c2
    obtain ⟨h', f1, f2, f3⟩ := core 3 h1 (fun j => H (j + 1)) (fun j => if j < 3 then σ (j + 1) else σ 0) (by decide) p3 ⟨fun j hj => by
        by_cases q3 : j < 3
        · show isS (if j < 3 then σ (j + 1) else σ 0) ∧ _ = nI (if j < 3 then σ (j + 1) else σ 0)
          rw [if_pos q3]
          exact ⟨(s1 (j + 1) (by omega)).1, p1 j q3⟩
        · show isS (if j < 3 then σ (j + 1) else σ 0) ∧ _ = nI (if j < 3 then σ (j + 1) else σ 0)
          rw [if_neg q3]
          have : j = 3 := by omega
          subst this
          exact ⟨(s1 0 (by decide)).1, p2⟩, fun i j hi hj e => by
        have e' : (if i < 3 then σ (i + 1) else σ 0) = (if j < 3 then σ (j + 1) else σ 0) := e
        split at e' <;> split at e'
        · have := s2 _ _ (by omega) (by omega) e'
          omega
        · have := s2 _ _ (by omega) (by omega) e'
          omega
        · have := s2 _ _ (by omega) (by omega) e'
          omega
        · omega, fun j hj => by
        show R h1 (if j < 3 then σ (j + 1) else σ 0) _
        rw [if_pos hj]
        have rg := isS_rng (s1 (j + 1) (by omega)).1
        exact (s3 (j + 1) (by omega)).of (fun a h1 h2 => p4 a (by omega) (by omega))⟩ (r.of (fun a h1 h2 => p4 a (by omega) (by omega)))
    refine ⟨h', ?_, ?_, fun o ho => (f3 o ho).trans (p4 o (by omega) (by omega))⟩
    · rw [c2, if_neg (by decide), ob_e e1]
      exact f1
    · have : (fun j => if j = 3 then vo else H (j + 1)) = (fun j => if j < 3 then H (j + 1) else (if j = 3 then vo else H (j + 1))) := by
        funext j
        by_cases q3 : j < 3
        · rw [if_neg (by omega), if_pos q3]
        · rw [if_neg q3]
      unfold pN pH
      rw [if_pos rfl, if_pos rfl]
      obtain ⟨g1, g2, τ, t1, t2, t3⟩ := f2
      refine ⟨g1, g2, τ, t1, t2, fun j hj => ?_⟩
      have := t3 j hj
      by_cases q3 : j < 3
      · show R _ _ (if j < 3 then H (j + 1) else vo)
        rw [if_pos q3]
        have z : (if j = 3 then vo else H (j + 1)) = H (j + 1) := if_neg (by omega)
        rw [← z]
        exact this
      · show R _ _ (if j < 3 then H (j + 1) else vo)
        rw [if_neg q3]
        have z : (if j = 3 then vo else H (j + 1)) = vo := if_pos (by omega)
        rw [← z]
        exact this
  · obtain ⟨h', f1, f2, f3⟩ := core n h H σ (by omega) c2 ⟨s1, s2, s3⟩ r
    refine ⟨h', ?_, ?_, f3⟩
    · rw [c2, if_pos (show nI n < (4 : Int32) from nI_lt (b := 4) (by omega) (by decide)), ob_s]
      exact f1
    · unfold pN pH
      rw [if_neg q, if_neg q]
      exact f2

