/-! damage: what the model lays -/
def dmg (v : Nat → Int32) (k t i : Nat) : Bool := decide (N v (13 + 4 * k + 2) ≤ t ∧ t ≤ N v (13 + 4 * k + 3) ∧ 360 * i < (N v (13 + 4 * k + 1) + 1) * (N v 0 + N v 1 * t) ∧ N v (13 + 4 * k) * (N v 0 + N v 1 * t) < 360 * (i + 1))
def anyD (v : Nat → Int32) (x : Int32) (t i : Nat) : Nat → Bool
  | 0 => false
  | k + 1 => anyD v x t i k || (decide (nI k ≠ x) && dmg v k t i)
def bI (b : Bool) : Int32 := if b = true then 1 else 0
theorem m_damages {v : Nat → Int32} {h : HP} {k t i : Nat} (w : WS v) (c : WC v) (e : h 71 = v) (hk : k < N v 12) (ht : t ≤ 29) (hi : i < N v 0 + N v 1 * t) : f_X11_damages (nI k) (nI t) (nI i) h = some (bI (dmg v k t i)) := by
  have h8 := c.1.2.1
  obtain ⟨c0, c1, c2, c3⟩ := c.2 k hk
  have hF := w.fm
  have hfo := (FM_fo (t := t) hF (by omega)).2
  have d0 := c0.2.1
  have d1 := c1.2.1
  have d2 := c2.2.1
  have d3 := c3.2.1
  have ix : ((13 : Int32) + ((4 : Int32) * nI k)) = nI (13 + 4 * k) := by rw [lit_n 13, lit_n 4, pk_mul, nI_add]
  have i1 : nI (13 + 4 * k) + (1 : Int32) = nI (13 + 4 * k + 1) := nI_1 _
  have i2 : nI (13 + 4 * k) + (2 : Int32) = nI (13 + 4 * k + 2) := by rw [lit_n 2, nI_add]
  have i3 : nI (13 + 4 * k) + (3 : Int32) = nI (13 + 4 * k + 3) := by rw [lit_n 3, nI_add]
  have m1 : (N v (13 + 4 * k + 1) + 1) * (N v 0 + N v 1 * t) ≤ 360 * 220 := Nat.mul_le_mul (by omega) hfo
  have m0 : N v (13 + 4 * k) * (N v 0 + N v 1 * t) ≤ 360 * 220 := Nat.mul_le_mul (by omega) hfo
  rw [f_X11_damages, ix, i1, i2, i3, gd_t (inB_n (by omega) (by decide)), gd_t (inB_n (by omega) (by decide)), gd_t (inB_n (by omega) (by decide)), gd_t (inB_n (by omega) (by decide)), nI_clamp (by omega), nI_clamp (by omega), nI_clamp (by omega), nI_clamp (by omega), e, m_framesOf, c_framesOf (w.gm e), c0.2.2, c1.2.2, c2.2.2, c3.2.2, nI_1, nI_1, pk_mul, pk_mul, lit_n 360, pk_mul, pk_mul, f_X11_in]
  unfold dmg bI
  generalize (N v (13 + 4 * k + 1) + 1) * (N v 0 + N v 1 * t) = A at *
  generalize N v (13 + 4 * k) * (N v 0 + N v 1 * t) = B at *
  by_cases q1 : t < N v (13 + 4 * k + 2)
  · rw [if_pos (nI_lt q1 (by omega)), if_pos rfl, decide_eq_false (by omega)]
    rfl
  · rw [if_neg (nI_nlt (by omega) (by omega))]
    by_cases q2 : N v (13 + 4 * k + 3) < t
    · rw [if_pos (nI_lt q2 (by omega)), if_pos rfl, decide_eq_false (by omega)]
      rfl
    · rw [if_neg (nI_nlt (by omega) (by omega)), if_neg (by decide)]
      by_cases q3 : A ≤ 360 * i
      · rw [if_pos (nI_le q3 (by omega)), decide_eq_false (by omega)]
        rfl
      · rw [if_neg (nI_ge (by omega) (by omega))]
        by_cases q4 : 360 * (i + 1) ≤ B
        · rw [if_pos (nI_le q4 (by omega)), decide_eq_false (by omega)]
          rfl
        · rw [if_neg (nI_ge (by omega) (by omega)), decide_eq_true (by omega)]
          rfl
theorem m_lay_L25 {v : Nat → Int32} {h : HP} {x : Int32} {t i : Nat} (w : WS v) (c : WC v) (e : h 71 = v) (ht : t ≤ 29) (hi : i < N v 0 + N v 1 * t) : ∀ d n k, k + d = N v 12 → d < n → f_X11_lay_L25 n x (nI t) (nI i) (bI (anyD v x t i k)) (nI k) h = some (bI (anyD v x t i (N v 12))) := by
  have h8 := c.1.2.1
  intro d
  induction d with
  | zero =>
    intro n k hk hn
    obtain ⟨n, rfl⟩ : ∃ n', n = n' + 1 := ⟨n - 1, by omega⟩
    rw [f_X11_lay_L25, e, c.1.2.2, if_pos (nI_le (by omega) (by omega))]
    have : k = N v 12 := by omega
    rw [this]
  | succ d ih =>
    intro n k hk hn
    obtain ⟨n, rfl⟩ : ∃ n', n = n' + 1 := ⟨n - 1, by omega⟩
    rw [f_X11_lay_L25, e, c.1.2.2, if_neg (nI_ge (by omega) (by omega))]
    have key : (if bI (anyD v x t i k) = 0 then (if nI k = x then some (0 : Int32) else ob (f_X11_damages (nI k) (nI t) (nI i) h) (fun q53 => if q53 = 0 then some (0 : Int32) else some (1 : Int32))) else some (1 : Int32)) = some (bI (anyD v x t i (k + 1))) := by
      rw [anyD]
      cases anyD v x t i k with
      | true => rfl
      | false =>
        rw [if_pos (show bI false = 0 by decide)]
        by_cases q : nI k = x
        · rw [if_pos q, decide_eq_false (fun f => f q)]
          rfl
        · rw [if_neg q, decide_eq_true q, ob_e (m_damages w c e (by omega) ht hi)]
          cases dmg v k t i <;> rfl
    rw [ob_e key, nI_1]
    exact ih n (k + 1) (by omega) (by omega)
/-- the row of damage, laid up to the frame B -/
def lyV (v : Nat → Int32) (x : Int32) (f : Nat) : Bool := anyD v x (TU (N v 0) (N v 1) f) (f - STn (N v 0) (N v 1) (TU (N v 0) (N v 1) f)) (N v 12)
def lyR (v : Nat → Int32) (x : Int32) (B : Nat) (r : Nat → Int32) : Nat → Int32 := fun f => if f < B then bI (lyV v x f) else r f
theorem lyR_s {v : Nat → Int32} {x : Int32} {B : Nat} {r : Nat → Int32} : up (lyR v x B r) B (bI (lyV v x B)) = lyR v x (B + 1) r := by
  funext f
  unfold up lyR
  by_cases q : f = B
  · subst q
    rw [if_pos rfl, if_pos (by omega)]
  · rw [if_neg q]
    by_cases q2 : f < B
    · rw [if_pos q2, if_pos (by omega)]
    · rw [if_neg q2, if_neg (by omega)]
theorem lyR_0 {v : Nat → Int32} {x : Int32} {r : Nat → Int32} : lyR v x 0 r = r := by
  funext f
  exact if_neg (by omega)
theorem nar_bI {b : Bool} : vp_nar .boolean (bI b) = bI b := by
  cases b <;> decide
theorem m_lay_L10 {v r : Nat → Int32} {x : Int32} {t : Nat} (w : WS v) (c : WC v) (ht : t ≤ 29) : ∀ d n i h, i + d = N v 0 + N v 1 * t → d < n → h 71 = v → h 76 = lyR v x (STn (N v 0) (N v 1) t + i) r → f_X11_lay_L10 n x (nI t) (nI i) h = some (sR h 76 (lyR v x (STn (N v 0) (N v 1) (t + 1)) r)) := by
  have hF := w.fm
  have hfo := (FM_fo (t := t) hF (by omega)).2
  have hst := FM_st (t := t + 1) hF (by omega)
  have hs1 : STn (N v 0) (N v 1) (t + 1) = STn (N v 0) (N v 1) t + (N v 0 + N v 1 * t) := rfl
  intro d
  induction d with
  | zero =>
    intro n i h hi hn e er
    obtain ⟨n, rfl⟩ : ∃ n', n = n' + 1 := ⟨n - 1, by omega⟩
    rw [f_X11_lay_L10, m_framesOf, c_framesOf (w.gm e), if_pos (nI_le (by omega) (by omega))]
    have : STn (N v 0) (N v 1) t + i = STn (N v 0) (N v 1) (t + 1) := by omega
    rw [← this, ← er, sR_id]
  | succ d ih =>
    intro n i h hi hn e er
    obtain ⟨n, rfl⟩ : ∃ n', n = n' + 1 := ⟨n - 1, by omega⟩
    have l25 := m_lay_L25 (h := h) (x := x) w c e ht (show i < N v 0 + N v 1 * t by omega) (N v 12) FU 0 (by omega) (Nat.lt_of_le_of_lt c.1.2.1 (by decide))
    have e0 : bI (anyD v x t i 0) = 0 := rfl
    rw [e0, nI_0] at l25
    have tu : TU (N v 0) (N v 1) (STn (N v 0) (N v 1) t + i) = t := TU_of ht (by omega) (by omega)
    have val : anyD v x t i (N v 12) = lyV v x (STn (N v 0) (N v 1) t + i) := by
      unfold lyV
      rw [tu, Nat.add_sub_cancel_left]
    rw [f_X11_lay_L10, m_framesOf, c_framesOf (w.gm e), if_neg (nI_ge (by omega) (by omega)), ob_e l25, m_start, c_firstOf (w.gm e) (by omega), nI_add, gd_t (inB_n (by omega) (by decide)), nI_clamp (by omega), nar_bI, val, hset_sR, er, lyR_s, nI_1, Nat.add_assoc]
    rw [ih n (i + 1) _ (by omega) (by omega) (by rw [sR_o (by decide)]; exact e) sR_s, sR_2]
theorem m_lay_L2 {v r : Nat → Int32} {x : Int32} (w : WS v) (c : WC v) : ∀ d n t h, t + d = 30 → d < n → h 71 = v → h 76 = lyR v x (STn (N v 0) (N v 1) t) r → f_X11_lay_L2 n x (nI t) h = some (sR h 76 (lyR v x (TOT v) r)) := by
  intro d
  induction d with
  | zero =>
    intro n t h ht hn e er
    obtain ⟨n, rfl⟩ : ∃ n', n = n' + 1 := ⟨n - 1, by omega⟩
    have : t = 30 := by omega
    subst this
    rw [f_X11_lay_L2, lit_n 30, if_pos (nI_le (Nat.le_refl _) (by decide)), TOT, ← er, sR_id]
  | succ d ih =>
    intro n t h ht hn e er
    obtain ⟨n, rfl⟩ : ∃ n', n = n' + 1 := ⟨n - 1, by omega⟩
    have hfo := (FM_fo (t := t) w.fm (by omega)).2
    have l10 := m_lay_L10 (r := r) (x := x) w c (show t ≤ 29 by omega) (N v 0 + N v 1 * t) FU 0 h (by omega) (Nat.lt_of_le_of_lt hfo (by decide)) e er
    rw [nI_0] at l10
    rw [f_X11_lay_L2, lit_n 30, if_neg (nI_ge (by omega) (by omega)), ob_e l10, nI_1]
    rw [ih n (t + 1) _ (by omega) (by omega) (by rw [sR_o (by decide)]; exact e) sR_s, sR_2]
theorem m_lay {v : Nat → Int32} {x : Int32} {h : HP} (w : WS v) (c : WC v) (e : h 71 = v) : f_X11_lay x h = some (sR h 76 (lyR v x (TOT v) (h 76))) := by
  have l2 := m_lay_L2 (x := x) (r := h 76) w c 30 FU 0 h rfl (by decide) e lyR_0.symm
  rw [nI_0] at l2
  rw [f_X11_lay]
  exact ob_e (k := fun r => some r) l2
/-- what a frame is, from what is damaged -/
def grp (b : Nat → Bool) (g : Nat) : Nat := (b (5 * g)).toNat + (b (5 * g + 1)).toNat + (b (5 * g + 2)).toNat + (b (5 * g + 3)).toNat + (b (5 * g + 4)).toNat
def snd (b : Nat → Bool) (f : Nat) : Bool := !(b f) || decide (grp b (f / 5) = 1)
def bef (f : Nat) : Nat := if f % 5 = 0 then f - 2 else f - 1
def aft (f : Nat) : Nat := if f % 5 = 3 then f + 2 else f + 1
def how (b : Nat → Bool) (T f : Nat) : Nat :=
  if b f = false then 0 else if grp b (f / 5) = 1 then 1
  else if f % 5 ≠ 4 ∧ f ≠ 0 ∧ aft f < T ∧ snd b (bef f) = true ∧ snd b (aft f) = true then 2 else 3
theorem bI_0 {b : Bool} : (bI b = 0) ↔ b = false := by
  cases b <;> decide
theorem bI_n {b : Bool} : bI b = nI b.toNat := by
  cases b <;> decide
def MB (v : Nat → Int32) (b : Nat → Bool) (h : HP) : Prop := h 71 = v ∧ ∀ f, f < TOT v → h 76 f = bI (b f)
theorem m_sum {v : Nat → Int32} {b : Nat → Bool} {h : HP} {f : Nat} (w : WS v) (m : MB v b h) (hf : f < TOT v) : f_X11_isSound_L15 FU (nI f) (0 : Int32) (0 : Int32) h = some (nI (grp b (f / 5))) := by
  have hT := FM_tot w.fm
  have hT' : TOT v ≤ 3810 ∧ TOT v % 5 = 0 := hT.2
  have hg : f_X11_hasGroup (nI f) h = 1 := by
    rw [f_X11_hasGroup, m_frames, c_allFrames (w.gm m.1), lit_n 5, pk_div (by omega) (by decide) (by decide), pk_div (by omega) (by decide) (by decide)]
    show (if nI (TOT v / 5) ≤ nI (f / 5) then _ else _) = _
    rw [if_neg (nI_ge (by omega) (by omega))]
  have step : ∀ n s i, i < 5 → f_X11_isSound_L15 (n + 1) (nI f) (nI s) (nI i) h = f_X11_isSound_L15 n (nI f) (nI (s + (b (5 * (f / 5) + i)).toNat)) (nI (i + 1)) h := by
    intro n s i hi
    rw [f_X11_isSound_L15, lit_n 5, if_neg (nI_ge (by omega) (by omega)), hg, if_neg (by decide), pk_div (by omega) (by decide) (by decide), pk_mul, nI_add, gd_t (inB_n (by omega) (by decide)), nI_clamp (by omega)]
    have e1 : f / 5 * 5 + i = 5 * (f / 5) + i := by omega
    rw [e1, m.2 _ (by omega), tb_s, nI_1]
    congr 1
    cases b (5 * (f / 5) + i) with
    | true =>
      rw [if_neg (by decide)]
      exact nI_1 s
    | false =>
      rw [if_pos (by decide), Int32.add_zero]
      rfl
  show f_X11_isSound_L15 (999994 + 1 + 1 + 1 + 1 + 1 + 1) (nI f) (nI 0) (nI 0) h = _
  rw [step _ _ _ (by decide), step _ _ _ (by decide), step _ _ _ (by decide), step _ _ _ (by decide), step _ _ _ (by decide)]
  rw [f_X11_isSound_L15, if_pos (by decide), Nat.zero_add]
  rfl
theorem m_isSound {v : Nat → Int32} {b : Nat → Bool} {h : HP} {f : Nat} (w : WS v) (m : MB v b h) (hf : f < TOT v) : f_X11_isSound (nI f) h = some (bI (snd b f)) := by
  have hT := FM_tot w.fm
  have hT' : TOT v ≤ 3810 ∧ TOT v % 5 = 0 := hT.2
  have hgr : grp b (f / 5) ≤ 5 := by
    unfold grp
    have : ∀ x : Bool, x.toNat ≤ 1 := by decide
    have := this (b (5 * (f / 5)))
    have := Bool.toNat_le (b (5 * (f / 5) + 1))
    have := Bool.toNat_le (b (5 * (f / 5) + 2))
    have := Bool.toNat_le (b (5 * (f / 5) + 3))
    have := Bool.toNat_le (b (5 * (f / 5) + 4))
    omega
  rw [f_X11_isSound, gd_t (inB_n (by omega) (by decide)), nI_clamp (by omega), m.2 f hf, ob_e (m_sum w m hf), snd]
  cases b f with
  | false => rfl
  | true =>
    rw [if_neg (by decide), lit_n 1]
    by_cases q : grp b (f / 5) = 1
    · rw [if_pos (by rw [q]), decide_eq_true q]
      rfl
    · rw [if_neg (fun c => q ((nI_eq (by omega) (by decide)).mp c)), decide_eq_false q]
      rfl
