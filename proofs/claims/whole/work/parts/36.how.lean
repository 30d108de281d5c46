/-! the model's frames: damaged, sound, how, counts of them -/
theorem m_isCheck_n {f : Nat} {h : HP} (hf : f < 2 ^ 31) : f_X11_isCheck (nI f) h = if f % 5 = 4 then 1 else 0 := c_isCheck (h := h) hf
theorem m_before {f : Nat} {h : HP} (hf : f < 2 ^ 20) (h4 : f % 5 ≠ 4) (h0 : f ≠ 0) : f_X11_beside (nI f) (-1 : Int32) h = nI (bef f) := by
  have e1 : nI f + (-1 : Int32) = nI (f - 1) := by rw [neg1, nI_z, nI_z, zI_add]; congr 1; omega
  have e2 : nI f + (2 : Int32) * (-1 : Int32) = zI ((f : Int) - 2) := by
    rw [show (2 : Int32) * (-1 : Int32) = zI (-2) by decide, nI_z, zI_add]
    rfl
  rw [f_X11_beside, e1, e2, lit_n 5, nI_add, m_isCheck_n (by omega), bef]
  by_cases q : f % 5 = 0
  · rw [if_pos (show (f - 1 + 5) % 5 = 4 by omega), if_neg (by decide), if_pos q, nI_z]
    congr 1
    omega
  · rw [if_neg (show ¬ (f - 1 + 5) % 5 = 4 by omega), if_pos rfl, if_neg q]
theorem m_before0 {h : HP} : f_X11_beside (nI 0) (-1 : Int32) h = (-2 : Int32) := by
  rw [f_X11_beside, show nI 0 + (-1 : Int32) + (5 : Int32) = nI 4 by decide, m_isCheck_n (by decide)]
  decide
theorem m_after {f : Nat} {h : HP} (hf : f < 2 ^ 20) (h4 : f % 5 ≠ 4) : f_X11_beside (nI f) (1 : Int32) h = nI (aft f) := by
  rw [f_X11_beside, lit_n 2, lit_n 1, lit_n 5, pk_mul, nI_add, nI_add, nI_add, m_isCheck_n (by omega), aft]
  by_cases q : f % 5 = 3
  · rw [if_pos (show (f + 1 + 5) % 5 = 4 by omega), if_neg (by decide), if_pos q]
  · rw [if_neg (show ¬ (f + 1 + 5) % 5 = 4 by omega), if_pos rfl, if_neg q]
theorem bef_lt {f : Nat} (h0 : f ≠ 0) (h4 : f % 5 ≠ 4) : bef f < f := by
  unfold bef
  split <;> omega
theorem how_le {b : Nat → Bool} {T f : Nat} : how b T f ≤ 3 := by
  unfold how
  repeat' split
  all_goals omega
theorem m_how {v : Nat → Int32} {b : Nat → Bool} {h : HP} {f : Nat} (w : WS v) (m : MB v b h) (hf : f < TOT v) : f_X11_how (nI f) h = some (nI (how b (TOT v) f)) := by
  have hT := FM_tot w.fm
  have hT' : TOT v ≤ 3810 ∧ TOT v % 5 = 0 := hT.2
  have hfr : f_X11_frames h = nI (TOT v) := by
    rw [m_frames, c_allFrames (w.gm m.1)]
    rfl
  rw [f_X11_how, gd_t (inB_n (by omega) (by decide)), nI_clamp (by omega), m.2 f hf, how]
  cases hb : b f with
  | false => rfl
  | true =>
    rw [if_neg (show ¬ bI true = 0 by decide), if_neg (show ¬ true = false by decide), ob_e (m_isSound w m hf)]
    by_cases q1 : grp b (f / 5) = 1
    · have : snd b f = true := by
        unfold snd
        rw [decide_eq_true q1, Bool.or_true]
      rw [this, if_pos q1, if_neg (show ¬ bI true = 0 by decide)]
      rfl
    · have : snd b f = false := by
        unfold snd
        rw [decide_eq_false q1, hb]
        rfl
      rw [this, if_neg q1, if_pos (show bI false = 0 by decide), m_isCheck_n (by omega)]
      by_cases q4 : f % 5 = 4
      · rw [if_pos q4, if_neg (show ¬ (1 : Int32) = 0 by decide), ob_s, if_pos rfl, if_neg (fun c => c.1 q4)]
        rfl
      · rw [if_neg q4, if_pos rfl]
        by_cases q0 : f = 0
        · subst q0
          rw [m_before0, if_pos (by decide), ob_s, if_pos rfl, if_neg (fun c => c.2.1 rfl)]
          rfl
        · have hb2 := bef_lt q0 q4
          rw [m_before (by omega) q4 q0, m_after (by omega) q4, if_neg (nI_pos (by omega)), hfr]
          by_cases qa : TOT v ≤ aft f
          · rw [if_pos (nI_le qa (by unfold aft; split <;> omega)), ob_s, if_pos rfl, if_neg (fun c => absurd c.2.2.1 (by omega))]
            rfl
          · rw [if_neg (nI_ge (by omega) (by omega)), ob_e (m_isSound w m (by omega)), ob_e (m_isSound w m (by omega))]
            cases s1 : snd b (bef f) with
            | false =>
              rw [if_pos (show bI false = 0 by decide), ob_s, if_pos rfl, if_neg (fun c => by simp at c)]
              rfl
            | true =>
              rw [if_neg (show ¬ bI true = 0 by decide)]
              cases s2 : snd b (aft f) with
              | false =>
                rw [if_pos (show bI false = 0 by decide), ob_s, if_pos rfl, if_neg (fun c => by simp at c)]
                rfl
              | true =>
                rw [if_neg (show ¬ bI true = 0 by decide), ob_s, if_neg (by decide), if_pos ⟨q4, q0, by omega, rfl, rfl⟩]
                rfl
/-- how many below n -/
def cnt (p : Nat → Bool) : Nat → Nat
  | 0 => 0
  | n + 1 => cnt p n + (p n).toNat
theorem cnt_le (p : Nat → Bool) (n : Nat) : cnt p n ≤ n := by
  induction n with
  | zero => exact Nat.le_refl _
  | succ n ih =>
    have := Bool.toNat_le (p n)
    rw [cnt]
    omega
theorem m_damaged_L10 {v : Nat → Int32} {b : Nat → Bool} {h : HP} (w : WS v) (m : MB v b h) : ∀ d n k, k + d = TOT v → d < n → f_X11_damaged_L10 n (nI (cnt b k)) (nI k) h = some (nI (cnt b (TOT v))) := by
  have hT := FM_tot w.fm
  have hT' : TOT v ≤ 3810 ∧ TOT v % 5 = 0 := hT.2
  have hfr : f_X11_frames h = nI (TOT v) := by
    rw [m_frames, c_allFrames (w.gm m.1)]
    rfl
  intro d
  induction d with
  | zero =>
    intro n k hk hn
    obtain ⟨n, rfl⟩ : ∃ n', n = n' + 1 := ⟨n - 1, by omega⟩
    have : k = TOT v := by omega
    rw [f_X11_damaged_L10, hfr, if_pos (nI_le (by omega) (by omega)), this]
  | succ d ih =>
    intro n k hk hn
    obtain ⟨n, rfl⟩ : ∃ n', n = n' + 1 := ⟨n - 1, by omega⟩
    rw [f_X11_damaged_L10, hfr, if_neg (nI_ge (by omega) (by omega)), gd_t (inB_n (by omega) (by decide)), nI_clamp (by omega), m.2 k (by omega), tb_s, nI_1]
    have : nI (cnt b k) + (if bI (b k) = 0 then (0 : Int32) else (1 : Int32)) = nI (cnt b (k + 1)) := by
      rw [cnt]
      cases b k with
      | false =>
        rw [if_pos (by decide), Int32.add_zero]
        rfl
      | true =>
        rw [if_neg (by decide), nI_1]
        rfl
    rw [this]
    exact ih n (k + 1) (by omega) (by omega)
theorem m_MB {v : Nat → Int32} {x : Int32} {h : HP} (e : h 71 = v) : MB v (lyV v x) (sR h 76 (lyR v x (TOT v) (h 76))) := by
  refine ⟨(sR_o (by decide)).trans e, fun f hf => ?_⟩
  rw [sR_s]
  exact if_pos hf
theorem m_damaged {v : Nat → Int32} {h : HP} (w : WS v) (c : WC v) (e : h 71 = v) : f_X11_damaged h = some (nI (cnt (lyV v (-5)) (TOT v)), sR h 76 (lyR v (-5) (TOT v) (h 76))) := by
  have hT := FM_tot w.fm
  have hT' : TOT v ≤ 3810 ∧ TOT v % 5 = 0 := hT.2
  have l := m_damaged_L10 w (m_MB (x := -5) e) (TOT v) FU 0 (by omega) (Nat.lt_of_le_of_lt hT'.1 (by decide))
  have e0 : cnt (lyV v (-5)) 0 = 0 := rfl
  rw [e0, nI_0] at l
  rw [f_X11_damaged, ob_e (m_lay w c e), ob_e l]
theorem m_framesThat_L4 {v : Nat → Int32} {b : Nat → Bool} {h : HP} {x : Nat} (hx : x ≤ 3) (w : WS v) (m : MB v b h) : ∀ d n k, k + d = TOT v → d < n → f_X11_framesThat_L4 n (nI x) (nI (cnt (fun f => decide (how b (TOT v) f = x)) k)) (nI k) h = some (nI (cnt (fun f => decide (how b (TOT v) f = x)) (TOT v))) := by
  have hT := FM_tot w.fm
  have hT' : TOT v ≤ 3810 ∧ TOT v % 5 = 0 := hT.2
  have hfr : f_X11_frames h = nI (TOT v) := by
    rw [m_frames, c_allFrames (w.gm m.1)]
    rfl
  intro d
  induction d with
  | zero =>
    intro n k hk hn
    obtain ⟨n, rfl⟩ : ∃ n', n = n' + 1 := ⟨n - 1, by omega⟩
    have : k = TOT v := by omega
    rw [f_X11_framesThat_L4, hfr, if_pos (nI_le (by omega) (by omega)), this]
  | succ d ih =>
    intro n k hk hn
    obtain ⟨n, rfl⟩ : ∃ n', n = n' + 1 := ⟨n - 1, by omega⟩
    rw [f_X11_framesThat_L4, hfr, if_neg (nI_ge (by omega) (by omega)), ob_e (m_how w m (by omega)), tb_s, nI_1]
    have h3 := how_le (b := b) (T := TOT v) (f := k)
    have : nI (cnt (fun f => decide (how b (TOT v) f = x)) k) + (if nI (how b (TOT v) k) = nI x then (1 : Int32) else (0 : Int32)) = nI (cnt (fun f => decide (how b (TOT v) f = x)) (k + 1)) := by
      rw [cnt]
      by_cases q : how b (TOT v) k = x
      · rw [if_pos (by rw [q]), decide_eq_true q, nI_1]
        rfl
      · rw [if_neg (fun c => q ((nI_eq (by omega) (by omega)).mp c)), decide_eq_false q, Int32.add_zero]
        rfl
    rw [this]
    exact ih n (k + 1) (by omega) (by omega)
theorem m_framesThat {v : Nat → Int32} {b : Nat → Bool} {h : HP} {x : Nat} (hx : x ≤ 3) (w : WS v) (m : MB v b h) : f_X11_framesThat (nI x) h = some (nI (cnt (fun f => decide (how b (TOT v) f = x)) (TOT v))) := by
  have hT := FM_tot w.fm
  have hT' : TOT v ≤ 3810 ∧ TOT v % 5 = 0 := hT.2
  have l := m_framesThat_L4 hx w m (TOT v) FU 0 (by omega) (Nat.lt_of_le_of_lt hT'.1 (by decide))
  have e0 : cnt (fun f => decide (how b (TOT v) f = x)) 0 = 0 := rfl
  rw [e0, nI_0] at l
  rw [f_X11_framesThat]
  exact ob_e (k := fun r => some r) l
