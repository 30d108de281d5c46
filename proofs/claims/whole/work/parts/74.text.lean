/-! texts: plain reading, and the model's -/
def mcS (x : Nat → Int32) (L p : Nat) : Int32 := if L ≤ p then 0 else x p
def sgS (x : Nat → Int32) (L : Nat) (a b : Int32) (st : Nat × Bool) : Nat × Bool := if st.2 = false ∧ st.1 < L ∧ ¬ x st.1 < a ∧ ¬ b < x st.1 then (st.1 + 1, false) else (st.1, true)
def nxS (x : Nat → Int32) (L : Nat) (c : Int32) (st : Nat × Bool) : Bool := decide (st.2 = false ∧ st.1 < L ∧ x st.1 = c)
def dgN (x : Nat → Int32) (p : Nat) : Nat := (x p - (48 : Int32)).toNatClampNeg
def nuS (x : Nat → Int32) (L hi : Nat) : Nat → Nat → Nat → Nat × Nat
  | 0, v, p => (v, p)
  | k + 1, v, p => if v ≠ 0 ∧ p < L ∧ ¬ x p < (48 : Int32) ∧ ¬ (57 : Int32) < x p ∧ 10 * v + dgN x p ≤ hi then nuS x L hi k (10 * v + dgN x p) (p + 1) else (v, p)
def nmS (x : Nat → Int32) (L lo hi : Nat) (st : Nat × Bool) : Nat × Bool := if (sgS x L (nI (48 + lo)) (nI (48 + min 9 hi)) st).2 = true then (st.1, true) else ((nuS x L hi 3 (dgN x st.1) (st.1 + 1)).2, false)
def nvS (x : Nat → Int32) (L lo hi : Nat) (st : Nat × Bool) : Int32 := if (sgS x L (nI (48 + lo)) (nI (48 + min 9 hi)) st).2 = true then mcS x L st.1 - (48 : Int32) else nI (nuS x L hi 3 (dgN x st.1) (st.1 + 1)).1
theorem sgS_le {x : Nat → Int32} {L : Nat} {a b : Int32} {st : Nat × Bool} (h : st.1 ≤ L) : (sgS x L a b st).1 ≤ L := by
  unfold sgS
  split
  · next c => exact c.2.1
  · exact h
theorem nuS_le {x : Nat → Int32} {L hi : Nat} : ∀ k v p, p ≤ L → (nuS x L hi k v p).2 ≤ L := by
  intro k
  induction k with
  | zero => intro v p h; exact h
  | succ k ih =>
    intro v p h
    rw [nuS]
    split
    · next c => exact ih _ _ c.2.1
    · exact h
theorem sgS_ok {x : Nat → Int32} {L : Nat} {a b : Int32} {st : Nat × Bool} (h : ¬ (sgS x L a b st).2 = true) : st.2 = false ∧ st.1 < L ∧ ¬ x st.1 < a ∧ ¬ b < x st.1 ∧ sgS x L a b st = (st.1 + 1, false) := by
  by_cases c : st.2 = false ∧ st.1 < L ∧ ¬ x st.1 < a ∧ ¬ b < x st.1
  · exact ⟨c.1, c.2.1, c.2.2.1, c.2.2.2, if_pos c⟩
  · refine absurd ?_ h
    unfold sgS
    rw [if_neg c]
theorem nmS_le {x : Nat → Int32} {L lo hi : Nat} {st : Nat × Bool} (h : st.1 ≤ L) : (nmS x L lo hi st).1 ≤ L := by
  unfold nmS
  split
  · exact h
  · next c =>
    have := sgS_ok c
    exact nuS_le _ _ _ this.2.1
theorem digit {c : Int32} (h1 : ¬ c < (48 : Int32)) (h2 : ¬ (57 : Int32) < c) : ∃ d, d ≤ 9 ∧ c = nI (48 + d) ∧ (c - (48 : Int32)).toNatClampNeg = d := by
  have q : ¬ c < 0 := fun e => h1 (Int32.lt_trans e (by decide))
  obtain ⟨j, hj, rfl⟩ := nI_of q
  have a1 : 48 ≤ j := Nat.le_of_not_lt fun e => h1 (nI_lt (b := 48) e (by decide))
  have a2 : j ≤ 57 := Nat.le_of_not_lt fun e => h2 (nI_lt (a := 57) e hj)
  refine ⟨j - 48, by omega, by rw [show 48 + (j - 48) = j by omega], ?_⟩
  rw [lit_n 48, pk_sub a1, nI_clamp (by omega)]
/-- the model's heap with another place -/
def PW (h : HP) (st : Nat × Bool) : HP := sR h 70 (up (up (h 70) 9 (nI st.1)) 10 (bI st.2))
def MTx (h : HP) (x : Nat → Int32) (L : Nat) : Prop := L ≤ 60 ∧ h 70 7 = nI L ∧ ∀ j, j < L → h 75 j = x j
theorem PW_9 {h : HP} {st : Nat × Bool} : PW h st 70 9 = nI st.1 := by
  unfold PW
  rw [sR_s, up_o (by decide), up_s]
theorem PW_10 {h : HP} {st : Nat × Bool} : PW h st 70 10 = bI st.2 := by
  unfold PW
  rw [sR_s, up_s]
theorem PW_k {h : HP} {st : Nat × Bool} {k : Nat} (h9 : k ≠ 9) (h10 : k ≠ 10) : PW h st 70 k = h 70 k := by
  unfold PW
  rw [sR_s, up_o h10, up_o h9]
theorem PW_o {h : HP} {st : Nat × Bool} {o : Nat} (ho : o ≠ 70) : PW h st o = h o := sR_o ho
theorem PW_PW {h : HP} {s t : Nat × Bool} : PW (PW h s) t = PW h t := by
  unfold PW
  rw [sR_2, sR_s]
  congr 1
  funext i
  unfold up
  repeat' split
  all_goals first | rfl | omega
theorem PW_set {h : HP} {s : Nat × Bool} {p : Nat} {b : Bool} : hset (hset (PW h s) 70 10 (bI b)) 70 9 (nI p) = PW h (p, b) := by
  unfold PW
  rw [hset_sR, hset_sR, sR_2, sR_2, sR_s, sR_s]
  congr 1
  funext i
  unfold up
  repeat' split
  all_goals first | rfl | omega
theorem PW_set9 {h : HP} {s : Nat × Bool} {p : Nat} : hset (PW h s) 70 9 (nI p) = PW h (p, s.2) := by
  unfold PW
  rw [hset_sR, sR_2, sR_s]
  congr 1
  funext i
  unfold up
  repeat' split
  all_goals first | rfl | omega
theorem PW_id {h : HP} {s : Nat × Bool} (h9 : h 70 9 = nI s.1) (h10 : h 70 10 = bI s.2) : PW h s = h := by
  unfold PW
  rw [up_id h9, up_id h10, sR_id]
theorem MTx.pw {h : HP} {x : Nat → Int32} {L : Nat} {s : Nat × Bool} (m : MTx h x L) : MTx (PW h s) x L := by
  refine ⟨m.1, ?_, ?_⟩
  · rw [PW_k (by decide) (by decide)]
    exact m.2.1
  · rw [PW_o (by decide)]
    exact m.2.2
theorem m_sign {h : HP} {x : Nat → Int32} {L : Nat} {a b : Int32} {st : Nat × Bool} (m : MTx h x L) (hp : st.1 ≤ L) : f_X11_sign a b (PW h st) = some (mcS x L st.1, PW h (sgS x L a b st)) := by
  have hL := m.1
  have e7 : PW h st 70 7 = nI L := (PW_k (by decide) (by decide)).trans m.2.1
  have e75 : PW h st 75 = h 75 := PW_o (by decide)
  have cL : (nI L ≤ nI st.1) ↔ L ≤ st.1 := nI_leI (by omega) (by omega)
  have e1 : (if PW h st 70 7 ≤ PW h st 70 9 then some (0 : Int32) else gd (inB (PW h st 70 9) 60) (some (PW h st 75 (PW h st 70 9).toNatClampNeg))) = some (mcS x L st.1) := by
    rw [e7, PW_9, e75]
    unfold mcS
    by_cases q : L ≤ st.1
    · rw [if_pos (cL.mpr q), if_pos q]
    · rw [if_neg (fun e => q (cL.mp e)), if_neg q, gd_t (inB_n (by omega) (by decide)), nI_clamp (by omega), m.2.2 _ (by omega)]
  have e2 : (if PW h st 70 10 = 0 then (if PW h st 70 7 ≤ PW h st 70 9 then (1 : Int32) else (if f_X11_in (mcS x L st.1) a b (PW h st) = 0 then (1 : Int32) else (0 : Int32))) else (1 : Int32)) = bI (sgS x L a b st).2 := by
    rw [PW_10, e7, PW_9, f_X11_in]
    unfold sgS mcS
    cases hb : st.2 with
    | true =>
      rw [if_neg (show ¬ bI true = 0 by decide), if_neg (fun c => Bool.noConfusion c.1)]
      rfl
    | false =>
      rw [if_pos (show bI false = 0 by decide)]
      by_cases q : L ≤ st.1
      · rw [if_pos (cL.mpr q), if_neg (fun c => absurd c.2.1 (by omega))]
        rfl
      · rw [if_neg (fun e => q (cL.mp e)), if_neg q]
        by_cases q1 : x st.1 < a
        · rw [if_pos q1, if_pos rfl, if_neg (fun c => c.2.2.1 q1)]
          rfl
        · rw [if_neg q1]
          by_cases q2 : b < x st.1
          · rw [if_pos q2, if_pos rfl, if_neg (fun c => c.2.2.2 q2)]
            rfl
          · rw [if_neg q2, if_neg (show ¬ (1 : Int32) = 0 by decide), if_pos ⟨rfl, by omega, q1, q2⟩]
            rfl
  have e3 : nI st.1 + (if bI (sgS x L a b st).2 = 0 then (1 : Int32) else (0 : Int32)) = nI (sgS x L a b st).1 := by
    unfold sgS
    split
    · rw [if_pos (show bI false = 0 by decide), nI_1]
    · rw [if_neg (show ¬ bI true = 0 by decide), Int32.add_zero]
  rw [f_X11_sign, ob_e e1, e2, tb_s, hset_same, hset_oth (by omega), PW_9, e3, PW_set]
theorem m_isNext {h : HP} {x : Nat → Int32} {L : Nat} {c : Int32} {st : Nat × Bool} (m : MTx h x L) (hp : st.1 ≤ L) : f_X11_isNext c (PW h st) = some (bI (nxS x L c st)) := by
  have hL := m.1
  have e7 : PW h st 70 7 = nI L := (PW_k (by decide) (by decide)).trans m.2.1
  have e75 : PW h st 75 = h 75 := PW_o (by decide)
  have cL : (nI L ≤ nI st.1) ↔ L ≤ st.1 := nI_leI (by omega) (by omega)
  rw [f_X11_isNext, PW_10, e7, PW_9, e75]
  unfold nxS
  cases hb : st.2 with
  | true =>
    rw [if_neg (show ¬ bI true = 0 by decide), decide_eq_false (fun c => Bool.noConfusion c.1)]
    rfl
  | false =>
    rw [if_pos (show bI false = 0 by decide)]
    by_cases q : L ≤ st.1
    · rw [if_pos (cL.mpr q), decide_eq_false (fun c => absurd c.2.1 (by omega))]
      rfl
    · rw [if_neg (fun e => q (cL.mp e)), gd_t (inB_n (by omega) (by decide)), nI_clamp (by omega), m.2.2 _ (by omega)]
      by_cases q2 : x st.1 = c
      · rw [if_pos q2, decide_eq_true ⟨rfl, by omega, q2⟩]
        rfl
      · rw [if_neg q2, decide_eq_false (fun e => q2 e.2.2)]
        rfl
theorem m_num_L14 {h : HP} {x : Nat → Int32} {L hi : Nat} (m : MTx h x L) (hhi : hi ≤ 9999) : ∀ k n v p, k < n → p ≤ L → v ≤ 9999 → (v = 0 ∨ hi < v * 10 ^ (k + 1)) → f_X11_number_L14 n (nI hi) (nI v) (PW h (p, false)) = some (nI (nuS x L hi k v p).1, PW h ((nuS x L hi k v p).2, false)) := by
  have hL := m.1
  intro k
  induction k with
  | zero =>
    intro n v p hn hp hv hinv
    obtain ⟨n, rfl⟩ : ∃ n', n = n' + 1 := ⟨n - 1, by omega⟩
    have e7 : PW h (p, false) 70 7 = nI L := (PW_k (by decide) (by decide)).trans m.2.1
    have e75 : PW h (p, false) 75 = h 75 := PW_o (by decide)
    rw [f_X11_number_L14, PW_10, e7, PW_9, e75, nuS]
    by_cases q0 : v = 0
    · subst q0
      rw [if_pos (by decide)]
    · rw [if_neg (nI_nle (by omega) (by omega)), if_pos (show bI false = 0 by decide)]
      by_cases q : L ≤ p
      · rw [if_pos (nI_le q (by omega))]
      · rw [if_neg (nI_ge (by omega) (by omega)), gd_t (inB_n (by omega) (by decide)), gd_t (inB_n (by omega) (by decide)), nI_clamp (by omega), m.2.2 _ (by omega), f_X11_in]
        by_cases q1 : x p < 48
        · rw [if_pos q1, if_pos rfl]
        · rw [if_neg q1]
          by_cases q2 : (57 : Int32) < x p
          · rw [if_pos q2, if_pos rfl]
          · obtain ⟨d, hd, e, _⟩ := digit q1 q2
            have ev : (((10 : Int32) * nI v) + nI (48 + d)) - (48 : Int32) = nI (10 * v + d) := by
              rw [lit_n 10, lit_n 48, pk_mul, nI_add, pk_sub (by omega)]
              congr 1
              omega
            rw [if_neg q2, if_neg (show ¬ (1 : Int32) = 0 by decide), e, ev, if_pos (nI_lt (by omega) (by omega))]
  | succ k ih =>
    intro n v p hn hp hv hinv
    obtain ⟨n, rfl⟩ : ∃ n', n = n' + 1 := ⟨n - 1, by omega⟩
    have e7 : PW h (p, false) 70 7 = nI L := (PW_k (by decide) (by decide)).trans m.2.1
    have e75 : PW h (p, false) 75 = h 75 := PW_o (by decide)
    rw [f_X11_number_L14, PW_10, e7, PW_9, e75, nuS]
    by_cases q0 : v = 0
    · subst q0
      rw [if_pos (by decide), if_neg (fun c => c.1 rfl)]
    · rw [if_neg (nI_nle (by omega) (by omega)), if_pos (show bI false = 0 by decide)]
      by_cases q : L ≤ p
      · rw [if_pos (nI_le q (by omega)), if_neg (fun c => absurd c.2.1 (by omega))]
      · rw [if_neg (nI_ge (by omega) (by omega)), gd_t (inB_n (by omega) (by decide)), gd_t (inB_n (by omega) (by decide)), nI_clamp (by omega), m.2.2 _ (by omega), f_X11_in]
        by_cases q1 : x p < 48
        · rw [if_pos q1, if_pos rfl, if_neg (fun c => c.2.2.1 q1)]
        · rw [if_neg q1]
          by_cases q2 : (57 : Int32) < x p
          · rw [if_pos q2, if_pos rfl, if_neg (fun c => c.2.2.2.1 q2)]
          · obtain ⟨d, hd, e, e2⟩ := digit q1 q2
            have ed : dgN x p = d := e2
            have ev : (((10 : Int32) * nI v) + nI (48 + d)) - (48 : Int32) = nI (10 * v + d) := by
              rw [lit_n 10, lit_n 48, pk_mul, nI_add, pk_sub (by omega)]
              congr 1
              omega
            rw [if_neg q2, if_neg (show ¬ (1 : Int32) = 0 by decide), e, ev, ed]
            by_cases q3 : hi < 10 * v + d
            · rw [if_pos (nI_lt q3 (by omega)), if_neg (fun c => absurd c.2.2.2.2 (by omega))]
            · have q1' : ¬ nI (48 + d) < (48 : Int32) := by rw [← e]; exact q1
              have q2' : ¬ (57 : Int32) < nI (48 + d) := by rw [← e]; exact q2
              have hstep : hi < (10 * v + d) * 10 ^ (k + 1) := by
                rcases hinv with h0 | h0
                · exact absurd h0 q0
                · have h1 : v * 10 ^ (k + 1 + 1) = 10 * v * 10 ^ (k + 1) := by
                    rw [Nat.pow_succ 10 (k + 1), Nat.mul_comm (10 ^ (k + 1)) 10, ← Nat.mul_assoc, Nat.mul_comm v 10]
                  have h2 : 10 * v * 10 ^ (k + 1) ≤ (10 * v + d) * 10 ^ (k + 1) := Nat.mul_le_mul_right _ (by omega)
                  omega
              rw [if_neg (nI_nlt (by omega) (by omega)), gd_t (inB_n (by omega) (by decide)), tb_s, nI_1, PW_set9, if_pos ⟨q0, by omega, q1', q2', by omega⟩]
              exact ih n (10 * v + d) (p + 1) (by omega) (by omega) (by omega) (Or.inr hstep)
theorem m_number {h : HP} {x : Nat → Int32} {L lo hi : Nat} {st : Nat × Bool} (m : MTx h x L) (hp : st.1 ≤ L) (hlo : lo ≤ 1) (hh : 9 ≤ hi) (hhi : hi ≤ 9999) : f_X11_number (nI lo) (nI hi) (PW h st) = some (nvS x L lo hi st, PW h (nmS x L lo hi st)) := by
  have hL := m.1
  have e48 : (48 : Int32) + nI lo = nI (48 + lo) := by rw [lit_n 48, nI_add]
  have e57 : (57 : Int32) = nI (48 + min 9 hi) := by
    rw [Nat.min_eq_left hh]
    rfl
  rw [f_X11_number, e48, e57, ob_e (m_sign m hp)]
  dsimp only
  unfold nvS nmS
  by_cases q : (sgS x L (nI (48 + lo)) (nI (48 + min 9 hi)) st).2 = true
  · have es : sgS x L (nI (48 + lo)) (nI (48 + min 9 hi)) st = (st.1, true) := by
      unfold sgS at q ⊢
      split at q
      · exact Bool.noConfusion q
      · next c => rw [if_neg c]
    rw [if_pos q, if_pos q, es]
    have : f_X11_number_L14 FU (nI hi) (mcS x L st.1 - (48 : Int32)) (PW h (st.1, true)) = some (mcS x L st.1 - (48 : Int32), PW h (st.1, true)) := by
      show f_X11_number_L14 (999999 + 1) (nI hi) (mcS x L st.1 - (48 : Int32)) (PW h (st.1, true)) = _
      rw [f_X11_number_L14, PW_10, if_neg (show ¬ bI true = 0 by decide)]
      split <;> rfl
    rw [ob_e this]
  · have so := sgS_ok q
    have q1 : ¬ x st.1 < (48 : Int32) := fun e => so.2.2.1 (Int32.lt_of_lt_of_le e (nI_le (a := 48) (by omega) (by omega)))
    have q2 : ¬ (57 : Int32) < x st.1 := by
      have := so.2.2.2.1
      rw [← e57] at this
      exact this
    obtain ⟨d, hd, e, e2⟩ := digit q1 q2
    have ed : dgN x st.1 = d := e2
    have em : mcS x L st.1 = nI (48 + d) := by
      unfold mcS
      rw [if_neg (by omega), e]
    have el := m_num_L14 m hhi 3 FU d (st.1 + 1) (by decide) (by omega) (by omega) (by omega)
    rw [if_neg q, if_neg q, so.2.2.2.2, em, lit_n 48, pk_sub (by omega), show 48 + d - 48 = d by omega, ob_e el, ed]
