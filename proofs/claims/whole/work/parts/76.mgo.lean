/-! the model's way through a text -/
theorem sgS_w {x : Nat → Int32} {L p : Nat} {a b : Int32} : sgS x L a b (p, true) = (p, true) := by
  unfold sgS
  rw [if_neg (fun h => Bool.noConfusion h.1)]
theorem s1S_w {x : Nat → Int32} {L p : Nat} {c : Int32} : s1S x L c (p, true) = (p, true) := sgS_w
theorem nmS_w {x : Nat → Int32} {L lo hi p : Nat} : nmS x L lo hi (p, true) = (p, true) := by
  unfold nmS
  rw [sgS_w, if_pos rfl]
theorem sgS_inc {x : Nat → Int32} {L : Nat} {a b : Int32} {st : Nat × Bool} (h : (sgS x L a b st).2 = false) : st.2 = false ∧ (sgS x L a b st).1 = st.1 + 1 := by
  have := sgS_ok (x := x) (L := L) (a := a) (b := b) (st := st) (fun e => by rw [h] at e; exact Bool.noConfusion e)
  exact ⟨this.1, by rw [this.2.2.2.2]⟩
theorem s1S_inc {x : Nat → Int32} {L : Nat} {c : Int32} {st : Nat × Bool} (h : (s1S x L c st).2 = false) : st.2 = false ∧ (s1S x L c st).1 = st.1 + 1 := sgS_inc h
theorem nuS_ge {x : Nat → Int32} {L hi : Nat} : ∀ k v p, p ≤ (nuS x L hi k v p).2 := by
  intro k
  induction k with
  | zero => intro v p; exact Nat.le_refl _
  | succ k ih =>
    intro v p
    rw [nuS]
    split
    · have := ih (10 * v + dgN x p) (p + 1)
      omega
    · exact Nat.le_refl _
theorem nmS_inc {x : Nat → Int32} {L lo hi : Nat} {st : Nat × Bool} (h : (nmS x L lo hi st).2 = false) : st.2 = false ∧ st.1 + 1 ≤ (nmS x L lo hi st).1 := by
  unfold nmS at h ⊢
  by_cases q : (sgS x L (nI (48 + lo)) (nI (48 + min 9 hi)) st).2 = true
  · rw [if_pos q] at h
    exact Bool.noConfusion h
  · rw [if_neg q]
    exact ⟨(sgS_ok q).1, nuS_ge _ _ _⟩
/-- the first letter of the order at p; the state behind it; the state behind the order -/
def iS (x : Nat → Int32) (L p : Nat) : Bool := nxS x L 115 (p, false)
def st1 (x : Nat → Int32) (L p : Nat) : Nat × Bool := if iS x L p = true then s1S x L 115 (p, false) else s1S x L 112 (p, false)
def oM (x : Nat → Int32) (L p : Nat) : Nat × Bool := if (st1 x L p).2 = true then st1 x L p else if iS x L p = true then oS x L (st1 x L p) else oP x L (st1 x L p)
def mO (x : Nat → Int32) (L p : Nat) : HP → Option (Int32 × HP) := if iS x L p = true then mS x L (st1 x L p) else mP x L (st1 x L p)
theorem st1_le {x : Nat → Int32} {L p : Nat} (h : p ≤ L) : (st1 x L p).1 ≤ L := by
  unfold st1
  split
  · exact s1S_le h
  · exact s1S_le h
theorem oM_le {x : Nat → Int32} {L p : Nat} (h : p ≤ L) : (oM x L p).1 ≤ L := by
  unfold oM
  split
  · exact st1_le h
  · split
    · exact oS_le (st1_le h)
    · exact oP_le (st1_le h)
theorem st1_inc {x : Nat → Int32} {L p : Nat} (h : (st1 x L p).2 = false) : (st1 x L p).1 = p + 1 := by
  unfold st1 at h ⊢
  split at h
  · next c =>
    rw [if_pos c]
    exact (s1S_inc h).2
  · next c =>
    rw [if_neg c]
    exact (s1S_inc h).2
theorem oS_inc {x : Nat → Int32} {L : Nat} {st : Nat × Bool} (h : (oS x L st).2 = false) : st.1 + 5 ≤ (oS x L st).1 := by
  unfold oS at h ⊢
  split
  · next c =>
    rw [if_pos c] at h
    have a1 := nmS_inc h
    have a2 := s1S_inc a1.1
    have a3 := nmS_inc a2.1
    have a4 := s1S_inc a3.1
    have a5 := nmS_inc a4.1
    have a6 := s1S_inc a5.1
    have a7 := nmS_inc a6.1
    have b1 := s1S_inc a7.1
    have b2 := s1S_inc b1.1
    have b3 := s1S_inc b2.1
    have b4 := s1S_inc b3.1
    have b5 := s1S_inc b4.1
    have b6 := s1S_inc b5.1
    have b7 := s1S_inc b6.1
    unfold qS3 qS2 qS1 qS0 at *
    omega
  · next c =>
    rw [if_neg c] at h
    have a1 := nmS_inc h
    have b1 := s1S_inc a1.1
    have b2 := s1S_inc b1.1
    have b3 := s1S_inc b2.1
    have b4 := s1S_inc b3.1
    unfold qE0 at *
    omega
theorem oP_inc {x : Nat → Int32} {L : Nat} {st : Nat × Bool} (h : (oP x L st).2 = false) : st.1 + 5 ≤ (oP x L st).1 := by
  unfold oP at h ⊢
  split
  · next c =>
    rw [if_pos c] at h
    have a1 := sgS_inc h
    have b1 := s1S_inc a1.1
    have b2 := s1S_inc b1.1
    have b3 := s1S_inc b2.1
    have b4 := s1S_inc b3.1
    have b5 := s1S_inc b4.1
    have b6 := s1S_inc b5.1
    unfold qO0 at *
    omega
  · next c =>
    rw [if_neg c] at h
    split
    · next c2 =>
      rw [if_pos c2] at h
      have a1 := nmS_inc h
      have b1 := s1S_inc a1.1
      have b2 := s1S_inc b1.1
      have b3 := s1S_inc b2.1
      have b4 := s1S_inc b3.1
      unfold qL0 at *
      omega
    · next c2 =>
      rw [if_neg c2] at h
      have a1 := nmS_inc h
      have a2 := s1S_inc a1.1
      have a3 := sgS_inc a2.1
      have a4 := s1S_inc a3.1
      have a5 := nmS_inc a4.1
      have b1 := s1S_inc a5.1
      have b2 := s1S_inc b1.1
      have b3 := s1S_inc b2.1
      have b4 := s1S_inc b3.1
      have b5 := s1S_inc b4.1
      unfold qR2 qR1 qR0 at *
      omega
theorem oM_inc {x : Nat → Int32} {L p : Nat} (h : (oM x L p).2 = false) : p + 6 ≤ (oM x L p).1 ∧ (st1 x L p).2 = false := by
  unfold oM at h ⊢
  by_cases q : (st1 x L p).2 = true
  · rw [if_pos q, q] at h
    exact Bool.noConfusion h
  · have e1 := st1_inc (Bool.eq_false_iff.mpr q)
    rw [if_neg q] at h ⊢
    refine ⟨?_, Bool.eq_false_iff.mpr q⟩
    by_cases c : iS x L p = true
    · rw [if_pos c] at h ⊢
      have := oS_inc h
      omega
    · rw [if_neg c] at h ⊢
      have := oP_inc h
      omega
/-- the whole text: the state behind it, how many orders -/
def goS (x : Nat → Int32) (L : Nat) : Nat → Nat → Nat × Bool
  | 0, p => (p, true)
  | k + 1, p => if (oM x L p).2 = true then oM x L p else if (oM x L p).1 < L then (if x (oM x L p).1 = 59 then goS x L k ((oM x L p).1 + 1) else ((oM x L p).1, true)) else oM x L p
def goN (x : Nat → Int32) (L : Nat) : Nat → Nat → Nat
  | 0, _ => 0
  | k + 1, p => if (oM x L p).2 = true then 1 else if (oM x L p).1 < L then (if x (oM x L p).1 = 59 then 1 + goN x L k ((oM x L p).1 + 1) else 1) else 1
theorem s1S_eq {x : Nat → Int32} {L : Nat} {c : Int32} {st : Nat × Bool} : s1S x L c st = if st.2 = false ∧ st.1 < L ∧ x st.1 = c then (st.1 + 1, false) else (st.1, true) := by
  unfold s1S sgS
  have e : (¬ x st.1 < c ∧ ¬ c < x st.1) ↔ x st.1 = c := by
    rw [Int32.not_lt, Int32.not_lt]
    constructor
    · intro ⟨h1, h2⟩
      exact Int32.le_antisymm h2 h1
    · intro h
      rw [h]
      exact ⟨Int32.le_refl _, Int32.le_refl _⟩
  by_cases q : st.2 = false ∧ st.1 < L ∧ x st.1 = c
  · rw [if_pos q, if_pos ⟨q.1, q.2.1, (e.mpr q.2.2).1, (e.mpr q.2.2).2⟩]
  · rw [if_neg q, if_neg (fun h => q ⟨h.1, h.2.1, e.mp ⟨h.2.2.1, h.2.2.2⟩⟩)]
/-- the start of an order -/
theorem m_head {h : HP} {x : Nat → Int32} {L p : Nat} {d : Int32} {K : Int32 × HP → Option (Int32 × HP)} (m : MTx h x L) (hp : p ≤ L) : ob (f_X11_isNext (115 : Int32) (PW h (p, false))) (fun q21 => ob (if q21 = 0 then ob (f_X11_sign (112 : Int32) (112 : Int32) (PW h (p, false))) (fun q47 => some (q47.1, q47.2)) else ob (f_X11_sign (115 : Int32) (115 : Int32) (PW h (p, false))) (fun q36 => some (q36.1, q36.2))) (fun j28 => ob (if (j28.2 70 10) = 0 then (if q21 = 0 then ob (f_X11_orderOfP d j28.2) (fun q78 => some (q78.1, q78.2)) else ob (f_X11_orderOfS d j28.2) (fun q70 => some (q70.1, q70.2))) else some ((0 : Int32), j28.2)) K)) = ob (if (st1 x L p).2 = true then some ((0 : Int32), PW h (st1 x L p)) else if d = 0 then some ((0 : Int32), PW h (oM x L p)) else mO x L p (PW h (oM x L p))) K := by
  have hs := st1_le (x := x) hp
  rw [ob_e (m_isNext m hp)]
  have e1 : (if bI (nxS x L 115 (p, false)) = 0 then ob (f_X11_sign (112 : Int32) (112 : Int32) (PW h (p, false))) (fun q47 => some (q47.1, q47.2)) else ob (f_X11_sign (115 : Int32) (115 : Int32) (PW h (p, false))) (fun q36 => some (q36.1, q36.2))) = some (mcS x L p, PW h (st1 x L p)) := by
    unfold st1 iS
    cases nxS x L 115 (p, false) with
    | true => rw [if_neg (show ¬ bI true = 0 by decide), ob_e (m_sign1 m hp), if_pos rfl]
    | false => rw [if_pos (show bI false = 0 by decide), ob_e (m_sign1 m hp), if_neg (show ¬ false = true by decide)]
  rw [ob_e e1]
  simp only [PW_10]
  congr 1
  unfold oM mO iS at *
  cases hb : (st1 x L p).2 with
  | true => rw [if_neg (show ¬ bI true = 0 by decide), if_pos rfl]
  | false =>
    rw [if_pos (show bI false = 0 by decide), if_neg (show ¬ false = true by decide), if_neg (show ¬ false = true by decide), m_orderP m hs, m_orderS m hs]
    cases nxS x L 115 (p, false) with
    | true =>
      rw [if_neg (show ¬ bI true = 0 by decide), if_pos rfl, if_pos rfl, ob_id]
    | false =>
      rw [if_pos (show bI false = 0 by decide), if_neg (show ¬ false = true by decide), if_neg (show ¬ false = true by decide), ob_id]
/-- the end of an order -/
theorem m_tail {h : HP} {x : Nat → Int32} {L c : Nat} {d : Int32} {st : Nat × Bool} {n : Nat} (m : MTx h x L) (hp : st.1 ≤ L) : tb (if (PW h st 70 10) = 0 then (if (PW h st 70 7) ≤ (PW h st 70 9) then (0 : Int32) else (1 : Int32)) else (0 : Int32)) (fun v124 => ob (if v124 = 0 then some (v124, PW h st) else ob (f_X11_sign (59 : Int32) (59 : Int32) (PW h st)) (fun q134 => tb (if (q134.2 70 10) = 0 then (1 : Int32) else (0 : Int32)) (fun v151 => some (v151, q134.2)))) (fun j126 => f_X11_go_L14 (n + 1) d (nI c + (1 : Int32)) j126.1 j126.2)) = if st.2 = true then some (nI (c + 1), PW h st) else if st.1 < L then (if x st.1 = 59 then f_X11_go_L14 (n + 1) d (nI (c + 1)) 1 (PW h (st.1 + 1, false)) else some (nI (c + 1), PW h (st.1, true))) else some (nI (c + 1), PW h st) := by
  have hL := m.1
  have e7 : PW h st 70 7 = nI L := (PW_k (by decide) (by decide)).trans m.2.1
  have go0 : ∀ (q : HP) (y : Int32), f_X11_go_L14 (n + 1) d y 0 q = some (y, q) := fun q y => by
    rw [f_X11_go_L14, if_pos rfl]
  rw [PW_10, e7, PW_9, nI_1]
  cases hb : st.2 with
  | true => rw [if_neg (show ¬ bI true = 0 by decide), tb_s, if_pos rfl, ob_s, go0, if_pos rfl]
  | false =>
    rw [if_pos (show bI false = 0 by decide), if_neg (show ¬ false = true by decide)]
    by_cases q : st.1 < L
    · rw [if_neg (nI_ge q (by omega)), tb_s, if_neg (show ¬ (1 : Int32) = 0 by decide), ob_e (m_sign1 m hp), if_pos q]
      simp only [PW_10]
      by_cases q2 : x st.1 = 59
      · have es : s1S x L 59 st = (st.1 + 1, false) := by rw [s1S_eq, if_pos ⟨hb, q, q2⟩]
        rw [es, if_pos (show bI false = 0 by decide), tb_s, ob_s, if_pos q2]
      · have es : s1S x L 59 st = (st.1, true) := by rw [s1S_eq, if_neg (fun e => q2 e.2.2)]
        rw [es, if_neg (show ¬ bI true = 0 by decide), tb_s, ob_s, if_neg q2, go0]
    · rw [if_pos (nI_le (by omega) (by omega)), tb_s, if_pos rfl, ob_s, go0, if_neg q]
theorem m_go0 {h : HP} {x : Nat → Int32} {L : Nat} (m : MTx h x L) : ∀ k n c p, k + 1 ≤ n → p ≤ L → 60 < p + 7 * k → f_X11_go_L14 n (0 : Int32) (nI c) (1 : Int32) (PW h (p, false)) = some (nI (c + goN x L k p), PW h (goS x L k p)) := by
  have hL := m.1
  intro k
  induction k with
  | zero => intro n c p hn hp hk; omega
  | succ k ih =>
    intro n c p hn hp hk
    obtain ⟨n, rfl⟩ : ∃ n', n = n' + 1 + 1 := ⟨n - 2, by omega⟩
    have hle := oM_le (x := x) hp
    rw [f_X11_go_L14, if_neg (show ¬ (1 : Int32) = 0 by decide)]
    refine (m_head (d := 0) m hp).trans ?_
    have e2 : (if (st1 x L p).2 = true then some ((0 : Int32), PW h (st1 x L p)) else if (0 : Int32) = 0 then some ((0 : Int32), PW h (oM x L p)) else mO x L p (PW h (oM x L p))) = some ((0 : Int32), PW h (oM x L p)) := by
      rw [if_pos (show (0 : Int32) = 0 from rfl)]
      split
      · next c =>
        unfold oM
        rw [if_pos c]
      · rfl
    rw [ob_e e2, if_pos (show (0 : Int32) ≤ 0 by decide)]
    dsimp only
    refine (m_tail m hle).trans ?_
    rw [goS, goN]
    by_cases q1 : (oM x L p).2 = true
    · rw [if_pos q1, if_pos q1, if_pos q1]
    · have hinc := oM_inc (Bool.eq_false_iff.mpr q1)
      rw [if_neg q1, if_neg q1, if_neg q1]
      by_cases q2 : (oM x L p).1 < L
      · rw [if_pos q2, if_pos q2, if_pos q2]
        by_cases q3 : x (oM x L p).1 = 59
        · rw [if_pos q3, if_pos q3, if_pos q3, ih (n + 1) (c + 1) _ (by omega) (by omega) (by omega), Nat.add_assoc]
        · rw [if_neg q3, if_neg q3, if_neg q3]
      · rw [if_neg q2, if_neg q2, if_neg q2]
