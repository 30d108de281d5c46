/-! the model's orders, read -/
def s1S (x : Nat → Int32) (L : Nat) (c : Int32) (st : Nat × Bool) : Nat × Bool := sgS x L c c st
theorem s1S_le {x : Nat → Int32} {L : Nat} {c : Int32} {st : Nat × Bool} (h : st.1 ≤ L) : (s1S x L c st).1 ≤ L := sgS_le h
theorem m_sign1 {h : HP} {x : Nat → Int32} {L : Nat} {c : Int32} {st : Nat × Bool} (m : MTx h x L) (hp : st.1 ≤ L) : f_X11_sign c c (PW h st) = some (mcS x L st.1, PW h (s1S x L c st)) := m_sign m hp
theorem m_signs4 {h : HP} {x : Nat → Int32} {L : Nat} {a b c d : Int32} {st : Nat × Bool} (m : MTx h x L) (hp : st.1 ≤ L) (hc : ¬ c = 0) (hd : ¬ d = 0) : f_X11_signs a b c d (PW h st) = some (PW h (s1S x L d (s1S x L c (s1S x L b (s1S x L a st))))) := by
  rw [f_X11_signs, ob_e (m_sign1 m hp)]
  dsimp only
  rw [ob_e (m_sign1 m (s1S_le hp))]
  dsimp only
  rw [if_neg hc, ob_e (m_sign1 m (s1S_le (s1S_le hp))), ob_s, if_neg hd]
  dsimp only
  rw [ob_e (m_sign1 m (s1S_le (s1S_le (s1S_le hp))))]
theorem m_signs3 {h : HP} {x : Nat → Int32} {L : Nat} {a b c : Int32} {st : Nat × Bool} (m : MTx h x L) (hp : st.1 ≤ L) (hc : ¬ c = 0) : f_X11_signs a b c (0 : Int32) (PW h st) = some (PW h (s1S x L c (s1S x L b (s1S x L a st)))) := by
  rw [f_X11_signs, ob_e (m_sign1 m hp)]
  dsimp only
  rw [ob_e (m_sign1 m (s1S_le hp))]
  dsimp only
  rw [if_neg hc, ob_e (m_sign1 m (s1S_le (s1S_le hp))), ob_s, if_pos rfl]
theorem m_signs2 {h : HP} {x : Nat → Int32} {L : Nat} {a b : Int32} {st : Nat × Bool} (m : MTx h x L) (hp : st.1 ≤ L) : f_X11_signs a b (0 : Int32) (0 : Int32) (PW h st) = some (PW h (s1S x L b (s1S x L a st))) := by
  rw [f_X11_signs, ob_e (m_sign1 m hp)]
  dsimp only
  rw [ob_e (m_sign1 m (s1S_le hp))]
  dsimp only
  rw [if_pos rfl, ob_s, if_pos rfl]
theorem m_behind {h : HP} {x : Nat → Int32} {L lo hi : Nat} {c : Int32} {st : Nat × Bool} (m : MTx h x L) (hp : st.1 ≤ L) (hlo : lo ≤ 1) (hh : 9 ≤ hi) (hhi : hi ≤ 9999) : f_X11_behind c (nI lo) (nI hi) (PW h st) = some (nvS x L lo hi (s1S x L c st), PW h (nmS x L lo hi (s1S x L c st))) := by
  rw [f_X11_behind, ob_e (m_sign1 m hp)]
  dsimp only
  rw [ob_e (m_number m (s1S_le hp) hlo hh hhi)]
/-- the states while an order is read -/
def qS0 (x : Nat → Int32) (L : Nat) (st : Nat × Bool) : Nat × Bool := s1S x L 61 (s1S x L 104 (s1S x L 99 (s1S x L 116 (s1S x L 97 (s1S x L 114 (s1S x L 99 st))))))
def qS1 (x : Nat → Int32) (L : Nat) (st : Nat × Bool) : Nat × Bool := s1S x L 45 (nmS x L 0 359 (qS0 x L st))
def qS2 (x : Nat → Int32) (L : Nat) (st : Nat × Bool) : Nat × Bool := s1S x L 64 (nmS x L 0 359 (qS1 x L st))
def qS3 (x : Nat → Int32) (L : Nat) (st : Nat × Bool) : Nat × Bool := s1S x L 45 (nmS x L 0 29 (qS2 x L st))
def qE0 (x : Nat → Int32) (L : Nat) (st : Nat × Bool) : Nat × Bool := s1S x L 61 (s1S x L 107 (s1S x L 101 (s1S x L 101 st)))
def qO0 (x : Nat → Int32) (L : Nat) (st : Nat × Bool) : Nat × Bool := s1S x L 61 (s1S x L 104 (s1S x L 115 (s1S x L 105 (s1S x L 108 (s1S x L 111 st)))))
def qL0 (x : Nat → Int32) (L : Nat) (st : Nat × Bool) : Nat × Bool := s1S x L 61 (s1S x L 121 (s1S x L 97 (s1S x L 108 st)))
def qR0 (x : Nat → Int32) (L : Nat) (st : Nat × Bool) : Nat × Bool := s1S x L 61 (s1S x L 115 (s1S x L 115 (s1S x L 101 (s1S x L 114 st))))
def qR1 (x : Nat → Int32) (L : Nat) (st : Nat × Bool) : Nat × Bool := s1S x L 46 (nmS x L 0 9999 (qR0 x L st))
def qR2 (x : Nat → Int32) (L : Nat) (st : Nat × Bool) : Nat × Bool := s1S x L 58 (sgS x L 48 51 (qR1 x L st))
theorem qS0_le {x : Nat → Int32} {L : Nat} {st : Nat × Bool} (h : st.1 ≤ L) : (qS0 x L st).1 ≤ L := s1S_le (s1S_le (s1S_le (s1S_le (s1S_le (s1S_le (s1S_le h))))))
theorem qS1_le {x : Nat → Int32} {L : Nat} {st : Nat × Bool} (h : st.1 ≤ L) : (qS1 x L st).1 ≤ L := s1S_le (nmS_le (qS0_le h))
theorem qS2_le {x : Nat → Int32} {L : Nat} {st : Nat × Bool} (h : st.1 ≤ L) : (qS2 x L st).1 ≤ L := s1S_le (nmS_le (qS1_le h))
theorem qS3_le {x : Nat → Int32} {L : Nat} {st : Nat × Bool} (h : st.1 ≤ L) : (qS3 x L st).1 ≤ L := s1S_le (nmS_le (qS2_le h))
theorem qE0_le {x : Nat → Int32} {L : Nat} {st : Nat × Bool} (h : st.1 ≤ L) : (qE0 x L st).1 ≤ L := s1S_le (s1S_le (s1S_le (s1S_le h)))
theorem qO0_le {x : Nat → Int32} {L : Nat} {st : Nat × Bool} (h : st.1 ≤ L) : (qO0 x L st).1 ≤ L := s1S_le (s1S_le (s1S_le (s1S_le (s1S_le (s1S_le h)))))
theorem qL0_le {x : Nat → Int32} {L : Nat} {st : Nat × Bool} (h : st.1 ≤ L) : (qL0 x L st).1 ≤ L := s1S_le (s1S_le (s1S_le (s1S_le h)))
theorem qR0_le {x : Nat → Int32} {L : Nat} {st : Nat × Bool} (h : st.1 ≤ L) : (qR0 x L st).1 ≤ L := s1S_le (s1S_le (s1S_le (s1S_le (s1S_le h))))
theorem qR1_le {x : Nat → Int32} {L : Nat} {st : Nat × Bool} (h : st.1 ≤ L) : (qR1 x L st).1 ≤ L := s1S_le (nmS_le (qR0_le h))
theorem qR2_le {x : Nat → Int32} {L : Nat} {st : Nat × Bool} (h : st.1 ≤ L) : (qR2 x L st).1 ≤ L := s1S_le (sgS_le (qR1_le h))
/-- the state behind an order -/
def oS (x : Nat → Int32) (L : Nat) (st : Nat × Bool) : Nat × Bool := if nxS x L 99 st = true then nmS x L 0 29 (qS3 x L st) else nmS x L 0 9999 (qE0 x L st)
def oP (x : Nat → Int32) (L : Nat) (st : Nat × Bool) : Nat × Bool := if nxS x L 111 st = true then sgS x L 48 57 (qO0 x L st) else if nxS x L 108 st = true then nmS x L 1 999 (qL0 x L st) else nmS x L 0 15 (qR2 x L st)
theorem oS_le {x : Nat → Int32} {L : Nat} {st : Nat × Bool} (h : st.1 ≤ L) : (oS x L st).1 ≤ L := by
  unfold oS
  split
  · exact nmS_le (qS3_le h)
  · exact nmS_le (qE0_le h)
theorem oP_le {x : Nat → Int32} {L : Nat} {st : Nat × Bool} (h : st.1 ≤ L) : (oP x L st).1 ≤ L := by
  unfold oP
  split
  · exact sgS_le (qO0_le h)
  · split
    · exact nmS_le (qL0_le h)
    · exact nmS_le (qR2_le h)
/-- what the model does for an order -/
def mS (x : Nat → Int32) (L : Nat) (st : Nat × Bool) : HP → Option (Int32 × HP) := if nxS x L 99 st = true then f_X11_scratches (nvS x L 0 359 (qS0 x L st)) (nvS x L 0 359 (qS1 x L st)) (nvS x L 0 29 (qS2 x L st)) (nvS x L 0 29 (qS3 x L st)) else f_X11_seeks (nvS x L 0 9999 (qE0 x L st))
def mP (x : Nat → Int32) (L : Nat) (st : Nat × Bool) : HP → Option (Int32 × HP) := if nxS x L 111 st = true then f_X11_polishes (mcS x L (qO0 x L st).1 - (48 : Int32)) else if nxS x L 108 st = true then f_X11_plays (nvS x L 1 999 (qL0 x L st)) else f_X11_presses (nvS x L 0 9999 (qR0 x L st)) (mcS x L (qR1 x L st).1 - (48 : Int32)) (nvS x L 0 15 (qR2 x L st))
theorem ob_id {q : Option (Int32 × HP)} : ob q (fun q => some (q.1, q.2)) = q := by
  cases q with
  | none => rfl
  | some a => rfl
theorem m_orderS {h : HP} {x : Nat → Int32} {L : Nat} {d : Int32} {st : Nat × Bool} (m : MTx h x L) (hp : st.1 ≤ L) : f_X11_orderOfS d (PW h st) = if d = 0 then some (0, PW h (oS x L st)) else mS x L st (PW h (oS x L st)) := by
  have n1 : ∀ st : Nat × Bool, st.1 ≤ L → f_X11_number (0 : Int32) (359 : Int32) (PW h st) = some (nvS x L 0 359 st, PW h (nmS x L 0 359 st)) := fun st hp => m_number m hp (by decide) (by decide) (by decide)
  have n2 : ∀ st : Nat × Bool, st.1 ≤ L → f_X11_number (0 : Int32) (9999 : Int32) (PW h st) = some (nvS x L 0 9999 st, PW h (nmS x L 0 9999 st)) := fun st hp => m_number m hp (by decide) (by decide) (by decide)
  have b1 : ∀ (c : Int32) (st : Nat × Bool), st.1 ≤ L → f_X11_behind c (0 : Int32) (359 : Int32) (PW h st) = some (nvS x L 0 359 (s1S x L c st), PW h (nmS x L 0 359 (s1S x L c st))) := fun c st hp => m_behind m hp (by decide) (by decide) (by decide)
  have b2 : ∀ (c : Int32) (st : Nat × Bool), st.1 ≤ L → f_X11_behind c (0 : Int32) (29 : Int32) (PW h st) = some (nvS x L 0 29 (s1S x L c st), PW h (nmS x L 0 29 (s1S x L c st))) := fun c st hp => m_behind m hp (by decide) (by decide) (by decide)
  have l4 : (s1S x L 116 (s1S x L 97 (s1S x L 114 (s1S x L 99 st)))).1 ≤ L := s1S_le (s1S_le (s1S_le (s1S_le hp)))
  rw [f_X11_orderOfS, ob_e (m_isNext m hp)]
  unfold oS mS
  by_cases q : nxS x L 99 st = true
  · rw [if_pos q, if_pos q, q, if_neg (show ¬ bI true = 0 by decide), ob_e (m_signs4 m hp (by decide) (by decide)), ob_e (m_signs3 m l4 (by decide)), ob_e (n1 _ (s1S_le (s1S_le (s1S_le l4))))]
    dsimp only
    rw [ob_e (b1 45 _ (nmS_le (s1S_le (s1S_le (s1S_le l4)))))]
    dsimp only
    rw [ob_e (b2 64 _ (nmS_le (s1S_le (nmS_le (s1S_le (s1S_le (s1S_le l4)))))))]
    dsimp only
    rw [ob_e (b2 45 _ (nmS_le (s1S_le (nmS_le (s1S_le (nmS_le (s1S_le (s1S_le (s1S_le l4)))))))))]
    by_cases qd : d = 0
    · rw [if_pos qd, if_pos qd]
      rfl
    · rw [if_neg qd, if_neg qd]
      exact ob_id
  · rw [if_neg q, if_neg q, Bool.eq_false_iff.mpr q, if_pos (show bI false = 0 by decide), ob_e (m_signs4 m hp (by decide) (by decide)), ob_e (n2 _ (s1S_le (s1S_le (s1S_le (s1S_le hp)))))]
    by_cases qd : d = 0
    · rw [if_pos qd, if_pos qd]
      rfl
    · rw [if_neg qd, if_neg qd]
      exact ob_id
theorem m_orderP {h : HP} {x : Nat → Int32} {L : Nat} {d : Int32} {st : Nat × Bool} (m : MTx h x L) (hp : st.1 ≤ L) : f_X11_orderOfP d (PW h st) = if d = 0 then some (0, PW h (oP x L st)) else mP x L st (PW h (oP x L st)) := by
  have n1 : ∀ st : Nat × Bool, st.1 ≤ L → f_X11_number (1 : Int32) (999 : Int32) (PW h st) = some (nvS x L 1 999 st, PW h (nmS x L 1 999 st)) := fun st hp => m_number m hp (by decide) (by decide) (by decide)
  have n2 : ∀ st : Nat × Bool, st.1 ≤ L → f_X11_number (0 : Int32) (9999 : Int32) (PW h st) = some (nvS x L 0 9999 st, PW h (nmS x L 0 9999 st)) := fun st hp => m_number m hp (by decide) (by decide) (by decide)
  have b1 : ∀ (c : Int32) (st : Nat × Bool), st.1 ≤ L → f_X11_behind c (0 : Int32) (15 : Int32) (PW h st) = some (nvS x L 0 15 (s1S x L c st), PW h (nmS x L 0 15 (s1S x L c st))) := fun c st hp => m_behind m hp (by decide) (by decide) (by decide)
  rw [f_X11_orderOfP, ob_e (m_isNext m hp)]
  unfold oP mP
  by_cases q : nxS x L 111 st = true
  · have l4 : (s1S x L 115 (s1S x L 105 (s1S x L 108 (s1S x L 111 st)))).1 ≤ L := s1S_le (s1S_le (s1S_le (s1S_le hp)))
    rw [if_pos q, if_pos q, q, if_neg (show ¬ bI true = 0 by decide), ob_e (m_signs4 m hp (by decide) (by decide)), ob_e (m_signs2 m l4), ob_e (m_sign m (s1S_le (s1S_le l4)))]
    by_cases qd : d = 0
    · rw [if_pos qd, if_pos qd]
      rfl
    · rw [if_neg qd, if_neg qd]
      exact ob_id
  · rw [if_neg q, if_neg q, Bool.eq_false_iff.mpr q, if_pos (show bI false = 0 by decide), ob_e (m_isNext m hp)]
    by_cases q2 : nxS x L 108 st = true
    · rw [if_pos q2, if_pos q2, q2, if_neg (show ¬ bI true = 0 by decide), ob_e (m_signs4 m hp (by decide) (by decide)), ob_e (n1 _ (s1S_le (s1S_le (s1S_le (s1S_le hp)))))]
      by_cases qd : d = 0
      · rw [if_pos qd, if_pos qd]
        rfl
      · rw [if_neg qd, if_neg qd]
        exact ob_id
    · have l4 : (s1S x L 115 (s1S x L 115 (s1S x L 101 (s1S x L 114 st)))).1 ≤ L := s1S_le (s1S_le (s1S_le (s1S_le hp)))
      rw [if_neg q2, if_neg q2, Bool.eq_false_iff.mpr q2, if_pos (show bI false = 0 by decide), ob_e (m_signs4 m hp (by decide) (by decide)), ob_e (m_sign1 m l4)]
      dsimp only
      rw [ob_e (n2 _ (s1S_le l4))]
      dsimp only
      rw [ob_e (m_sign1 m (nmS_le (s1S_le l4)))]
      dsimp only
      rw [ob_e (m_sign m (s1S_le (nmS_le (s1S_le l4))))]
      dsimp only
      rw [ob_e (b1 58 _ (sgS_le (s1S_le (nmS_le (s1S_le l4)))))]
      by_cases qd : d = 0
      · rw [if_pos qd, if_pos qd]
        rfl
      · rw [if_neg qd, if_neg qd]
        exact ob_id
