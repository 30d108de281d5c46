/-! the class's words, and the same orders -/
def mtN (x : Nat → Int32) (L : Nat) : List Int32 → Nat → Nat
  | [], _ => 0
  | c :: l, p => if p < L ∧ x p = c then mtN x L l (p + 1) + 1 else 0
theorem mtN_le {x : Nat → Int32} {L : Nat} : ∀ l p, p ≤ L → mtN x L l p ≤ l.length ∧ p + mtN x L l p ≤ L := by
  intro l
  induction l with
  | nil => intro p h; exact ⟨Nat.le_refl _, h⟩
  | cons c l ih =>
    intro p h
    rw [mtN]
    split
    · next e =>
      have := ih (p + 1) e.1
      simp
      omega
    · exact ⟨Nat.zero_le _, h⟩
theorem c_same_L2 {h : HP} {x : Nat → Int32} {L p w : Nat} {lw : List Int32} (hw : strL.getD w [] = lw) (hl : lenL.getD w 0 = lw.length) (hf : lw.length ≤ 8) (k : KTx h x L) (hp : p ≤ L) (e5 : h 59 5 = nI p) : ∀ (l : List Int32) (n i : Nat), i + l.length = lw.length → lw.drop i = l → l.length < n → f_X3_sameAs_L2 n w (nI i) h = some (nI (i + mtN x L l (p + i))) := by
  have hL := k.1
  have es : slen w = nI lw.length := by rw [slen, hl]
  intro l
  induction l with
  | nil =>
    intro n i hi hd hn
    obtain ⟨n, rfl⟩ : ∃ n', n = n' + 1 := ⟨n - 1, by omega⟩
    have hi : i = lw.length := by simpa using hi
    rw [f_X3_sameAs_L2, es, if_pos (nI_le (by omega) (by omega))]
    rfl
  | cons c l ih =>
    intro n i hi hd hn
    obtain ⟨n, rfl⟩ : ∃ n', n = n' + 1 := ⟨n - 1, by omega⟩
    obtain ⟨d1, d2, d3⟩ := dropc hd
    have ec : schr w (nI i) = c := by rw [schr, hw, nI_clamp (by omega), d1]
    have hi' : i + (l.length + 1) = lw.length := hi
    have hn' : l.length + 1 < n + 1 := hn
    rw [f_X3_sameAs_L2, es, if_neg (nI_ge (by omega) (by omega)), hl, gd_t (inB_n (by omega) (by omega)), ec, e5, nI_add, c_hasSign k (by omega), mtN]
    by_cases q : p + i < L ∧ x (p + i) = c
    · rw [decide_eq_true q, if_neg (show ¬ bI true = 0 by decide), if_pos q, nI_1, ih n (i + 1) (by omega) d2 (by omega)]
      congr 2
      rw [show p + (i + 1) = p + i + 1 by omega]
      omega
    · rw [decide_eq_false q, if_pos (show bI false = 0 by decide), if_neg q]
      rfl
theorem c_sameAs {h : HP} {x : Nat → Int32} {L p w : Nat} {lw : List Int32} (hw : strL.getD w [] = lw) (hl : lenL.getD w 0 = lw.length) (hf : lw.length ≤ 8) (k : KTx h x L) (hp : p ≤ L) (e5 : h 59 5 = nI p) : f_X3_sameAs w h = some (nI (mtN x L lw p)) := by
  have l := c_same_L2 hw hl hf k hp e5 lw FU 0 (by omega) rfl (Nat.lt_of_le_of_lt hf (by decide))
  rw [Nat.zero_add, Nat.add_zero] at l
  rw [f_X3_sameAs]
  exact ob_e (k := fun r => some r) l
theorem c_word_st {h : HP} {x : Nat → Int32} {L p w y n : Nat} {lw : List Int32} (hw5 : w < 5) (hw : strL.getD w [] = lw) (hl : lenL.getD w 0 = lw.length) (hf : lw.length ≤ 8) (hy : y ≤ 8) (k : KTx h x L) (hp : p ≤ L) (e5 : h 59 5 = nI p) : f_X3_readWord_L12 (n + 1) (nI y) (5 : Int32) (nI w) h = if mtN x L lw p = lw.length then some (nI (w + 1), hset h 59 5 (nI (p + lw.length))) else f_X3_readWord_L12 n (nI (max y (mtN x L lw p))) (5 : Int32) (nI (w + 1)) h := by
  have hm := (mtN_le (x := x) lw p hp).1
  rw [f_X3_readWord_L12, if_neg (show ¬ (5 : Int32) ≤ nI w from nI_ge (b := 5) hw5 (by decide)), gd_t (inB_n hw5 (by decide)), nI_clamp (by omega), ob_e (c_sameAs hw hl hf k hp e5), slen, hl]
  by_cases q : mtN x L lw p = lw.length
  · rw [if_pos (by rw [q]), if_pos q, e5, nI_add, q]
  · rw [if_neg (fun e => q ((nI_eq (by omega) (by omega)).mp e)), if_neg q, jmax_n (by omega) (by omega), nI_1]
def mx5 (a b c d e : Nat) : Nat := max (max (max (max (max 0 a) b) c) d) e
theorem c_readWord {h : HP} {x : Nat → Int32} {L p : Nat} (k : KTx h x L) (hp : p ≤ L) (e5 : h 59 5 = nI p) : f_X3_readWord h = if mtN x L [115,99,114,97,116,99,104,61] p = 8 then some (nI 1, hset h 59 5 (nI (p + 8))) else if mtN x L [112,111,108,105,115,104,61] p = 7 then some (nI 2, hset h 59 5 (nI (p + 7))) else if mtN x L [115,101,101,107,61] p = 5 then some (nI 3, hset h 59 5 (nI (p + 5))) else if mtN x L [112,108,97,121,61] p = 5 then some (nI 4, hset h 59 5 (nI (p + 5))) else if mtN x L [112,114,101,115,115,61] p = 6 then some (nI 5, hset h 59 5 (nI (p + 6))) else some (0, hset h 59 5 (nI (p + mx5 (mtN x L [115,99,114,97,116,99,104,61] p) (mtN x L [112,111,108,105,115,104,61] p) (mtN x L [115,101,101,107,61] p) (mtN x L [112,108,97,121,61] p) (mtN x L [112,114,101,115,115,61] p)))) := by
  have h0 : mtN x L [115,99,114,97,116,99,104,61] p ≤ 8 := (mtN_le _ p hp).1
  have h1 : mtN x L [112,111,108,105,115,104,61] p ≤ 7 := (mtN_le _ p hp).1
  have h2 : mtN x L [115,101,101,107,61] p ≤ 5 := (mtN_le _ p hp).1
  have h3 : mtN x L [112,108,97,121,61] p ≤ 5 := (mtN_le _ p hp).1
  have h4 : mtN x L [112,114,101,115,115,61] p ≤ 6 := (mtN_le _ p hp).1
  show f_X3_readWord_L12 (999994 + 1 + 1 + 1 + 1 + 1 + 1) (nI 0) (5 : Int32) (nI 0) h = _
  rw [c_word_st (w := 0) (lw := [115,99,114,97,116,99,104,61]) (by decide) rfl rfl (by decide) (by decide) k hp e5]
  show (if mtN x L [115,99,114,97,116,99,104,61] p = 8 then _ else _) = _
  by_cases q0 : mtN x L [115,99,114,97,116,99,104,61] p = 8
  · rw [if_pos q0, if_pos q0]
    rfl
  rw [if_neg q0, if_neg q0, c_word_st (w := 1) (lw := [112,111,108,105,115,104,61]) (by decide) rfl rfl (by decide) (by omega) k hp e5]
  show (if mtN x L [112,111,108,105,115,104,61] p = 7 then _ else _) = _
  by_cases q1 : mtN x L [112,111,108,105,115,104,61] p = 7
  · rw [if_pos q1, if_pos q1]
    rfl
  rw [if_neg q1, if_neg q1, c_word_st (w := 2) (lw := [115,101,101,107,61]) (by decide) rfl rfl (by decide) (by omega) k hp e5]
  show (if mtN x L [115,101,101,107,61] p = 5 then _ else _) = _
  by_cases q2 : mtN x L [115,101,101,107,61] p = 5
  · rw [if_pos q2, if_pos q2]
    rfl
  rw [if_neg q2, if_neg q2, c_word_st (w := 3) (lw := [112,108,97,121,61]) (by decide) rfl rfl (by decide) (by omega) k hp e5]
  show (if mtN x L [112,108,97,121,61] p = 5 then _ else _) = _
  by_cases q3 : mtN x L [112,108,97,121,61] p = 5
  · rw [if_pos q3, if_pos q3]
    rfl
  rw [if_neg q3, if_neg q3, c_word_st (w := 4) (lw := [112,114,101,115,115,61]) (by decide) rfl rfl (by decide) (by omega) k hp e5]
  show (if mtN x L [112,114,101,115,115,61] p = 6 then _ else _) = _
  by_cases q4 : mtN x L [112,114,101,115,115,61] p = 6
  · rw [if_pos q4, if_pos q4]
    rfl
  rw [if_neg q4, if_neg q4, f_X3_readWord_L12, if_pos (by decide), e5, nI_add]
  rfl
def chL (x : Nat → Int32) (L : Nat) : List Int32 → Nat × Bool → Nat × Bool
  | [], st => st
  | c :: l, st => chL x L l (s1S x L c st)
theorem chL_w {x : Nat → Int32} {L p : Nat} : ∀ l, chL x L l (p, true) = (p, true) := by
  intro l
  induction l with
  | nil => rfl
  | cons c l ih => rw [chL, s1S_w, ih]
theorem chL_mt {x : Nat → Int32} {L : Nat} : ∀ l p, chL x L l (p, false) = (p + mtN x L l p, decide (mtN x L l p ≠ l.length)) := by
  intro l
  induction l with
  | nil => intro p; rfl
  | cons c l ih =>
    intro p
    rw [chL, s1S_eq, mtN]
    by_cases q : p < L ∧ x p = c
    · rw [if_pos (show (p, false).2 = false ∧ (p, false).1 < L ∧ x (p, false).1 = c from ⟨rfl, q.1, q.2⟩), if_pos q, ih]
      have e1 : p + 1 + mtN x L l (p + 1) = p + (mtN x L l (p + 1) + 1) := by omega
      have e2 : decide (mtN x L l (p + 1) ≠ l.length) = decide (mtN x L l (p + 1) + 1 ≠ (c :: l).length) := decide_eq_decide.mpr (by simp)
      show (p + 1 + mtN x L l (p + 1), _) = _
      rw [e1, e2]
    · rw [if_neg (show ¬ ((p, false).2 = false ∧ (p, false).1 < L ∧ x (p, false).1 = c) from fun e => q ⟨e.2.1, e.2.2⟩), if_neg q, chL_w]
      rfl
theorem nuS_small {x : Nat → Int32} {L hi k v p : Nat} (h : hi ≤ 9) : nuS x L hi k v p = (v, p) := by
  cases k with
  | zero => rfl
  | succ k =>
    rw [nuS, if_neg (fun e => by
      have := e.1
      have := e.2.2.2.2
      omega)]
theorem nm_small {x : Nat → Int32} {L hi : Nat} {st : Nat × Bool} (h : hi ≤ 9) : nmS x L 0 hi st = sgS x L (nI 48) (nI (48 + hi)) st := by
  unfold nmS
  rw [Nat.min_eq_right h, nuS_small h]
  show (if (sgS x L (nI 48) (nI (48 + hi)) st).2 = true then _ else _) = _
  by_cases q : (sgS x L (nI 48) (nI (48 + hi)) st).2 = true
  · rw [if_pos q]
    unfold sgS at q ⊢
    split at q
    · exact Bool.noConfusion q
    · next c => rw [if_neg c]
  · rw [if_neg q, (sgS_ok q).2.2.2.2]
theorem nv_small {x : Nat → Int32} {L hi : Nat} {st : Nat × Bool} (h : hi ≤ 9) : nvS x L 0 hi st = mcS x L st.1 - (48 : Int32) := by
  unfold nvS
  rw [Nat.min_eq_right h, nuS_small h]
  show (if (sgS x L (nI 48) (nI (48 + hi)) st).2 = true then _ else _) = _
  by_cases q : (sgS x L (nI 48) (nI (48 + hi)) st).2 = true
  · rw [if_pos q]
  · have so := sgS_ok q
    have q2 : ¬ (57 : Int32) < x st.1 := fun e => so.2.2.2.1 (Int32.lt_of_le_of_lt (nI_le (b := 57) (by omega) (by decide)) e)
    obtain ⟨d, hd, e, e2⟩ := digit (show ¬ x st.1 < (48 : Int32) from so.2.2.1) q2
    have ed : dgN x st.1 = d := e2
    have em : mcS x L st.1 = nI (48 + d) := by
      unfold mcS
      rw [if_neg (by omega), e]
    rw [if_neg q, ed, em, lit_n 48, pk_sub (by omega), show 48 + d - 48 = d by omega]
/-- orders by words and numbers -/
def cOp (w : Nat) (a b c d : Int32) : HP → Option (Int32 × HP) := if w = 0 then f_X10_addScratch a b c d else if w = 1 then f_X10_polishAway a else if w = 2 then f_X10_seekFrame a else if w = 3 then f_X10_playFrames a else f_X10_pressSymbol a b c
def mOp (w : Nat) (a b c d : Int32) : HP → Option (Int32 × HP) := if w = 0 then f_X11_scratches a b c d else if w = 1 then f_X11_polishes a else if w = 2 then f_X11_seeks a else if w = 3 then f_X11_plays a else f_X11_presses a b c
def frL (w : Nat) : List Int32 := strL.getD (5 + w) []
