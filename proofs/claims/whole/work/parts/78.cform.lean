/-! the class's reading of a form -/
def kdC (c : Int32) : Bool := decide (¬ c < (65 : Int32) ∧ ¬ (90 : Int32) < c)
def loC (c : Int32) : Nat := if c = 78 then 1 else 0
def hiC (c : Int32) : Nat := if c = 65 then 359 else if c = 84 then 29 else if c = 68 then 9 else if c = 70 then 9999 else if c = 78 then 999 else if c = 80 then 3 else 15
def itS (x : Nat → Int32) (L : Nat) (c : Int32) (st : Nat × Bool) : Nat × Bool := if kdC c = true then nmS x L (loC c) (hiC c) st else s1S x L c st
def cF (x : Nat → Int32) (L : Nat) : List Int32 → Nat × Bool → Nat × Bool
  | [], st => st
  | c :: l, st => cF x L l (itS x L c st)
def cV (x : Nat → Int32) (L : Nat) : List Int32 → Nat × Bool → Nat → Int32
  | [], _, _ => 0
  | c :: l, st, j => if kdC c = true then (if j = 0 then nvS x L (loC c) (hiC c) st else cV x L l (itS x L c st) (j - 1)) else cV x L l (itS x L c st) j
def nkL : List Int32 → Nat
  | [] => 0
  | c :: l => (if kdC c = true then 1 else 0) + nkL l
theorem itS_w {x : Nat → Int32} {L p : Nat} {c : Int32} : itS x L c (p, true) = (p, true) := by
  unfold itS
  split
  · exact nmS_w
  · exact s1S_w
theorem cF_w {x : Nat → Int32} {L p : Nat} : ∀ l, cF x L l (p, true) = (p, true) := by
  intro l
  induction l with
  | nil => rfl
  | cons c l ih => rw [cF, itS_w, ih]
theorem itS_le {x : Nat → Int32} {L : Nat} {c : Int32} {st : Nat × Bool} (h : st.1 ≤ L) : (itS x L c st).1 ≤ L := by
  unfold itS
  split
  · exact nmS_le h
  · exact s1S_le h
theorem c_isKind {c : Int32} {h : HP} : f_X9_isKind c h = bI (kdC c) := by
  rw [f_X9_isKind]
  unfold kdC
  by_cases q1 : c < 65
  · rw [if_pos q1, decide_eq_false (fun e => e.1 q1)]
    rfl
  · rw [if_neg q1]
    by_cases q2 : (90 : Int32) < c
    · rw [if_pos q2, decide_eq_false (fun e => e.2 q2)]
      rfl
    · rw [if_neg q2, decide_eq_true ⟨q1, q2⟩]
      rfl
theorem c_lowest {c : Int32} {h : HP} : f_X9_lowest c h = nI (loC c) := by
  rw [f_X9_lowest]
  unfold loC
  split <;> rfl
def gdK (c : Int32) : Prop := ∀ h : HP, f_X9_highest c h = nI (hiC c)
theorem gdK_65 : gdK 65 := fun _ => rfl
theorem gdK_84 : gdK 84 := fun _ => rfl
theorem gdK_68 : gdK 68 := fun _ => rfl
theorem gdK_70 : gdK 70 := fun _ => rfl
theorem gdK_78 : gdK 78 := fun _ => rfl
theorem gdK_80 : gdK 80 := fun _ => rfl
theorem gdK_83 : gdK 83 := fun _ => rfl
theorem hiC_le {c : Int32} : hiC c ≤ 9999 := by
  unfold hiC
  repeat' split
  all_goals decide
theorem loC_le {c : Int32} : loC c ≤ 1 := by
  unfold loC
  split <;> decide
theorem dropc {fm : List Int32} {i : Nat} {c : Int32} {l : List Int32} (h : fm.drop i = c :: l) : fm.getD i 0 = c ∧ fm.drop (i + 1) = l ∧ i < fm.length := by
  induction fm generalizing i with
  | nil => simp at h
  | cons a fm ih =>
    cases i with
    | zero =>
      simp at h
      refine ⟨?_, ?_, by simp⟩
      · simp [h.1]
      · simp [h.2]
    | succ i =>
      simp at h
      obtain ⟨h1, h2, h3⟩ := ih h
      refine ⟨?_, ?_, ?_⟩
      · simpa using h1
      · simpa using h2
      · simp
        exact h3
theorem c_form {x : Nat → Int32} {L w s : Nat} {fm : List Int32} (hw : strL.getD (5 + w) [] = fm) (hl : lenL.getD (5 + w) 0 = fm.length) (hf : fm.length ≤ 7) (hk : ∀ c, c ∈ fm → kdC c = true → gdK c) (hs : s < 10) : ∀ (l : List Int32) (n i r p : Nat) (h : HP), (∀ c, c ∈ l → c ∈ fm) → i + l.length = fm.length → fm.drop i = l → l.length < n → KTx h x L → p ≤ L → h 59 5 = nI p → h 59 4 = nI s → r + nkL l ≤ 4 →
    ∃ h', f_X3_readOrder_L37 n w (nI r) (nI i) h = some (bI (!(cF x L l (p, false)).2), h') ∧ h' 59 5 = nI (cF x L l (p, false)).1 ∧ ((cF x L l (p, false)).2 = false → h' 59 4 = nI (s + 1) ∧ ∀ j, j < nkL l → h' 62 (4 * s + r + j) = cV x L l (p, false) j) ∧ (∀ j, j < 4 * s + r → h' 62 j = h 62 j) ∧ (∀ o, o ≠ 59 → o ≠ 62 → h' o = h o) ∧ ∀ k, k ≠ 4 → k ≠ 5 → h' 59 k = h 59 k := by
  intro l
  induction l with
  | nil =>
    intro n i r p h _ hi hd hn kt hp e5 e4 hr
    obtain ⟨n, rfl⟩ : ∃ n', n = n' + 1 := ⟨n - 1, by omega⟩
    have es : slen (5 + w) = nI fm.length := by rw [slen, hl]
    have hi : i = fm.length := by simpa using hi
    refine ⟨hset h 59 4 (nI (s + 1)), ?_, ?_, fun _ => ⟨hset_same, fun j hj => absurd hj (Nat.not_lt_zero _)⟩, fun j hj => ?_, fun o h1 h2 => ?_, fun k h1 h2 => ?_⟩
    · rw [f_X3_readOrder_L37, es, hi, if_pos (nI_le (Nat.le_refl _) (by omega)), e4, nI_1]
      rfl
    · rw [hset_oth (by omega)]
      exact e5
    · rw [hset_oth (by omega)]
    · rw [hset_sR, sR_o h1]
    · rw [hset_oth (by omega)]
  | cons c l ih =>
    intro n i r p h hsub hi hd hn kt hp e5 e4 hr
    obtain ⟨n, rfl⟩ : ∃ n', n = n' + 1 := ⟨n - 1, by omega⟩
    have hL := kt.1
    obtain ⟨d1, d2, d3⟩ := dropc hd
    have es : slen (5 + w) = nI fm.length := by rw [slen, hl]
    have ec : schr (5 + w) (nI i) = c := by rw [schr, hw, nI_clamp (by omega), d1]
    have hi' : i + (l.length + 1) = fm.length := hi
    have hn' : l.length + 1 < n + 1 := hn
    rw [f_X3_readOrder_L37, es, if_neg (nI_ge (by omega) (by omega)), hl, gd_t (inB_n (by omega) (by omega)), ec, c_isKind, cF]
    have hcm : c ∈ fm := hsub c (by simp)
    have hsub' : ∀ c, c ∈ l → c ∈ fm := fun a ha => hsub a (by simp [ha])
    cases hkd : kdC c with
    | true =>
      have hnk : nkL (c :: l) = 1 + nkL l := by
        show (if kdC c = true then 1 else 0) + nkL l = _
        rw [if_pos hkd]
      have hit : itS x L c (p, false) = nmS x L (loC c) (hiC c) (p, false) := if_pos hkd
      have ix : (nI s * (4 : Int32)) + nI r = nI (4 * s + r) := by rw [lit_n 4, pk_mul, nI_add, Nat.mul_comm]
      obtain ⟨val, a1, a2⟩ := c_readNumber (idx := 4 * s + r) kt hp e5 (fun h => c_lowest (c := c) (h := h)) (hk c hcm hkd) loC_le hiC_le (by omega)
      rw [← hit] at a1 a2
      have hle : (itS x L c (p, false)).1 ≤ L := itS_le hp
      obtain ⟨p1, b1, e2⟩ : ∃ p1 b1, itS x L c (p, false) = (p1, b1) := ⟨_, _, rfl⟩
      rw [e2] at a1 a2 hle
      have a1 : f_X3_readNumber c (nI (4 * s + r)) h = some (bI (!b1), hset (hset h 59 5 (nI p1)) 62 (4 * s + r) val) := a1
      have hle : p1 ≤ L := hle
      rw [if_neg (show ¬ bI true = 0 by decide), e4, ix, ob_e a1, e2]
      cases b1 with
      | true =>
        rw [cF_w]
        refine ⟨hset (hset h 59 5 (nI p1)) 62 (4 * s + r) val, rfl, ?_, fun e => Bool.noConfusion e, fun j hj => ?_, fun o h1 h2 => ?_, fun k h1 h2 => ?_⟩
        · rw [hset_oth (by omega), hset_same]
        · rw [hset_oth (by omega), hset_oth (by omega)]
        · rw [hset_sR, sR_o h2, hset_sR, sR_o h1]
        · rw [hset_oth (by omega), hset_oth (by omega)]
      | false =>
        have av : val = nvS x L (loC c) (hiC c) (p, false) := a2 rfl
        obtain ⟨h', b1, b2, b3, b4, b5, b6⟩ := ih n (i + 1) (r + 1) p1 (hset (hset h 59 5 (nI p1)) 62 (4 * s + r) val) hsub' (by omega) d2 (by omega) (kt.of (by rw [hset_oth (by omega), hset_oth (by omega)]) (by rw [hset_sR, sR_o (by decide), hset_sR, sR_o (by decide)])) hle (by rw [hset_oth (by omega), hset_same]) (by rw [hset_oth (by omega), hset_oth (by omega)]; exact e4) (by omega)
        refine ⟨h', ?_, b2, fun e => ⟨(b3 e).1, fun j hj => ?_⟩, fun j hj => ?_, fun o h1 h2 => ?_, fun k h1 h2 => ?_⟩
        · rw [if_neg (show ¬ bI (!false) = 0 by decide), if_neg (show ¬ bI true = 0 by decide), tb_s, nI_1, nI_1]
          exact b1
        · show _ = (if kdC c = true then (if j = 0 then nvS x L (loC c) (hiC c) (p, false) else cV x L l (itS x L c (p, false)) (j - 1)) else _)
          rw [if_pos hkd]
          by_cases q : j = 0
          · subst q
            rw [if_pos rfl, ← av, b4 _ (by omega)]
            exact hset_same
          · rw [if_neg q, e2]
            have := (b3 e).2 (j - 1) (by omega)
            rw [← this]
            congr 1
            omega
        · rw [b4 j (by omega), hset_oth (by omega), hset_oth (by omega)]
        · rw [b5 o h1 h2, hset_sR, sR_o h2, hset_sR, sR_o h1]
        · rw [b6 k h1 h2, hset_oth (by omega), hset_oth (by omega)]
    | false =>
      have hkf : ¬ kdC c = true := by
        rw [hkd]
        decide
      have hnk : nkL (c :: l) = nkL l := by
        show (if kdC c = true then 1 else 0) + nkL l = _
        rw [if_neg hkf, Nat.zero_add]
      have hit : itS x L c (p, false) = s1S x L c (p, false) := if_neg hkf
      have a1 := c_readSign (c := c) kt hp e5
      rw [← hit] at a1
      have hle : (itS x L c (p, false)).1 ≤ L := itS_le hp
      obtain ⟨p1, b1, e2⟩ : ∃ p1 b1, itS x L c (p, false) = (p1, b1) := ⟨_, _, rfl⟩
      rw [e2] at a1 hle
      have a1 : f_X3_readSign c h = (bI (!b1), hset h 59 5 (nI p1)) := a1
      have hle : p1 ≤ L := hle
      rw [if_pos (show bI false = 0 by decide), a1, tb_s, e2]
      cases b1 with
      | true =>
        rw [cF_w]
        refine ⟨hset h 59 5 (nI p1), rfl, hset_same, fun e => Bool.noConfusion e, fun j hj => ?_, fun o h1 h2 => ?_, fun k h1 h2 => ?_⟩
        · rw [hset_oth (by omega)]
        · rw [hset_sR, sR_o h1]
        · rw [hset_oth (by omega)]
      | false =>
        obtain ⟨h', b1, b2, b3, b4, b5, b6⟩ := ih n (i + 1) r p1 (hset h 59 5 (nI p1)) hsub' (by omega) d2 (by omega) (kt.of (by rw [hset_oth (by omega)]) (by rw [hset_sR, sR_o (by decide)])) hle hset_same (by rw [hset_oth (by omega)]; exact e4) (by omega)
        refine ⟨h', ?_, b2, fun e => ⟨(b3 e).1, fun j hj => ?_⟩, fun j hj => ?_, fun o h1 h2 => ?_, fun k h1 h2 => ?_⟩
        · rw [if_neg (show ¬ bI (!false) = 0 by decide), if_pos (show bI false = 0 by decide), tb_s, Int32.add_zero, nI_1]
          exact b1
        · show _ = (if kdC c = true then _ else cV x L l (itS x L c (p, false)) j)
          rw [if_neg hkf, e2]
          exact (b3 e).2 j (by omega)
        · rw [b4 j hj, hset_oth (by omega)]
        · rw [b5 o h1 h2, hset_sR, sR_o h1]
        · rw [b6 k h1 h2, hset_oth (by omega)]
