/-! a whole text read by the class; the call fault -/
theorem frOK : ∀ w, w < 5 → lenL.getD (5 + w) 0 = (frL w).length ∧ (frL w).length ≤ 7 ∧ nkL (frL w) ≤ 4 ∧ ∀ c, c ∈ frL w → kdC c = true → gdK c := by
  intro w hw
  have : w = 0 ∨ w = 1 ∨ w = 2 ∨ w = 3 ∨ w = 4 := by omega
  have no : ∀ {c : Int32}, kdC c = false → kdC c = true → gdK c := fun h1 h2 => Bool.noConfusion (h1.symm.trans h2)
  rcases this with q | q | q | q | q <;> subst q
  · refine ⟨rfl, by decide, by decide, fun c hc hk => ?_⟩
    have hc : c ∈ ([65,45,65,64,84,45,84] : List Int32) := hc
    simp at hc
    rcases hc with e | e | e | e | e | e | e <;> subst e
    · exact gdK_65
    · exact no (by decide) hk
    · exact gdK_65
    · exact no (by decide) hk
    · exact gdK_84
    · exact no (by decide) hk
    · exact gdK_84
  · refine ⟨rfl, by decide, by decide, fun c hc hk => ?_⟩
    have hc : c ∈ ([68] : List Int32) := hc
    simp at hc
    subst hc
    exact gdK_68
  · refine ⟨rfl, by decide, by decide, fun c hc hk => ?_⟩
    have hc : c ∈ ([70] : List Int32) := hc
    simp at hc
    subst hc
    exact gdK_70
  · refine ⟨rfl, by decide, by decide, fun c hc hk => ?_⟩
    have hc : c ∈ ([78] : List Int32) := hc
    simp at hc
    subst hc
    exact gdK_78
  · refine ⟨rfl, by decide, by decide, fun c hc hk => ?_⟩
    have hc : c ∈ ([70,46,80,58,83] : List Int32) := hc
    simp at hc
    rcases hc with e | e | e | e | e <;> subst e
    · exact gdK_70
    · exact no (by decide) hk
    · exact gdK_80
    · exact no (by decide) hk
    · exact gdK_83
theorem isWd_n : ∀ w, w < 5 → isWd (nI (w + 1)) = true ∧ ¬ nI (w + 1) = 0 ∧ (nI (w + 1)).toNatClampNeg - 1 = w := by decide
theorem c_order {h : HP} {x : Nat → Int32} {L p s : Nat} (k : KTx h x L) (hp : p ≤ L) (e5 : h 59 5 = nI p) (e4 : h 59 4 = nI s) (hs : s < 10) : ∃ h', f_X3_readOrder h = some (bI (!(oM x L p).2), h') ∧ h' 59 5 = nI (oM x L p).1 ∧ ((oM x L p).2 = false → h' 59 4 = nI (s + 1) ∧ ∃ w, w < 5 ∧ h' 61 s = nI (w + 1) ∧ mO x L p = mOp w (h' 62 (4 * s)) (h' 62 (4 * s + 1)) (h' 62 (4 * s + 2)) (h' 62 (4 * s + 3))) ∧ (∀ j, j < s → h' 61 j = h 61 j) ∧ (∀ j, j < 4 * s → h' 62 j = h 62 j) ∧ (∀ o, o ≠ 59 → o ≠ 61 → o ≠ 62 → h' o = h o) ∧ ∀ k, k ≠ 4 → k ≠ 5 → h' 59 k = h 59 k := by
  obtain ⟨q, e1, hq⟩ := c_word k hp e5
  rw [f_X3_readOrder, ob_e e1]
  rcases hq with ⟨q0, q2, qt⟩ | ⟨w, p', hw, qw, hp', q2, qo, qm⟩
  · rw [if_pos q0, q2, qt]
    refine ⟨_, rfl, hset_same, fun e => Bool.noConfusion e, fun j hj => ?_, fun j hj => ?_, fun o h1 h2 h3 => ?_, fun k h1 h2 => ?_⟩
    · rw [hset_oth (by omega)]
    · rw [hset_oth (by omega)]
    · rw [hset_sR, sR_o h1]
    · rw [hset_oth (by omega)]
  · obtain ⟨i1, i2, i3⟩ := isWd_n w hw
    obtain ⟨f1, f2, f3, f4⟩ := frOK w hw
    have e4' : q.2 59 4 = nI s := by
      rw [q2, hset_oth (by omega)]
      exact e4
    have kt : KTx (hset q.2 61 s (nI (w + 1))) x L := by
      rw [q2]
      exact k.of (by rw [hset_oth (by omega), hset_oth (by omega)]) (by rw [hset_sR, sR_o (by decide), hset_sR, sR_o (by decide)])
    obtain ⟨h', a1, a2, a3, a4, a5, a6⟩ := c_form (x := x) (L := L) (s := s) (w := w) (fm := frL w) rfl f1 f2 f4 hs (frL w) FU 0 0 p' (hset q.2 61 s (nI (w + 1))) (fun c hc => hc) (Nat.zero_add _) rfl (Nat.lt_of_le_of_lt f2 (by decide)) kt hp' (by rw [q2, hset_oth (by omega), hset_same]) (by rw [hset_oth (by omega)]; exact e4') (by omega)
    rw [← qo] at a1 a2 a3
    refine ⟨h', ?_, a2, fun e => ⟨(a3 e).1, w, hw, ?_, ?_⟩, fun j hj => ?_, fun j hj => ?_, fun o h1 h2 h3 => ?_, fun k h1 h2 => ?_⟩
    · rw [qw, if_neg i2, gd_t i1, e4', if_pos (show nI s < (10 : Int32) from nI_lt (b := 10) hs (by decide)), gd_t (inB_n hs (by decide)), i3, nI_clamp (by omega)]
      exact a1
    · rw [a5 61 (by decide) (by decide), hset_same]
    · have v := (a3 e).2
      have v0 := v 0
      have v1 := v 1
      have v2 := v 2
      have v3 := v 3
      simp only [Nat.add_zero] at v0 v1 v2 v3
      rw [qm]
      have : w = 0 ∨ w = 1 ∨ w = 2 ∨ w = 3 ∨ w = 4 := by omega
      rcases this with c | c | c | c | c <;> subst c
      · rw [v0 (by decide), v1 (by decide), v2 (by decide), v3 (by decide)]
      · rw [v0 (by decide)]
        rfl
      · rw [v0 (by decide)]
        rfl
      · rw [v0 (by decide)]
        rfl
      · rw [v0 (by decide), v1 (by decide), v2 (by decide)]
        rfl
    · rw [a5 61 (by decide) (by decide), hset_oth (by omega), q2, hset_oth (by omega)]
    · rw [a4 j (by omega), hset_oth (by omega), q2, hset_oth (by omega)]
    · rw [a5 o h1 h3, hset_sR, sR_o h2, q2, hset_sR, sR_o h1]
    · rw [a6 k h1 h2, hset_oth (by omega), q2, hset_oth (by omega)]
/-- what the class holds of the orders, from the order i at the place p -/
def OL (x : Nat → Int32) (L : Nat) (h : HP) : Nat → Nat → Nat → Prop
  | 0, _, _ => True
  | m + 1, i, p => (∃ w, w < 5 ∧ h 61 i = nI (w + 1) ∧ mO x L p = mOp w (h 62 (4 * i)) (h 62 (4 * i + 1)) (h 62 (4 * i + 2)) (h 62 (4 * i + 3))) ∧ (oM x L p).2 = false ∧ (if m = 0 then ¬ (oM x L p).1 < L else (oM x L p).1 < L ∧ x (oM x L p).1 = 59) ∧ OL x L h m (i + 1) ((oM x L p).1 + 1)
theorem OL.of {x : Nat → Int32} {L : Nat} {h h' : HP} (e1 : h' 61 = h 61) (e2 : h' 62 = h 62) : ∀ m i p, OL x L h m i p → OL x L h' m i p := by
  intro m
  induction m with
  | zero => intro i p _; trivial
  | succ m ih =>
    intro i p ⟨a, b, c, d⟩
    refine ⟨?_, b, c, ih _ _ d⟩
    rw [e1, e2]
    exact a
theorem goN_pos {x : Nat → Int32} {L k p : Nat} : 1 ≤ goN x L (k + 1) p := by
  rw [goN]
  split
  · exact Nat.le_refl _
  · split
    · split
      · omega
      · exact Nat.le_refl _
    · exact Nat.le_refl _
theorem c_all {x : Nat → Int32} {L : Nat} : ∀ k n i p h, i + k = 10 → k < n → KTx h x L → p ≤ L → h 59 5 = nI p → h 59 4 = nI i → 60 < p + 7 * k → ∃ r h', f_X3_readAll_L12 n (nI i) h = some (r, h') ∧ ((goS x L k p).2 = true → r = nI (goS x L k p).1) ∧ ((goS x L k p).2 = false → r = (-5 : Int32) ∧ h' 59 4 = nI (i + goN x L k p) ∧ OL x L h' (goN x L k p) i p) ∧ (∀ j, j < i → h' 61 j = h 61 j) ∧ (∀ j, j < 4 * i → h' 62 j = h 62 j) ∧ (∀ o, o ≠ 59 → o ≠ 61 → o ≠ 62 → h' o = h o) ∧ ∀ k, k ≠ 4 → k ≠ 5 → h' 59 k = h 59 k := by
  intro k
  induction k with
  | zero =>
    intro n i p h hi hn kt hp _ _ hk
    have := kt.1
    omega
  | succ k ih =>
    intro n i p h hi hn kt hp e5 e4 hk
    obtain ⟨n, rfl⟩ : ∃ n', n = n' + 1 := ⟨n - 1, by omega⟩
    have hL := kt.1
    have hle := oM_le (x := x) hp
    obtain ⟨h1, a1, a2, a3, a4, a5, a6, a7⟩ := c_order kt hp e5 e4 (by omega)
    have kt1 : KTx h1 x L := kt.of (a7 1 (by decide) (by decide)) (a6 60 (by decide) (by decide) (by decide))
    have e1 : h1 59 1 = nI L := kt1.2.1
    rw [f_X3_readAll_L12, if_neg (show ¬ (10 : Int32) ≤ nI i from nI_ge (b := 10) (by omega) (by decide)), ob_e a1, goS]
    by_cases q1 : (oM x L p).2 = true
    · rw [q1, if_pos rfl]
      refine ⟨_, h1, if_pos rfl, fun _ => a2, fun e => by rw [q1] at e; exact Bool.noConfusion e, a4, a5, a6, a7⟩
    · have q1f := Bool.eq_false_iff.mpr q1
      have hinc := oM_inc q1f
      obtain ⟨b1, w, hw, b2, b3⟩ := a3 q1f
      rw [q1f, if_neg (show ¬ false = true by decide)]
      dsimp only
      rw [if_neg (show ¬ bI (!false) = 0 by decide)]
      simp only [a2, e1]
      by_cases q2 : (oM x L p).1 < L
      · have rs := c_readSign (c := (59 : Int32)) kt1 hle a2
        rw [if_pos (nI_lt q2 (by omega)), if_pos q2, rs, tb_s, s1S_eq]
        by_cases q3 : x (oM x L p).1 = 59
        · have kt2 : KTx (hset h1 59 5 (nI ((oM x L p).1 + 1))) x L := kt1.of (by rw [hset_oth (by omega)]) (by rw [hset_sR, sR_o (by decide)])
          obtain ⟨r, h', c1, c2, c3, c4, c5, c6, c7⟩ := ih n (i + 1) ((oM x L p).1 + 1) (hset h1 59 5 (nI ((oM x L p).1 + 1))) (by omega) (by omega) kt2 q2 hset_same (by rw [hset_oth (by omega)]; exact b1) (by omega)
          rw [if_pos (show ((oM x L p).1, false).2 = false ∧ ((oM x L p).1, false).1 < L ∧ x ((oM x L p).1, false).1 = 59 from ⟨rfl, q2, q3⟩), if_pos q3]
          refine ⟨r, h', ?_, c2, fun e => ?_, fun j hj => ?_, fun j hj => ?_, fun o h1 h2 h3 => ?_, fun k h1 h2 => ?_⟩
          · dsimp only
            rw [if_neg (show ¬ bI (!false) = 0 by decide), nI_1]
            exact c1
          · obtain ⟨d1, d2, d3⟩ := c3 e
            have eg : goN x L (k + 1) p = 1 + goN x L k ((oM x L p).1 + 1) := by
              rw [goN, if_neg q1, if_pos q2, if_pos q3]
            have hk1 : 1 ≤ goN x L k ((oM x L p).1 + 1) := by
              cases k with
              | zero => omega
              | succ k => exact goN_pos
            rw [eg, Nat.add_comm 1]
            refine ⟨d1, by rw [d2]; congr 1; omega, ⟨w, hw, ?_, ?_⟩, q1f, ?_, d3⟩
            · rw [c4 i (by omega), hset_oth (by omega)]
              exact b2
            · rw [c5 (4 * i) (by omega), c5 (4 * i + 1) (by omega), c5 (4 * i + 2) (by omega), c5 (4 * i + 3) (by omega), hset_oth (by omega), hset_oth (by omega), hset_oth (by omega), hset_oth (by omega)]
              exact b3
            · rw [if_neg (by omega)]
              exact ⟨q2, q3⟩
          · rw [c4 j (by omega), hset_oth (by omega), a4 j hj]
          · rw [c5 j (by omega), hset_oth (by omega), a5 j hj]
          · rw [c6 o h1 h2 h3, hset_sR, sR_o h1, a6 o h1 h2 h3]
          · rw [c7 k h1 h2, hset_oth (by omega), a7 k h1 h2]
        · rw [if_neg (show ¬ (((oM x L p).1, false).2 = false ∧ ((oM x L p).1, false).1 < L ∧ x ((oM x L p).1, false).1 = 59) from fun e => q3 e.2.2), if_neg q3]
          refine ⟨nI (oM x L p).1, hset h1 59 5 (nI (oM x L p).1), ?_, fun _ => rfl, fun e => Bool.noConfusion e, fun j hj => ?_, fun j hj => ?_, fun o h1 h2 h3 => ?_, fun k h1 h2 => ?_⟩
          · dsimp only
            rw [if_pos (show bI (!true) = 0 by decide), hset_same]
          · rw [hset_oth (by omega), a4 j hj]
          · rw [hset_oth (by omega), a5 j hj]
          · rw [hset_sR, sR_o h1, a6 o h1 h2 h3]
          · rw [hset_oth (by omega), a7 k h1 h2]
      · rw [if_neg (nI_nlt (by omega) (by omega)), if_neg q2]
        refine ⟨(-5 : Int32), h1, rfl, fun e => by rw [q1f] at e; exact Bool.noConfusion e, fun _ => ?_, a4, a5, a6, a7⟩
        have eg : goN x L (k + 1) p = 1 := by
          rw [goN, if_neg q1, if_neg q2]
        rw [eg]
        exact ⟨rfl, b1, ⟨w, hw, b2, b3⟩, q1f, by rw [if_pos rfl]; exact q2, trivial⟩
theorem c_readAll {h : HP} {x : Nat → Int32} {L : Nat} (kt : KTx h x L) : ∃ r h', f_X3_readAll h = some (r, h') ∧ ((goS x L 10 0).2 = true → r = nI (goS x L 10 0).1) ∧ ((goS x L 10 0).2 = false → r = (-5 : Int32) ∧ h' 59 4 = nI (goN x L 10 0) ∧ OL x L h' (goN x L 10 0) 0 0) ∧ (∀ o, o ≠ 59 → o ≠ 61 → o ≠ 62 → h' o = h o) ∧ ∀ k, k ≠ 4 → k ≠ 5 → h' 59 k = h 59 k := by
  have kt0 : KTx (hset (hset h 59 5 0) 59 4 0) x L := kt.of (by rw [hset_oth (by omega), hset_oth (by omega)]) (by rw [hset_sR, sR_o (by decide), hset_sR, sR_o (by decide)])
  obtain ⟨r, h', a1, a2, a3, _, _, a6, a7⟩ := c_all (x := x) (L := L) 10 FU 0 0 (hset (hset h 59 5 0) 59 4 0) rfl (by decide) kt0 (Nat.zero_le _) (by rw [hset_oth (by omega), hset_same]; rfl) hset_same (by decide)
  refine ⟨r, h', ?_, a2, fun e => ?_, fun o h1 h2 h3 => ?_, fun k h1 h2 => ?_⟩
  · rw [f_X3_readAll, tb_s]
    exact a1
  · have := a3 e
    rw [Nat.zero_add] at this
    exact this
  · rw [a6 o h1 h2 h3, hset_sR, sR_o h1, hset_sR, sR_o h1]
  · rw [a7 k h1 h2, hset_oth (by omega), hset_oth (by omega)]
theorem KI.tx {h h' : HP} {v kv tx : Nat → Int32} {n L : Nat} {H : Nat → Nat → Int32} {kb : Bool} (i : KI h v n H kb kv L tx) (f1 : ∀ o, o ≠ 59 → o ≠ 61 → o ≠ 62 → h' o = h o) (f2 : ∀ k, k ≠ 4 → k ≠ 5 → h' 59 k = h 59 k) : KI h' v n H kb kv L tx := by
  obtain ⟨i1, i2, i3, i4, i5, i6, i7⟩ := i
  refine ⟨i1.of (fun a h1 h2 => f1 a (by omega) (by omega) (by omega)), i2.of (fun o h1 h2 => f1 o (by omega) (by omega) (by omega)), i3.of (fun o h1 h2 => f1 o (by omega) (by omega) (by omega)), ⟨?_, fun k => (i4.2 k).of (fun a h1 h2 => f1 a (by omega) (by omega) (by omega))⟩, ?_, i6, ?_⟩
  · rw [f1 0 (by decide) (by decide) (by decide)]
    exact i4.1
  · rw [f2 1 (by decide) (by decide)]
    exact i5
  · rw [f1 60 (by decide) (by decide) (by decide)]
    exact i7
theorem MI.pw {h : HP} {v kv tx : Nat → Int32} {n L : Nat} {H : Nat → Nat → Int32} {kb : Bool} {st : Nat × Bool} (i : MI h v n H kb kv L tx) : MI (PW h st) v n H kb kv L tx := by
  unfold MI MH
  rw [PW_o (show 71 ≠ 70 by decide), PW_o (show 73 ≠ 70 by decide), PW_o (show 74 ≠ 70 by decide), PW_o (show 75 ≠ 70 by decide), PW_k (show 3 ≠ 9 by decide) (by decide), PW_k (show 5 ≠ 9 by decide) (by decide), PW_k (show 7 ≠ 9 by decide) (by decide)]
  exact i
theorem m_go {h : HP} {x : Nat → Int32} {L : Nat} (m : MTx h x L) : f_X11_go (0 : Int32) h = some (nI (goN x L 10 0), PW h (goS x L 10 0)) := by
  have e : hset (hset h 70 9 0) 70 10 0 = PW h (0, false) := by
    unfold PW
    rw [hset_sR, hset_sR, sR_2, sR_s]
    rfl
  have l := m_go0 m 10 FU 0 0 (by decide) (Nat.zero_le _) (by decide)
  rw [Nat.zero_add] at l
  rw [f_X11_go, tb_s, e]
  exact l
theorem two_fault {T : Nat} {h : HP} (inv : Inv T h) : Two T h f_X10_fault f_X11_fault := by
  obtain ⟨v, n, H, kb, kv, L, tx, ki, mi, wa⟩ := inv
  have kt : KTx h tx L := ⟨ki.2.2.2.2.2.1, ki.2.2.2.2.1, ki.2.2.2.2.2.2⟩
  obtain ⟨r, h1, a1, a2, a3, a4, a5⟩ := c_readAll kt
  have hr : r = if (goS tx L 10 0).2 = true then nI (goS tx L 10 0).1 else (-5 : Int32) := by
    by_cases q : (goS tx L 10 0).2 = true
    · rw [if_pos q]
      exact a2 q
    · rw [if_neg q]
      exact (a3 (Bool.eq_false_iff.mpr q)).1
  refine two_of (r := r) (h1 := h1) mi ?_ (ki.tx a4 a5) (fun o ho => a4 o (by omega) (by omega) (by omega)) (fun g mg => ?_) (wa.mono (by omega))
  · rw [f_X10_fault, ob_e a1]
  · have mt : MTx g tx L := ⟨ki.2.2.2.2.2.1, mg.2.2.2.1, mg.2.2.2.2⟩
    refine ⟨PW g (goS tx L 10 0), ?_, mg.pw, fun o ho => PW_o (by omega)⟩
    rw [f_X11_fault, ob_e (m_go mt), hr]
    simp only [PW_10, PW_9]
    cases (goS tx L 10 0).2 with
    | true => rw [if_neg (show ¬ bI true = 0 by decide), if_pos rfl]
    | false => rw [if_pos (show bI false = 0 by decide), if_neg (show ¬ false = true by decide)]
