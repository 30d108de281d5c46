/-! the class's reading of a text -/
def KTx (h : HP) (x : Nat → Int32) (L : Nat) : Prop := L ≤ 60 ∧ h 59 1 = nI L ∧ ∀ j, j < L → h 60 j = x j
theorem KTx.of {h h' : HP} {x : Nat → Int32} {L : Nat} (k : KTx h x L) (e1 : h' 59 1 = h 59 1) (e2 : h' 60 = h 60) : KTx h' x L := by
  refine ⟨k.1, e1.trans k.2.1, ?_⟩
  rw [e2]
  exact k.2.2
theorem hset_id {h : HP} {o k : Nat} {y : Int32} (e : h o k = y) : hset h o k y = h := by
  rw [hset_sR, up_id e, sR_id]
theorem hset_2 {h : HP} {o k : Nat} {y z : Int32} : hset (hset h o k y) o k z = hset h o k z := by
  rw [hset_sR, hset_sR, hset_sR, sR_2, sR_s]
  congr 1
  funext i
  unfold up
  split <;> rfl
theorem c_hasSign {h : HP} {x : Nat → Int32} {L q : Nat} {c : Int32} (k : KTx h x L) (hq : q < 2 ^ 30) : f_X3_hasSign (nI q) c h = bI (decide (q < L ∧ x q = c)) := by
  have hL := k.1
  rw [f_X3_hasSign, if_neg (nI_pos (by omega)), k.2.1]
  by_cases q1 : q < L
  · rw [if_neg (nI_ge q1 (by omega)), if_neg (show ¬ (60 : Int32) ≤ nI q from nI_ge (b := 60) (by omega) (by decide)), nI_clamp (by omega), k.2.2 q q1]
    by_cases q2 : x q = c
    · rw [if_pos q2, decide_eq_true ⟨q1, q2⟩]
      rfl
    · rw [if_neg q2, decide_eq_false (fun e => q2 e.2)]
      rfl
  · rw [if_pos (nI_le (by omega) (by omega)), decide_eq_false (fun e => q1 e.1)]
    rfl
theorem c_readSign {h : HP} {x : Nat → Int32} {L p : Nat} {c : Int32} (k : KTx h x L) (hp : p ≤ L) (e5 : h 59 5 = nI p) : f_X3_readSign c h = (bI (!(s1S x L c (p, false)).2), hset h 59 5 (nI (s1S x L c (p, false)).1)) := by
  have hL := k.1
  rw [f_X3_readSign, e5, c_hasSign k (by omega), s1S_eq]
  by_cases q : p < L ∧ x p = c
  · rw [decide_eq_true q, if_neg (show ¬ bI true = 0 by decide), if_pos (show (p, false).2 = false ∧ (p, false).1 < L ∧ x (p, false).1 = c from ⟨rfl, q.1, q.2⟩), nI_1]
    rfl
  · rw [decide_eq_false q, if_pos (show bI false = 0 by decide), if_neg (show ¬ ((p, false).2 = false ∧ (p, false).1 < L ∧ x (p, false).1 = c) from fun e => q ⟨e.2.1, e.2.2⟩), Int32.add_zero]
    rfl
/-- whether a digit makes a number longer -/
def lbN (x : Nat → Int32) (L lo hi v p : Nat) : Bool := decide (p < L ∧ ¬ x p < (48 : Int32) ∧ ¬ (57 : Int32) < x p ∧ lo ≤ 10 * v + dgN x p ∧ 10 * v + dgN x p ≤ hi)
theorem c_longer {h : HP} {x : Nat → Int32} {L p lo hi v dg : Nat} {c : Int32} (k : KTx h x L) (hp : p ≤ L) (e5 : h 59 5 = nI p) (hlo : ∀ h, f_X9_lowest c h = nI lo) (hhi : ∀ h, f_X9_highest c h = nI hi) (h1 : lo ≤ 1) (h2 : hi ≤ 9999) (hv : v ≤ 9999) (hdg : dg ≤ 4) : f_X3_longerBy (nI v) (nI dg) c h = if (0 < dg ∧ v = 0) ∨ lbN x L lo hi v p = false then (-1 : Int32) else nI (10 * v + dgN x p) := by
  have hL := k.1
  have e0 : (if nI dg ≤ 0 then (0 : Int32) else (if nI v = 0 then (1 : Int32) else (0 : Int32))) = bI (decide (0 < dg ∧ v = 0)) := by
    by_cases q : dg = 0
    · subst q
      rw [if_pos (by decide), decide_eq_false (fun e => absurd e.1 (by decide))]
      rfl
    · rw [if_neg (nI_nle (by omega) (by omega))]
      by_cases q2 : v = 0
      · subst q2
        rw [if_pos (by decide), decide_eq_true ⟨by omega, rfl⟩]
        rfl
      · rw [if_neg (nI_ne0 (by omega) (by omega)), decide_eq_false (fun e => q2 e.2)]
        rfl
  rw [f_X3_longerBy, e0, tb_s, e5]
  by_cases q : 0 < dg ∧ v = 0
  · rw [decide_eq_true q, if_neg (show ¬ bI true = 0 by decide), if_pos (Or.inl q)]
  · rw [decide_eq_false q, if_pos (show bI false = 0 by decide), if_neg (nI_pos (by omega)), k.2.1]
    unfold lbN
    by_cases q1 : p < L
    · rw [if_neg (nI_ge q1 (by omega)), if_pos (show nI p < (60 : Int32) from nI_lt (b := 60) (by omega) (by decide)), nI_clamp (by omega), k.2.2 p q1]
      by_cases q2 : x p < 48
      · rw [if_pos q2, if_pos (Or.inr (decide_eq_false (fun e => e.2.1 q2)))]
      · rw [if_neg q2]
        by_cases q3 : (57 : Int32) < x p
        · rw [if_neg (Int32.not_le.mpr q3), if_pos (Or.inr (decide_eq_false (fun e => e.2.2.1 q3)))]
        · obtain ⟨d, hd, e, e2⟩ := digit q2 q3
          have ed : dgN x p = d := e2
          have ev : (nI v * (10 : Int32)) + (x p - (48 : Int32)) = nI (10 * v + d) := by
            rw [e, lit_n 10, lit_n 48, pk_mul, pk_sub (by omega), nI_add]
            congr 1
            omega
          rw [if_pos (Int32.not_lt.mp q3), ev, tb_s, hlo, hhi, ed]
          by_cases q4 : 10 * v + d < lo
          · rw [if_pos (nI_lt q4 (by omega)), if_pos (Or.inr (decide_eq_false (fun e => absurd e.2.2.2.1 (by omega))))]
          · rw [if_neg (nI_nlt (by omega) (by omega))]
            by_cases q5 : hi < 10 * v + d
            · rw [if_pos (nI_lt q5 (by omega)), if_pos (Or.inr (decide_eq_false (fun e => absurd e.2.2.2.2 (by omega))))]
            · rw [if_neg (nI_nlt (by omega) (by omega)), if_neg (fun e => by
                rcases e with e | e
                · exact q e
                · have := of_decide_eq_false e
                  exact this ⟨q1, q2, q3, by omega, by omega⟩)]
    · rw [if_pos (nI_le (by omega) (by omega)), if_pos (Or.inr (decide_eq_false (fun e => q1 e.1)))]
theorem c_num_L15 {x : Nat → Int32} {L lo hi : Nat} {c : Int32} (hlo : ∀ h, f_X9_lowest c h = nI lo) (hhi : ∀ h, f_X9_highest c h = nI hi) (h1 : lo ≤ 1) (h2 : hi ≤ 9999) : ∀ k n dg v p h, dg + k = 4 → 1 ≤ dg → k < n → KTx h x L → p ≤ L → h 59 5 = nI p → v ≤ hi → ∃ dg', 1 ≤ dg' ∧ dg' ≤ 4 ∧ f_X3_readNumber_L15 n c (nI v) (nI dg) (f_X3_longerBy (nI v) (nI dg) c h) h = some (nI (nuS x L hi k v p).1, nI dg', hset h 59 5 (nI (nuS x L hi k v p).2)) := by
  intro k
  induction k with
  | zero =>
    intro n dg v p h hd hd1 hn kt hp e5 hv
    obtain ⟨n, rfl⟩ : ∃ n', n = n' + 1 := ⟨n - 1, by omega⟩
    have : dg = 4 := by omega
    subst this
    refine ⟨4, by decide, by decide, ?_⟩
    rw [f_X3_readNumber_L15, if_pos (by decide), nuS, hset_id e5]
  | succ k ih =>
    intro n dg v p h hd hd1 hn kt hp e5 hv
    obtain ⟨n, rfl⟩ : ∃ n', n = n' + 1 := ⟨n - 1, by omega⟩
    rw [f_X3_readNumber_L15, if_neg (show ¬ (4 : Int32) ≤ nI dg from nI_ge (b := 4) (by omega) (by decide)), c_longer kt hp e5 hlo hhi h1 h2 (by omega) (by omega), nuS]
    by_cases q : (0 < dg ∧ v = 0) ∨ lbN x L lo hi v p = false
    · have nc : ¬ (v ≠ 0 ∧ p < L ∧ ¬ x p < (48 : Int32) ∧ ¬ (57 : Int32) < x p ∧ 10 * v + dgN x p ≤ hi) := by
        intro e
        rcases q with q | q
        · exact e.1 q.2
        · refine of_decide_eq_false q ⟨e.2.1, e.2.2.1, e.2.2.2.1, ?_, e.2.2.2.2⟩
          have := e.1
          omega
      refine ⟨dg, hd1, by omega, ?_⟩
      rw [if_pos q, if_pos (by decide), if_neg nc, hset_id e5]
    · have hlb : lbN x L lo hi v p = true := by
        cases hb : lbN x L lo hi v p with
        | true => rfl
        | false => exact absurd (Or.inr hb) q
      have lb := of_decide_eq_true hlb
      have v0 : v ≠ 0 := fun e => q (Or.inl ⟨by omega, e⟩)
      have kt1 : KTx (hset h 59 5 (nI (p + 1))) x L := kt.of (hset_oth (by omega)) (by rw [hset_sR, sR_o (by decide)])
      obtain ⟨dg', a1, a2, a3⟩ := ih n (dg + 1) (10 * v + dgN x p) (p + 1) (hset h 59 5 (nI (p + 1))) (by omega) (by omega) (by omega) kt1 (by omega) hset_same lb.2.2.2.2
      refine ⟨dg', a1, a2, ?_⟩
      rw [if_neg q, if_neg (nI_pos (by omega)), e5, nI_1, nI_1, tb_s, tb_s, if_pos ⟨v0, lb.1, lb.2.1, lb.2.2.1, lb.2.2.2.2⟩, a3, hset_2]
theorem lb_sg {x : Nat → Int32} {L lo hi p : Nat} (h1 : lo ≤ 1) (h2 : hi ≤ 9999) : lbN x L lo hi 0 p = !(sgS x L (nI (48 + lo)) (nI (48 + min 9 hi)) (p, false)).2 := by
  cases hb : lbN x L lo hi 0 p with
  | true =>
    have lb := of_decide_eq_true hb
    obtain ⟨d, hd, e, e2⟩ := digit lb.2.1 lb.2.2.1
    have ed : dgN x p = d := e2
    rw [ed] at lb
    unfold sgS
    have e' : x (p, false).1 = nI (48 + d) := e
    rw [if_pos ⟨rfl, lb.1, by rw [e']; exact nI_nlt (by omega) (by omega), by rw [e']; exact nI_nlt (by omega) (by omega)⟩]
    rfl
  | false =>
    have lb := of_decide_eq_false hb
    cases hs : (sgS x L (nI (48 + lo)) (nI (48 + min 9 hi)) (p, false)).2 with
    | true => rfl
    | false =>
      have so := sgS_ok (x := x) (L := L) (a := nI (48 + lo)) (b := nI (48 + min 9 hi)) (st := (p, false)) (fun e => by rw [hs] at e; exact Bool.noConfusion e)
      have s3 : ¬ x p < nI (48 + lo) := so.2.2.1
      have s4 : ¬ nI (48 + min 9 hi) < x p := so.2.2.2.1
      have q1 : ¬ x p < (48 : Int32) := fun e => s3 (Int32.lt_of_lt_of_le e (nI_le (a := 48) (by omega) (by omega)))
      have q2 : ¬ (57 : Int32) < x p := fun e => s4 (Int32.lt_of_le_of_lt (nI_le (b := 57) (by omega) (by decide)) e)
      obtain ⟨d, hd, e, e2⟩ := digit q1 q2
      have ed : dgN x p = d := e2
      refine absurd ⟨so.2.1, q1, q2, ?_, ?_⟩ lb
      · rw [ed]
        rw [e] at s3
        have := Nat.le_of_not_lt (fun c => s3 (nI_lt c (by omega)))
        omega
      · rw [ed]
        rw [e] at s4
        have := Nat.le_of_not_lt (fun c => s4 (nI_lt c (by omega)))
        omega
theorem c_readNumber {h : HP} {x : Nat → Int32} {L p lo hi idx : Nat} {c : Int32} (k : KTx h x L) (hp : p ≤ L) (e5 : h 59 5 = nI p) (hlo : ∀ h, f_X9_lowest c h = nI lo) (hhi : ∀ h, f_X9_highest c h = nI hi) (h1 : lo ≤ 1) (h2 : hi ≤ 9999) (hidx : idx < 40) : ∃ val, f_X3_readNumber c (nI idx) h = some (bI (!(nmS x L lo hi (p, false)).2), hset (hset h 59 5 (nI (nmS x L lo hi (p, false)).1)) 62 idx val) ∧ ((nmS x L lo hi (p, false)).2 = false → val = nvS x L lo hi (p, false)) := by
  have l62 : ln 62 = 40 := by decide
  have cl := c_longer (v := 0) (dg := 0) k hp e5 hlo hhi h1 h2 (by decide) (by decide)
  have cl : f_X3_longerBy (0 : Int32) (0 : Int32) c h = if (0 < 0 ∧ 0 = 0) ∨ lbN x L lo hi 0 p = false then (-1 : Int32) else nI (10 * 0 + dgN x p) := cl
  have ls := lb_sg (x := x) (L := L) (p := p) h1 h2
  unfold nmS nvS
  by_cases q : (sgS x L (nI (48 + lo)) (nI (48 + min 9 hi)) (p, false)).2 = true
  · rw [q] at ls
    have ls : lbN x L lo hi 0 p = false := ls
    rw [if_pos (Or.inr ls)] at cl
    refine ⟨0, ?_, fun e => by rw [if_pos q] at e; exact Bool.noConfusion e⟩
    have key : f_X3_readNumber_L15 FU c (0 : Int32) (0 : Int32) (-1 : Int32) h = some ((0 : Int32), (0 : Int32), h) := by
      show f_X3_readNumber_L15 (999999 + 1) c (0 : Int32) (0 : Int32) (-1 : Int32) h = _
      rw [f_X3_readNumber_L15, if_neg (by decide), if_pos (by decide)]
    rw [f_X3_readNumber, cl, tb_s, ob_e key, if_pos q]
    dsimp only
    rw [put_n (by omega), tb_s, if_pos (by decide), hset_id (h := h) e5]
    rfl
  · have hq := Bool.eq_false_iff.mpr q
    rw [hq] at ls
    have ls : lbN x L lo hi 0 p = true := ls
    have lb := of_decide_eq_true ls
    rw [if_neg (fun e => by
      rcases e with e | e
      · exact absurd e.1 (by decide)
      · rw [ls] at e
        exact Bool.noConfusion e), Nat.mul_zero, Nat.zero_add] at cl
    obtain ⟨d, hd, e, e2⟩ := digit lb.2.1 lb.2.2.1
    have ed : dgN x p = d := e2
    have hdhi : dgN x p ≤ hi := by
      have := lb.2.2.2.2
      omega
    have kt1 : KTx (hset h 59 5 (nI (p + 1))) x L := k.of (hset_oth (by omega)) (by rw [hset_sR, sR_o (by decide)])
    obtain ⟨dg', a1, a2, a3⟩ := c_num_L15 (x := x) (L := L) hlo hhi h1 h2 3 999999 1 (dgN x p) (p + 1) (hset h 59 5 (nI (p + 1))) rfl (by decide) (by decide) kt1 lb.1 hset_same hdhi
    have key : f_X3_readNumber_L15 FU c (0 : Int32) (0 : Int32) (nI (dgN x p)) h = some (nI (nuS x L hi 3 (dgN x p) (p + 1)).1, nI dg', hset h 59 5 (nI (nuS x L hi 3 (dgN x p) (p + 1)).2)) := by
      show f_X3_readNumber_L15 (999999 + 1) c (0 : Int32) (0 : Int32) (nI (dgN x p)) h = _
      rw [f_X3_readNumber_L15, if_neg (by decide), if_neg (nI_pos (by omega)), e5, nI_1, tb_s, tb_s]
      rw [hset_2] at a3
      exact a3
    refine ⟨nI (nuS x L hi 3 (dgN x p) (p + 1)).1, ?_, fun _ => by rw [if_neg q]⟩
    rw [f_X3_readNumber, cl, tb_s, ob_e key, if_neg q]
    dsimp only
    rw [put_n (by omega), tb_s, if_neg (nI_nle (by omega) (by omega))]
    rfl
