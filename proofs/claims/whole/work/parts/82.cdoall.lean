/-! the call doAll -/
def Ow (T : Nat) (v : Nat → Int32) (C M : HP → Option (Int32 × HP)) : Prop := ∃ r rm v', COp v v' r C ∧ MOp v v' rm M ∧ WF (T + 10000) v' ∧ ((¬ 0 ≤ r ∧ rm = r ∧ v' = v) ∨ (0 ≤ r ∧ 0 ≤ rm))
theorem Op.ow {b : Bool} {T : Nat} {v : Nat → Int32} {C M : HP → Option (Int32 × HP)} (o : Op b T v C M) : Ow T v C M := by
  obtain ⟨r, rm, v', c, m, w, h⟩ := o
  refine ⟨r, rm, v', c, m, w, ?_⟩
  rcases h with h | h
  · exact Or.inl h
  · exact Or.inr ⟨h.1, h.2.1⟩
theorem op_all {T w : Nat} {v : Nat → Int32} {a b c d : Int32} (hT : T + 10000 < 2 ^ 31) (wf : WF T v) (hw : w < 5) : Ow T v (cOp w a b c d) (mOp w a b c d) := by
  have : w = 0 ∨ w = 1 ∨ w = 2 ∨ w = 3 ∨ w = 4 := by omega
  rcases this with q | q | q | q | q <;> subst q
  · exact (op_scratch wf).ow
  · exact (op_polish wf).ow
  · exact (op_seek hT wf).ow
  · exact (op_play hT wf).ow
  · exact (op_press wf).ow
theorem c_doOrder {h : HP} {j w : Nat} (hj : j < 10) (hw : w < 5) (e : h 61 j = nI (w + 1)) : f_X10_doOrder (nI j) h = cOp w (h 62 (4 * j)) (h 62 (4 * j + 1)) (h 62 (4 * j + 2)) (h 62 (4 * j + 3)) h := by
  have l62 : ln 62 = 40 := by decide
  obtain ⟨i1, i2, i3⟩ := isWd_n w hw
  have ew : f_X3_wordOf (nI j) h = nI (w + 1) := by
    rw [f_X3_wordOf, if_neg (nI_pos (by omega)), if_neg (show ¬ (10 : Int32) ≤ nI j from nI_ge (b := 10) hj (by decide)), nI_clamp (by omega), e]
  have en : ∀ c, c < 4 → f_X3_numberOf (nI j) (nI c) h = h 62 (4 * j + c) := fun c hc => by
    rw [f_X3_numberOf, lit_n 4, pk_mul, nI_add, Nat.mul_comm, at_n (by omega)]
  have n0 : f_X3_numberOf (nI j) (0 : Int32) h = h 62 (4 * j) := en 0 (by decide)
  have n1 : f_X3_numberOf (nI j) (1 : Int32) h = h 62 (4 * j + 1) := en 1 (by decide)
  have n2 : f_X3_numberOf (nI j) (2 : Int32) h = h 62 (4 * j + 2) := en 2 (by decide)
  have n3 : f_X3_numberOf (nI j) (3 : Int32) h = h 62 (4 * j + 3) := en 3 (by decide)
  rw [f_X10_doOrder, ew, if_neg i2, gd_t i1, i3, gd_t (inB_n hw (by decide)), nI_clamp (by omega), n0, n1, n2, n3]
  have : w = 0 ∨ w = 1 ∨ w = 2 ∨ w = 3 ∨ w = 4 := by omega
  rcases this with q | q | q | q | q <;> subst q
  · rw [if_pos (by decide), ob_id]
    rfl
  · rw [if_neg (by decide), if_pos (by decide), ob_id]
    rfl
  · rw [if_neg (by decide), if_neg (by decide), if_pos (by decide), ob_id]
    rfl
  · rw [if_neg (by decide), if_neg (by decide), if_neg (by decide), if_pos (by decide), ob_id]
    rfl
  · rw [if_neg (by decide), if_neg (by decide), if_neg (by decide), if_neg (by decide), if_pos (by decide), ob_id]
    rfl
def bd (T : Nat) : Nat → Nat
  | 0 => T + 10000
  | d + 1 => bd (T + 10000) d
theorem bd_ge : ∀ d T, T + 10000 ≤ bd T d := by
  intro d
  induction d with
  | zero => intro T; exact Nat.le_refl _
  | succ d ih =>
    intro T
    have := ih (T + 10000)
    rw [bd]
    omega
theorem bd_le {T d : Nat} (h : d < 10) : bd T d ≤ T + 100000 := by
  have : d = 0 ∨ d = 1 ∨ d = 2 ∨ d = 3 ∨ d = 4 ∨ d = 5 ∨ d = 6 ∨ d = 7 ∨ d = 8 ∨ d = 9 := by omega
  rcases this with q | q | q | q | q | q | q | q | q | q <;> subst q <;> simp only [bd] <;> omega
/-- how the orders from j on end, the class's way -/
def rnC (out : Option Int32) (m : Nat) (h' : HP) : Option (Int32 × HP) := match out with
  | none => ob (f_X10_recorded (nI m) h') (fun q => some (q.1, q.2))
  | some e => some (e, f_X6_copyFrom 1 9 h')
def rnM (out : Option Int32) (m : Nat) : Int32 := match out with
  | none => nI m
  | some e => e
theorem run {x : Nat → Int32} {L : Nat} {h0 : HP} : ∀ d j p v T, OL x L h0 (d + 1) j p → j + d < 10 → bd T d < 2 ^ 31 → WF T v → p ≤ L → ∃ out v', WF (bd T d) v' ∧ (∀ e, out = some e → ¬ 0 ≤ e) ∧
    (∀ h n, d + 1 < n → R h 1 v → SV h → h 59 4 = nI (j + d + 1) → h 61 = h0 61 → h 62 = h0 62 → ∃ h', R h' 1 v' ∧ SV h' ∧ (∀ o, (o = 0 ∨ (9 ≤ o ∧ o ≤ 63) ∨ 69 ≤ o) → h' o = h o) ∧ f_X10_doAll_L32 n (nI j) h = rnC out (j + d + 1) h') ∧
    ∀ g n, d + 2 ≤ n → MTx g x L → E6 (g 71) v → ∃ g', E6 (g' 71) v' ∧ (∀ o, o ≠ 70 → o ≠ 71 → o ≠ 76 → g' o = g o) ∧ (∀ k, k ≠ 9 → k ≠ 10 → g' 70 k = g 70 k) ∧ f_X11_go_L14 n (1 : Int32) (nI j) (1 : Int32) (PW g (p, false)) = some (rnM out (j + d + 1), g') := by
  intro d
  induction d with
  | zero =>
    intro j p v T ol hj hT wf hp
    have hT : T + 10000 < 2 ^ 31 := hT
    obtain ⟨⟨w, hw, ew, em⟩, hb, hc, _⟩ := ol
    rw [if_pos rfl] at hc
    obtain ⟨r, rm, v1, co, mo, wf1, hr⟩ := op_all (a := h0 62 (4 * j)) (b := h0 62 (4 * j + 1)) (c := h0 62 (4 * j + 2)) (d := h0 62 (4 * j + 3)) hT wf hw
    have hle := oM_le (x := x) hp
    have hst := (oM_inc hb).2
    -- class
    have cl : ∀ h n, 1 < n → R h 1 v → SV h → h 59 4 = nI (j + 1) → h 61 = h0 61 → h 62 = h0 62 → ∃ h', R h' 1 v1 ∧ SV h' ∧ (∀ o, (o = 0 ∨ (9 ≤ o ∧ o ≤ 63) ∨ 69 ≤ o) → h' o = h o) ∧ f_X10_doAll_L32 n (nI j) h = if 0 ≤ r ∨ r = (-5 : Int32) then rnC none (j + 1) h' else rnC (some r) (j + 1) h' := by
      intro h n hn r1 sv e4 e61 e62
      obtain ⟨n, rfl⟩ : ∃ n', n = n' + 1 + 1 := ⟨n - 2, by omega⟩
      obtain ⟨h', c1, c2, c3, c4⟩ := co h r1 sv
      have ed : f_X10_doOrder (nI j) h = some (r, h') := by
        rw [c_doOrder (w := w) (by omega) hw (by rw [e61]; exact ew), e62]
        exact c1
      have e4' : h' 59 4 = nI (j + 1) := by
        rw [c4 59 (by omega)]
        exact e4
      refine ⟨h', c2, c3, c4, ?_⟩
      rw [f_X10_doAll_L32, e4, if_neg (nI_ge (by omega) (by omega)), ob_e ed]
      have nxt : f_X10_doAll_L32 (n + 1) (nI j + (1 : Int32)) h' = rnC none (j + 1) h' := by
        rw [f_X10_doAll_L32, e4', nI_1, if_pos (nI_le (Nat.le_refl _) (by omega))]
        rfl
      dsimp only
      by_cases q1 : 0 ≤ r
      · rw [if_pos q1, if_pos (Or.inl q1), nxt]
      · rw [if_neg q1]
        by_cases q2 : r = (-5 : Int32)
        · rw [if_pos q2, if_pos (Or.inr q2), nxt]
        · rw [if_neg q2, if_neg (fun e => e.elim q1 q2), tb_s]
          rfl
    have ml : ∀ g n, 2 ≤ n → MTx g x L → E6 (g 71) v → ∃ g', E6 (g' 71) v1 ∧ (∀ o, o ≠ 70 → o ≠ 71 → o ≠ 76 → g' o = g o) ∧ (∀ k, k ≠ 9 → k ≠ 10 → g' 70 k = g 70 k) ∧ f_X11_go_L14 n (1 : Int32) (nI j) (1 : Int32) (PW g (p, false)) = if 0 ≤ rm ∨ rm = (-5 : Int32) then some (nI (j + 1), g') else some (rm, g') := by
      intro g n hn mt eg
      obtain ⟨n, rfl⟩ : ∃ n', n = n' + 1 + 1 := ⟨n - 2, by omega⟩
      obtain ⟨g1, m1, m2, m3⟩ := mo (PW g (oM x L p)) (by rw [PW_o (by decide)]; exact eg)
      have e70 : g1 70 = PW g (oM x L p) 70 := m3 70 (by decide) (by decide)
      have ep : PW g1 (oM x L p) = g1 := PW_id (by rw [e70]; exact PW_9) (by rw [e70]; exact PW_10)
      have mt1 : MTx g1 x L := by
        refine ⟨mt.1, ?_, ?_⟩
        · rw [e70, PW_k (by decide) (by decide)]
          exact mt.2.1
        · rw [m3 75 (by decide) (by decide), PW_o (by decide)]
          exact mt.2.2
      refine ⟨g1, m2, fun o h1 h2 h3 => (m3 o h2 h3).trans (PW_o h1), fun k h1 h2 => by rw [e70, PW_k h1 h2], ?_⟩
      rw [f_X11_go_L14, if_neg (show ¬ (1 : Int32) = 0 by decide)]
      refine (m_head (d := 1) mt hp).trans ?_
      have e2 : (if (st1 x L p).2 = true then some ((0 : Int32), PW g (st1 x L p)) else if (1 : Int32) = 0 then some ((0 : Int32), PW g (oM x L p)) else mO x L p (PW g (oM x L p))) = some (rm, g1) := by
        rw [hst, if_neg (show ¬ false = true by decide), if_neg (show ¬ (1 : Int32) = 0 by decide), em]
        exact m1
      have tl := m_tail (h := g1) (x := x) (L := L) (c := j) (d := 1) (st := oM x L p) (n := n) mt1 hle
      rw [ep, hb, if_neg (show ¬ false = true by decide), if_neg hc] at tl
      rw [ob_e e2]
      dsimp only
      by_cases q1 : 0 ≤ rm
      · rw [if_pos q1, if_pos (Or.inl q1)]
        exact tl
      · rw [if_neg q1]
        by_cases q2 : rm = (-5 : Int32)
        · rw [if_pos q2, if_pos (Or.inr q2)]
          exact tl
        · rw [if_neg q2, if_neg (fun e => e.elim q1 q2)]
    by_cases qr : 0 ≤ r ∨ r = (-5 : Int32)
    · have qm : 0 ≤ rm ∨ rm = (-5 : Int32) := by
        rcases hr with ⟨h1, h2, _⟩ | ⟨h1, h2⟩
        · rw [h2]
          exact qr
        · exact Or.inl h2
      refine ⟨none, v1, wf1, fun e he => (by cases he), fun h n hn r1 sv e4 e61 e62 => ?_, fun g n hn mt eg => ?_⟩
      · obtain ⟨h', c1, c2, c3, c4⟩ := cl h n hn r1 sv e4 e61 e62
        rw [if_pos qr] at c4
        exact ⟨h', c1, c2, c3, c4⟩
      · obtain ⟨g', c1, c2, c3, c4⟩ := ml g n hn mt eg
        rw [if_pos qm] at c4
        exact ⟨g', c1, c2, c3, c4⟩
    · have hr' : ¬ 0 ≤ r ∧ rm = r ∧ v1 = v := by
        rcases hr with h | h
        · exact h
        · exact absurd (Or.inl h.1) qr
      refine ⟨some r, v1, wf1, fun e he => (by cases he; exact hr'.1), fun h n hn r1 sv e4 e61 e62 => ?_, fun g n hn mt eg => ?_⟩
      · obtain ⟨h', c1, c2, c3, c4⟩ := cl h n hn r1 sv e4 e61 e62
        rw [if_neg qr] at c4
        exact ⟨h', c1, c2, c3, c4⟩
      · obtain ⟨g', c1, c2, c3, c4⟩ := ml g n hn mt eg
        rw [hr'.2.1, if_neg qr] at c4
        exact ⟨g', c1, c2, c3, c4⟩
  | succ d ih =>
    intro j p v T ol hj hT wf hp
    have hge := bd_ge (d + 1) T
    have hbd : bd T (d + 1) = bd (T + 10000) d := rfl
    obtain ⟨⟨w, hw, ew, em⟩, hb, hc, ol'⟩ := ol
    rw [if_neg (by omega)] at hc
    obtain ⟨r, rm, v1, co, mo, wf1, hr⟩ := op_all (a := h0 62 (4 * j)) (b := h0 62 (4 * j + 1)) (c := h0 62 (4 * j + 2)) (d := h0 62 (4 * j + 3)) (by omega) wf hw
    have hle := oM_le (x := x) hp
    have hst := (oM_inc hb).2
    obtain ⟨out, v', wf', ho, ihc, ihm⟩ := ih (j + 1) ((oM x L p).1 + 1) v1 (T + 10000) ol' (by omega) (by rw [← hbd]; exact hT) wf1 hc.1
    rw [show j + 1 + d + 1 = j + (d + 1) + 1 by omega] at ihc ihm
    have cl : ∀ h n, d + 1 + 1 < n → R h 1 v → SV h → h 59 4 = nI (j + (d + 1) + 1) → h 61 = h0 61 → h 62 = h0 62 → ∃ h1 h', R h1 1 v1 ∧ SV h1 ∧ (∀ o, (o = 0 ∨ (9 ≤ o ∧ o ≤ 63) ∨ 69 ≤ o) → h1 o = h o) ∧ R h' 1 v' ∧ SV h' ∧ (∀ o, (o = 0 ∨ (9 ≤ o ∧ o ≤ 63) ∨ 69 ≤ o) → h' o = h o) ∧ f_X10_doAll_L32 n (nI j) h = if 0 ≤ r ∨ r = (-5 : Int32) then rnC out (j + (d + 1) + 1) h' else rnC (some r) (j + (d + 1) + 1) h1 := by
      intro h n hn r1 sv e4 e61 e62
      obtain ⟨n, rfl⟩ : ∃ n', n = n' + 1 := ⟨n - 1, by omega⟩
      obtain ⟨h1, c1, c2, c3, c4⟩ := co h r1 sv
      have ed : f_X10_doOrder (nI j) h = some (r, h1) := by
        rw [c_doOrder (w := w) (by omega) hw (by rw [e61]; exact ew), e62]
        exact c1
      obtain ⟨h', d1, d2, d3, d4⟩ := ihc h1 n (by omega) c2 c3 (by rw [c4 59 (by omega)]; exact e4) (by rw [c4 61 (by omega)]; exact e61) (by rw [c4 62 (by omega)]; exact e62)
      refine ⟨h1, h', c2, c3, c4, d1, d2, fun o ho => (d3 o ho).trans (c4 o ho), ?_⟩
      rw [f_X10_doAll_L32, e4, if_neg (nI_ge (by omega) (by omega)), ob_e ed, nI_1]
      dsimp only
      by_cases q1 : 0 ≤ r
      · rw [if_pos q1, if_pos (Or.inl q1), d4]
      · rw [if_neg q1]
        by_cases q2 : r = (-5 : Int32)
        · rw [if_pos q2, if_pos (Or.inr q2), d4]
        · rw [if_neg q2, if_neg (fun e => e.elim q1 q2), tb_s]
          rfl
    have ml : ∀ g n, d + 1 + 2 ≤ n → MTx g x L → E6 (g 71) v → ∃ g1 g', E6 (g1 71) v1 ∧ (∀ o, o ≠ 70 → o ≠ 71 → o ≠ 76 → g1 o = g o) ∧ (∀ k, k ≠ 9 → k ≠ 10 → g1 70 k = g 70 k) ∧ E6 (g' 71) v' ∧ (∀ o, o ≠ 70 → o ≠ 71 → o ≠ 76 → g' o = g o) ∧ (∀ k, k ≠ 9 → k ≠ 10 → g' 70 k = g 70 k) ∧ f_X11_go_L14 n (1 : Int32) (nI j) (1 : Int32) (PW g (p, false)) = if 0 ≤ rm ∨ rm = (-5 : Int32) then some (rnM out (j + (d + 1) + 1), g') else some (rm, g1) := by
      intro g n hn mt eg
      obtain ⟨n, rfl⟩ : ∃ n', n = n' + 1 + 1 := ⟨n - 2, by omega⟩
      obtain ⟨g1, m1, m2, m3⟩ := mo (PW g (oM x L p)) (by rw [PW_o (by decide)]; exact eg)
      have e70 : g1 70 = PW g (oM x L p) 70 := m3 70 (by decide) (by decide)
      have ep : PW g1 (oM x L p) = g1 := PW_id (by rw [e70]; exact PW_9) (by rw [e70]; exact PW_10)
      have mt1 : MTx g1 x L := by
        refine ⟨mt.1, ?_, ?_⟩
        · rw [e70, PW_k (by decide) (by decide)]
          exact mt.2.1
        · rw [m3 75 (by decide) (by decide), PW_o (by decide)]
          exact mt.2.2
      obtain ⟨g', d1, d2, d3, d4⟩ := ihm g1 (n + 1) (by omega) mt1 m2
      have f1 : ∀ o, o ≠ 70 → o ≠ 71 → o ≠ 76 → g1 o = g o := fun o h1 h2 h3 => (m3 o h2 h3).trans (PW_o h1)
      have f2 : ∀ k, k ≠ 9 → k ≠ 10 → g1 70 k = g 70 k := fun k h1 h2 => by rw [e70, PW_k h1 h2]
      refine ⟨g1, g', m2, f1, f2, d1, fun o h1 h2 h3 => (d2 o h1 h2 h3).trans (f1 o h1 h2 h3), fun k h1 h2 => (d3 k h1 h2).trans (f2 k h1 h2), ?_⟩
      rw [f_X11_go_L14, if_neg (show ¬ (1 : Int32) = 0 by decide)]
      refine (m_head (d := 1) mt hp).trans ?_
      have e2 : (if (st1 x L p).2 = true then some ((0 : Int32), PW g (st1 x L p)) else if (1 : Int32) = 0 then some ((0 : Int32), PW g (oM x L p)) else mO x L p (PW g (oM x L p))) = some (rm, g1) := by
        rw [hst, if_neg (show ¬ false = true by decide), if_neg (show ¬ (1 : Int32) = 0 by decide), em]
        exact m1
      have tl := m_tail (h := g1) (x := x) (L := L) (c := j) (d := 1) (st := oM x L p) (n := n) mt1 hle
      rw [ep, hb, if_neg (show ¬ false = true by decide), if_pos hc.1, if_pos hc.2, d4] at tl
      rw [ob_e e2]
      dsimp only
      by_cases q1 : 0 ≤ rm
      · rw [if_pos q1, if_pos (Or.inl q1)]
        exact tl
      · rw [if_neg q1]
        by_cases q2 : rm = (-5 : Int32)
        · rw [if_pos q2, if_pos (Or.inr q2)]
          exact tl
        · rw [if_neg q2, if_neg (fun e => e.elim q1 q2)]
    by_cases qr : 0 ≤ r ∨ r = (-5 : Int32)
    · have qm : 0 ≤ rm ∨ rm = (-5 : Int32) := by
        rcases hr with ⟨h1, h2, _⟩ | ⟨h1, h2⟩
        · rw [h2]
          exact qr
        · exact Or.inl h2
      refine ⟨out, v', wf', ho, fun h n hn r1 sv e4 e61 e62 => ?_, fun g n hn mt eg => ?_⟩
      · obtain ⟨h1, h', _, _, _, c1, c2, c3, c4⟩ := cl h n hn r1 sv e4 e61 e62
        rw [if_pos qr] at c4
        exact ⟨h', c1, c2, c3, c4⟩
      · obtain ⟨g1, g', _, _, _, c1, c2, c3, c4⟩ := ml g n hn mt eg
        rw [if_pos qm] at c4
        exact ⟨g', c1, c2, c3, c4⟩
    · have hr' : ¬ 0 ≤ r ∧ rm = r ∧ v1 = v := by
        rcases hr with h | h
        · exact h
        · exact absurd (Or.inl h.1) qr
      refine ⟨some r, v1, wf1.mono hge, fun e he => (by cases he; exact hr'.1), fun h n hn r1 sv e4 e61 e62 => ?_, fun g n hn mt eg => ?_⟩
      · obtain ⟨h1, h', c1, c2, c3, _, _, _, c4⟩ := cl h n hn r1 sv e4 e61 e62
        rw [if_neg qr] at c4
        exact ⟨h1, c1, c2, c3, c4⟩
      · obtain ⟨g1, g', c1, c2, c3, _, _, _, c4⟩ := ml g n hn mt eg
        rw [hr'.2.1, if_neg qr] at c4
        exact ⟨g1, c1, c2, c3, c4⟩
theorem goN_le {x : Nat → Int32} {L : Nat} : ∀ k p, goN x L k p ≤ k := by
  intro k
  induction k with
  | zero => intro p; exact Nat.le_refl _
  | succ k ih =>
    intro p
    have := ih ((oM x L p).1 + 1)
    rw [goN]
    split
    · omega
    · split
      · split
        · omega
        · omega
      · omega
theorem two_doAll {T : Nat} {h : HP} (hT : T + 1000000 < 2 ^ 31) (inv : Inv T h) : Two T h f_X10_doAll f_X11_doAll := by
  obtain ⟨v, n, H, kb, kv, L, tx, ki, mi, wa⟩ := inv
  have wf := wa.1
  have hn : n ≤ 4 := mi.2.1.1
  have kt : KTx h tx L := ⟨ki.2.2.2.2.2.1, ki.2.2.2.2.1, ki.2.2.2.2.2.2⟩
  obtain ⟨r, h1, a1, a2, a3, a4, a5⟩ := c_readAll kt
  have ki1 := ki.tx a4 a5
  have mtx : ∀ g, MI g v n H kb kv L tx → MTx g tx L := fun g mg => ⟨ki.2.2.2.2.2.1, mg.2.2.2.1, mg.2.2.2.2⟩
  by_cases qf : (goS tx L 10 0).2 = true
  · have er := a2 qf
    have hpl : (goS tx L 10 0).1 ≤ 100 := by
      have gl : ∀ k p, p ≤ L → (goS tx L k p).1 ≤ L := by
        intro k
        induction k with
        | zero => intro p h; exact h
        | succ k ih =>
          intro p h
          have := oM_le (x := tx) h
          rw [goS]
          split
          · exact this
          · split
            · next c =>
              split
              · exact ih _ c
              · exact this
            · exact this
      have := gl 10 0 (Nat.zero_le _)
      have := kt.1
      omega
    have ne5 : ¬ r = (-5 : Int32) := fun e => by
      rw [er] at e
      have := nI_pos (n := (goS tx L 10 0).1) (by omega)
      rw [e] at this
      exact this (by decide)
    refine two_of (r := (-100 : Int32) - r) (h1 := h1) mi ?_ ki1 (fun o ho => a4 o (by omega) (by omega) (by omega)) (fun g mg => ?_) (wa.mono (by omega))
    · rw [f_X10_doAll, ob_e a1, if_neg ne5]
    · refine ⟨PW g (goS tx L 10 0), ?_, mg.pw, fun o ho => PW_o (by omega)⟩
      rw [f_X11_doAll, ob_e (m_go (mtx g mg)), er]
      simp only [PW_10, PW_9, qf]
      rw [if_neg (show ¬ bI true = 0 by decide)]
  · have qf0 := Bool.eq_false_iff.mpr qf
    obtain ⟨er, e4, ol⟩ := a3 qf0
    have h10 : 1 ≤ goN tx L 10 0 := goN_pos (k := 9)
    obtain ⟨d, hd⟩ : ∃ d, goN tx L 10 0 = d + 1 := ⟨goN tx L 10 0 - 1, by omega⟩
    have hd10 := goN_le (x := tx) (L := L) 10 0
    rw [hd] at e4 ol hd10
    have hbl := bd_le (T := T) (d := d) (by omega)
    obtain ⟨out, v', wf', ho, rc, rm⟩ := run (h0 := h1) d 0 0 v T ol (by omega) (by omega) wf (Nat.zero_le _)
    rw [Nat.zero_add] at rc rm
    have cp := c6_copy (o := 9) (p := 1) (h := h1) (by omega) wf.2.2.1 wf.2.2.2 ki1.1
    have r1 : R (f_X6_copyFrom 9 1 h1) 1 v := ki1.1.of (fun a h1 h2 => cp.2 a (by omega))
    have sv : SV (f_X6_copyFrom 9 1 h1) := ki1.2.1.of (fun a h1 h2 => cp.2 a (by omega))
    obtain ⟨h2, c1, c2, c3, c4⟩ := rc (f_X6_copyFrom 9 1 h1) FU (Nat.lt_of_le_of_lt hd10 (by decide)) r1 sv (by rw [cp.2 59 (by omega)]; exact e4) (cp.2 61 (by omega)) (cp.2 62 (by omega))
    have ec : f_X10_doAll h = rnC out (d + 1) h2 := by
      rw [f_X10_doAll, ob_e a1, if_pos er, tb_s]
      exact c4
    -- the model
    have md : ∀ g, MI g v n H kb kv L tx → ∃ gb g', MI gb v n H kb kv L tx ∧ (∀ o, o < 70 → gb o = g o) ∧ (∀ o, o ≠ 71 → o ≠ 76 → g' o = aS gb o) ∧ E6 (g' 71) v' ∧ f_X11_doAll g = ob (f_X11_act (rnM out (d + 1)) g') (fun q => some (q.1, q.2)) := by
      intro g mg
      have mp : MI (PW g (goS tx L 10 0)) v n H kb kv L tx := mg.pw
      have ma : MTx (aS (PW g (goS tx L 10 0))) tx L := by
        refine ⟨kt.1, ?_, ?_⟩
        · show aS (PW g (goS tx L 10 0)) 70 7 = _
          unfold aS
          rw [sR_o (by decide)]
          exact mp.2.2.2.1
        · unfold aS
          rw [sR_o (by decide)]
          exact mp.2.2.2.2
      obtain ⟨g', d1, d2, d3, d4⟩ := rm (aS (PW g (goS tx L 10 0))) FU (Nat.le_trans (Nat.succ_le_succ hd10) (by decide)) ma (by rw [aS_71]; exact mp.1)
      refine ⟨sR (PW g (goS tx L 10 0)) 70 (g' 70), g', ?_, fun o ho => ?_, fun o h1 h2 => ?_, d1, ?_⟩
      · have k : ∀ k, k ≠ 9 → k ≠ 10 → g' 70 k = PW g (goS tx L 10 0) 70 k := fun k h1 h2 => by
          rw [d3 k h1 h2]
          unfold aS
          rw [sR_o (by decide)]
        unfold MI MH at mp ⊢
        rw [sR_o (show 71 ≠ 70 by decide), sR_o (show 73 ≠ 70 by decide), sR_o (show 74 ≠ 70 by decide), sR_o (show 75 ≠ 70 by decide), sR_s, k 3 (by decide) (by decide), k 5 (by decide) (by decide), k 7 (by decide) (by decide)]
        exact mp
      · rw [sR_o (by omega), PW_o (by omega)]
      · by_cases q : o = 70
        · subst q
          unfold aS
          rw [sR_o (by decide), sR_s]
        · rw [d2 o q h1 h2]
          unfold aS
          by_cases q2 : o = 72
          · subst q2
            rw [sR_s, sR_s, sR_o (by decide), sR_o (by decide)]
          · rw [sR_o q2, sR_o q2, sR_o q]
      · have e : hset (hset (aS (PW g (goS tx L 10 0))) 70 9 0) 70 10 0 = PW (aS (PW g (goS tx L 10 0))) (0, false) := by
          show _ = sR (aS (PW g (goS tx L 10 0))) 70 (up (up (aS (PW g (goS tx L 10 0)) 70) 9 (nI 0)) 10 (bI false))
          rw [hset_sR, hset_sR, sR_2, sR_s]
          rfl
        have eg : f_X11_go (1 : Int32) (aS (PW g (goS tx L 10 0))) = some (rnM out (d + 1), g') := by
          rw [f_X11_go, tb_s, e]
          exact d4
        rw [f_X11_doAll, ob_e (m_go (mtx g mg))]
        simp only [PW_10, qf0]
        rw [if_pos (show bI false = 0 by decide), ob_e (m_putAside _)]
        exact ob_e eg
    cases out with
    | none =>
      have hr0 : (0 : Int32) ≤ nI (d + 1) := nI_pos' (by omega)
      obtain ⟨h3, b1, b2, b3, b4⟩ := c_recd (r := nI (d + 1)) (c1 := h2) ki1 wf (fun o ho => c3 o (by omega)) c2 c1
      refine two_of (r := nI (d + 1)) (h1 := h3) mi ?_ (b2 hr0) (fun o ho => (b4 o ho).trans (a4 o (by omega) (by omega) (by omega))) (fun g mg => ?_) ((wa.mono (by omega)).push hn (wf'.mono (by omega)))
      · rw [ec]
        exact ob_e b1
      · obtain ⟨gb, g', m1, m2, m3, m4, m5⟩ := md g mg
        obtain ⟨g2, e1, e2, e3, e4, e5⟩ := m_recd (r := nI (d + 1)) (g := g') m1 m3 (fun _ => m4)
        refine ⟨g2, ?_, (e2 hr0).1, fun o ho => (e4 o ho).trans (m2 o ho)⟩
        rw [m5]
        exact ob_e e1
    | some e =>
      have he := ho e rfl
      have r9 : R h2 9 v := cp.1.of (fun a h1 h2 => c3 a (by omega))
      have cb := c6_copy (o := 1) (p := 9) (h := h2) (by omega) wf.2.2.1 wf.2.2.2 r9
      have fr : ∀ o, (o = 0 ∨ (17 ≤ o ∧ o ≤ 63) ∨ 69 ≤ o) → f_X6_copyFrom 1 9 h2 o = h1 o := fun o ho => by rw [cb.2 o (by omega), c3 o (by omega), cp.2 o (by omega)]
      refine two_of (r := e) (h1 := f_X6_copyFrom 1 9 h2) (v' := v) (n' := n) (H' := H) (kb' := kb) (kv' := kv) (L' := L) (tx' := tx) mi ec ⟨cb.1, c2.of (fun o h1 h2 => cb.2 o (by omega)), ki1.2.2.1.of (fun o h1 h2 => fr o (by omega)), ⟨?_, fun k => (ki1.2.2.2.1.2 k).of (fun a h1 h2 => fr a (by omega))⟩, ?_, kt.1, ?_⟩ (fun o ho => (fr o (by omega)).trans (a4 o (by omega) (by omega) (by omega))) (fun g mg => ?_) (wa.mono (by omega))
      · rw [fr 0 (by omega)]
        exact ki1.2.2.2.1.1
      · rw [fr 59 (by omega)]
        exact ki1.2.2.2.2.1
      · rw [fr 60 (by omega)]
        exact ki1.2.2.2.2.2.2
      · obtain ⟨gb, g', m1, m2, m3, m4, m5⟩ := md g mg
        obtain ⟨g2, e1, e2, e3, e4, e5⟩ := m_recd (r := e) (g := g') (v' := v') m1 m3 (fun _ => m4)
        refine ⟨g2, ?_, e3 he, fun o ho => (e4 o ho).trans (m2 o ho)⟩
        rw [m5]
        exact ob_e e1
