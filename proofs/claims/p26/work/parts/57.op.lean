/-! acts without the record: the class's half, the model's half, both -/
def COp (v v' : Nat → Int32) (r : Int32) (C : HP → Option (Int32 × HP)) : Prop := ∀ h, R h 1 v → SV h → ∃ h', C h = some (r, h') ∧ R h' 1 v' ∧ SV h' ∧ ∀ o, (o = 0 ∨ (9 ≤ o ∧ o ≤ 63) ∨ 69 ≤ o) → h' o = h o
def dmC (v : Nat → Int32) : Int32 := nI (cnt (lyV v (-5)) (TOT v))
theorem E6.dm {u v : Nat → Int32} (e : E6 u v) (c : WC v) : dmC u = dmC v := by
  unfold dmC
  rw [(e.lk c).tot, (e.lk c).ly]
/-! frames there or not; rows with one cell changed -/
theorem c_hasNo {F M o : Nat} {h : HP} {x : Int32} (g : GE F M h o) (hF : FM F M) (hno : ¬ ∃ f, f < STn F M 30 ∧ x = nI f) : f_X5_hasFrame o x h = 0 := by
  rcases c_hasFrame g hF x with ⟨f, hf, e, _⟩ | ⟨_, e⟩
  · exact absurd ⟨f, hf, e⟩ hno
  · exact e
theorem E6.ge {v : Nat → Int32} {g : HP} (e : E6 (g 71) v) (w : WS v) : GE (N v 0) (N v 1) g 71 := ⟨(e 0 (by decide)).trans w.1.2.2, (e 1 (by decide)).trans w.2.1.2.2⟩
theorem in_n {x : Int32} {a b : Nat} (ha : a < 2 ^ 31) (hb : b < 2 ^ 31) : (∃ j, a ≤ j ∧ j ≤ b ∧ x = nI j ∧ ∀ h, inF x (nI a) (nI b) h = 1) ∨ ((¬ ∃ j, a ≤ j ∧ j ≤ b ∧ x = nI j) ∧ ∀ h, inF x (nI a) (nI b) h = 0) := by
  unfold inF
  by_cases q : x < 0
  · refine Or.inr ⟨fun ⟨j, h1, h2, e⟩ => ?_, fun h => if_pos (Int32.lt_of_lt_of_le q (nI_pos' ha))⟩
    rw [e] at q
    exact nI_pos (by omega) q
  · obtain ⟨j, hj, rfl⟩ := nI_of q
    by_cases q1 : j < a
    · refine Or.inr ⟨fun ⟨i, h1, h2, e⟩ => ?_, fun h => if_pos (nI_lt q1 ha)⟩
      have := (nI_eq hj (by omega)).mp e
      omega
    · by_cases q2 : b < j
      · refine Or.inr ⟨fun ⟨i, h1, h2, e⟩ => ?_, fun h => by rw [if_neg (nI_nlt (by omega) (by omega)), if_pos (nI_lt q2 hj)]⟩
        have := (nI_eq hj (by omega)).mp e
        omega
      · exact Or.inl ⟨j, by omega, by omega, rfl, fun h => by rw [if_neg (nI_nlt (by omega) (by omega)), if_neg (nI_nlt (by omega) (by omega))]⟩
theorem N_up {u : Nat → Int32} {i k : Nat} {x : Int32} (h : k ≠ i) : N (up u i x) k = N u k := by
  unfold N
  rw [up_o h]
theorem isN.upk {u : Nat → Int32} {i k lo hi : Nat} {x : Int32} (h : k ≠ i) (q : isN u k lo hi) : isN (up u i x) k lo hi := by
  unfold isN at q ⊢
  rw [N_up h, up_o h]
  exact q
theorem TOT_up {u : Nat → Int32} {i : Nat} {x : Int32} (h : 1 < i) : TOT (up u i x) = TOT u := by
  unfold TOT
  rw [N_up (by omega), N_up (by omega)]
theorem WS.upk {u : Nat → Int32} {i : Nat} {x : Int32} (h : 5 < i) (w : WS u) : WS (up u i x) := ⟨w.1.upk (by omega), w.2.1.upk (by omega), w.2.2.1.upk (by omega), w.2.2.2.1.upk (by omega), w.2.2.2.2.1.upk (by omega), w.2.2.2.2.2.upk (by omega)⟩
theorem WC.upk {u : Nat → Int32} {i : Nat} {x : Int32} (h : i < 12 ∨ 45 ≤ i) (w : WC u) : WC (up u i x) := by
  have h8 := w.1.2.1
  refine ⟨w.1.upk (by omega), fun q hq => ?_⟩
  rw [N_up (by omega)] at hq
  obtain ⟨c0, c1, c2, c3⟩ := w.2 q hq
  rw [N_up (show 13 + 4 * q ≠ i by omega), N_up (show 13 + 4 * q + 2 ≠ i by omega)]
  exact ⟨c0.upk (by omega), c1.upk (by omega), c2.upk (by omega), c3.upk (by omega)⟩
theorem WP.upk {u : Nat → Int32} {i : Nat} {x : Int32} (h : i < 45) (w : WP u) : WP (up u i x) := by
  refine ⟨w.1.upk (by omega), fun q hq => ?_⟩
  rw [N_up (by omega)] at hq
  obtain ⟨c0, c1, c2, c3⟩ := w.2 q hq
  rw [N_up (show 46 + 3 * q ≠ i by omega)]
  exact ⟨c0.upk (by omega), c1, c2.upk (by omega), c3.upk (by omega)⟩
theorem isN_up {u : Nat → Int32} {k lo hi n : Nat} (hn : n < 2 ^ 31) (h1 : lo ≤ n) (h2 : n ≤ hi) : isN (up u k (nI n)) k lo hi := isN_of up_s hn h1 h2
theorem up_id {u : Nat → Int32} {k : Nat} {x : Int32} (h : u k = x) : up u k x = u := by
  funext i
  unfold up
  split
  · next e => rw [e, h]
  · rfl
/-- the class's head with one cell changed -/
theorem R.uph {h : HP} {u : Nat → Int32} {o i : Nat} {x : Int32} (hi : i < 6) (r : R h o u) : R (hset h (o + 7) i x) o (up u (6 + i) x) := by
  obtain ⟨rs, rh, rc, rp⟩ := r
  rw [hset_sR]
  refine ⟨fun k hk => ?_, fun k hk => ?_, ⟨?_, fun k hk => ?_⟩, ?_, fun k hk => ?_⟩
  · rw [sR_o (by omega), up_o (by omega)]
    exact rs k hk
  · rw [sR_s]
    by_cases q : k = i
    · subst q
      rw [up_s, up_s]
    · rw [up_o q, up_o (by omega)]
      exact rh k hk
  · rw [sR_o (by omega), up_o (by omega)]
    exact rc.1
  · rw [N_up (by omega)] at hk
    rw [sR_o (by omega), up_o (by omega)]
    exact rc.2 k hk
  · rw [sR_o (by omega), up_o (by omega)]
    exact rp.1
  · rw [N_up (by omega)] at hk
    rw [sR_o (by omega), sR_o (by omega), up_o (by omega), up_o (by omega), up_o (by omega)]
    exact rp.2 k hk
theorem WF.head2 {T T' : Nat} {v : Nat → Int32} {p s k j : Nat} (w : WF T v) (hTT : T ≤ T') (hT : T' < 2 ^ 31) (hp : p ≤ TOT v) (s1 : 8 ≤ s) (s2 : s ≤ 214) (hk : k ≤ T') (hj : j ≤ T') : WF T' (mw v p s k j) := by
  obtain ⟨ws, wh, wc, wp⟩ := w
  have hT2 := FM_tot ws.fm
  have hT3 : TOT v ≤ 3810 := hT2.2.1
  unfold mw
  refine ⟨(((ws.upk (by omega)).upk (by omega)).upk (by omega)).upk (by omega), ?_, (((wc.upk (by omega)).upk (by omega)).upk (by omega)).upk (by omega), (((wp.upk (by omega)).upk (by omega)).upk (by omega)).upk (by omega)⟩
  unfold WH
  rw [TOT_up (by omega), TOT_up (by omega), TOT_up (by omega), TOT_up (by omega)]
  exact ⟨(((isN_up (by omega) (by omega) hp).upk (by omega)).upk (by omega)).upk (by omega), ((isN_up (by omega) s1 s2).upk (by omega)).upk (by omega), (isN_up (by omega) (by omega) hk).upk (by omega), ((((wh.2.2.2.1.mono hTT).upk (by omega)).upk (by omega)).upk (by omega)).upk (by omega), ((((wh.2.2.2.2.1.mono hTT).upk (by omega)).upk (by omega)).upk (by omega)).upk (by omega), isN_up (by omega) (by omega) hj⟩

