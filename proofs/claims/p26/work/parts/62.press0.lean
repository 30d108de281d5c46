/-! pressing: rows -/
theorem isN.eq {u v : Nat → Int32} {k lo hi : Nat} (e : u k = v k) (q : isN v k lo hi) : isN u k lo hi := by
  unfold isN N at q ⊢
  rw [e]
  exact q
theorem N_eq {u v : Nat → Int32} {k : Nat} (e : u k = v k) : N u k = N v k := by
  unfold N
  rw [e]
theorem WS.eq {u v : Nat → Int32} (e : ∀ i, i < 12 → u i = v i) (w : WS v) : WS u := ⟨w.1.eq (e _ (by decide)), w.2.1.eq (e _ (by decide)), w.2.2.1.eq (e _ (by decide)), w.2.2.2.1.eq (e _ (by decide)), w.2.2.2.2.1.eq (e _ (by decide)), w.2.2.2.2.2.eq (e _ (by decide))⟩
theorem TOT_eq {u v : Nat → Int32} (e : ∀ i, i < 12 → u i = v i) : TOT u = TOT v := by
  unfold TOT
  rw [N_eq (e 0 (by decide)), N_eq (e 1 (by decide))]
theorem WH.eq {u v : Nat → Int32} {T : Nat} (e : ∀ i, i < 12 → u i = v i) (w : WH T v) : WH T u := by
  unfold WH at w ⊢
  rw [TOT_eq e]
  exact ⟨w.1.eq (e _ (by decide)), w.2.1.eq (e _ (by decide)), w.2.2.1.eq (e _ (by decide)), w.2.2.2.1.eq (e _ (by decide)), w.2.2.2.2.1.eq (e _ (by decide)), w.2.2.2.2.2.eq (e _ (by decide))⟩
theorem WC.eq {u v : Nat → Int32} (e : ∀ i, 12 ≤ i → i < 45 → u i = v i) (w : WC v) : WC u := by
  have h8 := w.1.2.1
  refine ⟨w.1.eq (e _ (by decide) (by decide)), fun k hk => ?_⟩
  rw [N_eq (e 12 (by decide) (by decide))] at hk
  obtain ⟨c0, c1, c2, c3⟩ := w.2 k hk
  rw [N_eq (e (13 + 4 * k) (by omega) (by omega)), N_eq (e (13 + 4 * k + 2) (by omega) (by omega))]
  exact ⟨c0.eq (e _ (by omega) (by omega)), c1.eq (e _ (by omega) (by omega)), c2.eq (e _ (by omega) (by omega)), c3.eq (e _ (by omega) (by omega))⟩
theorem WP.eq {u v : Nat → Int32} (e : ∀ i, 45 ≤ i → i < 166 → u i = v i) (w : WP v) : WP u := by
  have h8 := w.1.2.1
  refine ⟨w.1.eq (e _ (by decide) (by decide)), fun k hk => ?_⟩
  rw [N_eq (e 45 (by decide) (by decide))] at hk
  obtain ⟨c0, c1, c2, c3⟩ := w.2 k hk
  rw [N_eq (e (46 + 3 * k) (by omega) (by omega))]
  exact ⟨c0.eq (e _ (by omega) (by omega)), c1, c2.eq (e _ (by omega) (by omega)), c3.eq (e _ (by omega) (by omega))⟩
theorem R.newP {h h' : HP} {o : Nat} {v v' : Nat → Int32} (r : R h o v) (wc : WC v) (eh : ∀ a, o < a → a ≤ o + 7 → a ≠ o + 4 → a ≠ o + 5 → a ≠ o + 6 → h' a = h a) (ev : ∀ i, i < 45 → v' i = v i) (rp : RP h' o v') : R h' o v' := by
  have h8 := wc.1.2.1
  obtain ⟨rs, rh, rc, _⟩ := r
  refine ⟨fun k hk => ?_, fun k hk => ?_, ⟨?_, fun k hk => ?_⟩, rp⟩
  · rw [eh (o + 1) (by omega) (by omega) (by omega) (by omega) (by omega), ev k (by omega)]
    exact rs k hk
  · rw [eh (o + 7) (by omega) (by omega) (by omega) (by omega) (by omega), ev (6 + k) (by omega)]
    exact rh k hk
  · rw [eh (o + 2) (by omega) (by omega) (by omega) (by omega) (by omega), ev 12 (by omega)]
    exact rc.1
  · rw [N_eq (ev 12 (by omega))] at hk
    rw [eh (o + 3) (by omega) (by omega) (by omega) (by omega) (by omega), ev (13 + k) (by omega)]
    exact rc.2 k hk
/-- an entry put -/
def pe (u : Nat → Int32) (j f p s : Nat) : Nat → Int32 := up (up (up u (46 + 3 * j) (nI f)) (46 + 3 * j + 1) (nI p)) (46 + 3 * j + 2) (nI s)
theorem pe_o {u : Nat → Int32} {j f p s i : Nat} (h : i < 46 + 3 * j ∨ 46 + 3 * j + 2 < i) : pe u j f p s i = u i := by
  unfold pe
  rw [up_o (by omega), up_o (by omega), up_o (by omega)]
theorem pe_0 {u : Nat → Int32} {j f p s : Nat} : pe u j f p s (46 + 3 * j) = nI f := by
  unfold pe
  rw [up_o (by omega), up_o (by omega), up_s]
theorem pe_1 {u : Nat → Int32} {j f p s : Nat} : pe u j f p s (46 + 3 * j + 1) = nI p := by
  unfold pe
  rw [up_o (by omega), up_s]
theorem pe_2 {u : Nat → Int32} {j f p s : Nat} : pe u j f p s (46 + 3 * j + 2) = nI s := up_s
theorem E6.pe' {u v : Nat → Int32} {j f p s : Nat} (e : E6 u v) : E6 (pe u j f p s) (pe v j f p s) := e.upk.upk.upk
/-- a pressed symbol written: the row -/
def prA (v : Nat → Int32) (n j f p s : Nat) : Nat → Int32 := pe (up v 45 (nI n)) j f p s
theorem prA_lo {v : Nat → Int32} {n j f p s i : Nat} (h : i < 45) : prA v n j f p s i = v i := by
  unfold prA
  rw [pe_o (by omega), up_o (by omega)]
theorem prA_45 {v : Nat → Int32} {n j f p s : Nat} : prA v n j f p s 45 = nI n := by
  unfold prA
  rw [pe_o (by omega), up_s]
theorem prA_o {v : Nat → Int32} {n j f p s i : Nat} (h : i < 46 + 3 * j ∨ 46 + 3 * j + 2 < i) (h2 : 45 < i) : prA v n j f p s i = v i := by
  unfold prA
  rw [pe_o h, up_o (by omega)]
theorem prA_wp {v : Nat → Int32} {n j f p s : Nat} (hn : n ≤ 40) (hf : f ≤ 3809) (h4 : f % 5 ≠ 4) (hp : p ≤ 3) (hs : s ≤ 15) (w : ∀ k, k < n → k ≠ j → isN v (46 + 3 * k) 0 3809 ∧ N v (46 + 3 * k) % 5 ≠ 4 ∧ isN v (46 + 3 * k + 1) 0 3 ∧ isN v (46 + 3 * k + 2) 0 15) : WP (prA v n j f p s) := by
  have n45 : N (prA v n j f p s) 45 = n := by
    rw [N, prA_45, nI_clamp (by omega)]
  refine ⟨isN_of prA_45 (by omega) (by omega) hn, fun k hk => ?_⟩
  rw [n45] at hk
  by_cases q : k = j
  · subst q
    have nf : N (prA v n k f p s) (46 + 3 * k) = f := by
      rw [N, prA, pe_0, nI_clamp (by omega)]
    rw [nf]
    exact ⟨isN_of pe_0 (by omega) (by omega) hf, h4, isN_of pe_1 (by omega) (by omega) hp, isN_of pe_2 (by omega) (by omega) hs⟩
  · obtain ⟨c0, c1, c2, c3⟩ := w k hk q
    rw [N_eq (prA_o (i := 46 + 3 * k) (by omega) (by omega))]
    exact ⟨c0.eq (prA_o (by omega) (by omega)), c1, c2.eq (prA_o (by omega) (by omega)), c3.eq (prA_o (by omega) (by omega))⟩
theorem prA_rp {v : Nat → Int32} {h : HP} {n j f p s : Nat} (hn : n ≤ 40) (e : h 5 2 = nI n) (w : ∀ k, k < n → k ≠ j → h 6 k = v (46 + 3 * k) * 4 + v (46 + 3 * k + 1) ∧ h 7 k = v (46 + 3 * k + 2)) : RP (hset (hset h 6 j (nI f * (4 : Int32) + nI p)) 7 j (nI s)) 1 (prA v n j f p s) := by
  have n45 : N (prA v n j f p s) 45 = n := by
    rw [N, prA_45, nI_clamp (by omega)]
  refine ⟨?_, fun k hk => ?_⟩
  · rw [hset_oth (by omega), hset_oth (by omega), prA_45]
    exact e
  · rw [n45] at hk
    show hset (hset h 6 j (nI f * (4 : Int32) + nI p)) 7 j (nI s) 6 k = _ ∧ hset (hset h 6 j (nI f * (4 : Int32) + nI p)) 7 j (nI s) 7 k = _
    by_cases q : k = j
    · subst q
      rw [hset_oth (by omega), hset_same, hset_same, show prA v n k f p s (46 + 3 * k) = nI f from pe_0, show prA v n k f p s (46 + 3 * k + 1) = nI p from pe_1, show prA v n k f p s (46 + 3 * k + 2) = nI s from pe_2]
      exact ⟨rfl, rfl⟩
    · rw [hset_oth (by omega), hset_oth (by omega), hset_oth (by omega), hset_oth (by omega), prA_o (i := 46 + 3 * k) (by omega) (by omega), prA_o (i := 46 + 3 * k + 1) (by omega) (by omega), prA_o (i := 46 + 3 * k + 2) (by omega) (by omega)]
      exact w k hk q
/-- one cell of an entry moved and emptied -/
def dr (u : Nat → Int32) (j m k : Nat) : Nat → Int32 := up (up u (46 + 3 * j + k) (u (46 + 3 * m + k))) (46 + 3 * m + k) 0
def dr3 (u : Nat → Int32) (j m : Nat) : Nat → Int32 := dr (dr (dr u j m 0) j m 1) j m 2
theorem dr_lo {u : Nat → Int32} {j m k i : Nat} (h : i < 46) : dr u j m k i = u i := by
  unfold dr
  rw [up_o (by omega), up_o (by omega)]
theorem dr_o {u : Nat → Int32} {j m k k' i : Nat} (hk : k < 3) (hk' : k' < 3) (hj : i ≠ j) (hm : i ≠ m) : dr u j m k (46 + 3 * i + k') = u (46 + 3 * i + k') := by
  unfold dr
  rw [up_o (by omega), up_o (by omega)]
theorem dr_k {u : Nat → Int32} {j m k k' i : Nat} (hk : k < 3) (hk' : k' < 3) (hne : k ≠ k') : dr u j m k (46 + 3 * i + k') = u (46 + 3 * i + k') := by
  unfold dr
  rw [up_o (by omega), up_o (by omega)]
theorem dr_j {u : Nat → Int32} {j m k : Nat} (hne : j ≠ m) : dr u j m k (46 + 3 * j + k) = u (46 + 3 * m + k) := by
  unfold dr
  rw [up_o (by omega), up_s]
theorem dr3_lo {u : Nat → Int32} {j m i : Nat} (h : i < 46) : dr3 u j m i = u i := by
  unfold dr3
  rw [dr_lo h, dr_lo h, dr_lo h]
theorem dr3_o {u : Nat → Int32} {j m k i : Nat} (hk : k < 3) (hj : i ≠ j) (hm : i ≠ m) : dr3 u j m (46 + 3 * i + k) = u (46 + 3 * i + k) := by
  unfold dr3
  rw [dr_o (by decide) hk hj hm, dr_o (by decide) hk hj hm, dr_o (by decide) hk hj hm]
theorem dr3_j {u : Nat → Int32} {j m k : Nat} (hk : k < 3) (hne : j ≠ m) : dr3 u j m (46 + 3 * j + k) = u (46 + 3 * m + k) := by
  have : k = 0 ∨ k = 1 ∨ k = 2 := by omega
  unfold dr3
  rcases this with q | q | q <;> subst q
  · rw [dr_k (by decide) (by decide) (by decide), dr_k (by decide) (by decide) (by decide), dr_j hne]
  · rw [dr_k (by decide) (by decide) (by decide), dr_j hne, dr_k (by decide) (by decide) (by decide)]
  · rw [dr_j hne, dr_k (by decide) (by decide) (by decide), dr_k (by decide) (by decide) (by decide)]
theorem E6.dr' {u v : Nat → Int32} {j m k : Nat} (hm : 46 + 3 * m + k < 166) (e : E6 u v) : E6 (dr u j m k) (dr v j m k) := by
  unfold dr
  rw [e _ hm]
  exact e.upk.upk
/-- a pressed symbol dropped: the row -/
def prB (v : Nat → Int32) (m j f p s : Nat) : Nat → Int32 := dr3 (up (prA v (m + 1) j f p s) 45 (nI m)) j m
theorem prB_lo {v : Nat → Int32} {m j f p s i : Nat} (h : i < 45) : prB v m j f p s i = v i := by
  unfold prB
  rw [dr3_lo (by omega), up_o (by omega), prA_lo h]
theorem prB_45 {v : Nat → Int32} {m j f p s : Nat} : prB v m j f p s 45 = nI m := by
  unfold prB
  rw [dr3_lo (by omega), up_s]
theorem prB_at {v : Nat → Int32} {m j f p s k i : Nat} (hk : k < 3) (hi : i < m) : prB v m j f p s (46 + 3 * i + k) = v (46 + 3 * (if i = j then m else i) + k) := by
  unfold prB
  by_cases q : i = j
  · subst q
    rw [if_pos rfl, dr3_j hk (by omega), up_o (by omega), prA_o (by omega) (by omega)]
  · rw [if_neg q, dr3_o hk q (by omega), up_o (by omega), prA_o (by omega) (by omega)]
theorem prB_wp {v : Nat → Int32} {m j f p s : Nat} (w : WP v) (hm : N v 45 = m + 1) : WP (prB v m j f p s) := by
  have hn := w.1.2.1
  have n45 : N (prB v m j f p s) 45 = m := by
    rw [N, prB_45, nI_clamp (by omega)]
  refine ⟨isN_of prB_45 (by omega) (by omega) (by omega), fun k hk => ?_⟩
  rw [n45] at hk
  have hi : (if k = j then m else k) < N v 45 := by
    split <;> omega
  have e0 := prB_at (v := v) (j := j) (f := f) (p := p) (s := s) (show 0 < 3 by decide) hk
  have e1 := prB_at (v := v) (j := j) (f := f) (p := p) (s := s) (show 1 < 3 by decide) hk
  have e2 := prB_at (v := v) (j := j) (f := f) (p := p) (s := s) (show 2 < 3 by decide) hk
  simp only [Nat.add_zero] at e0
  obtain ⟨c0, c1, c2, c3⟩ := w.2 _ hi
  unfold isN N at *
  rw [e0, e1, e2]
  exact ⟨c0, c1, c2, c3⟩
theorem prB_rp {v : Nat → Int32} {h : HP} {m j f p s : Nat} (w : WP v) (r : RP h 1 v) (hm : N v 45 = m + 1) : RP (hset (hset (hset h 5 2 (nI m)) 6 j (h 6 m)) 7 j (h 7 m)) 1 (prB v m j f p s) := by
  have hn := w.1.2.1
  have n45 : N (prB v m j f p s) 45 = m := by
    rw [N, prB_45, nI_clamp (by omega)]
  refine ⟨?_, fun k hk => ?_⟩
  · rw [hset_oth (by omega), hset_oth (by omega), hset_same, prB_45]
  · rw [n45] at hk
    have e0 := prB_at (v := v) (j := j) (f := f) (p := p) (s := s) (show 0 < 3 by decide) hk
    have e1 := prB_at (v := v) (j := j) (f := f) (p := p) (s := s) (show 1 < 3 by decide) hk
    have e2 := prB_at (v := v) (j := j) (f := f) (p := p) (s := s) (show 2 < 3 by decide) hk
    simp only [Nat.add_zero] at e0
    rw [e0, e1, e2]
    show hset (hset (hset h 5 2 (nI m)) 6 j (h 6 m)) 7 j (h 7 m) 6 k = _ ∧ hset (hset (hset h 5 2 (nI m)) 6 j (h 6 m)) 7 j (h 7 m) 7 k = _
    by_cases q : k = j
    · subst q
      rw [hset_oth (by omega), hset_same, hset_same, if_pos rfl]
      exact r.2 m (by omega)
    · rw [hset_oth (by omega), hset_oth (by omega), hset_oth (by omega), hset_oth (by omega), hset_oth (by omega), hset_oth (by omega), if_neg q]
      exact r.2 k (by omega)

