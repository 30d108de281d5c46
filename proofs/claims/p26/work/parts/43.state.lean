/-! states copied; the whole state's sameness -/
theorem c1_copy {o p : Nat} {h : HP} (hne : p ≠ o) : (∀ k, k < 6 → f_X1_copyFrom o p h o k = h p k) ∧ ∀ a, a ≠ o → f_X1_copyFrom o p h a = h a := by
  constructor
  · intro k hk
    have : k = 0 ∨ k = 1 ∨ k = 2 ∨ k = 3 ∨ k = 4 ∨ k = 5 := by omega
    unfold f_X1_copyFrom tb
    rcases this with q | q | q | q | q | q <;> subst q <;> simp [hset, hne]
  · intro a ha
    unfold f_X1_copyFrom tb
    funext j
    simp [hset, ha]
theorem c8_copy {o p : Nat} {h : HP} (h1 : p + 7 < o ∨ o + 7 < p) : f_X8_copyFrom o p h o 2 = h p 2 ∧ (∀ k, k < 40 → f_X8_copyFrom o p h (o + 1) k = h (p + 1) k ∧ f_X8_copyFrom o p h (o + 2) k = h (p + 2) k) ∧ ∀ a, a ≠ o → a ≠ o + 1 → a ≠ o + 2 → f_X8_copyFrom o p h a = h a := by
  have n1 : p ≠ o := by omega
  have n2 : p ≠ o + 1 := by omega
  have n3 : p ≠ o + 2 := by omega
  have n4 : p + 2 ≠ o + 1 := by omega
  have n5 : p + 1 ≠ o := by omega
  refine ⟨?_, fun k hk => ⟨?_, ?_⟩, fun a ha hb hc => ?_⟩
  · unfold f_X8_copyFrom tb
    simp [hset, hcpy, n2, n3]
  · unfold f_X8_copyFrom tb
    simp [hset, hcpy, hk]
  · unfold f_X8_copyFrom tb
    simp [hset, hcpy, hk, n1, n5]
  · unfold f_X8_copyFrom tb
    funext j
    simp [hset, hcpy, ha, hb, hc]
theorem c6_copy {o p : Nat} {h : HP} {v : Nat → Int32} (h1 : p + 7 < o ∨ o + 7 < p) (wc : WC v) (wp : WP v) (r : R h p v) : R (f_X6_copyFrom o p h) o v ∧ ∀ a, (a ≤ o ∨ o + 7 < a) → f_X6_copyFrom o p h a = h a := by
  have g12 := wc.1.2.1
  have g45 := wp.1.2.1
  have a5 := c5_copy (o := o + 1) (p := p + 1) (h := h) (by omega)
  unfold f_X6_copyFrom
  simp only [tb_s]
  generalize f_X5_copyFrom (o + 1) (p + 1) h = h5 at a5 ⊢
  have a4 := c4_copy (o := o + 2) (p := p + 2) (h := h5) (by omega) (by omega)
  generalize f_X4_copyFrom (o + 2) (p + 2) h5 = h4 at a4 ⊢
  have a8 := c8_copy (o := o + 4) (p := p + 4) (h := h4) (by omega)
  generalize f_X8_copyFrom (o + 4) (p + 4) h4 = h8 at a8 ⊢
  have a1 := c1_copy (o := o + 7) (p := p + 7) (h := h8) (by omega)
  generalize f_X1_copyFrom (o + 7) (p + 7) h8 = h' at a1 ⊢
  obtain ⟨rs, rh, rc, rp⟩ := r
  refine ⟨⟨?_, ?_, ⟨?_, ?_⟩, ?_, ?_⟩, ?_⟩
  · intro k hk
    rw [a1.2 _ (by omega), a8.2.2 _ (by omega) (by omega) (by omega), a4.2.2 _ (by omega) (by omega), a5.1 k hk]
    exact rs k hk
  · intro k hk
    rw [a1.1 k hk, a8.2.2 _ (by omega) (by omega) (by omega), a4.2.2 _ (by omega) (by omega), a5.2 _ (by omega)]
    exact rh k hk
  · rw [a1.2 _ (by omega), a8.2.2 _ (by omega) (by omega) (by omega), a4.1, a5.2 _ (by omega)]
    exact rc.1
  · intro k hk
    rw [a1.2 _ (by omega), a8.2.2 _ (by omega) (by omega) (by omega), show o + 3 = o + 2 + 1 from rfl, a4.2.1 k (by omega), a5.2 _ (by omega)]
    exact rc.2 k hk
  · rw [a1.2 _ (by omega), a8.1, a4.2.2 _ (by omega) (by omega), a5.2 _ (by omega)]
    exact rp.1
  · intro k hk
    have b5 := (a8.2.1 k (by omega)).1
    have b6 := (a8.2.1 k (by omega)).2
    constructor
    · rw [a1.2 _ (by omega), show o + 5 = o + 4 + 1 from rfl, b5, a4.2.2 _ (by omega) (by omega), a5.2 _ (by omega)]
      exact (rp.2 k hk).1
    · rw [a1.2 _ (by omega), show o + 6 = o + 4 + 2 from rfl, b6, a4.2.2 _ (by omega) (by omega), a5.2 _ (by omega)]
      exact (rp.2 k hk).2
  · intro a ha
    rw [a1.2 _ (by omega), a8.2.2 _ (by omega) (by omega) (by omega), a4.2.2 _ (by omega) (by omega), a5.2 _ (by omega)]
theorem R.of {h h' : HP} {o : Nat} {v : Nat → Int32} (r : R h o v) (e : ∀ a, o < a → a ≤ o + 7 → h' a = h a) : R h' o v := by
  unfold R RS RH RC RP
  rw [e (o + 1) (by omega) (by omega), e (o + 2) (by omega) (by omega), e (o + 3) (by omega) (by omega), e (o + 4) (by omega) (by omega), e (o + 5) (by omega) (by omega), e (o + 6) (by omega) (by omega), e (o + 7) (by omega) (by omega)]
  exact r
def E6 (v u : Nat → Int32) : Prop := ∀ k, k < 166 → v k = u k
theorem E6.n {v u : Nat → Int32} (e : E6 v u) {k : Nat} (hk : k < 166) : N v k = N u k := by
  unfold N
  rw [e k hk]
theorem E6.isn {v u : Nat → Int32} (e : E6 v u) {k lo hi : Nat} (hk : k < 166) (q : isN v k lo hi) : isN u k lo hi := by
  unfold isN at q ⊢
  rw [← e.n hk, ← e k hk]
  exact q
theorem E6.ws {v u : Nat → Int32} (e : E6 v u) (w : WS v) : WS u := ⟨e.isn (by decide) w.1, e.isn (by decide) w.2.1, e.isn (by decide) w.2.2.1, e.isn (by decide) w.2.2.2.1, e.isn (by decide) w.2.2.2.2.1, e.isn (by decide) w.2.2.2.2.2⟩
theorem E6.tot {v u : Nat → Int32} (e : E6 v u) : TOT v = TOT u := by
  unfold TOT
  rw [e.n (by decide), e.n (by decide)]
theorem E6.wh {v u : Nat → Int32} {T : Nat} (e : E6 v u) (w : WH T v) : WH T u := by
  unfold WH at w ⊢
  rw [← e.tot]
  exact ⟨e.isn (by decide) w.1, e.isn (by decide) w.2.1, e.isn (by decide) w.2.2.1, e.isn (by decide) w.2.2.2.1, e.isn (by decide) w.2.2.2.2.1, e.isn (by decide) w.2.2.2.2.2⟩
theorem E6.wc {v u : Nat → Int32} (e : E6 v u) (w : WC v) : WC u := by
  have h8 := w.1.2.1
  refine ⟨e.isn (by decide) w.1, fun k hk => ?_⟩
  rw [← e.n (by decide)] at hk
  obtain ⟨c0, c1, c2, c3⟩ := w.2 k hk
  rw [← e.n (show 13 + 4 * k < 166 by omega), ← e.n (show 13 + 4 * k + 2 < 166 by omega)]
  exact ⟨e.isn (by omega) c0, e.isn (by omega) c1, e.isn (by omega) c2, e.isn (by omega) c3⟩
theorem E6.wp {v u : Nat → Int32} (e : E6 v u) (w : WP v) : WP u := by
  have h8 := w.1.2.1
  refine ⟨e.isn (by decide) w.1, fun k hk => ?_⟩
  rw [← e.n (by decide)] at hk
  obtain ⟨c0, c1, c2, c3⟩ := w.2 k hk
  rw [← e.n (show 46 + 3 * k < 166 by omega)]
  exact ⟨e.isn (by omega) c0, c1, e.isn (by omega) c2, e.isn (by omega) c3⟩
theorem E6.wf {v u : Nat → Int32} {T : Nat} (e : E6 v u) (w : WF T v) : WF T u := ⟨e.ws w.1, e.wh w.2.1, e.wc w.2.2.1, e.wp w.2.2.2⟩
theorem E6.r {v u : Nat → Int32} {h : HP} {o : Nat} (e : E6 v u) (wc : WC v) (wp : WP v) (r : R h o v) : R h o u := by
  have g12 := wc.1.2.1
  have g45 := wp.1.2.1
  obtain ⟨rs, rh, rc, rp⟩ := r
  refine ⟨fun k hk => ?_, fun k hk => ?_, ⟨?_, fun k hk => ?_⟩, ?_, fun k hk => ?_⟩
  · rw [← e k (by omega)]
    exact rs k hk
  · rw [← e (6 + k) (by omega)]
    exact rh k hk
  · rw [← e 12 (by decide)]
    exact rc.1
  · rw [← e.n (by decide)] at hk
    rw [← e (13 + k) (by omega)]
    exact rc.2 k hk
  · rw [← e 45 (by decide)]
    exact rp.1
  · rw [← e.n (by decide)] at hk
    rw [← e (46 + 3 * k) (by omega), ← e (46 + 3 * k + 1) (by omega), ← e (46 + 3 * k + 2) (by omega)]
    exact rp.2 k hk
theorem E6.symm {v u : Nat → Int32} (e : E6 v u) : E6 u v := fun k hk => (e k hk).symm
theorem isN.mono {v : Nat → Int32} {k lo hi hi' : Nat} (q : isN v k lo hi) (h : hi ≤ hi') : isN v k lo hi' := ⟨q.1, Nat.le_trans q.2.1 h, q.2.2⟩
theorem WF.mono {v : Nat → Int32} {T T' : Nat} (w : WF T v) (h : T ≤ T') : WF T' v := ⟨w.1, ⟨w.2.1.1, w.2.1.2.1, w.2.1.2.2.1.mono h, w.2.1.2.2.2.1.mono h, w.2.1.2.2.2.2.1.mono h, w.2.1.2.2.2.2.2.mono h⟩, w.2.2⟩

