/-! the call scratchOf -/
theorem c_hasC {T : Nat} {v : Nat → Int32} {h : HP} {k : Nat} (wf : WF T v) (r : R h 1 v) (hk : k < N v 12) : f_X4_has 3 (nI k) h = 1 := by
  have hn := wf.2.2.1.1.2.1
  have e : h 3 1 = nI (N v 12) := r.2.2.1.1.trans wf.2.2.1.1.2.2
  rw [f_X4_has, if_neg (nI_pos (by omega)), e, if_neg (nI_ge hk (by omega))]
theorem c_hasCno {T : Nat} {v : Nat → Int32} {h : HP} {x : Int32} (wf : WF T v) (r : R h 1 v) (hx : ¬ ∃ k, k < N v 12 ∧ x = nI k) : f_X4_has 3 x h = 0 := by
  have hn := wf.2.2.1.1.2.1
  have e : h 3 1 = nI (N v 12) := r.2.2.1.1.trans wf.2.2.1.1.2.2
  rw [f_X4_has, e]
  by_cases q : x < 0
  · rw [if_pos q]
  · obtain ⟨j, hj, rfl⟩ := nI_of q
    rw [if_neg q, if_pos (nI_le (Nat.le_of_not_lt fun c => hx ⟨j, c, rfl⟩) hj)]
theorem m_hasC {T : Nat} {v : Nat → Int32} {g h : HP} {k : Nat} (wf : WF T v) (eg : E6 (g 71) v) (hk : k < N v 12) : inF (nI k) (0 : Int32) (g 71 12 - (1 : Int32)) h = 1 := by
  have hn := wf.2.2.1.1.2.1
  obtain ⟨m, hm⟩ : ∃ m, N v 12 = m + 1 := ⟨N v 12 - 1, by omega⟩
  have e : g 71 12 = nI (N v 12) := (eg 12 (by decide)).trans wf.2.2.1.1.2.2
  rw [e, hm, nI_pred, inF, if_neg (nI_pos (by omega)), if_neg (nI_nlt (by omega) (by omega))]
theorem m_hasCno {T : Nat} {v : Nat → Int32} {g h : HP} {x : Int32} (wf : WF T v) (eg : E6 (g 71) v) (hx : ¬ ∃ k, k < N v 12 ∧ x = nI k) : inF x (0 : Int32) (g 71 12 - (1 : Int32)) h = 0 := by
  have hn := wf.2.2.1.1.2.1
  have e : g 71 12 = nI (N v 12) := (eg 12 (by decide)).trans wf.2.2.1.1.2.2
  rw [e, inF]
  by_cases q : x < 0
  · rw [if_pos q]
  · obtain ⟨j, hj, rfl⟩ := nI_of q
    have hjn : N v 12 ≤ j := Nat.le_of_not_lt fun c => hx ⟨j, c, rfl⟩
    have : nI (N v 12) - (1 : Int32) = zI ((N v 12 : Int) - 1) := by rw [nI_z, z1, zI_sub]
    rw [if_neg q, this, nI_z j, if_pos ((zI_lt (by omega) (by omega) (by omega) (by omega)).mpr (by omega))]
theorem bit_one : ∀ j, j < 8 → ∀ k, k < 8 → ((bitN k &&& bitN j = 0) ↔ k ≠ j) := by decide
theorem hbk_one {v : Nat → Int32} {t i j : Nat} (hj : j < 8) : ∀ c, c ≤ 8 → ((hbk v t i c &&& bitN j = 0) ↔ ¬ (j < c ∧ dmg v j t i = true)) := by
  intro c
  induction c with
  | zero =>
    intro _
    rw [hbk, zero_and]
    simp
  | succ c ih =>
    intro hc
    have ih := ih (by omega)
    rw [hbk]
    cases hd : dmg v c t i with
    | true =>
      rw [if_pos rfl, and_or, Int32.or_eq_zero_iff, bit_one j hj c (by omega), ih]
      constructor
      · intro ⟨h1, h2⟩ ⟨h3, h4⟩
        exact h1 ⟨by omega, h4⟩
      · intro h1
        refine ⟨fun ⟨h3, h4⟩ => h1 ⟨by omega, h4⟩, fun e => ?_⟩
        subst e
        exact h1 ⟨by omega, hd⟩
    | false =>
      rw [if_neg (by decide), ih]
      constructor
      · intro h1 ⟨h3, h4⟩
        by_cases e : j = c
        · subst e
          rw [hd] at h4
          exact Bool.noConfusion h4
        · exact h1 ⟨by omega, h4⟩
      · intro h1 ⟨h3, h4⟩
        exact h1 ⟨by omega, h4⟩
def dbF (v : Nat → Int32) (k f : Nat) : Bool := dmg v k (TU (N v 0) (N v 1) f) (f - STn (N v 0) (N v 1) (TU (N v 0) (N v 1) f))
theorem MS_one {v : Nat → Int32} {h : HP} {k : Nat} (c : WC v) (hk : k < N v 12) (s : ∀ f, f < 3810 → h 67 f = hbV v (N v 12) f) : MS (fun f => decide (f < TOT v) && dbF v k f) (bitN k) h := by
  have h8 := c.1.2.1
  intro f hf
  show (_ ↔ (decide (f < TOT v) && dbF v k f) = false)
  rw [s f hf]
  unfold hbV
  by_cases q : f < TOT v
  · rw [if_pos q, hbk_one (by omega) _ h8, decide_eq_true q, Bool.true_and]
    unfold dbF
    constructor
    · intro h1
      cases hd : dmg v k (TU (N v 0) (N v 1) f) (f - STn (N v 0) (N v 1) (TU (N v 0) (N v 1) f)) with
      | true => exact absurd ⟨hk, hd⟩ h1
      | false => rfl
    · intro h1 ⟨_, h2⟩
      rw [h1] at h2
      exact Bool.noConfusion h2
  · rw [if_neg q, decide_eq_false q, zero_and]
    simp
theorem c_damagedBy {v : Nat → Int32} {h : HP} {k : Nat} (w : WS v) (c : WC v) (hk : k < N v 12) (s : SVv v h) : f_X7_damagedIn (0 : Int32) (3810 : Int32) (bitN k) h = some (nI (cnt (dbF v k) (TOT v))) := by
  have hT := FM_tot w.fm
  have hT' : TOT v ≤ 3810 ∧ TOT v % 5 = 0 := hT.2
  have l := damagedIn_L10 (MS_one c hk s.2.1) 3810 FU 0 rfl (by decide)
  rw [show cnt (fun f => decide (f < TOT v) && dbF v k f) 0 = 0 from rfl, cnt_T 3810 hT'.1, nI_0] at l
  rw [f_X7_damagedIn, show jmax (0 : Int32) (0 : Int32) = 0 by decide]
  exact ob_e (k := fun r => some r) l
