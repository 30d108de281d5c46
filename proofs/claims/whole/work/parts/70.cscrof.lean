/-! the call scratchOf -/
theorem c_hasC {T : Nat} {v : Nat → Int32} {h : HP} {k : Nat} (wf : WF T v) (r : R h 1 v) (hk : k < N v 12) : f_X4_has 3 (nI k) h = 1 := by
  have hn := wf.2.2.1.1.2.1
  have e : h 3 1 = nI (N v 12) := r.2.2.1.1.trans wf.2.2.1.1.2.2
  rw [f_X4_has, if_neg (nI_pos (by omega)), e, if_neg (nI_ge hk (by omega))]
theorem c_hasCno {T : Nat} {v : Nat → Int32} {h : HP} {x : Int32} (wf : WF T v) (r : R h 1 v) (hx : ¬ ∃ k, k < N v 12 ∧ x = nI k) : f_X4_has 3 x h = 0 := by
  have hn := wf.2.2.1.1.2.1
  have e : h 3 1 = nI (N v 12) := r.2.2.1.1.trans wf.2.2.1.1.2.2
  rw [f_X4_has, e]
  by_cases q : x < 0
  · rw [if_pos q]
  · obtain ⟨j, hj, rfl⟩ := nI_of q
    rw [if_neg q, if_pos (nI_le (Nat.le_of_not_lt fun c => hx ⟨j, c, rfl⟩) hj)]
theorem m_hasC {T : Nat} {v : Nat → Int32} {g h : HP} {k : Nat} (wf : WF T v) (eg : E6 (g 71) v) (hk : k < N v 12) : f_X11_in (nI k) (0 : Int32) (g 71 12 - (1 : Int32)) h = 1 := by
  have hn := wf.2.2.1.1.2.1
  obtain ⟨m, hm⟩ : ∃ m, N v 12 = m + 1 := ⟨N v 12 - 1, by omega⟩
  have e : g 71 12 = nI (N v 12) := (eg 12 (by decide)).trans wf.2.2.1.1.2.2
  rw [e, hm, nI_pred, f_X11_in, if_neg (nI_pos (by omega)), if_neg (nI_nlt (by omega) (by omega))]
theorem m_hasCno {T : Nat} {v : Nat → Int32} {g h : HP} {x : Int32} (wf : WF T v) (eg : E6 (g 71) v) (hx : ¬ ∃ k, k < N v 12 ∧ x = nI k) : f_X11_in x (0 : Int32) (g 71 12 - (1 : Int32)) h = 0 := by
  have hn := wf.2.2.1.1.2.1
  have e : g 71 12 = nI (N v 12) := (eg 12 (by decide)).trans wf.2.2.1.1.2.2
  rw [e, f_X11_in]
  by_cases q : x < 0
  · rw [if_pos q]
  · obtain ⟨j, hj, rfl⟩ := nI_of q
    have hjn : N v 12 ≤ j := Nat.le_of_not_lt fun c => hx ⟨j, c, rfl⟩
    have : nI (N v 12) - (1 : Int32) = zI ((N v 12 : Int) - 1) := by rw [nI_z, z1, zI_sub]
    rw [if_neg q, this, nI_z j, if_pos ((zI_lt (by omega) (by omega) (by omega) (by omega)).mpr (by omega))]
theorem bit_one : ∀ j, j < 8 → ∀ k, k < 8 → ((bitN k &&& bitN j = 0) ↔ k ≠ j) := by decide
theorem hbk_one {v : Nat → Int32} {t i j : Nat} (hj : j < 8) : ∀ c, c ≤ 8 → ((hbk v t i c &&& bitN j = 0) ↔ ¬ (j < c ∧ dmg v j t i = true)) := by
  intro c
  induction c with
  | zero =>
    intro _
    rw [hbk, zero_and]
    simp
  | succ c ih =>
    intro hc
    have ih := ih (by omega)
    rw [hbk]
    cases hd : dmg v c t i with
    | true =>
      rw [if_pos rfl, and_or, Int32.or_eq_zero_iff, bit_one j hj c (by omega), ih]
      constructor
      · intro ⟨h1, h2⟩ ⟨h3, h4⟩
        exact h1 ⟨by omega, h4⟩
      · intro h1
        refine ⟨fun ⟨h3, h4⟩ => h1 ⟨by omega, h4⟩, fun e => ?_⟩
        subst e
        exact h1 ⟨by omega, hd⟩
    | false =>
      rw [if_neg (by decide), ih]
      constructor
      · intro h1 ⟨h3, h4⟩
        by_cases e : j = c
        · subst e
          rw [hd] at h4
          exact Bool.noConfusion h4
        · exact h1 ⟨by omega, h4⟩
      · intro h1 ⟨h3, h4⟩
        exact h1 ⟨by omega, h4⟩
def dbF (v : Nat → Int32) (k f : Nat) : Bool := dmg v k (TU (N v 0) (N v 1) f) (f - STn (N v 0) (N v 1) (TU (N v 0) (N v 1) f))
theorem MS_one {v : Nat → Int32} {h : HP} {k : Nat} (c : WC v) (hk : k < N v 12) (s : ∀ f, f < 3810 → h 67 f = hbV v (N v 12) f) : MS (fun f => decide (f < TOT v) && dbF v k f) (bitN k) h := by
  have h8 := c.1.2.1
  intro f hf
  show (_ ↔ (decide (f < TOT v) && dbF v k f) = false)
  rw [s f hf]
  unfold hbV
  by_cases q : f < TOT v
  · rw [if_pos q, hbk_one (by omega) _ h8, decide_eq_true q, Bool.true_and]
    unfold dbF
    constructor
    · intro h1
      cases hd : dmg v k (TU (N v 0) (N v 1) f) (f - STn (N v 0) (N v 1) (TU (N v 0) (N v 1) f)) with
      | true => exact absurd ⟨hk, hd⟩ h1
      | false => rfl
    · intro h1 ⟨_, h2⟩
      rw [h1] at h2
      exact Bool.noConfusion h2
  · rw [if_neg q, decide_eq_false q, zero_and]
    simp
theorem c_damagedBy {v : Nat → Int32} {h : HP} {k : Nat} (w : WS v) (c : WC v) (hk : k < N v 12) (s : SVv v h) : f_X7_damagedIn (0 : Int32) (3810 : Int32) (bitN k) h = some (nI (cnt (dbF v k) (TOT v))) := by
  have hT := FM_tot w.fm
  have hT' : TOT v ≤ 3810 ∧ TOT v % 5 = 0 := hT.2
  have l := damagedIn_L10 (MS_one c hk s.2.1) 3810 FU 0 rfl (by decide)
  rw [show cnt (fun f => decide (f < TOT v) && dbF v k f) 0 = 0 from rfl, cnt_T 3810 hT'.1, nI_0] at l
  rw [f_X7_damagedIn, show jmax (0 : Int32) (0 : Int32) = 0 by decide]
  exact ob_e (k := fun r => some r) l
theorem m_so_L51 {T : Nat} {v : Nat → Int32} {g : HP} {k t : Nat} (wf : WF T v) (eg : E6 (g 71) v) (hk : k < N v 12) (ht : t ≤ 29) : ∀ d n i, i + d = N v 0 + N v 1 * t → d < n → f_X11_scratchOf_L51 n (nI k) (nI (cnt (dbF v k) (STn (N v 0) (N v 1) t + i))) (nI t) (nI i) g = some (nI (cnt (dbF v k) (STn (N v 0) (N v 1) (t + 1)))) := by
  have ws := wf.1
  have wg := eg.symm.wf wf
  have hfo := (FM_fo (t := t) ws.fm (by omega)).2
  have hs1 : STn (N v 0) (N v 1) (t + 1) = STn (N v 0) (N v 1) t + (N v 0 + N v 1 * t) := rfl
  intro d
  induction d with
  | zero =>
    intro n i hi hn
    obtain ⟨n, rfl⟩ : ∃ n', n = n' + 1 := ⟨n - 1, by omega⟩
    have : STn (N v 0) (N v 1) t + i = STn (N v 0) (N v 1) (t + 1) := by omega
    rw [f_X11_scratchOf_L51, m_framesOf, c_framesOf (eg.ge ws), if_pos (nI_le (by omega) (by omega)), this]
  | succ d ih =>
    intro n i hi hn
    obtain ⟨n, rfl⟩ : ∃ n', n = n' + 1 := ⟨n - 1, by omega⟩
    have n12 := eg.n (show 12 < 166 by decide)
    have n0 := eg.n (show 0 < 166 by decide)
    have n1 := eg.n (show 1 < 166 by decide)
    have md := m_damages (h := g) (k := k) (t := t) (i := i) wg.1 wg.2.2.1 rfl (by omega) ht (by rw [n0, n1]; omega)
    rw [(eg.lk wf.2.2.1).dm hk] at md
    have tu : TU (N v 0) (N v 1) (STn (N v 0) (N v 1) t + i) = t := TU_of ht (by omega) (by omega)
    have dbe : dbF v k (STn (N v 0) (N v 1) t + i) = dmg v k t i := by
      unfold dbF
      rw [tu, Nat.add_sub_cancel_left]
    have hb : nI (cnt (dbF v k) (STn (N v 0) (N v 1) t + i)) + (if bI (dmg v k t i) = 0 then (0 : Int32) else (1 : Int32)) = nI (cnt (dbF v k) (STn (N v 0) (N v 1) t + (i + 1))) := by
      rw [← Nat.add_assoc, cnt, dbe]
      cases dmg v k t i with
      | false =>
        rw [if_pos (show bI false = 0 by decide), Int32.add_zero]
        rfl
      | true =>
        rw [if_neg (show ¬ bI true = 0 by decide), nI_1]
        rfl
    rw [f_X11_scratchOf_L51, m_framesOf, c_framesOf (eg.ge ws), if_neg (nI_ge (by omega) (by omega)), ob_e md, hb, tb_s, nI_1]
    exact ih n (i + 1) (by omega) (by omega)
theorem m_so_L36 {T : Nat} {v : Nat → Int32} {g : HP} {k : Nat} (wf : WF T v) (eg : E6 (g 71) v) (hk : k < N v 12) : ∀ d n t, t + d = 30 → d < n → f_X11_scratchOf_L36 n (nI k) (4 : Int32) (nI (cnt (dbF v k) (STn (N v 0) (N v 1) t))) (nI t) g = some (nI (cnt (dbF v k) (TOT v))) := by
  intro d
  induction d with
  | zero =>
    intro n t ht hn
    obtain ⟨n, rfl⟩ : ∃ n', n = n' + 1 := ⟨n - 1, by omega⟩
    have : t = 30 := by omega
    subst this
    rw [f_X11_scratchOf_L36, if_pos (by decide)]
    rfl
  | succ d ih =>
    intro n t ht hn
    obtain ⟨n, rfl⟩ : ∃ n', n = n' + 1 := ⟨n - 1, by omega⟩
    have hfo := (FM_fo (t := t) wf.1.fm (by omega)).2
    have l := m_so_L51 wf eg hk (show t ≤ 29 by omega) (N v 0 + N v 1 * t) FU 0 (by omega) (Nat.lt_of_le_of_lt hfo (by decide))
    rw [nI_0, Nat.add_zero] at l
    rw [f_X11_scratchOf_L36, if_neg (show ¬ (30 : Int32) ≤ nI t from nI_ge (b := 30) (by omega) (by decide)), if_pos rfl, ob_e l, nI_1]
    exact ih n (t + 1) (by omega) (by omega)
theorem two_scratchOf {T : Nat} {h : HP} {x y : Int32} (inv : Inv T h) : Two T h (f_X10_scratchOf x y) (fun h => ob (f_X11_scratchOf x y h) (fun q => some (q, h))) := by
  obtain ⟨v, n, H, kb, kv, L, tx, ki, mi, wa⟩ := inv
  have wf := wa.1
  have ws := wf.1
  have wc := wf.2.2.1
  have hn := wc.1.2.1
  by_cases hx : ∃ k, k < N v 12 ∧ x = nI k
  · obtain ⟨k, hk, rfl⟩ := hx
    have ch := c_hasC wf ki.1 hk
    have mh : ∀ g : HP, E6 (g 71) v → f_X11_in (nI k) (0 : Int32) (g 71 12 - (1 : Int32)) g = 1 := fun g eg => m_hasC wf eg hk
    rcases in_n (x := y) (a := 0) (b := 4) (by decide) (by decide) with ⟨w, _, hw, rfl, ey⟩ | ⟨hno, ey⟩
    · have ey : ∀ h, f_X11_in (nI w) (0 : Int32) (4 : Int32) h = 1 := ey
      by_cases q4 : w = 4
      · subst q4
        obtain ⟨h1, o1, o2, o3⟩ := c_of ws wc ki.1.1 ki.1.2.2.1 ki.2.1
        refine two_query (r := nI (cnt (dbF v k) (TOT v))) (h1 := h1) ki mi wa ?_ ⟨v, ws, wc, o2⟩ (fun o ho => o3 o (by omega)) (fun g eg wg rg => ⟨g, ?_, eg, fun _ _ _ _ => rfl⟩)
        · have l := c_damagedBy ws wc hk o2
          have e : f_X10_scratchOf (nI k) (nI 4) h = ob (f_X7_of 1 h) (fun q108 => ob (f_X7_damagedIn (0 : Int32) (3810 : Int32) (bitN k) q108) (fun q118 => some (q118, q108))) := by
            rw [f_X10_scratchOf, ch]
            rfl
          rw [e, ob_e o1, ob_e l]
        · have l := m_so_L36 wf eg hk 30 FU 0 rfl (by decide)
          have l' : f_X11_scratchOf_L36 FU (nI k) (nI 4) (0 : Int32) (0 : Int32) g = some (nI (cnt (dbF v k) (TOT v))) := l
          have e : f_X11_scratchOf (nI k) (nI 4) g = some (nI (cnt (dbF v k) (TOT v))) := by
            rw [f_X11_scratchOf, mh g eg, if_neg (by decide), ey, if_neg (by decide), ob_e l', if_pos (by decide)]
          show ob (f_X11_scratchOf (nI k) (nI 4) g) _ = _
          rw [ob_e e]
      · have l4 : ln (3 + 1) = 32 := by decide
        have i0 : nI k * (4 : Int32) = nI (4 * k) := by rw [lit_n 4, pk_mul, Nat.mul_comm]
        have i1 : nI (4 * k) + (1 : Int32) = nI (4 * k + 1) := nI_1 _
        have i2 : nI (4 * k) + (2 : Int32) = nI (4 * k + 2) := by rw [lit_n 2, nI_add]
        have i3 : nI (4 * k) + (3 : Int32) = nI (4 * k + 3) := by rw [lit_n 3, nI_add]
        refine two_query (r := v (13 + 4 * k + w)) (h1 := h) ki mi wa ?_ ki.2.1 (fun _ _ => rfl) (fun g eg wg rg => ⟨g, ?_, eg, fun _ _ _ _ => rfl⟩)
        · have : w = 0 ∨ w = 1 ∨ w = 2 ∨ w = 3 := by omega
          have g : ∀ j, j < 4 → f_X10_at (3 + 1) (nI (4 * k + j)) h = v (13 + 4 * k + j) := fun j hj => by
            rw [at_n (by omega), Nat.add_assoc]
            exact ki.1.2.2.1.2 _ (by omega)
          rw [f_X10_scratchOf, ch, if_neg (by decide)]
          rcases this with q | q | q | q <;> subst q
          · rw [if_pos (by decide), f_X4_fromOf, i0]
            exact congrArg (fun z => some (z, h)) (g 0 (by decide))
          · rw [if_neg (by decide), if_pos (by decide), f_X4_toOf, i0, i1, g 1 (by decide)]
          · rw [if_neg (by decide), if_neg (by decide), if_pos (by decide), f_X4_innerOf, i0, i2, g 2 (by decide)]
          · rw [if_neg (by decide), if_neg (by decide), if_neg (by decide), if_pos (by decide), f_X4_outerOf, i0, i3, g 3 (by decide)]
        · have ix : (((13 : Int32) + ((4 : Int32) * nI k)) + nI w) = nI (13 + 4 * k + w) := by rw [lit_n 13, lit_n 4, pk_mul, nI_add, nI_add]
          have ne4 : ¬ nI w = (4 : Int32) := fun e => q4 ((nI_eq (b := 4) (by omega) (by decide)).mp e)
          have l : f_X11_scratchOf_L36 FU (nI k) (nI w) (0 : Int32) (0 : Int32) g = some 0 := by
            show f_X11_scratchOf_L36 (999999 + 1) (nI k) (nI w) (0 : Int32) (0 : Int32) g = some 0
            rw [f_X11_scratchOf_L36, if_neg (by decide), if_neg ne4]
          have e : f_X11_scratchOf (nI k) (nI w) g = some (v (13 + 4 * k + w)) := by
            rw [f_X11_scratchOf, mh g eg, if_neg (by decide), ey, if_neg (by decide), ob_e l, if_neg ne4, ix, gd_t (inB_n (by omega) (by decide)), nI_clamp (by omega), eg _ (by omega)]
          show ob (f_X11_scratchOf (nI k) (nI w) g) _ = _
          rw [ob_e e]
    · have ey : ∀ h, f_X11_in y (0 : Int32) (4 : Int32) h = 0 := ey
      refine two_query (r := (-2 : Int32)) (h1 := h) ki mi wa ?_ ki.2.1 (fun _ _ => rfl) (fun g eg wg rg => ⟨g, ?_, eg, fun _ _ _ _ => rfl⟩)
      · have ne : ∀ j, j ≤ 4 → ¬ y = nI j := fun j hj e => hno ⟨j, by omega, hj, e⟩
        rw [f_X10_scratchOf, ch, if_neg (by decide), if_neg (show ¬ y = (0 : Int32) from ne 0 (by decide)), if_neg (show ¬ y = (1 : Int32) from ne 1 (by decide)), if_neg (show ¬ y = (2 : Int32) from ne 2 (by decide)), if_neg (show ¬ y = (3 : Int32) from ne 3 (by decide)), if_neg (show ¬ y = (4 : Int32) from ne 4 (by decide))]
      · have e : f_X11_scratchOf (nI k) y g = some (-2) := by
          rw [f_X11_scratchOf, mh g eg, if_neg (by decide), ey, if_pos rfl]
        show ob (f_X11_scratchOf (nI k) y g) _ = _
        rw [ob_e e]
  · refine two_query (r := (-1 : Int32)) (h1 := h) ki mi wa ?_ ki.2.1 (fun _ _ => rfl) (fun g eg wg rg => ⟨g, ?_, eg, fun _ _ _ _ => rfl⟩)
    · rw [f_X10_scratchOf, c_hasCno wf ki.1 hx, if_pos rfl]
    · have e : f_X11_scratchOf x y g = some (-1) := by
        rw [f_X11_scratchOf, m_hasCno wf eg hx, if_pos rfl]
      show ob (f_X11_scratchOf x y g) _ = _
      rw [ob_e e]
