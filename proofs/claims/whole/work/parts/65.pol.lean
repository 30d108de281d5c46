/-! polish as an order, and the call -/
theorem c_drop_L13 : ∀ d n i (h : HP), i + d = 28 → d < n → ∃ h', f_X4_drop_L13 n 3 (nI i) h = some h' ∧ (∀ k, i ≤ k → k < 28 → h' 4 k = h 4 (k + 4)) ∧ (∀ k, k < i ∨ 28 ≤ k → h' 4 k = h 4 k) ∧ ∀ o, o ≠ 4 → h' o = h o := by
  have l4 : ln (3 + 1) = 32 := by decide
  intro d
  induction d with
  | zero =>
    intro n i h hi hn
    obtain ⟨n, rfl⟩ : ∃ n', n = n' + 1 := ⟨n - 1, by omega⟩
    have : i = 28 := by omega
    subst this
    rw [f_X4_drop_L13, if_pos (by decide)]
    exact ⟨h, rfl, fun k h1 h2 => by omega, fun _ _ => rfl, fun _ _ => rfl⟩
  | succ d ih =>
    intro n i h hi hn
    obtain ⟨n, rfl⟩ : ∃ n', n = n' + 1 := ⟨n - 1, by omega⟩
    obtain ⟨h', a1, a2, a3, a4⟩ := ih n (i + 1) (hset h 4 i (h 4 (i + 4))) (by omega) (by omega)
    refine ⟨h', ?_, fun k h1 h2 => ?_, fun k hk => ?_, fun o ho => ?_⟩
    · rw [f_X4_drop_L13, if_neg (show ¬ (32 : Int32) - 4 ≤ nI i from nI_ge (b := 28) (by omega) (by decide)), lit_n 4, nI_add, at_n (by omega), put_n (by omega), tb_s, nI_1]
      exact a1
    · by_cases q : k = i
      · subst q
        rw [a3 k (by omega), hset_same]
      · rw [a2 k (by omega) h2, hset_oth (by omega)]
    · rw [a3 k (by omega), hset_oth (by omega)]
    · rw [a4 o ho, hset_sR, sR_o ho]
theorem m_po_L37 {m : Nat} (hm : m < 8) : ∀ d n i (h : HP), i + d = 13 + 4 * m → d < n → 13 ≤ i → h 71 12 = nI m → ∃ w, f_X11_polishes_L37 n (nI i) h = some (sR h 71 w) ∧ (∀ k, i ≤ k → k < 13 + 4 * m → w k = h 71 (k + 4)) ∧ ∀ k, k < i ∨ 13 + 4 * m ≤ k → w k = h 71 k := by
  intro d
  induction d with
  | zero =>
    intro n i h hi hn h13 e
    obtain ⟨n, rfl⟩ : ∃ n', n = n' + 1 := ⟨n - 1, by omega⟩
    have ix : ((13 : Int32) + ((4 : Int32) * nI m)) = nI (13 + 4 * m) := by rw [lit_n 13, lit_n 4, pk_mul, nI_add]
    rw [f_X11_polishes_L37, e, ix, if_pos (nI_le (by omega) (by omega))]
    exact ⟨h 71, by rw [sR_id], fun k h1 h2 => by omega, fun _ _ => rfl⟩
  | succ d ih =>
    intro n i h hi hn h13 e
    obtain ⟨n, rfl⟩ : ∃ n', n = n' + 1 := ⟨n - 1, by omega⟩
    have ix : ((13 : Int32) + ((4 : Int32) * nI m)) = nI (13 + 4 * m) := by rw [lit_n 13, lit_n 4, pk_mul, nI_add]
    have i4 : nI i + (4 : Int32) = nI (i + 4) := by rw [lit_n 4, nI_add]
    obtain ⟨w, a1, a2, a3⟩ := ih n (i + 1) (sR h 71 (up (h 71) i (h 71 (i + 4)))) (by omega) (by omega) (by omega) (by rw [sR_s, up_o (by omega)]; exact e)
    refine ⟨w, ?_, fun k h1 h2 => ?_, fun k hk => ?_⟩
    · rw [f_X11_polishes_L37, e, ix, if_neg (nI_ge (by omega) (by omega)), i4, gd_t (inB_n (by omega) (by decide)), gd_t (inB_n (by omega) (by decide)), nI_clamp (by omega), nI_clamp (by omega), nI_1, hset_sR, a1, sR_2]
    · by_cases q : k = i
      · subst q
        rw [a3 k (by omega), sR_s, up_s]
      · rw [a2 k (by omega) h2, sR_s, up_o (by omega)]
    · rw [a3 k (by omega), sR_s, up_o (by omega)]
theorem m_po_L75 {m : Nat} (hm : m < 8) : ∀ d n i (h : HP), i + d = 4 → d < n → h 71 12 = nI m → ∃ w, f_X11_polishes_L75 n (nI i) h = some (sR h 71 w) ∧ (∀ k, 13 + 4 * m + i ≤ k → k < 13 + 4 * m + 4 → w k = 0) ∧ ∀ k, k < 13 + 4 * m + i ∨ 13 + 4 * m + 4 ≤ k → w k = h 71 k := by
  intro d
  induction d with
  | zero =>
    intro n i h hi hn e
    obtain ⟨n, rfl⟩ : ∃ n', n = n' + 1 := ⟨n - 1, by omega⟩
    have : i = 4 := by omega
    subst this
    rw [f_X11_polishes_L75, if_pos (by decide)]
    exact ⟨h 71, by rw [sR_id], fun k h1 h2 => by omega, fun _ _ => rfl⟩
  | succ d ih =>
    intro n i h hi hn e
    obtain ⟨n, rfl⟩ : ∃ n', n = n' + 1 := ⟨n - 1, by omega⟩
    have ix : (((13 : Int32) + ((4 : Int32) * nI m)) + nI i) = nI (13 + 4 * m + i) := by rw [lit_n 13, lit_n 4, pk_mul, nI_add, nI_add]
    obtain ⟨w, a1, a2, a3⟩ := ih n (i + 1) (sR h 71 (up (h 71) (13 + 4 * m + i) 0)) (by omega) (by omega) (by rw [sR_s, up_o (by omega)]; exact e)
    refine ⟨w, ?_, fun k h1 h2 => ?_, fun k hk => ?_⟩
    · rw [f_X11_polishes_L75, if_neg (show ¬ (4 : Int32) ≤ nI i from nI_ge (b := 4) (by omega) (by decide)), e, ix, gd_t (inB_n (by omega) (by decide)), nI_clamp (by omega), nI_1, hset_sR, a1, sR_2]
    · by_cases q : k = 13 + 4 * m + i
      · subst q
        rw [a3 _ (by omega), sR_s, up_s]
      · exact a2 k (by omega) h2
    · rw [a3 k (by omega), sR_s, up_o (by omega)]
/-- the row behind a polish -/
def plV (v : Nat → Int32) (m x : Nat) : Nat → Int32 := fun i => if i = 12 then nI m else if 13 + 4 * x ≤ i ∧ i < 13 + 4 * m then v (i + 4) else if 13 + 4 * m ≤ i ∧ i < 13 + 4 * m + 4 then 0 else v i
theorem plV_12 {v : Nat → Int32} {m x : Nat} : plV v m x 12 = nI m := if_pos rfl
theorem plV_o {v : Nat → Int32} {m x i : Nat} (hx : x ≤ m) (h : i < 13 + 4 * x ∨ 13 + 4 * m + 4 ≤ i) (h2 : i ≠ 12) : plV v m x i = v i := by
  unfold plV
  rw [if_neg h2, if_neg (by omega), if_neg (by omega)]
theorem plV_m {v : Nat → Int32} {m x i : Nat} (h1 : 13 + 4 * x ≤ i) (h2 : i < 13 + 4 * m) : plV v m x i = v (i + 4) := by
  unfold plV
  rw [if_neg (by omega), if_pos ⟨h1, h2⟩]
theorem plV_z {v : Nat → Int32} {m x i : Nat} (h1 : 13 + 4 * m ≤ i) (h2 : i < 13 + 4 * m + 4) : plV v m x i = 0 := by
  unfold plV
  rw [if_neg (by omega), if_neg (by omega), if_pos ⟨h1, h2⟩]
theorem plV_wc {v : Nat → Int32} {m x : Nat} (w : WC v) (hm : N v 12 = m + 1) (hx : x ≤ m) : WC (plV v m x) := by
  have h8 := w.1.2.1
  have n12 : N (plV v m x) 12 = m := by
    rw [N, plV_12, nI_clamp (by omega)]
  refine ⟨isN_of plV_12 (by omega) (by omega) (by omega), fun k hk => ?_⟩
  rw [n12] at hk
  by_cases q : k < x
  · obtain ⟨c0, c1, c2, c3⟩ := w.2 k (by omega)
    rw [N_eq (plV_o (i := 13 + 4 * k) hx (by omega) (by omega)), N_eq (plV_o (i := 13 + 4 * k + 2) hx (by omega) (by omega))]
    exact ⟨c0.eq (plV_o hx (by omega) (by omega)), c1.eq (plV_o hx (by omega) (by omega)), c2.eq (plV_o hx (by omega) (by omega)), c3.eq (plV_o hx (by omega) (by omega))⟩
  · have c := w.2 (k + 1) (by omega)
    rw [show 13 + 4 * (k + 1) = 13 + 4 * k + 4 by omega] at c
    have e0 : plV v m x (13 + 4 * k) = v (13 + 4 * k + 4) := plV_m (by omega) (by omega)
    have e1 : plV v m x (13 + 4 * k + 1) = v (13 + 4 * k + 4 + 1) := plV_m (by omega) (by omega)
    have e2 : plV v m x (13 + 4 * k + 2) = v (13 + 4 * k + 4 + 2) := plV_m (by omega) (by omega)
    have e3 : plV v m x (13 + 4 * k + 3) = v (13 + 4 * k + 4 + 3) := plV_m (by omega) (by omega)
    unfold isN N at *
    rw [e0, e1, e2, e3]
    exact c
theorem op_polish {T : Nat} {v : Nat → Int32} {x : Int32} (wf : WF T v) : Op true T v (f_X10_polishAway x) (f_X11_polishes x) := by
  have ws := wf.1
  have wc := wf.2.2.1
  have hn := wc.1.2.1
  have hsz : ∀ h, R h 1 v → h 3 1 = nI (N v 12) := fun h r => r.2.2.1.1.trans wc.1.2.2
  have m12 : ∀ g : HP, E6 (g 71) v → g 71 12 = nI (N v 12) := fun g eg => (eg 12 (by decide)).trans wc.1.2.2
  by_cases hx : ∃ k, k < N v 12 ∧ x = nI k
  · obtain ⟨k, hk, rfl⟩ := hx
    obtain ⟨m, hm⟩ : ∃ m, N v 12 = m + 1 := ⟨N v 12 - 1, by omega⟩
    have wc' := plV_wc (x := k) wc hm (by omega)
    have ev : ∀ i, i < 12 ∨ 45 ≤ i → plV v m k i = v i := fun i hi => plV_o (by omega) (by omega) (by omega)
    have wf' : WF (T + 10000) (plV v m k) := wf.newC (by omega) ev wc'
    have n12 : N (plV v m k) 12 = m := by
      rw [N, plV_12, nI_clamp (by omega)]
    refine ⟨dmC (plV v m k), 0, plV v m k, fun h r sv => ?_, fun g eg => ?_, wf', Or.inr ⟨dmC_0 wf', by decide, (fun _ => ⟨rfl, rfl⟩), fun e => by simp at e⟩⟩
    · have hh : f_X4_has 3 (nI k) h = 1 := by
        rw [f_X4_has, if_neg (nI_pos (by omega)), hsz h r, if_neg (nI_ge hk (by omega))]
      obtain ⟨h1, a1, a2, a3, a4⟩ := c_drop_L13 (28 - 4 * k) FU (4 * k) h (by omega) (Nat.lt_of_le_of_lt (show 28 - 4 * k ≤ 28 by omega) (by decide))
      have ed : f_X4_drop 3 (nI k) h = some (hset h1 3 1 (nI m)) := by
        rw [f_X4_drop, hh, if_neg (by decide), show nI k * (4 : Int32) = nI (4 * k) by rw [lit_n 4, pk_mul, Nat.mul_comm], ob_e a1, a4 3 (by decide), hsz h r, hm, nI_pred]
      have fr : ∀ o, o ≠ 3 → o ≠ 4 → hset h1 3 1 (nI m) o = h o := fun o h3 h4 => by
        rw [hset_sR, sR_o h3, a4 o h4]
      have r1 : R (hset h1 3 1 (nI m)) 1 (plV v m k) := by
        refine r.newC (fun o _ _ h3 h4 => fr o h3 h4) ev ⟨?_, fun i hi => ?_⟩
        · rw [plV_12]
          exact hset_same
        · rw [n12] at hi
          show hset h1 3 1 (nI m) 4 i = _
          rw [hset_oth (by omega)]
          by_cases q : i < 4 * k
          · rw [a3 i (by omega), plV_o (by omega) (by omega) (by omega)]
            exact r.2.2.1.2 i (by omega)
          · rw [a2 i (by omega) (by omega), plV_m (by omega) (by omega)]
            exact r.2.2.1.2 (i + 4) (by omega)
      obtain ⟨h', b1, b2, b3, b4⟩ := c_afterC wf' r1 (sv.of (fun o h1 h2 => fr o (by omega) (by omega)))
      refine ⟨h', ?_, b2, b3, fun o ho => (b4 o (by omega)).trans (fr o (by omega) (by omega))⟩
      rw [f_X10_polishAway, hh, if_neg (by decide), ob_e ed]
      exact b1
    · have em : nI (N v 12) - (1 : Int32) = nI m := by rw [hm, nI_pred]
      have ei : f_X11_in (nI k) (0 : Int32) (nI m) g = 1 := by
        rw [f_X11_in, if_neg (nI_pos (by omega)), if_neg (nI_nlt (by omega) (by omega))]
      obtain ⟨w, a1, a2, a3⟩ := m_po_L37 (m := m) (by omega) (4 * (m - k)) FU (13 + 4 * k) (hset g 71 12 (nI m)) (by omega) (Nat.lt_of_le_of_lt (show 4 * (m - k) ≤ 32 by omega) (by decide)) (by omega) hset_same
      obtain ⟨w2, b1, b2, b3⟩ := m_po_L75 (m := m) (by omega) 4 FU 0 (sR (hset g 71 12 (nI m)) 71 w) rfl (by decide) (by rw [sR_s, a3 12 (by omega), hset_same])
      rw [nI_0] at b1
      refine ⟨sR (sR (hset g 71 12 (nI m)) 71 w) 71 w2, ?_, ?_, fun o h1 _ => ?_⟩
      · rw [f_X11_polishes, m12 g eg, em, ei, if_neg (by decide), show (13 : Int32) + (4 : Int32) * nI k = nI (13 + 4 * k) by rw [lit_n 13, lit_n 4, pk_mul, nI_add], ob_e a1]
        exact ob_e b1
      · rw [sR_s]
        intro i hi
        by_cases q12 : i = 12
        · subst q12
          rw [b3 12 (by omega), sR_s, a3 12 (by omega), hset_same, plV_12]
        · by_cases qz : 13 + 4 * m ≤ i ∧ i < 13 + 4 * m + 4
          · rw [b2 i (by omega) (by omega), plV_z qz.1 qz.2]
          · rw [b3 i (by omega), sR_s]
            by_cases qm : 13 + 4 * k ≤ i ∧ i < 13 + 4 * m
            · rw [a2 i qm.1 qm.2, hset_oth (by omega), plV_m qm.1 qm.2]
              exact eg (i + 4) (by omega)
            · rw [a3 i (by omega), hset_oth (by omega), plV_o (by omega) (by omega) q12]
              exact eg i hi
      · rw [sR_o h1, sR_o h1, hset_sR, sR_o h1]
  · refine ⟨(-1 : Int32), (-1 : Int32), v, fun h r sv => ⟨h, ?_, r, sv, fun _ _ => rfl⟩, fun g eg => ⟨g, ?_, eg, fun _ _ _ => rfl⟩, wf.mono (by omega), Or.inl ⟨by decide, rfl, rfl⟩⟩
    · have hh : f_X4_has 3 x h = 0 := by
        rw [f_X4_has, hsz h r]
        by_cases q : x < 0
        · rw [if_pos q]
        · obtain ⟨j, hj, rfl⟩ := nI_of q
          rw [if_neg q, if_pos (nI_le (Nat.le_of_not_lt fun c => hx ⟨j, c, rfl⟩) hj)]
      rw [f_X10_polishAway, hh, if_pos rfl]
    · have ei : f_X11_in x (0 : Int32) (nI (N v 12) - (1 : Int32)) g = 0 := by
        rw [f_X11_in]
        by_cases q : x < 0
        · rw [if_pos q]
        · obtain ⟨j, hj, rfl⟩ := nI_of q
          have hjn : N v 12 ≤ j := Nat.le_of_not_lt fun c => hx ⟨j, c, rfl⟩
          have : nI (N v 12) - (1 : Int32) = zI ((N v 12 : Int) - 1) := by rw [nI_z, z1, zI_sub]
          rw [if_neg q, this, nI_z j, if_pos ((zI_lt (by omega) (by omega) (by omega) (by omega)).mpr (by omega))]
      rw [f_X11_polishes, m12 g eg, ei, if_pos rfl]
theorem two_polish {T : Nat} {h : HP} {x : Int32} (inv : Inv T h) : Two T h (f_X10_polish x) (f_X11_polish x) := two_actD inv (fun _ wf => op_polish wf)
