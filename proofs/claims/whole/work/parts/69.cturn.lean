/-! the call turn -/
def lenF (v : Nat → Int32) (a : Nat) : Nat → Nat
  | 0 => 0
  | k + 1 => lenF v a k + (pT v (a + k) + fT v (a + k))
theorem damagedIn_rng {b : Nat → Bool} {m : Int32} {h : HP} {a e : Nat} (he : e ≤ 3810) (s : ∀ f, a ≤ f → f < e → (h 67 f &&& m = 0 ↔ b f = false)) : ∀ d n k, a + k + d = e → d < n → f_X7_damagedIn_L10 n (nI e) m (nI (cnt (fun i => b (a + i)) k)) (nI (a + k)) h = some (nI (cnt (fun i => b (a + i)) (e - a))) := by
  intro d
  induction d with
  | zero =>
    intro n k hk hn
    obtain ⟨n, rfl⟩ : ∃ n', n = n' + 1 := ⟨n - 1, by omega⟩
    rw [f_X7_damagedIn_L10, if_pos (nI_le (by omega) (by omega)), show e - a = k by omega]
  | succ d ih =>
    intro n k hk hn
    obtain ⟨n, rfl⟩ : ∃ n', n = n' + 1 := ⟨n - 1, by omega⟩
    have hk3 : ¬ (3810 : Int32) ≤ nI (a + k) := nI_ge (a := a + k) (b := 3810) (by omega) (by decide)
    rw [f_X7_damagedIn_L10, if_neg (nI_ge (by omega) (by omega)), if_neg hk3, gd_t (inB_n (by omega) (by decide)), nI_clamp (by omega)]
    have s1 := s (a + k) (by omega) (by omega)
    have : (if h 67 (a + k) &&& m = 0 then nI (cnt (fun i => b (a + i)) k) else nI (cnt (fun i => b (a + i)) k) + (1 : Int32)) = nI (cnt (fun i => b (a + i)) (k + 1)) := by
      rw [cnt]
      cases hb : b (a + k) with
      | true =>
        rw [if_neg (fun e => Bool.noConfusion (hb.symm.trans (s1.mp e))), nI_1]
        rfl
      | false =>
        rw [if_pos (s1.mpr hb)]
        rfl
    rw [this, nI_1, Nat.add_assoc]
    exact ih n (k + 1) (by omega) (by omega)
theorem c_lenAll {T : Nat} {v : Nat → Int32} {h : HP} {a e : Nat} (wf : WF T v) (r : R h 1 v) (he : e ≤ 3810) : ∀ d n k, a + k + d = e → d < n → f_X8_lengthOfAll_L5 n 5 (nI e) (nI (lenF v a k)) (nI (a + k)) h = some (nI (lenF v a (e - a))) := by
  intro d
  induction d with
  | zero =>
    intro n k hk hn
    obtain ⟨n, rfl⟩ : ∃ n', n = n' + 1 := ⟨n - 1, by omega⟩
    rw [f_X8_lengthOfAll_L5, if_pos (nI_le (by omega) (by omega)), show e - a = k by omega]
  | succ d ih =>
    intro n k hk hn
    obtain ⟨n, rfl⟩ : ∃ n', n = n' + 1 := ⟨n - 1, by omega⟩
    rw [f_X8_lengthOfAll_L5, if_neg (nI_ge (by omega) (by omega)), ob_e (c_length wf r (by omega)), nI_add, nI_1, Nat.add_assoc]
    exact ih n (k + 1) (by omega) (by omega)
theorem m_turn_L42 {T : Nat} {v : Nat → Int32} {q : HP} {t w : Nat} (wf : WF T v) (eq : E6 (q 71) v) (mb : MB (q 71) (lyV v (-5)) q) (ht : t ≤ 29) (hw : w = 2 ∨ w = 3) : ∀ d n k, STn (N v 0) (N v 1) t + k + d = STn (N v 0) (N v 1) (t + 1) → d < n → f_X11_turn_L42 n (nI t) (nI w) (nI (cnt (fun i => lyV v (-5) (STn (N v 0) (N v 1) t + i)) k)) (nI (if w = 3 then lenF v (STn (N v 0) (N v 1) t) k else 0)) (nI (STn (N v 0) (N v 1) t + k)) q = some (nI (cnt (fun i => lyV v (-5) (STn (N v 0) (N v 1) t + i)) (STn (N v 0) (N v 1) (t + 1) - STn (N v 0) (N v 1) t)), nI (if w = 3 then lenF v (STn (N v 0) (N v 1) t) (STn (N v 0) (N v 1) (t + 1) - STn (N v 0) (N v 1) t) else 0)) := by
  have ws := wf.1
  have hst := FM_st (t := t + 1) ws.fm (by omega)
  have hs30 : STn (N v 0) (N v 1) (t + 1) ≤ TOT v := STn_le (by omega)
  have tt : TOT (q 71) = TOT v := (eq.lk wf.2.2.1).tot
  have es : f_X11_start (nI t + (1 : Int32)) q = nI (STn (N v 0) (N v 1) (t + 1)) := by
    rw [nI_1, m_start, c_firstOf (eq.ge ws) (by omega)]
  generalize STn (N v 0) (N v 1) (t + 1) = e at *
  generalize STn (N v 0) (N v 1) t = a at *
  intro d
  induction d with
  | zero =>
    intro n k hk hn
    obtain ⟨n, rfl⟩ : ∃ n', n = n' + 1 := ⟨n - 1, by omega⟩
    rw [f_X11_turn_L42, es, if_pos (nI_le (by omega) (by omega)), show e - a = k by omega]
  | succ d ih =>
    intro n k hk hn
    obtain ⟨n, rfl⟩ : ∃ n', n = n' + 1 := ⟨n - 1, by omega⟩
    have hb : nI (cnt (fun i => lyV v (-5) (a + i)) k) + (if q 76 (a + k) = 0 then (0 : Int32) else (1 : Int32)) = nI (cnt (fun i => lyV v (-5) (a + i)) (k + 1)) := by
      rw [mb.2 (a + k) (by omega), cnt]
      cases lyV v (-5) (a + k) with
      | false =>
        rw [if_pos (show bI false = 0 by decide), Int32.add_zero]
        rfl
      | true =>
        rw [if_neg (show ¬ bI true = 0 by decide), nI_1]
        rfl
    rw [f_X11_turn_L42, es, if_neg (nI_ge (by omega) (by omega)), if_neg (show ¬ nI w ≤ (1 : Int32) from nI_ge (a := 1) (by omega) (by omega)), gd_t (inB_n (by omega) (by decide)), nI_clamp (by omega), hb, tb_s, ob_e (m_pits wf eq (by omega)), ob_e (m_flats wf eq (by omega)), nI_add]
    rcases hw with hw | hw
    · subst hw
      rw [if_neg (show ¬ nI 2 = (3 : Int32) by decide), ob_s, Int32.add_zero, nI_1, Nat.add_assoc]
      exact ih n (k + 1) (by omega) (by omega)
    · subst hw
      rw [if_pos (show nI 3 = (3 : Int32) by decide), ob_s, if_pos rfl, nI_add, nI_1, Nat.add_assoc]
      have := ih n (k + 1) (by omega) (by omega)
      rw [if_pos rfl] at this
      exact this
theorem m_turn_L42' {q : HP} {t w n : Nat} {x : Int32} (hw : w ≤ 1) : f_X11_turn_L42 (n + 1) (nI t) (nI w) 0 0 x q = some (0, 0) := by
  rw [f_X11_turn_L42]
  split
  · rfl
  · rw [if_pos (show nI w ≤ (1 : Int32) from nI_le (b := 1) hw (by decide))]
theorem two_turn {T : Nat} {h : HP} {x y : Int32} (inv : Inv T h) : Two T h (f_X10_turn x y) (f_X11_turn x y) := by
  obtain ⟨v, n, H, kb, kv, L, tx, ki, mi, wa⟩ := inv
  have wf := wa.1
  have ws := wf.1
  have wc := wf.2.2.1
  rcases in_n (x := x) (a := 0) (b := 29) (by decide) (by decide) with ⟨t, _, ht, rfl, et⟩ | ⟨hno, et⟩
  · have et : ∀ h, f_X11_in (nI t) (0 : Int32) (29 : Int32) h = 1 := et
    have c1 : ¬ nI t < 0 := nI_pos (by omega)
    have c2 : nI t < (30 : Int32) := nI_lt (b := 30) (by omega) (by decide)
    have hst := FM_st (t := t + 1) ws.fm (by omega)
    have hst0 := FM_st (t := t) ws.fm (by omega)
    have hs30 : STn (N v 0) (N v 1) (t + 1) ≤ TOT v := STn_le (by omega)
    have hs1 : STn (N v 0) (N v 1) (t + 1) = STn (N v 0) (N v 1) t + (N v 0 + N v 1 * t) := rfl
    have ef : f_X5_firstOf 2 (nI t) h = nI (STn (N v 0) (N v 1) t) := c_firstOf (ws.ge ki.1.1) (by omega)
    have en : f_X5_framesOf 2 (nI t) h = nI (N v 0 + N v 1 * t) := c_framesOf (ws.ge ki.1.1)
    have mf : ∀ g : HP, E6 (g 71) v → f_X11_start (nI t) g = nI (STn (N v 0) (N v 1) t) := fun g eg => by
      rw [m_start, c_firstOf (eg.ge ws) (by omega)]
    have mn : ∀ g : HP, E6 (g 71) v → f_X11_framesOf (nI t) g = nI (N v 0 + N v 1 * t) := fun g eg => by
      rw [m_framesOf, c_framesOf (eg.ge ws)]
    by_cases n0 : y = 0
    · subst n0
      refine two_query (r := nI (N v 0 + N v 1 * t)) (h1 := h) ki mi wa ?_ ki.2.1 (fun _ _ => rfl) (fun g eg wg rg => ?_)
      · rw [f_X10_turn, if_neg c1, if_pos c2, if_pos rfl, en]
      · rw [f_X11_turn, et, if_neg (show ¬ (1 : Int32) = 0 by decide), show f_X11_in (0 : Int32) (0 : Int32) (3 : Int32) g = 1 from rfl, if_neg (show ¬ (1 : Int32) = 0 by decide)]
        refine m_q wf eg (fun q eq mb fq => ?_)
        refine (ob_e (m_turn_L42' (n := 999999) (w := 0) (by decide))).trans ?_
        rw [if_pos rfl, mn q (eq ▸ eg)]
    by_cases n1 : y = 1
    · subst n1
      refine two_query (r := nI (STn (N v 0) (N v 1) t)) (h1 := h) ki mi wa ?_ ki.2.1 (fun _ _ => rfl) (fun g eg wg rg => ?_)
      · rw [f_X10_turn, if_neg c1, if_pos c2, if_neg n0, if_pos rfl, ef]
      · rw [f_X11_turn, et, if_neg (show ¬ (1 : Int32) = 0 by decide), show f_X11_in (1 : Int32) (0 : Int32) (3 : Int32) g = 1 from rfl, if_neg (show ¬ (1 : Int32) = 0 by decide)]
        refine m_q wf eg (fun q eq mb fq => ?_)
        refine (ob_e (m_turn_L42' (n := 999999) (w := 1) (by decide))).trans ?_
        rw [if_neg n0, if_pos rfl, mf q (eq ▸ eg)]
    by_cases n2 : y = 2
    · subst n2
      obtain ⟨h1, o1, o2, o3⟩ := c_of ws wc ki.1.1 ki.1.2.2.1 ki.2.1
      have ma := MS_all wc o2.2.1
      refine two_query (r := nI (cnt (fun i => lyV v (-5) (STn (N v 0) (N v 1) t + i)) (STn (N v 0) (N v 1) (t + 1) - STn (N v 0) (N v 1) t))) (h1 := h1) ki mi wa ?_ ⟨v, ws, wc, o2⟩ (fun o ho => o3 o (by omega)) (fun g eg wg rg => ?_)
      · have l := damagedIn_rng (b := lyV v (-5)) (m := (-1 : Int32)) (h := h1) (a := STn (N v 0) (N v 1) t) hst (fun f h1 h2 => by
          have := ma f (by omega)
          rw [this]
          show (decide (f < TOT v) && lyV v (-5) f) = false ↔ _
          rw [decide_eq_true (by omega), Bool.true_and]) (STn (N v 0) (N v 1) (t + 1) - STn (N v 0) (N v 1) t) FU 0 (by omega) (Nat.lt_of_le_of_lt (show STn (N v 0) (N v 1) (t + 1) - STn (N v 0) (N v 1) t ≤ 3810 by omega) (by decide))
        have jm : jmax (nI (STn (N v 0) (N v 1) t)) (0 : Int32) = nI (STn (N v 0) (N v 1) t) := by
          rw [← nI_0, jmax_n (by omega) (by decide), Nat.max_eq_left (by omega)]
        have ed : f_X7_damagedIn (nI (STn (N v 0) (N v 1) t)) (nI (STn (N v 0) (N v 1) (t + 1))) (-1 : Int32) h1 = some (nI (cnt (fun i => lyV v (-5) (STn (N v 0) (N v 1) t + i)) (STn (N v 0) (N v 1) (t + 1) - STn (N v 0) (N v 1) t))) := by
          rw [f_X7_damagedIn, jm]
          exact ob_e (k := fun r => some r) l
        rw [f_X10_turn, if_neg c1, if_pos c2, if_neg n0, if_neg n1, if_pos rfl, ef, en, nI_add, ← hs1, ob_e o1, ob_e ed]
      · rw [f_X11_turn, et, if_neg (show ¬ (1 : Int32) = 0 by decide), show f_X11_in (2 : Int32) (0 : Int32) (3 : Int32) g = 1 from rfl, if_neg (show ¬ (1 : Int32) = 0 by decide)]
        refine m_q wf eg (fun q eq mb fq => ?_)
        have mb : MB (q 71) (lyV v (-5)) q := by rw [eq]; exact mb
        have l := m_turn_L42 (w := 2) wf (eq ▸ eg) mb ht (Or.inl rfl) (STn (N v 0) (N v 1) (t + 1) - STn (N v 0) (N v 1) t) FU 0 (by omega) (Nat.lt_of_le_of_lt (show STn (N v 0) (N v 1) (t + 1) - STn (N v 0) (N v 1) t ≤ 3810 by omega) (by decide))
        rw [mf q (eq ▸ eg)]
        refine (ob_e l).trans ?_
        rw [if_neg n0, if_neg n1, if_pos rfl]
    by_cases n3 : y = 3
    · subst n3
      refine two_query (r := nI (lenF v (STn (N v 0) (N v 1) t) (STn (N v 0) (N v 1) (t + 1) - STn (N v 0) (N v 1) t))) (h1 := h) ki mi wa ?_ ki.2.1 (fun _ _ => rfl) (fun g eg wg rg => ?_)
      · have l := c_lenAll (a := STn (N v 0) (N v 1) t) wf ki.1 hst (STn (N v 0) (N v 1) (t + 1) - STn (N v 0) (N v 1) t) FU 0 (by omega) (Nat.lt_of_le_of_lt (show STn (N v 0) (N v 1) (t + 1) - STn (N v 0) (N v 1) t ≤ 3810 by omega) (by decide))
        have ed : f_X8_lengthOfAll 5 (nI (STn (N v 0) (N v 1) t)) (nI (STn (N v 0) (N v 1) (t + 1))) h = some (nI (lenF v (STn (N v 0) (N v 1) t) (STn (N v 0) (N v 1) (t + 1) - STn (N v 0) (N v 1) t))) := by
          rw [f_X8_lengthOfAll]
          exact ob_e (k := fun r => some r) l
        rw [f_X10_turn, if_neg c1, if_pos c2, if_neg n0, if_neg n1, if_neg n2, if_pos rfl, ef, en, nI_add, ← hs1, ob_e ed]
      · rw [f_X11_turn, et, if_neg (show ¬ (1 : Int32) = 0 by decide), show f_X11_in (3 : Int32) (0 : Int32) (3 : Int32) g = 1 from rfl, if_neg (show ¬ (1 : Int32) = 0 by decide)]
        refine m_q wf eg (fun q eq mb fq => ?_)
        have mb : MB (q 71) (lyV v (-5)) q := by rw [eq]; exact mb
        have l := m_turn_L42 (w := 3) wf (eq ▸ eg) mb ht (Or.inr rfl) (STn (N v 0) (N v 1) (t + 1) - STn (N v 0) (N v 1) t) FU 0 (by omega) (Nat.lt_of_le_of_lt (show STn (N v 0) (N v 1) (t + 1) - STn (N v 0) (N v 1) t ≤ 3810 by omega) (by decide))
        rw [if_pos rfl] at l
        rw [mf q (eq ▸ eg)]
        refine (ob_e l).trans ?_
        rw [if_neg n0, if_neg n1, if_neg n2, if_pos rfl]
    refine two_query (r := (-2 : Int32)) (h1 := h) ki mi wa ?_ ki.2.1 (fun _ _ => rfl) (fun g eg wg rg => ⟨g, ?_, eg, fun _ _ _ _ => rfl⟩)
    · rw [f_X10_turn, if_neg c1, if_pos c2, if_neg n0, if_neg n1, if_neg n2, if_neg n3]
    · rcases in_n (x := y) (a := 0) (b := 3) (by decide) (by decide) with ⟨w, _, hw, rfl, ey⟩ | ⟨_, ey⟩
      · have : w = 0 ∨ w = 1 ∨ w = 2 ∨ w = 3 := by omega
        rcases this with q | q | q | q <;> subst q
        · exact absurd rfl n0
        · exact absurd rfl n1
        · exact absurd rfl n2
        · exact absurd rfl n3
      · have ey : ∀ h, f_X11_in y (0 : Int32) (3 : Int32) h = 0 := ey
        rw [f_X11_turn, et, if_neg (by decide), ey, if_pos rfl]
  · have et : ∀ h, f_X11_in x (0 : Int32) (29 : Int32) h = 0 := et
    refine two_query (r := (-1 : Int32)) (h1 := h) ki mi wa ?_ ki.2.1 (fun _ _ => rfl) (fun g eg wg rg => ⟨g, ?_, eg, fun _ _ _ _ => rfl⟩)
    · rw [f_X10_turn]
      by_cases q : x < 0
      · rw [if_pos q]
      · obtain ⟨j, hj, rfl⟩ := nI_of q
        rw [if_neg q, if_neg (show ¬ nI j < (30 : Int32) from nI_nlt (a := j) (b := 30) (Nat.lt_of_not_le fun e => hno ⟨j, by omega, e, rfl⟩) hj)]
    · rw [f_X11_turn, et, if_pos rfl]
