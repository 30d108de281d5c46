/-! acts without the record: the class's half, the model's half, both -/
def COp (v v' : Nat → Int32) (r : Int32) (C : HP → Option (Int32 × HP)) : Prop := ∀ h, R h 1 v → SV h → ∃ h', C h = some (r, h') ∧ R h' 1 v' ∧ SV h' ∧ ∀ o, (o = 0 ∨ (9 ≤ o ∧ o ≤ 63) ∨ 69 ≤ o) → h' o = h o
def MOp (v v' : Nat → Int32) (r : Int32) (M : HP → Option (Int32 × HP)) : Prop := ∀ g, E6 (g 71) v → ∃ g', M g = some (r, g') ∧ E6 (g' 71) v' ∧ ∀ o, o ≠ 71 → o ≠ 76 → g' o = g o
def dmC (v : Nat → Int32) : Int32 := nI (cnt (lyV v (-5)) (TOT v))
def Op (b : Bool) (T : Nat) (v : Nat → Int32) (C M : HP → Option (Int32 × HP)) : Prop := ∃ r rm v', COp v v' r C ∧ MOp v v' rm M ∧ WF (T + 10000) v' ∧ ((¬ 0 ≤ r ∧ rm = r ∧ v' = v) ∨ (0 ≤ r ∧ 0 ≤ rm ∧ (b = true → rm = 0 ∧ r = dmC v') ∧ (b = false → rm = r)))
theorem MI.of6 {h h' : HP} {v kv tx : Nat → Int32} {n L : Nat} {H : Nat → Nat → Int32} {kb : Bool} (i : MI h v n H kb kv L tx) (e : ∀ o, 70 ≤ o → o ≠ 76 → h' o = h o) : MI h' v n H kb kv L tx := by
  unfold MI MH
  rw [e 70 (by decide) (by decide), e 71 (by decide) (by decide), e 73 (by decide) (by decide), e 74 (by decide) (by decide), e 75 (by decide) (by decide)]
  exact i
theorem two_act {T : Nat} {h : HP} {C M : HP → Option (Int32 × HP)} (inv : Inv T h) (op : ∀ v, WF T v → Op false T v C M) : Two T h (fun h => tb (f_X6_copyFrom 9 1 h) (fun q8 => ob (C q8) (fun q14 => ob (f_X10_recorded q14.1 q14.2) (fun q17 => some (q17.1, q17.2))))) (fun h => ob (f_X11_putAside h) (fun q1 => ob (M q1) (fun q7 => ob (f_X11_act q7.1 q7.2) (fun q10 => some (q10.1, q10.2))))) := by
  obtain ⟨v, n, H, kb, kv, L, tx, ki, mi, wa⟩ := inv
  have wf := wa.1
  have hn : n ≤ 4 := mi.2.1.1
  obtain ⟨r, rm, v', co, mo, wf', hr⟩ := op v wf
  have cp := c6_copy (o := 9) (p := 1) (h := h) (by omega) wf.2.2.1 wf.2.2.2 ki.1
  have r1 : R (f_X6_copyFrom 9 1 h) 1 v := ki.1.of (fun a h1 h2 => cp.2 a (by omega))
  have sv : SV (f_X6_copyFrom 9 1 h) := ki.2.1.of (fun a h1 h2 => cp.2 a (by omega))
  obtain ⟨c1, e1, e2, e3, e4⟩ := co _ r1 sv
  obtain ⟨h1, a1, a2, a3, a4⟩ := c_recd (r := r) (c1 := c1) ki wf (fun o ho => e4 o (by omega)) e3 e2
  have ec : tb (f_X6_copyFrom 9 1 h) (fun q8 => ob (C q8) (fun q14 => ob (f_X10_recorded q14.1 q14.2) (fun q17 => some (q17.1, q17.2)))) = some (r, h1) := by
    rw [tb_s, ob_e e1, ob_e a1]
  have em : ∀ g g1 g2, M (aS g) = some (r, g1) → f_X11_act r g1 = some (r, g2) → ob (f_X11_putAside g) (fun q1 => ob (M q1) (fun q7 => ob (f_X11_act q7.1 q7.2) (fun q10 => some (q10.1, q10.2)))) = some (r, g2) := by
    intro g g1 g2 h1 h2
    rw [ob_e (m_putAside g)]
    refine (ob_e h1).trans ?_
    exact ob_e h2
  rcases hr with ⟨hr0, hrm, hv⟩ | ⟨hr0, _, _, hrm⟩
  · subst hrm
    subst hv
    refine two_of (h1 := h1) mi ec (a3 hr0) a4 (fun g mg => ?_) (wa.mono (by omega))
    obtain ⟨g1, b1, b2, b3⟩ := mo (aS g) (by rw [aS_71]; exact mg.1)
    obtain ⟨g2, d1, d2, d3, d4, d5⟩ := m_recd (g := g1) mg (fun o h1 h2 => b3 o h1 h2) (fun _ => b2)
    exact ⟨g2, em g g1 g2 b1 d1, d3 hr0, d4⟩
  · have hrm := hrm rfl
    subst hrm
    refine two_of (h1 := h1) mi ec (a2 hr0) a4 (fun g mg => ?_) ((wa.mono (by omega)).push hn (wf'.mono (by omega)))
    obtain ⟨g1, b1, b2, b3⟩ := mo (aS g) (by rw [aS_71]; exact mg.1)
    obtain ⟨g2, d1, d2, d3, d4, d5⟩ := m_recd (g := g1) mg (fun o h1 h2 => b3 o h1 h2) (fun _ => b2)
    exact ⟨g2, em g g1 g2 b1 d1, (d2 hr0).1, d4⟩
theorem E6.dm {u v : Nat → Int32} (e : E6 u v) (c : WC v) : dmC u = dmC v := by
  unfold dmC
  rw [(e.lk c).tot, (e.lk c).ly]
theorem two_actD {T : Nat} {h : HP} {C M : HP → Option (Int32 × HP)} (inv : Inv T h) (op : ∀ v, WF T v → Op true T v C M) : Two T h (fun h => tb (f_X6_copyFrom 9 1 h) (fun q8 => ob (C q8) (fun q14 => ob (f_X10_recorded q14.1 q14.2) (fun q17 => some (q17.1, q17.2))))) (fun h => ob (f_X11_putAside h) (fun q1 => ob (M q1) (fun q7 => ob (f_X11_act q7.1 q7.2) (fun q10 => if 0 ≤ q10.1 then ob (f_X11_damaged q10.2) (fun q23 => some (q23.1, q23.2)) else some (q10.1, q10.2))))) := by
  obtain ⟨v, n, H, kb, kv, L, tx, ki, mi, wa⟩ := inv
  have wf := wa.1
  have hn : n ≤ 4 := mi.2.1.1
  obtain ⟨r, rm, v', co, mo, wf', hr⟩ := op v wf
  have cp := c6_copy (o := 9) (p := 1) (h := h) (by omega) wf.2.2.1 wf.2.2.2 ki.1
  have r1 : R (f_X6_copyFrom 9 1 h) 1 v := ki.1.of (fun a h1 h2 => cp.2 a (by omega))
  have sv : SV (f_X6_copyFrom 9 1 h) := ki.2.1.of (fun a h1 h2 => cp.2 a (by omega))
  obtain ⟨c1, e1, e2, e3, e4⟩ := co _ r1 sv
  obtain ⟨h1, a1, a2, a3, a4⟩ := c_recd (r := r) (c1 := c1) ki wf (fun o ho => e4 o (by omega)) e3 e2
  have ec : tb (f_X6_copyFrom 9 1 h) (fun q8 => ob (C q8) (fun q14 => ob (f_X10_recorded q14.1 q14.2) (fun q17 => some (q17.1, q17.2)))) = some (r, h1) := by
    rw [tb_s, ob_e e1, ob_e a1]
  rcases hr with ⟨hr0, hrm, hv⟩ | ⟨hr0, hrm0, hrm, _⟩
  · subst hrm
    subst hv
    refine two_of (h1 := h1) mi ec (a3 hr0) a4 (fun g mg => ?_) (wa.mono (by omega))
    obtain ⟨g1, b1, b2, b3⟩ := mo (aS g) (by rw [aS_71]; exact mg.1)
    obtain ⟨g2, d1, d2, d3, d4, d5⟩ := m_recd (g := g1) mg (fun o h1 h2 => b3 o h1 h2) (fun _ => b2)
    refine ⟨g2, ?_, d3 hr0, d4⟩
    show ob (f_X11_putAside g) _ = _
    rw [ob_e (m_putAside g)]
    refine (ob_e b1).trans ?_
    refine (ob_e d1).trans ?_
    exact if_neg hr0
  · obtain ⟨hm0, hrd⟩ := hrm rfl
    subst hm0
    refine two_of (h1 := h1) mi ec (a2 hr0) a4 (fun g mg => ?_) ((wa.mono (by omega)).push hn (wf'.mono (by omega)))
    obtain ⟨g1, b1, b2, b3⟩ := mo (aS g) (by rw [aS_71]; exact mg.1)
    obtain ⟨g2, d1, d2, d3, d4, d5⟩ := m_recd (g := g1) mg (fun o h1 h2 => b3 o h1 h2) (fun _ => b2)
    have e71 : E6 (g2 71) v' := by
      rw [(d2 hrm0).2]
      exact b2
    have w2 := e71.symm.wf wf'
    refine ⟨sR g2 76 (lyR (g2 71) (-5) (TOT (g2 71)) (g2 76)), ?_, (d2 hrm0).1.of6 (fun o _ h2 => sR_o h2), fun o ho => (sR_o (by omega)).trans (d4 o ho)⟩
    show ob (f_X11_putAside g) _ = _
    rw [ob_e (m_putAside g)]
    refine (ob_e b1).trans ?_
    refine (ob_e d1).trans ?_
    refine (if_pos hrm0).trans ?_
    refine (ob_e (m_damaged w2.1 w2.2.2.1 rfl)).trans ?_
    rw [hrd, ← e71.dm wf'.2.2.1]
    rfl
/-! frames there or not; rows with one cell changed -/
theorem c_hasNo {F M o : Nat} {h : HP} {x : Int32} (g : GE F M h o) (hF : FM F M) (hno : ¬ ∃ f, f < STn F M 30 ∧ x = nI f) : f_X5_hasFrame o x h = 0 := by
  rcases c_hasFrame g hF x with ⟨f, hf, e, _⟩ | ⟨_, e⟩
  · exact absurd ⟨f, hf, e⟩ hno
  · exact e
theorem E6.ge {v : Nat → Int32} {g : HP} (e : E6 (g 71) v) (w : WS v) : GE (N v 0) (N v 1) g 71 := ⟨(e 0 (by decide)).trans w.1.2.2, (e 1 (by decide)).trans w.2.1.2.2⟩
theorem m_has {v : Nat → Int32} {g : HP} {f : Nat} (e : E6 (g 71) v) (w : WS v) (hf : f < TOT v) : f_X11_isFrame (nI f) g = 1 := by
  rw [m_isFrame (e.ge w) w.fm]
  exact c_hasFrame_y (e.ge w) w.fm hf
theorem m_hasNo {v : Nat → Int32} {g : HP} {x : Int32} (e : E6 (g 71) v) (w : WS v) (hno : ¬ ∃ f, f < TOT v ∧ x = nI f) : f_X11_isFrame x g = 0 := by
  rw [m_isFrame (e.ge w) w.fm]
  exact c_hasNo (e.ge w) w.fm hno
theorem in_n {x : Int32} {a b : Nat} (ha : a < 2 ^ 31) (hb : b < 2 ^ 31) : (∃ j, a ≤ j ∧ j ≤ b ∧ x = nI j ∧ ∀ h, f_X11_in x (nI a) (nI b) h = 1) ∨ ((¬ ∃ j, a ≤ j ∧ j ≤ b ∧ x = nI j) ∧ ∀ h, f_X11_in x (nI a) (nI b) h = 0) := by
  unfold f_X11_in
  by_cases q : x < 0
  · refine Or.inr ⟨fun ⟨j, h1, h2, e⟩ => ?_, fun h => if_pos (Int32.lt_of_lt_of_le q (nI_pos' ha))⟩
    rw [e] at q
    exact nI_pos (by omega) q
  · obtain ⟨j, hj, rfl⟩ := nI_of q
    by_cases q1 : j < a
    · refine Or.inr ⟨fun ⟨i, h1, h2, e⟩ => ?_, fun h => if_pos (nI_lt q1 ha)⟩
      have := (nI_eq hj (by omega)).mp e
      omega
    · by_cases q2 : b < j
      · refine Or.inr ⟨fun ⟨i, h1, h2, e⟩ => ?_, fun h => by rw [if_neg (nI_nlt (by omega) (by omega)), if_pos (nI_lt q2 hj)]⟩
        have := (nI_eq hj (by omega)).mp e
        omega
      · exact Or.inl ⟨j, by omega, by omega, rfl, fun h => by rw [if_neg (nI_nlt (by omega) (by omega)), if_neg (nI_nlt (by omega) (by omega))]⟩
theorem N_up {u : Nat → Int32} {i k : Nat} {x : Int32} (h : k ≠ i) : N (up u i x) k = N u k := by
  unfold N
  rw [up_o h]
theorem isN.upk {u : Nat → Int32} {i k lo hi : Nat} {x : Int32} (h : k ≠ i) (q : isN u k lo hi) : isN (up u i x) k lo hi := by
  unfold isN at q ⊢
  rw [N_up h, up_o h]
  exact q
theorem TOT_up {u : Nat → Int32} {i : Nat} {x : Int32} (h : 1 < i) : TOT (up u i x) = TOT u := by
  unfold TOT
  rw [N_up (by omega), N_up (by omega)]
theorem WS.upk {u : Nat → Int32} {i : Nat} {x : Int32} (h : 5 < i) (w : WS u) : WS (up u i x) := ⟨w.1.upk (by omega), w.2.1.upk (by omega), w.2.2.1.upk (by omega), w.2.2.2.1.upk (by omega), w.2.2.2.2.1.upk (by omega), w.2.2.2.2.2.upk (by omega)⟩
theorem WC.upk {u : Nat → Int32} {i : Nat} {x : Int32} (h : i < 12 ∨ 45 ≤ i) (w : WC u) : WC (up u i x) := by
  have h8 := w.1.2.1
  refine ⟨w.1.upk (by omega), fun q hq => ?_⟩
  rw [N_up (by omega)] at hq
  obtain ⟨c0, c1, c2, c3⟩ := w.2 q hq
  rw [N_up (show 13 + 4 * q ≠ i by omega), N_up (show 13 + 4 * q + 2 ≠ i by omega)]
  exact ⟨c0.upk (by omega), c1.upk (by omega), c2.upk (by omega), c3.upk (by omega)⟩
theorem WP.upk {u : Nat → Int32} {i : Nat} {x : Int32} (h : i < 45) (w : WP u) : WP (up u i x) := by
  refine ⟨w.1.upk (by omega), fun q hq => ?_⟩
  rw [N_up (by omega)] at hq
  obtain ⟨c0, c1, c2, c3⟩ := w.2 q hq
  rw [N_up (show 46 + 3 * q ≠ i by omega)]
  exact ⟨c0.upk (by omega), c1, c2.upk (by omega), c3.upk (by omega)⟩
theorem isN_up {u : Nat → Int32} {k lo hi n : Nat} (hn : n < 2 ^ 31) (h1 : lo ≤ n) (h2 : n ≤ hi) : isN (up u k (nI n)) k lo hi := isN_of up_s hn h1 h2
theorem up_id {u : Nat → Int32} {k : Nat} {x : Int32} (h : u k = x) : up u k x = u := by
  funext i
  unfold up
  split
  · next e => rw [e, h]
  · rfl
/-- the class's head with one cell changed -/
theorem R.uph {h : HP} {u : Nat → Int32} {o i : Nat} {x : Int32} (hi : i < 6) (r : R h o u) : R (hset h (o + 7) i x) o (up u (6 + i) x) := by
  obtain ⟨rs, rh, rc, rp⟩ := r
  rw [hset_sR]
  refine ⟨fun k hk => ?_, fun k hk => ?_, ⟨?_, fun k hk => ?_⟩, ?_, fun k hk => ?_⟩
  · rw [sR_o (by omega), up_o (by omega)]
    exact rs k hk
  · rw [sR_s]
    by_cases q : k = i
    · subst q
      rw [up_s, up_s]
    · rw [up_o q, up_o (by omega)]
      exact rh k hk
  · rw [sR_o (by omega), up_o (by omega)]
    exact rc.1
  · rw [N_up (by omega)] at hk
    rw [sR_o (by omega), up_o (by omega)]
    exact rc.2 k hk
  · rw [sR_o (by omega), up_o (by omega)]
    exact rp.1
  · rw [N_up (by omega)] at hk
    rw [sR_o (by omega), sR_o (by omega), up_o (by omega), up_o (by omega), up_o (by omega)]
    exact rp.2 k hk
theorem WF.head2 {T T' : Nat} {v : Nat → Int32} {p s k j : Nat} (w : WF T v) (hTT : T ≤ T') (hT : T' < 2 ^ 31) (hp : p ≤ TOT v) (s1 : 8 ≤ s) (s2 : s ≤ 214) (hk : k ≤ T') (hj : j ≤ T') : WF T' (mw v p s k j) := by
  obtain ⟨ws, wh, wc, wp⟩ := w
  have hT2 := FM_tot ws.fm
  have hT3 : TOT v ≤ 3810 := hT2.2.1
  unfold mw
  refine ⟨(((ws.upk (by omega)).upk (by omega)).upk (by omega)).upk (by omega), ?_, (((wc.upk (by omega)).upk (by omega)).upk (by omega)).upk (by omega), (((wp.upk (by omega)).upk (by omega)).upk (by omega)).upk (by omega)⟩
  unfold WH
  rw [TOT_up (by omega), TOT_up (by omega), TOT_up (by omega), TOT_up (by omega)]
  exact ⟨(((isN_up (by omega) (by omega) hp).upk (by omega)).upk (by omega)).upk (by omega), ((isN_up (by omega) s1 s2).upk (by omega)).upk (by omega), (isN_up (by omega) (by omega) hk).upk (by omega), ((((wh.2.2.2.1.mono hTT).upk (by omega)).upk (by omega)).upk (by omega)).upk (by omega), ((((wh.2.2.2.2.1.mono hTT).upk (by omega)).upk (by omega)).upk (by omega)).upk (by omega), isN_up (by omega) (by omega) hj⟩
