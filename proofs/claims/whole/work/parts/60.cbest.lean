/-! the call bestGuess -/
theorem tK_le {T : Nat} {v : Nat → Int32} {f g : Nat} (wf : WF T v) (hf : f < TOT v) (g1 : 60 ≤ g) (g2 : g ≤ 140) : N v 8 ≤ tK v g f ∧ tK v g f ≤ N v 8 + 10000 := by
  have ws := wf.1
  have wh := wf.2.1
  have hfm := FM_tot ws.fm
  have p3 : TOT v ≤ 3810 := hfm.2.1
  exact (sk_B (m := N v 2) (f := N v 3) (k := N v 8) (j := N v 11) (x := f) (g := g) ws.fm g1 g2 ws.2.2.2.2.2.2.1 wh.2.1.1 wh.2.1.2.1 wh.1.2.1 (by omega)).2.1
def bgB (v : Nat → Int32) (f : Nat) : Nat → Nat × Nat
  | 0 => (60, tK v 60 f - N v 8)
  | i + 1 => if (bgB v f i).2 ≤ tK v (61 + i) f - N v 8 then bgB v f i else (61 + i, tK v (61 + i) f - N v 8)
theorem bgB_le {T : Nat} {v : Nat → Int32} {f : Nat} (wf : WF T v) (hf : f < TOT v) : ∀ i, i ≤ 80 → (bgB v f i).1 ≤ 60 + i ∧ (bgB v f i).2 ≤ 10000 := by
  intro i
  induction i with
  | zero =>
    intro _
    have := tK_le (g := 60) wf hf (by decide) (by decide)
    rw [bgB]
    exact ⟨Nat.le_refl _, by show tK v 60 f - N v 8 ≤ 10000; omega⟩
  | succ i ih =>
    intro hi
    have := tK_le (g := 61 + i) wf hf (by omega) (by omega)
    have := ih (by omega)
    rw [bgB]
    split
    · omega
    · exact ⟨by show 61 + i ≤ _; omega, by show tK v (61 + i) f - N v 8 ≤ 10000; omega⟩
theorem c_bg_L31 {T : Nat} {v : Nat → Int32} {f : Nat} (wf : WF T v) (hf : f < TOT v) : ∀ d n i h, i + d = 80 → d < n → R h 1 v → ∃ h', f_X10_bestGuess_L31 n (nI f) (nI (bgB v f i).1) (nI (bgB v f i).2) (nI (61 + i)) h = some (nI (bgB v f 80).1, h') ∧ ∀ o, o ≠ 69 → h' o = h o := by
  intro d
  induction d with
  | zero =>
    intro n i h hi hn r
    obtain ⟨n, rfl⟩ : ∃ n', n = n' + 1 := ⟨n - 1, by omega⟩
    have : i = 80 := by omega
    subst this
    rw [f_X10_bestGuess_L31, if_pos (by decide)]
    exact ⟨h, rfl, fun _ _ => rfl⟩
  | succ d ih =>
    intro n i h hi hn r
    obtain ⟨n, rfl⟩ : ∃ n', n = n' + 1 := ⟨n - 1, by omega⟩
    obtain ⟨h1, a1, a2, a3⟩ := c_try (g := 61 + i) wf r hf (by omega) (by omega)
    have hk := tK_le (g := 61 + i) wf hf (by omega) (by omega)
    have hb := bgB_le wf hf i (by omega)
    obtain ⟨h2, b1, b2⟩ := ih n (i + 1) h1 (by omega) (by omega) (r.of (fun a h1 h2 => a3 a (by omega)))
    refine ⟨h2, ?_, fun o ho => (b2 o ho).trans (a3 o ho)⟩
    rw [f_X10_bestGuess_L31, if_neg (show ¬ (140 : Int32) < nI (61 + i) from nI_nlt (a := 140) (by omega) (by decide))]
    refine (ob_e a1).trans ?_
    rw [← b1, bgB]
    show f_X10_bestGuess_L31 n (nI f) (if nI (bgB v f i).2 ≤ nI (tK v (61 + i) f - N v 8) then nI (bgB v f i).1 else nI (61 + i)) (if nI (bgB v f i).2 ≤ nI (tK v (61 + i) f - N v 8) then nI (bgB v f i).2 else nI (tK v (61 + i) f - N v 8)) (nI (61 + i) + 1) h1 = _
    rw [nI_1, Nat.add_assoc]
    by_cases q : (bgB v f i).2 ≤ tK v (61 + i) f - N v 8
    · rw [if_pos (nI_le q (by omega)), if_pos (nI_le q (by omega)), if_pos q]
    · rw [if_neg (nI_ge (by omega) (by omega)), if_neg (nI_ge (by omega) (by omega)), if_neg q]
/-- one guess tried by the model -/
theorem m_bg1 {T : Nat} {v : Nat → Int32} {f g : Nat} {h : HP} (wf : WF T v) (hf : f < TOT v) (g1 : 60 ≤ g) (g2 : g ≤ 140) (e1 : E6 (h 71) v) (e2 : E6 (h 72) v) : ∃ h1 h2, f_X11_seeks (nI f) (hset h 71 4 (nI g)) = some (nI (tK v g f - N v 8), h1) ∧ f_X11_putBack h1 = some h2 ∧ E6 (h2 71) v ∧ ∀ o, o ≠ 71 → h2 o = h o := by
  have ws := wf.1
  have wh := wf.2.1
  have z : ∀ i lo hi, i < 166 → i ≠ 4 → isN v i lo hi → up (h 71) 4 (nI g) i = nI (N v i) := fun i lo hi h h4 q => (up_o h4).trans ((e1 i h).trans q.2.2)
  have se : SE (N v 0) (N v 1) (N v 2) (N v 3) (up (h 71) 4 (nI g)) := ⟨z 0 _ _ (by decide) (by decide) ws.1, z 1 _ _ (by decide) (by decide) ws.2.1, z 2 _ _ (by decide) (by decide) ws.2.2.1, z 3 _ _ (by decide) (by decide) ws.2.2.2.1⟩
  have w71 : hset h 71 4 (nI g) 71 = mw (up (h 71) 4 (nI g)) (N v 6) (N v 7) (N v 8) (N v 11) := by
    rw [hset_sR, sR_s]
    exact (mw_id (z 6 _ _ (by decide) (by decide) wh.1) (z 7 _ _ (by decide) (by decide) wh.2.1) (z 8 _ _ (by decide) (by decide) wh.2.2.1) (z 11 _ _ (by decide) (by decide) wh.2.2.2.2.2)).symm
  have ms := m_seeks (x := f) (h := hset h 71 4 (nI g)) ws.sb ws.2.2.2.2.2.2.1 g1 g2 se (z 5 _ _ (by decide) (by decide) ws.2.2.2.2.2) up_s w71 wh.2.1.1 wh.2.1.2.1 wh.1.2.1 hf
  refine ⟨_, _, ms, m_putBack _, ?_, fun o ho => ?_⟩
  · rw [sR_s, sR_o (by decide), hset_sR, sR_o (by decide)]
    exact cpR_e.trans e2
  · rw [sR_o ho, sR_o ho, hset_sR, sR_o ho]
theorem m_bg_L23 {T : Nat} {v : Nat → Int32} {f : Nat} (wf : WF T v) (hf : f < TOT v) : ∀ d n i h, i + d = 80 → d < n → E6 (h 71) v → E6 (h 72) v → ∃ h', f_X11_bestGuess_L23 n (nI f) (nI (bgB v f i).1) (nI (bgB v f i).2) (nI (61 + i)) h = some (nI (bgB v f 80).1, h') ∧ E6 (h' 71) v ∧ ∀ o, o ≠ 71 → h' o = h o := by
  intro d
  induction d with
  | zero =>
    intro n i h hi hn e1 e2
    obtain ⟨n, rfl⟩ : ∃ n', n = n' + 1 := ⟨n - 1, by omega⟩
    have : i = 80 := by omega
    subst this
    rw [f_X11_bestGuess_L23, if_pos (by decide)]
    exact ⟨h, rfl, e1, fun _ _ => rfl⟩
  | succ d ih =>
    intro n i h hi hn e1 e2
    obtain ⟨n, rfl⟩ : ∃ n', n = n' + 1 := ⟨n - 1, by omega⟩
    obtain ⟨h1, h2, a1, a2, a3, a4⟩ := m_bg1 (g := 61 + i) wf hf (by omega) (by omega) e1 e2
    have hk := tK_le (g := 61 + i) wf hf (by omega) (by omega)
    have hb := bgB_le wf hf i (by omega)
    obtain ⟨h3, b1, b2, b3⟩ := ih n (i + 1) h2 (by omega) (by omega) a3 (by rw [a4 72 (by decide)]; exact e2)
    refine ⟨h3, ?_, b2, fun o ho => (b3 o ho).trans (a4 o ho)⟩
    have ne5 : ¬ nI (bgB v f i).1 = (-5 : Int32) := fun q => by
      have := nI_pos (n := (bgB v f i).1) (by omega)
      rw [q] at this
      exact this (by decide)
    rw [f_X11_bestGuess_L23, if_neg (show ¬ (140 : Int32) < nI (61 + i) from nI_nlt (a := 140) (by omega) (by decide)), tb_s]
    refine (ob_e a1).trans ?_
    dsimp only
    rw [if_neg ne5, ← b1, bgB, nI_1, Nat.add_assoc]
    by_cases q : (bgB v f i).2 ≤ tK v (61 + i) f - N v 8
    · have ne : ¬ nI (bgB v f i).1 = nI (61 + i) := fun e => by
        have := (nI_eq (by omega) (by omega)).mp e
        omega
      rw [if_pos (nI_le q (by omega)), tb_s, if_neg ne, if_pos q]
      exact ob_e a2
    · rw [if_neg (nI_ge (by omega) (by omega)), tb_s, if_pos rfl, if_neg q]
      exact ob_e a2
theorem two_bestGuess {T : Nat} {h : HP} {x : Int32} (inv : Inv T h) : Two T h (f_X10_bestGuess x) (f_X11_bestGuess x) := by
  obtain ⟨v, n, H, kb, kv, L, tx, ki, mi, wa⟩ := inv
  have wf := wa.1
  have ws := wf.1
  by_cases hx : ∃ f, f < TOT v ∧ x = nI f
  · obtain ⟨f, hf, rfl⟩ := hx
    obtain ⟨h1, a1, a2, a3⟩ := c_try (g := 60) wf ki.1 hf (by decide) (by decide)
    obtain ⟨h2, b1, b2⟩ := c_bg_L31 wf hf 80 FU 0 h1 rfl (by decide) (ki.1.of (fun a h1 h2 => a3 a (by omega)))
    refine two_query (r := nI (bgB v f 80).1) (h1 := h2) ki mi wa ?_ (ki.2.1.of (fun o h1 h2 => by rw [b2 o (by omega), a3 o (by omega)])) (fun o ho => by rw [b2 o (by omega), a3 o (by omega)]) (fun g eg wg rg => ?_)
    · rw [f_X10_bestGuess, c_hasFrame_y (ws.ge ki.1.1) ws.fm hf, if_neg (by decide)]
      refine (ob_e a1).trans ?_
      refine (ob_e b1).trans ?_
      rfl
    · have e72 : E6 (aS g 72) v := by
        unfold aS
        rw [sR_s]
        exact cpR_e.trans eg
      obtain ⟨g1, g2, c1, c2, c3, c4⟩ := m_bg1 (g := 60) (h := aS g) wf hf (by decide) (by decide) (by rw [aS_71]; exact eg) e72
      obtain ⟨g3, d1, d2, d3⟩ := m_bg_L23 wf hf 80 999999 0 g2 rfl (by decide) c3 (by rw [c4 72 (by decide)]; exact e72)
      refine ⟨g3, ?_, d2, fun o h1 h2 _ => ?_⟩
      · rw [f_X11_bestGuess, m_has eg ws hf, if_neg (by decide), ob_e (m_putAside g)]
        have key : f_X11_bestGuess_L23 (999999 + 1) (nI f) (-5 : Int32) (0 : Int32) (60 : Int32) (aS g) = some (nI (bgB v f 80).1, g3) := by
          rw [f_X11_bestGuess_L23, if_neg (by decide), tb_s]
          refine (ob_e c1).trans ?_
          dsimp only
          rw [if_pos rfl, tb_s, if_pos rfl]
          refine (ob_e c2).trans ?_
          exact d1
        exact (ob_e key).trans rfl
      · rw [d3 o h1, c4 o h1]
        exact sR_o h2
  · refine two_query (r := (-1 : Int32)) (h1 := h) ki mi wa ?_ ki.2.1 (fun _ _ => rfl) (fun g eg wg rg => ⟨g, ?_, eg, fun _ _ _ _ => rfl⟩)
    · rw [f_X10_bestGuess, c_hasNo (ws.ge ki.1.1) ws.fm hx, if_pos rfl]
    · rw [f_X11_bestGuess, m_hasNo eg ws hx, if_pos rfl]
