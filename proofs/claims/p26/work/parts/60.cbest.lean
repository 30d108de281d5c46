/-! the call bestGuess -/
theorem tK_le {T : Nat} {v : Nat → Int32} {f g : Nat} (wf : WF T v) (hf : f < TOT v) (g1 : 60 ≤ g) (g2 : g ≤ 140) : N v 8 ≤ tK v g f ∧ tK v g f ≤ N v 8 + 10000 := by
  have ws := wf.1
  have wh := wf.2.1
  have hfm := FM_tot ws.fm
  have p3 : TOT v ≤ 3810 := hfm.2.1
  exact (sk_B (m := N v 2) (f := N v 3) (k := N v 8) (j := N v 11) (x := f) (g := g) ws.fm g1 g2 ws.2.2.2.2.2.2.1 wh.2.1.1 wh.2.1.2.1 wh.1.2.1 (by omega)).2.1
def bgB (v : Nat → Int32) (f : Nat) : Nat → Nat × Nat
  | 0 => (60, tK v 60 f - N v 8)
  | i + 1 => if (bgB v f i).2 ≤ tK v (61 + i) f - N v 8 then bgB v f i else (61 + i, tK v (61 + i) f - N v 8)
theorem bgB_le {T : Nat} {v : Nat → Int32} {f : Nat} (wf : WF T v) (hf : f < TOT v) : ∀ i, i ≤ 80 → (bgB v f i).1 ≤ 60 + i ∧ (bgB v f i).2 ≤ 10000 := by
  intro i
  induction i with
  | zero =>
    intro _
    have := tK_le (g := 60) wf hf (by decide) (by decide)
    rw [bgB]
    exact ⟨Nat.le_refl _, by show tK v 60 f - N v 8 ≤ 10000; omega⟩
  | succ i ih =>
    intro hi
    have := tK_le (g := 61 + i) wf hf (by omega) (by omega)
    have := ih (by omega)
    rw [bgB]
    split
    · omega
    · exact ⟨by show 61 + i ≤ _; omega, by show tK v (61 + i) f - N v 8 ≤ 10000; omega⟩
theorem c_bg_L31 {T : Nat} {v : Nat → Int32} {f : Nat} (wf : WF T v) (hf : f < TOT v) : ∀ d n i h, i + d = 80 → d < n → R h 1 v → ∃ h', f_X10_bestGuess_L31 n (nI f) (nI (bgB v f i).1) (nI (bgB v f i).2) (nI (61 + i)) h = some (nI (bgB v f 80).1, h') ∧ ∀ o, o ≠ 69 → h' o = h o := by
  intro d
  induction d with
  | zero =>
    intro n i h hi hn r
    obtain ⟨n, rfl⟩ : ∃ n', n = n' + 1 := ⟨n - 1, by omega⟩
    have : i = 80 := by omega
    subst this
    rw [f_X10_bestGuess_L31, if_pos (by decide)]
    exact ⟨h, rfl, fun _ _ => rfl⟩
  | succ d ih =>
    intro n i h hi hn r
    obtain ⟨n, rfl⟩ : ∃ n', n = n' + 1 := ⟨n - 1, by omega⟩
    obtain ⟨h1, a1, a2, a3⟩ := c_try (g := 61 + i) wf r hf (by omega) (by omega)
    have hk := tK_le (g := 61 + i) wf hf (by omega) (by omega)
    have hb := bgB_le wf hf i (by omega)
    obtain ⟨h2, b1, b2⟩ := ih n (i + 1) h1 (by omega) (by omega) (r.of (fun a h1 h2 => a3 a (by omega)))
    refine ⟨h2, ?_, fun o ho => (b2 o ho).trans (a3 o ho)⟩
    rw [f_X10_bestGuess_L31, if_neg (show ¬ (140 : Int32) < nI (61 + i) from nI_nlt (a := 140) (by omega) (by decide))]
    refine (ob_e a1).trans ?_
    rw [← b1, bgB]
    show f_X10_bestGuess_L31 n (nI f) (if nI (bgB v f i).2 ≤ nI (tK v (61 + i) f - N v 8) then nI (bgB v f i).1 else nI (61 + i)) (if nI (bgB v f i).2 ≤ nI (tK v (61 + i) f - N v 8) then nI (bgB v f i).2 else nI (tK v (61 + i) f - N v 8)) (nI (61 + i) + 1) h1 = _
    rw [nI_1, Nat.add_assoc]
    by_cases q : (bgB v f i).2 ≤ tK v (61 + i) f - N v 8
    · rw [if_pos (nI_le q (by omega)), if_pos (nI_le q (by omega)), if_pos q]
    · rw [if_neg (nI_ge (by omega) (by omega)), if_neg (nI_ge (by omega) (by omega)), if_neg q]
