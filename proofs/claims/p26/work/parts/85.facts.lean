/-! facts of the row: the head's bounds, plays one behind the other, the best guess, a scratch away, counts -/
theorem N_ups {u : Nat → Int32} {k n : Nat} (hn : n < 2 ^ 31) : N (up u k (nI n)) k = n := by
  rw [N, up_s, nI_clamp hn]
theorem mul29 {M t : Nat} (ht : t ≤ 29) : M * t ≤ 29 * M := by
  rw [Nat.mul_comm 29 M]
  exact Nat.mul_le_mul_left M ht
def PV (T : Nat) (v : Nat → Int32) : Prop := WF T v ∧ HB v
theorem pl_hb {F M m f T : Nat} {b : Nat → Bool} : ∀ i r c g p s k, F ≤ s → s ≤ F + 29 * M → (c ≤ (pl F M m f T b i r c g p s k).1 ∧ g ≤ (pl F M m f T b i r c g p s k).2.1 ∧ (pl F M m f T b i r c g p s k).2.1 + c ≤ (pl F M m f T b i r c g p s k).1 + g ∧ (pl F M m f T b i r c g p s k).1 + k ≤ (pl F M m f T b i r c g p s k).2.2.2.2 + c) ∧ F ≤ (pl F M m f T b i r c g p s k).2.2.2.1 ∧ (pl F M m f T b i r c g p s k).2.2.2.1 ≤ F + 29 * M := by
  intro i
  induction i with
  | zero =>
    intro r c g p s k h1 h2
    exact ⟨⟨Nat.le_refl _, Nat.le_refl _, by show g + c ≤ c + g; omega, by show c + k ≤ k + c; omega⟩, h1, h2⟩
  | succ i ih =>
    intro r c g p s k h1 h2
    have h5 := spN_rng (m := m) (c := 1) (s := s) (show F ≤ F + M * TU F M p by omega) (show F + M * TU F M p ≤ F + 29 * M by have := mul29 (M := M) (TU_le (F := F) (M := M) (f := p)); omega) h1 h2
    rw [pl]
    by_cases q1 : r = 0 ∨ T ≤ p
    · rw [if_pos q1]
      exact ⟨⟨Nat.le_refl _, Nat.le_refl _, by show g + c ≤ c + g; omega, by show c + k ≤ k + c; omega⟩, h1, h2⟩
    · rw [if_neg q1]
      by_cases q2 : dN (F + M * TU F M p) (spN m (F + M * TU F M p) 1 s) ≤ f
      · rw [if_pos q2]
        have hb := Bool.toNat_le (!(b p))
        have := ih (r - 1) (c + 1) (g + (!(b p)).toNat) (p + 1) (spN m (F + M * TU F M p) 1 s) (k + 1) h5.1 h5.2
        exact ⟨⟨by omega, by omega, by omega, by omega⟩, this.2⟩
      · rw [if_neg q2]
        have := ih r c g p (spN m (F + M * TU F M p) 1 s) (k + 1) h5.1 h5.2
        exact ⟨⟨by omega, by omega, by omega, by omega⟩, this.2⟩
theorem mw_n7 {v : Nat → Int32} {p s k j : Nat} (h : s < 2 ^ 31) : N (mw v p s k j) 7 = s := by rw [N, mw_7, nI_clamp h]
theorem mw_n8 {v : Nat → Int32} {p s k j : Nat} (h : k < 2 ^ 31) : N (mw v p s k j) 8 = k := by rw [N, mw_8, nI_clamp h]
theorem mw_n6 {v : Nat → Int32} {p s k j : Nat} (h : p < 2 ^ 31) : N (mw v p s k j) 6 = p := by rw [N, mw_6, nI_clamp h]
theorem mw_n11 {v : Nat → Int32} {p s k j : Nat} (h : j < 2 ^ 31) : N (mw v p s k j) 11 = j := by rw [N, mw_11, nI_clamp h]
theorem mw_no {v : Nat → Int32} {p s k j i : Nat} (h : i < 6 ∨ 11 < i ∨ i = 9 ∨ i = 10) : N (mw v p s k j) i = N v i := N_eq (mw_o h)
theorem pl_B {T : Nat} {v : Nat → Int32} {X : Nat} (wf : WF T v) : (8 ≤ (plP v X).2.2.2.1 ∧ (plP v X).2.2.2.1 ≤ 214) ∧ (plP v X).2.2.1 ≤ TOT v ∧ (N v 8 ≤ (plP v X).2.2.2.2 ∧ (plP v X).2.2.2.2 ≤ N v 8 + 8000) ∧ (0 ≤ (plP v X).1 ∧ (plP v X).1 ≤ 0 + 8000) ∧ (plP v X).2.1 ≤ (plP v X).1 := pl_rng (f := N v 3) (b := fun f => decide (f < TOT v) && lyV v (-5) f) wf.1.fm wf.1.sb.2.1 8000 X 0 0 (N v 6) (N v 7) (N v 8) wf.2.1.2.1.1 wf.2.1.2.1.2.1 wf.2.1.1.2.1 (Nat.le_refl _)
theorem plW_n {T : Nat} {v : Nat → Int32} {X : Nat} (hT : T + 10000 < 2 ^ 31) (wf : WF T v) : N (plW v X) 6 = (plP v X).2.2.1 ∧ N (plW v X) 7 = (plP v X).2.2.2.1 ∧ N (plW v X) 8 = (plP v X).2.2.2.2 ∧ N (plW v X) 9 = N v 9 + (plP v X).1 ∧ N (plW v X) 10 = N v 10 + (plP v X).2.1 ∧ ∀ i, i < 6 ∨ 11 < i → plW v X i = v i := by
  have B := pl_B (X := X) wf
  have wh := wf.2.1
  have h3 := wf.t3
  have k0 := wh.2.2.1.2.1
  have r0 := wh.2.2.2.1.2.1
  have w0 := wh.2.2.2.2.1.2.1
  unfold plW
  refine ⟨?_, ?_, ?_, ?_, ?_, fun i hi => ?_⟩
  · rw [N_up (by decide), N_up (by decide), mw_n6 (by omega)]
  · rw [N_up (by decide), N_up (by decide), mw_n7 (by omega)]
  · rw [N_up (by decide), N_up (by decide), mw_n8 (by omega)]
  · rw [N_up (by decide), N_ups (by omega)]
  · rw [N_ups (by omega)]
  · rw [up_o (by omega), up_o (by omega), mw_o (by omega)]
theorem plW_hb {T : Nat} {v : Nat → Int32} {X : Nat} (hT : T + 10000 < 2 ^ 31) (wf : WF T v) (b : HB v) : HB (plW v X) := by
  have n := plW_n (X := X) hT wf
  have P := pl_hb (m := N v 2) (f := N v 3) (T := TOT v) (b := fun f => decide (f < TOT v) && lyV v (-5) f) 8000 X 0 0 (N v 6) (N v 7) (N v 8) b.2.2.1 b.2.2.2
  have eP : plP v X = pl (N v 0) (N v 1) (N v 2) (N v 3) (TOT v) (fun f => decide (f < TOT v) && lyV v (-5) f) 8000 X 0 0 (N v 6) (N v 7) (N v 8) := rfl
  rw [← eP] at P
  unfold HB at b ⊢
  rw [n.2.1, n.2.2.1, n.2.2.2.1, n.2.2.2.2.1, N_eq (n.2.2.2.2.2 0 (by decide)), N_eq (n.2.2.2.2.2 1 (by decide))]
  omega
theorem jl_sp {F M m jc g tg : Nat} : ∀ i t p s k j, F ≤ s → s ≤ F + 29 * M → F ≤ (jl F M m jc g tg i t p s k j).2.1 ∧ (jl F M m jc g tg i t p s k j).2.1 ≤ F + 29 * M := by
  intro i
  induction i with
  | zero => intro t p s k j h1 h2; exact ⟨h1, h2⟩
  | succ i ih =>
    intro t p s k j h1 h2
    have h5 := spN_rng (m := m) (c := jc + dN (jt t g tg) t) (s := s) (show F ≤ F + M * jt t g tg by omega) (show F + M * jt t g tg ≤ F + 29 * M by have := mul29 (M := M) (jt_le (t := t) (g := g) (tg := tg)); omega) h1 h2
    rw [jl]
    split
    · exact ⟨h1, h2⟩
    · exact ih _ _ _ _ _ h5.1 h5.2
theorem tS_sp {v : Nat → Int32} {f g : Nat} (h1 : N v 0 ≤ N v 7) (h2 : N v 7 ≤ N v 0 + 29 * N v 1) : N v 0 ≤ tS v g f ∧ tS v g f ≤ N v 0 + 29 * N v 1 := by
  have j := jl_sp (F := N v 0) (M := N v 1) (m := N v 2) (jc := N v 5) (g := g) (tg := TU (N v 0) (N v 1) f) 31 (TU (N v 0) (N v 1) (N v 6)) (N v 6) (N v 7) (N v 8) (N v 11) h1 h2
  exact (nl_rng (m := N v 2) (f := N v 3) (show N v 0 ≤ N v 0 + N v 1 * TU (N v 0) (N v 1) f by omega) (show N v 0 + N v 1 * TU (N v 0) (N v 1) f ≤ N v 0 + 29 * N v 1 by have := mul29 (M := N v 1) (TU_le (F := N v 0) (M := N v 1) (f := f)); omega) 300 _ _ j.1 j.2).1
theorem skW_n {T : Nat} {v : Nat → Int32} {f : Nat} (hT : T + 10000 < 2 ^ 31) (wf : WF T v) (hf : f < TOT v) : N (skW v f) 6 = f ∧ N (skW v f) 7 = tS v (N v 4) f ∧ N (skW v f) 8 = tK v (N v 4) f ∧ N (skW v f) 11 = tJ v (N v 4) f ∧ ∀ i, i < 6 ∨ 11 < i ∨ i = 9 ∨ i = 10 → skW v f i = v i := by
  have B := t_B wf hf wf.1.2.2.2.2.1.1 wf.1.2.2.2.2.1.2.1
  have wh := wf.2.1
  have h3 := wf.t3
  have k0 := wh.2.2.1.2.1
  have j0 := wh.2.2.2.2.2.2.1
  exact ⟨mw_n6 (by omega), mw_n7 (by omega), mw_n8 (by omega), mw_n11 (by omega), fun i hi => mw_o hi⟩
theorem skW_hb {T : Nat} {v : Nat → Int32} {f : Nat} (hT : T + 10000 < 2 ^ 31) (wf : WF T v) (b : HB v) (hf : f < TOT v) : HB (skW v f) := by
  have n := skW_n hT wf hf
  have B := t_B wf hf wf.1.2.2.2.2.1.1 wf.1.2.2.2.2.1.2.1
  have s := tS_sp (g := N v 4) (f := f) b.2.2.1 b.2.2.2
  unfold HB at b ⊢
  rw [n.2.1, n.2.2.1, N_eq (n.2.2.2.2 0 (by decide)), N_eq (n.2.2.2.2 1 (by decide)), N_eq (n.2.2.2.2 9 (by decide)), N_eq (n.2.2.2.2 10 (by decide))]
  omega
theorem stV_hb {T : Nat} {v : Nat → Int32} {w k : Nat} (wf : WF T v) (b : HB v) (hw : w ≤ 5) (h1 : sLo w ≤ k) (h2 : k ≤ sHi w) : HB (stV v w k) := by
  have ws' := wf.1.set hw h1 h2
  unfold stV
  by_cases q : 1 < w
  · rw [if_pos q]
    unfold HB
    rw [N_up (by omega), N_up (by omega), N_up (by omega), N_up (by omega), N_up (by omega), N_up (by omega)]
    exact b
  · rw [if_neg q]
    have e7 : N (up (up (up v w (nI k)) 6 0) 7 (up v w (nI k) 0)) 7 = N (up v w (nI k)) 0 := by
      rw [N, up_s]
      rfl
    have eo : ∀ i, 8 ≤ i → N (up (up (up v w (nI k)) 6 0) 7 (up v w (nI k) 0)) i = N v i := fun i hi => by rw [N_up (by omega), N_up (by omega), N_up (by omega)]
    have el : ∀ i, i < 2 → N (up (up (up v w (nI k)) 6 0) 7 (up v w (nI k) 0)) i = N (up v w (nI k)) i := fun i hi => by rw [N_up (by omega), N_up (by omega)]
    unfold HB at b ⊢
    rw [e7, eo 10 (by decide), eo 9 (by decide), eo 8 (by decide), el 0 (by decide), el 1 (by decide)]
    omega
/-! plays -/
theorem pl_fu {F M m f : Nat} {b : Nat → Bool} (hF : FM F M) (hm : 1 ≤ m) : ∀ i i' r c g p s k, plM F M r p s < i → i ≤ i' → 8 ≤ s → s ≤ 214 → p ≤ STn F M 30 → pl F M m f (STn F M 30) b i' r c g p s k = pl F M m f (STn F M 30) b i r c g p s k := by
  intro i
  induction i with
  | zero => intro i' r c g p s k h1; omega
  | succ i ih =>
    intro i' r c g p s k h1 h2 s1 s2 hp
    obtain ⟨i', rfl⟩ : ∃ j, i' = j + 1 := ⟨i' - 1, by omega⟩
    have a1 := fo_214 hF (TU_le (F := F) (M := M) (f := p))
    have h5 := spN_rng (m := m) (c := 1) a1.1 a1.2 s1 s2
    rw [pl, pl]
    by_cases q1 : r = 0 ∨ STn F M 30 ≤ p
    · rw [if_pos q1, if_pos q1]
    · rw [if_neg q1, if_neg q1]
      by_cases q2 : dN (F + M * TU F M p) (spN m (F + M * TU F M p) 1 s) ≤ f
      · have hmu := plM_read (r := r) hF hm (show r ≠ 0 by omega) (show p < STn F M 30 by omega) s1 s2
        rw [if_pos q2, if_pos q2]
        exact ih _ _ _ _ _ _ _ (by omega) (by omega) h5.1 h5.2 (by omega)
      · have hmu := plM_spin (r := r) hF hm q2
        rw [if_neg q2, if_neg q2]
        exact ih _ _ _ _ _ _ _ (by omega) (by omega) h5.1 h5.2 hp
theorem pl_two {F M m f y : Nat} {b : Nat → Bool} (hF : FM F M) (hm : 1 ≤ m) (hy : y ≤ 999) : ∀ i r c g p s k, plM F M (r + y) p s < i → i ≤ 8000 → 8 ≤ s → s ≤ 214 → p ≤ STn F M 30 → pl F M m f (STn F M 30) b i (r + y) c g p s k = pl F M m f (STn F M 30) b 8000 y (pl F M m f (STn F M 30) b i r c g p s k).1 (pl F M m f (STn F M 30) b i r c g p s k).2.1 (pl F M m f (STn F M 30) b i r c g p s k).2.2.1 (pl F M m f (STn F M 30) b i r c g p s k).2.2.2.1 (pl F M m f (STn F M 30) b i r c g p s k).2.2.2.2 := by
  intro i
  induction i with
  | zero => intro r c g p s k h1; omega
  | succ i ih =>
    intro r c g p s k h1 h2 s1 s2 hp
    have a1 := fo_214 hF (TU_le (F := F) (M := M) (f := p))
    have h5 := spN_rng (m := m) (c := 1) a1.1 a1.2 s1 s2
    by_cases q0 : STn F M 30 ≤ p
    · have e1 : pl F M m f (STn F M 30) b (i + 1) (r + y) c g p s k = (c, g, p, s, k) := by rw [pl, if_pos (Or.inr q0)]
      have e2 : pl F M m f (STn F M 30) b (i + 1) r c g p s k = (c, g, p, s, k) := by rw [pl, if_pos (Or.inr q0)]
      have e3 : pl F M m f (STn F M 30) b (7999 + 1) y c g p s k = (c, g, p, s, k) := by rw [pl, if_pos (Or.inr q0)]
      rw [e1, e2]
      exact e3.symm
    · by_cases q1 : r = 0
      · subst q1
        have e2 : pl F M m f (STn F M 30) b (i + 1) 0 c g p s k = (c, g, p, s, k) := by rw [pl, if_pos (Or.inl rfl)]
        rw [e2, Nat.zero_add] at *
        exact (pl_fu hF hm (i + 1) 8000 y c g p s k h1 h2 s1 s2 hp).symm
      · have ea : pl F M m f (STn F M 30) b (i + 1) (r + y) c g p s k = if dN (F + M * TU F M p) (spN m (F + M * TU F M p) 1 s) ≤ f then pl F M m f (STn F M 30) b i (r + y - 1) (c + 1) (g + (!(b p)).toNat) (p + 1) (spN m (F + M * TU F M p) 1 s) (k + 1) else pl F M m f (STn F M 30) b i (r + y) c g p (spN m (F + M * TU F M p) 1 s) (k + 1) := by
          rw [pl, if_neg (by omega)]
        have eb : pl F M m f (STn F M 30) b (i + 1) r c g p s k = if dN (F + M * TU F M p) (spN m (F + M * TU F M p) 1 s) ≤ f then pl F M m f (STn F M 30) b i (r - 1) (c + 1) (g + (!(b p)).toNat) (p + 1) (spN m (F + M * TU F M p) 1 s) (k + 1) else pl F M m f (STn F M 30) b i r c g p (spN m (F + M * TU F M p) 1 s) (k + 1) := by
          rw [pl, if_neg (by omega)]
        rw [ea, eb]
        by_cases q2 : dN (F + M * TU F M p) (spN m (F + M * TU F M p) 1 s) ≤ f
        · have hmu := plM_read (r := r + y) hF hm (by omega) (show p < STn F M 30 by omega) s1 s2
          rw [if_pos q2, if_pos q2, show r + y - 1 = r - 1 + y by omega]
          exact ih (r - 1) _ _ _ _ _ (by rw [show r - 1 + y = r + y - 1 by omega]; omega) (by omega) h5.1 h5.2 (by omega)
        · have hmu := plM_spin (r := r + y) hF hm q2
          rw [if_neg q2, if_neg q2]
          exact ih r _ _ _ _ _ (by omega) (by omega) h5.1 h5.2 hp
theorem pl_sh {F M m f T : Nat} {b : Nat → Bool} : ∀ i r c g c0 g0 p s k, pl F M m f T b i r (c0 + c) (g0 + g) p s k = (c0 + (pl F M m f T b i r c g p s k).1, g0 + (pl F M m f T b i r c g p s k).2.1, (pl F M m f T b i r c g p s k).2.2) := by
  intro i
  induction i with
  | zero => intro r c g c0 g0 p s k; rfl
  | succ i ih =>
    intro r c g c0 g0 p s k
    rw [pl, pl]
    by_cases q1 : r = 0 ∨ T ≤ p
    · rw [if_pos q1, if_pos q1]
    · rw [if_neg q1, if_neg q1]
      by_cases q2 : dN (F + M * TU F M p) (spN m (F + M * TU F M p) 1 s) ≤ f
      · rw [if_pos q2, if_pos q2, Nat.add_assoc, Nat.add_assoc]
        exact ih _ _ _ _ _ _ _ _
      · rw [if_neg q2, if_neg q2]
        exact ih _ _ _ _ _ _ _ _
theorem ly_like {u v : Nat → Int32} (e : ∀ i, i < 6 ∨ 11 < i → u i = v i) : lyV u (-5) = lyV v (-5) ∧ TOT u = TOT v := by
  have l : LK u v := ⟨e 0 (by decide), e 1 (by decide), e 12 (by decide), fun k _ => e (13 + k) (by omega)⟩
  exact ⟨l.ly _, l.tot⟩
theorem play_two {T : Nat} {v : Nat → Int32} {x y : Nat} (hT : T + 10000 < 2 ^ 31) (wf : WF T v) (hxy : x + y ≤ 999) : (plP v (x + y)).2.1 = (plP v x).2.1 + (plP (plW v x) y).2.1 ∧ (plP v (x + y)).2.2.1 = (plP (plW v x) y).2.2.1 ∧ (plP v (x + y)).2.2.2.2 = (plP (plW v x) y).2.2.2.2 := by
  have n := plW_n (X := x) hT wf
  have e := n.2.2.2.2.2
  have l := ly_like e
  have t := pl_two (m := N v 2) (f := N v 3) (b := fun f => decide (f < TOT v) && lyV v (-5) f) (y := y) wf.1.fm wf.1.sb.2.1 (by omega) 8000 x 0 0 (N v 6) (N v 7) (N v 8) (plM_lt wf.1.fm hxy wf.2.1.2.1.1 wf.2.1.2.1.2.1) (Nat.le_refl _) wf.2.1.2.1.1 wf.2.1.2.1.2.1 wf.2.1.1.2.1
  have ex : plP v x = pl (N v 0) (N v 1) (N v 2) (N v 3) (STn (N v 0) (N v 1) 30) (fun f => decide (f < TOT v) && lyV v (-5) f) 8000 x 0 0 (N v 6) (N v 7) (N v 8) := rfl
  have exy : plP v (x + y) = pl (N v 0) (N v 1) (N v 2) (N v 3) (STn (N v 0) (N v 1) 30) (fun f => decide (f < TOT v) && lyV v (-5) f) 8000 (x + y) 0 0 (N v 6) (N v 7) (N v 8) := rfl
  have e2 : plP (plW v x) y = pl (N v 0) (N v 1) (N v 2) (N v 3) (STn (N v 0) (N v 1) 30) (fun f => decide (f < TOT v) && lyV v (-5) f) 8000 y 0 0 (plP v x).2.2.1 (plP v x).2.2.2.1 (plP v x).2.2.2.2 := by
    show pl (N (plW v x) 0) (N (plW v x) 1) (N (plW v x) 2) (N (plW v x) 3) (TOT (plW v x)) (fun f => decide (f < TOT (plW v x)) && lyV (plW v x) (-5) f) 8000 y 0 0 (N (plW v x) 6) (N (plW v x) 7) (N (plW v x) 8) = _
    rw [l.1, l.2, n.1, n.2.1, n.2.2.1, N_eq (e 0 (by decide)), N_eq (e 1 (by decide)), N_eq (e 2 (by decide)), N_eq (e 3 (by decide))]
    rfl
  have s := pl_sh (F := N v 0) (M := N v 1) (m := N v 2) (f := N v 3) (T := STn (N v 0) (N v 1) 30) (b := fun f => decide (f < TOT v) && lyV v (-5) f) 8000 y 0 0 (plP v x).1 (plP v x).2.1 (plP v x).2.2.1 (plP v x).2.2.2.1 (plP v x).2.2.2.2
  rw [Nat.add_zero, Nat.add_zero, ← e2] at s
  rw [← ex, ← exy, s] at t
  rw [t]
  exact ⟨rfl, rfl, rfl⟩
/-! the best guess -/
theorem bg_least {v : Nat → Int32} {f : Nat} : ∀ i, 60 ≤ (bgB v f i).1 ∧ (bgB v f i).1 ≤ 60 + i ∧ (bgB v f i).2 = tK v (bgB v f i).1 f - N v 8 ∧ ∀ g, 60 ≤ g → g ≤ 60 + i → (bgB v f i).2 ≤ tK v g f - N v 8 ∧ (g < (bgB v f i).1 → (bgB v f i).2 < tK v g f - N v 8) := by
  intro i
  induction i with
  | zero =>
    refine ⟨Nat.le_refl _, Nat.le_refl _, rfl, fun g h1 h2 => ?_⟩
    have : g = 60 := by omega
    subst this
    exact ⟨Nat.le_refl _, fun h => absurd h (Nat.lt_irrefl 60)⟩
  | succ i ih =>
    obtain ⟨a, b, c, d⟩ := ih
    rw [bgB]
    by_cases q : (bgB v f i).2 ≤ tK v (61 + i) f - N v 8
    · rw [if_pos q]
      refine ⟨a, by omega, c, fun g h1 h2 => ?_⟩
      by_cases e : g = 61 + i
      · subst e
        exact ⟨q, fun h => absurd h (by omega)⟩
      · exact d g h1 (by omega)
    · rw [if_neg q]
      refine ⟨by show 60 ≤ 61 + i; omega, by show 61 + i ≤ 60 + (i + 1); omega, rfl, fun g h1 h2 => ?_⟩
      show tK v (61 + i) f - N v 8 ≤ tK v g f - N v 8 ∧ (g < 61 + i → tK v (61 + i) f - N v 8 < tK v g f - N v 8)
      by_cases e : g = 61 + i
      · subst e
        exact ⟨Nat.le_refl _, fun h => absurd h (Nat.lt_irrefl _)⟩
      · have := (d g h1 (by omega)).1
        exact ⟨by omega, fun _ => by omega⟩
/-! a scratch away -/
theorem pd_dmg {v : Nat → Int32} {m k j t i : Nat} (hk : k ≤ m) (hj : j < m) : dmg (plV v m k) j t i = dmg v (if j < k then j else j + 1) t i := by
  have e0 : N (plV v m k) 0 = N v 0 := N_eq (plV_o hk (by omega) (by omega))
  have e1 : N (plV v m k) 1 = N v 1 := N_eq (plV_o hk (by omega) (by omega))
  unfold dmg
  by_cases q : j < k
  · rw [if_pos q, e0, e1, N_eq (plV_o hk (i := 13 + 4 * j) (by omega) (by omega)), N_eq (plV_o hk (i := 13 + 4 * j + 1) (by omega) (by omega)), N_eq (plV_o hk (i := 13 + 4 * j + 2) (by omega) (by omega)), N_eq (plV_o hk (i := 13 + 4 * j + 3) (by omega) (by omega))]
  · have z : ∀ q, q < 4 → N (plV v m k) (13 + 4 * j + q) = N v (13 + 4 * (j + 1) + q) := fun q hq => by
      unfold N
      rw [plV_m (by omega) (by omega)]
      congr 2
      omega
    have z0 := z 0 (by decide)
    rw [Nat.add_zero, Nat.add_zero] at z0
    rw [if_neg q, e0, e1, z0, z 1 (by decide), z 2 (by decide), z 3 (by decide)]
theorem nI_m5 {c : Nat} (hc : c < 2 ^ 31) : nI c ≠ (-5 : Int32) := fun e => by
  have := nI_pos (n := c) hc
  rw [e] at this
  exact this (by decide)
theorem pd_any {v : Nat → Int32} {m k t i : Nat} (hk : k ≤ m) (hm : m < 8) : ∀ c, c ≤ m → anyD (plV v m k) (-5) t i c = anyD v (nI k) t i (if c ≤ k then c else c + 1) := by
  intro c
  induction c with
  | zero =>
    intro _
    rw [if_pos (Nat.zero_le _)]
    rfl
  | succ c ih =>
    intro hc
    have e1 : anyD (plV v m k) (-5) t i (c + 1) = (anyD (plV v m k) (-5) t i c || (decide (nI c ≠ (-5 : Int32)) && dmg (plV v m k) c t i)) := rfl
    rw [e1, ih (by omega), pd_dmg hk (by omega), decide_eq_true (nI_m5 (by omega)), Bool.true_and]
    have ne : ∀ a, a < 9 → a ≠ k → decide (nI a ≠ nI k) = true := fun a ha h => decide_eq_true (fun e => h ((nI_eq (by omega) (by omega)).mp e))
    rcases Nat.lt_trichotomy c k with q | q | q
    · rw [if_pos (by omega), if_pos q, if_pos (by omega)]
      show _ = (anyD v (nI k) t i c || (decide (nI c ≠ nI k) && dmg v c t i))
      rw [ne c (by omega) (by omega), Bool.true_and]
    · subst q
      rw [if_pos (Nat.le_refl _), if_neg (Nat.lt_irrefl _), if_neg (by omega)]
      show _ = ((anyD v (nI c) t i c || (decide (nI c ≠ nI c) && dmg v c t i)) || (decide (nI (c + 1) ≠ nI c) && dmg v (c + 1) t i))
      rw [ne (c + 1) (by omega) (by omega), Bool.true_and, decide_eq_false (fun h => h rfl), Bool.false_and, Bool.or_false]
    · rw [if_neg (by omega), if_neg (by omega), if_neg (by omega)]
      show _ = (anyD v (nI k) t i (c + 1) || (decide (nI (c + 1) ≠ nI k) && dmg v (c + 1) t i))
      rw [ne (c + 1) (by omega) (by omega), Bool.true_and]
theorem pd_ly {T : Nat} {v : Nat → Int32} {m k : Nat} (wf : WF T v) (hm : N v 12 = m + 1) (hk : k ≤ m) : lyV (plV v m k) (-5) = lyV v (nI k) ∧ TOT (plV v m k) = TOT v := by
  have h8 := wf.2.2.1.1.2.1
  have e0 : N (plV v m k) 0 = N v 0 := N_eq (plV_o hk (by omega) (by omega))
  have e1 : N (plV v m k) 1 = N v 1 := N_eq (plV_o hk (by omega) (by omega))
  have n12 : N (plV v m k) 12 = m := by
    rw [N, plV_12, nI_clamp (by omega)]
  refine ⟨?_, by unfold TOT; rw [e0, e1]⟩
  funext f
  unfold lyV
  rw [e0, e1, n12, hm, pd_any hk (by omega) m (Nat.le_refl _)]
  by_cases q : m ≤ k
  · have : k = m := by omega
    subst this
    rw [if_pos (Nat.le_refl _)]
    show _ = (anyD v (nI k) _ _ k || (decide (nI k ≠ nI k) && _))
    rw [decide_eq_false (fun h => h rfl), Bool.false_and, Bool.or_false]
  · rw [if_neg q]
theorem any_mono {v : Nat → Int32} {k t i : Nat} : ∀ c, c ≤ 8 → anyD v (nI k) t i c = true → anyD v (-5) t i c = true := by
  intro c
  induction c with
  | zero => intro _ h; exact h
  | succ c ih =>
    intro hc h
    rw [anyD, Bool.or_eq_true] at h ⊢
    rcases h with h | h
    · exact Or.inl (ih (by omega) h)
    · rw [Bool.and_eq_true] at h
      refine Or.inr ?_
      rw [decide_eq_true (nI_m5 (by omega)), Bool.true_and]
      exact h.2
theorem any_or {v : Nat → Int32} {k t i : Nat} (hk : k < 8) : ∀ c, c ≤ 8 → anyD v (-5) t i c = true → anyD v (nI k) t i c = true ∨ dmg v k t i = true := by
  intro c
  induction c with
  | zero => intro _ h; exact Or.inl h
  | succ c ih =>
    intro hc h
    rw [anyD, Bool.or_eq_true] at h
    rw [anyD, Bool.or_eq_true]
    rcases h with h | h
    · rcases ih (by omega) h with q | q
      · exact Or.inl (Or.inl q)
      · exact Or.inr q
    · rw [Bool.and_eq_true] at h
      by_cases q : c = k
      · subst q
        exact Or.inr h.2
      · refine Or.inl (Or.inr ?_)
        rw [decide_eq_true (show nI c ≠ nI k from fun e => q ((nI_eq (by omega) (by omega)).mp e)), Bool.true_and]
        exact h.2
/-! counts -/
theorem cnt_sub {p q : Nat → Bool} : ∀ n, (∀ f, f < n → p f = true → q f = true) → cnt p n ≤ cnt q n := by
  intro n
  induction n with
  | zero => intro _; exact Nat.le_refl _
  | succ n ih =>
    intro h
    have := ih (fun f hf => h f (by omega))
    have h1 := h n (by omega)
    rw [cnt, cnt]
    cases hp : p n with
    | false =>
      have : (false).toNat = 0 := rfl
      omega
    | true =>
      rw [h1 hp]
      omega
theorem cnt_or {p q r : Nat → Bool} : ∀ n, (∀ f, f < n → p f = true → q f = true ∨ r f = true) → cnt p n ≤ cnt q n + cnt r n := by
  intro n
  induction n with
  | zero => intro _; exact Nat.zero_le _
  | succ n ih =>
    intro h
    have := ih (fun f hf => h f (by omega))
    have h1 := h n (by omega)
    rw [cnt, cnt, cnt]
    cases hp : p n with
    | false =>
      have : (false).toNat = 0 := rfl
      omega
    | true =>
      have z : (true).toNat = 1 := rfl
      rcases h1 hp with e | e
      · rw [e]
        omega
      · rw [e]
        omega
theorem cnt_add {p : Nat → Bool} {a : Nat} : ∀ n, cnt p (a + n) = cnt p a + cnt (fun i => p (a + i)) n := by
  intro n
  induction n with
  | zero => rfl
  | succ n ih =>
    show cnt p (a + n) + (p (a + n)).toNat = cnt p a + (cnt (fun i => p (a + i)) n + (p (a + n)).toNat)
    omega
theorem cnt_4 {g : Nat → Nat} (hg : ∀ f, g f ≤ 3) : ∀ n, cnt (fun f => decide (g f = 0)) n + cnt (fun f => decide (g f = 1)) n + cnt (fun f => decide (g f = 2)) n + cnt (fun f => decide (g f = 3)) n = n := by
  intro n
  induction n with
  | zero => rfl
  | succ n ih =>
    rw [cnt, cnt, cnt, cnt]
    have := hg n
    have t : (decide True).toNat = 1 := rfl
    have f : (decide False).toNat = 0 := rfl
    have c : g n = 0 ∨ g n = 1 ∨ g n = 2 ∨ g n = 3 := by omega
    rcases c with q | q | q | q <;> simp only [q, decide_true, decide_false, Bool.toNat_true, Bool.toNat_false, Nat.reduceEqDiff, reduceCtorEq] <;> omega
theorem cnt_not {p q : Nat → Bool} : ∀ n, (∀ f, f < n → q f = !(p f)) → cnt p n + cnt q n = n := by
  intro n
  induction n with
  | zero => intro _; rfl
  | succ n ih =>
    intro h
    have := ih (fun f hf => h f (by omega))
    rw [cnt, cnt, h n (by omega)]
    cases p n with
    | false =>
      show _ + 0 + (_ + 1) = _
      omega
    | true =>
      show _ + 1 + (_ + 0) = _
      omega
theorem how_0 {b : Nat → Bool} {T f : Nat} : how b T f = 0 ↔ b f = false := by
  unfold how
  constructor
  · intro h
    cases hb : b f with
    | false => rfl
    | true =>
      rw [hb, if_neg (by decide)] at h
      repeat' split at h
      all_goals omega
  · intro h
    rw [if_pos h]
theorem cH_4 {v : Nat → Int32} : cH v 0 + cH v 1 + cH v 2 + cH v 3 = TOT v := cnt_4 (fun _ => how_le) (TOT v)
theorem cH_0 {v : Nat → Int32} : cH v 0 + cnt (lyV v (-5)) (TOT v) = TOT v := by
  refine cnt_not (TOT v) (fun f _ => ?_)
  cases hb : lyV v (-5) f with
  | false =>
    rw [decide_eq_true (how_0.mpr hb)]
    rfl
  | true =>
    rw [decide_eq_false (fun e => by rw [how_0.mp e] at hb; exact Bool.noConfusion hb)]
    rfl
theorem cH_le {v : Nat → Int32} {x : Nat} : cH v x ≤ TOT v := cnt_le _ _
