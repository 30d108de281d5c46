/-! playing -/
theorem and_m1 (x : Int32) : x &&& (-1 : Int32) = x := by
  apply Int32.toBitVec_inj.mp
  simp
theorem TU_mono {F M p : Nat} (hp : p + 1 ≤ STn F M 30) : TU F M p ≤ TU F M (p + 1) := by
  have h1 := TU_lo (F := F) (M := M) (f := p)
  rcases Nat.lt_or_ge (p + 1) (STn F M 30) with q | q
  · rcases Nat.lt_or_ge (TU F M (p + 1)) (TU F M p) with q2 | q2
    · have := STn_le (F := F) (M := M) (show TU F M (p + 1) + 1 ≤ TU F M p by omega)
      have := TU_hi q
      omega
    · exact q2
  · rw [TU_end q]
    exact TU_le
/-- what a play does: frames read, frames read whole, place, speed, ticks -/
def pl (F M m f T : Nat) (b : Nat → Bool) : Nat → Nat → Nat → Nat → Nat → Nat → Nat → Nat × Nat × Nat × Nat × Nat
  | 0, _, c, g, p, s, k => (c, g, p, s, k)
  | i + 1, r, c, g, p, s, k =>
    if r = 0 ∨ T ≤ p then (c, g, p, s, k)
    else if dN (F + M * TU F M p) (spN m (F + M * TU F M p) 1 s) ≤ f then pl F M m f T b i (r - 1) (c + 1) (g + (!(b p)).toNat) (p + 1) (spN m (F + M * TU F M p) 1 s) (k + 1)
    else pl F M m f T b i r c g p (spN m (F + M * TU F M p) 1 s) (k + 1)
def plM (F M r p s : Nat) : Nat := r + (29 - TU F M p) * 210 + dN (F + M * TU F M p) s
theorem fo_214 {F M t : Nat} (hF : FM F M) (ht : t ≤ 29) : 8 ≤ F + M * t ∧ F + M * t ≤ 214 := by
  have := Nat.mul_le_mul hF.2.2 ht
  have := (FM_fo (t := t) hF (by omega)).1
  have := hF.2.1
  omega
theorem plM_read {F M m r p s : Nat} (hF : FM F M) (hm : 1 ≤ m) (hr : r ≠ 0) (hp : p < STn F M 30) (s1 : 8 ≤ s) (s2 : s ≤ 214) : plM F M (r - 1) (p + 1) (spN m (F + M * TU F M p) 1 s) < plM F M r p s := by
  have h1 := TU_mono (show p + 1 ≤ STn F M 30 by omega)
  have h2 := TU_le (F := F) (M := M) (f := p)
  have h3 := TU_le (F := F) (M := M) (f := p + 1)
  have a1 := fo_214 hF h2
  have a2 := fo_214 hF h3
  have h4 := spN_near (g := F + M * TU F M p) (s := s) hm
  have h5 := spN_rng (m := m) (c := 1) a1.1 a1.2 s1 s2
  unfold plM
  by_cases q : TU F M p = TU F M (p + 1)
  · rw [← q]
    omega
  · have : dN (F + M * TU F M (p + 1)) (spN m (F + M * TU F M p) 1 s) ≤ 206 := by
      unfold dN
      omega
    omega
theorem plM_spin {F M m f r p s : Nat} (hF : FM F M) (hm : 1 ≤ m) (hn : ¬ dN (F + M * TU F M p) (spN m (F + M * TU F M p) 1 s) ≤ f) : plM F M r p (spN m (F + M * TU F M p) 1 s) < plM F M r p s := by
  have h4 := spN_near (g := F + M * TU F M p) (s := s) hm
  unfold plM
  omega
theorem pl_rng {F M m f : Nat} {b : Nat → Bool} (hF : FM F M) (hm : 1 ≤ m) : ∀ i r c g p s k, 8 ≤ s → s ≤ 214 → p ≤ STn F M 30 → g ≤ c → (8 ≤ (pl F M m f (STn F M 30) b i r c g p s k).2.2.2.1 ∧ (pl F M m f (STn F M 30) b i r c g p s k).2.2.2.1 ≤ 214) ∧ (pl F M m f (STn F M 30) b i r c g p s k).2.2.1 ≤ STn F M 30 ∧ (k ≤ (pl F M m f (STn F M 30) b i r c g p s k).2.2.2.2 ∧ (pl F M m f (STn F M 30) b i r c g p s k).2.2.2.2 ≤ k + i) ∧ (c ≤ (pl F M m f (STn F M 30) b i r c g p s k).1 ∧ (pl F M m f (STn F M 30) b i r c g p s k).1 ≤ c + i) ∧ (pl F M m f (STn F M 30) b i r c g p s k).2.1 ≤ (pl F M m f (STn F M 30) b i r c g p s k).1 := by
  intro i
  induction i with
  | zero =>
    intro r c g p s k s1 s2 hp hg
    exact ⟨⟨s1, s2⟩, hp, ⟨Nat.le_refl _, Nat.le_refl _⟩, ⟨Nat.le_refl _, Nat.le_refl _⟩, hg⟩
  | succ i ih =>
    intro r c g p s k s1 s2 hp hg
    have h2 := TU_le (F := F) (M := M) (f := p)
    have a1 := fo_214 hF h2
    have h5 := spN_rng (m := m) (c := 1) a1.1 a1.2 s1 s2
    rw [pl]
    by_cases q1 : r = 0 ∨ STn F M 30 ≤ p
    · rw [if_pos q1]
      exact ⟨⟨s1, s2⟩, hp, ⟨Nat.le_refl _, Nat.le_add_right _ _⟩, ⟨Nat.le_refl _, Nat.le_add_right _ _⟩, hg⟩
    · rw [if_neg q1]
      by_cases q2 : dN (F + M * TU F M p) (spN m (F + M * TU F M p) 1 s) ≤ f
      · rw [if_pos q2]
        have hb := Bool.toNat_le (!(b p))
        have := ih (r - 1) (c + 1) (g + (!(b p)).toNat) (p + 1) _ (k + 1) h5.1 h5.2 (by omega) (by omega)
        exact ⟨this.1, this.2.1, by omega, by omega, this.2.2.2.2⟩
      · rw [if_neg q2]
        have := ih r c g p _ (k + 1) h5.1 h5.2 hp hg
        exact ⟨this.1, this.2.1, by omega, by omega, this.2.2.2.2⟩
theorem c_readFrames_L15 {F M m f o os j X : Nat} {w : Nat → Int32} {b : Nat → Bool} (sb : SB F M m f) (hso : os ≠ o) (ho : o ≠ 67) (hX : X ≤ 1000) : ∀ i n r c g p s k y h, plM F M r p s < i → i ≤ n → y + i ≤ 100000 → r + c = X → 8 ≤ s → s ≤ 214 → p ≤ STn F M 30 → SE F M m f (h os) → h o = hw w p s k j → (∀ q, q < 3810 → (h 67 q = 0 ↔ b q = false)) →
    f_X1_readFrames_L15 n o os (nI X) (nI c) (nI g) (nI (STn F M 30)) (nI y) h = some (nI (pl F M m f (STn F M 30) b i r c g p s k).1, nI (pl F M m f (STn F M 30) b i r c g p s k).2.1, sR h o (hw w (pl F M m f (STn F M 30) b i r c g p s k).2.2.1 (pl F M m f (STn F M 30) b i r c g p s k).2.2.2.1 (pl F M m f (STn F M 30) b i r c g p s k).2.2.2.2 j)) := by
  have hT := FM_tot sb.1
  have l67 : ln 67 = 3810 := by decide
  intro i
  induction i with
  | zero =>
    intro n r c g p s k y h h1
    omega
  | succ i ih =>
    intro n r c g p s k y h h1 hn hy hr s1 s2 hp se e hd
    obtain ⟨n, rfl⟩ : ∃ n', n = n' + 1 := ⟨n - 1, by omega⟩
    have h2 := TU_le (F := F) (M := M) (f := p)
    have a1 := fo_214 sb.1 h2
    have h5 := spN_rng (m := m) (c := 1) a1.1 a1.2 s1 s2
    have ge : ∀ {r}, GE F M (sR h o r) os := by
      intro r
      unfold GE
      rw [sR_o hso]
      exact ⟨se.1, se.2.1⟩
    have e0 : h o 0 = nI p := by rw [e]; rfl
    have done : some (nI c, nI g, h) = some (nI c, nI g, sR h o (hw w p s k j)) := by rw [← e, sR_id]
    rw [f_X1_readFrames_L15, lit_n 100000, if_neg (nI_ge (by omega) (by omega)), e0, pl]
    by_cases q1 : X ≤ c
    · rw [if_pos (nI_le q1 (by omega)), if_pos (Or.inl (by omega)), done]
    · rw [if_neg (nI_ge (by omega) (by omega))]
      by_cases q2 : STn F M 30 ≤ p
      · rw [if_pos (nI_le q2 (by omega)), if_pos (Or.inr q2), done]
      · have hsp := c_spin (c := 1) (g := F + M * TU F M p) hso se e (by omega) (by omega) (by decide) sb.2.2.1
        have hsp' : f_X1_spin o (1 : Int32) (nI (F + M * TU F M p)) os h = sR h o (hw w p (spN m (F + M * TU F M p) 1 s) (k + 1) j) := hsp
        have hne := c_isNear (o := o) (os := os) (h := sR h o (hw w p (spN m (F + M * TU F M p) 1 s) (k + 1) j)) (g := F + M * TU F M p) (by rw [sR_o hso]; exact se) sR_s (by omega) (by omega) sb.2.2.2
        rw [if_neg (nI_ge (by omega) (by omega)), if_neg (show ¬ (r = 0 ∨ STn F M 30 ≤ p) by omega), ob_e (c_turnOf ⟨se.1, se.2.1⟩ sb.1 (by omega)), c_framesOf ⟨se.1, se.2.1⟩, hsp', tb_s, hne]
        by_cases q3 : dN (F + M * TU F M p) (spN m (F + M * TU F M p) 1 s) ≤ f
        · have dm : (if f_X7_isDamaged (nI p) (sR h o (hw w p (spN m (F + M * TU F M p) 1 s) (k + 1) j)) = 0 then (1 : Int32) else (0 : Int32)) = nI (!(b p)).toNat := by
            rw [f_X7_isDamaged, at_n (by omega), sR_o (by omega)]
            have := hd p (by omega)
            cases hb : b p with
            | false =>
              rw [if_pos (this.mpr hb), if_pos (show (0 : Int32) = 0 from rfl)]
              rfl
            | true =>
              rw [if_neg (fun e => Bool.noConfusion (hb.symm.trans (this.mp e))), if_neg (show ¬ (1 : Int32) = 0 by decide)]
              rfl
          have hmu := plM_read (r := r) sb.1 sb.2.1 (show r ≠ 0 by omega) (show p < STn F M 30 by omega) s1 s2
          rw [if_pos q3, if_neg (show ¬ (1 : Int32) = 0 by decide), if_pos q3, sR_s, hw_0, dm, nI_add, nI_1, nI_1, tb_s, hset_sR, sR_s, sR_2, hw_u0, tb_s, nI_1]
          rw [ih n (r - 1) (c + 1) _ (p + 1) _ (k + 1) (y + 1) _ (by omega) (by omega) (by omega) (by omega) h5.1 h5.2 (by omega) (by rw [sR_o hso]; exact se) sR_s (by rw [sR_o (Ne.symm ho)]; exact hd), sR_2]
        · have hmu := plM_spin (r := r) sb.1 sb.2.1 q3
          rw [if_neg q3, if_pos rfl, if_neg q3, tb_s, nI_1]
          rw [ih n r c g p _ (k + 1) (y + 1) _ (by omega) (by omega) (by omega) (by omega) h5.1 h5.2 hp (by rw [sR_o hso]; exact se) sR_s (by rw [sR_o (Ne.symm ho)]; exact hd), sR_2]
theorem mw_u9 {w : Nat → Int32} {p s k j : Nat} {a x : Int32} : up (mw (up w 9 a) p s k j) 9 x = mw (up w 9 x) p s k j := by
  funext i
  unfold mw up
  repeat' split
  all_goals first | rfl | omega
