/-! seeking -/
def jz (t g tg : Nat) : Int := if (((tg : Int) - t) * g).tdiv 100 = 0 then (if (tg : Int) - t ≤ 0 then -1 else 1) else (((tg : Int) - t) * g).tdiv 100
def jt (t g tg : Nat) : Nat := (max 0 (min 29 ((t : Int) + jz t g tg))).toNat
theorem jz_rng {t g tg : Nat} (ht : t ≤ 29) (h1 : tg ≤ 29) (g1 : 60 ≤ g) (g2 : g ≤ 140) : (t < tg → 1 ≤ jz t g tg ∧ jz t g tg < 2 * ((tg : Int) - t)) ∧ (tg < t → jz t g tg ≤ -1 ∧ 2 * ((tg : Int) - t) < jz t g tg) ∧ -100 ≤ jz t g tg ∧ jz t g tg ≤ 100 ∧ -5000 ≤ ((tg : Int) - t) * g ∧ ((tg : Int) - t) * g ≤ 5000 := by
  rcases Nat.lt_trichotomy t tg with q | q | q
  · obtain ⟨d, rfl⟩ : ∃ d, tg = t + d := ⟨tg - t, by omega⟩
    have e : ((t + d : Nat) : Int) - t = (d : Int) := by omega
    have e2 : ((d : Int) * (g : Int)) = ((d * g : Nat) : Int) := by rw [Int.natCast_mul]
    have m1 : d * 60 ≤ d * g := Nat.mul_le_mul_left d g1
    have m2 : d * g ≤ d * 140 := Nat.mul_le_mul_left d g2
    unfold jz
    rw [e, e2]
    generalize d * g = P at *
    rw [Int.tdiv_eq_ediv_of_nonneg (by omega)]
    split <;> omega
  · subst q
    unfold jz
    rw [Int.sub_self, Int.zero_mul]
    simp
  · obtain ⟨d, rfl⟩ : ∃ d, t = tg + d := ⟨t - tg, by omega⟩
    have e : (tg : Int) - ((tg + d : Nat) : Int) = -(d : Int) := by omega
    have e2 : (-(d : Int) * (g : Int)) = -((d * g : Nat) : Int) := by rw [Int.natCast_mul, Int.neg_mul]
    have m1 : d * 60 ≤ d * g := Nat.mul_le_mul_left d g1
    have m2 : d * g ≤ d * 140 := Nat.mul_le_mul_left d g2
    unfold jz
    rw [e, e2]
    generalize d * g = P at *
    rw [Int.neg_tdiv, Int.tdiv_eq_ediv_of_nonneg (by omega)]
    split <;> omega
theorem jt_prog {t g tg : Nat} (ht : t ≤ 29) (h1 : tg ≤ 29) (g1 : 60 ≤ g) (g2 : g ≤ 140) (hn : t ≠ tg) : jt t g tg ≤ 29 ∧ dN (jt t g tg) tg < dN t tg := by
  have := jz_rng ht h1 g1 g2
  unfold jt dN
  omega
theorem jt_le {t g tg : Nat} : jt t g tg ≤ 29 := by
  unfold jt
  omega
theorem jmax_z {a b : Int} (a1 : -2147483648 ≤ a) (a2 : a < 2147483648) (b1 : -2147483648 ≤ b) (b2 : b < 2147483648) : jmax (zI a) (zI b) = zI (max a b) := by
  unfold jmax
  by_cases h : a < b
  · rw [if_pos ((zI_lt a1 a2 b1 b2).mpr h)]
    congr 1
    omega
  · rw [if_neg (fun q => h ((zI_lt a1 a2 b1 b2).mp q))]
    congr 1
    omega
theorem jmin_z {a b : Int} (a1 : -2147483648 ≤ a) (a2 : a < 2147483648) (b1 : -2147483648 ≤ b) (b2 : b < 2147483648) : jmin (zI a) (zI b) = zI (min a b) := by
  unfold jmin
  by_cases h : b < a
  · rw [if_pos ((zI_lt b1 b2 a1 a2).mpr h)]
    congr 1
    omega
  · rw [if_neg (fun q => h ((zI_lt b1 b2 a1 a2).mp q))]
    congr 1
    omega
theorem z0 : (0 : Int32) = zI 0 := by decide
theorem z1 : (1 : Int32) = zI 1 := by decide
theorem jz_code {t g tg : Nat} (ht : t ≤ 29) (h1 : tg ≤ 29) (g1 : 60 ≤ g) (g2 : g ≤ 140) : (if (((nI tg - nI t) * nI g) / (100 : Int32)) = 0 then (if (nI tg - nI t) ≤ 0 then (-1 : Int32) else (1 : Int32)) else (((nI tg - nI t) * nI g) / (100 : Int32))) = zI (jz t g tg) := by
  have hz := jz_rng ht h1 g1 g2
  have e1 : nI tg - nI t = zI ((tg : Int) - t) := by rw [nI_z, nI_z, zI_sub]
  have e2 : (nI tg - nI t) * nI g / (100 : Int32) = zI ((((tg : Int) - t) * g).tdiv 100) := by
    rw [e1, nI_z g, zI_mul, lit_z 100, zI_div (by omega) (by omega) (by decide) (by decide)]
    rfl
  have hb : -2147483648 ≤ (((tg : Int) - t) * g).tdiv 100 ∧ (((tg : Int) - t) * g).tdiv 100 < 2147483648 := by
    have h3 : ((((tg : Int) - t) * g).tdiv 100).natAbs ≤ (((tg : Int) - t) * g).natAbs := by
      rw [Int.natAbs_tdiv]
      exact Nat.div_le_self _ _
    omega
  rw [e2, e1]
  unfold jz
  by_cases c1 : (((tg : Int) - t) * g).tdiv 100 = 0
  · rw [if_pos c1, if_pos (by rw [c1]; decide)]
    by_cases c2 : (tg : Int) - t ≤ 0
    · rw [if_pos c2, if_pos (by rw [z0]; exact (zI_le (by omega) (by omega) (by omega) (by omega)).mpr c2)]
      rfl
    · rw [if_neg c2, if_neg (fun q => c2 (by rw [z0] at q; exact (zI_le (by omega) (by omega) (by omega) (by omega)).mp q))]
      rfl
  · rw [if_neg c1, if_neg (fun q => c1 (by rw [z0] at q; exact (zI_eq (by omega) (by omega) (by omega) (by omega)).mp q))]
theorem jt_z {t g tg : Nat} : zI (max 0 (min 29 ((t : Int) + jz t g tg))) = nI (jt t g tg) := by
  rw [nI_z]
  congr 1
  unfold jt
  omega
theorem c_jump {F M m f jc o os p s k j t g tg : Nat} {h : HP} {w : Nat → Int32} (sb : SB F M m f) (hso : os ≠ o) (se : SE F M m f (h os)) (hj : h os 5 = nI jc) (hjc : jc ≤ 20) (hw0 : h o = hw w p s k j) (hs : s < 2 ^ 20) (ht : t ≤ 29) (h1 : tg ≤ 29) (g1 : 60 ≤ g) (g2 : g ≤ 140) :
    f_X1_jump o (nI t) (nI tg) os (nI g) h = (nI (jt t g tg), sR h o (hw w (STn F M (jt t g tg)) (spN m (F + M * jt t g tg) (jc + dN (jt t g tg) t) s) (k + (jc + dN (jt t g tg) t)) (j + 1))) := by
  have hz := jz_rng ht h1 g1 g2
  have h29 := jt_le (t := t) (g := g) (tg := tg)
  have hfo := (FM_fo (t := jt t g tg) sb.1 (by omega)).2
  have e1 : jmax (0 : Int32) (jmin (29 : Int32) (nI t + zI (jz t g tg))) = nI (jt t g tg) := by
    rw [nI_z t, zI_add, lit_z 29, jmin_z (by omega) (by omega) (by omega) (by omega), z0, jmax_z (by omega) (by omega) (by omega) (by omega)]
    exact jt_z
  have e2 : jabs (nI (jt t g tg) - nI t) = nI (dN (jt t g tg) t) := jabs_n (by omega) (by omega)
  have e3 : jc + dN (jt t g tg) t ≤ 100 := by
    unfold dN
    omega
  rw [f_X1_jump]
  have key : (if (((nI tg - nI t) * nI g) / (100 : Int32)) = 0 then tb (if (nI tg - nI t) ≤ 0 then (-1 : Int32) else (1 : Int32)) (fun v => v) else (((nI tg - nI t) * nI g) / (100 : Int32))) = zI (jz t g tg) := jz_code ht h1 g1 g2
  rw [key, tb_s, e1, tb_s, e2, hj, nI_add, c_framesOf ⟨se.1, se.2.1⟩, c_spin hso se hw0 hs (by omega) e3 sb.2.2.1, tb_s]
  have ge : GE F M (sR h o (hw w p (spN m (F + M * jt t g tg) (jc + dN (jt t g tg) t) s) (k + (jc + dN (jt t g tg) t)) j)) os := by
    unfold GE
    rw [sR_o hso]
    exact ⟨se.1, se.2.1⟩
  rw [c_firstOf ge (by omega), hset_sR, sR_2, sR_s, tb_s, hset_sR, sR_2, sR_s, hw_u0, hw_5, nI_1, hw_u5]
/-- all the jumps of a seek -/
def jl (F M m jc g tg : Nat) : Nat → Nat → Nat → Nat → Nat → Nat → Nat × Nat × Nat × Nat
  | 0, _, p, s, k, j => (p, s, k, j)
  | i + 1, t, p, s, k, j => if t = tg then (p, s, k, j) else jl F M m jc g tg i (jt t g tg) (STn F M (jt t g tg)) (spN m (F + M * jt t g tg) (jc + dN (jt t g tg) t) s) (k + (jc + dN (jt t g tg) t)) (j + 1)
theorem c_goTo_L20 {F M m f jc o os g tg : Nat} {w : Nat → Int32} (sb : SB F M m f) (hso : os ≠ o) (hjc : jc ≤ 20) (h1 : tg ≤ 29) (g1 : 60 ≤ g) (g2 : g ≤ 140) : ∀ i n c t p s k j h, t ≤ 29 → dN t tg < i → i ≤ n → c + i ≤ 1000 → s < 2 ^ 20 → SE F M m f (h os) → h os 5 = nI jc → h o = hw w p s k j → f_X1_goTo_L20 n o os (nI g) (nI tg) (nI t) (nI c) h = some (sR h o (hw w (jl F M m jc g tg i t p s k j).1 (jl F M m jc g tg i t p s k j).2.1 (jl F M m jc g tg i t p s k j).2.2.1 (jl F M m jc g tg i t p s k j).2.2.2)) := by
  intro i
  induction i with
  | zero =>
    intro n c t p s k j h _ h2
    omega
  | succ i ih =>
    intro n c t p s k j h ht hd hn hc hs se hj hw0
    obtain ⟨n, rfl⟩ : ∃ n', n = n' + 1 := ⟨n - 1, by omega⟩
    rw [f_X1_goTo_L20, lit_n 100000, if_neg (nI_ge (by omega) (by omega)), jl]
    by_cases e : t = tg
    · subst e
      rw [if_pos rfl, if_pos rfl, ← hw0, sR_id]
    · have hp := jt_prog ht h1 g1 g2 e
      have hfo := FM_fo (t := jt t g tg) sb.1 (by omega)
      have hs2 : spN m (F + M * jt t g tg) (jc + dN (jt t g tg) t) s < 2 ^ 20 := by
        have := (spN_rng (m := m) (c := jc + dN (jt t g tg) t) (lo := 0) (hi := 2 ^ 20 - 1) (Nat.zero_le _) (show F + M * jt t g tg ≤ 2 ^ 20 - 1 by omega) (Nat.zero_le _) (show s ≤ 2 ^ 20 - 1 by omega)).2
        omega
      rw [if_neg (fun q => e ((nI_eq (by omega) (by omega)).mp q)), if_neg e, c_jump sb hso se hj hjc hw0 hs ht h1 g1 g2, tb_s, nI_1]
      rw [ih n (c + 1) (jt t g tg) _ _ _ _ _ (by omega) (by omega) (by omega) (by omega) hs2 (by rw [sR_o hso]; exact se) (by rw [sR_o hso]; exact hj) sR_s, sR_2]
theorem TU_st {F M t : Nat} (hF : FM F M) (ht : t ≤ 29) : TU F M (STn F M t) = t := by
  refine TU_of ht (Nat.le_refl _) ?_
  show _ < STn F M t + (F + M * t)
  have := (FM_fo (t := t) hF (by omega)).1
  omega
/-- the spin until the speed is near -/
def nl (m f g : Nat) : Nat → Nat → Nat → Nat × Nat
  | 0, s, k => (s, k)
  | i + 1, s, k => if dN g s ≤ f then (s, k) else nl m f g i (spN m g 1 s) (k + 1)
theorem c_isNear {F M m f o os p s k j g : Nat} {h : HP} {w : Nat → Int32} (se : SE F M m f (h os)) (hw0 : h o = hw w p s k j) (hs : s < 2 ^ 20) (hg : g < 2 ^ 20) (hf : f ≤ 5) : f_X1_isNear o (nI g) os h = if dN g s ≤ f then 1 else 0 := by
  have hd : dN g s < 2 ^ 21 := by
    unfold dN
    omega
  rw [f_X1_isNear, se.2.2.2, hw0, hw_1, jabs_n (by omega) (by omega), dN_comm s g]
  by_cases q : dN g s ≤ f
  · rw [if_neg (nI_nlt q (by omega)), if_pos q]
  · rw [if_pos (nI_lt (by omega) (by omega)), if_neg q]
theorem c_goTo_L63 {F M m f o os g : Nat} {w : Nat → Int32} (sb : SB F M m f) (hso : os ≠ o) (hg : g ≤ 220) : ∀ i n c p s k j h, dN g s < i → i ≤ n → c + i ≤ 1000 → s ≤ 220 → SE F M m f (h os) → h o = hw w p s k j → f_X1_goTo_L63 n o os (nI g) (nI c) h = some (sR h o (hw w p (nl m f g i s k).1 (nl m f g i s k).2 j)) := by
  intro i
  induction i with
  | zero =>
    intro n c p s k j h h2
    omega
  | succ i ih =>
    intro n c p s k j h hd hn hc hs se hw0
    obtain ⟨n, rfl⟩ : ∃ n', n = n' + 1 := ⟨n - 1, by omega⟩
    rw [f_X1_goTo_L63, lit_n 100000, if_neg (nI_ge (by omega) (by omega)), c_isNear se hw0 (by omega) (by omega) sb.2.2.2, nl]
    by_cases q : dN g s ≤ f
    · rw [if_pos q, if_pos q, if_neg (by decide), ← hw0, sR_id]
    · have hn2 := spN_near (g := g) (s := s) sb.2.1
      have hs2 := (spN_rng (m := m) (c := 1) (lo := 0) (Nat.zero_le _) hg (Nat.zero_le _) hs).2
      have hsp := c_spin (c := 1) (g := g) hso se hw0 (by omega) (by omega) (by decide) sb.2.2.1
      rw [if_neg q, if_neg q, if_pos rfl, lit_n 1, hsp, tb_s, ← lit_n 1, nI_1]
      rw [ih n (c + 1) _ _ _ _ _ (by omega) (by omega) (by omega) hs2 (by rw [sR_o hso]; exact se) sR_s, sR_2]
theorem jl_rng {F M m jc g tg : Nat} (hF : FM F M) (g1 : 60 ≤ g) (g2 : g ≤ 140) (hjc : jc ≤ 20) (h1 : tg ≤ 29) : ∀ i t p s k j, t ≤ 29 → dN t tg < i → 8 ≤ s → s ≤ 214 → (8 ≤ (jl F M m jc g tg i t p s k j).2.1 ∧ (jl F M m jc g tg i t p s k j).2.1 ≤ 214) ∧ (k ≤ (jl F M m jc g tg i t p s k j).2.2.1 ∧ (jl F M m jc g tg i t p s k j).2.2.1 ≤ k + 50 * i) ∧ (j ≤ (jl F M m jc g tg i t p s k j).2.2.2 ∧ (jl F M m jc g tg i t p s k j).2.2.2 ≤ j + i) ∧ ((t = tg ∧ (jl F M m jc g tg i t p s k j).1 = p) ∨ (jl F M m jc g tg i t p s k j).1 = STn F M tg) := by
  intro i
  induction i with
  | zero =>
    intro t p s k j _ h
    omega
  | succ i ih =>
    intro t p s k j ht hd s1 s2
    rw [jl]
    by_cases e : t = tg
    · rw [if_pos e]
      exact ⟨⟨s1, s2⟩, ⟨Nat.le_refl _, Nat.le_add_right _ _⟩, ⟨Nat.le_refl _, Nat.le_add_right _ _⟩, Or.inl ⟨e, rfl⟩⟩
    · have hp := jt_prog ht h1 g1 g2 e
      have hfo : F + M * jt t g tg ≤ 214 := by
        have := Nat.mul_le_mul hF.2.2 hp.1
        have := hF.2.1
        omega
      have hfo2 := (FM_fo (t := jt t g tg) hF (by omega)).1
      have hs2 := spN_rng (m := m) (c := jc + dN (jt t g tg) t) hfo2 hfo s1 s2
      have hd2 : jc + dN (jt t g tg) t ≤ 50 := by
        unfold dN
        omega
      rw [if_neg e]
      have := ih (jt t g tg) (STn F M (jt t g tg)) (spN m (F + M * jt t g tg) (jc + dN (jt t g tg) t) s) (k + (jc + dN (jt t g tg) t)) (j + 1) hp.1 (by omega) hs2.1 hs2.2
      refine ⟨this.1, by omega, by omega, ?_⟩
      rcases this.2.2.2 with q | q
      · rw [q.2, q.1]
        exact Or.inr rfl
      · exact Or.inr q
theorem nl_rng {m f g lo hi : Nat} (h1 : lo ≤ g) (h2 : g ≤ hi) : ∀ i s k, lo ≤ s → s ≤ hi → (lo ≤ (nl m f g i s k).1 ∧ (nl m f g i s k).1 ≤ hi) ∧ k ≤ (nl m f g i s k).2 ∧ (nl m f g i s k).2 ≤ k + i := by
  intro i
  induction i with
  | zero =>
    intro s k s1 s2
    exact ⟨⟨s1, s2⟩, Nat.le_refl _, Nat.le_refl _⟩
  | succ i ih =>
    intro s k s1 s2
    rw [nl]
    split
    · exact ⟨⟨s1, s2⟩, Nat.le_refl _, by omega⟩
    · have hs2 := spN_rng (m := m) (c := 1) h1 h2 s1 s2
      have := ih _ (k + 1) hs2.1 hs2.2
      exact ⟨this.1, by omega, by omega⟩
/-- a whole seek: speed, ticks, jumps after it -/
def skA (F M m jc g x p s k j : Nat) : Nat × Nat × Nat × Nat := jl F M m jc g (TU F M x) 31 (TU F M p) p s k j
def skB (F M m f jc g x p s k j : Nat) : Nat × Nat := nl m f (F + M * TU F M x) 300 (skA F M m jc g x p s k j).2.1 (skA F M m jc g x p s k j).2.2.1
def skS (F M m f jc g x p s k j : Nat) : Nat := (skB F M m f jc g x p s k j).1
def skK (F M m f jc g x p s k j : Nat) : Nat :=
  if (skA F M m jc g x p s k j).1 ≤ x then (skB F M m f jc g x p s k j).2 + (x - (skA F M m jc g x p s k j).1)
  else (skB F M m f jc g x p s k j).2 + (STn F M (TU F M x) + (F + M * TU F M x) - (skA F M m jc g x p s k j).1) + (x - STn F M (TU F M x))
def skJ (F M m jc g x p s k j : Nat) : Nat := (skA F M m jc g x p s k j).2.2.2
theorem sk_dN {F M p x : Nat} : dN (TU F M p) (TU F M x) < 31 := by
  have h1 := TU_le (F := F) (M := M) (f := p)
  have h2 := TU_le (F := F) (M := M) (f := x)
  unfold dN
  omega
theorem sk_A {F M m jc g x p s k j : Nat} (hF : FM F M) (g1 : 60 ≤ g) (g2 : g ≤ 140) (hjc : jc ≤ 20) (s1 : 8 ≤ s) (s2 : s ≤ 214) (hp : p ≤ STn F M 30) : (8 ≤ (skA F M m jc g x p s k j).2.1 ∧ (skA F M m jc g x p s k j).2.1 ≤ 214) ∧ (k ≤ (skA F M m jc g x p s k j).2.2.1 ∧ (skA F M m jc g x p s k j).2.2.1 ≤ k + 1550) ∧ (j ≤ (skA F M m jc g x p s k j).2.2.2 ∧ (skA F M m jc g x p s k j).2.2.2 ≤ j + 31) ∧ (skA F M m jc g x p s k j).1 ≤ STn F M (TU F M x) + (F + M * TU F M x) ∧ (skA F M m jc g x p s k j).1 ≤ 3810 := by
  have h2 := TU_le (F := F) (M := M) (f := x)
  have h3 := TU_le (F := F) (M := M) (f := p)
  have hT := (FM_tot hF).2.1
  have := jl_rng (m := m) hF g1 g2 hjc h2 31 (TU F M p) p s k j h3 sk_dN s1 s2
  have hst := FM_st (t := TU F M x) hF (by omega)
  unfold skA
  refine ⟨this.1, by omega, this.2.2.1, ?_, ?_⟩
  · rcases this.2.2.2 with q | q
    · rw [q.2, ← q.1]
      show p ≤ STn F M (TU F M p + 1)
      rcases Nat.lt_or_ge p (STn F M 30) with c | c
      · exact Nat.le_of_lt (TU_hi c)
      · rw [TU_end c]
        exact hp
    · omega
  · rcases this.2.2.2 with q | q <;> omega
theorem sk_B {F M m f jc g x p s k j : Nat} (hF : FM F M) (g1 : 60 ≤ g) (g2 : g ≤ 140) (hjc : jc ≤ 20) (s1 : 8 ≤ s) (s2 : s ≤ 214) (hp : p ≤ STn F M 30) (hx : x ≤ 3810) : (8 ≤ skS F M m f jc g x p s k j ∧ skS F M m f jc g x p s k j ≤ 214) ∧ (k ≤ skK F M m f jc g x p s k j ∧ skK F M m f jc g x p s k j ≤ k + 10000) ∧ (j ≤ skJ F M m jc g x p s k j ∧ skJ F M m jc g x p s k j ≤ j + 31) := by
  have h2 := TU_le (F := F) (M := M) (f := x)
  have hA := sk_A (m := m) (k := k) (j := j) (x := x) hF g1 g2 hjc s1 s2 hp
  have hfo : F + M * TU F M x ≤ 214 := by
    have := Nat.mul_le_mul hF.2.2 h2
    have := hF.2.1
    omega
  have hfo2 := (FM_fo (t := TU F M x) hF (by omega)).1
  have hst := FM_st (t := TU F M x) hF (by omega)
  have hB := nl_rng (m := m) (f := f) hfo2 hfo 300 (skA F M m jc g x p s k j).2.1 (skA F M m jc g x p s k j).2.2.1 hA.1.1 hA.1.2
  refine ⟨hB.1, ?_, hA.2.2.1⟩
  unfold skK skB
  split <;> omega
theorem c_goTo {F M m f jc o os g x p s k j : Nat} {w : Nat → Int32} {h : HP} (sb : SB F M m f) (hso : os ≠ o) (hjc : jc ≤ 20) (g1 : 60 ≤ g) (g2 : g ≤ 140) (se : SE F M m f (h os)) (hj : h os 5 = nI jc) (hw0 : h o = hw w p s k j) (s1 : 8 ≤ s) (s2 : s ≤ 214) (hp : p ≤ STn F M 30) (hx : x < STn F M 30) : f_X1_goTo o (nI x) os (nI g) h = some (sR h o (hw w x (skS F M m f jc g x p s k j) (skK F M m f jc g x p s k j) (skJ F M m jc g x p s k j))) := by
  have hT := (FM_tot sb.1).2.1
  have ge : ∀ {r}, GE F M (sR h o r) os := by
    intro r
    unfold GE
    rw [sR_o hso]
    exact ⟨se.1, se.2.1⟩
  have h2 := TU_le (F := F) (M := M) (f := x)
  have h3 := TU_le (F := F) (M := M) (f := p)
  have hA := sk_A (m := m) (k := k) (j := j) (x := x) sb.1 g1 g2 hjc s1 s2 hp
  have hst := FM_st (t := TU F M x) sb.1 (by omega)
  have hfo := FM_fo (t := TU F M x) sb.1 (by omega)
  have e0 : h o 0 = nI p := by rw [hw0]; rfl
  rw [f_X1_goTo, ob_e (c_turnOf ⟨se.1, se.2.1⟩ sb.1 (by omega)), e0, ob_e (c_turnOf ⟨se.1, se.2.1⟩ sb.1 (by omega))]
  have l20 := c_goTo_L20 sb hso hjc h2 g1 g2 31 FU 0 (TU F M p) p s k j h h3 sk_dN (by decide) (by decide) (by omega) se hj hw0
  rw [nI_0] at l20
  rw [ob_e l20, c_framesOf ge]
  have l63 := c_goTo_L63 (f := f) (w := w) sb hso hfo.2 300 FU 0 (skA F M m jc g x p s k j).1 (skA F M m jc g x p s k j).2.1 (skA F M m jc g x p s k j).2.2.1 (skA F M m jc g x p s k j).2.2.2 (sR h o (hw w (skA F M m jc g x p s k j).1 (skA F M m jc g x p s k j).2.1 (skA F M m jc g x p s k j).2.2.1 (skA F M m jc g x p s k j).2.2.2)) (by unfold dN; omega) (by decide) (by decide) (by omega) (by rw [sR_o hso]; exact se) sR_s
  rw [nI_0, sR_2] at l63
  refine (ob_e l63).trans ?_
  have lo := TU_lo (F := F) (M := M) (f := x)
  rw [sR_s, hw_0, hw_2, c_firstOf ge (by omega), nI_add]
  unfold skK skB
  by_cases q : (skA F M m jc g x p s k j).1 ≤ x
  · rw [if_pos (nI_le q (by omega)), if_pos q, tb_s, hset_sR, sR_s, sR_2, hw_0, hw_2, pk_sub q, nI_add, hw_u2, tb_s, hset_sR, sR_s, sR_2, hw_u0]
    rfl
  · rw [if_neg (nI_ge (by omega) (by omega)), if_neg q, hset_sR, sR_s, sR_2, pk_sub hA.2.2.2.1, nI_add, hw_u2, tb_s (a := sR h o _), hset_sR, sR_s, sR_2, hw_u0, tb_s, hset_sR, sR_s, sR_2, hw_0, hw_2, pk_sub lo, nI_add, hw_u2, tb_s, hset_sR, sR_s, sR_2, hw_u0]
    rfl
