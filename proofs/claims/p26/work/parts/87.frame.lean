/-! isFrameSo -/
theorem fr_L169 {T : Nat} {v : Nat → Int32} {l : List (Nat → Int32)} {g : Nat} (wf : WF T v) (hg : 5 * g + 5 ≤ TOT v) {h : HP} (k : KS h v l) : Gl (f_L_isFrameSo_L169 FU (nI g) (0 : Int32) (0 : Int32) h) v l (nI (grp (lyV v (-5)) g)) := by
  have t := wf.t3
  have step : ∀ n s i r h, i < 5 → KS h v l → (∀ h', KS h' v l → Gl (f_L_isFrameSo_L169 n (nI g) (nI (s + (lyV v (-5) (5 * g + i)).toNat)) (nI (i + 1)) h') v l r) → Gl (f_L_isFrameSo_L169 (n + 1) (nI g) (nI s) (nI i) h) v l r := by
    intro n s i r h hi k kk
    rw [f_L_isFrameSo_L169, if_neg (show ¬ (5 : Int32) ≤ nI i from nI_ge (b := 5) hi (by decide)), if_neg (nI_pos (by omega)), lit_n 5, pk_mul, nI_add]
    refine (q_f4 wf (show 5 * g + i < TOT v by omega) h l k).go (fun h' k' => ?_)
    dsimp only
    rw [bI_n, nI_add, nI_1]
    exact kk h' k'
  show Gl (f_L_isFrameSo_L169 (999994 + 1 + 1 + 1 + 1 + 1 + 1) (nI g) (nI 0) (nI 0) h) v l _
  refine step _ _ 0 _ _ (by decide) k (fun h k => ?_)
  refine step _ _ 1 _ _ (by decide) k (fun h k => ?_)
  refine step _ _ 2 _ _ (by decide) k (fun h k => ?_)
  refine step _ _ 3 _ _ (by decide) k (fun h k => ?_)
  refine step _ _ 4 _ _ (by decide) k (fun h k => ?_)
  rw [f_L_isFrameSo_L169, if_pos (show (5 : Int32) ≤ nI (4 + 1) by decide), Nat.zero_add]
  exact Gl.fin k
theorem sN_data {v : Nat → Int32} {f p : Nat} (w : WP v) (h4 : ¬ f % 5 = 4) : dSy v f p = nI (sN v f p) := by
  have := (sN_n (f := f) (q := p) w).2
  rw [sy, if_neg h4] at this
  exact this
theorem sN_chk {v : Nat → Int32} {f p : Nat} (w : WP v) (h4 : f % 5 = 4) : sN v f p = (sN v (f - 1) p + sN v (f - 2) p + sN v (f - 3) p + sN v (f - 4) p) % 16 := by
  have b1 := (sN_n (f := f - 1) (q := p) w).1
  have b2 := (sN_n (f := f - 2) (q := p) w).1
  have b3 := (sN_n (f := f - 3) (q := p) w).1
  have b4 := (sN_n (f := f - 4) (q := p) w).1
  have e : sy v f p = nI ((sN v (f - 4) p + sN v (f - 3) p + sN v (f - 2) p + sN v (f - 1) p) % 16) := by
    rw [sy, if_pos h4, suSy, sN_data w (show ¬ (f - 4) % 5 = 4 by omega), sN_data w (show ¬ (f - 3) % 5 = 4 by omega), sN_data w (show ¬ (f - 2) % 5 = 4 by omega), sN_data w (show ¬ (f - 1) % 5 = 4 by omega), nI_add, nI_add, nI_add, lit_n 16, jrem_n (by omega) (by decide) (by decide)]
  have e2 : sN v f p = (sN v (f - 4) p + sN v (f - 3) p + sN v (f - 2) p + sN v (f - 1) p) % 16 := by
    show (sy v f p).toNatClampNeg = _
    rw [e, nI_clamp (by omega)]
  rw [e2]
  congr 1
  omega
/-- the sum of the four symbols that a check goes by -/
theorem fr_L419 {T : Nat} {v : Nat → Int32} {l : List (Nat → Int32)} {f p : Nat} (wf : WF T v) (hf : f < TOT v) (hp : p < 4) {h : HP} (k : KS h v l) : (f % 5 = 4 → Gl (f_L_isFrameSo_L419 FU (nI f) (1 : Int32) (nI p) (0 : Int32) (1 : Int32) h) v l (nI (sN v (f - 1) p + sN v (f - 2) p + sN v (f - 3) p + sN v (f - 4) p))) ∧ Gl (f_L_isFrameSo_L419 FU (nI f) (0 : Int32) (nI p) (0 : Int32) (1 : Int32) h) v l (0 : Int32) := by
  have t := wf.t3
  constructor
  · intro h4
    have step : ∀ n s i r h, 1 ≤ i → i < 5 → KS h v l → (∀ h', KS h' v l → Gl (f_L_isFrameSo_L419 n (nI f) (1 : Int32) (nI p) (nI (s + sN v (f - i) p)) (nI (i + 1)) h') v l r) → Gl (f_L_isFrameSo_L419 (n + 1) (nI f) (1 : Int32) (nI p) (nI s) (nI i) h) v l r := by
      intro n s i r h h1 hi k kk
      rw [f_L_isFrameSo_L419, if_neg (show ¬ (5 : Int32) ≤ nI i from nI_ge (b := 5) hi (by decide)), if_neg (by decide), pk_sub (by omega)]
      refine (q_s0 wf (show f - i < TOT v by omega) hp h l k).go (fun h' k' => ?_)
      dsimp only
      rw [nI_add, nI_1]
      exact kk h' k'
    show Gl (f_L_isFrameSo_L419 (999995 + 1 + 1 + 1 + 1 + 1) (nI f) (1 : Int32) (nI p) (nI 0) (nI 1) h) v l _
    refine step _ _ 1 _ _ (by decide) (by decide) k (fun h k => ?_)
    refine step _ _ 2 _ _ (by decide) (by decide) k (fun h k => ?_)
    refine step _ _ 3 _ _ (by decide) (by decide) k (fun h k => ?_)
    refine step _ _ 4 _ _ (by decide) (by decide) k (fun h k => ?_)
    rw [f_L_isFrameSo_L419, if_pos (show (5 : Int32) ≤ nI (4 + 1) by decide), Nat.zero_add]
    exact Gl.fin k
  · show Gl (f_L_isFrameSo_L419 (999999 + 1) (nI f) (0 : Int32) (nI p) (0 : Int32) (1 : Int32) h) v l _
    rw [f_L_isFrameSo_L419, if_neg (by decide), if_pos rfl]
    exact Gl.fin k
/-- what is told of a symbol is so -/
theorem fr_told {T : Nat} {v : Nat → Int32} {l : List (Nat → Int32)} {f p : Nat} {x9 : Int32} (wf : WF T v) (hf : f < TOT v) (hp : p < 4) (h9 : f ≠ 0 → x9 = nI (bef f)) {h : HP} (k : KS h v l) : Gl (if (2 : Int32) ≤ nI (hwN v f) then
      if nI (hwN v f) = (3 : Int32) then
        if tdS v f p = (-5 : Int32) then
          some ((1 : Int32), h)
        else
          some ((0 : Int32), h)
      else
        ob (f_X10_symbol x9 (nI p) (0 : Int32) h) (fun q524 =>
        ob (f_X10_symbol (nI (aft f)) (nI p) (0 : Int32) q524.2) (fun q533 =>
        if tdS v f p = ((q524.1 + q533.1) / (2 : Int32)) then
          some ((1 : Int32), q533.2)
        else
          some ((0 : Int32), q533.2)))
    else
      if tdS v f p = nI (sN v f p) then
        some ((1 : Int32), h)
      else
        some ((0 : Int32), h)) v l (1 : Int32) := by
  have hl : hwN v f ≤ 3 := how_le
  have t := wf.t3
  unfold tdS
  by_cases q3 : hwN v f = 3
  · rw [if_pos (show (2 : Int32) ≤ nI (hwN v f) from nI_le (a := 2) (by omega) (by omega)), if_pos (show nI (hwN v f) = (3 : Int32) by rw [q3]; rfl), if_pos q3, if_pos rfl]
    exact Gl.fin k
  · have n3 : ¬ nI (hwN v f) = (3 : Int32) := fun e => q3 ((nI_eq (b := 3) (by omega) (by decide)).mp e)
    rw [if_neg q3]
    by_cases q2 : hwN v f = 2
    · obtain ⟨h4, h0, ha⟩ := how_2 q2
      have hb := bef_lt h0 h4
      have b1 := (sN_n (f := bef f) (q := p) wf.2.2.2).1
      have b2 := (sN_n (f := aft f) (q := p) wf.2.2.2).1
      rw [if_pos (show (2 : Int32) ≤ nI (hwN v f) from nI_le (a := 2) (by omega) (by omega)), if_neg n3, h9 h0]
      refine (q_s0 wf (show bef f < TOT v by omega) hp h l k).go (fun h k => ?_)
      dsimp only
      refine (q_s0 wf ha hp h l k).go (fun h k => ?_)
      dsimp only
      rw [nI_add, lit_n 2, pk_div (by omega) (by decide) (by decide), tdN, if_pos q2, flN, if_pos rfl]
      exact Gl.fin k
    · rw [if_neg (show ¬ (2 : Int32) ≤ nI (hwN v f) from nI_ge (b := 2) (by omega) (by decide)), tdN, if_neg q2, if_pos rfl]
      exact Gl.fin k
def pS (v : Nat → Int32) (f : Nat) : Nat → Nat
  | 0 => 0
  | p + 1 => pS v f p + (3 + sN v f p / 4)
def fS (v : Nat → Int32) (f : Nat) : Nat → Nat
  | 0 => 0
  | p + 1 => fS v f p + (3 + sN v f p % 4)
theorem mxL {a b : Nat} (ha : a < 2 ^ 31) (hb : b < 2 ^ 31) : (if nI b ≤ nI a then nI a else nI b) = nI (max a b) := by
  by_cases q : b ≤ a
  · rw [if_pos (nI_le q ha), Nat.max_eq_left q]
  · rw [if_neg (fun e => q ((nI_leI hb ha).mp e)), Nat.max_eq_right (by omega)]
theorem fr_B {v : Nat → Int32} {f : Nat} (w : WP v) : ∀ p, pS v f p ≤ 7 * p ∧ fS v f p ≤ 7 * p ∧ lrN v f p ≤ 7 := by
  intro p
  induction p with
  | zero => exact ⟨Nat.le_refl _, Nat.le_refl _, Nat.zero_le _⟩
  | succ p ih =>
    have b := (sN_n (f := f) (q := p) w).1
    rw [pS, fS, lrN]
    omega
theorem fr_L387 {T : Nat} {v : Nat → Int32} {l : List (Nat → Int32)} {f : Nat} {x6 x9 : Int32} (wf : WF T v) (hf : f < TOT v) (h6 : x6 = if f % 5 = 4 then (1 : Int32) else (0 : Int32)) (h9 : f ≠ 0 → x9 = nI (bef f)) : ∀ d n p h, p + d = 4 → d < n → KS h v l → ∃ h', f_L_isFrameSo_L387 n (nI f) (nI (hwN v f)) x6 (1 : Int32) x9 (nI (aft f)) (nI (lrN v f p)) (nI (pS v f p)) (nI (fS v f p)) (nI p) h = some ((1 : Int32), nI (lrN v f 4), nI (pS v f 4), nI (fS v f 4), h') ∧ KS h' v l := by
  have t := wf.t3
  intro d
  induction d with
  | zero =>
    intro n p h hp hn k
    obtain ⟨n, rfl⟩ : ∃ n', n = n' + 1 := ⟨n - 1, by omega⟩
    have : p = 4 := by omega
    subst this
    rw [f_L_isFrameSo_L387, if_pos (show (4 : Int32) ≤ nI 4 by decide)]
    exact ⟨h, rfl, k⟩
  | succ d ih =>
    intro n p h hp hn k
    obtain ⟨n, rfl⟩ : ∃ n', n = n' + 1 := ⟨n - 1, by omega⟩
    have bs := (sN_n (f := f) (q := p) wf.2.2.2).1
    have B := fr_B (f := f) wf.2.2.2 p
    rw [f_L_isFrameSo_L387, if_neg (show ¬ (4 : Int32) ≤ nI p from nI_ge (b := 4) (by omega) (by decide))]
    obtain ⟨h1, e1, k1⟩ := q_s0 wf hf (show p < 4 by omega) h l k
    rw [ob_e e1]
    dsimp only
    obtain ⟨h2, e2, k2⟩ := q_s1 wf hf (show p < 4 by omega) h1 l k1
    rw [ob_e e2]
    dsimp only
    have fin : ∀ h', KS h' v l → ∃ h'', tb (nI (pS v f p) + ((3 : Int32) + (nI (sN v f p) / (4 : Int32)))) (fun v570 =>
        tb (nI (fS v f p) + ((3 : Int32) + (jrem (nI (sN v f p)) (4 : Int32)))) (fun v577 =>
        tb ((if ((3 : Int32) + (nI (sN v f p) / (4 : Int32))) ≤ nI (lrN v f p) then nI (lrN v f p) else ((3 : Int32) + (nI (sN v f p) / (4 : Int32))))) (fun v593 =>
        tb ((if ((3 : Int32) + (jrem (nI (sN v f p)) (4 : Int32))) ≤ v593 then v593 else ((3 : Int32) + (jrem (nI (sN v f p)) (4 : Int32))))) (fun v609 =>
        f_L_isFrameSo_L387 n (nI f) (nI (hwN v f)) x6 (1 : Int32) x9 (nI (aft f)) v609 v570 v577 (nI p + (1 : Int32)) h')))) = some ((1 : Int32), nI (lrN v f 4), nI (pS v f 4), nI (fS v f 4), h'') ∧ KS h'' v l := by
      intro h' k'
      have ea : (3 : Int32) + (nI (sN v f p) / (4 : Int32)) = nI (3 + sN v f p / 4) := by rw [lit_n 4, pk_div (by omega) (by decide) (by decide), lit_n 3, nI_add]
      have eb : (3 : Int32) + (jrem (nI (sN v f p)) (4 : Int32)) = nI (3 + sN v f p % 4) := by rw [lit_n 4, jrem_n (by omega) (by decide) (by decide), lit_n 3, nI_add]
      rw [ea, eb, tb_s, tb_s, tb_s, tb_s, mxL (by omega) (by omega), mxL (by omega) (by omega), nI_add, nI_add, nI_1]
      have el : max (max (lrN v f p) (3 + sN v f p / 4)) (3 + sN v f p % 4) = lrN v f (p + 1) := by
        rw [lrN]
        omega
      rw [el]
      exact ih n (p + 1) h' (by omega) (by omega) k'
    by_cases c4 : f % 5 = 4
    · rw [if_pos c4] at h6
      subst h6
      obtain ⟨h3, e3, k3⟩ := (fr_L419 wf hf (show p < 4 by omega) k2).1 c4
      rw [ob_e e3]
      dsimp only
      obtain ⟨h4, e4, k4⟩ := fr_told wf hf (show p < 4 by omega) h9 k3
      have es : jrem (nI (sN v (f - 1) p + sN v (f - 2) p + sN v (f - 3) p + sN v (f - 4) p)) (16 : Int32) = nI (sN v f p) := by
        have b1 := (sN_n (f := f - 1) (q := p) wf.2.2.2).1
        have b2 := (sN_n (f := f - 2) (q := p) wf.2.2.2).1
        have b3 := (sN_n (f := f - 3) (q := p) wf.2.2.2).1
        have b4 := (sN_n (f := f - 4) (q := p) wf.2.2.2).1
        rw [lit_n 16, jrem_n (by omega) (by decide) (by decide), ← sN_chk wf.2.2.2 c4]
      rw [es, if_neg (show ¬ (1 : Int32) = 0 by decide), if_neg (nI_pos (by omega)), if_neg (show ¬ (16 : Int32) ≤ nI (sN v f p) from nI_ge (b := 16) bs (by decide)), if_neg (show ¬ (1 : Int32) = 0 by decide), if_pos rfl, ob_e e4]
      exact fin h4 k4
    · rw [if_neg c4] at h6
      subst h6
      obtain ⟨h3, e3, k3⟩ := (fr_L419 wf hf (show p < 4 by omega) k2).2
      rw [ob_e e3]
      dsimp only
      obtain ⟨h4, e4, k4⟩ := fr_told wf hf (show p < 4 by omega) h9 k3
      rw [if_neg (show ¬ (1 : Int32) = 0 by decide), if_neg (nI_pos (by omega)), if_neg (show ¬ (16 : Int32) ≤ nI (sN v f p) from nI_ge (b := 16) bs (by decide)), if_pos rfl, ob_e e4]
      exact fin h4 k4
/-- whether a frame could be filled -/
def cfB (v : Nat → Int32) (f : Nat) : Bool := decide (f % 5 ≠ 4 ∧ f ≠ 0 ∧ aft f < TOT v ∧ snd (lyV v (-5)) (bef f) = true ∧ snd (lyV v (-5)) (aft f) = true)
theorem fr_can {T : Nat} {v : Nat → Int32} {l : List (Nat → Int32)} {f : Nat} {x6 x9 : Int32} (wf : WF T v) (hf : f < TOT v) (h6 : x6 = if f % 5 = 4 then (1 : Int32) else (0 : Int32)) (h9 : f ≠ 0 → x9 = nI (bef f)) (h90 : f = 0 → x9 < 0) {h : HP} (k : KS h v l) : Gl (if x6 = 0 then
      if x9 < 0 then
        some ((0 : Int32), h)
      else
        if nI (TOT v) ≤ nI (aft f) then
          some ((0 : Int32), h)
        else
          ob (f_X10_frame x9 (5 : Int32) h) (fun q305 =>
          if (2 : Int32) ≤ q305.1 then
            some ((0 : Int32), q305.2)
          else
            ob (f_X10_frame (nI (aft f)) (5 : Int32) q305.2) (fun q316 =>
            if (2 : Int32) ≤ q316.1 then
              some ((0 : Int32), q316.2)
            else
              some ((1 : Int32), q316.2)))
    else
      some ((0 : Int32), h)) v l (bI (cfB v f)) := by
  have t := wf.t3
  have al := aft_le (f := f)
  have no : ∀ {b : Bool} {h : HP}, b = false → KS h v l → Gl (some ((0 : Int32), h)) v l (bI b) := fun e k => by
    rw [e]
    exact Gl.fin k
  subst h6
  by_cases c4 : f % 5 = 4
  · rw [if_pos c4, if_neg (show ¬ (1 : Int32) = 0 by decide)]
    exact no (decide_eq_false (fun e => e.1 c4)) k
  rw [if_neg c4, if_pos rfl]
  by_cases c0 : f = 0
  · rw [if_pos (h90 c0)]
    exact no (decide_eq_false (fun e => e.2.1 c0)) k
  have hb := bef_lt c0 c4
  rw [h9 c0, if_neg (nI_pos (by omega))]
  by_cases ca : aft f < TOT v
  · have l1 : hwN v (bef f) ≤ 3 := how_le
    have l2 : hwN v (aft f) ≤ 3 := how_le
    have s1 := how_le1 (b := lyV v (-5)) (T := TOT v) (f := bef f)
    have s2 := how_le1 (b := lyV v (-5)) (T := TOT v) (f := aft f)
    have w1 : how (lyV v (-5)) (TOT v) (bef f) = hwN v (bef f) := rfl
    have w2 : how (lyV v (-5)) (TOT v) (aft f) = hwN v (aft f) := rfl
    rw [w1] at s1
    rw [w2] at s2
    rw [if_neg (nI_ge ca (by omega))]
    refine (q_f5 wf (show bef f < TOT v by omega) h l k).go (fun h k => ?_)
    dsimp only
    by_cases q1 : hwN v (bef f) ≤ 1
    · rw [if_neg (show ¬ (2 : Int32) ≤ nI (hwN v (bef f)) from nI_ge (b := 2) (by omega) (by decide))]
      refine (q_f5 wf ca h l k).go (fun h k => ?_)
      dsimp only
      by_cases q2 : hwN v (aft f) ≤ 1
      · rw [if_neg (show ¬ (2 : Int32) ≤ nI (hwN v (aft f)) from nI_ge (b := 2) (by omega) (by decide))]
        have e : cfB v f = true := decide_eq_true ⟨c4, c0, ca, s1.mp q1, s2.mp q2⟩
        rw [e]
        exact Gl.fin k
      · rw [if_pos (show (2 : Int32) ≤ nI (hwN v (aft f)) from nI_le (a := 2) (by omega) (by omega))]
        exact no (decide_eq_false (fun e => q2 (s2.mpr e.2.2.2.2))) k
    · rw [if_pos (show (2 : Int32) ≤ nI (hwN v (bef f)) from nI_le (a := 2) (by omega) (by omega))]
      exact no (decide_eq_false (fun e => q1 (s1.mpr e.2.2.2.1))) k
  · rw [if_pos (nI_le (by omega) (by omega))]
    exact no (decide_eq_false (fun e => ca e.2.2.1)) k
theorem fr_373 {v : Nat → Int32} {f : Nat} : (if (1 : Int32) = 0 then (0 : Int32) else (if nI (hwN v f) = (2 : Int32) then (if bI (cfB v f) = 0 then (0 : Int32) else (if nI (hwN v f) = (3 : Int32) then (if bI (cfB v f) = 0 then (if nI (hwN v f) < 0 then (0 : Int32) else (if (4 : Int32) ≤ nI (hwN v f) then (0 : Int32) else (1 : Int32))) else (0 : Int32)) else (if nI (hwN v f) < 0 then (0 : Int32) else (if (4 : Int32) ≤ nI (hwN v f) then (0 : Int32) else (1 : Int32))))) else (if nI (hwN v f) = (3 : Int32) then (if bI (cfB v f) = 0 then (if nI (hwN v f) < 0 then (0 : Int32) else (if (4 : Int32) ≤ nI (hwN v f) then (0 : Int32) else (1 : Int32))) else (0 : Int32)) else (if nI (hwN v f) < 0 then (0 : Int32) else (if (4 : Int32) ≤ nI (hwN v f) then (0 : Int32) else (1 : Int32)))))) = (1 : Int32) := by
  have hl : hwN v f ≤ 3 := how_le
  have e : hwN v f = if lyV v (-5) f = false then 0 else if grp (lyV v (-5)) (f / 5) = 1 then 1 else if f % 5 ≠ 4 ∧ f ≠ 0 ∧ aft f < TOT v ∧ snd (lyV v (-5)) (bef f) = true ∧ snd (lyV v (-5)) (aft f) = true then 2 else 3 := rfl
  have c2 : hwN v f = 2 → cfB v f = true := by
    intro h
    rw [e] at h
    split at h
    · omega
    · split at h
      · omega
      · split at h
        · next q => exact decide_eq_true q
        · omega
  have c3 : hwN v f = 3 → cfB v f = false := by
    intro h
    rw [e] at h
    split at h
    · omega
    · split at h
      · omega
      · split at h
        · omega
        · next q => exact decide_eq_false q
  generalize hwN v f = w at *
  have c : w = 0 ∨ w = 1 ∨ w = 2 ∨ w = 3 := by omega
  rcases c with q | q | q | q
  · subst q
    cases cfB v f <;> decide
  · subst q
    cases cfB v f <;> decide
  · rw [c2 q]
    subst q
    decide
  · rw [c3 q]
    subst q
    decide
theorem bI_eq {a b : Bool} : (bI a = bI b) ↔ a = b := by
  cases a <;> cases b <;> decide
theorem ite_b {p : Prop} [Decidable p] : (if p then (1 : Int32) else (0 : Int32)) = bI (decide p) := by
  by_cases q : p
  · rw [if_pos q, decide_eq_true q]
    rfl
  · rw [if_neg q, decide_eq_false q]
    rfl
theorem fr_main {T : Nat} {v : Nat → Int32} {l : List (Nat → Int32)} {f : Nat} (wf : WF T v) (hf : f < TOT v) {h : HP} (k : KS h v l) : Gl (f_L_isFrameSo (nI f) h) v l (1 : Int32) := by
  have t := wf.t3
  have fm := wf.1.fm
  have hTU := TU_le (F := N v 0) (M := N v 1) (f := f)
  have lo := TU_lo (F := N v 0) (M := N v 1) (f := f)
  have hi : f < STn (N v 0) (N v 1) (TU (N v 0) (N v 1) f) + (N v 0 + N v 1 * TU (N v 0) (N v 1) f) := TU_hi hf
  have hfo := FM_fo (t := TU (N v 0) (N v 1) f) fm (by omega)
  have hl : hwN v f ≤ 3 := how_le
  have gl := grp_le (b := lyV v (-5)) (g := f / 5)
  have eh : hwN v f = if lyV v (-5) f = false then 0 else if grp (lyV v (-5)) (f / 5) = 1 then 1 else if f % 5 ≠ 4 ∧ f ≠ 0 ∧ aft f < TOT v ∧ snd (lyV v (-5)) (bef f) = true ∧ snd (lyV v (-5)) (aft f) = true then 2 else 3 := rfl
  have al := aft_le (f := f)
  rw [f_L_isFrameSo]
  refine (q_c0 wf h l k).go (fun h k => ?_)
  dsimp only
  refine (q_f0 wf hf h l k).go (fun h k => ?_)
  dsimp only
  refine (q_f2 wf hf h l k).go (fun h k => ?_)
  dsimp only
  refine (q_f5 wf hf h l k).go (fun h k => ?_)
  dsimp only
  refine (q_f3 wf hf h l k).go (fun h k => ?_)
  dsimp only
  have e44 : (if (if f % 5 = 4 then (1 : Int32) else (0 : Int32)) = (1 : Int32) then (1 : Int32) else (0 : Int32)) = if f % 5 = 4 then (1 : Int32) else (0 : Int32) := by
    by_cases c : f % 5 = 4
    · rw [if_pos c, if_pos rfl]
    · rw [if_neg c, if_neg (by decide)]
  rw [e44, tb_s]
  obtain ⟨x6, h6⟩ : ∃ x6, x6 = if f % 5 = 4 then (1 : Int32) else (0 : Int32) := ⟨_, rfl⟩
  rw [← h6]
  refine (q_t1 wf (show TU (N v 0) (N v 1) f < 30 by omega) h l k).go (fun h k => ?_)
  dsimp only
  refine (q_f1 wf hf h l k).go (fun h k => ?_)
  dsimp only
  refine Gl.go (r := (1 : Int32)) (v := v) (l := l) ?_ (fun h k => ?_)
  · rw [nI_add, if_pos (show nI (STn (N v 0) (N v 1) (TU (N v 0) (N v 1) f) + (f - STn (N v 0) (N v 1) (TU (N v 0) (N v 1) f))) = nI f by congr 1; omega)]
    refine (q_f1 wf hf h l k).go (fun h k => ?_)
    dsimp only
    refine (q_t0 wf (show TU (N v 0) (N v 1) f < 30 by omega) h l k).go (fun h k => ?_)
    dsimp only
    have g1 : (if nI (f / 5) = (-5 : Int32) then (1 : Int32) else (0 : Int32)) = (if nI f < ((nI (TOT v) / (5 : Int32)) * (5 : Int32)) then (0 : Int32) else (1 : Int32)) := by
      rw [if_neg (show ¬ nI (f / 5) = (-5 : Int32) from nI_n5' (by omega)), lit_n 5, pk_div (by omega) (by decide) (by decide), pk_mul, show TOT v / 5 * 5 = TOT v by omega, if_pos (nI_lt hf (by omega))]
    have g2 : x6 = (if nI (f / 5) < 0 then (0 : Int32) else (if (jrem (nI f) (5 : Int32)) = (4 : Int32) then (1 : Int32) else (0 : Int32))) := by
      rw [if_neg (nI_pos (by omega)), lit_n 5, jrem_n (by omega) (by decide) (by decide), h6]
      by_cases c : f % 5 = 4
      · rw [if_pos c, if_pos (show nI (f % 5) = (4 : Int32) by rw [c]; rfl)]
      · rw [if_neg c, if_neg (show ¬ nI (f % 5) = (4 : Int32) from fun e => c ((nI_eq (b := 4) (by omega) (by decide)).mp e))]
    rw [if_neg (nI_ge (by omega) (by omega)), if_pos g1, if_pos g2]
    refine (q_f4 wf hf h l k).go (fun h k => ?_)
    dsimp only
    have g3 : (if nI (hwN v f) = 0 then (1 : Int32) else (0 : Int32)) = (if bI (lyV v (-5) f) = 0 then (1 : Int32) else (0 : Int32)) := by
      have := how_0 (b := lyV v (-5)) (T := TOT v) (f := f)
      have w1 : how (lyV v (-5)) (TOT v) f = hwN v f := rfl
      rw [w1] at this
      by_cases c : hwN v f = 0
      · rw [if_pos (show nI (hwN v f) = 0 by rw [c]; rfl), if_pos (bI_0.mpr (this.mp c))]
      · rw [if_neg (nI_ne0 (by omega) (by omega)), if_neg (fun e => c (this.mpr (bI_0.mp e)))]
    rw [if_pos g3]
    exact Gl.fin k
  dsimp only
  refine (fr_L169 wf (show 5 * (f / 5) + 5 ≤ TOT v by omega) k).go (fun h k => ?_)
  dsimp only
  refine Gl.go (r := (1 : Int32)) (v := v) (l := l) ?_ (fun h k => ?_)
  · rw [if_neg (show ¬ (1 : Int32) = 0 by decide)]
    refine (q_f4 wf hf h l k).go (fun h k => ?_)
    dsimp only
    have g4 : (if nI (hwN v f) = (1 : Int32) then (1 : Int32) else (0 : Int32)) = (if bI (lyV v (-5) f) = (1 : Int32) then (if nI (grp (lyV v (-5)) (f / 5)) = (1 : Int32) then (1 : Int32) else (0 : Int32)) else (0 : Int32)) := by
      cases hb : lyV v (-5) f with
      | false =>
        have : hwN v f = 0 := by rw [eh, if_pos hb]
        rw [this, if_neg (show ¬ nI 0 = (1 : Int32) by decide), if_neg (show ¬ bI false = (1 : Int32) by decide)]
      | true =>
        rw [if_pos (show bI true = (1 : Int32) from rfl)]
        by_cases c : grp (lyV v (-5)) (f / 5) = 1
        · have : hwN v f = 1 := by rw [eh, if_neg (by rw [hb]; decide), if_pos c]
          rw [this, c, if_pos (show nI 1 = (1 : Int32) from rfl)]
        · have : hwN v f ≠ 1 := by
            rw [eh, if_neg (by rw [hb]; decide), if_neg c]
            split <;> omega
          rw [if_neg (show ¬ nI (hwN v f) = (1 : Int32) from fun e => this ((nI_eq (b := 1) (by omega) (by decide)).mp e)), if_neg (show ¬ nI (grp (lyV v (-5)) (f / 5)) = (1 : Int32) from fun e => c ((nI_eq (b := 1) (by omega) (by decide)).mp e))]
    rw [if_pos g4]
    exact Gl.fin k
  dsimp only
  rw [lit_n 5, jrem_n (by omega) (by decide) (by decide)]
  obtain ⟨x9, e9⟩ : ∃ x9, x9 = (if nI (f % 5) = 0 then (nI f - (2 : Int32)) else (nI f - (1 : Int32))) := ⟨_, rfl⟩
  have h9 : f ≠ 0 → x9 = nI (bef f) := fun c => by
    rw [e9, bef]
    by_cases c5 : f % 5 = 0
    · rw [if_pos (show nI (f % 5) = 0 by rw [c5]; rfl), if_pos c5, lit_n 2, pk_sub (by omega)]
    · rw [if_neg (nI_ne0 (by omega) (by omega)), if_neg c5, lit_n 1, pk_sub (by omega)]
  have h90 : f = 0 → x9 < 0 := fun c => by
    rw [e9]
    subst c
    decide
  have e10 : (if nI (f % 5) = (3 : Int32) then (nI f + (2 : Int32)) else (nI f + (1 : Int32))) = nI (aft f) := by
    rw [aft]
    by_cases c3 : f % 5 = 3
    · rw [if_pos (show nI (f % 5) = (3 : Int32) by rw [c3]; rfl), if_pos c3, lit_n 2, nI_add]
    · rw [if_neg (show ¬ nI (f % 5) = (3 : Int32) from fun e => c3 ((nI_eq (b := 3) (by omega) (by decide)).mp e)), if_neg c3, nI_1]
  rw [← e9, e10, tb_s, tb_s]
  refine (fr_can wf hf h6 h9 h90 k).go (fun h k => ?_)
  dsimp only
  rw [fr_373, tb_s]
  obtain ⟨h', e', k'⟩ := fr_L387 (x6 := x6) (x9 := x9) wf hf h6 h9 4 FU 0 h rfl (by decide) k
  have e' : f_L_isFrameSo_L387 FU (nI f) (nI (hwN v f)) x6 (1 : Int32) x9 (nI (aft f)) (0 : Int32) (0 : Int32) (0 : Int32) (0 : Int32) h = some ((1 : Int32), nI (lrN v f 4), nI (pS v f 4), nI (fS v f 4), h') := e'
  rw [ob_e e']
  dsimp only
  have ep : pS v f 4 = pT v f := by
    simp only [pS, pT]
    omega
  have ef : fS v f 4 = fT v f := by
    simp only [fS, fT]
    omega
  have B := fr_B (f := f) wf.2.2.2 4
  rw [if_neg (show ¬ (1 : Int32) = 0 by decide), ep, ef]
  rw [ep, ef] at B
  refine (q_f6 wf hf h' l k').go (fun h k => ?_)
  dsimp only
  rw [nI_add, if_pos rfl]
  refine (q_f7 wf hf h l k).go (fun h k => ?_)
  dsimp only
  rw [if_pos (show zI ((pT v f : Int) - fT v f) + (100 : Int32) = (nI (pT v f) - nI (fT v f)) + (100 : Int32) by rw [nI_z, nI_z, zI_sub])]
  refine (q_f8 wf hf h l k).go (fun h k => ?_)
  dsimp only
  rw [if_pos rfl]
  exact Gl.fin k
