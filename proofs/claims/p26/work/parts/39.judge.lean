/-! the class's survey: judged -/
theorem grp_le {b : Nat → Bool} {g : Nat} : grp b g ≤ 5 := by
  unfold grp
  have := Bool.toNat_le (b (5 * g))
  have := Bool.toNat_le (b (5 * g + 1))
  have := Bool.toNat_le (b (5 * g + 2))
  have := Bool.toNat_le (b (5 * g + 3))
  have := Bool.toNat_le (b (5 * g + 4))
  omega
theorem judgeGroup {b : Nat → Bool} {m : Int32} {g : Nat} {h : HP} (hg : 5 * g + 5 ≤ 3810) (s : MS b m h) (p : ∀ f, f < 5 * g → h 68 f = nI (how0 b f)) : ∃ h', f_X7_judgeGroup (nI (5 * g)) (nI (5 * g + 5)) m h = some h' ∧ (∀ f, f < 5 * g + 5 → h' 68 f = nI (how0 b f)) ∧ ∀ o, o ≠ 68 → h' o = h o := by
  have hgl := grp_le (b := b) (g := g)
  have e5 : nI (5 * g + 5) - nI (5 * g) = (5 : Int32) := by
    rw [pk_sub (by omega), Nat.add_sub_cancel_left]
    rfl
  have key : ∀ x, (∀ f, f / 5 = g → b f = true → how0 b f = x) → ∃ h', f_X7_judgeGroup_L40 FU (nI (5 * g + 5)) m (nI x) (nI (5 * g)) h = some h' ∧ (∀ f, f < 5 * g + 5 → h' 68 f = nI (how0 b f)) ∧ ∀ o, o ≠ 68 → h' o = h o := fun x hx => judgeGroup_L40 hg hx 5 FU 0 h rfl (by decide) s p
  by_cases q : grp b g = 1
  · obtain ⟨h', e1, e2, e3⟩ := key 1 (fun f hf hb => by
      unfold how0
      rw [if_neg (by simp [hb]), if_pos (by rw [hf]; exact q)])
    refine ⟨h', ?_, e2, e3⟩
    rw [f_X7_judgeGroup, if_pos e5, ob_e (damagedIn5 s hg), q, if_pos (show nI 1 = (1 : Int32) from rfl), ob_s, if_neg (show ¬ (1 : Int32) = 0 by decide), tb_s]
    exact ob_e (k := fun r => some r) e1
  · obtain ⟨h', e1, e2, e3⟩ := key 3 (fun f hf hb => by
      unfold how0
      rw [if_neg (by simp [hb]), if_neg (by rw [hf]; exact q)])
    refine ⟨h', ?_, e2, e3⟩
    rw [f_X7_judgeGroup, if_pos e5, ob_e (damagedIn5 s hg), if_neg (show ¬ nI (grp b g) = (1 : Int32) from fun c => q ((nI_eq (b := 1) (by omega) (by decide)).mp c)), ob_s, if_pos (show (0 : Int32) = 0 from rfl), tb_s]
    exact ob_e (k := fun r => some r) e1
theorem MS.of {b : Nat → Bool} {m : Int32} {h h' : HP} (s : MS b m h) (e : h' 67 = h 67) : MS b m h' := by
  unfold MS
  rw [e]
  exact s
theorem judge_L10 {b : Nat → Bool} {m : Int32} {G : Nat} (hG : 5 * G ≤ 3810) : ∀ d n g h, g + d = G → d < n → MS b m h → (∀ f, f < 5 * g → h 68 f = nI (how0 b f)) → ∃ h', f_X7_judge_L10 n m (nI (5 * G)) (nI (5 * g)) h = some h' ∧ (∀ f, f < 5 * G → h' 68 f = nI (how0 b f)) ∧ ∀ o, o ≠ 68 → h' o = h o := by
  intro d
  induction d with
  | zero =>
    intro n g h hg hn s p
    obtain ⟨n, rfl⟩ : ∃ n', n = n' + 1 := ⟨n - 1, by omega⟩
    rw [f_X7_judge_L10, if_pos (nI_le (by omega) (by omega))]
    exact ⟨h, rfl, fun f hf => p f (by omega), fun _ _ => rfl⟩
  | succ d ih =>
    intro n g h hg hn s p
    obtain ⟨n, rfl⟩ : ∃ n', n = n' + 1 := ⟨n - 1, by omega⟩
    obtain ⟨h1, e1, p1, f1⟩ := judgeGroup (show 5 * g + 5 ≤ 3810 by omega) s p
    obtain ⟨h2, e2, p2, f2⟩ := ih n (g + 1) h1 (by omega) (by omega) (s.of (f1 67 (by decide))) (fun f hf => p1 f (by omega))
    rw [f_X7_judge_L10, if_neg (nI_ge (by omega) (by omega)), lit_n 5, nI_add, jmin_n (by omega) (by omega), Nat.min_eq_left (by omega), ob_e e1]
    exact ⟨h2, e2, p2, fun o ho => (f2 o ho).trans (f1 o ho)⟩
theorem how_le1 {b : Nat → Bool} {T f : Nat} : how b T f ≤ 1 ↔ snd b f = true := by
  unfold how snd
  cases b f with
  | false => simp
  | true =>
    by_cases q : grp b (f / 5) = 1
    · simp [q]
    · simp only [q]
      simp
      split <;> omega
theorem how0_le1 {b : Nat → Bool} {f : Nat} : how0 b f ≤ 1 ↔ snd b f = true := by
  unfold how0 snd
  cases b f with
  | false => simp
  | true =>
    by_cases q : grp b (f / 5) = 1
    · simp [q]
    · simp [q]
theorem how0_le {b : Nat → Bool} {f : Nat} : how0 b f ≤ 3 := by
  unfold how0
  repeat' split
  all_goals omega
theorem judge_L36 {b : Nat → Bool} {T : Nat} (hT : T ≤ 3810) : ∀ d n c h, c + d = T → d < n → (∀ f, f < c → h 68 f = nI (how b T f)) → (∀ f, c ≤ f → f < T → h 68 f = nI (how0 b f)) → ∃ h', f_X7_judge_L36 n (nI T) (nI c) h = some h' ∧ (∀ f, f < T → h' 68 f = nI (how b T f)) ∧ ∀ o, o ≠ 68 → h' o = h o := by
  have l68 : ln 68 = 3810 := by decide
  intro d
  induction d with
  | zero =>
    intro n c h hc hn p1 p2
    obtain ⟨n, rfl⟩ : ∃ n', n = n' + 1 := ⟨n - 1, by omega⟩
    rw [f_X7_judge_L36, if_pos (nI_le (by omega) (by omega))]
    exact ⟨h, rfl, fun f hf => p1 f (by omega), fun _ _ => rfl⟩
  | succ d ih =>
    intro n c h hc hn p1 p2
    obtain ⟨n, rfl⟩ : ∃ n', n = n' + 1 := ⟨n - 1, by omega⟩
    rw [f_X7_judge_L36, if_neg (nI_ge (by omega) (by omega)), at_n (by omega), p2 c (Nat.le_refl _) (by omega)]
    have h03 := how0_le (b := b) (f := c)
    have le1 : ∀ f, f < T → f ≠ c → ((1 : Int32) < h 68 f ↔ ¬ snd b f = true) := by
      intro f hf hne
      rw [lit_n 1]
      by_cases q : f < c
      · have := how_le (b := b) (T := T) (f := f)
        rw [p1 f q, nI_ltI (by omega) (by omega), ← how_le1 (T := T)]
        omega
      · have := how0_le (b := b) (f := f)
        rw [p2 f (by omega) hf, nI_ltI (by omega) (by omega), ← how0_le1]
        omega
    have keep : how0 b c = how b T c → ∃ h', f_X7_judge_L36 n (nI T) (nI (c + 1)) h = some h' ∧ (∀ f, f < T → h' 68 f = nI (how b T f)) ∧ ∀ o, o ≠ 68 → h' o = h o := fun e => ih n (c + 1) h (by omega) (by omega) (fun f hf => by
      by_cases q : f = c
      · subst q
        rw [p2 f (Nat.le_refl _) (by omega), e]
      · exact p1 f (by omega)) (fun f h1 h2 => p2 f (by omega) h2)
    rw [nI_1]
    by_cases q3 : how0 b c = 3
    · have hb : b c = true ∧ ¬ grp b (c / 5) = 1 := by
        unfold how0 at q3
        cases hb : b c with
        | false => simp [hb] at q3
        | true =>
          refine ⟨rfl, fun e => ?_⟩
          simp [hb, e] at q3
      rw [if_pos (show nI (how0 b c) = (3 : Int32) by rw [q3]; rfl), f_X7_canBeFilled, c_isCheck (by omega)]
      have hw3 : how b T c = if c % 5 ≠ 4 ∧ c ≠ 0 ∧ aft c < T ∧ snd b (bef c) = true ∧ snd b (aft c) = true then 2 else 3 := by
        unfold how
        rw [if_neg (by simp [hb.1]), if_neg hb.2]
      by_cases q4 : c % 5 = 4
      · rw [if_pos q4, if_neg (show ¬ (1 : Int32) = 0 by decide), if_pos (show (0 : Int32) = 0 from rfl), tb_s]
        exact keep (by rw [hw3, q3, if_neg (fun e => e.1 q4)])
      · rw [if_neg q4, if_pos (show (0 : Int32) = 0 from rfl)]
        by_cases q0 : c = 0
        · subst q0
          have : f_X5_dataAhead (nI 0) h < 0 := by
            have e : f_X5_dataAhead (nI 0) h = (-2 : Int32) := by
              rw [f_X5_dataAhead]
              decide
            rw [e]
            decide
          rw [if_pos this, if_pos (show (0 : Int32) = 0 from rfl), tb_s]
          exact keep (by rw [hw3, q3, if_neg (fun e => e.2.1 rfl)])
        · have eb : f_X5_dataAhead (nI c) h = nI (bef c) := by
            rw [f_X5_dataAhead, lit_n 5, jrem_n (by omega) (by decide) (by decide), bef]
            by_cases q : c % 5 = 0
            · rw [if_pos (by rw [q]; rfl), if_pos q, lit_n 2, pk_sub (by omega)]
            · rw [if_neg (show ¬ nI (c % 5) = (0 : Int32) from fun e => q ((nI_eq (b := 0) (by omega) (by decide)).mp e)), if_neg q, lit_n 1, pk_sub (by omega)]
          have ea : f_X5_dataBehind (nI c) h = nI (aft c) := by
            rw [f_X5_dataBehind, lit_n 5, jrem_n (by omega) (by decide) (by decide), aft, lit_n 3]
            by_cases q : c % 5 = 3
            · rw [if_pos (by rw [q]), if_pos q, lit_n 2, nI_add]
            · rw [if_neg (fun e => q ((nI_eq (by omega) (by decide)).mp e)), if_neg q, nI_1]
          have hbl := bef_lt q0 q4
          have hal : c < aft c ∧ aft c ≤ c + 2 := by
            unfold aft
            split <;> omega
          rw [eb, ea, if_neg (nI_pos (by omega))]
          by_cases qa : T ≤ aft c
          · rw [if_pos (nI_le qa (by omega)), if_pos (show (0 : Int32) = 0 from rfl), tb_s]
            exact keep (by rw [hw3, q3, if_neg (fun e => absurd e.2.2.1 (by omega))])
          · rw [if_neg (nI_ge (by omega) (by omega)), at_n (by omega), at_n (by omega)]
            by_cases s1 : snd b (bef c) = true
            · rw [if_neg (fun e => (le1 _ (by omega) (by omega)).mp e s1)]
              by_cases s2 : snd b (aft c) = true
              · rw [if_neg (fun e => (le1 _ (by omega) (by omega)).mp e s2), if_neg (show ¬ (1 : Int32) = 0 by decide), put_n (by omega), tb_s, tb_s, lit_n 2]
                obtain ⟨h', e1, e2, e3⟩ := ih n (c + 1) (hset h 68 c (nI 2)) (by omega) (by omega) (fun f hf => by
                  by_cases q : f = c
                  · subst q
                    rw [hset_same, hw3, if_pos ⟨q4, q0, by omega, s1, s2⟩]
                  · rw [hset_oth (by omega)]
                    exact p1 f (by omega)) (fun f h1 h2 => by
                  rw [hset_oth (by omega)]
                  exact p2 f (by omega) h2)
                refine ⟨h', e1, e2, fun o ho => ?_⟩
                rw [e3 o ho, hset_sR, sR_o ho]
              · rw [if_pos ((le1 _ (by omega) (by omega)).mpr s2), if_pos (show (0 : Int32) = 0 from rfl), tb_s]
                exact keep (by rw [hw3, q3, if_neg (fun e => s2 e.2.2.2.2)])
            · rw [if_pos ((le1 _ (by omega) (by omega)).mpr s1), if_pos (show (0 : Int32) = 0 from rfl), tb_s]
              exact keep (by rw [hw3, q3, if_neg (fun e => s1 e.2.2.2.1)])
    · rw [if_neg (show ¬ nI (how0 b c) = (3 : Int32) from fun e => q3 ((nI_eq (b := 3) (by omega) (by decide)).mp e)), tb_s]
      refine keep ?_
      unfold how0 at q3 ⊢
      unfold how
      split
      · rfl
      · split
        · rfl
        · simp [*] at q3
theorem judge {v : Nat → Int32} {b : Nat → Bool} {m : Int32} {h : HP} (w : WS v) (s : VS v h) (ms : MS b m h) : ∃ h', f_X7_judge m h = some h' ∧ (∀ f, f < TOT v → h' 68 f = nI (how b (TOT v) f)) ∧ ∀ o, o ≠ 68 → h' o = h o := by
  have hT := FM_tot w.fm
  have hT' : TOT v ≤ 3810 ∧ TOT v % 5 = 0 := hT.2
  have e5 : 5 * (TOT v / 5) = TOT v := by omega
  obtain ⟨h1, e1, p1, f1⟩ := judge_L10 (G := TOT v / 5) (by omega) (TOT v / 5) FU 0 h (by omega) (Nat.lt_of_le_of_lt (show TOT v / 5 ≤ 3810 by omega) (by decide)) ms (fun f hf => by omega)
  have s1 : VS v h1 := s.of (f1 64 (by decide)) (f1 65 (by decide)) (f1 66 (by decide))
  rw [e5] at p1
  rw [e5] at e1
  obtain ⟨h2, e2, p2, f2⟩ := judge_L36 (b := b) hT'.1 (TOT v) FU 0 h1 (by omega) (Nat.lt_of_le_of_lt hT'.1 (by decide)) (fun f hf => by omega) (fun f _ hf => p1 f hf)
  refine ⟨h2, ?_, p2, fun o ho => (f2 o ho).trans (f1 o ho)⟩
  have a0 : f_X5_allFrames 64 h = nI (TOT v) := c_allFrames s.1
  have a1 : f_X5_allFrames 64 h1 = nI (TOT v) := c_allFrames s1.1
  rw [f_X7_judge, a0]
  refine (ob_e e1).trans ?_
  exact ob_e (k := fun r => some r) e2

