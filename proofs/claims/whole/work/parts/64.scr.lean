/-! scratch and polish as orders, and the calls -/
theorem R.newC {h h' : HP} {o : Nat} {v v' : Nat → Int32} (r : R h o v) (eh : ∀ a, o < a → a ≤ o + 7 → a ≠ o + 2 → a ≠ o + 3 → h' a = h a) (ev : ∀ i, i < 12 ∨ 45 ≤ i → v' i = v i) (rc : RC h' o v') : R h' o v' := by
  obtain ⟨rs, rh, _, rp⟩ := r
  refine ⟨fun k hk => ?_, fun k hk => ?_, rc, ?_, fun k hk => ?_⟩
  · rw [eh (o + 1) (by omega) (by omega) (by omega) (by omega), ev k (by omega)]
    exact rs k hk
  · rw [eh (o + 7) (by omega) (by omega) (by omega) (by omega), ev (6 + k) (by omega)]
    exact rh k hk
  · rw [eh (o + 4) (by omega) (by omega) (by omega) (by omega), ev 45 (by omega)]
    exact rp.1
  · rw [N_eq (ev 45 (by omega))] at hk
    rw [eh (o + 5) (by omega) (by omega) (by omega) (by omega), eh (o + 6) (by omega) (by omega) (by omega) (by omega), ev (46 + 3 * k) (by omega), ev (46 + 3 * k + 1) (by omega), ev (46 + 3 * k + 2) (by omega)]
    exact rp.2 k hk
theorem WF.newC {T T' : Nat} {v v' : Nat → Int32} (w : WF T v) (hT : T ≤ T') (ev : ∀ i, i < 12 ∨ 45 ≤ i → v' i = v i) (wc : WC v') : WF T' v' := by
  have w2 := w.mono hT
  exact ⟨w2.1.eq (fun i hi => ev i (by omega)), w2.2.1.eq (fun i hi => ev i (by omega)), wc, w2.2.2.2.eq (fun i hi _ => ev i (by omega))⟩
theorem rng2 {x y : Int32} {N : Nat} (hN : N + 1 < 2 ^ 31) : (∃ a b, a ≤ b ∧ b ≤ N ∧ x = nI a ∧ y = nI b ∧ (if x < 0 then (0 : Int32) else if y < x then 0 else if nI (N + 1) ≤ y then 0 else 1) = 1 ∧ (∀ h, f_X11_in x 0 (nI N) h = 1) ∧ ∀ h, f_X11_in y x (nI N) h = 1) ∨ ((if x < 0 then (0 : Int32) else if y < x then 0 else if nI (N + 1) ≤ y then 0 else 1) = 0 ∧ ((∀ h, f_X11_in x 0 (nI N) h = 0) ∨ ((∀ h, f_X11_in x 0 (nI N) h = 1) ∧ ∀ h, f_X11_in y x (nI N) h = 0))) := by
  rcases in_n (x := x) (a := 0) (b := N) (by decide) (by omega) with ⟨a, _, ha, rfl, ex⟩ | ⟨hno, ex⟩
  · rcases in_n (x := y) (a := a) (b := N) (by omega) (by omega) with ⟨b, hab, hb, rfl, ey⟩ | ⟨hno, ey⟩
    · exact Or.inl ⟨a, b, hab, hb, rfl, rfl, by rw [if_neg (nI_pos (by omega)), if_neg (nI_nlt hab (by omega)), if_neg (nI_ge (by omega) (by omega))], ex, ey⟩
    · refine Or.inr ⟨?_, Or.inr ⟨ex, ey⟩⟩
      rw [if_neg (nI_pos (by omega))]
      by_cases q : y < nI a
      · rw [if_pos q]
      · rw [if_neg q]
        have q0 : ¬ y < 0 := fun e => q (Int32.lt_of_lt_of_le e (nI_pos' (by omega)))
        obtain ⟨j, hj, rfl⟩ := nI_of q0
        rw [if_pos (nI_le (Nat.lt_of_not_le fun e => hno ⟨j, Nat.le_of_not_lt fun c => q (nI_lt c (by omega)), e, rfl⟩) hj)]
  · refine Or.inr ⟨?_, Or.inl ex⟩
    by_cases q : x < 0
    · rw [if_pos q]
    · rw [if_neg q]
      obtain ⟨j, hj, rfl⟩ := nI_of q
      have hjN : N < j := Nat.lt_of_not_le fun e => hno ⟨j, by omega, e, rfl⟩
      by_cases q2 : y < nI j
      · rw [if_pos q2]
      · rw [if_neg q2]
        have q0 : ¬ y < 0 := fun e => q2 (Int32.lt_of_lt_of_le e (nI_pos' (by omega)))
        obtain ⟨i, hi, rfl⟩ := nI_of q0
        have hji : j ≤ i := Nat.le_of_not_lt fun c => q2 (nI_lt c (by omega))
        rw [if_pos (nI_le (by omega) hi)]
/-- behind a change of the scratches: the count of damaged frames -/
theorem c_afterC {T : Nat} {v : Nat → Int32} {h : HP} (wf : WF T v) (r : R h 1 v) (sv : SV h) : ∃ h', ob (f_X7_of 1 h) (fun q89 => ob (f_X7_damagedIn (0 : Int32) (3810 : Int32) (-1 : Int32) q89) (fun q97 => some (q97, q89))) = some (dmC v, h') ∧ R h' 1 v ∧ SV h' ∧ ∀ o, o < 64 ∨ 68 < o → h' o = h o := by
  obtain ⟨h', a1, a2, a3⟩ := c_of wf.1 wf.2.2.1 r.1 r.2.2.1 sv
  refine ⟨h', ?_, r.of (fun a h1 h2 => a3 a (by omega)), ⟨v, wf.1, wf.2.2.1, a2⟩, a3⟩
  rw [ob_e a1, ob_e (c_damaged wf.1 wf.2.2.1 a2)]
  rfl
theorem dmC_0 {T : Nat} {v : Nat → Int32} (wf : WF T v) : (0 : Int32) ≤ dmC v := by
  have p3 : TOT v ≤ 3810 := (FM_tot wf.1.fm).2.1
  have := cnt_le (lyV v (-5)) (TOT v)
  exact nI_pos' (by omega)
/-- the row behind a scratch -/
def scV (v : Nat → Int32) (n a b c d : Nat) : Nat → Int32 := up (up (up (up (up v (13 + 4 * n) (nI a)) (13 + 4 * n + 1) (nI b)) (13 + 4 * n + 2) (nI c)) (13 + 4 * n + 3) (nI d)) 12 (nI (n + 1))
theorem scV_o {v : Nat → Int32} {n a b c d i : Nat} (h : i < 13 + 4 * n ∨ 13 + 4 * n + 3 < i) (h2 : i ≠ 12) : scV v n a b c d i = v i := by
  unfold scV
  rw [up_o h2, up_o (by omega), up_o (by omega), up_o (by omega), up_o (by omega)]
theorem scV_0 {v : Nat → Int32} {n a b c d : Nat} : scV v n a b c d (13 + 4 * n) = nI a := by
  unfold scV
  rw [up_o (by omega), up_o (by omega), up_o (by omega), up_o (by omega), up_s]
theorem scV_1 {v : Nat → Int32} {n a b c d : Nat} : scV v n a b c d (13 + 4 * n + 1) = nI b := by
  unfold scV
  rw [up_o (by omega), up_o (by omega), up_o (by omega), up_s]
theorem scV_2 {v : Nat → Int32} {n a b c d : Nat} : scV v n a b c d (13 + 4 * n + 2) = nI c := by
  unfold scV
  rw [up_o (by omega), up_o (by omega), up_s]
theorem scV_3 {v : Nat → Int32} {n a b c d : Nat} : scV v n a b c d (13 + 4 * n + 3) = nI d := by
  unfold scV
  rw [up_o (by omega), up_s]
theorem scV_12 {v : Nat → Int32} {n a b c d : Nat} : scV v n a b c d 12 = nI (n + 1) := up_s
theorem scV_wc {v : Nat → Int32} {a b c d : Nat} (w : WC v) (hn : N v 12 < 8) (hab : a ≤ b) (hb : b ≤ 359) (hcd : c ≤ d) (hd : d ≤ 29) : WC (scV v (N v 12) a b c d) := by
  have n12 : N (scV v (N v 12) a b c d) 12 = N v 12 + 1 := by
    rw [N, scV_12, nI_clamp (by omega)]
  refine ⟨isN_of scV_12 (by omega) (by omega) (by omega), fun k hk => ?_⟩
  rw [n12] at hk
  by_cases q : k = N v 12
  · subst q
    have n0 : N (scV v (N v 12) a b c d) (13 + 4 * N v 12) = a := by
      rw [N, scV_0, nI_clamp (by omega)]
    have n2 : N (scV v (N v 12) a b c d) (13 + 4 * N v 12 + 2) = c := by
      rw [N, scV_2, nI_clamp (by omega)]
    rw [n0, n2]
    exact ⟨isN_of scV_0 (by omega) (by omega) (by omega), isN_of scV_1 (by omega) hab hb, isN_of scV_2 (by omega) (by omega) (by omega), isN_of scV_3 (by omega) hcd hd⟩
  · obtain ⟨c0, c1, c2, c3⟩ := w.2 k (by omega)
    rw [N_eq (scV_o (i := 13 + 4 * k) (by omega) (by omega)), N_eq (scV_o (i := 13 + 4 * k + 2) (by omega) (by omega))]
    exact ⟨c0.eq (scV_o (by omega) (by omega)), c1.eq (scV_o (by omega) (by omega)), c2.eq (scV_o (by omega) (by omega)), c3.eq (scV_o (by omega) (by omega))⟩
theorem op_scratch {T : Nat} {v : Nat → Int32} {x y z t : Int32} (wf : WF T v) : Op true T v (f_X10_addScratch x y z t) (f_X11_scratches x y z t) := by
  have ws := wf.1
  have wc := wf.2.2.1
  have hn := wc.1.2.1
  have err : ∀ r : Int32, ¬ 0 ≤ r → (∀ h, R h 1 v → f_X10_addScratch x y z t h = some (r, h)) → (∀ g, E6 (g 71) v → f_X11_scratches x y z t g = some (r, g)) → Op true T v (f_X10_addScratch x y z t) (f_X11_scratches x y z t) := fun r hr c m => ⟨r, r, v, fun h r1 sv => ⟨h, c h r1, r1, sv, fun _ _ => rfl⟩, fun g eg => ⟨g, m g eg, eg, fun _ _ _ => rfl⟩, wf.mono (by omega), Or.inl ⟨hr, rfl, rfl⟩⟩
  rcases rng2 (x := x) (y := y) (N := 359) (by decide) with ⟨a, b, hab, hb, rfl, rfl, e1, f1, f2⟩ | ⟨e1, hf⟩
  · have e1 : (if nI a < 0 then (0 : Int32) else if nI b < nI a then 0 else if (360 : Int32) ≤ nI b then 0 else 1) = 1 := e1
    have f1 : ∀ h, f_X11_in (nI a) (0 : Int32) (359 : Int32) h = 1 := f1
    have f2 : ∀ h, f_X11_in (nI b) (nI a) (359 : Int32) h = 1 := f2
    rcases rng2 (x := z) (y := t) (N := 29) (by decide) with ⟨c, d, hcd, hd, rfl, rfl, e2, f3, f4⟩ | ⟨e2, hf⟩
    · have e2 : (if nI c < 0 then (0 : Int32) else if nI d < nI c then 0 else if (30 : Int32) ≤ nI d then 0 else 1) = 1 := e2
      have f3 : ∀ h, f_X11_in (nI c) (0 : Int32) (29 : Int32) h = 1 := f3
      have f4 : ∀ h, f_X11_in (nI d) (nI c) (29 : Int32) h = 1 := f4
      have hsz : ∀ h, R h 1 v → h 3 1 = nI (N v 12) := fun h r => r.2.2.1.1.trans wc.1.2.2
      have m12 : ∀ g : HP, E6 (g 71) v → g 71 12 = nI (N v 12) := fun g eg => (eg 12 (by decide)).trans wc.1.2.2
      by_cases q8 : N v 12 = 8
      · refine err (-3) (by decide) (fun h r => ?_) (fun g eg => ?_)
        · have ea : f_X4_add 3 (nI a) (nI b) (nI c) (nI d) h = ((0 : Int32), h) := by
            rw [f_X4_add, hsz h r, q8, if_neg (by decide)]
          rw [f_X10_addScratch, e1, tb_s, e2, tb_s, if_neg (by decide), if_neg (by decide), ea, tb_s, if_pos rfl]
        · rw [f_X11_scratches, f1, if_neg (by decide), f2, if_neg (by decide), f3, if_neg (by decide), f4, if_neg (by decide), m12 g eg, q8, if_pos (by decide)]
      · have hn8 : N v 12 < 8 := by omega
        have wc' := scV_wc wc hn8 hab hb hcd hd
        have ev : ∀ i, i < 12 ∨ 45 ≤ i → scV v (N v 12) a b c d i = v i := fun i hi => scV_o (by omega) (by omega)
        have wf' : WF (T + 10000) (scV v (N v 12) a b c d) := wf.newC (by omega) ev wc'
        refine ⟨dmC (scV v (N v 12) a b c d), 0, scV v (N v 12) a b c d, fun h r sv => ?_, fun g eg => ?_, wf', Or.inr ⟨dmC_0 wf', by decide, (fun _ => ⟨rfl, rfl⟩), fun e => by simp at e⟩⟩
        · have l4 : ln (3 + 1) = 32 := by decide
          have i0 : nI (N v 12) * (4 : Int32) = nI (4 * N v 12) := by rw [lit_n 4, pk_mul, Nat.mul_comm]
          have i2 : nI (4 * N v 12) + (2 : Int32) = nI (4 * N v 12 + 2) := by rw [lit_n 2, nI_add]
          have i3 : nI (4 * N v 12) + (3 : Int32) = nI (4 * N v 12 + 3) := by rw [lit_n 3, nI_add]
          obtain ⟨h1, eh1⟩ : ∃ h1, h1 = hset (hset (hset (hset (hset h 4 (4 * N v 12) (nI a)) 4 (4 * N v 12 + 1) (nI b)) 4 (4 * N v 12 + 2) (nI c)) 4 (4 * N v 12 + 3) (nI d)) 3 1 (nI (N v 12 + 1)) := ⟨_, rfl⟩
          have ea : f_X4_add 3 (nI a) (nI b) (nI c) (nI d) h = ((1 : Int32), h1) := by
            rw [f_X4_add, hsz h r, if_pos (show nI (N v 12) < (8 : Int32) from nI_lt (b := 8) hn8 (by decide)), i0, put_n (by omega), tb_s, hset_oth (by omega), hsz h r, i0, nI_1, put_n (by omega), tb_s, hset_oth (by omega), hset_oth (by omega), hsz h r, i0, i2, put_n (by omega), tb_s, hset_oth (by omega), hset_oth (by omega), hset_oth (by omega), hsz h r, i0, i3, put_n (by omega), tb_s, hset_oth (by omega), hset_oth (by omega), hset_oth (by omega), hset_oth (by omega), hsz h r, nI_1, eh1]
          have fr : ∀ o, o ≠ 3 → o ≠ 4 → h1 o = h o := fun o h3 h4 => by
            rw [eh1, hset_sR, sR_o h3, hset_sR, sR_o h4, hset_sR, sR_o h4, hset_sR, sR_o h4, hset_sR, sR_o h4]
          have n12 : N (scV v (N v 12) a b c d) 12 = N v 12 + 1 := by
            rw [N, scV_12, nI_clamp (by omega)]
          have r1 : R h1 1 (scV v (N v 12) a b c d) := by
            refine r.newC (fun o _ _ h3 h4 => fr o h3 h4) ev ⟨?_, fun k hk => ?_⟩
            · rw [scV_12, eh1]
              exact hset_same
            · rw [n12] at hk
              show h1 4 k = _
              rw [eh1, hset_oth (by omega)]
              by_cases q3 : k = 4 * N v 12 + 3
              · subst q3
                rw [hset_same, ← scV_3 (v := v) (n := N v 12) (a := a) (b := b) (c := c) (d := d)]
                rfl
              · rw [hset_oth (by omega)]
                by_cases q2 : k = 4 * N v 12 + 2
                · subst q2
                  rw [hset_same, ← scV_2 (v := v) (n := N v 12) (a := a) (b := b) (c := c) (d := d)]
                  rfl
                · rw [hset_oth (by omega)]
                  by_cases q1 : k = 4 * N v 12 + 1
                  · subst q1
                    rw [hset_same, ← scV_1 (v := v) (n := N v 12) (a := a) (b := b) (c := c) (d := d)]
                    rfl
                  · rw [hset_oth (by omega)]
                    by_cases q0 : k = 4 * N v 12
                    · subst q0
                      rw [hset_same, scV_0]
                    · rw [hset_oth (by omega), scV_o (by omega) (by omega)]
                      exact r.2.2.1.2 k (by omega)
          obtain ⟨h', a1, a2, a3, a4⟩ := c_afterC wf' r1 (sv.of (fun o h1 h2 => fr o (by omega) (by omega)))
          refine ⟨h', ?_, a2, a3, fun o ho => (a4 o (by omega)).trans (fr o (by omega) (by omega))⟩
          rw [f_X10_addScratch, e1, tb_s, e2, tb_s, if_neg (by decide), if_neg (by decide), ea, tb_s, if_neg (show ¬ (1 : Int32) = 0 by decide)]
          exact a1
        · have i0 : ((13 : Int32) + ((4 : Int32) * nI (N v 12))) = nI (13 + 4 * N v 12) := by rw [lit_n 13, lit_n 4, pk_mul, nI_add]
          have i2 : nI (13 + 4 * N v 12) + (2 : Int32) = nI (13 + 4 * N v 12 + 2) := by rw [lit_n 2, nI_add]
          have i3 : nI (13 + 4 * N v 12) + (3 : Int32) = nI (13 + 4 * N v 12 + 3) := by rw [lit_n 3, nI_add]
          refine ⟨sR g 71 (scV (g 71) (N v 12) a b c d), ?_, ?_, fun o h1 _ => sR_o h1⟩
          · rw [f_X11_scratches, f1, if_neg (by decide), f2, if_neg (by decide), f3, if_neg (by decide), f4, if_neg (by decide), m12 g eg, if_neg (show ¬ nI (N v 12) = (8 : Int32) from fun e => q8 ((nI_eq (b := 8) (by omega) (by decide)).mp e)), i0, nI_1, i2, i3, gd_t (inB_n (by omega) (by decide)), nI_clamp (by omega), tb_s, gd_t (inB_n (by omega) (by decide)), nI_clamp (by omega), tb_s, gd_t (inB_n (by omega) (by decide)), nI_clamp (by omega), tb_s, gd_t (inB_n (by omega) (by decide)), nI_clamp (by omega), tb_s, hset_oth (by omega), hset_oth (by omega), hset_oth (by omega), hset_oth (by omega), m12 g eg, nI_1]
            unfold scV
            simp only [hset_sR, sR_2, sR_s]
          · rw [sR_s]
            exact eg.upk.upk.upk.upk.upk
    · have e2 : (if z < 0 then (0 : Int32) else if t < z then 0 else if (30 : Int32) ≤ t then 0 else 1) = 0 := e2
      refine err (-2) (by decide) (fun h r => ?_) (fun g eg => ?_)
      · rw [f_X10_addScratch, e1, tb_s, e2, tb_s, if_neg (by decide), if_pos rfl]
      · rcases hf with f3 | ⟨f3, f4⟩
        · have f3 : ∀ h, f_X11_in z (0 : Int32) (29 : Int32) h = 0 := f3
          rw [f_X11_scratches, f1, if_neg (by decide), f2, if_neg (by decide), f3, if_pos rfl]
        · have f3 : ∀ h, f_X11_in z (0 : Int32) (29 : Int32) h = 1 := f3
          have f4 : ∀ h, f_X11_in t z (29 : Int32) h = 0 := f4
          rw [f_X11_scratches, f1, if_neg (by decide), f2, if_neg (by decide), f3, if_neg (by decide), f4, if_pos rfl]
  · have e1 : (if x < 0 then (0 : Int32) else if y < x then 0 else if (360 : Int32) ≤ y then 0 else 1) = 0 := e1
    refine err (-2) (by decide) (fun h r => ?_) (fun g eg => ?_)
    · rw [f_X10_addScratch, e1, tb_s, tb_s, if_pos rfl]
    · rcases hf with f3 | ⟨f3, f4⟩
      · have f3 : ∀ h, f_X11_in x (0 : Int32) (359 : Int32) h = 0 := f3
        rw [f_X11_scratches, f3, if_pos rfl]
      · have f3 : ∀ h, f_X11_in x (0 : Int32) (359 : Int32) h = 1 := f3
        have f4 : ∀ h, f_X11_in y x (359 : Int32) h = 0 := f4
        rw [f_X11_scratches, f3, if_neg (by decide), f4, if_pos rfl]
theorem two_scratch {T : Nat} {h : HP} {x y z t : Int32} (inv : Inv T h) : Two T h (f_X10_scratch x y z t) (f_X11_scratch x y z t) := two_actD inv (fun _ wf => op_scratch wf)
