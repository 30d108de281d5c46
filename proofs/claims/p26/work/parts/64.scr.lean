/-! scratch and polish as orders, and the calls -/
theorem R.newC {h h' : HP} {o : Nat} {v v' : Nat → Int32} (r : R h o v) (eh : ∀ a, o < a → a ≤ o + 7 → a ≠ o + 2 → a ≠ o + 3 → h' a = h a) (ev : ∀ i, i < 12 ∨ 45 ≤ i → v' i = v i) (rc : RC h' o v') : R h' o v' := by
  obtain ⟨rs, rh, _, rp⟩ := r
  refine ⟨fun k hk => ?_, fun k hk => ?_, rc, ?_, fun k hk => ?_⟩
  · rw [eh (o + 1) (by omega) (by omega) (by omega) (by omega), ev k (by omega)]
    exact rs k hk
  · rw [eh (o + 7) (by omega) (by omega) (by omega) (by omega), ev (6 + k) (by omega)]
    exact rh k hk
  · rw [eh (o + 4) (by omega) (by omega) (by omega) (by omega), ev 45 (by omega)]
    exact rp.1
  · rw [N_eq (ev 45 (by omega))] at hk
    rw [eh (o + 5) (by omega) (by omega) (by omega) (by omega), eh (o + 6) (by omega) (by omega) (by omega) (by omega), ev (46 + 3 * k) (by omega), ev (46 + 3 * k + 1) (by omega), ev (46 + 3 * k + 2) (by omega)]
    exact rp.2 k hk
theorem WF.newC {T T' : Nat} {v v' : Nat → Int32} (w : WF T v) (hT : T ≤ T') (ev : ∀ i, i < 12 ∨ 45 ≤ i → v' i = v i) (wc : WC v') : WF T' v' := by
  have w2 := w.mono hT
  exact ⟨w2.1.eq (fun i hi => ev i (by omega)), w2.2.1.eq (fun i hi => ev i (by omega)), wc, w2.2.2.2.eq (fun i hi _ => ev i (by omega))⟩
theorem rng2 {x y : Int32} {N : Nat} (hN : N + 1 < 2 ^ 31) : (∃ a b, a ≤ b ∧ b ≤ N ∧ x = nI a ∧ y = nI b ∧ (if x < 0 then (0 : Int32) else if y < x then 0 else if nI (N + 1) ≤ y then 0 else 1) = 1 ∧ (∀ h, inF x 0 (nI N) h = 1) ∧ ∀ h, inF y x (nI N) h = 1) ∨ ((if x < 0 then (0 : Int32) else if y < x then 0 else if nI (N + 1) ≤ y then 0 else 1) = 0 ∧ ((∀ h, inF x 0 (nI N) h = 0) ∨ ((∀ h, inF x 0 (nI N) h = 1) ∧ ∀ h, inF y x (nI N) h = 0))) := by
  rcases in_n (x := x) (a := 0) (b := N) (by decide) (by omega) with ⟨a, _, ha, rfl, ex⟩ | ⟨hno, ex⟩
  · rcases in_n (x := y) (a := a) (b := N) (by omega) (by omega) with ⟨b, hab, hb, rfl, ey⟩ | ⟨hno, ey⟩
    · exact Or.inl ⟨a, b, hab, hb, rfl, rfl, by rw [if_neg (nI_pos (by omega)), if_neg (nI_nlt hab (by omega)), if_neg (nI_ge (by omega) (by omega))], ex, ey⟩
    · refine Or.inr ⟨?_, Or.inr ⟨ex, ey⟩⟩
      rw [if_neg (nI_pos (by omega))]
      by_cases q : y < nI a
      · rw [if_pos q]
      · rw [if_neg q]
        have q0 : ¬ y < 0 := fun e => q (Int32.lt_of_lt_of_le e (nI_pos' (by omega)))
        obtain ⟨j, hj, rfl⟩ := nI_of q0
        rw [if_pos (nI_le (Nat.lt_of_not_le fun e => hno ⟨j, Nat.le_of_not_lt fun c => q (nI_lt c (by omega)), e, rfl⟩) hj)]
  · refine Or.inr ⟨?_, Or.inl ex⟩
    by_cases q : x < 0
    · rw [if_pos q]
    · rw [if_neg q]
      obtain ⟨j, hj, rfl⟩ := nI_of q
      have hjN : N < j := Nat.lt_of_not_le fun e => hno ⟨j, by omega, e, rfl⟩
      by_cases q2 : y < nI j
      · rw [if_pos q2]
      · rw [if_neg q2]
        have q0 : ¬ y < 0 := fun e => q2 (Int32.lt_of_lt_of_le e (nI_pos' (by omega)))
        obtain ⟨i, hi, rfl⟩ := nI_of q0
        have hji : j ≤ i := Nat.le_of_not_lt fun c => q2 (nI_lt c (by omega))
        rw [if_pos (nI_le (by omega) hi)]
/-- behind a change of the scratches: the count of damaged frames -/
theorem c_afterC {T : Nat} {v : Nat → Int32} {h : HP} (wf : WF T v) (r : R h 1 v) (sv : SV h) : ∃ h', ob (f_X7_of 1 h) (fun q89 => ob (f_X7_damagedIn (0 : Int32) (3810 : Int32) (-1 : Int32) q89) (fun q97 => some (q97, q89))) = some (dmC v, h') ∧ R h' 1 v ∧ SV h' ∧ ∀ o, o < 64 ∨ 68 < o → h' o = h o := by
  obtain ⟨h', a1, a2, a3⟩ := c_of wf.1 wf.2.2.1 r.1 r.2.2.1 sv
  refine ⟨h', ?_, r.of (fun a h1 h2 => a3 a (by omega)), ⟨v, wf.1, wf.2.2.1, a2⟩, a3⟩
  rw [ob_e a1, ob_e (c_damaged wf.1 wf.2.2.1 a2)]
  rfl
theorem dmC_0 {T : Nat} {v : Nat → Int32} (wf : WF T v) : (0 : Int32) ≤ dmC v := by
  have p3 : TOT v ≤ 3810 := (FM_tot wf.1.fm).2.1
  have := cnt_le (lyV v (-5)) (TOT v)
  exact nI_pos' (by omega)
/-- the row behind a scratch -/
def scV (v : Nat → Int32) (n a b c d : Nat) : Nat → Int32 := up (up (up (up (up v (13 + 4 * n) (nI a)) (13 + 4 * n + 1) (nI b)) (13 + 4 * n + 2) (nI c)) (13 + 4 * n + 3) (nI d)) 12 (nI (n + 1))
theorem scV_o {v : Nat → Int32} {n a b c d i : Nat} (h : i < 13 + 4 * n ∨ 13 + 4 * n + 3 < i) (h2 : i ≠ 12) : scV v n a b c d i = v i := by
  unfold scV
  rw [up_o h2, up_o (by omega), up_o (by omega), up_o (by omega), up_o (by omega)]
theorem scV_0 {v : Nat → Int32} {n a b c d : Nat} : scV v n a b c d (13 + 4 * n) = nI a := by
  unfold scV
  rw [up_o (by omega), up_o (by omega), up_o (by omega), up_o (by omega), up_s]
theorem scV_1 {v : Nat → Int32} {n a b c d : Nat} : scV v n a b c d (13 + 4 * n + 1) = nI b := by
  unfold scV
  rw [up_o (by omega), up_o (by omega), up_o (by omega), up_s]
theorem scV_2 {v : Nat → Int32} {n a b c d : Nat} : scV v n a b c d (13 + 4 * n + 2) = nI c := by
  unfold scV
  rw [up_o (by omega), up_o (by omega), up_s]
theorem scV_3 {v : Nat → Int32} {n a b c d : Nat} : scV v n a b c d (13 + 4 * n + 3) = nI d := by
  unfold scV
  rw [up_o (by omega), up_s]
theorem scV_12 {v : Nat → Int32} {n a b c d : Nat} : scV v n a b c d 12 = nI (n + 1) := up_s
theorem scV_wc {v : Nat → Int32} {a b c d : Nat} (w : WC v) (hn : N v 12 < 8) (hab : a ≤ b) (hb : b ≤ 359) (hcd : c ≤ d) (hd : d ≤ 29) : WC (scV v (N v 12) a b c d) := by
  have n12 : N (scV v (N v 12) a b c d) 12 = N v 12 + 1 := by
    rw [N, scV_12, nI_clamp (by omega)]
  refine ⟨isN_of scV_12 (by omega) (by omega) (by omega), fun k hk => ?_⟩
  rw [n12] at hk
  by_cases q : k = N v 12
  · subst q
    have n0 : N (scV v (N v 12) a b c d) (13 + 4 * N v 12) = a := by
      rw [N, scV_0, nI_clamp (by omega)]
    have n2 : N (scV v (N v 12) a b c d) (13 + 4 * N v 12 + 2) = c := by
      rw [N, scV_2, nI_clamp (by omega)]
    rw [n0, n2]
    exact ⟨isN_of scV_0 (by omega) (by omega) (by omega), isN_of scV_1 (by omega) hab hb, isN_of scV_2 (by omega) (by omega) (by omega), isN_of scV_3 (by omega) hcd hd⟩
  · obtain ⟨c0, c1, c2, c3⟩ := w.2 k (by omega)
    rw [N_eq (scV_o (i := 13 + 4 * k) (by omega) (by omega)), N_eq (scV_o (i := 13 + 4 * k + 2) (by omega) (by omega))]
    exact ⟨c0.eq (scV_o (by omega) (by omega)), c1.eq (scV_o (by omega) (by omega)), c2.eq (scV_o (by omega) (by omega)), c3.eq (scV_o (by omega) (by omega))⟩
