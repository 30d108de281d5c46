/-! the class alone, between calls: its row, the rows on top of its history -/
theorem KI.ofq {h h' : HP} {v kv tx : Nat → Int32} {n L : Nat} {H : Nat → Nat → Int32} {kb : Bool} (i : KI h v n H kb kv L tx) (sv : SV h') (e : ∀ o, o < 63 ∨ 69 < o → h' o = h o) : KI h' v n H kb kv L tx := by
  obtain ⟨i1, i2, i3, i4, i5, i6, i7⟩ := i
  refine ⟨i1.of (fun a h1 h2 => e a (by omega)), sv, i3.of (fun o h1 h2 => e o (by omega)), ⟨?_, fun k => (i4.2 k).of (fun a h1 h2 => e a (by omega))⟩, ?_, i6, ?_⟩
  · rw [e 0 (by omega)]
    exact i4.1
  · rw [e 59 (by omega)]
    exact i5
  · rw [e 60 (by omega)]
    exact i7
def KS (h : HP) (v : Nat → Int32) (l : List (Nat → Int32)) : Prop := ∃ n H kb kv L tx, KI h v n H kb kv L tx ∧ l.length ≤ n ∧ ∀ i, i < l.length → l[i]? = some (H (n - 1 - i))
theorem KS.r {h : HP} {v : Nat → Int32} {l : List (Nat → Int32)} (k : KS h v l) : R h 1 v := by
  obtain ⟨n, H, kb, kv, L, tx, ki, _⟩ := k
  exact ki.1
theorem KS.sv {h : HP} {v : Nat → Int32} {l : List (Nat → Int32)} (k : KS h v l) : SV h := by
  obtain ⟨n, H, kb, kv, L, tx, ki, _⟩ := k
  exact ki.2.1
theorem KS.drop {h : HP} {v : Nat → Int32} {l : List (Nat → Int32)} (k : KS h v l) : KS h v [] := by
  obtain ⟨n, H, kb, kv, L, tx, ki, _⟩ := k
  exact ⟨n, H, kb, kv, L, tx, ki, Nat.zero_le _, fun i hi => absurd hi (Nat.not_lt_zero _)⟩
theorem KS.of {h h' : HP} {v : Nat → Int32} {l : List (Nat → Int32)} (k : KS h v l) (sv : SV h') (e : ∀ o, o < 63 ∨ 69 < o → h' o = h o) : KS h' v l := by
  obtain ⟨n, H, kb, kv, L, tx, ki, k2⟩ := k
  exact ⟨n, H, kb, kv, L, tx, ki.ofq sv e, k2⟩
/-- what a call comes to: its answer, the row behind it -/
def Gl {α : Type} (X : Option (α × HP)) (v : Nat → Int32) (l : List (Nat → Int32)) (r : α) : Prop := ∃ h', X = some (r, h') ∧ KS h' v l
theorem Gl.go {α β : Type} {X : Option (α × HP)} {K : α × HP → Option (β × HP)} {v v' : Nat → Int32} {l l' : List (Nat → Int32)} {r : α} {r' : β} (g : Gl X v l r) (kk : ∀ h', KS h' v l → Gl (K (r, h')) v' l' r') : Gl (ob X K) v' l' r' := by
  obtain ⟨h', e, k⟩ := g
  rw [ob_e e]
  exact kk h' k
theorem Gl.fin {α : Type} {v : Nat → Int32} {l : List (Nat → Int32)} {r : α} {h : HP} (k : KS h v l) : Gl (some (r, h)) v l r := ⟨h, rfl, k⟩
/-- a call that leaves the state -/
def Qy {α : Type} (v : Nat → Int32) (r : α) (C : HP → Option (α × HP)) : Prop := ∀ h l, KS h v l → Gl (C h) v l r
theorem Qy.mk {α : Type} {v : Nat → Int32} {r : α} {C : HP → Option (α × HP)} (c : ∀ h, R h 1 v → SV h → ∃ h', C h = some (r, h') ∧ SV h' ∧ ∀ o, o < 63 ∨ 69 < o → h' o = h o) : Qy v r C := by
  intro h l k
  obtain ⟨h', e, sv, fr⟩ := c h k.r k.sv
  exact ⟨h', e, k.of sv fr⟩
theorem Qy.same {α : Type} {v : Nat → Int32} {r : α} {C : HP → Option (α × HP)} (c : ∀ h, R h 1 v → C h = some (r, h)) : Qy v r C := Qy.mk (fun h r1 sv => ⟨h, c h r1, sv, fun _ _ => rfl⟩)
/-- a call that is recorded -/
def Ay (v v' : Nat → Int32) (r : Int32) (C : HP → Option (Int32 × HP)) : Prop := ∀ h l, l.length < 4 → KS h v l → Gl (C h) v' (v :: l) r
theorem KS.act {h h' : HP} {v v' kv tx : Nat → Int32} {n L : Nat} {H : Nat → Nat → Int32} {kb : Bool} {l : List (Nat → Int32)} (hl : l.length < 4) (k2 : l.length ≤ n ∧ ∀ i, i < l.length → l[i]? = some (H (n - 1 - i))) (hn : n ≤ 4) (ki : KI h' v' (pN n) (pH n H v) kb kv L tx) : KS h' v' (v :: l) := by
  refine ⟨_, _, _, _, _, _, ki, ?_, fun i hi => ?_⟩
  · rw [List.length_cons]
    unfold pN
    split <;> omega
  · rw [List.length_cons] at hi
    cases i with
    | zero =>
      rw [List.getElem?_cons_zero]
      congr 1
      unfold pN pH
      by_cases q : n = 4
      · rw [if_pos q, if_pos q]
        rfl
      · rw [if_neg q, if_neg q]
        show v = if n + 1 - 1 - 0 = n then v else _
        rw [if_pos (by omega)]
    | succ i =>
      rw [List.getElem?_cons_succ, k2.2 i (by omega)]
      congr 1
      unfold pN pH
      by_cases q : n = 4
      · rw [if_pos q, if_pos q]
        show _ = if 4 - 1 - (i + 1) < 3 then H (4 - 1 - (i + 1) + 1) else v
        rw [if_pos (by omega), q]
        congr 1
        omega
      · rw [if_neg q, if_neg q]
        show _ = if n + 1 - 1 - (i + 1) = n then v else H (n + 1 - 1 - (i + 1))
        rw [if_neg (by omega)]
        congr 1
        omega
def Cl (C : HP → Option (Int32 × HP)) : HP → Option (Int32 × HP) := fun h => tb (f_X6_copyFrom 9 1 h) (fun q8 => ob (C q8) (fun q14 => ob (f_X10_recorded q14.1 q14.2) (fun q17 => some (q17.1, q17.2))))
theorem cl_run {T : Nat} {v v' : Nat → Int32} {r : Int32} {C : HP → Option (Int32 × HP)} {h : HP} {n L : Nat} {kv tx : Nat → Int32} {H : Nat → Nat → Int32} {kb : Bool} (wf : WF T v) (co : COp v v' r C) (ki : KI h v n H kb kv L tx) : ∃ h', Cl C h = some (r, h') ∧ (0 ≤ r → KI h' v' (pN n) (pH n H v) kb kv L tx) ∧ (¬ 0 ≤ r → KI h' v' n H kb kv L tx) := by
  have cp := c6_copy (o := 9) (p := 1) (h := h) (by omega) wf.2.2.1 wf.2.2.2 ki.1
  have r1 : R (f_X6_copyFrom 9 1 h) 1 v := ki.1.of (fun a h1 h2 => cp.2 a (by omega))
  have sv : SV (f_X6_copyFrom 9 1 h) := ki.2.1.of (fun a h1 h2 => cp.2 a (by omega))
  obtain ⟨c1, e1, e2, e3, e4⟩ := co _ r1 sv
  obtain ⟨h1, a1, a2, a3, a4⟩ := c_recd (r := r) (c1 := c1) ki wf (fun o ho => e4 o (by omega)) e3 e2
  refine ⟨h1, ?_, a2, a3⟩
  unfold Cl
  rw [tb_s, ob_e e1, ob_e a1]
theorem Ay.of {T : Nat} {v v' : Nat → Int32} {r : Int32} {C : HP → Option (Int32 × HP)} (wf : WF T v) (hr : 0 ≤ r) (co : COp v v' r C) : Ay v v' r (Cl C) := by
  intro h l hl k
  obtain ⟨n, H, kb, kv, L, tx, ki, k2⟩ := k
  obtain ⟨h', e, a, _⟩ := cl_run wf co ki
  exact ⟨h', e, KS.act (h := h) hl k2 ki.2.2.1.1 (a hr)⟩
theorem Qy.err {T : Nat} {v : Nat → Int32} {r : Int32} {C : HP → Option (Int32 × HP)} (wf : WF T v) (hr : ¬ 0 ≤ r) (c : ∀ h, R h 1 v → C h = some (r, h)) : Qy v r (Cl C) := by
  intro h l k
  obtain ⟨n, H, kb, kv, L, tx, ki, k2⟩ := k
  obtain ⟨h', e, _, a⟩ := cl_run (v' := v) wf (fun h r1 sv => ⟨h, c h r1, r1, sv, fun _ _ => rfl⟩) ki
  exact ⟨h', e, n, H, kb, kv, L, tx, a hr, k2⟩
theorem q_undo {T : Nat} {v u : Nat → Int32} {l : List (Nat → Int32)} {h : HP} (wH : WF T u) (k : KS h v (u :: l)) : ∃ m, m < 4 ∧ Gl (f_X10_undo h) u l (nI m) := by
  obtain ⟨n, H, kb, kv, L, tx, ⟨i1, i2, ⟨c1, c2, σ, s1, s2, s3⟩, i4, i5, i6, i7⟩, kl, kk⟩ := k
  rw [List.length_cons] at kl kk
  obtain ⟨m, rfl⟩ : ∃ m, n = m + 1 := ⟨n - 1, by omega⟩
  have hm : m < 4 := by omega
  have eu : H m = u := by
    have := kk 0 (by omega)
    rw [List.getElem?_cons_zero] at this
    exact (Option.some.inj this).symm
  have am := isS_st (s1 m hm).1
  have rg := isS_rng (s1 m hm).1
  have rm := s3 m (by omega)
  rw [eu] at rm
  have cp := c6_copy (o := 1) (p := σ m) (h := h) (by omega) wH.2.2.1 wH.2.2.2 rm
  have est : f_X2_stateAt (h 25 1 - 1) h = nI (σ m) := by
    rw [c2, nI_pred, c_stateAt hm, (s1 m hm).2]
  have fr : ∀ o, o ≠ 25 → (o ≤ 1 ∨ 8 < o) → hset (f_X6_copyFrom 1 (σ m) h) 25 1 (nI m) o = h o := fun o h1 h2 => by
    rw [hset_sR, sR_o h1, cp.2 o (by omega)]
  refine ⟨m, hm, hset (f_X6_copyFrom 1 (σ m) h) 25 1 (nI m), ?_, m, H, kb, kv, L, tx, ⟨?_, ?_, ⟨by omega, hset_same, σ, fun j hj => ?_, s2, fun j hj => ?_⟩, ⟨?_, fun k => ?_⟩, ?_, i6, ?_⟩, by omega, fun i hi => ?_⟩
  · have e1 : f_X6_copyFrom 1 (σ m) h 25 1 = nI (m + 1) := by
      rw [cp.2 25 (by omega)]
      exact c2
    rw [f_X10_undo, f_X2_takeLatest, est, if_neg am.2.1, gd_t am.1, am.2.2, tb_s, e1, nI_pred, ob_s, if_neg (show ¬ (1 : Int32) = 0 by decide)]
    show some (hset (f_X6_copyFrom 1 (σ m) h) 25 1 (nI m) 25 1, _) = _
    rw [hset_same]
  · exact cp.1.of (fun a h1 h2 => by rw [hset_sR, sR_o (by omega)])
  · exact i2.of (fun a h1 h2 => fr a (by omega) (by omega))
  · rw [fr 26 (by decide) (by omega)]
    exact s1 j hj
  · have rj := isS_rng (s1 j (by omega)).1
    exact (s3 j (by omega)).of (fun a h1 h2 => fr a (by omega) (by omega))
  · rw [fr 0 (by decide) (by omega)]
    exact i4.1
  · exact (i4.2 k).of (fun a h1 h2 => fr a (by omega) (by omega))
  · rw [fr 59 (by decide) (by omega)]
    exact i5
  · intro j hj
    rw [fr 60 (by decide) (by omega)]
    exact i7 j hj
  · have := kk (i + 1) (by omega)
    rw [List.getElem?_cons_succ] at this
    rw [this]
    congr 2
    omega
