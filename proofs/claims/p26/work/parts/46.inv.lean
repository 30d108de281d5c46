/-! both halves of what holds between calls; a recorded call -/
def KI (h : HP) (v : Nat → Int32) (n : Nat) (H : Nat → Nat → Int32) (kb : Bool) (kv : Nat → Int32) (L : Nat) (tx : Nat → Int32) : Prop :=
  R h 1 v ∧ SV h ∧ CH h n H ∧ (h 0 3 = bI kb ∧ (kb = true → R h 17 kv)) ∧ h 59 1 = nI L ∧ L ≤ 60 ∧ ∀ j, j < L → h 60 j = tx j
def WA (T : Nat) (v : Nat → Int32) (n : Nat) (H : Nat → Nat → Int32) (kb : Bool) (kv : Nat → Int32) : Prop := WF T v ∧ (∀ j, j < n → WF T (H j)) ∧ (kb = true → WF T kv)
theorem WA.mono {T T' n : Nat} {v kv : Nat → Int32} {H : Nat → Nat → Int32} {kb : Bool} (w : WA T v n H kb kv) (h : T ≤ T') : WA T' v n H kb kv := ⟨w.1.mono h, fun j hj => (w.2.1 j hj).mono h, fun k => (w.2.2 k).mono h⟩
theorem WA.push {T n : Nat} {v v' kv : Nat → Int32} {H : Nat → Nat → Int32} {kb : Bool} (hn : n ≤ 4) (w : WA T v n H kb kv) (w' : WF T v') : WA T v' (pN n) (pH n H v) kb kv := by
  refine ⟨w', fun j hj => ?_, w.2.2⟩
  unfold pN at hj
  unfold pH
  by_cases q : n = 4
  · rw [if_pos q]
    rw [if_pos q] at hj
    show WF T (if j < 3 then H (j + 1) else v)
    by_cases q2 : j < 3
    · rw [if_pos q2]
      exact w.2.1 _ (by omega)
    · rw [if_neg q2]
      exact w.1
  · rw [if_neg q]
    rw [if_neg q] at hj
    show WF T (if j = n then v else H j)
    by_cases q2 : j = n
    · rw [if_pos q2]
      exact w.1
    · rw [if_neg q2]
      exact w.2.1 _ (by omega)
theorem E6.trans {a b c : Nat → Int32} (e : E6 a b) (f : E6 b c) : E6 a c := fun k hk => (e k hk).trans (f k hk)
theorem c_recd {h c1 : HP} {v v' kv tx : Nat → Int32} {n L T : Nat} {H : Nat → Nat → Int32} {kb : Bool} {r : Int32} (ci : KI h v n H kb kv L tx) (wf : WF T v) (fr : ∀ o, o = 0 ∨ (9 ≤ o ∧ o ≤ 62) ∨ 70 ≤ o → c1 o = f_X6_copyFrom 9 1 h o) (sv : SV c1) (r' : R c1 1 v') :
    ∃ h', f_X10_recorded r c1 = some (r, h') ∧ (0 ≤ r → KI h' v' (pN n) (pH n H v) kb kv L tx) ∧ (¬ 0 ≤ r → KI h' v' n H kb kv L tx) ∧ ∀ o, 70 ≤ o → h' o = h o := by
  obtain ⟨i1, i2, i3, i4, i5, i6, i7⟩ := ci
  have cp := c6_copy (o := 9) (p := 1) (h := h) (by omega) wf.2.2.1 wf.2.2.2 i1
  have f2 : ∀ o, o = 0 ∨ (17 ≤ o ∧ o ≤ 62) ∨ 70 ≤ o → c1 o = h o := fun o ho => (fr o (by omega)).trans (cp.2 o (by omega))
  have base : KI c1 v' n H kb kv L tx := by
    refine ⟨r', sv, i3.of (fun o h1 h2 => f2 o (by omega)), ⟨?_, fun k => (i4.2 k).of (fun a h1 h2 => f2 a (by omega))⟩, ?_, i6, ?_⟩
    · rw [f2 0 (by omega)]
      exact i4.1
    · rw [f2 59 (by omega)]
      exact i5
    · rw [f2 60 (by omega)]
      exact i7
  rw [f_X10_recorded]
  by_cases q : r < 0
  · rw [if_pos q]
    exact ⟨c1, rfl, fun e => absurd e (Int32.not_le.mpr q), fun _ => base, fun o ho => f2 o (by omega)⟩
  · rw [if_neg q]
    have r9 : R c1 9 v := cp.1.of (fun a h1 h2 => fr a (by omega))
    obtain ⟨h', e1, e2, e3⟩ := c_add base.2.2.1 r9 wf.2.2.1 wf.2.2.2
    rw [ob_e e1]
    refine ⟨h', rfl, fun _ => ?_, fun e => absurd (Int32.not_lt.mp q) e, fun o ho => (e3 o (by omega)).trans (f2 o (by omega))⟩
    refine ⟨r'.of (fun a h1 h2 => e3 a (by omega)), sv.of (fun o h1 h2 => e3 o (by omega)), e2, ⟨?_, fun k => (base.2.2.2.1.2 k).of (fun a h1 h2 => e3 a (by omega))⟩, ?_, i6, ?_⟩
    · rw [e3 0 (by omega)]
      exact base.2.2.2.1.1
    · rw [e3 59 (by omega)]
      exact base.2.2.2.2.1
    · rw [e3 60 (by omega)]
      exact base.2.2.2.2.2.2
/-- the model's rows, put aside -/
def aS (h : HP) : HP := sR h 72 (cpR (h 71) (h 72) 166)
