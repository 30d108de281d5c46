/-! one call of the class and the same call of the model -/
theorem KI.of {h h' : HP} {v kv tx : Nat → Int32} {n L : Nat} {H : Nat → Nat → Int32} {kb : Bool} (i : KI h v n H kb kv L tx) (e : ∀ o, o < 70 → h' o = h o) : KI h' v n H kb kv L tx := by
  obtain ⟨i1, i2, i3, i4, i5, i6, i7⟩ := i
  refine ⟨i1.of (fun a h1 h2 => e a (by omega)), i2.of (fun o h1 h2 => e o (by omega)), i3.of (fun o h1 h2 => e o (by omega)), ⟨?_, fun k => (i4.2 k).of (fun a h1 h2 => e a (by omega))⟩, ?_, i6, ?_⟩
  · rw [e 0 (by decide)]
    exact i4.1
  · rw [e 59 (by decide)]
    exact i5
  · rw [e 60 (by decide)]
    exact i7
theorem E6.mw {w v : Nat → Int32} {p s k j : Nat} (e : E6 w v) : E6 (mw w p s k j) (mw v p s k j) := by
  intro i hi
  have := e i hi
  show up (up (up (up w 6 (nI p)) 7 (nI s)) 8 (nI k)) 11 (nI j) i = up (up (up (up v 6 (nI p)) 7 (nI s)) 8 (nI k)) 11 (nI j) i
  unfold up
  repeat' split
  all_goals first | rfl | exact this
theorem WS.sb {v : Nat → Int32} (w : WS v) : SB (N v 0) (N v 1) (N v 2) (N v 3) := ⟨w.fm, w.2.2.1.1, w.2.2.1.2.1, w.2.2.2.1.2.1⟩
theorem WS.se {v : Nat → Int32} {h : HP} {o : Nat} (w : WS v) (r : RS h o v) : SE (N v 0) (N v 1) (N v 2) (N v 3) (h (o + 1)) := ⟨(r 0 (by decide)).trans w.1.2.2, (r 1 (by decide)).trans w.2.1.2.2, (r 2 (by decide)).trans w.2.2.1.2.2, (r 3 (by decide)).trans w.2.2.2.1.2.2⟩
theorem WS.sm {v : Nat → Int32} (w : WS v) : SE (N v 0) (N v 1) (N v 2) (N v 3) v := ⟨w.1.2.2, w.2.1.2.2, w.2.2.1.2.2, w.2.2.2.1.2.2⟩
/-- a row with another head -/
theorem WF.head {T : Nat} {v : Nat → Int32} {p s k j : Nat} (w : WF T v) (hT : T + 1000000 < 2 ^ 31) (hp : p ≤ TOT v) (s1 : 8 ≤ s) (s2 : s ≤ 214) (hk : k ≤ T + 1000000) (hj : j ≤ T + 1000000) : WF (T + 1000000) (mw v p s k j) := by
  obtain ⟨ws, wh, wc, wp⟩ := w
  have hT2 := FM_tot ws.fm
  have hT3 : TOT v ≤ 3810 := hT2.2.1
  have o : ∀ i, i < 6 ∨ 11 < i ∨ i = 9 ∨ i = 10 → mw v p s k j i = v i := fun i h => mw_o h
  have nn : ∀ i, i < 6 ∨ 11 < i ∨ i = 9 ∨ i = 10 → N (mw v p s k j) i = N v i := fun i h => by
    unfold N
    rw [o i h]
  have is : ∀ i lo hi, (i < 6 ∨ 11 < i ∨ i = 9 ∨ i = 10) → isN v i lo hi → isN (mw v p s k j) i lo hi := fun i lo hi h q => by
    unfold isN at q ⊢
    rw [nn i h, o i h]
    exact q
  have tt : TOT (mw v p s k j) = TOT v := by
    unfold TOT
    rw [nn 0 (by omega), nn 1 (by omega)]
  refine ⟨⟨is _ _ _ (by omega) ws.1, is _ _ _ (by omega) ws.2.1, is _ _ _ (by omega) ws.2.2.1, is _ _ _ (by omega) ws.2.2.2.1, is _ _ _ (by omega) ws.2.2.2.2.1, is _ _ _ (by omega) ws.2.2.2.2.2⟩, ?_, ?_, ?_⟩
  · unfold WH
    rw [tt]
    exact ⟨isN_of mw_6 (by omega) (Nat.zero_le _) hp, isN_of mw_7 (by omega) s1 s2, isN_of mw_8 (by omega) (Nat.zero_le _) hk, (is _ _ _ (by omega) wh.2.2.2.1).mono (by omega), (is _ _ _ (by omega) wh.2.2.2.2.1).mono (by omega), isN_of mw_11 (by omega) (Nat.zero_le _) hj⟩
  · refine ⟨is _ _ _ (by omega) wc.1, fun q hq => ?_⟩
    rw [nn 12 (by omega)] at hq
    obtain ⟨c0, c1, c2, c3⟩ := wc.2 q hq
    rw [nn (13 + 4 * q) (by omega), nn (13 + 4 * q + 2) (by omega)]
    exact ⟨is _ _ _ (by omega) c0, is _ _ _ (by omega) c1, is _ _ _ (by omega) c2, is _ _ _ (by omega) c3⟩
  · refine ⟨is _ _ _ (by omega) wp.1, fun q hq => ?_⟩
    rw [nn 45 (by omega)] at hq
    obtain ⟨c0, c1, c2, c3⟩ := wp.2 q hq
    rw [nn (46 + 3 * q) (by omega)]
    exact ⟨is _ _ _ (by omega) c0, c1, is _ _ _ (by omega) c2, is _ _ _ (by omega) c3⟩
theorem R.head {h : HP} {v w : Nat → Int32} {o p s k j : Nat} (r : R h o v) (ew : h (o + 7) = w) : R (sR h (o + 7) (hw w p s k j)) o (mw v p s k j) := by
  subst ew
  obtain ⟨rs, rh, rc, rp⟩ := r
  have nn : ∀ i, 11 < i → N (mw v p s k j) i = N v i := fun i h => by
    unfold N
    rw [mw_o (by omega)]
  refine ⟨fun i hi => ?_, fun i hi => ?_, ⟨?_, fun i hi => ?_⟩, ?_, fun i hi => ?_⟩
  · rw [sR_o (by omega), mw_o (by omega)]
    exact rs i hi
  · rw [sR_s]
    have : i = 0 ∨ i = 1 ∨ i = 2 ∨ i = 3 ∨ i = 4 ∨ i = 5 := by omega
    rcases this with q | q | q | q | q | q
    · subst q
      rfl
    · subst q
      rfl
    · subst q
      rfl
    · subst q
      exact rh 3 (by decide)
    · subst q
      exact rh 4 (by decide)
    · subst q
      rfl
  · rw [sR_o (by omega), mw_o (by omega)]
    exact rc.1
  · rw [nn 12 (by omega)] at hi
    rw [sR_o (by omega), mw_o (by omega)]
    exact rc.2 i hi
  · rw [sR_o (by omega), mw_o (by omega)]
    exact rp.1
  · rw [nn 45 (by omega)] at hi
    rw [sR_o (by omega), sR_o (by omega), mw_o (by omega), mw_o (by omega), mw_o (by omega)]
    exact rp.2 i hi

