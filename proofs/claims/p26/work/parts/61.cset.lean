/-! the call set -/
def sLo (w : Nat) : Nat := if w = 0 then 8 else if w = 2 then 1 else if w = 4 then 60 else 0
def sHi (w : Nat) : Nat := if w = 0 then 40 else if w = 1 then 6 else if w = 2 then 9 else if w = 3 then 5 else if w = 4 then 140 else 20
theorem six {w : Nat} (h : w ≤ 5) : w = 0 ∨ w = 1 ∨ w = 2 ∨ w = 3 ∨ w = 4 ∨ w = 5 := by omega
theorem c_range {w : Nat} {y : Int32} {h h' : HP} (hw : w ≤ 5) : f_X5_isInRange (nI w) y h = inF y (nI (sLo w)) (nI (sHi w)) h' := by
  rcases six hw with q | q | q | q | q | q <;> subst q <;> rfl
theorem c_setAt {w o : Nat} {h : HP} (hw : w ≤ 5) : f_X5_settingAt o (nI w) h = h o w := by
  rcases six hw with q | q | q | q | q | q <;> subst q <;> rfl
theorem c_change {w o : Nat} {y : Int32} {h : HP} (hw : w ≤ 5) : f_X5_change o (nI w) y h = hset h o w y := by
  rcases six hw with q | q | q | q | q | q <;> subst q <;> rfl
theorem sLo_b {w : Nat} : sLo w ≤ 60 ∧ sHi w ≤ 140 := by
  unfold sLo sHi
  constructor
  · repeat' split
    all_goals omega
  · repeat' split
    all_goals omega
theorem WS.set {v : Nat → Int32} {w k : Nat} (ws : WS v) (hw : w ≤ 5) (h1 : sLo w ≤ k) (h2 : k ≤ sHi w) : WS (up v w (nI k)) := by
  obtain ⟨a, b, c, d, e, f⟩ := ws
  unfold sLo at h1
  unfold sHi at h2
  rcases six hw with q | q | q | q | q | q <;> subst q <;> simp at h1 h2
  · exact ⟨isN_up (by omega) h1 h2, b.upk (by decide), c.upk (by decide), d.upk (by decide), e.upk (by decide), f.upk (by decide)⟩
  · exact ⟨a.upk (by decide), isN_up (by omega) (by omega) h2, c.upk (by decide), d.upk (by decide), e.upk (by decide), f.upk (by decide)⟩
  · exact ⟨a.upk (by decide), b.upk (by decide), isN_up (by omega) h1 h2, d.upk (by decide), e.upk (by decide), f.upk (by decide)⟩
  · exact ⟨a.upk (by decide), b.upk (by decide), c.upk (by decide), isN_up (by omega) (by omega) h2, e.upk (by decide), f.upk (by decide)⟩
  · exact ⟨a.upk (by decide), b.upk (by decide), c.upk (by decide), d.upk (by decide), isN_up (by omega) h1 h2, f.upk (by decide)⟩
  · exact ⟨a.upk (by decide), b.upk (by decide), c.upk (by decide), d.upk (by decide), e.upk (by decide), isN_up (by omega) (by omega) h2⟩
theorem R.ups {h : HP} {u : Nat → Int32} {o i : Nat} {x : Int32} (hi : i < 6) (r : R h o u) : R (hset h (o + 1) i x) o (up u i x) := by
  obtain ⟨rs, rh, rc, rp⟩ := r
  rw [hset_sR]
  refine ⟨fun k hk => ?_, fun k hk => ?_, ⟨?_, fun k hk => ?_⟩, ?_, fun k hk => ?_⟩
  · rw [sR_s]
    by_cases q : k = i
    · subst q
      rw [up_s, up_s]
    · rw [up_o q, up_o q]
      exact rs k hk
  · rw [sR_o (by omega), up_o (by omega)]
    exact rh k hk
  · rw [sR_o (by omega), up_o (by omega)]
    exact rc.1
  · rw [N_up (by omega)] at hk
    rw [sR_o (by omega), up_o (by omega)]
    exact rc.2 k hk
  · rw [sR_o (by omega), up_o (by omega)]
    exact rp.1
  · rw [N_up (by omega)] at hk
    rw [sR_o (by omega), sR_o (by omega), up_o (by omega), up_o (by omega), up_o (by omega)]
    exact rp.2 k hk
theorem E6.upk {u v : Nat → Int32} {i : Nat} {x : Int32} (e : E6 u v) : E6 (up u i x) (up v i x) := by
  intro k hk
  by_cases q : k = i
  · subst q
    rw [up_s, up_s]
  · rw [up_o q, up_o q]
    exact e k hk
/-- the row behind a setting -/
def stV (v : Nat → Int32) (w k : Nat) : Nat → Int32 := if 1 < w then up v w (nI k) else up (up (up v w (nI k)) 6 0) 7 (up v w (nI k) 0)
theorem stV_wf {T : Nat} {v : Nat → Int32} {w k : Nat} (hT : T < 2 ^ 31) (wf : WF T v) (hw : w ≤ 5) (h1 : sLo w ≤ k) (h2 : k ≤ sHi w) : WF T (stV v w k) := by
  obtain ⟨ws, wh, wc, wp⟩ := wf
  have ws' := ws.set hw h1 h2
  have wc' : WC (up v w (nI k)) := wc.upk (by omega)
  have wp' : WP (up v w (nI k)) := wp.upk (by omega)
  unfold stV
  by_cases q : 1 < w
  · rw [if_pos q]
    refine ⟨ws', ?_, wc', wp'⟩
    unfold WH
    rw [TOT_up q]
    obtain ⟨a, b, c, d, e, f⟩ := wh
    exact ⟨a.upk (by omega), b.upk (by omega), c.upk (by omega), d.upk (by omega), e.upk (by omega), f.upk (by omega)⟩
  · rw [if_neg q]
    obtain ⟨a, b, c, d, e, f⟩ := wh
    have u0 := ws'.1
    refine ⟨(ws'.upk (by omega)).upk (by omega), ?_, (wc'.upk (by omega)).upk (by omega), (wp'.upk (by omega)).upk (by omega)⟩
    unfold WH
    exact ⟨(isN_up (n := 0) (by decide) (by omega) (by omega)).upk (by omega), isN_of (up_s.trans u0.2.2) (by have := u0.2.1; omega) u0.1 (by have := u0.2.1; omega), ((c.upk (by omega)).upk (by omega)).upk (by omega), ((d.upk (by omega)).upk (by omega)).upk (by omega), ((e.upk (by omega)).upk (by omega)).upk (by omega), ((f.upk (by omega)).upk (by omega)).upk (by omega)⟩
