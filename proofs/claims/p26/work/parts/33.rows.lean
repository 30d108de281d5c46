/-! heaps by rows -/
def up (w : Nat → Int32) (k : Nat) (x : Int32) : Nat → Int32 := fun j => if j = k then x else w j
def sR (h : HP) (o : Nat) (w : Nat → Int32) : HP := fun a => if a = o then w else h a
theorem up_s {w : Nat → Int32} {k : Nat} {x : Int32} : up w k x k = x := if_pos rfl
theorem up_o {w : Nat → Int32} {k j : Nat} {x : Int32} (h : j ≠ k) : up w k x j = w j := if_neg h
theorem sR_s {h : HP} {o : Nat} {w : Nat → Int32} : sR h o w o = w := if_pos rfl
theorem sR_o {h : HP} {o a : Nat} {w : Nat → Int32} (e : a ≠ o) : sR h o w a = h a := if_neg e
theorem sR_2 {h : HP} {o : Nat} {w w' : Nat → Int32} : sR (sR h o w) o w' = sR h o w' := by
  funext a
  unfold sR
  split <;> rfl
theorem sR_id {h : HP} {o : Nat} : sR h o (h o) = h := by
  funext a
  unfold sR
  split
  · next e => rw [e]
  · rfl
theorem hset_sR {h : HP} {o k : Nat} {x : Int32} : hset h o k x = sR h o (up (h o) k x) := by
  funext a j
  unfold hset sR up
  by_cases e : a = o
  · subst e
    simp
  · simp [e]
theorem hcpy_sR {h : HP} {s d n : Nat} : hcpy h s d n = sR h d (fun j => if j < n then h s j else h d j) := by
  funext a j
  unfold hcpy sR
  by_cases e : a = d
  · subst e
    simp
  · simp [e]
/-! how far apart; a spin -/
def dN (a b : Nat) : Nat := (a - b) + (b - a)
theorem jabs_n {a b : Nat} (ha : a < 2 ^ 30) (hb : b < 2 ^ 30) : jabs (nI a - nI b) = nI (dN a b) := by
  unfold jabs dN
  by_cases h : b ≤ a
  · rw [pk_sub h, if_pos (nI_pos' (by omega))]
    congr 1
    omega
  · have e : nI a - nI b = zI ((a : Int) - b) := by rw [nI_z, nI_z, zI_sub]
    have e2 : (0 : Int32) = zI 0 := by decide
    rw [e, e2, if_neg (fun q => by
      rw [zI_le (by omega) (by omega) (by omega) (by omega)] at q
      omega), zI_sub, nI_z]
    congr 1
    omega
theorem dN_comm (a b : Nat) : dN a b = dN b a := by
  unfold dN
  omega
/-- the speed after so many ticks towards a target -/
def spN (m g c s : Nat) : Nat := if g ≤ s then max g (s - c * m) else min g (s + c * m)
theorem spN_succ (m g c s : Nat) : spN m g 1 (spN m g c s) = spN m g (c + 1) s := by
  have e : (c + 1) * m = c * m + m := by rw [Nat.add_mul, Nat.one_mul]
  unfold spN
  rw [e]
  generalize c * m = x
  split <;> split <;> omega
theorem spN_1 (m g s : Nat) : ((spN m g 1 s : Nat) : Int) = (s : Int) + (if (g : Int) - s ≤ m then (if -(m : Int) ≤ g - s then (g : Int) - s else -(m : Int)) else (m : Int)) := by
  unfold spN
  rw [Nat.one_mul, Nat.max_def, Nat.min_def]
  repeat' split
  all_goals omega
theorem spN_0 (m g s : Nat) : spN m g 0 s = s := by
  unfold spN
  split <;> omega
theorem spN_rng {m g c s lo hi : Nat} (h1 : lo ≤ g) (h2 : g ≤ hi) (h3 : lo ≤ s) (h4 : s ≤ hi) : lo ≤ spN m g c s ∧ spN m g c s ≤ hi := by
  unfold spN
  generalize c * m = x
  split <;> omega
theorem spN_near {m g s : Nat} (hm : 1 ≤ m) : dN g (spN m g 1 s) ≤ dN g s ∧ (dN g (spN m g 1 s) = 0 ∨ dN g (spN m g 1 s) < dN g s) := by
  unfold spN dN
  split <;> omega
/-- the row of a head -/
def hw (w : Nat → Int32) (p s k j : Nat) : Nat → Int32 := up (up (up (up w 0 (nI p)) 1 (nI s)) 2 (nI k)) 5 (nI j)
def mw (w : Nat → Int32) (p s k j : Nat) : Nat → Int32 := up (up (up (up w 6 (nI p)) 7 (nI s)) 8 (nI k)) 11 (nI j)
theorem hw_0 {w : Nat → Int32} {p s k j : Nat} : hw w p s k j 0 = nI p := rfl
theorem hw_1 {w : Nat → Int32} {p s k j : Nat} : hw w p s k j 1 = nI s := rfl
theorem hw_2 {w : Nat → Int32} {p s k j : Nat} : hw w p s k j 2 = nI k := rfl
theorem hw_3 {w : Nat → Int32} {p s k j : Nat} : hw w p s k j 3 = w 3 := rfl
theorem hw_4 {w : Nat → Int32} {p s k j : Nat} : hw w p s k j 4 = w 4 := rfl
theorem hw_5 {w : Nat → Int32} {p s k j : Nat} : hw w p s k j 5 = nI j := rfl
theorem hw_u0 {w : Nat → Int32} {p s k j p' : Nat} : up (hw w p s k j) 0 (nI p') = hw w p' s k j := by
  funext i
  unfold hw up
  repeat' split
  all_goals first | rfl | omega
theorem hw_u1 {w : Nat → Int32} {p s k j s' : Nat} : up (hw w p s k j) 1 (nI s') = hw w p s' k j := by
  funext i
  unfold hw up
  repeat' split
  all_goals first | rfl | omega
theorem hw_u2 {w : Nat → Int32} {p s k j k' : Nat} : up (hw w p s k j) 2 (nI k') = hw w p s k' j := by
  funext i
  unfold hw up
  repeat' split
  all_goals first | rfl | omega
theorem hw_u5 {w : Nat → Int32} {p s k j j' : Nat} : up (hw w p s k j) 5 (nI j') = hw w p s k j' := by
  funext i
  unfold hw up
  repeat' split
  all_goals first | rfl | omega
theorem mw_6 {w : Nat → Int32} {p s k j : Nat} : mw w p s k j 6 = nI p := rfl
theorem mw_7 {w : Nat → Int32} {p s k j : Nat} : mw w p s k j 7 = nI s := rfl
theorem mw_8 {w : Nat → Int32} {p s k j : Nat} : mw w p s k j 8 = nI k := rfl
theorem mw_11 {w : Nat → Int32} {p s k j : Nat} : mw w p s k j 11 = nI j := rfl
theorem mw_o {w : Nat → Int32} {p s k j i : Nat} (h : i < 6 ∨ 11 < i ∨ i = 9 ∨ i = 10) : mw w p s k j i = w i := by
  unfold mw
  rw [up_o (by omega), up_o (by omega), up_o (by omega), up_o (by omega)]
theorem mw_u6 {w : Nat → Int32} {p s k j p' : Nat} : up (mw w p s k j) 6 (nI p') = mw w p' s k j := by
  funext i
  unfold mw up
  repeat' split
  all_goals first | rfl | omega
theorem mw_u7 {w : Nat → Int32} {p s k j s' : Nat} : up (mw w p s k j) 7 (nI s') = mw w p s' k j := by
  funext i
  unfold mw up
  repeat' split
  all_goals first | rfl | omega
theorem mw_u8 {w : Nat → Int32} {p s k j k' : Nat} : up (mw w p s k j) 8 (nI k') = mw w p s k' j := by
  funext i
  unfold mw up
  repeat' split
  all_goals first | rfl | omega
theorem mw_u11 {w : Nat → Int32} {p s k j j' : Nat} : up (mw w p s k j) 11 (nI j') = mw w p s k j' := by
  funext i
  unfold mw up
  repeat' split
  all_goals first | rfl | omega
theorem hw_id {w : Nat → Int32} {p s k j : Nat} (h0 : w 0 = nI p) (h1 : w 1 = nI s) (h2 : w 2 = nI k) (h5 : w 5 = nI j) : hw w p s k j = w := by
  funext i
  unfold hw up
  repeat' split
  all_goals first | rfl | (subst_vars; simp [*])
theorem mw_id {w : Nat → Int32} {p s k j : Nat} (h0 : w 6 = nI p) (h1 : w 7 = nI s) (h2 : w 8 = nI k) (h5 : w 11 = nI j) : mw w p s k j = w := by
  funext i
  unfold mw up
  repeat' split
  all_goals first | rfl | (subst_vars; simp [*])
/-- what a seek or a play finds of the settings: frames F, more M, motor m, off f -/
def SE (F M m f : Nat) (w : Nat → Int32) : Prop := w 0 = nI F ∧ w 1 = nI M ∧ w 2 = nI m ∧ w 3 = nI f
def SB (F M m f : Nat) : Prop := FM F M ∧ 1 ≤ m ∧ m ≤ 9 ∧ f ≤ 5
theorem c_spin {F M m f o os p s k j c g : Nat} {h : HP} {w : Nat → Int32} (hso : os ≠ o) (se : SE F M m f (h os)) (hw0 : h o = hw w p s k j) (hs : s < 2 ^ 20) (hg : g < 2 ^ 20) (hc : c ≤ 100) (hm : m ≤ 9) : f_X1_spin o (nI c) (nI g) os h = sR h o (hw w p (spN m g c s) (k + c) j) := by
  have hcm : c * m ≤ 100 * 9 := Nat.mul_le_mul hc hm
  rw [f_X1_spin, tb_s, hset_sR, hset_sR, sR_2, sR_s, hw0, hw_1, se.2.2.1, pk_mul]
  have e : (if nI g ≤ nI s then jmax (nI g) (nI s - nI (c * m)) else jmin (nI g) (nI s + nI (c * m))) = nI (spN m g c s) := by
    unfold spN
    by_cases q : g ≤ s
    · rw [if_pos (nI_le q (by omega)), if_pos q]
      by_cases q2 : c * m ≤ s
      · rw [pk_sub q2, jmax_n (by omega) (by omega)]
      · have e1 : nI s - nI (c * m) = zI ((s : Int) - (c * m : Nat)) := by rw [nI_z, nI_z, zI_sub]
        rw [e1, jmax, nI_z, if_neg (fun q3 => by
          rw [zI_lt (by omega) (by omega) (by omega) (by omega)] at q3
          omega), nI_z]
        congr 1
        omega
    · rw [if_neg (fun c => q ((nI_leI (by omega) (by omega)).mp c)), if_neg q, nI_add, jmin_n (by omega) (by omega)]
  rw [e, hw_u1, hw_2, nI_add, hw_u2]
