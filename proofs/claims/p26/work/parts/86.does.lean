/-! the law's own helpers: low, does -/
theorem pos31 (x : Int32) : ¬ (x &&& (2147483647 : Int32)) < 0 := by
  intro h
  rw [Int32.lt_iff_toInt_lt, Int32.toInt_zero] at h
  have e : (x &&& (2147483647 : Int32)).toInt = ((x &&& (2147483647 : Int32)).toBitVec).toInt := rfl
  rw [e, Int32.toBitVec_and] at h
  have m : (x.toBitVec &&& (2147483647 : Int32).toBitVec).msb = false := by
    rw [BitVec.msb_and, show ((2147483647 : Int32).toBitVec).msb = false by decide, Bool.and_false]
  rw [BitVec.toInt_eq_msb_cond, m] at h
  simp only [Bool.false_eq_true, if_false] at h
  omega
theorem lw_low (x : Int32) {n : Nat} (h0 : 0 < n) (hn : n < 2 ^ 31) : ∃ m, m < n ∧ ∀ h, f_L_low x (nI n) h = some (nI m) := by
  obtain ⟨j, hj, e⟩ := nI_of (pos31 x)
  refine ⟨j % n, Nat.mod_lt _ h0, fun h => ?_⟩
  have z : nz (nI n) = true := decide_eq_true (nI_ne0 h0 hn)
  rw [f_L_low, gd_t z, e, jrem_n hj h0 hn]
/-- what does comes to -/
def Dz (T : Nat) (X : Option (Int32 × HP)) : Prop := ∃ r v', 0 ≤ r ∧ PV (T + 10000) v' ∧ Gl X v' [] r
theorem Dz.err {T : Nat} {v : Nat → Int32} {r : Int32} {X : Option (Int32 × HP)} (p : PV T v) (g : Gl X v [] r) (hr : 0 ≤ r) : Dz T X := ⟨r, v, hr, ⟨p.1.mono (by omega), p.2⟩, g⟩
theorem Gl.drop {α : Type} {X : Option (α × HP)} {v : Nat → Int32} {l : List (Nat → Int32)} {r : α} (g : Gl X v l r) : Gl X v [] r := by
  obtain ⟨h', e, k⟩ := g
  exact ⟨h', e, k.drop⟩
theorem nI_n5 {a k : Nat} (ha : a < 2 ^ 31) (hk : k < 2 ^ 31) : ¬ nI a = zI (-(k + 1 : Int)) := by
  intro e
  rw [nI_z, zI_eq (by omega) (by omega) (by omega) (by omega)] at e
  omega
theorem nI_n3' {a : Nat} (ha : a < 2 ^ 31) : ¬ nI a = (-3 : Int32) := nI_n5 (k := 2) ha (by decide)
theorem nI_n4' {a : Nat} (ha : a < 2 ^ 31) : ¬ nI a = (-4 : Int32) := nI_n5 (k := 3) ha (by decide)
theorem nI_n5' {a : Nat} (ha : a < 2 ^ 31) : ¬ nI a = (-5 : Int32) := nI_n5 (k := 4) ha (by decide)
theorem d_scratch {T : Nat} {v : Nat → Int32} {h : HP} {x : Int32} (p : PV T v) (k : KS h v []) : Dz T (ob (f_L_low (x >>> ((4 : Int32) &&& 31)) (360 : Int32) h) (fun q82 => ob (f_L_low (x >>> ((8 : Int32) &&& 31)) (30 : Int32) h) (fun q93 => ob (f_L_low (x >>> ((6 : Int32) &&& 31)) (if (40 : Int32) ≤ ((360 : Int32) - q82) then (40 : Int32) else ((360 : Int32) - q82)) h) (fun q129 => ob (f_L_low (x >>> ((10 : Int32) &&& 31)) ((30 : Int32) - q93) h) (fun q146 => ob (f_X10_scratch q82 (q82 + q129) q93 (q93 + q146) h) (fun q150 => if q150.1 = (-3 : Int32) then some ((0 : Int32), q150.2) else some (q150.1, q150.2))))))) := by
  obtain ⟨a, ha, ea⟩ := lw_low (x >>> ((4 : Int32) &&& 31)) (n := 360) (by decide) (by decide)
  have ea : ∀ h, f_L_low (x >>> ((4 : Int32) &&& 31)) (360 : Int32) h = some (nI a) := ea
  obtain ⟨c, hc, ec⟩ := lw_low (x >>> ((8 : Int32) &&& 31)) (n := 30) (by decide) (by decide)
  have ec : ∀ h, f_L_low (x >>> ((8 : Int32) &&& 31)) (30 : Int32) h = some (nI c) := ec
  obtain ⟨b, hb, eb⟩ := lw_low (x >>> ((6 : Int32) &&& 31)) (n := if 40 ≤ 360 - a then 40 else 360 - a) (by split <;> omega) (by split <;> omega)
  obtain ⟨d, hd, ed⟩ := lw_low (x >>> ((10 : Int32) &&& 31)) (n := 30 - c) (by omega) (by omega)
  have en : (if (40 : Int32) ≤ ((360 : Int32) - nI a) then (40 : Int32) else ((360 : Int32) - nI a)) = nI (if 40 ≤ 360 - a then 40 else 360 - a) := by
    have e3 : (360 : Int32) - nI a = nI (360 - a) := pk_sub (a := 360) (by omega)
    rw [e3]
    by_cases q : 40 ≤ 360 - a
    · rw [if_pos q, if_pos (show (40 : Int32) ≤ nI (360 - a) from nI_le (a := 40) q (by omega))]
      rfl
    · rw [if_neg q, if_neg (show ¬ (40 : Int32) ≤ nI (360 - a) from fun e => q ((nI_leI (a := 40) (by decide) (by omega)).mp e))]
  have e30 : (30 : Int32) - nI c = nI (30 - c) := pk_sub (a := 30) (by omega)
  rw [ob_e (ea h), ob_e (ec h), en, ob_e (eb h), e30, ob_e (ed h), nI_add, nI_add]
  have hb' : b ≤ 359 - a := by
    split at hb <;> omega
  rcases a_scratch (a := a) (b := a + b) (c := c) (d := c + d) p.1 (by omega) (by omega) (by omega) (by omega) with ⟨_, q⟩ | ⟨wf', ev, q⟩
  · refine Dz.err (r := 0) p ?_ (by decide)
    have g : Gl (f_X10_scratch (nI a) (nI (a + b)) (nI c) (nI (c + d)) h) v [] (-3) := q h [] k
    refine g.go (fun h' k' => ?_)
    dsimp only
    rw [if_pos rfl]
    exact Gl.fin k'
  · have hcn := cnt_le (lyV (scV v (N v 12) a (a + b) c (c + d)) (-5)) (TOT (scV v (N v 12) a (a + b) c (c + d)))
    have t := wf'.t3
    refine ⟨dmC (scV v (N v 12) a (a + b) c (c + d)), scV v (N v 12) a (a + b) c (c + d), nI_pos' (by omega), ⟨wf'.mono (by omega), p.2.eq (fun i hi => ev i (by omega))⟩, ?_⟩
    have g : Gl (f_X10_scratch (nI a) (nI (a + b)) (nI c) (nI (c + d)) h) (scV v (N v 12) a (a + b) c (c + d)) [v] (dmC (scV v (N v 12) a (a + b) c (c + d))) := q h [] (by decide) k
    refine g.go (fun h' k' => ?_)
    dsimp only
    rw [if_neg (show ¬ dmC _ = (-3 : Int32) from nI_n3' (by omega))]
    exact Gl.fin k'.drop
theorem d_polish {T : Nat} {v : Nat → Int32} {h : HP} {x : Int32} (p : PV T v) (k : KS h v []) : Dz T (ob (f_X10_count (2 : Int32) h) (fun q168 => if q168.1 = 0 then some ((0 : Int32), q168.2) else ob (f_X10_count (2 : Int32) q168.2) (fun q184 => ob (f_L_low (x >>> ((4 : Int32) &&& 31)) q184.1 q184.2) (fun q187 => ob (f_X10_polish q187 q184.2) (fun q190 => some (q190.1, q190.2)))))) := by
  have h8 := p.1.2.2.1.1.2.1
  obtain ⟨h1, e1, k1⟩ := q_c2 p.1 h [] k
  rw [ob_e e1]
  dsimp only
  by_cases q : N v 12 = 0
  · rw [q, if_pos (show nI 0 = 0 from nI_0)]
    exact Dz.err p (Gl.fin k1) (by decide)
  · obtain ⟨h2, e2, k2⟩ := q_c2 p.1 h1 [] k1
    obtain ⟨j, hj, ej⟩ := lw_low (x >>> ((4 : Int32) &&& 31)) (n := N v 12) (by omega) (by omega)
    rw [if_neg (nI_ne0 (by omega) (by omega)), ob_e e2]
    dsimp only
    rw [ob_e (ej h2)]
    obtain ⟨wf', ev, a⟩ := a_polish (k := j) (m := N v 12 - 1) p.1 hj (by omega)
    have hcn := cnt_le (lyV (plV v (N v 12 - 1) j) (-5)) (TOT (plV v (N v 12 - 1) j))
    have t := wf'.t3
    refine ⟨dmC (plV v (N v 12 - 1) j), plV v (N v 12 - 1) j, nI_pos' (by omega), ⟨wf'.mono (by omega), p.2.eq (fun i hi => ev i (by omega))⟩, ?_⟩
    have g : Gl (f_X10_polish (nI j) h2) (plV v (N v 12 - 1) j) [v] (dmC (plV v (N v 12 - 1) j)) := a h2 [] (by decide) k2
    exact g.go (fun h' k' => Gl.fin k'.drop)
theorem d_press {T : Nat} {v : Nat → Int32} {h : HP} {x : Int32} {f : Nat} (p : PV T v) (k : KS h v []) (hf : f < TOT v) : Dz T (ob (f_L_low (x >>> ((6 : Int32) &&& 31)) (4 : Int32) h) (fun q201 => ob (f_L_low (x >>> ((8 : Int32) &&& 31)) (16 : Int32) h) (fun q210 => ob (f_X10_press (nI f) q201 q210 h) (fun q213 => if q213.1 = (-4 : Int32) then some ((0 : Int32), q213.2) else if q213.1 = (-5 : Int32) then some ((0 : Int32), q213.2) else if q213.1 = (-3 : Int32) then some ((0 : Int32), q213.2) else some (q213.1, q213.2))))) := by
  obtain ⟨a, ha, ea⟩ := lw_low (x >>> ((6 : Int32) &&& 31)) (n := 4) (by decide) (by decide)
  have ea : ∀ h, f_L_low (x >>> ((6 : Int32) &&& 31)) (4 : Int32) h = some (nI a) := ea
  obtain ⟨c, hc, ec⟩ := lw_low (x >>> ((8 : Int32) &&& 31)) (n := 16) (by decide) (by decide)
  have ec : ∀ h, f_L_low (x >>> ((8 : Int32) &&& 31)) (16 : Int32) h = some (nI c) := ec
  rw [ob_e (ea h), ob_e (ec h)]
  rcases a_press (f := f) (p := a) (s := c) p.1 hf ha hc with ⟨r, hr, q⟩ | ⟨r, v', hr, wf', ev, q⟩
  · refine Dz.err (r := 0) p ?_ (by decide)
    have g : Gl (f_X10_press (nI f) (nI a) (nI c) h) v [] r := q h [] k
    refine g.go (fun h' k' => ?_)
    dsimp only
    rcases hr with hr | hr | hr <;> subst hr
    · rw [if_neg (by decide), if_neg (by decide), if_pos rfl]
      exact Gl.fin k'
    · rw [if_pos rfl]
      exact Gl.fin k'
    · rw [if_neg (by decide), if_pos rfl]
      exact Gl.fin k'
  · refine ⟨nI r, v', nI_pos' (by omega), ⟨wf'.mono (by omega), p.2.eq (fun i hi => ev i (by omega))⟩, ?_⟩
    have g : Gl (f_X10_press (nI f) (nI a) (nI c) h) v' [v] (nI r) := q h [] (by decide) k
    refine g.go (fun h' k' => ?_)
    dsimp only
    rw [if_neg (nI_n4' (by omega)), if_neg (nI_n5' (by omega)), if_neg (nI_n3' (by omega))]
    exact Gl.fin k'.drop
theorem d_set1 {T : Nat} {v : Nat → Int32} {h : HP} {w k : Nat} (hT : T < 2 ^ 31) (p : PV T v) (ks : KS h v []) (hw : w ≤ 5) (h1 : sLo w ≤ k) (h2 : k ≤ sHi w) : Dz T (ob (f_X10_set (nI w) (nI k) h) (fun q362 => if q362.1 = (-5 : Int32) then some ((0 : Int32), q362.2) else some (q362.1, q362.2))) := by
  rcases a_set hT p.1 hw h1 h2 with ⟨_, q⟩ | ⟨_, wf', q⟩
  · refine Dz.err (r := 0) p ?_ (by decide)
    refine Gl.go (q h [] ks) (fun h' k' => ?_)
    dsimp only
    rw [if_pos rfl]
    exact Gl.fin k'
  · have e := (isN6 p.1.1 hw).2
    refine ⟨nI (N v w), stV v w k, nI_pos' (by omega), ⟨wf'.mono (by omega), stV_hb p.1 p.2 hw h1 h2⟩, ?_⟩
    refine Gl.go (q h [] (by decide) ks) (fun h' k' => ?_)
    dsimp only
    rw [if_neg (nI_n5' (by omega))]
    exact Gl.fin k'.drop
theorem d_set {T : Nat} {v : Nat → Int32} {h : HP} {x : Int32} (hT : T < 2 ^ 31) (p : PV T v) (ks : KS h v []) : Dz T (ob (f_L_low (x >>> ((4 : Int32) &&& 31)) (6 : Int32) h) (fun q246 =>
    ob (
      if q246 = 0 then
        ob (f_L_low (x >>> ((7 : Int32) &&& 31)) (5 : Int32) h) (fun q263 =>
        some ((8 : Int32) + q263))
      else
        if q246 = (1 : Int32) then
          ob (f_L_low (x >>> ((7 : Int32) &&& 31)) (2 : Int32) h) (fun q281 =>
          some q281)
        else
          if q246 = (2 : Int32) then
            ob (f_L_low (x >>> ((7 : Int32) &&& 31)) (9 : Int32) h) (fun q300 =>
            some ((1 : Int32) + q300))
          else
            if q246 = (3 : Int32) then
              ob (f_L_low (x >>> ((7 : Int32) &&& 31)) (6 : Int32) h) (fun q319 =>
              some q319)
            else
              if q246 = (4 : Int32) then
                ob (f_L_low (x >>> ((7 : Int32) &&& 31)) (81 : Int32) h) (fun q339 =>
                some ((60 : Int32) + q339))
              else
                ob (f_L_low (x >>> ((7 : Int32) &&& 31)) (21 : Int32) h) (fun q352 =>
                some q352)) (fun j253 =>
    ob (f_X10_set q246 j253 h) (fun q362 =>
    if q362.1 = (-5 : Int32) then
      some ((0 : Int32), q362.2)
    else
      some (q362.1, q362.2))))) := by
  obtain ⟨w, hw, ew⟩ := lw_low (x >>> ((4 : Int32) &&& 31)) (n := 6) (by decide) (by decide)
  have ew : ∀ h, f_L_low (x >>> ((4 : Int32) &&& 31)) (6 : Int32) h = some (nI w) := ew
  rw [ob_e (ew h)]
  have fin : ∀ k, sLo w ≤ k → k ≤ sHi w → Dz T (ob (some (nI k)) (fun j253 => ob (f_X10_set (nI w) j253 h) (fun q362 => if q362.1 = (-5 : Int32) then some ((0 : Int32), q362.2) else some (q362.1, q362.2)))) := fun k h1 h2 => d_set1 hT p ks (by omega) h1 h2
  have c : w = 0 ∨ w = 1 ∨ w = 2 ∨ w = 3 ∨ w = 4 ∨ w = 5 := by omega
  rcases c with q | q | q | q | q | q <;> subst q
  · obtain ⟨k, hk, ek⟩ := lw_low (x >>> ((7 : Int32) &&& 31)) (n := 5) (by decide) (by decide)
    have ek : ∀ h, f_L_low (x >>> ((7 : Int32) &&& 31)) (5 : Int32) h = some (nI k) := ek
    rw [if_pos (show nI 0 = 0 from nI_0), ob_e (ek h), lit_n 8, nI_add]
    exact fin (8 + k) (show 8 ≤ 8 + k by omega) (show 8 + k ≤ 40 by omega)
  · obtain ⟨k, hk, ek⟩ := lw_low (x >>> ((7 : Int32) &&& 31)) (n := 2) (by decide) (by decide)
    have ek : ∀ h, f_L_low (x >>> ((7 : Int32) &&& 31)) (2 : Int32) h = some (nI k) := ek
    rw [if_neg (show ¬ nI 1 = 0 by decide), if_pos (show nI 1 = (1 : Int32) from rfl), ob_e (ek h)]
    exact fin k (Nat.zero_le _) (show k ≤ 6 by omega)
  · obtain ⟨k, hk, ek⟩ := lw_low (x >>> ((7 : Int32) &&& 31)) (n := 9) (by decide) (by decide)
    have ek : ∀ h, f_L_low (x >>> ((7 : Int32) &&& 31)) (9 : Int32) h = some (nI k) := ek
    rw [if_neg (show ¬ nI 2 = 0 by decide), if_neg (show ¬ nI 2 = (1 : Int32) by decide), if_pos (show nI 2 = (2 : Int32) from rfl), ob_e (ek h), lit_n 1, nI_add]
    exact fin (1 + k) (show 1 ≤ 1 + k by omega) (show 1 + k ≤ 9 by omega)
  · obtain ⟨k, hk, ek⟩ := lw_low (x >>> ((7 : Int32) &&& 31)) (n := 6) (by decide) (by decide)
    have ek : ∀ h, f_L_low (x >>> ((7 : Int32) &&& 31)) (6 : Int32) h = some (nI k) := ek
    rw [if_neg (show ¬ nI 3 = 0 by decide), if_neg (show ¬ nI 3 = (1 : Int32) by decide), if_neg (show ¬ nI 3 = (2 : Int32) by decide), if_pos (show nI 3 = (3 : Int32) from rfl), ob_e (ek h)]
    exact fin k (Nat.zero_le _) (show k ≤ 5 by omega)
  · obtain ⟨k, hk, ek⟩ := lw_low (x >>> ((7 : Int32) &&& 31)) (n := 81) (by decide) (by decide)
    have ek : ∀ h, f_L_low (x >>> ((7 : Int32) &&& 31)) (81 : Int32) h = some (nI k) := ek
    rw [if_neg (show ¬ nI 4 = 0 by decide), if_neg (show ¬ nI 4 = (1 : Int32) by decide), if_neg (show ¬ nI 4 = (2 : Int32) by decide), if_neg (show ¬ nI 4 = (3 : Int32) by decide), if_pos (show nI 4 = (4 : Int32) from rfl), ob_e (ek h), lit_n 60, nI_add]
    exact fin (60 + k) (show 60 ≤ 60 + k by omega) (show 60 + k ≤ 140 by omega)
  · obtain ⟨k, hk, ek⟩ := lw_low (x >>> ((7 : Int32) &&& 31)) (n := 21) (by decide) (by decide)
    have ek : ∀ h, f_L_low (x >>> ((7 : Int32) &&& 31)) (21 : Int32) h = some (nI k) := ek
    rw [if_neg (show ¬ nI 5 = 0 by decide), if_neg (show ¬ nI 5 = (1 : Int32) by decide), if_neg (show ¬ nI 5 = (2 : Int32) by decide), if_neg (show ¬ nI 5 = (3 : Int32) by decide), if_neg (show ¬ nI 5 = (4 : Int32) by decide), ob_e (ek h)]
    exact fin k (Nat.zero_le _) (show k ≤ 20 by omega)
theorem d_play {T : Nat} {v : Nat → Int32} {h : HP} {x : Int32} (hT : T + 10000 < 2 ^ 31) (p : PV T v) (k : KS h v []) : Dz T (ob (f_L_low (x >>> ((4 : Int32) &&& 31)) (60 : Int32) h) (fun q385 => ob (f_X10_play ((1 : Int32) + q385) h) (fun q389 => if q389.1 = (-5 : Int32) then some ((0 : Int32), q389.2) else some (q389.1, q389.2)))) := by
  obtain ⟨a, ha, ea⟩ := lw_low (x >>> ((4 : Int32) &&& 31)) (n := 60) (by decide) (by decide)
  have ea : ∀ h, f_L_low (x >>> ((4 : Int32) &&& 31)) (60 : Int32) h = some (nI a) := ea
  rw [ob_e (ea h), lit_n 1, nI_add]
  by_cases q : N v 6 < TOT v
  · obtain ⟨wf', a1⟩ := a_play (X := 1 + a) hT p.1 (by omega) (by omega) q
    have B := pl_B (X := 1 + a) p.1
    refine ⟨nI (plP v (1 + a)).2.1, plW v (1 + a), nI_pos' (by omega), ⟨wf', plW_hb hT p.1 p.2⟩, ?_⟩
    refine Gl.go (a1 h [] (by decide) k) (fun h' k' => ?_)
    dsimp only
    rw [if_neg (nI_n5' (by omega))]
    exact Gl.fin k'.drop
  · refine Dz.err (r := 0) p ?_ (by decide)
    refine Gl.go (a_playN (X := 1 + a) p.1 (by omega) (by omega) q h [] k) (fun h' k' => ?_)
    dsimp only
    rw [if_pos rfl]
    exact Gl.fin k'
theorem d_seek {T : Nat} {v : Nat → Int32} {h : HP} {f : Nat} (hT : T + 10000 < 2 ^ 31) (p : PV T v) (k : KS h v []) (hf : f < TOT v) : Dz T (ob (f_X10_seek (nI f) h) (fun q407 => some (q407.1, q407.2))) := by
  obtain ⟨wf', a⟩ := a_seek hT p.1 hf
  have B := t_B p.1 hf p.1.1.2.2.2.2.1.1 p.1.1.2.2.2.2.1.2.1
  refine ⟨nI (tK v (N v 4) f - N v 8), skW v f, nI_pos' (by omega), ⟨wf', skW_hb hT p.1 p.2 hf⟩, ?_⟩
  exact Gl.go (a h [] (by decide) k) (fun h' k' => Gl.fin k'.drop)
theorem l_does {T : Nat} {v : Nat → Int32} {h : HP} {x : Int32} (hT : T + 10000 < 2 ^ 31) (p : PV T v) (k : KS h v []) : Dz T (f_L_does x h) := by
  have t := p.1.t3
  obtain ⟨h1, e1, k1⟩ := q_c0 p.1 h [] k
  obtain ⟨f, hf, ef⟩ := lw_low (x >>> ((4 : Int32) &&& 31)) (n := TOT v) (by omega) (by omega)
  rw [f_L_does, ob_e e1]
  dsimp only
  rw [ob_e (ef h1)]
  by_cases c0 : x &&& (15 : Int32) = 0
  · rw [if_pos c0]
    exact d_scratch p k1
  rw [if_neg c0]
  by_cases c1 : x &&& (15 : Int32) = 1
  · rw [if_pos c1]
    exact d_scratch p k1
  rw [if_neg c1]
  by_cases c2 : x &&& (15 : Int32) = 2
  · rw [if_pos c2]
    exact d_scratch p k1
  rw [if_neg c2]
  by_cases c3 : x &&& (15 : Int32) = 3
  · rw [if_pos c3]
    exact d_polish p k1
  rw [if_neg c3]
  by_cases c4 : x &&& (15 : Int32) = 4
  · rw [if_pos c4]
    exact d_press p k1 hf
  rw [if_neg c4]
  by_cases c5 : x &&& (15 : Int32) = 5
  · rw [if_pos c5]
    exact d_press p k1 hf
  rw [if_neg c5]
  by_cases c6 : x &&& (15 : Int32) = 6
  · rw [if_pos c6]
    exact d_press p k1 hf
  rw [if_neg c6]
  by_cases c7 : x &&& (15 : Int32) = 7
  · rw [if_pos c7]
    exact d_set (by omega) p k1
  rw [if_neg c7]
  by_cases c8 : x &&& (15 : Int32) = 8
  · rw [if_pos c8]
    exact d_play hT p k1
  rw [if_neg c8]
  by_cases c9 : x &&& (15 : Int32) = 9
  · rw [if_pos c9]
    exact d_play hT p k1
  rw [if_neg c9]
  by_cases c10 : x &&& (15 : Int32) = 10
  · rw [if_pos c10]
    exact d_play hT p k1
  rw [if_neg c10]
  exact d_seek hT p k1 hf
