/-! the plain functions' words, and rows over them -/
def FU : Nat := 1000000
def ob {α β : Type} (x : Option α) (k : α → Option β) : Option β := match x with
  | none => none
  | some a => k a
def tb {α β : Type} (x : α) (k : α → β) : β := k x
def gd {β : Type} (b : Bool) (k : Option β) : Option β := if b = true then k else none
theorem ob_some {α β : Type} {x : Option α} {k : α → Option β} {r : β} (h : ob x k = some r) : ∃ a, x = some a ∧ k a = some r := by
  cases x with
  | none => cases h
  | some a => exact ⟨a, rfl, h⟩
theorem tb_ex {α β : Type} {x : α} {k : α → β} {r : β} (h : tb x k = r) : ∃ a, x = a ∧ k a = r := ⟨x, rfl, h⟩
theorem gd_some {β : Type} {b : Bool} {k : Option β} {r : β} (h : gd b k = some r) : b = true ∧ k = some r := by
  unfold gd at h
  by_cases hb : b = true
  · exact ⟨hb, (if_pos hb).symm.trans h⟩
  · rw [if_neg hb] at h
    cases h
def jrem (x y : Int32) : Int32 := x - x / y * y
def jmin (x y : Int32) : Int32 := if y < x then y else x
def jmax (x y : Int32) : Int32 := if x < y then y else x
def jabs (x : Int32) : Int32 := if 0 ≤ x then x else 0 - x
def jchar (x : Int32) : Int32 := (x.toUInt32 % 65536).toInt32
def isSt (x : Int32) : Bool := decide (kd x.toNatClampNeg = 5)
def isWd (x : Int32) : Bool := decide (0 < x.toNatClampNeg ∧ x.toNatClampNeg ≤ 5)
def dok (r : UInt64) : Bool := decide (r &&& 0x7fffffffffffffff ≤ 0x7ff0000000000000)
def slen (s : Nat) : Int32 := nI (lenL.getD s 0)
def schr (s : Nat) (i : Int32) : Int32 := (strL.getD s []).getD i.toNatClampNeg 0
def f_X10_at (o : Nat) (i : Int32) (h : HP) : Int32 := if inB i (ln o) = true then h o i.toNatClampNeg else 0
def f_X10_put (o : Nat) (i v : Int32) (h : HP) : HP := if inB i (ln o) = true then hset h o i.toNatClampNeg v else h
theorem dok_n {r : UInt64} (h : dok r = true) : vf_n64 r := by
  unfold dok at h
  unfold vf_n64
  exact of_decide_eq_true h
theorem kd_big {o : Nat} (h : 77 ≤ o) : kd o = 99 := by
  unfold kd
  rw [List.getD_eq_getElem?_getD, List.getElem?_eq_none (by simpa [kdL] using h)]
  rfl
theorem kd_lt {o c : Nat} (h : kd o = c) (hc : c < 99) : o < 77 := by
  rcases Nat.lt_or_ge o 77 with q | q
  · exact q
  · rw [kd_big q] at h
    omega
theorem kd_S : ∀ o, o < 77 → kd o = 5 → kd (o + 1) = 4 ∧ kd (o + 2) = 3 ∧ kd (o + 3) = 10 ∧ kd (o + 4) = 7 ∧ kd (o + 5) = 10 ∧ kd (o + 6) = 10 ∧ kd (o + 7) = 0 ∧ o + 7 < 59 ∧ ln (o + 3) = 32 ∧ ln (o + 5) = 40 ∧ ln (o + 6) = 40 := by decide +kernel
theorem kd_C : ∀ o, o < 77 → kd o = 3 → kd (o + 1) = 10 ∧ o + 1 < 70 ∧ ln (o + 1) = 32 := by decide +kernel
theorem kd_Y : ∀ o, o < 77 → kd o = 7 → kd (o + 1) = 10 ∧ kd (o + 2) = 10 ∧ o + 2 < 70 ∧ ln (o + 1) = 40 ∧ ln (o + 2) = 40 := by decide +kernel
theorem kd_S_1 {o : Nat} (k : kd o = 5) : kd (o + 1) = 4 := (kd_S o (kd_lt k (by decide)) k).1
theorem kd_S_2 {o : Nat} (k : kd o = 5) : kd (o + 2) = 3 := (kd_S o (kd_lt k (by decide)) k).2.1
theorem kd_S_4 {o : Nat} (k : kd o = 5) : kd (o + 4) = 7 := (kd_S o (kd_lt k (by decide)) k).2.2.2.1
theorem kd_S_7 {o : Nat} (k : kd o = 5) : kd (o + 7) = 0 := (kd_S o (kd_lt k (by decide)) k).2.2.2.2.2.2.1
theorem kd_S_n {o : Nat} (k : kd o = 5) : o + 7 < 59 := (kd_S o (kd_lt k (by decide)) k).2.2.2.2.2.2.2.1
theorem kd_C_1 {o : Nat} (k : kd o = 3) : kd (o + 1) = 10 := (kd_C o (kd_lt k (by decide)) k).1
theorem kd_C_n {o : Nat} (k : kd o = 3) : o + 1 < 70 := (kd_C o (kd_lt k (by decide)) k).2.1
theorem ln_C_1 {o : Nat} (k : kd o = 3) : ln (o + 1) = 32 := (kd_C o (kd_lt k (by decide)) k).2.2
theorem kd_Y_1 {o : Nat} (k : kd o = 7) : kd (o + 1) = 10 := (kd_Y o (kd_lt k (by decide)) k).1
theorem kd_Y_2 {o : Nat} (k : kd o = 7) : kd (o + 2) = 10 := (kd_Y o (kd_lt k (by decide)) k).2.1
theorem kd_Y_n {o : Nat} (k : kd o = 7) : o + 2 < 70 := (kd_Y o (kd_lt k (by decide)) k).2.2.1
theorem ln_Y_1 {o : Nat} (k : kd o = 7) : ln (o + 1) = 40 := (kd_Y o (kd_lt k (by decide)) k).2.2.2.1
theorem ln_Y_2 {o : Nat} (k : kd o = 7) : ln (o + 2) = 40 := (kd_Y o (kd_lt k (by decide)) k).2.2.2.2
theorem inB_nn {i L : Int32} {n : Nat} (h0 : ¬ i < 0) (h1 : ¬ L ≤ i) (hL : L.toInt = (n : Int)) : vp_in i n := by
  rw [vp_in_iff]
  rw [Int32.lt_iff_toInt_lt, Int32.toInt_zero] at h0
  rw [Int32.le_iff_toInt_le] at h1
  omega
theorem inB_np {i L : Int32} {n : Nat} (h0 : ¬ i < 0) (h1 : i < L) (hL : L.toInt = (n : Int)) : vp_in i n := by
  rw [vp_in_iff]
  rw [Int32.lt_iff_toInt_lt, Int32.toInt_zero] at h0
  rw [Int32.lt_iff_toInt_lt] at h1
  omega
theorem inB_pn {i L : Int32} {n : Nat} (h0 : 0 ≤ i) (h1 : ¬ L ≤ i) (hL : L.toInt = (n : Int)) : vp_in i n := by
  rw [vp_in_iff]
  rw [Int32.le_iff_toInt_le, Int32.toInt_zero] at h0
  rw [Int32.le_iff_toInt_le] at h1
  omega
theorem inB_pp {i L : Int32} {n : Nat} (h0 : 0 ≤ i) (h1 : i < L) (hL : L.toInt = (n : Int)) : vp_in i n := by
  rw [vp_in_iff]
  rw [Int32.le_iff_toInt_le, Int32.toInt_zero] at h0
  rw [Int32.lt_iff_toInt_lt] at h1
  omega
theorem inB_lt {i : Int32} {n : Nat} (h : inB i n = true) : i.toNatClampNeg < n := Nat.not_le.mp fun q => inB_vp h (Or.inr q)
theorem isSt_kd {x : Int32} (h : isSt x = true) : kd x.toNatClampNeg = 5 := of_decide_eq_true h
theorem isSt_n {x : Int32} {N : Nat} (h : isSt x = true) (hN : 70 ≤ N) : x.toNatClampNeg < N := by
  have := kd_S_n (isSt_kd h)
  omega
theorem isWd_lt {x : Int32} (h : isWd x = true) : x.toNatClampNeg - 1 < 5 := by
  have := of_decide_eq_true h
  omega
theorem srf_0 {G : GM} : va_rf (srf G 0) = .null := rfl
theorem srf_z {G : GM} {x : Int32} (h : x = 0) : va_rf (srf G x) = .null := by rw [h]; rfl
theorem srf_nz {G : GM} {x : Int32} (h : ¬ x = 0) : va_rf (srf G x) = .ref (ra G x.toNatClampNeg) := by simp [srf, h, va_rf]
theorem wrf_0 {G : GM} : va_rf (wrf G 0) = .null := rfl
theorem wrf_z {G : GM} {x : Int32} (h : x = 0) : va_rf (wrf G x) = .null := by rw [h]; rfl
theorem wrf_nz {G : GM} {x : Int32} (h : ¬ x = 0) (hs : isWd x = true) : va_rf (wrf G x) = .ref (gA G (11 + (x.toNatClampNeg - 1))) := by
  have h1 := of_decide_eq_true hs
  have e : 10 + x.toNatClampNeg = 11 + (x.toNatClampNeg - 1) := by omega
  simp [wrf, h, va_rf, e]
theorem wrf_W {G : GM} {k : Nat} (h : k < 5) : va_rf (wrf G (nI (k + 1))) = .ref (gA G (11 + k)) := by
  have h0 : ¬ nI (k + 1) = 0 := nI_ne0 (by omega) (by omega)
  have e : 10 + (k + 1) = 11 + k := by omega
  simp [wrf, h0, va_rf, nI_clamp (show k + 1 < 2 ^ 31 by omega), e]
def is01 (x : Int32) : Bool := decide (x = 0 ∨ x = 1)
theorem is01_or {x : Int32} (h : is01 x = true) : x = 0 ∨ x = 1 := of_decide_eq_true h
theorem nar_b {v : Int32} (h : v = 0 ∨ v = 1) : narrow .boolean (.int v) = .int v := by rcases h with rfl | rfl <;> rfl
theorem sw_ne {x y : Int32} {k : Int} (hy : y.toInt = k) (h : ¬ x = y) : x.toInt ≠ k := fun e => h (Int32.toInt_inj.mp (e.trans hy.symm))
section ZB
variable {p : Program} {l : Launch} {e : Env} {R : Room} {s : State} {m : MethodId} {args : Array Value} {below : List Frame} {meth : Method} {c : Code} {H : Heap} {locs : List Loc} {cells slots : Nat} {Q : State → Prop}
variable {cc : ByteArray} {pc : Nat} {ls : Array Slot} {rest : List Value} {G : GM} {h : HP} {own : String}
theorem z_top {x y : Int32} (e1 : x = y) (k : W p l e R s m args below meth c H locs cells slots Q (F0 m pc ls (.int y :: rest))) : W p l e R s m args below meth c H locs cells slots Q (F0 m pc ls (.int x :: rest)) := by rw [e1]; exact k
theorem z_sw {x y : Int32} (e1 : x = y) (k : W p l e R s m args below meth c H locs cells slots Q (F0 m pc ls (.int y :: rest))) : W p l e R s m args below meth c H locs cells slots Q (F0 m pc ls (.int x :: rest)) := by rw [e1]; exact k
theorem z_irem (hx : p.tables.exec = Jvm.exec) (hb : c.code = cc) {x y : Int32} (hdg : decode cc pc = .ok (.irem, 1)) (hne : ¬ y = 0) (k : W p l e R s m args below meth c H locs cells slots Q (F0 m (pc + 1) ls (.int (jrem x y) :: rest))) : W p l e R s m args below meth c H locs cells slots Q (F0 m pc ls (.int y :: .int x :: rest)) := lv_irem hx hb hdg hne k
theorem z_dconst1 (hx : p.tables.exec = Jvm.exec) (hb : c.code = cc) (hdg : decode cc pc = .ok (.dconst 1, 1)) (k : W p l e R s m args below meth c H locs cells slots Q (F0 m (pc + 1) ls (.double FP.dconst1 :: rest))) : W p l e R s m args below meth c H locs cells slots Q (F0 m pc ls rest) := lv_dconst1 hx hb hdg k
theorem z_mmin {d index : Nat} (hx : p.tables.exec = Jvm.exec) (hb : c.code = cc) (hml : c.maxLocals = ls.size) (Z : ZK G s args m own) (h1 : Cond.methodLink own index Lib.Math.min.name ∈ BIG) (h2 : Cond.static Lib.Math.min.name ∈ BIG) (h3 : Cond.initialized "java/lang/Math" ∈ BIG) (h4 : Cond.code Lib.Math.min.name Lib.Math.min.code 2 (some .int) ∈ BIG) (hrs : (rest.map fun v => v.category).sum ≤ 8) {x y : Int32} (hdg : decode cc pc = .ok (.invokestatic index, 3))
    (kk : W p l e (rmD d) s m args below meth c H locs 0 0 Q (F0 m (pc + 3) ls (.int (jmin x y) :: rest))) : W p l e (rmD d) s m args below meth c H locs 0 0 Q (F0 m pc ls (.int y :: .int x :: rest)) :=
  va_mmin hx hb hml Z.2.1 (Z.1 _ h1) (Z.1 _ h2) (Z.1 _ h3) (Z.1 _ h4) (Nat.succ_le_succ (Nat.zero_le _)) (by show _ ≤ 40 * (d + 1); omega) (Nat.le_refl _) (Nat.le_refl _) hdg kk
theorem z_mmax {d index : Nat} (hx : p.tables.exec = Jvm.exec) (hb : c.code = cc) (hml : c.maxLocals = ls.size) (Z : ZK G s args m own) (h1 : Cond.methodLink own index Lib.Math.max.name ∈ BIG) (h2 : Cond.static Lib.Math.max.name ∈ BIG) (h3 : Cond.initialized "java/lang/Math" ∈ BIG) (h4 : Cond.code Lib.Math.max.name Lib.Math.max.code 2 (some .int) ∈ BIG) (hrs : (rest.map fun v => v.category).sum ≤ 8) {x y : Int32} (hdg : decode cc pc = .ok (.invokestatic index, 3))
    (kk : W p l e (rmD d) s m args below meth c H locs 0 0 Q (F0 m (pc + 3) ls (.int (jmax x y) :: rest))) : W p l e (rmD d) s m args below meth c H locs 0 0 Q (F0 m pc ls (.int y :: .int x :: rest)) :=
  va_mmax hx hb hml Z.2.1 (Z.1 _ h1) (Z.1 _ h2) (Z.1 _ h3) (Z.1 _ h4) (Nat.succ_le_succ (Nat.zero_le _)) (by show _ ≤ 40 * (d + 1); omega) (Nat.le_refl _) (Nat.le_refl _) hdg kk
theorem z_mabs {d index : Nat} (hx : p.tables.exec = Jvm.exec) (hb : c.code = cc) (hml : c.maxLocals = ls.size) (Z : ZK G s args m own) (h1 : Cond.methodLink own index Lib.Math.abs.name ∈ BIG) (h2 : Cond.static Lib.Math.abs.name ∈ BIG) (h3 : Cond.initialized "java/lang/Math" ∈ BIG) (h4 : Cond.code Lib.Math.abs.name Lib.Math.abs.code 1 (some .int) ∈ BIG) (hrs : (rest.map fun v => v.category).sum ≤ 8) {x : Int32} (hdg : decode cc pc = .ok (.invokestatic index, 3))
    (kk : W p l e (rmD d) s m args below meth c H locs 0 0 Q (F0 m (pc + 3) ls (.int (jabs x) :: rest))) : W p l e (rmD d) s m args below meth c H locs 0 0 Q (F0 m pc ls (.int x :: rest)) :=
  va_mabs hx hb hml Z.2.1 (Z.1 _ h1) (Z.1 _ h2) (Z.1 _ h3) (Z.1 _ h4) (Nat.succ_le_succ (Nat.zero_le _)) (by show _ ≤ 40 * (d + 1); omega) (Nat.le_refl _) (Nat.le_refl _) hdg kk
theorem y_iald (hx : p.tables.exec = Jvm.exec) (hb : c.code = cc) (Z : ZK G s args m own) (hw : HW G h s H locs) {o k : Nat} {i : Int32} (ho : kd o = 10) (hn : o < gN G) (hk : i.toNatClampNeg = k) (hin : vp_in i (ln o)) (hdg : decode cc pc = .ok (.iaload, 1))
    (kk : W p l e R s m args below meth c H locs cells slots Q (F0 m (pc + 1) ls (.int (h o k) :: rest))) : W p l e R s m args below meth c H locs cells slots Q (F0 m pc ls (.int i :: .ref (ra G o) :: rest)) := by subst hk; exact z_iald hx hb Z hw ho hn hin hdg kk
theorem y_cald (hx : p.tables.exec = Jvm.exec) (hb : c.code = cc) (Z : ZK G s args m own) (hw : HW G h s H locs) {o k : Nat} {i : Int32} (ho : kd o = 11) (hn : o < gN G) (hk : i.toNatClampNeg = k) (hin : vp_in i (ln o)) (hdg : decode cc pc = .ok (.caload, 1))
    (kk : W p l e R s m args below meth c H locs cells slots Q (F0 m (pc + 1) ls (.int (h o k) :: rest))) : W p l e R s m args below meth c H locs cells slots Q (F0 m pc ls (.int i :: .ref (ra G o) :: rest)) := by subst hk; exact z_cald hx hb Z hw ho hn hin hdg kk
theorem y_iast (hx : p.tables.exec = Jvm.exec) (hb : c.code = cc) (Z : ZK G s args m own) (hw : HW G h s H locs) {o k : Nat} {i v : Int32} (ho : kd o = 10) (hn : o < gN G) (hk : i.toNatClampNeg = k) (hin : vp_in i (ln o)) (hdg : decode cc pc = .ok (.iastore, 1))
    (kk : ∀ (H1 : Heap) (locs1 : List Loc), HW G (hset h o k v) s H1 locs1 → W p l e R s m args below meth c H1 locs1 cells slots Q (F0 m (pc + 1) ls rest)) : W p l e R s m args below meth c H locs cells slots Q (F0 m pc ls (.int v :: .int i :: .ref (ra G o) :: rest)) := by subst hk; exact z_iast hx hb Z hw ho hn hin hdg kk
theorem y_cast (hx : p.tables.exec = Jvm.exec) (hb : c.code = cc) (Z : ZK G s args m own) (hw : HW G h s H locs) {o k : Nat} {i v : Int32} (ho : kd o = 11) (hn : o < gN G) (hk : i.toNatClampNeg = k) (hin : vp_in i (ln o)) (hdg : decode cc pc = .ok (.castore, 1))
    (kk : ∀ (H1 : Heap) (locs1 : List Loc), HW G (hset h o k (vp_nar .char v)) s H1 locs1 → W p l e R s m args below meth c H1 locs1 cells slots Q (F0 m (pc + 1) ls rest)) : W p l e R s m args below meth c H locs cells slots Q (F0 m pc ls (.int v :: .int i :: .ref (ra G o) :: rest)) := by subst hk; exact z_cast hx hb Z hw ho hn hin hdg kk
/-- storing a state into the row of states -/
theorem z_sast (hx : p.tables.exec = Jvm.exec) (hb : c.code = cc) (Z : ZK G s args m own) (hw : HW G h s H locs) {o : Nat} {i x : Int32} (ho : kd o = 13) (hn : o < gN G) (hN : 70 ≤ gN G) (hin : vp_in i (ln o)) (hs : isSt x = true) (hdg : decode cc pc = .ok (.aastore, 1))
    (kk : ∀ (H1 : Heap) (locs1 : List Loc), HW G (hset h o i.toNatClampNeg x) s H1 locs1 → W p l e R s m args below meth c H1 locs1 cells slots Q (F0 m (pc + 1) ls rest)) : W p l e R s m args below meth c H locs cells slots Q (F0 m pc ls (.ref (ra G x.toNatClampNeg) :: .int i :: .ref (ra G o) :: rest)) := by
  have hk := isSt_kd hs
  have hx0 : ¬ x = 0 := by
    intro e0
    subst e0
    exact absurd hs (by decide)
  have hat : (wl G (gN G) gF h)[x.toNatClampNeg]? = some (ra G x.toNatClampNeg, .inr (5, (List.range (nf 5)).map (fv G gF h x.toNatClampNeg))) := by
    rw [wl_at (isSt_n hs hN), ent, if_pos (by omega), hk]
  refine va_astq hx hb Z.2.2.1 hw.1 (wl_D (G := G)) hw.2 o 3 x.toNatClampNeg 5 ((wl_at hn).trans (congrArg (fun x => some (ra G o, x)) (ent_S ho))) (r := (RX6, TX6, 4)) rfl hat rfl hin hdg (fun H1 locs1 hP _ hS => kk H1 locs1 ⟨?_, hS⟩)
  rw [wl_set (g' := gF) (h' := hset h o i.toNatClampNeg x) ?_ (fun j hj => ent_oth hj)] at hP
  · exact hP
  · rw [ent_S ho]
    have e1 : (fun j => srf G (hset h o i.toNatClampNeg x o j)) = va_up (fun j => srf G (h o j)) i.toNatClampNeg (some (ra G x.toNatClampNeg)) := by
      funext j
      by_cases hj : j = i.toNatClampNeg
      · simp [hset, va_up, hj, srf, hx0]
      · simp [hset, va_up, hj]
    rw [e1]
theorem y_sast (hx : p.tables.exec = Jvm.exec) (hb : c.code = cc) (Z : ZK G s args m own) (hw : HW G h s H locs) {o : Nat} {i x : Int32} (ho : kd o = 13) (hn : o < gN G) (hN : 70 ≤ gN G) (hin : vp_in i (ln o)) (hs : isSt x = true) (hdg : decode cc pc = .ok (.aastore, 1))
    (kk : ∀ (H1 : Heap) (locs1 : List Loc), HW G (hset h o i.toNatClampNeg x) s H1 locs1 → W p l e R s m args below meth c H1 locs1 cells slots Q (F0 m (pc + 1) ls rest)) : W p l e R s m args below meth c H locs cells slots Q (F0 m pc ls (va_rf (srf G x) :: .int i :: .ref (ra G o) :: rest)) := by
  have hx0 : ¬ x = 0 := by
    intro e0
    subst e0
    exact absurd hs (by decide)
  rw [srf_nz hx0]
  exact z_sast hx hb Z hw ho hn hN hin hs hdg kk
theorem z_callVi {d d1 n index nL mL o ci : Nat} {v : Value} {h1 : HP} {y : MethodName} {bytes : ByteArray} {ret : Option FieldType} {As st0 : List Value} {q : vw_C} (hM : MC G l y bytes mL ret d1 (.ref (ra G o) :: As) h h1 (some v)) (F : CV y bytes mL ret n) (hx : p.tables.exec = Jvm.exec) (hb : c.code = cc) (hml : c.maxLocals = nL) (hls : ls.size = nL) (Z : ZK G s args m own) (hw : HW G h s H locs)
    (ho : kd o = ci) (hci : ci < 10) (hn : o < gN G) (hc : vwCl[ci]? = some q) (hqc : q.1 = y.cls) (hl : Cond.methodLink own index y ∈ BIG) (hst : st0 = As.reverse ++ .ref (ra G o) :: rest) (hln : As.length = n) (hrs : (rest.map fun v => v.category).sum ≤ 8) (hd : d1 < d) (hdg : decode cc pc = .ok (.invokevirtual index, 3))
    (kk : ∀ (H1 : Heap) (locs1 : List Loc), HW G h1 s H1 locs1 → W p l e (rmD d) s m args below meth c H1 locs1 0 0 Q (F0 m (pc + 3) ls (v :: rest))) : W p l e (rmD d) s m args below meth c H locs 0 0 Q (F0 m pc ls st0) := z_callV hM F hx hb hml hls Z hw ho hci hn hc hqc hl hst hln hrs hd hdg kk
theorem z_callVv {d d1 n index nL mL o ci : Nat} {h1 : HP} {y : MethodName} {bytes : ByteArray} {ret : Option FieldType} {As st0 : List Value} {q : vw_C} (hM : MC G l y bytes mL ret d1 (.ref (ra G o) :: As) h h1 none) (F : CV y bytes mL ret n) (hx : p.tables.exec = Jvm.exec) (hb : c.code = cc) (hml : c.maxLocals = nL) (hls : ls.size = nL) (Z : ZK G s args m own) (hw : HW G h s H locs)
    (ho : kd o = ci) (hci : ci < 10) (hn : o < gN G) (hc : vwCl[ci]? = some q) (hqc : q.1 = y.cls) (hl : Cond.methodLink own index y ∈ BIG) (hst : st0 = As.reverse ++ .ref (ra G o) :: rest) (hln : As.length = n) (hrs : (rest.map fun v => v.category).sum ≤ 8) (hd : d1 < d) (hdg : decode cc pc = .ok (.invokevirtual index, 3))
    (kk : ∀ (H1 : Heap) (locs1 : List Loc), HW G h1 s H1 locs1 → W p l e (rmD d) s m args below meth c H1 locs1 0 0 Q (F0 m (pc + 3) ls rest)) : W p l e (rmD d) s m args below meth c H locs 0 0 Q (F0 m pc ls st0) := z_callV hM F hx hb hml hls Z hw ho hci hn hc hqc hl hst hln hrs hd hdg kk
theorem z_callSi {d d1 n index nL mL : Nat} {v : Value} {h1 : HP} {y : MethodName} {bytes : ByteArray} {ret : Option FieldType} {As st0 : List Value} (hM : MC G l y bytes mL ret d1 As h h1 (some v)) (F : CS y bytes mL ret n) (hx : p.tables.exec = Jvm.exec) (hb : c.code = cc) (hml : c.maxLocals = nL) (hls : ls.size = nL) (Z : ZK G s args m own) (hw : HW G h s H locs)
    (hl : Cond.methodLink own index y ∈ BIG) (hst : st0 = As.reverse ++ rest) (hln : As.length = n) (hrs : (rest.map fun v => v.category).sum ≤ 8) (hd : d1 < d) (hdg : decode cc pc = .ok (.invokestatic index, 3))
    (kk : ∀ (H1 : Heap) (locs1 : List Loc), HW G h1 s H1 locs1 → W p l e (rmD d) s m args below meth c H1 locs1 0 0 Q (F0 m (pc + 3) ls (v :: rest))) : W p l e (rmD d) s m args below meth c H locs 0 0 Q (F0 m pc ls st0) := z_callS hM F hx hb hml hls Z hw hl hst hln hrs hd hdg kk
theorem z_callSv {d d1 n index nL mL : Nat} {h1 : HP} {y : MethodName} {bytes : ByteArray} {ret : Option FieldType} {As st0 : List Value} (hM : MC G l y bytes mL ret d1 As h h1 none) (F : CS y bytes mL ret n) (hx : p.tables.exec = Jvm.exec) (hb : c.code = cc) (hml : c.maxLocals = nL) (hls : ls.size = nL) (Z : ZK G s args m own) (hw : HW G h s H locs)
    (hl : Cond.methodLink own index y ∈ BIG) (hst : st0 = As.reverse ++ rest) (hln : As.length = n) (hrs : (rest.map fun v => v.category).sum ≤ 8) (hd : d1 < d) (hdg : decode cc pc = .ok (.invokestatic index, 3))
    (kk : ∀ (H1 : Heap) (locs1 : List Loc), HW G h1 s H1 locs1 → W p l e (rmD d) s m args below meth c H1 locs1 0 0 Q (F0 m (pc + 3) ls rest)) : W p l e (rmD d) s m args below meth c H locs 0 0 Q (F0 m pc ls st0) := z_callS hM F hx hb hml hls Z hw hl hst hln hrs hd hdg kk
theorem z_callNi {d d1 n index nL mL : Nat} {v : Value} {h1 : HP} {y : MethodName} {host : String} {bytes : ByteArray} {ret : Option FieldType} {As st0 : List Value} (hM : MC G l y bytes mL ret d1 As h h1 (some v)) (F : CS y bytes mL ret n) (hx : p.tables.exec = Jvm.exec) (hb : c.code = cc) (hml : c.maxLocals = nL) (hls : ls.size = nL) (Z : ZK G s args m own) (hw : HW G h s H locs)
    (hl : Cond.methodLinkNest own index y host ∈ lw_tbl) (hst : st0 = As.reverse ++ rest) (hln : As.length = n) (hrs : (rest.map fun v => v.category).sum ≤ 8) (hd : d1 < d) (hdg : decode cc pc = .ok (.invokestatic index, 3))
    (kk : ∀ (H1 : Heap) (locs1 : List Loc), HW G h1 s H1 locs1 → W p l e (rmD d) s m args below meth c H1 locs1 0 0 Q (F0 m (pc + 3) ls (v :: rest))) : W p l e (rmD d) s m args below meth c H locs 0 0 Q (F0 m pc ls st0) := z_callN hM F hx hb hml hls Z hw hl hst hln hrs hd hdg kk
theorem z_callNv {d d1 n index nL mL : Nat} {h1 : HP} {y : MethodName} {host : String} {bytes : ByteArray} {ret : Option FieldType} {As st0 : List Value} (hM : MC G l y bytes mL ret d1 As h h1 none) (F : CS y bytes mL ret n) (hx : p.tables.exec = Jvm.exec) (hb : c.code = cc) (hml : c.maxLocals = nL) (hls : ls.size = nL) (Z : ZK G s args m own) (hw : HW G h s H locs)
    (hl : Cond.methodLinkNest own index y host ∈ lw_tbl) (hst : st0 = As.reverse ++ rest) (hln : As.length = n) (hrs : (rest.map fun v => v.category).sum ≤ 8) (hd : d1 < d) (hdg : decode cc pc = .ok (.invokestatic index, 3))
    (kk : ∀ (H1 : Heap) (locs1 : List Loc), HW G h1 s H1 locs1 → W p l e (rmD d) s m args below meth c H1 locs1 0 0 Q (F0 m (pc + 3) ls rest)) : W p l e (rmD d) s m args below meth c H locs 0 0 Q (F0 m pc ls st0) := z_callN hM F hx hb hml hls Z hw hl hst hln hrs hd hdg kk
end ZB

def nz (x : Int32) : Bool := decide (x ≠ 0)
theorem nz_ne {x : Int32} (h : nz x = true) : ¬ x = 0 := of_decide_eq_true h
def dcl (x y : UInt64) : Int32 := Op.cmpValue (FP.dcmp x y) .l
