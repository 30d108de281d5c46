/-! the system's own cells: one numbering of all objects, one table of numbers for what they hold -/
def BIG : List Cond := lw_tbl.filter goodWord
theorem big_in {w : Cond} (h : w ∈ lw_tbl) (hg : goodWord w = true) : w ∈ BIG := List.mem_filter.mpr ⟨h, hg⟩
theorem big_good {w : Cond} (h : w ∈ BIG) : (w.onTables && w.keeps) = true ∨ ∃ ty, w = .arrayClass ty := good_of_word (List.mem_filter.mp h).2
theorem goodIn_big {ws : List Cond} (h : ∀ w ∈ ws, w ∈ BIG) : GoodIn BIG ws := fun w hw => ⟨h w hw, big_good (h w hw)⟩
/-- the links between nest mates: they hold at every warmer table, but aren't words of a list -/
def isNest : Cond → Bool
  | .methodLinkNest .. => true
  | .fieldLinkNest .. => true
  | _ => false
def NS (U : State) : Prop := (∀ w ∈ lw_tbl, isNest w = true → va_Nw w U) ∧ va_AO "LineDisc$State" U ∧ va_AO "LineDisc$Word" U
theorem NS.warm {s U : State} (hW : s.WarmedH U.vm) (h : NS s) : NS U := by
  refine ⟨fun w hw hn => ?_, h.2.1.moved hW.alike, h.2.2.moved hW.alike⟩
  have h1 := h.1 w hw hn
  cases w with
  | methodLinkNest a i x b => exact h1.warmM hW
  | fieldLinkNest a i b n d c => exact h1.warmF hW
  | _ => simp [isNest] at hn
theorem NS.same {s U : State} (hW : s.vm = U.vm) (h : NS s) : NS U := by
  have ha : s.vm.Alike U.vm := by rw [hW]; exact Vm.Alike.refl _
  refine ⟨fun w hw hn => ?_, h.2.1.moved ha, h.2.2.moved ha⟩
  have h1 := h.1 w hw hn
  cases w with
  | methodLinkNest a i x b => exact va_Nw.same rfl hW h1
  | fieldLinkNest a i b n d c => exact va_Nw.same rfl hW h1
  | _ => simp [isNest] at hn
/-- what holds, by object and place -/
abbrev HP : Type := Nat → Nat → Int32
/-- the kinds of the objects 0 .. 76: under 10 the place in vwCl; 10 int[], 11 char[], 12 boolean[], 13 State[], 14 Word[] -/
def kdL : List Nat := [8, 5,4,3,10,7,10,10,0, 5,4,3,10,7,10,10,0, 5,4,3,10,7,10,10,0, 1, 13, 5,4,3,10,7,10,10,0, 5,4,3,10,7,10,10,0, 5,4,3,10,7,10,10,0, 5,4,3,10,7,10,10,0, 2, 11, 14, 10, 6, 4, 3, 10, 10, 10, 0, 9, 10, 10, 10, 10, 10, 12]
def lnL : List Nat := [0, 0,0,0,32,0,40,40,0, 0,0,0,32,0,40,40,0, 0,0,0,32,0,40,40,0, 0, 4, 0,0,0,32,0,40,40,0, 0,0,0,32,0,40,40,0, 0,0,0,32,0,40,40,0, 0,0,0,32,0,40,40,0, 0, 60, 10, 40, 0, 0, 0, 32, 3810, 3810, 0, 0, 166, 166, 664, 166, 60, 3810]
def kd (o : Nat) : Nat := kdL.getD o 99
def ln (o : Nat) : Nat := lnL.getD o 0
/-- the fields of a kind -/
def nfL : List Nat := [6, 2, 6, 2, 6, 4, 4, 3, 8, 11]
def nf (c : Nat) : Nat := nfL.getD c 0
/-- where the object lies that a field names, counted from its own object; 0: no reference -/
def off : Nat → Nat → Nat
  | 8, 0 => 1
  | 8, 1 => 9
  | 8, 2 => 17
  | 8, 4 => 25
  | 8, 5 => 59
  | 8, 6 => 63
  | 8, 7 => 69
  | 5, 0 => 1
  | 5, 1 => 2
  | 5, 2 => 4
  | 5, 3 => 7
  | 3, 0 => 1
  | 7, 0 => 1
  | 7, 1 => 2
  | 1, 0 => 1
  | 2, 0 => 1
  | 2, 2 => 2
  | 2, 3 => 3
  | 6, 0 => 1
  | 6, 1 => 2
  | 6, 2 => 4
  | 6, 3 => 5
  | 9, 0 => 1
  | 9, 1 => 2
  | 9, 2 => 3
  | 9, 4 => 4
  | 9, 6 => 5
  | 9, 8 => 6
  | _, _ => 0
/-- tables, first address, array classes, how many objects, addresses of what stands from the start -/
abbrev GM : Type := va_G × Nat × (Nat → ClassId) × Nat × (Nat → Nat)
abbrev gD (G : GM) : va_G := G.1
abbrev gB (G : GM) : Nat := G.2.1
abbrev gC (G : GM) : Nat → ClassId := G.2.2.1
abbrev gN (G : GM) : Nat := G.2.2.2.1
abbrev gA (G : GM) : Nat → Nat := G.2.2.2.2
def ra (G : GM) (o : Nat) : Nat := gB G + o
def AA (G : GM) : Nat → Prop := fun q => gB G ≤ q
def srf (G : GM) (x : Int32) : Option Nat := if x = 0 then none else some (ra G x.toNatClampNeg)
def wrf (G : GM) (x : Int32) : Option Nat := if x = 0 then none else some (gA G (10 + x.toNatClampNeg))
/-- g: how many fields of an object under construction are set -/
def fv (G : GM) (g : Nat → Nat) (h : HP) (o k : Nat) : Value := if off (kd o) k = 0 then .int (h o k) else if k < g o then .ref (ra G (o + off (kd o) k)) else .null
def ent (G : GM) (g : Nat → Nat) (h : HP) (o : Nat) : va_E :=
  if kd o < 10 then .inr (kd o, (List.range (nf (kd o))).map (fv G g h o))
  else if kd o = 13 then .inl (gC G 13, ln o, .inr (.inr (.inr (.inr (fun j => srf G (h o j))))))
  else if kd o = 14 then .inl (gC G 14, ln o, .inr (.inr (.inr (.inr (fun j => wrf G (h o j))))))
  else .inl (gC G (kd o), ln o, .inl (h o))
def wl (G : GM) (n : Nat) (g : Nat → Nat) (h : HP) : va_W := (List.range n).map (fun o => (ra G o, ent G g h o))
def tyG (G : GM) : List (ClassId × FieldType) := [(gC G 10, .int), (gC G 11, .char), (gC G 12, .int), (gC G 13, .object "LineDisc$State"), (gC G 14, .object "LineDisc$Word")]
def gF : Nat → Nat := fun _ => 99
theorem wl_at {G : GM} {n : Nat} {g : Nat → Nat} {h : HP} {o : Nat} (ho : o < n) : (wl G n g h)[o]? = some (ra G o, ent G g h o) := by
  simp [wl, ho]
theorem wl_D {G : GM} {n : Nat} {g : Nat → Nat} {h : HP} : va_D (AA G) (wl G n g h) := by
  refine ⟨fun i j p q hi hj e => ?_, fun k q hk => ?_⟩
  · simp only [wl, List.getElem?_map, Option.map_eq_some_iff] at hi hj
    obtain ⟨a, ha, rfl⟩ := hi
    obtain ⟨b, hb, rfl⟩ := hj
    have ra1 : ∀ i a : Nat, (List.range n)[i]? = some a → a = i := by
      intro i a h
      by_cases hi : i < n
      · rw [List.getElem?_range hi] at h
        exact (Option.some.inj h).symm
      · rw [List.getElem?_eq_none (by simpa using Nat.le_of_not_lt hi)] at h
        cases h
    have e1 := ra1 _ _ ha
    have e2 := ra1 _ _ hb
    simp only [ra] at e
    omega
  · simp only [wl, List.getElem?_map, Option.map_eq_some_iff] at hk
    obtain ⟨a, ha, rfl⟩ := hk
    exact Nat.le_add_right _ _
theorem wl_set {G : GM} {n : Nat} {g g' : Nat → Nat} {h h' : HP} {o : Nat} {e : va_E} (he : ent G g' h' o = e) (hk : ∀ j, j ≠ o → ent G g' h' j = ent G g h j) : (wl G n g h).set o (ra G o, e) = wl G n g' h' := by
  refine List.ext_getElem? fun i => ?_
  rw [List.getElem?_set]
  by_cases hi : o = i
  · subst hi
    by_cases ho : o < n
    · simp [wl, ho, he]
    · simp [wl, ho]
  · rw [if_neg hi]
    by_cases hin : i < n
    · simp [wl, hin, hk i (fun e => hi e.symm)]
    · simp [wl, hin]
/-- what is written: one place -/
def hset (h : HP) (o k : Nat) (v : Int32) : HP := fun a j => if a = o ∧ j = k then v else h a j
theorem hset_same {h : HP} {o k : Nat} {v : Int32} : hset h o k v o k = v := by simp [hset]
theorem hset_oth {h : HP} {o k a j : Nat} {v : Int32} (hne : ¬ (a = o ∧ j = k)) : hset h o k v a j = h a j := by simp [hset, hne]
theorem ent_oth {G : GM} {g : Nat → Nat} {h : HP} {o k : Nat} {v : Int32} {j : Nat} (hj : j ≠ o) : ent G g (hset h o k v) j = ent G g h j := by
  have e : (hset h o k v) j = h j := by
    funext i
    simp [hset, hj]
  have e2 : fv G g (hset h o k v) j = fv G g h j := by
    funext i
    simp [fv, e]
  simp [ent, e, e2]
/-! what stands from the start, and is never written -/
def strL : List (List Int32) := [[115,99,114,97,116,99,104,61],[112,111,108,105,115,104,61],[115,101,101,107,61],[112,108,97,121,61],[112,114,101,115,115,61],[65,45,65,64,84,45,84],[68],[70],[78],[70,46,80,58,83]]
def lenL : List Nat := [8, 7, 5, 5, 6, 7, 1, 1, 1, 5]
def ST (_ : GM) (_ : State) (_ : Heap) : Prop := True
theorem ST.moved {G : GM} {u U : State} {H : Heap} (_ : u.vm.Alike U.vm) (_ : ST G u H) : ST G U H := trivial
theorem ST.kept {G : GM} {U : State} {H H1 : Heap} (_ : ST G U H) (_ : ∀ a : Nat, a < H.size → ¬ AA G a → H1[a]? = H[a]?) : ST G U H1 := trivial
/-- a method's world -/
def WU (G : GM) (h : HP) (U : State) : Prop := va_P (gD G) vwCl (wl G (gN G) gF h) U.heap ∧ va_K (gD G) vwCl (tyG G) U ∧ ST G U U.heap ∧ NS U ∧ gB G ≤ U.heap.size
/-- the heap at a point of a walk -/
def HW (G : GM) (h : HP) (s : State) (H : Heap) (locs : List Loc) : Prop := va_P (gD G) vwCl (wl G (gN G) gF h) H ∧ va_S (AA G) s.heap H locs
/-- what stays through a walk -/
def ZK (G : GM) (s : State) (args : Array Value) (m : MethodId) (own : String) : Prop := (∀ w ∈ BIG, w.before args s = true) ∧ s.vm.findClass own = some m.cls ∧ va_K (gD G) vwCl (tyG G) s ∧ ST G s s.heap ∧ NS s ∧ gB G ≤ s.heap.size
theorem HW.WU {G : GM} {h : HP} {s U : State} {H : Heap} {locs : List Loc} {args : Array Value} {m : MethodId} {own : String} (Z : ZK G s args m own) (hw : HW G h s H locs) (hU : U.heap = H) (hvm : s.WarmedH U.vm) : WU G h U := by
  refine ⟨by rw [hU]; exact hw.1, Z.2.2.1.moved hvm.alike, ?_, Z.2.2.2.2.1.warm hvm, by rw [hU]; exact Nat.le_trans Z.2.2.2.2.2 hw.2.1⟩
  rw [hU]
  exact (Z.2.2.2.1.kept hw.2.2.1).moved hvm.alike
theorem WU.blind {G : GM} {h : HP} {av : List Value} : FrameBlind (va_Pc av (WU G h)) := by
  intro a U g mk q
  obtain ⟨q0, q1, q2, q3, q4, q5⟩ := q
  exact ⟨q0, q1, va_K.moved (u := U) (U := U.calling g mk a) (Vm.Alike.refl U.vm) q2, ST.moved (u := U) (U := U.calling g mk a) (Vm.Alike.refl U.vm) q3, NS.same (s := U) (U := U.calling g mk a) rfl q4, q5⟩
/-- a contract: over any heap that holds h the method returns rv, and the heap holds h' -/
def QM (G : GM) (rv : Option Value) (h' : HP) : Array Value → State → Outcome → State → Prop := fun _ st o t => (o = .returned rv ∧ va_P (gD G) vwCl (wl G (gN G) gF h') t.heap) ∧ va_F (AA G) st t
abbrev rmD (d : Nat) : Room := { frames := d + 1, cells := 0, slots := 0, locals := 40 * (d + 1) }
def MC (G : GM) (l : Launch) (y : MethodName) (cc : ByteArray) (mL : Nat) (ret : Option FieldType) (d : Nat) (av : List Value) (h h' : HP) (rv : Option Value) : Prop :=
  Met l y (.code y cc mL ret :: BIG) (rmD d) (va_Pc av (WU G h)) (QM G rv h') 0 0 (AA G)
abbrev WZ (p : Program) (l : Launch) (e : Env) (d : Nat) (s : State) (m : MethodId) (args : Array Value) (below : List Frame) (meth : Method) (c : Code) (G : GM) (rv : Option Value) (h' : HP) (H : Heap) (locs : List Loc) (g : JFrame) : Prop := W p l e (rmD d) s m args below meth c H locs 0 0 (MQ below (QM G rv h') args s 0 0 (AA G)) g
/-- a walk's start -/
theorem z_start {G : GM} {l : Launch} {y : MethodName} {cc : ByteArray} {mL : Nat} {ret : Option FieldType} {d : Nat} {av : List Value} {h h' : HP} {rv : Option Value} (hy : plainName y.cls = true) (hal : (lg_sl av).length ≤ mL)
    (body : ∀ (p : Program) (e : Env) (s : State) (m : MethodId) (args : Array Value) (below : List Frame) (meth : Method) (c : Code) (ls : Array Slot), p.tables.exec = Jvm.exec → c.code = cc → meth.sig.returnType = ret → meth.locks = false → c.maxLocals = mL → ZK G s args m y.cls → HW G h s s.heap [] → lv_has ls mL (lv_args 0 av) → WZ p l e d s m args below meth c G rv h' s.heap [] (F0 m 0 ls [])) : MC G l y cc mL ret d av h h' rv := by
  refine Met.ofW (cc := cc) (maxL := mL) (ret := ret) hy rfl ?_
  intro p e s m args below meth c s₁ B hml hv
  obtain ⟨rfl, hP, hK, hT, hN, hz⟩ := hv
  have hts := atoms_spec (ws := Cond.code y cc mL ret :: BIG) B.pre
  have hown : s.vm.findClass y.cls = some m.cls := findClass_of_methodNamed B.named
  have hl := lv_entry av (n := mL) hal
  rw [lg_entry_eq]
  exact body p e s m av.toArray below meth c _ B.exec B.bytes B.returns B.notSynchronized hml ⟨fun w hw => hts w (List.mem_cons_of_mem _ hw), hown, hK, hT, hN, hz⟩ ⟨hP, va_S.rf⟩ hl
def inB (i : Int32) (n : Nat) : Bool := !(decide (i < 0) || decide (n ≤ i.toNatClampNeg))
theorem inB_vp {i : Int32} {n : Nat} (h : inB i n = true) : vp_in i n := by
  simpa [inB, vp_in] using h
theorem ent_I {G : GM} {g : Nat → Nat} {h : HP} {o : Nat} {k : Nat} (hk : kd o = k) (h3 : k = 10 ∨ k = 11 ∨ k = 12) : ent G g h o = .inl (gC G k, ln o, .inl (h o)) := by
  subst hk
  rcases h3 with h3 | h3 | h3 <;> simp [ent, h3]
theorem ent_S {G : GM} {g : Nat → Nat} {h : HP} {o : Nat} (hk : kd o = 13) : ent G g h o = .inl (gC G 13, ln o, .inr (.inr (.inr (.inr (fun j => srf G (h o j)))))) := by
  simp [ent, hk]
theorem ent_W {G : GM} {g : Nat → Nat} {h : HP} {o : Nat} (hk : kd o = 14) : ent G g h o = .inl (gC G 14, ln o, .inr (.inr (.inr (.inr (fun j => wrf G (h o j)))))) := by
  simp [ent, hk]
theorem map_range_set {α : Type} {f : Nat → α} {N k : Nat} {x : α} : ((List.range N).map f).set k x = (List.range N).map (fun j => if j = k then x else f j) := by
  refine List.ext_getElem? fun i => ?_
  rw [List.getElem?_set]
  by_cases hi : k = i
  · subst hi
    by_cases hN : k < N
    · simp [hN]
    · simp [hN]
  · rw [if_neg hi]
    by_cases hN : i < N
    · have hi2 : ¬ i = k := fun e => hi e.symm
      simp [hN, hi2]
    · simp [hN]
theorem fv_set {G : GM} {g : Nat → Nat} {h : HP} {o k j : Nat} {v : Int32} (h0 : off (kd o) k = 0) : fv G g (hset h o k v) o j = if j = k then .int v else fv G g h o j := by
  by_cases hj : j = k
  · subst hj
    simp [fv, h0, hset]
  · simp [fv, hset, hj]
section ZR
variable {p : Program} {l : Launch} {e : Env} {R : Room} {s : State} {m : MethodId} {args : Array Value} {below : List Frame} {meth : Method} {c : Code} {H : Heap} {locs : List Loc} {cells slots : Nat} {Q : State → Prop}
variable {cc : ByteArray} {pc : Nat} {ls : Array Slot} {rest : List Value} {G : GM} {h : HP} {own : String}
theorem z_geti (hx : p.tables.exec = Jvm.exec) (hb : c.code = cc) (Z : ZK G s args m own) (hw : HW G h s H locs) {o ci k index : Nat} {C : String} {T : u_T} {N : Nat} (ho : kd o = ci) (hn : o < gN G) (hc : vwCl[ci]? = some (C, T, N)) (hin : ∀ w ∈ u_ws C T N, w ∈ BIG) (hq : ci < 10 ∧ nf ci = N ∧ k < N ∧ off ci k = 0) (hl : Cond.fieldLink own index (T k).1 (T k).2.1 (T k).2.2.1 ∈ BIG) (hdg : decode cc pc = .ok (.getfield index, 3))
    (kk : W p l e R s m args below meth c H locs cells slots Q (F0 m (pc + 3) ls (.int (h o k) :: rest))) : W p l e R s m args below meth c H locs cells slots Q (F0 m pc ls (.ref (ra G o) :: rest)) := by
  subst ho
  obtain ⟨h1, h2, h3, h4⟩ := hq
  refine va_get (D := gD G) (ci := kd o) (v := .int (h o k)) (C := C) (T := T) (N := N) hx hb Z.1 hin Z.2.1 Z.2.2.1 hw.1 o (fs := (List.range (nf (kd o))).map (fv G gF h o)) ?_ hc k h3 (Z.1 _ hl) (fun _ q => q) ?_ hdg kk
  · rw [wl_at hn, ent, if_pos h1]
  · rw [List.getElem?_map, List.getElem?_range (by omega)]
    simp [fv, h4]
theorem z_getr (hx : p.tables.exec = Jvm.exec) (hb : c.code = cc) (Z : ZK G s args m own) (hw : HW G h s H locs) {o ci k index o2 : Nat} {C : String} {T : u_T} {N : Nat} (ho : kd o = ci) (hn : o < gN G) (hc : vwCl[ci]? = some (C, T, N)) (hin : ∀ w ∈ u_ws C T N, w ∈ BIG) (hq : ci < 10 ∧ nf ci = N ∧ k < N ∧ 0 < off ci k ∧ k < 99) (h2 : o + off ci k = o2) (hl : Cond.fieldLink own index (T k).1 (T k).2.1 (T k).2.2.1 ∈ BIG) (hdg : decode cc pc = .ok (.getfield index, 3))
    (kk : W p l e R s m args below meth c H locs cells slots Q (F0 m (pc + 3) ls (.ref (ra G o2) :: rest))) : W p l e R s m args below meth c H locs cells slots Q (F0 m pc ls (.ref (ra G o) :: rest)) := by
  subst ho; subst h2
  obtain ⟨h1, h2, h3, h4, h5⟩ := hq
  refine va_get (D := gD G) (ci := kd o) (v := .ref (ra G (o + off (kd o) k))) (C := C) (T := T) (N := N) hx hb Z.1 hin Z.2.1 Z.2.2.1 hw.1 o (fs := (List.range (nf (kd o))).map (fv G gF h o)) ?_ hc k h3 (Z.1 _ hl) (fun _ q => q) ?_ hdg kk
  · rw [wl_at hn, ent, if_pos h1]
  · rw [List.getElem?_map, List.getElem?_range (by omega)]
    have h6 : ¬ off (kd o) k = 0 := by omega
    simp [fv, h6, gF, h5]
theorem z_puti (hx : p.tables.exec = Jvm.exec) (hb : c.code = cc) (Z : ZK G s args m own) (hw : HW G h s H locs) {o ci k index : Nat} {C : String} {T : u_T} {N : Nat} {ty : FieldType} {v : Int32} (ho : kd o = ci) (hn : o < gN G) (hc : vwCl[ci]? = some (C, T, N)) (hin : ∀ w ∈ u_ws C T N, w ∈ BIG) (ty0 : Nat → FieldType) (hty : ∀ k, k < N → parseFieldDescriptor (T k).2.2.1 = some (ty0 k)) (hnm : ∀ a, a < N → ∀ b, b < N → a ≠ b → (T a).2.1 ≠ (T b).2.1)
    (hq : ci < 10 ∧ nf ci = N ∧ k < N ∧ off ci k = 0) (hl : Cond.fieldLink own index (T k).1 (T k).2.1 (T k).2.2.1 ∈ BIG) (hfin : (T k).2.2.2 = false) (hd : parseFieldDescriptor (T k).2.2.1 = some ty) (hna : narrow ty (.int v) = .int v) (hfit : fits ty (.int v) = true) (hdg : decode cc pc = .ok (.putfield index, 3))
    (kk : ∀ (H1 : Heap) (locs1 : List Loc), HW G (hset h o k v) s H1 locs1 → W p l e R s m args below meth c H1 locs1 cells slots Q (F0 m (pc + 3) ls rest)) : W p l e R s m args below meth c H locs cells slots Q (F0 m pc ls (.int v :: .ref (ra G o) :: rest)) := by
  subst ho
  obtain ⟨h1, h2, h3, h4⟩ := hq
  refine va_put (D := gD G) (ci := kd o) (v := .int v) (ty := ty) (C := C) (T := T) (N := N) hx hb Z.1 hin ty0 hty hnm Z.2.1 Z.2.2.1 hw.1 (wl_D (G := G)) hw.2 o (fs := (List.range (nf (kd o))).map (fv G gF h o)) ?_ hc k h3 (Z.1 _ hl) (fun _ q => q) hfin hd hna hfit ?_ hdg (fun H1 locs1 hP1 _ hS1 => kk H1 locs1 ⟨?_, hS1⟩)
  · rw [wl_at hn, ent, if_pos h1]
  · simp [h2, h3]
  · rw [wl_set (g' := gF) (h' := hset h o k v) ?_ (fun j hj => ent_oth hj)] at hP1
    · exact hP1
    · rw [ent, if_pos h1, map_range_set]
      have e2 : fv G gF (hset h o k v) o = fun j => if j = k then .int v else fv G gF h o j := by
        funext j
        exact fv_set h4
      rw [e2]
theorem z_alen (hx : p.tables.exec = Jvm.exec) (hb : c.code = cc) (Z : ZK G s args m own) (hw : HW G h s H locs) {o : Nat} {v : Int32} (ho : 10 ≤ kd o ∧ kd o < 15) (hn : o < gN G) (hv : Int32.ofNat (ln o) = v) (hdg : decode cc pc = .ok (.arraylength, 1))
    (kk : W p l e R s m args below meth c H locs cells slots Q (F0 m (pc + 1) ls (.int v :: rest))) : W p l e R s m args below meth c H locs cells slots Q (F0 m pc ls (.ref (ra G o) :: rest)) := by
  have hk : kd o = 10 ∨ kd o = 11 ∨ kd o = 12 ∨ kd o = 13 ∨ kd o = 14 := by omega
  have ha := wl_at (G := G) (g := gF) (h := h) hn
  rcases hk with k | k | k | k | k
  · rw [ent_I k (by decide)] at ha
    exact va_alen hx hb Z.2.2.1 hw.1 o 0 ha rfl hv hdg kk
  · rw [ent_I k (by decide)] at ha
    exact va_alen hx hb Z.2.2.1 hw.1 o 1 ha rfl hv hdg kk
  · rw [ent_I k (by decide)] at ha
    exact va_alen hx hb Z.2.2.1 hw.1 o 2 ha rfl hv hdg kk
  · rw [ent_S k] at ha
    exact va_alen hx hb Z.2.2.1 hw.1 o 3 ha rfl hv hdg kk
  · rw [ent_W k] at ha
    exact va_alen hx hb Z.2.2.1 hw.1 o 4 ha rfl hv hdg kk
theorem z_iald (hx : p.tables.exec = Jvm.exec) (hb : c.code = cc) (Z : ZK G s args m own) (hw : HW G h s H locs) {o : Nat} {i : Int32} (ho : kd o = 10) (hn : o < gN G) (hin : vp_in i (ln o)) (hdg : decode cc pc = .ok (.iaload, 1))
    (kk : W p l e R s m args below meth c H locs cells slots Q (F0 m (pc + 1) ls (.int (h o i.toNatClampNeg) :: rest))) : W p l e R s m args below meth c H locs cells slots Q (F0 m pc ls (.int i :: .ref (ra G o) :: rest)) :=
  va_iald hx hb Z.2.2.1 hw.1 o 0 ((wl_at hn).trans (congrArg (fun x => some (ra G o, x)) (ent_I ho (by decide)))) rfl hin hdg kk
theorem z_cald (hx : p.tables.exec = Jvm.exec) (hb : c.code = cc) (Z : ZK G s args m own) (hw : HW G h s H locs) {o : Nat} {i : Int32} (ho : kd o = 11) (hn : o < gN G) (hin : vp_in i (ln o)) (hdg : decode cc pc = .ok (.caload, 1))
    (kk : W p l e R s m args below meth c H locs cells slots Q (F0 m (pc + 1) ls (.int (h o i.toNatClampNeg) :: rest))) : W p l e R s m args below meth c H locs cells slots Q (F0 m pc ls (.int i :: .ref (ra G o) :: rest)) :=
  va_cald hx hb Z.2.2.1 hw.1 o 1 ((wl_at hn).trans (congrArg (fun x => some (ra G o, x)) (ent_I ho (by decide)))) rfl hin hdg kk
theorem z_sald (hx : p.tables.exec = Jvm.exec) (hb : c.code = cc) (Z : ZK G s args m own) (hw : HW G h s H locs) {o : Nat} {i : Int32} (ho : kd o = 13) (hn : o < gN G) (hin : vp_in i (ln o)) (hdg : decode cc pc = .ok (.aaload, 1))
    (kk : W p l e R s m args below meth c H locs cells slots Q (F0 m (pc + 1) ls (va_rf (srf G (h o i.toNatClampNeg)) :: rest))) : W p l e R s m args below meth c H locs cells slots Q (F0 m pc ls (.int i :: .ref (ra G o) :: rest)) :=
  va_aldq hx hb Z.2.2.1 hw.1 o 3 ((wl_at hn).trans (congrArg (fun x => some (ra G o, x)) (ent_S ho))) rfl hin hdg kk
theorem z_wald (hx : p.tables.exec = Jvm.exec) (hb : c.code = cc) (Z : ZK G s args m own) (hw : HW G h s H locs) {o : Nat} {i : Int32} (ho : kd o = 14) (hn : o < gN G) (hin : vp_in i (ln o)) (hdg : decode cc pc = .ok (.aaload, 1))
    (kk : W p l e R s m args below meth c H locs cells slots Q (F0 m (pc + 1) ls (va_rf (wrf G (h o i.toNatClampNeg)) :: rest))) : W p l e R s m args below meth c H locs cells slots Q (F0 m pc ls (.int i :: .ref (ra G o) :: rest)) :=
  va_aldq hx hb Z.2.2.1 hw.1 o 4 ((wl_at hn).trans (congrArg (fun x => some (ra G o, x)) (ent_W ho))) rfl hin hdg kk
theorem hset_upd {o k : Nat} {v : Int32} : hset h o k v o = upd (h o) k v := by
  funext j
  simp [hset, upd]
theorem HW.arr {H1 : Heap} {locs1 : List Loc} {o k : Nat} {v : Int32} {kk : Nat} (hk : kd o = kk) (h3 : kk = 10 ∨ kk = 11 ∨ kk = 12) (hP : va_P (gD G) vwCl ((wl G (gN G) gF h).set o (ra G o, .inl (gC G kk, ln o, .inl (upd (h o) k v)))) H1) (hS : va_S (AA G) s.heap H1 locs1) : HW G (hset h o k v) s H1 locs1 := by
  refine ⟨?_, hS⟩
  rw [wl_set (g' := gF) (h' := hset h o k v) ?_ (fun j hj => ent_oth hj)] at hP
  · exact hP
  · rw [ent_I hk h3, hset_upd]
theorem z_iast (hx : p.tables.exec = Jvm.exec) (hb : c.code = cc) (Z : ZK G s args m own) (hw : HW G h s H locs) {o : Nat} {i v : Int32} (ho : kd o = 10) (hn : o < gN G) (hin : vp_in i (ln o)) (hdg : decode cc pc = .ok (.iastore, 1))
    (kk : ∀ (H1 : Heap) (locs1 : List Loc), HW G (hset h o i.toNatClampNeg v) s H1 locs1 → W p l e R s m args below meth c H1 locs1 cells slots Q (F0 m (pc + 1) ls rest)) : W p l e R s m args below meth c H locs cells slots Q (F0 m pc ls (.int v :: .int i :: .ref (ra G o) :: rest)) :=
  va_iast hx hb Z.2.2.1 hw.1 (wl_D (G := G)) hw.2 o 0 ((wl_at hn).trans (congrArg (fun x => some (ra G o, x)) (ent_I ho (by decide)))) rfl hin hdg (fun H1 locs1 hP _ hS => kk H1 locs1 (HW.arr ho (by decide) hP hS))
theorem z_cast (hx : p.tables.exec = Jvm.exec) (hb : c.code = cc) (Z : ZK G s args m own) (hw : HW G h s H locs) {o : Nat} {i v : Int32} (ho : kd o = 11) (hn : o < gN G) (hin : vp_in i (ln o)) (hdg : decode cc pc = .ok (.castore, 1))
    (kk : ∀ (H1 : Heap) (locs1 : List Loc), HW G (hset h o i.toNatClampNeg (vp_nar .char v)) s H1 locs1 → W p l e R s m args below meth c H1 locs1 cells slots Q (F0 m (pc + 1) ls rest)) : W p l e R s m args below meth c H locs cells slots Q (F0 m pc ls (.int v :: .int i :: .ref (ra G o) :: rest)) :=
  va_cast hx hb Z.2.2.1 hw.1 (wl_D (G := G)) hw.2 o 1 ((wl_at hn).trans (congrArg (fun x => some (ra G o, x)) (ent_I ho (by decide)))) rfl hin hdg (fun H1 locs1 hP _ hS => kk H1 locs1 (HW.arr ho (by decide) hP hS))
theorem z_go {d : Nat} {rv : Option Value} {h1 : HP} {st0 : List Value} {a : Array Value} (hr : va_Run p l e (rmD d) s m args below meth c H locs 0 0 0 0 (F0 m pc ls st0) rest (QM G rv h1 a) (AA G)) (hw : HW G h s H locs)
    (kk : ∀ (H1 : Heap) (locs1 : List Loc), HW G h1 s H1 locs1 → W p l e (rmD d) s m args below meth c H1 locs1 0 0 Q (F0 m (pc + 3) ls (rv.toList ++ rest))) : W p l e (rmD d) s m args below meth c H locs 0 0 Q (F0 m pc ls st0) := by
  intro T hT X
  obtain ⟨v, st₀, t, T', L, h0, X', hL, e1, e2, ⟨⟨hv, hP⟩, hz, hk⟩, st⟩ := hr T hT X
  cases hv
  rw [h0] at hz hk
  have hS := hw.2
  obtain ⟨t2, a1, b1⟩ := kk T'.heap (locs ++ L) ⟨by rw [e1]; exact hP, Nat.le_trans hS.1 (by rw [e1]; exact hz), fun q h1 h2 => by rw [e1, hk q (Nat.lt_of_lt_of_le h1 hS.1) h2]; exact hS.2.1 q h1 h2, fun q hq => by
      rcases List.mem_append.mp hq with h | h
      · exact hS.2.2 q h
      · exact hL q h⟩ T' rfl X'
  exact ⟨t2, st t2 a1, b1⟩
/-- what a callee's own row of the tables says -/
def CV (y : MethodName) (bytes : ByteArray) (mL : Nat) (ret : Option FieldType) (n : Nat) : Prop := Cond.instanceMethod y ∈ BIG ∧ Cond.selects y.cls y y ∈ BIG ∧ Cond.initialized y.cls ∈ BIG ∧ Cond.code y bytes mL ret ∈ BIG ∧ (y.cls ≠ "java/lang/invoke/MethodHandle" ∧ y.cls ≠ "java/lang/invoke/VarHandle" ∧ (parseMethodDescriptor y.desc).map (fun d => d.parameters.length) = some n) ∧ mL ≤ 21
def CS (y : MethodName) (bytes : ByteArray) (mL : Nat) (ret : Option FieldType) (n : Nat) : Prop := Cond.static y ∈ BIG ∧ Cond.initialized y.cls ∈ BIG ∧ Cond.code y bytes mL ret ∈ BIG ∧ (y.cls ≠ "java/lang/invoke/MethodHandle" ∧ y.cls ≠ "java/lang/invoke/VarHandle" ∧ (parseMethodDescriptor y.desc).map (fun d => d.parameters.length) = some n) ∧ mL ≤ 21
theorem z_room {d d1 mL : Nat} (hd : d1 < d) (hm : mL ≤ 21) : (rmD d1).frames + 1 ≤ (rmD d).frames ∧ 8 + (mL + 11) + (rmD d1).locals ≤ (rmD d).locals := by
  refine ⟨?_, ?_⟩
  · show d1 + 1 + 1 ≤ d + 1
    omega
  · show 8 + (mL + 11) + 40 * (d1 + 1) ≤ 40 * (d + 1)
    omega
theorem z_callV {d d1 n index nL mL o ci : Nat} {rv : Option Value} {h1 : HP} {y : MethodName} {bytes : ByteArray} {ret : Option FieldType} {As st0 : List Value} {q : vw_C} (hM : MC G l y bytes mL ret d1 (.ref (ra G o) :: As) h h1 rv) (F : CV y bytes mL ret n) (hx : p.tables.exec = Jvm.exec) (hb : c.code = cc) (hml : c.maxLocals = nL) (hls : ls.size = nL) (Z : ZK G s args m own) (hw : HW G h s H locs)
    (ho : kd o = ci) (hci : ci < 10) (hn : o < gN G) (hc : vwCl[ci]? = some q) (hqc : q.1 = y.cls) (hl : Cond.methodLink own index y ∈ BIG) (hst : st0 = As.reverse ++ .ref (ra G o) :: rest) (hln : As.length = n) (hrs : (rest.map fun v => v.category).sum ≤ 8) (hd : d1 < d) (hdg : decode cc pc = .ok (.invokevirtual index, 3))
    (kk : ∀ (H1 : Heap) (locs1 : List Loc), HW G h1 s H1 locs1 → W p l e (rmD d) s m args below meth c H1 locs1 0 0 Q (F0 m (pc + 3) ls (rv.toList ++ rest))) : W p l e (rmD d) s m args below meth c H locs 0 0 Q (F0 m pc ls st0) := by
  obtain ⟨f1, f2, f3, f4, f5, f6⟩ := F
  subst ho
  have hat : (wl G (gN G) gF h)[o]? = some (ra G o, .inr (kd o, (List.range (nf (kd o))).map (fv G gF h o))) := by rw [wl_at hn, ent, if_pos hci]
  refine z_go (va_runV (As := As) (rest := rest) (C := y.cls) ⟨hx, hb, hml, Z.2.1, Z.1⟩ hM (cwV n Z.1 (goodIn_big ?_) rfl rfl rfl ⟨rfl, f5⟩ (z_room hd f6)) ⟨WU.blind, ?_, fun U hU hW => ⟨rfl, hw.WU Z hU hW⟩⟩ rfl hln hls hst (lv_room hrs) hdg ⟨Nat.le_refl _, Nat.le_refl _⟩) hw kk
  · intro w hm
    simp only [wsV, List.mem_append, List.mem_cons, List.not_mem_nil, or_false] at hm
    rcases hm with (rfl | rfl | rfl | rfl) | rfl | hm
    · exact hl
    · exact f1
    · exact f2
    · exact f3
    · exact f4
    · exact hm
  · rw [← hqc]
    exact va_recv Z.2.2.1 hw.1 hc hat
theorem z_callS {d d1 n index nL mL : Nat} {rv : Option Value} {h1 : HP} {y : MethodName} {bytes : ByteArray} {ret : Option FieldType} {As st0 : List Value} (hM : MC G l y bytes mL ret d1 As h h1 rv) (F : CS y bytes mL ret n) (hx : p.tables.exec = Jvm.exec) (hb : c.code = cc) (hml : c.maxLocals = nL) (hls : ls.size = nL) (Z : ZK G s args m own) (hw : HW G h s H locs)
    (hl : Cond.methodLink own index y ∈ BIG) (hst : st0 = As.reverse ++ rest) (hln : As.length = n) (hrs : (rest.map fun v => v.category).sum ≤ 8) (hd : d1 < d) (hdg : decode cc pc = .ok (.invokestatic index, 3))
    (kk : ∀ (H1 : Heap) (locs1 : List Loc), HW G h1 s H1 locs1 → W p l e (rmD d) s m args below meth c H1 locs1 0 0 Q (F0 m (pc + 3) ls (rv.toList ++ rest))) : W p l e (rmD d) s m args below meth c H locs 0 0 Q (F0 m pc ls st0) := by
  obtain ⟨f1, f3, f4, f5, f6⟩ := F
  refine z_go (va_runS (As := As) (rest := rest) ⟨hx, hb, hml, Z.2.1, Z.1⟩ hM (va_cwS n Z.1 (goodIn_big ?_) rfl rfl rfl f5 (z_room hd f6)) ⟨WU.blind, fun U hU hW => ⟨rfl, hw.WU Z hU hW⟩⟩ rfl hln hls hst (lv_room hrs) hdg ⟨Nat.le_refl _, Nat.le_refl _⟩) hw kk
  intro w hm
  simp only [va_wsS, List.mem_append, List.mem_cons, List.not_mem_nil, or_false] at hm
  rcases hm with (rfl | rfl | rfl) | rfl | hm
  · exact hl
  · exact f1
  · exact f3
  · exact f4
  · exact hm
/-- a private static method of a nest mate -/
theorem z_callN {d d1 n index nL mL : Nat} {rv : Option Value} {h1 : HP} {y : MethodName} {host : String} {bytes : ByteArray} {ret : Option FieldType} {As st0 : List Value} (hM : MC G l y bytes mL ret d1 As h h1 rv) (F : CS y bytes mL ret n) (hx : p.tables.exec = Jvm.exec) (hb : c.code = cc) (hml : c.maxLocals = nL) (hls : ls.size = nL) (Z : ZK G s args m own) (hw : HW G h s H locs)
    (hl : Cond.methodLinkNest own index y host ∈ lw_tbl) (hst : st0 = As.reverse ++ rest) (hln : As.length = n) (hrs : (rest.map fun v => v.category).sum ≤ 8) (hd : d1 < d) (hdg : decode cc pc = .ok (.invokestatic index, 3))
    (kk : ∀ (H1 : Heap) (locs1 : List Loc), HW G h1 s H1 locs1 → W p l e (rmD d) s m args below meth c H1 locs1 0 0 Q (F0 m (pc + 3) ls (rv.toList ++ rest))) : W p l e (rmD d) s m args below meth c H locs 0 0 Q (F0 m pc ls st0) := by
  obtain ⟨f1, f3, f4, f5, f6⟩ := F
  refine z_go (va_runSN (As := As) (rest := rest) ⟨hx, hb, hml, Z.2.1, Z.1⟩ hM ⟨va_cnB n Z.1 (goodIn_big ?_) rfl rfl rfl (Z.2.2.2.2.1.1 _ hl rfl) (Z.1 _ f3) f5 (z_room hd f6), Z.1 _ f1, trivial⟩ ⟨WU.blind, fun U hU hW => ⟨rfl, hw.WU Z hU hW⟩⟩ rfl hln hls hst (lv_room hrs) hdg ⟨Nat.le_refl _, Nat.le_refl _⟩) hw kk
  intro w hm
  rcases List.mem_cons.mp hm with rfl | hm
  · exact f4
  · exact hm
/-- the ends -/
theorem z_iret {d : Nat} {v : Int32} (hx : p.tables.exec = Jvm.exec) (hb : c.code = cc) (hr : meth.sig.returnType = some .int) (hlk : meth.locks = false) (hw : HW G h s H locs) (hdg : decode cc pc = .ok (.ireturn, 1)) : WZ p l e d s m args below meth c G (some (.int v)) h H locs (F0 m pc ls [.int v]) :=
  W.iret hx hb hr (fun t ht _ => ⟨⟨rfl, by rw [ht]; exact hw.1⟩, hw.2.F ht⟩) hw.2.2.2 hdg hlk
theorem z_zret {d : Nat} {v : Int32} {ty : FieldType} (hx : p.tables.exec = Jvm.exec) (hb : c.code = cc) (hr : meth.sig.returnType = some ty) (hna : narrow ty (.int v) = .int v) (hlk : meth.locks = false) (hw : HW G h s H locs) (hdg : decode cc pc = .ok (.ireturn, 1)) : WZ p l e d s m args below meth c G (some (.int v)) h H locs (F0 m pc ls [.int v]) :=
  W.zret hx hb hr hna (fun t ht _ => ⟨⟨rfl, by rw [ht]; exact hw.1⟩, hw.2.F ht⟩) hw.2.2.2 hdg hlk
theorem z_vret {d : Nat} (hx : p.tables.exec = Jvm.exec) (hb : c.code = cc) (hr : meth.sig.returnType = none) (hlk : meth.locks = false) (hw : HW G h s H locs) (hdg : decode cc pc = .ok (.return_, 1)) : WZ p l e d s m args below meth c G none h H locs (F0 m pc ls []) :=
  W.vret hx hb hr (fun t ht _ => ⟨⟨rfl, by rw [ht]; exact hw.1⟩, hw.2.F ht⟩) hw.2.2.2 hdg hlk
theorem z_aret {d : Nat} {v : Value} {rt : FieldType} (hx : p.tables.exec = Jvm.exec) (hb : c.code = cc) (hr : meth.sig.returnType = some rt) (hrt : (∃ n, rt = .object n) ∨ ∃ t, rt = .array t) (hv : v = .null ∨ ∃ a, v = .ref a) (hlk : meth.locks = false) (hw : HW G h s H locs) (hdg : decode cc pc = .ok (.areturn, 1)) : WZ p l e d s m args below meth c G (some v) h H locs (F0 m pc ls [v]) :=
  W.aret hx hb hr hrt hv (fun t ht _ => ⟨⟨rfl, by rw [ht]; exact hw.1⟩, hw.2.F ht⟩) hw.2.2.2 hdg hlk
theorem z_dret {d : Nat} {v : UInt64} (hx : p.tables.exec = Jvm.exec) (hb : c.code = cc) (hr : meth.sig.returnType = some .double) (hlk : meth.locks = false) (hw : HW G h s H locs) (hdg : decode cc pc = .ok (.dreturn, 1)) : WZ p l e d s m args below meth c G (some (.double v)) h H locs (F0 m pc ls [.double v]) :=
  W.dret hx hb hr (fun t ht _ => ⟨⟨rfl, by rw [ht]; exact hw.1⟩, hw.2.F ht⟩) hw.2.2.2 hdg hlk
/-- System.arraycopy of a whole row, from its first place -/
def hcpy (h : HP) (src dst n : Nat) : HP := fun a j => if a = dst ∧ j < n then h src j else h a j
theorem ent_cpy {src dst n : Nat} {g : Nat → Nat} {j : Nat} (hj : j ≠ dst) : ent G g (hcpy h src dst n) j = ent G g h j := by
  have e : (hcpy h src dst n) j = h j := by
    funext i
    simp [hcpy, hj]
  have e2 : fv G g (hcpy h src dst n) j = fv G g h j := by
    funext i
    simp [fv, e]
  simp [ent, e, e2]
theorem z_copy {d nL src dst index n : Nat} {x : Int32} (hx : p.tables.exec = Jvm.exec) (hb : c.code = cc) (hml : c.maxLocals = nL) (hls : ls.size = nL) (Z : ZK G s args m own) (hw : HW G h s H locs) (ho : kd src = 10) (hn : src < gN G) (ho2 : kd dst = 10) (hn2 : dst < gN G) (hl : Cond.methodLink own index arraycopyName ∈ BIG) (hq : Cond.native arraycopyName ∈ BIG ∧ Cond.static arraycopyName ∈ BIG ∧ Cond.initialized "java/lang/System" ∈ BIG)
    (hxn : x.toNatClampNeg = n ∧ ¬ x < 0 ∧ n ≤ ln src ∧ n ≤ ln dst) (hrs : (rest.map fun v => v.category).sum ≤ 8) (hdg : decode cc pc = .ok (.invokestatic index, 3))
    (kk : ∀ (H1 : Heap) (locs1 : List Loc), HW G (hcpy h src dst n) s H1 locs1 → W p l e (rmD d) s m args below meth c H1 locs1 0 0 Q (F0 m (pc + 3) ls rest)) : W p l e (rmD d) s m args below meth c H locs 0 0 Q (F0 m pc ls (.int x :: .int 0 :: .ref (ra G dst) :: .int 0 :: .ref (ra G src) :: rest)) := by
  obtain ⟨rfl, x2, x3, x4⟩ := hxn
  have z0 : (0 : Int32).toNatClampNeg = 0 := by decide
  refine va_copyi hx hb (hml.trans hls.symm) Z.2.1 (Z.1 _ hl) (Z.1 _ hq.1) (Z.1 _ hq.2.1) (Z.1 _ hq.2.2) Z.2.2.1 hw.1 (wl_D (G := G)) hw.2 src dst 0 0 ((wl_at hn).trans (congrArg (fun x => some (ra G src, x)) (ent_I ho (by decide)))) ((wl_at hn2).trans (congrArg (fun x => some (ra G dst, x)) (ent_I ho2 (by decide)))) rfl rfl rfl (by decide) (by decide) x2 (by rw [z0]; omega) (by rw [z0]; omega) (fun _ _ => rfl) (Nat.succ_le_succ (Nat.zero_le _)) ?_ hdg (fun H1 locs1 hP _ hS => kk H1 locs1 ⟨?_, hS⟩)
  · have : nativeFrameWords "java/lang/System" "arraycopy" 5 ≤ 20 := by decide +kernel
    show _ ≤ 40 * (d + 1)
    omega
  · rw [wl_set (g' := gF) (h' := hcpy h src dst x.toNatClampNeg) ?_ (fun j hj => ent_cpy hj)] at hP
    · exact hP
    · rw [ent_I ho2 (by decide)]
      have e : hcpy h src dst x.toNatClampNeg dst = va_cpy (h src) (h dst) (0 : Int32).toNatClampNeg (0 : Int32).toNatClampNeg x.toNatClampNeg := by
        funext j
        simp [hcpy, va_cpy, z0]
      rw [e]
end ZR
