/-! constructors: the world as it grows (n objects are made; of object o the first g o fields are set) -/
def HG (G : GM) (n : Nat) (g : Nat → Nat) (h : HP) (s : State) (H : Heap) (locs : List Loc) : Prop := va_P (gD G) vwCl (wl G n g h) H ∧ va_S (AA G) s.heap H locs
def WG (G : GM) (n : Nat) (g : Nat → Nat) (h : HP) (U : State) : Prop := va_P (gD G) vwCl (wl G n g h) U.heap ∧ va_K (gD G) vwCl (tyG G) U ∧ ST G U U.heap ∧ NS U ∧ U.heap.size = gB G + n
def QG (G : GM) (n : Nat) (g : Nat → Nat) (h : HP) : Array Value → State → Outcome → State → Prop := fun _ st o t => (o = .returned none ∧ va_P (gD G) vwCl (wl G n g h) t.heap) ∧ va_F (AA G) st t
abbrev rmC (d mc ms : Nat) : Room := { frames := d + 1, cells := mc, slots := ms, locals := 40 * (d + 1) }
def MG (G : GM) (l : Launch) (y : MethodName) (cc : ByteArray) (mL : Nat) (d mc ms : Nat) (av : List Value) (n : Nat) (g : Nat → Nat) (h : HP) (n' : Nat) (g' : Nat → Nat) (h' : HP) : Prop :=
  Met l y (.code y cc mL none :: BIG) (rmC d mc ms) (va_Pc av (WG G n g h)) (QG G n' g' h') mc ms (AA G)
def gset (g : Nat → Nat) (o v : Nat) : Nat → Nat := fun a => if a = o then v else g a
theorem WG.blind {G : GM} {n : Nat} {g : Nat → Nat} {h : HP} {av : List Value} : FrameBlind (va_Pc av (WG G n g h)) := by
  intro a U f mk q
  obtain ⟨q0, q1, q2, q3, q4, q5⟩ := q
  exact ⟨q0, q1, va_K.moved (u := U) (U := U.calling f mk a) (Vm.Alike.refl U.vm) q2, ST.moved (u := U) (U := U.calling f mk a) (Vm.Alike.refl U.vm) q3, NS.same (s := U) (U := U.calling f mk a) rfl q4, q5⟩
theorem zc_start {G : GM} {l : Launch} {y : MethodName} {cc : ByteArray} {mL d mc ms : Nat} {av : List Value} {n n' : Nat} {g g' : Nat → Nat} {h h' : HP} (hy : plainName y.cls = true) (hal : (lg_sl av).length ≤ mL)
    (body : ∀ (p : Program) (e : Env) (s : State) (m : MethodId) (args : Array Value) (below : List Frame) (meth : Method) (c : Code) (ls : Array Slot), p.tables.exec = Jvm.exec → c.code = cc → meth.sig.returnType = none → meth.locks = false → meth.name = y.name → c.maxLocals = mL → ZK G s args m y.cls → s.heap.size = gB G + n → HG G n g h s s.heap [] → lv_has ls mL (lv_args 0 av) → W p l e (rmC d mc ms) s m args below meth c s.heap [] 0 0 (MQ below (QG G n' g' h') args s mc ms (AA G)) (F0 m 0 ls [])) : MG G l y cc mL d mc ms av n g h n' g' h' := by
  refine Met.ofW (cc := cc) (maxL := mL) (ret := none) hy rfl ?_
  intro p e s m args below meth c s₁ B hml hv
  obtain ⟨rfl, hP, hK, hT, hN, hz⟩ := hv
  have hts := atoms_spec (ws := Cond.code y cc mL none :: BIG) B.pre
  have hown : s.vm.findClass y.cls = some m.cls := findClass_of_methodNamed B.named
  have hl := lv_entry av (n := mL) hal
  rw [lg_entry_eq]
  exact body p e s m av.toArray below meth c _ B.exec B.bytes B.returns B.notSynchronized (name_of_methodNamed B.named B.method).1 hml ⟨fun w hw => hts w (List.mem_cons_of_mem _ hw), hown, hK, hT, hN, by rw [hz]; exact Nat.le_add_right _ _⟩ hz ⟨hP, va_S.rf⟩ hl
theorem wl_push {G : GM} {n : Nat} {g : Nat → Nat} {h : HP} : wl G (n + 1) g h = wl G n g h ++ [(ra G n, ent G g h n)] := by
  simp [wl, List.range_succ]
theorem fv_gset {G : GM} {g : Nat → Nat} {h : HP} {o k j : Nat} (hk : 0 < off (kd o) k) (hg : g o ≤ k) (hmid : ∀ i, g o ≤ i → i < k → off (kd o) i = 0) : fv G (gset g o (k + 1)) h o j = if j = k then .ref (ra G (o + off (kd o) k)) else fv G g h o j := by
  by_cases hj : j = k
  · subst hj
    have : ¬ off (kd o) j = 0 := by omega
    simp [fv, gset, this]
  · by_cases h0 : off (kd o) j = 0
    · simp [fv, h0, hj]
    · have h1 : ¬ (g o ≤ j ∧ j < k) := fun q => h0 (hmid j q.1 q.2)
      have h2 : (j < k + 1) ↔ (j < g o) := by omega
      simp [fv, gset, h0, hj, h2]
theorem ent_goth {G : GM} {g : Nat → Nat} {h : HP} {o v : Nat} {j : Nat} (hj : j ≠ o) : ent G (gset g o v) h j = ent G g h j := by
  have e2 : fv G (gset g o v) h j = fv G g h j := by
    funext i
    simp [fv, gset, hj]
  simp [ent, e2]
section ZC
variable {p : Program} {l : Launch} {e : Env} {R : Room} {s : State} {m : MethodId} {args : Array Value} {below : List Frame} {meth : Method} {c : Code} {H : Heap} {locs : List Loc} {cells slots : Nat} {Q : State → Prop}
variable {cc : ByteArray} {pc : Nat} {ls : Array Slot} {rest : List Value} {G : GM} {h : HP} {own : String} {n n0 : Nat} {g : Nat → Nat}
/-- how large the heap is, by what was made -/
theorem zc_size {gg : JFrame} (hw : HG G n g h s H locs) (hs0 : s.heap.size = gB G + n0) (hc : n0 + cells = n) (kk : H.size = gB G + n → W p l e R s m args below meth c H locs cells slots Q gg) : W p l e R s m args below meth c H locs cells slots Q gg := by
  intro T hT X
  have h1 : T.heap.size ≤ s.heap.size + cells := X.heapSize
  rw [hT] at h1
  have h2 : gB G + n ≤ H.size := by
    rcases Nat.eq_zero_or_pos n with q | q
    · have := hw.2.1
      omega
    · have h3 := (hw.1 (n - 1) _ (wl_at (by omega))).lt
      simp only [ra] at h3
      omega
  exact kk (by omega) T hT X
theorem zc_objInit {d mc ms : Nat} (hx : p.tables.exec = Jvm.exec) (hb : c.code = cc) (hml : c.maxLocals = ls.size) (Z : ZK G s args m own) {idx a : Nat} (h1 : Cond.methodLink own idx Lib.objectInit ∈ BIG) (h2 : Cond.instanceMethod Lib.objectInit ∈ BIG) (h3 : Cond.code Lib.objectInit ⟨#[0xb1]⟩ 1 none ∈ BIG) (hdg : decode cc pc = .ok (.invokespecial idx, 3))
    (kk : W p l e (rmC d mc ms) s m args below meth c H locs cells slots Q (F0 m (pc + 3) ls [])) : W p l e (rmC d mc ms) s m args below meth c H locs cells slots Q (F0 m pc ls [.ref a]) :=
  W.objInit hx hb Z.2.1 (Z.1 _ h1) (Z.1 _ h2) (Z.1 _ h3) rfl hml.symm rfl hdg (Nat.succ_le_succ (Nat.zero_le _)) (by show 0 + 0 + 12 ≤ 40 * (d + 1); omega) kk
theorem zc_puti (hx : p.tables.exec = Jvm.exec) (hb : c.code = cc) (Z : ZK G s args m own) (hw : HG G n g h s H locs) {o ci k index : Nat} {C : String} {T : u_T} {N : Nat} {ty : FieldType} {v : Int32} (ho : kd o = ci) (hn : o < n) (hc : vwCl[ci]? = some (C, T, N)) (hin : ∀ w ∈ u_ws C T N, w ∈ BIG) (ty0 : Nat → FieldType) (hty : ∀ k, k < N → parseFieldDescriptor (T k).2.2.1 = some (ty0 k)) (hnm : ∀ a, a < N → ∀ b, b < N → a ≠ b → (T a).2.1 ≠ (T b).2.1)
    (hq : ci < 10 ∧ nf ci = N ∧ k < N ∧ off ci k = 0) (hl : Cond.fieldLink own index (T k).1 (T k).2.1 (T k).2.2.1 ∈ BIG) (hfin : (T k).2.2.2 = false) (hd : parseFieldDescriptor (T k).2.2.1 = some ty) (hna : narrow ty (.int v) = .int v) (hfit : fits ty (.int v) = true) (hdg : decode cc pc = .ok (.putfield index, 3))
    (kk : ∀ (H1 : Heap) (locs1 : List Loc), HG G n g (hset h o k v) s H1 locs1 → W p l e R s m args below meth c H1 locs1 cells slots Q (F0 m (pc + 3) ls rest)) : W p l e R s m args below meth c H locs cells slots Q (F0 m pc ls (.int v :: .ref (ra G o) :: rest)) := by
  subst ho
  obtain ⟨h1, h2, h3, h4⟩ := hq
  refine va_put (D := gD G) (ci := kd o) (v := .int v) (ty := ty) (C := C) (T := T) (N := N) hx hb Z.1 hin ty0 hty hnm Z.2.1 Z.2.2.1 hw.1 (wl_D (G := G)) hw.2 o (fs := (List.range (nf (kd o))).map (fv G g h o)) ?_ hc k h3 (Z.1 _ hl) (fun _ q => q) hfin hd hna hfit ?_ hdg (fun H1 locs1 hP1 _ hS1 => kk H1 locs1 ⟨?_, hS1⟩)
  · rw [wl_at hn, ent, if_pos h1]
  · simp [h2, h3]
  · rw [wl_set (g' := g) (h' := hset h o k v) ?_ (fun j hj => ent_oth hj)] at hP1
    · exact hP1
    · rw [ent, if_pos h1, map_range_set]
      have e2 : fv G g (hset h o k v) o = fun j => if j = k then .int v else fv G g h o j := by
        funext j
        exact fv_set h4
      rw [e2]
/-- a final field that names an object -/
theorem zc_putr (hx : p.tables.exec = Jvm.exec) (hb : c.code = cc) (Z : ZK G s args m own) (hw : HG G n g h s H locs) (hin2 : meth.name = "<init>") {o ci k index o2 : Nat} {C : String} {T : u_T} {N : Nat} {ty : FieldType} (ho : kd o = ci) (hn : o < n) (hc : vwCl[ci]? = some (C, T, N)) (hin : ∀ w ∈ u_ws C T N, w ∈ BIG) (ty0 : Nat → FieldType) (hty : ∀ k, k < N → parseFieldDescriptor (T k).2.2.1 = some (ty0 k)) (hnm : ∀ a, a < N → ∀ b, b < N → a ≠ b → (T a).2.1 ≠ (T b).2.1)
    (hq : ci < 10 ∧ nf ci = N ∧ k < N ∧ 0 < off ci k) (h2o : o + off ci k = o2) (hg : g o ≤ k) (hmid : ∀ i, g o ≤ i → i < k → off ci i = 0) (hl : Cond.fieldLink own index (T k).1 (T k).2.1 (T k).2.2.1 ∈ BIG) (hfin : (T k).2.2.2 = true) (hdecl : (T k).1 = own) (hd : parseFieldDescriptor (T k).2.2.1 = some ty) (hna : narrow ty (.ref (ra G o2)) = .ref (ra G o2)) (hfit : fits ty (.ref (ra G o2)) = true) (hdg : decode cc pc = .ok (.putfield index, 3))
    (kk : ∀ (H1 : Heap) (locs1 : List Loc), HG G n (gset g o (k + 1)) h s H1 locs1 → W p l e R s m args below meth c H1 locs1 cells slots Q (F0 m (pc + 3) ls rest)) : W p l e R s m args below meth c H locs cells slots Q (F0 m pc ls (.ref (ra G o2) :: .ref (ra G o) :: rest)) := by
  subst ho; subst h2o
  obtain ⟨h1, h2, h3, h4⟩ := hq
  refine va_putF (D := gD G) (ci := kd o) (v := .ref (ra G (o + off (kd o) k))) (ty := ty) (C := C) (T := T) (N := N) hx hb Z.1 hin ty0 hty hnm Z.2.1 Z.2.2.1 hw.1 (wl_D (G := G)) hw.2 o (fs := (List.range (nf (kd o))).map (fv G g h o)) ?_ hc k h3 (Z.1 _ hl) (fun _ q => q) hfin hin2 hdecl hd hna hfit ?_ hdg (fun H1 locs1 hP1 _ hS1 => kk H1 locs1 ⟨?_, hS1⟩)
  · rw [wl_at hn, ent, if_pos h1]
  · simp [h2, h3]
  · rw [wl_set (g' := gset g o (k + 1)) (h' := h) ?_ (fun j hj => ent_goth hj)] at hP1
    · exact hP1
    · rw [ent, if_pos h1, map_range_set]
      have e2 : fv G (gset g o (k + 1)) h o = fun j => if j = k then .ref (ra G (o + off (kd o) k)) else fv G g h o j := by
        funext j
        exact fv_gset h4 hg hmid
      rw [e2]
theorem zc_getr (hx : p.tables.exec = Jvm.exec) (hb : c.code = cc) (Z : ZK G s args m own) (hw : HG G n g h s H locs) {o ci k index o2 : Nat} {C : String} {T : u_T} {N : Nat} (ho : kd o = ci) (hn : o < n) (hc : vwCl[ci]? = some (C, T, N)) (hin : ∀ w ∈ u_ws C T N, w ∈ BIG) (hq : ci < 10 ∧ nf ci = N ∧ k < N ∧ 0 < off ci k) (hk : k < g o) (h2 : o + off ci k = o2) (hl : Cond.fieldLink own index (T k).1 (T k).2.1 (T k).2.2.1 ∈ BIG) (hdg : decode cc pc = .ok (.getfield index, 3))
    (kk : W p l e R s m args below meth c H locs cells slots Q (F0 m (pc + 3) ls (.ref (ra G o2) :: rest))) : W p l e R s m args below meth c H locs cells slots Q (F0 m pc ls (.ref (ra G o) :: rest)) := by
  subst ho; subst h2
  obtain ⟨h1, h2, h3, h4⟩ := hq
  refine va_get (D := gD G) (ci := kd o) (v := .ref (ra G (o + off (kd o) k))) (C := C) (T := T) (N := N) hx hb Z.1 hin Z.2.1 Z.2.2.1 hw.1 o (fs := (List.range (nf (kd o))).map (fv G g h o)) ?_ hc k h3 (Z.1 _ hl) (fun _ q => q) ?_ hdg kk
  · rw [wl_at hn, ent, if_pos h1]
  · rw [List.getElem?_map, List.getElem?_range (by omega)]
    have h6 : ¬ off (kd o) k = 0 := by omega
    simp [fv, h6, hk]
theorem HG.more {H1 : Heap} (hw : HG G n g h s H locs) (hz : H.size = gB G + n) (he : va_at (gD G) vwCl (ra G n, ent G g h n) H1) (z1 : H1.size = H.size + 1) (o1 : ∀ q, q < H.size → H1[q]? = H[q]?) : HG G (n + 1) g h s H1 locs := by
  have hk : ∀ (k : Nat) (x : Nat × va_E), (wl G n g h)[k]? = some x → H1[x.1]? = H[x.1]? := fun k x hx => o1 x.1 ((hw.1 k x hx).lt)
  refine ⟨?_, Nat.le_trans hw.2.1 (by omega), fun x h1 h2 => (o1 x (Nat.lt_of_lt_of_le h1 hw.2.1)).trans (hw.2.2.1 x h1 h2), hw.2.2.2⟩
  rw [wl_push]
  refine (hw.1.kept hk).app (fun k x hx => ?_)
  have hz : k < 1 := (List.getElem?_eq_some_iff.mp hx).1
  rw [show k = 0 by omega] at hx
  cases hx
  exact he
theorem zc_new (hx : p.tables.exec = Jvm.exec) (hb : c.code = cc) (Z : ZK G s args m own) (hw : HG G n g h s H locs) (hs0 : s.heap.size = gB G + n0) (hcn : n0 + cells = n) {ci index : Nat} {C : String} {T : u_T} {N : Nat} (ho : kd n = ci) (hc : vwCl[ci]? = some (C, T, N)) (hin : ∀ w ∈ u_ws C T N, w ∈ BIG) (ty0 : Nat → FieldType) (hty : ∀ k, k < N → parseFieldDescriptor (T k).2.2.1 = some (ty0 k)) (hq : ci < 10 ∧ nf ci = N) (hdf : ∀ k, k < N → defaultValue (ty0 k) = if off ci k = 0 then .int 0 else .null) (hg : g n = 0) (hh : ∀ k, h n k = 0) (hcl : Cond.classLink own index C ∈ BIG) (hinst : Cond.instantiable C N ∈ BIG) (hini : Cond.initialized C ∈ BIG) (hcells : cells + 1 ≤ R.cells) (hslots : slots + N ≤ R.slots) (hdg : decode cc pc = .ok (.new index, 3))
    (kk : ∀ (H1 : Heap), HG G (n + 1) g h s H1 locs → W p l e R s m args below meth c H1 locs (cells + 1) (slots + N) Q (F0 m (pc + 3) ls (.ref (ra G n) :: rest))) : W p l e R s m args below meth c H locs cells slots Q (F0 m pc ls rest) := by
  refine zc_size hw hs0 hcn (fun hz => ?_)
  subst ho
  have hKn := Z.2.2.1.1 (kd n) _ hc
  refine W.newcK hx hb Z.2.1 (Z.1 _ hcl) (Z.1 _ hinst) (Z.1 _ hini) rfl hdg hcells hslots hKn.2.1 rfl fun H1 kC hkC e1 z1 o1 => ?_
  have hr : ra G n = H.size := hz.symm
  have k1 := kk H1 (hw.more hz ?_ z1 o1)
  · rw [hr] at k1
    exact k1
  · rw [hr, ent, if_pos hq.1]
    refine ⟨_, hc, (u_born ty0 Z.1 hin hKn hkC e1 hty).to (fun j hj => ?_)⟩
    rw [hdf j hj]
    have hjn : j < nf (kd n) := by rw [hq.2]; exact hj
    simp only [vp_V, List.getD_eq_getElem?_getD, List.getElem?_map, List.getElem?_range hjn, Option.map_some, Option.getD_some, fv, hg, hh]
    by_cases h0 : off (kd n) j = 0 <;> simp [h0]
theorem zc_newa (hx : p.tables.exec = Jvm.exec) (hb : c.code = cc) (Z : ZK G s args m own) (hw : HG G n g h s H locs) (hs0 : s.heap.size = gB G + n0) (hcn : n0 + cells = n) {kk0 N' : Nat} {x : Int32} {atype : ArrayType} {ty : FieldType} (ho : kd n = kk0) (h3 : kk0 = 10 ∨ kk0 = 11 ∨ kk0 = 12) (hln : ln n = N') (hty : newarray.typeOf atype = ty) (htg : (tyG G)[kk0 - 10]? = some (gC G kk0, ty)) (hno : ∀ C, ty ≠ .object C) (hdv : defaultValue ty = .int 0) (hh : ∀ k, h n k = 0) (harr : Cond.arrayClass ty ∈ BIG) (hnx : ¬ x < 0) (hN : x.toNatClampNeg = N') (hbytes : N' * componentBytes ty ≤ 536870912) (hcells : cells + 1 ≤ R.cells) (hslots : slots + N' ≤ R.slots) (hdg : decode cc pc = .ok (.newarray atype, 2))
    (kk : ∀ (H1 : Heap), HG G (n + 1) g h s H1 locs → W p l e R s m args below meth c H1 locs (cells + 1) (slots + N') Q (F0 m (pc + 2) ls (.ref (ra G n) :: rest))) : W p l e R s m args below meth c H locs cells slots Q (F0 m pc ls (.int x :: rest)) := by
  refine zc_size hw hs0 hcn (fun hz => ?_)
  subst hty
  have hRA := (Z.2.2.1.2 _ _ htg).2
  refine va_newaK hx hb (Z.1 _ harr) rfl hdg rfl hnx hN hbytes hcells hslots rfl fun H1 cA e1 z1 o1 hAr hNm => ?_
  have hcA : cA = gC G kk0 := by
    have h9 : s.vm.findClass ("[" ++ (newarray.typeOf atype).toString) = some (gC G kk0) := by
      revert hRA hno
      generalize newarray.typeOf atype = t
      intro hno hRA
      cases t with
      | object C => exact absurd rfl (hno C)
      | _ => exact hRA
    exact Option.some.inj (hNm.symm.trans h9)
  have hr : ra G n = H.size := hz.symm
  have k1 := kk H1 (hw.more hz ?_ z1 o1)
  · rw [hr] at k1
    exact k1
  · rw [hr, ent_I ho h3]
    show H1[H.size]? = some (vp_cell _ _)
    rw [e1, hcA, hln, hdv]
    have e0 : h n = fun _ => 0 := funext hh
    rw [e0]
    rfl
theorem zc_anew (hx : p.tables.exec = Jvm.exec) (hb : c.code = cc) (Z : ZK G s args m own) (hw : HG G n g h s H locs) (hs0 : s.heap.size = gB G + n0) (hcn : n0 + cells = n) {kk0 N' index : Nat} {x : Int32} {C : String} (ho : kd n = kk0) (hln : ln n = N') (htg : (tyG G)[kk0 - 10]? = some (gC G kk0, .object C)) (hent : ent G g h n = .inl (gC G kk0, N', .inr (.inr (.inr (.inr (fun _ => none)))))) (hover : va_AO C s) (hcl : Cond.classLink own index C ∈ BIG) (hnx : ¬ x < 0) (hN : x.toNatClampNeg = N') (hbytes : N' * 4 ≤ 536870912) (hcells : cells + 1 ≤ R.cells) (hslots : slots + N' ≤ R.slots) (hdg : decode cc pc = .ok (.anewarray index, 3))
    (kk : ∀ (H1 : Heap), HG G (n + 1) g h s H1 locs → W p l e R s m args below meth c H1 locs (cells + 1) (slots + N') Q (F0 m (pc + 3) ls (.ref (ra G n) :: rest))) : W p l e R s m args below meth c H locs cells slots Q (F0 m pc ls (.int x :: rest)) := by
  refine zc_size hw hs0 hcn (fun hz => ?_)
  subst hN
  have hRA := (Z.2.2.1.2 _ _ htg).2
  refine W.anew hx hb Z.2.1 (Z.1 _ hcl) (va_AO.use hover) rfl hdg rfl hnx hbytes hcells hslots fun cA kA comp f1 f2 f3 f4 => ?_
  have hcA : cA = gC G kk0 := by
    obtain ⟨_, _, _, _, _, h9⟩ := hRA
    exact Option.some.inj (f1.symm.trans h9)
  generalize hH1 : H.push ({ cls := cA, slots := Array.replicate x.toNatClampNeg .null, vm := .none } : Cell) = H1
  have z1 : H1.size = H.size + 1 := by rw [← hH1, Array.size_push]
  have e1 : H1[H.size]? = some (arrV cA x.toNatClampNeg (fun _ => .null)) := by rw [← hH1, Array.getElem?_push_size, ← arrV_new]
  have o1 : ∀ q : Nat, q < H.size → H1[q]? = H[q]? := fun q hq => by rw [← hH1, Array.getElem?_push, if_neg (Nat.ne_of_lt hq)]
  have hr : ra G n = H.size := hz.symm
  have k1 := kk H1 (hw.more hz ?_ z1 o1)
  · rw [hr] at k1
    exact k1
  · rw [hr, hent]
    show H1[H.size]? = some (vp_cell _ _)
    rw [vp_cell_q, ← hcA]
    exact e1
theorem zc_alen (hx : p.tables.exec = Jvm.exec) (hb : c.code = cc) (Z : ZK G s args m own) (hw : HG G n g h s H locs) {o : Nat} {v : Int32} (ho : kd o = 13) (hn : o < n) (hv : Int32.ofNat (ln o) = v) (hdg : decode cc pc = .ok (.arraylength, 1))
    (kk : W p l e R s m args below meth c H locs cells slots Q (F0 m (pc + 1) ls (.int v :: rest))) : W p l e R s m args below meth c H locs cells slots Q (F0 m pc ls (.ref (ra G o) :: rest)) := by
  have ha := wl_at (G := G) (g := g) (h := h) hn
  rw [ent_S ho] at ha
  exact va_alen hx hb Z.2.2.1 hw.1 o 3 ha rfl hv hdg kk
theorem zc_iast (hx : p.tables.exec = Jvm.exec) (hb : c.code = cc) (Z : ZK G s args m own) (hw : HG G n g h s H locs) {o k : Nat} {i v : Int32} (ho : kd o = 10) (hn : o < n) (hk : i.toNatClampNeg = k) (hin : vp_in i (ln o)) (hdg : decode cc pc = .ok (.iastore, 1))
    (kk : ∀ (H1 : Heap) (locs1 : List Loc), HG G n g (hset h o k v) s H1 locs1 → W p l e R s m args below meth c H1 locs1 cells slots Q (F0 m (pc + 1) ls rest)) : W p l e R s m args below meth c H locs cells slots Q (F0 m pc ls (.int v :: .int i :: .ref (ra G o) :: rest)) := by
  subst hk
  refine va_iast hx hb Z.2.2.1 hw.1 (wl_D (G := G)) hw.2 o 0 ((wl_at hn).trans (congrArg (fun x => some (ra G o, x)) (ent_I ho (by decide)))) rfl hin hdg (fun H1 locs1 hP _ hS => kk H1 locs1 ⟨?_, hS⟩)
  rw [wl_set (g' := g) (h' := hset h o i.toNatClampNeg v) ?_ (fun j hj => ent_oth hj)] at hP
  · exact hP
  · rw [ent_I ho (by decide), hset_upd]
theorem zc_sast (hx : p.tables.exec = Jvm.exec) (hb : c.code = cc) (Z : ZK G s args m own) (hw : HG G n g h s H locs) {o k o2 : Nat} {i x : Int32} (ho : kd o = 13) (hn : o < n) (ho2 : kd o2 = 5) (hn2 : o2 < n) (hx2 : x.toNatClampNeg = o2) (hk : i.toNatClampNeg = k) (hin : vp_in i (ln o)) (hdg : decode cc pc = .ok (.aastore, 1))
    (kk : ∀ (H1 : Heap) (locs1 : List Loc), HG G n g (hset h o k x) s H1 locs1 → W p l e R s m args below meth c H1 locs1 cells slots Q (F0 m (pc + 1) ls rest)) : W p l e R s m args below meth c H locs cells slots Q (F0 m pc ls (.ref (ra G o2) :: .int i :: .ref (ra G o) :: rest)) := by
  subst hk; subst hx2
  have hx0 : ¬ x = 0 := by
    intro e0
    subst e0
    exact absurd ho2 (by decide)
  have hat : (wl G n g h)[x.toNatClampNeg]? = some (ra G x.toNatClampNeg, .inr (5, (List.range (nf 5)).map (fv G g h x.toNatClampNeg))) := by
    rw [wl_at hn2, ent, if_pos (by omega), ho2]
  refine va_astq hx hb Z.2.2.1 hw.1 (wl_D (G := G)) hw.2 o 3 x.toNatClampNeg 5 ((wl_at hn).trans (congrArg (fun x => some (ra G o, x)) (ent_S ho))) (r := (RX6, TX6, 4)) rfl hat rfl hin hdg (fun H1 locs1 hP _ hS => kk H1 locs1 ⟨?_, hS⟩)
  rw [wl_set (g' := g) (h' := hset h o i.toNatClampNeg x) ?_ (fun j hj => ent_oth hj)] at hP
  · exact hP
  · rw [ent_S ho]
    have e1 : (fun j => srf G (hset h o i.toNatClampNeg x o j)) = va_up (fun j => srf G (h o j)) i.toNatClampNeg (some (ra G x.toNatClampNeg)) := by
      funext j
      by_cases hj : j = i.toNatClampNeg
      · simp [hset, va_up, hj, srf, hx0]
      · simp [hset, va_up, hj]
    rw [e1]
/-- behind a constructor's call -/
theorem zc_go {d1 mc ms n1 : Nat} {g1 : Nat → Nat} {h1 : HP} {st0 : List Value} {a : Array Value} (hr : va_Run p l e R s m args below meth c H locs cells slots mc ms (F0 m pc ls st0) rest (QG G n1 g1 h1 a) (AA G)) (hw : HG G n g h s H locs)
    (kk : ∀ (H1 : Heap) (locs1 : List Loc), HG G n1 g1 h1 s H1 locs1 → W p l e R s m args below meth c H1 locs1 (cells + mc) (slots + ms) Q (F0 m (pc + 3) ls rest)) : W p l e R s m args below meth c H locs cells slots Q (F0 m pc ls st0) := by
  intro T hT X
  obtain ⟨v, st₀, t, T', L, h0, X', hL, e1, e2, ⟨⟨hv, hP⟩, hz, hk⟩, st⟩ := hr T hT X
  cases hv
  rw [h0] at hz hk
  have hS := hw.2
  obtain ⟨t2, a1, b1⟩ := kk T'.heap (locs ++ L) ⟨by rw [e1]; exact hP, Nat.le_trans hS.1 (by rw [e1]; exact hz), fun q h1 h2 => by rw [e1, hk q (Nat.lt_of_lt_of_le h1 hS.1) h2]; exact hS.2.1 q h1 h2, fun q hq => by
      rcases List.mem_append.mp hq with h | h
      · exact hS.2.2 q h
      · exact hL q h⟩ T' rfl X'
  exact ⟨t2, st t2 a1, b1⟩
theorem HG.WG {U : State} (Z : ZK G s args m own) (hw : HG G n g h s H locs) (hz : H.size = gB G + n) (hU : U.heap = H) (hvm : s.WarmedH U.vm) : WG G n g h U := by
  refine ⟨by rw [hU]; exact hw.1, Z.2.2.1.moved hvm.alike, ?_, Z.2.2.2.2.1.warm hvm, by rw [hU]; exact hz⟩
  rw [hU]
  exact (Z.2.2.2.1.kept hw.2.2.1).moved hvm.alike
/-- a constructor's own row of the tables -/
def CI (y : MethodName) (bytes : ByteArray) (mL : Nat) : Prop := Cond.instanceMethod y ∈ BIG ∧ Cond.initialized y.cls ∈ BIG ∧ Cond.code y bytes mL none ∈ BIG ∧ (y.cls ≠ "java/lang/invoke/MethodHandle" ∧ y.cls ≠ "java/lang/invoke/VarHandle" ∧ (parseMethodDescriptor y.desc).map (fun d => d.parameters.length) = some 0) ∧ mL ≤ 20 ∧ y.name = "<init>"
theorem zc_initN {d1 mc ms n1 index nL mL a : Nat} {g1 : Nat → Nat} {h1 : HP} {y : MethodName} {host : String} {bytes : ByteArray} (hM : MG G l y bytes mL d1 mc ms [.ref a] n g h n1 g1 h1) (F : CI y bytes mL) (hx : p.tables.exec = Jvm.exec) (hb : c.code = cc) (hml : c.maxLocals = nL) (hls : ls.size = nL) (Z : ZK G s args m own) (hw : HG G n g h s H locs) (hs0 : s.heap.size = gB G + n0) (hcn : n0 + cells = n)
    (hl : Cond.methodLinkNest own index y host ∈ lw_tbl) (hrs : (rest.map fun v => v.category).sum ≤ 8) (hR : (rmC d1 mc ms).frames + 1 ≤ R.frames ∧ 8 + (mL + 11) + (rmC d1 mc ms).locals ≤ R.locals) (hf : cells + mc ≤ R.cells ∧ slots + ms ≤ R.slots) (hdg : decode cc pc = .ok (.invokespecial index, 3))
    (kk : ∀ (H1 : Heap) (locs1 : List Loc), HG G n1 g1 h1 s H1 locs1 → W p l e R s m args below meth c H1 locs1 (cells + mc) (slots + ms) Q (F0 m (pc + 3) ls rest)) : W p l e R s m args below meth c H locs cells slots Q (F0 m pc ls (.ref a :: rest)) := by
  refine zc_size hw hs0 hcn (fun hz => ?_)
  obtain ⟨f1, f2, f3, f4, f5, f6⟩ := F
  refine zc_go (d1 := d1) (va_runIN (As := []) (rest := rest) ⟨hx, hb, hml, Z.2.1, Z.1⟩ hM ⟨va_cnB 0 Z.1 (goodIn_big ?_) rfl rfl rfl (Z.2.2.2.2.1.1 _ hl rfl) (Z.1 _ f2) f4 hR, f6, Z.1 _ f1⟩ ⟨WG.blind, fun U hU hW => ⟨rfl, hw.WG Z hz hU hW⟩⟩ rfl rfl hls rfl (lv_room hrs) hdg hf) hw kk
  intro w hm
  rcases List.mem_cons.mp hm with rfl | hm
  · exact f3
  · exact hm
theorem zc_initM {d1 mc ms n1 index nL mL a : Nat} {g1 : Nat → Nat} {h1 : HP} {y : MethodName} {bytes : ByteArray} (hM : MG G l y bytes mL d1 mc ms [.ref a] n g h n1 g1 h1) (F : CI y bytes mL) (hx : p.tables.exec = Jvm.exec) (hb : c.code = cc) (hml : c.maxLocals = nL) (hls : ls.size = nL) (Z : ZK G s args m own) (hw : HG G n g h s H locs) (hs0 : s.heap.size = gB G + n0) (hcn : n0 + cells = n)
    (hl : Cond.methodLink own index y ∈ BIG) (hrs : (rest.map fun v => v.category).sum ≤ 8) (hR : (rmC d1 mc ms).frames + 1 ≤ R.frames ∧ 8 + (mL + 11) + (rmC d1 mc ms).locals ≤ R.locals) (hf : cells + mc ≤ R.cells ∧ slots + ms ≤ R.slots) (hdg : decode cc pc = .ok (.invokespecial index, 3))
    (kk : ∀ (H1 : Heap) (locs1 : List Loc), HG G n1 g1 h1 s H1 locs1 → W p l e R s m args below meth c H1 locs1 (cells + mc) (slots + ms) Q (F0 m (pc + 3) ls rest)) : W p l e R s m args below meth c H locs cells slots Q (F0 m pc ls (.ref a :: rest)) := by
  refine zc_size hw hs0 hcn (fun hz => ?_)
  obtain ⟨f1, f2, f3, f4, f5, f6⟩ := F
  refine zc_go (d1 := d1) (va_runI (As := []) (rest := rest) ⟨hx, hb, hml, Z.2.1, Z.1⟩ hM (cwI 0 Z.1 (goodIn_big ?_) rfl rfl rfl (Z.1 _ f2) (Z.1 _ hl) (Z.1 _ f1) f6 f4 hR) ⟨WG.blind, fun U hU hW => ⟨rfl, hw.WG Z hz hU hW⟩⟩ rfl rfl hls rfl (lv_room hrs) hdg hf) hw kk
  intro w hm
  rcases List.mem_cons.mp hm with rfl | hm
  · exact f3
  · exact hm
theorem zc_ret {d mc ms : Nat} (hx : p.tables.exec = Jvm.exec) (hb : c.code = cc) (hr : meth.sig.returnType = none) (hlk : meth.locks = false) (hw : HG G n g h s H locs) (hdg : decode cc pc = .ok (.return_, 1)) : W p l e (rmC d mc ms) s m args below meth c H locs mc ms (MQ below (QG G n g h) args s mc ms (AA G)) (F0 m pc ls []) :=
  W.vret hx hb hr (fun t ht _ => ⟨⟨rfl, by rw [ht]; exact hw.1⟩, hw.2.F ht⟩) hw.2.2.2 hdg hlk
end ZC
