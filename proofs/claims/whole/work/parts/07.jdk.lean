/-! the JDK's own methods that texts and constants call -/
theorem assign_self (vm : Vm) (c : ClassId) : vm.assignable c c = true := by
  show vm.assignableAux (255 + 1) c c = true
  rw [Vm.assignableAux]
  simp only [beq_self_eq_true, Bool.true_or]
section ZJ
variable {p : Program} {l : Launch} {e : Env} {R : Room} {s : State} {m : MethodId} {args : Array Value} {below : List Frame} {meth : Method} {c : Code} {H : Heap} {locs : List Loc} {cells slots : Nat} {Q : State → Prop}
variable {cc : ByteArray} {pc : Nat} {ls : Array Slot} {rest : List Value} {G : GM} {h : HP} {own : String}
/-- a call on what stands from the start -/
theorem z_callR {d d1 n index nL mL b : Nat} {rv : Option Value} {h1 : HP} {y : MethodName} {bytes : ByteArray} {ret : Option FieldType} {As st0 : List Value} (hM : MC G l y bytes mL ret d1 (.ref b :: As) h h1 rv) (F : CV y bytes mL ret n) (hx : p.tables.exec = Jvm.exec) (hb : c.code = cc) (hml : c.maxLocals = nL) (hls : ls.size = nL) (Z : ZK G s args m own) (hw : HW G h s H locs)
    (hrecv : ∃ cell : Cell, H[b]? = some cell ∧ cell.vm.isStatics = false ∧ s.vm.findClass y.cls = some cell.cls) (hl : Cond.methodLink own index y ∈ BIG) (hst : st0 = As.reverse ++ .ref b :: rest) (hln : As.length = n) (hrs : (rest.map fun v => v.category).sum ≤ 8) (hd : d1 < d) (hdg : decode cc pc = .ok (.invokevirtual index, 3))
    (kk : ∀ (H1 : Heap) (locs1 : List Loc), HW G h1 s H1 locs1 → W p l e (rmD d) s m args below meth c H1 locs1 0 0 Q (F0 m (pc + 3) ls (rv.toList ++ rest))) : W p l e (rmD d) s m args below meth c H locs 0 0 Q (F0 m pc ls st0) := by
  obtain ⟨f1, f2, f3, f4, f5, f6⟩ := F
  refine z_go (va_runV (As := As) (rest := rest) (C := y.cls) ⟨hx, hb, hml, Z.2.1, Z.1⟩ hM (cwV n Z.1 (goodIn_big ?_) rfl rfl rfl ⟨rfl, f5⟩ (z_room hd f6)) ⟨WU.blind, hrecv, fun U hU hW => ⟨rfl, hw.WU Z hU hW⟩⟩ rfl hln hls hst (lv_room hrs) hdg ⟨Nat.le_refl _, Nat.le_refl _⟩) hw kk
  intro w hm
  simp only [wsV, List.mem_append, List.mem_cons, List.not_mem_nil, or_false] at hm
  rcases hm with (rfl | rfl | rfl | rfl) | rfl | hm
  · exact hl
  · exact f1
  · exact f2
  · exact f3
  · exact f4
  · exact hm
theorem z_callRi {d d1 n index nL mL b : Nat} {v : Value} {h1 : HP} {y : MethodName} {bytes : ByteArray} {ret : Option FieldType} {As st0 : List Value} (hM : MC G l y bytes mL ret d1 (.ref b :: As) h h1 (some v)) (F : CV y bytes mL ret n) (hx : p.tables.exec = Jvm.exec) (hb : c.code = cc) (hml : c.maxLocals = nL) (hls : ls.size = nL) (Z : ZK G s args m own) (hw : HW G h s H locs)
    (hrecv : ∃ cell : Cell, H[b]? = some cell ∧ cell.vm.isStatics = false ∧ s.vm.findClass y.cls = some cell.cls) (hl : Cond.methodLink own index y ∈ BIG) (hst : st0 = As.reverse ++ .ref b :: rest) (hln : As.length = n) (hrs : (rest.map fun v => v.category).sum ≤ 8) (hd : d1 < d) (hdg : decode cc pc = .ok (.invokevirtual index, 3))
    (kk : ∀ (H1 : Heap) (locs1 : List Loc), HW G h1 s H1 locs1 → W p l e (rmD d) s m args below meth c H1 locs1 0 0 Q (F0 m (pc + 3) ls (v :: rest))) : W p l e (rmD d) s m args below meth c H locs 0 0 Q (F0 m pc ls st0) := z_callR hM F hx hb hml hls Z hw hrecv hl hst hln hrs hd hdg kk
theorem z_getWORDS {index : Nat} (hx : p.tables.exec = Jvm.exec) (hb : c.code = cc) (Z : ZK G s args m own) (hw : HW G h s H locs) (hl : Cond.fieldLinkNest own index "LineDisc" "WORDS" "[LLineDisc$Word;" "LineDisc" ∈ lw_tbl) (hdg : decode cc pc = .ok (.getstatic index, 3))
    (kk : W p l e R s m args below meth c H locs cells slots Q (F0 m (pc + 3) ls (.ref (gA G 0) :: rest))) : W p l e R s m args below meth c H locs cells slots Q (F0 m pc ls rest) :=
  va_getsN hx hb Z.2.2.2.1.1 hw.2 Z.2.1 (va_Nw.use rfl (Z.2.2.2.2.1.1 _ hl rfl)) (fun _ q => q) hdg kk
theorem z_getSW {index : Nat} (hx : p.tables.exec = Jvm.exec) (hb : c.code = cc) (Z : ZK G s args m own) (hw : HW G h s H locs) (hl : Cond.fieldLink own index "LineDisc$1" "$SwitchMap$LineDisc$Word" "[I" ∈ BIG) (hdg : decode cc pc = .ok (.getstatic index, 3))
    (kk : W p l e R s m args below meth c H locs cells slots Q (F0 m (pc + 3) ls (.ref (gA G 1) :: rest))) : W p l e R s m args below meth c H locs cells slots Q (F0 m pc ls rest) :=
  va_gets hx hb Z.2.2.2.1.2.2.1 hw.2 Z.2.1 (Z.1 _ hl) (fun _ q => q) hdg kk
theorem z_salen (hx : p.tables.exec = Jvm.exec) (hb : c.code = cc) (Z : ZK G s args m own) (hw : HW G h s H locs) (hdg : decode cc pc = .ok (.arraylength, 1))
    (kk : W p l e R s m args below meth c H locs cells slots Q (F0 m (pc + 1) ls (.int 5 :: rest))) : W p l e R s m args below meth c H locs cells slots Q (F0 m pc ls (.ref (gA G 0) :: rest)) :=
  va_tlen hx hb Z.2.2.2.1.2.1 hw.2 rfl hdg kk
theorem z_wsald {i : Int32} (hx : p.tables.exec = Jvm.exec) (hb : c.code = cc) (Z : ZK G s args m own) (hw : HW G h s H locs) (hin : vp_in i 5) (hdg : decode cc pc = .ok (.aaload, 1))
    (kk : W p l e R s m args below meth c H locs cells slots Q (F0 m (pc + 1) ls (.ref (gA G (11 + i.toNatClampNeg)) :: rest))) : W p l e R s m args below meth c H locs cells slots Q (F0 m pc ls (.int i :: .ref (gA G 0) :: rest)) :=
  vb_tq hx hb Z.2.2.2.1.2.1 hw.2 hin rfl hdg kk
theorem z_swald {i : Int32} (hx : p.tables.exec = Jvm.exec) (hb : c.code = cc) (Z : ZK G s args m own) (hw : HW G h s H locs) (hin : vp_in i 5) (hdg : decode cc pc = .ok (.iaload, 1))
    (kk : W p l e R s m args below meth c H locs cells slots Q (F0 m (pc + 1) ls (.int (nI (i.toNatClampNeg + 1)) :: rest))) : W p l e R s m args below meth c H locs cells slots Q (F0 m pc ls (.int i :: .ref (gA G 1) :: rest)) :=
  va_ti hx hb Z.2.2.2.1.2.2.2.1 hw.2 hin rfl hdg kk
theorem z_letters {k index : Nat} (hx : p.tables.exec = Jvm.exec) (hb : c.code = cc) (Z : ZK G s args m own) (hw : HW G h s H locs) (hk : k < 5) (hl : Cond.fieldLink own index "LineDisc$Word" "letters" "Ljava/lang/String;" ∈ BIG) (hdg : decode cc pc = .ok (.getfield index, 3))
    (kk : W p l e R s m args below meth c H locs cells slots Q (F0 m (pc + 3) ls (.ref (gA G (20 + k)) :: rest))) : W p l e R s m args below meth c H locs cells slots Q (F0 m pc ls (.ref (gA G (11 + k)) :: rest)) :=
  va_getX (ad := fun i => gA G (11 + i)) (v := fun i => .ref (gA G (20 + i))) (i := k) hx hb Z.2.2.2.1.2.2.2.2.2.1 hk hw.2 Z.2.1 (Z.1 _ hl) (fun _ q => q) hdg kk
theorem z_form {k index : Nat} (hx : p.tables.exec = Jvm.exec) (hb : c.code = cc) (Z : ZK G s args m own) (hw : HW G h s H locs) (hk : k < 5) (hl : Cond.fieldLink own index "LineDisc$Word" "form" "Ljava/lang/String;" ∈ BIG) (hdg : decode cc pc = .ok (.getfield index, 3))
    (kk : W p l e R s m args below meth c H locs cells slots Q (F0 m (pc + 3) ls (.ref (gA G (20 + (5 + k))) :: rest))) : W p l e R s m args below meth c H locs cells slots Q (F0 m pc ls (.ref (gA G (11 + k)) :: rest)) :=
  va_getX (ad := fun i => gA G (11 + i)) (v := fun i => .ref (gA G (20 + (5 + i)))) (i := k) hx hb Z.2.2.2.1.2.2.2.2.2.2.1 hk hw.2 Z.2.1 (Z.1 _ hl) (fun _ q => q) hdg kk
/-- storing a word into the row of words -/
theorem z_wast (hx : p.tables.exec = Jvm.exec) (hb : c.code = cc) (Z : ZK G s args m own) (hw : HW G h s H locs) {o k : Nat} {i : Int32} (ho : kd o = 14) (hn : o < gN G) (hin : vp_in i (ln o)) (hk : k < 5) (hdg : decode cc pc = .ok (.aastore, 1))
    (kk : ∀ (H1 : Heap) (locs1 : List Loc), HW G (hset h o i.toNatClampNeg (nI (k + 1))) s H1 locs1 → W p l e R s m args below meth c H1 locs1 cells slots Q (F0 m (pc + 1) ls rest)) : W p l e R s m args below meth c H locs cells slots Q (F0 m pc ls (.ref (gA G (11 + k)) :: .int i :: .ref (ra G o) :: rest)) := by
  have hO := (Z.2.2.2.1.2.2.2.2.2.2.2.1 k hk).kept hw.2.2.1
  have hany : va_Any "LineDisc$Word" s H (gA G (11 + k)) := by
    obtain ⟨cell, g1, g2, g3, -⟩ := hO
    obtain ⟨kC, hkC, -⟩ := Vm.findClass_spec g3
    refine ⟨cell, g1, g2, ⟨kC, hkC⟩, fun comp hc => ?_⟩
    have e1 : comp = cell.cls := Option.some.inj (hc.symm.trans g3)
    rw [e1]
    exact assign_self _ _
  refine va_astqM hx hb Z.2.2.1 hw.1 (wl_D (G := G)) hw.2 o 4 ((wl_at hn).trans (congrArg (fun x => some (ra G o, x)) (ent_W ho))) rfl hany hin hdg (fun H1 locs1 hP _ hS => kk H1 locs1 ⟨?_, hS⟩)
  rw [wl_set (g' := gF) (h' := hset h o i.toNatClampNeg (nI (k + 1))) ?_ (fun j hj => ent_oth hj)] at hP
  · exact hP
  · rw [ent_W ho]
    have h0 : ¬ nI (k + 1) = 0 := nI_ne0 (by omega) (by omega)
    have e2 : 10 + (k + 1) = 11 + k := by omega
    have e1 : (fun j => wrf G (hset h o i.toNatClampNeg (nI (k + 1)) o j)) = va_up (fun j => wrf G (h o j)) i.toNatClampNeg (some (gA G (11 + k))) := by
      funext j
      by_cases hj : j = i.toNatClampNeg
      · simp [hset, va_up, hj, wrf, h0, nI_clamp (show k + 1 < 2 ^ 31 by omega), e2]
      · simp [hset, va_up, hj]
    rw [e1]
end ZJ
set_option maxHeartbeats 4000000 in
set_option maxRecDepth 100000 in
theorem t_Jord (G : GM) (l : Launch) (k : Nat) (hk : k < 5) (h : HP) : MC G l yJx29ce0_ordinal_8abf5 cJx29ce0_ordinal_8abf5 1 (some .int) 0 [.ref (gA G (11 + k))] h h (some (.int (nI k))) := by
  refine z_start (by decide) (Nat.le_of_ble_eq_true rfl) ?_
  intro p e s m args below meth c ls hx hb hr hlk hml Z hw hl
  have hl : lv_has ls 1 [(0, .ref (gA G (11 + k)))] := hl
  refine lv_aload_n hx hb dJx29ce0_ordinal_8abf5_0 rfl (lv_at hl 0 rfl) ?_
  refine va_getX (ad := fun i => gA G (11 + i)) (v := fun i => .int (nI i)) (i := k) hx hb Z.2.2.2.1.2.2.2.2.1 hk hw.2 Z.2.1 (Z.1 _ jw_f_ord) (fun _ q => q) dJx29ce0_ordinal_8abf5_1 ?_
  exact z_iret hx hb hr hlk hw dJx29ce0_ordinal_8abf5_4
set_option maxHeartbeats 4000000 in
set_option maxRecDepth 100000 in
theorem t_Jcoder (G : GM) (l : Launch) (i : Nat) (hi : i < 10) (h : HP) : MC G l yJ0_coder_7d493 cJ0_coder_7d493 1 (some .byte) 0 [.ref (gA G (20 + i))] h h (some (.int 0)) := by
  refine z_start (by decide) (Nat.le_of_ble_eq_true rfl) ?_
  intro p e s m args below meth c ls hx hb hr hlk hml Z hw hl
  have hl : lv_has ls 1 [(0, .ref (gA G (20 + i)))] := hl
  have hS := Z.2.2.2.1.2.2.2.2.2.2.2.2
  refine va_gets hx hb hS.2.1 hw.2 Z.2.1 (Z.1 _ jw_f_compact) (fun _ q => q) dJ0_coder_7d493_0 ?_
  refine lv_if_eq (tgt := 13) hx hb dJ0_coder_7d493_3 (by decide) (fun c3 => absurd c3 (by decide)) (fun c3 => ?_)
  refine lv_aload_n hx hb dJ0_coder_7d493_6 rfl (lv_at hl 0 rfl) ?_
  refine vk_getf hx hb (hS.1.1 i hi).2.1 hw.2 Z.2.1 (Z.1 _ jw_f_coder) (fun _ q => q) dJ0_coder_7d493_7 ?_
  refine lv_goto (tgt := 14) hx hb dJ0_coder_7d493_10 (by decide) ?_
  exact z_zret hx hb hr rfl hlk hw dJ0_coder_7d493_14
set_option maxHeartbeats 4000000 in
set_option maxRecDepth 100000 in
theorem t_Jlat (G : GM) (l : Launch) (i : Nat) (hi : i < 10) (h : HP) : MC G l yJ0_isLatin1_aae02 cJ0_isLatin1_aae02 1 (some .boolean) 0 [.ref (gA G (20 + i))] h h (some (.int 1)) := by
  refine z_start (by decide) (Nat.le_of_ble_eq_true rfl) ?_
  intro p e s m args below meth c ls hx hb hr hlk hml Z hw hl
  have hl : lv_has ls 1 [(0, .ref (gA G (20 + i)))] := hl
  have hS := Z.2.2.2.1.2.2.2.2.2.2.2.2
  refine va_gets hx hb hS.2.1 hw.2 Z.2.1 (Z.1 _ jw_f_compact) (fun _ q => q) dJ0_isLatin1_aae02_0 ?_
  refine lv_if_eq (tgt := 17) hx hb dJ0_isLatin1_aae02_3 (by decide) (fun c3 => absurd c3 (by decide)) (fun c3 => ?_)
  refine lv_aload_n hx hb dJ0_isLatin1_aae02_6 rfl (lv_at hl 0 rfl) ?_
  refine vk_getf hx hb (hS.1.1 i hi).2.1 hw.2 Z.2.1 (Z.1 _ jw_f_coder) (fun _ q => q) dJ0_isLatin1_aae02_7 ?_
  refine lv_if_ne (tgt := 17) hx hb dJ0_isLatin1_aae02_10 (by decide) (fun c10 => absurd rfl c10) (fun c10 => ?_)
  refine lv_iconst (v := (1 : Int32)) hx hb dJ0_isLatin1_aae02_13 (by decide) ?_
  refine lv_goto (tgt := 18) hx hb dJ0_isLatin1_aae02_14 (by decide) ?_
  exact z_zret hx hb hr rfl hlk hw dJ0_isLatin1_aae02_18
theorem len_ok : ∀ i, i < 10 → lenL.getD i 0 < 2 ^ 31 := by decide +kernel
set_option maxHeartbeats 4000000 in
set_option maxRecDepth 100000 in
theorem t_Jlen (G : GM) (l : Launch) (i : Nat) (hi : i < 10) (h : HP) : MC G l yJ0_length_8abf5 cJ0_length_8abf5 1 (some .int) 1 [.ref (gA G (20 + i))] h h (some (.int (slen i))) := by
  refine z_start (by decide) (Nat.le_of_ble_eq_true rfl) ?_
  intro p e s m args below meth c ls hx hb hr hlk hml Z hw hl
  have hl : lv_has ls 1 [(0, .ref (gA G (20 + i)))] := hl
  have hS := Z.2.2.2.1.2.2.2.2.2.2.2.2
  refine lv_aload_n hx hb dJ0_length_8abf5_0 rfl (lv_at hl 0 rfl) ?_
  refine vk_getf hx hb (hS.1.1 i hi).2.2.1 hw.2 Z.2.1 (Z.1 _ jw_f_value) (fun _ q => q) dJ0_length_8abf5_1 ?_
  refine va_tlen (v := slen i) hx hb (hS.1.1 i hi).2.2.2 hw.2 rfl dJ0_length_8abf5_4 ?_
  refine lv_aload_n hx hb dJ0_length_8abf5_5 rfl (lv_at hl 0 rfl) ?_
  refine z_callRi (b := gA G (20 + i)) (As := []) (rest := [.int (slen i)]) (t_Jcoder G l i hi h) cv_Jcoder hx hb hml hl.1 Z hw (vk_recv (adK := fun i => gA G (20 + i)) (i := i) hS.1 hi hw.2) jw_l_coder rfl rfl (Nat.le_of_ble_eq_true rfl) (by decide) dJ0_length_8abf5_6 (fun H locs hw => ?_)
  refine lv_ishr hx hb dJ0_length_8abf5_9 ?_
  have e0 : slen i >>> ((0 : Int32) &&& 31) = slen i := by
    unfold slen
    rw [pk_shrN (len_ok i hi) ((0 : Int32) &&& 31) 0 (by decide)]
    simp
  refine z_top e0 ?_
  exact z_iret hx hb hr hlk hw dJ0_length_8abf5_10
set_option maxHeartbeats 4000000 in
set_option maxRecDepth 100000 in
theorem t_Jpre (G : GM) (l : Launch) (x n : Int32) (v : Value) (hv : v.category = 1) (h0 : ¬ x < 0) (h1 : x < n) (h : HP) : MC G l yJ3_checkIndex_8e157 cJ3_checkIndex_8e157 3 (some .int) 0 [.int x, .int n, v] h h (some (.int x)) := by
  refine z_start (by decide) (by simp [lg_sl, hv, show (Value.int x).category = 1 from rfl, show (Value.int n).category = 1 from rfl]) ?_
  intro p e s m args below meth c ls hx hb hr hlk hml Z hw hl
  have hl : lv_has ls 3 [(0, .int x), (1, .int n), (2, v)] := hl
  refine lv_iload_n hx hb dJ3_checkIndex_8e157_0 rfl (lv_at hl 0 rfl) ?_
  refine lv_if_lt (tgt := 9) hx hb dJ3_checkIndex_8e157_1 (by decide) (fun c1 => absurd c1 h0) (fun c1 => ?_)
  refine lv_iload_n hx hb dJ3_checkIndex_8e157_4 rfl (lv_at hl 0 rfl) ?_
  refine lv_iload_n hx hb dJ3_checkIndex_8e157_5 rfl (lv_at hl 1 rfl) ?_
  refine lv_icmp_lt (tgt := 16) hx hb dJ3_checkIndex_8e157_6 (by decide) (fun c6 => ?_) (fun c6 => absurd h1 c6)
  refine lv_iload_n hx hb dJ3_checkIndex_8e157_16 rfl (lv_at hl 0 rfl) ?_
  exact z_iret hx hb hr hlk hw dJ3_checkIndex_8e157_17
set_option maxHeartbeats 4000000 in
set_option maxRecDepth 100000 in
theorem t_Jchk (G : GM) (l : Launch) (x n : Int32) (h0 : ¬ x < 0) (h1 : x < n) (h : HP) : MC G l yJ0_checkIndex_df160 cJ0_checkIndex_df160 2 none 1 [.int x, .int n] h h none := by
  refine z_start (by decide) (Nat.le_of_ble_eq_true rfl) ?_
  intro p e s m args below meth c ls hx hb hr hlk hml Z hw hl
  have hl : lv_has ls 2 [(0, .int x), (1, .int n)] := hl
  have hS := Z.2.2.2.1.2.2.2.2.2.2.2.2
  refine lv_iload_n hx hb dJ0_checkIndex_df160_0 rfl (lv_at hl 0 rfl) ?_
  refine lv_iload_n hx hb dJ0_checkIndex_df160_1 rfl (lv_at hl 1 rfl) ?_
  have key : ∀ v : Value, v.category = 1 → va_Z "jdk/internal/util/Preconditions" "SIOOBE_FORMATTER" "Ljava/util/function/BiFunction;" v (AA G) s s.heap → WZ p l e 1 s m args below meth c G none h s.heap [] (F0 m 2 ls [.int n, .int x]) := by
    intro v hv hZ
    refine va_gets hx hb hZ hw.2 Z.2.1 (Z.1 _ jw_f_sio) (fun _ q => q) dJ0_checkIndex_df160_2 ?_
    refine z_callSi (As := [.int x, .int n, v]) (rest := []) (t_Jpre G l x n v hv h0 h1 h) cs_Jpre hx hb hml hl.1 Z hw jw_l_pre rfl rfl (Nat.le_of_ble_eq_true rfl) (by decide) dJ0_checkIndex_df160_5 (fun H locs hw => ?_)
    refine lv_pop hx hb dJ0_checkIndex_df160_8 rfl ?_
    exact z_vret hx hb hr hlk hw dJ0_checkIndex_df160_9
  rcases hS.2.2 with hZ | ⟨t, hZ⟩
  · exact key _ rfl hZ
  · exact key _ rfl hZ
theorem chr_ok : ∀ i, i < 10 → ∀ j, j < lenL.getD i 0 → jchar ((strL.getD i []).getD j 0 &&& 255) = (strL.getD i []).getD j 0 ∧ narrow .char (.int ((strL.getD i []).getD j 0)) = .int ((strL.getD i []).getD j 0) := by decide +kernel
set_option maxHeartbeats 4000000 in
set_option maxRecDepth 100000 in
theorem t_Jl1 (G : GM) (l : Launch) (i : Nat) (hi : i < 10) (x : Int32) (hin : inB x (lenL.getD i 0) = true) (h : HP) : MC G l yJ1_charAt_3b067 cJ1_charAt_3b067 2 (some .char) 2 [.ref (gA G (30 + i)), .int x] h h (some (.int (schr i x))) := by
  refine z_start (by decide) (Nat.le_of_ble_eq_true rfl) ?_
  intro p e s m args below meth c ls hx hb hr hlk hml Z hw hl
  have hl : lv_has ls 2 [(0, .ref (gA G (30 + i))), (1, .int x)] := hl
  have hS := Z.2.2.2.1.2.2.2.2.2.2.2.2
  have hv := inB_vp hin
  have h0 : ¬ x < 0 := fun q => hv (Or.inl q)
  have h1 : x < nI (lenL.getD i 0) := by
    have h2 := vp_in_iff.mp hv
    rw [Int32.lt_iff_toInt_lt, nI_toInt (len_ok i hi)]
    exact h2.2
  have hc := chr_ok i hi _ (inB_lt hin)
  refine lv_iload_n hx hb dJ1_charAt_3b067_0 rfl (lv_at hl 1 rfl) ?_
  refine lv_aload_n hx hb dJ1_charAt_3b067_1 rfl (lv_at hl 0 rfl) ?_
  refine va_tlen (v := nI (lenL.getD i 0)) hx hb (hS.1.1 i hi).2.2.2 hw.2 rfl dJ1_charAt_3b067_2 ?_
  refine z_callSv (As := [.int x, .int (nI (lenL.getD i 0))]) (rest := []) (t_Jchk G l x _ h0 h1 h) cs_Jchk hx hb hml hl.1 Z hw jw_l_chk rfl rfl (Nat.le_of_ble_eq_true rfl) (by decide) dJ1_charAt_3b067_3 (fun H locs hw => ?_)
  refine lv_aload_n hx hb dJ1_charAt_3b067_6 rfl (lv_at hl 0 rfl) ?_
  refine lv_iload_n hx hb dJ1_charAt_3b067_7 rfl (lv_at hl 1 rfl) ?_
  refine va_tb hx hb (hS.1.1 i hi).2.2.2 hw.2 hv rfl dJ1_charAt_3b067_8 ?_
  refine lv_sipush (v := (255 : Int32)) hx hb dJ1_charAt_3b067_9 (by decide) ?_
  refine lv_iand hx hb dJ1_charAt_3b067_12 ?_
  refine lv_i2c (v := jchar ((strL.getD i []).getD x.toNatClampNeg 0 &&& 255)) hx hb dJ1_charAt_3b067_13 rfl ?_
  refine z_top hc.1 ?_
  exact z_zret hx hb hr hc.2 hlk hw dJ1_charAt_3b067_14
set_option maxHeartbeats 4000000 in
set_option maxRecDepth 100000 in
theorem t_Jchar (G : GM) (l : Launch) (i : Nat) (hi : i < 10) (x : Int32) (hin : inB x (lenL.getD i 0) = true) (h : HP) : MC G l yJ0_charAt_5068e cJ0_charAt_5068e 2 (some .char) 3 [.ref (gA G (20 + i)), .int x] h h (some (.int (schr i x))) := by
  refine z_start (by decide) (Nat.le_of_ble_eq_true rfl) ?_
  intro p e s m args below meth c ls hx hb hr hlk hml Z hw hl
  have hl : lv_has ls 2 [(0, .ref (gA G (20 + i))), (1, .int x)] := hl
  have hS := Z.2.2.2.1.2.2.2.2.2.2.2.2
  have hc := chr_ok i hi _ (inB_lt hin)
  refine lv_aload_n hx hb dJ0_charAt_5068e_0 rfl (lv_at hl 0 rfl) ?_
  refine z_callRi (b := gA G (20 + i)) (As := []) (rest := []) (t_Jlat G l i hi h) cv_JisLatin1 hx hb hml hl.1 Z hw (vk_recv (adK := fun i => gA G (20 + i)) (i := i) hS.1 hi hw.2) jw_l_lat rfl rfl (Nat.le_of_ble_eq_true rfl) (by decide) dJ0_charAt_5068e_1 (fun H locs hw => ?_)
  refine lv_if_eq (tgt := 16) hx hb dJ0_charAt_5068e_4 (by decide) (fun c4 => absurd c4 (by decide)) (fun c4 => ?_)
  refine lv_aload_n hx hb dJ0_charAt_5068e_7 rfl (lv_at hl 0 rfl) ?_
  refine vk_getf hx hb (hS.1.1 i hi).2.2.1 hw.2 Z.2.1 (Z.1 _ jw_f_value) (fun _ q => q) dJ0_charAt_5068e_8 ?_
  refine lv_iload_n hx hb dJ0_charAt_5068e_11 rfl (lv_at hl 1 rfl) ?_
  refine z_callSi (As := [.ref (gA G (30 + i)), .int x]) (rest := []) (t_Jl1 G l i hi x hin h) cs_Jl1 hx hb hml hl.1 Z hw jw_l_l1 rfl rfl (Nat.le_of_ble_eq_true rfl) (by decide) dJ0_charAt_5068e_12 (fun H locs hw => ?_)
  exact z_zret hx hb hr hc.2 hlk hw dJ0_charAt_5068e_15
section ZT
variable {p : Program} {e : Env} {s : State} {m : MethodId} {args : Array Value} {below : List Frame} {meth : Method} {c : Code} {H : Heap} {locs : List Loc} {Q : State → Prop}
variable {cc : ByteArray} {pc : Nat} {ls : Array Slot} {rest : List Value} {h : HP} {own : String}
theorem z_strlen (G : GM) (l : Launch) {d nL sid index : Nat} (hx : p.tables.exec = Jvm.exec) (hb : c.code = cc) (hml : c.maxLocals = nL) (hls : ls.size = nL) (Z : ZK G s args m own) (hw : HW G h s H locs) (hi : sid < 10) (hl : Cond.methodLink own index yJ0_length_8abf5 ∈ BIG) (hrs : (rest.map fun v => v.category).sum ≤ 8) (hd : 1 < d) (hdg : decode cc pc = .ok (.invokevirtual index, 3))
    (kk : ∀ (H1 : Heap) (locs1 : List Loc), HW G h s H1 locs1 → W p l e (rmD d) s m args below meth c H1 locs1 0 0 Q (F0 m (pc + 3) ls (.int (slen sid) :: rest))) : W p l e (rmD d) s m args below meth c H locs 0 0 Q (F0 m pc ls (.ref (gA G (20 + sid)) :: rest)) :=
  z_callRi (As := []) (rest := rest) (t_Jlen G l sid hi h) cv_Jlength hx hb hml hls Z hw (vk_recv (adK := fun i => gA G (20 + i)) (i := sid) Z.2.2.2.1.2.2.2.2.2.2.2.2.1 hi hw.2) hl rfl rfl hrs hd hdg kk
theorem z_charAt (G : GM) (l : Launch) {d nL sid index : Nat} {x : Int32} (hx : p.tables.exec = Jvm.exec) (hb : c.code = cc) (hml : c.maxLocals = nL) (hls : ls.size = nL) (Z : ZK G s args m own) (hw : HW G h s H locs) (hi : sid < 10) (hin : inB x (lenL.getD sid 0) = true) (hl : Cond.methodLink own index yJ0_charAt_5068e ∈ BIG) (hrs : (rest.map fun v => v.category).sum ≤ 8) (hd : 3 < d) (hdg : decode cc pc = .ok (.invokevirtual index, 3))
    (kk : ∀ (H1 : Heap) (locs1 : List Loc), HW G h s H1 locs1 → W p l e (rmD d) s m args below meth c H1 locs1 0 0 Q (F0 m (pc + 3) ls (.int (schr sid x) :: rest))) : W p l e (rmD d) s m args below meth c H locs 0 0 Q (F0 m pc ls (.int x :: .ref (gA G (20 + sid)) :: rest)) :=
  z_callRi (As := [.int x]) (rest := rest) (t_Jchar G l sid hi x hin h) cv_JcharAt hx hb hml hls Z hw (vk_recv (adK := fun i => gA G (20 + i)) (i := sid) Z.2.2.2.1.2.2.2.2.2.2.2.2.1 hi hw.2) hl rfl rfl hrs hd hdg kk
theorem z_ordinal (G : GM) (l : Launch) {d nL k index : Nat} (hx : p.tables.exec = Jvm.exec) (hb : c.code = cc) (hml : c.maxLocals = nL) (hls : ls.size = nL) (Z : ZK G s args m own) (hw : HW G h s H locs) (hk : k < 5) (hl : Cond.methodLink own index ⟨"LineDisc$Word", "ordinal", "()I"⟩ ∈ BIG) (hrs : (rest.map fun v => v.category).sum ≤ 8) (hd : 0 < d) (hdg : decode cc pc = .ok (.invokevirtual index, 3))
    (kk : ∀ (H1 : Heap) (locs1 : List Loc), HW G h s H1 locs1 → W p l e (rmD d) s m args below meth c H1 locs1 0 0 Q (F0 m (pc + 3) ls (.int (nI k) :: rest))) : W p l e (rmD d) s m args below meth c H locs 0 0 Q (F0 m pc ls (.ref (gA G (11 + k)) :: rest)) := by
  have hO := (Z.2.2.2.1.2.2.2.2.2.2.2.1 k hk).kept hw.2.2.1
  refine z_go (rv := some (.int (nI k))) (va_runU (As := []) (rest := rest) (C := "LineDisc$Word") ⟨hx, hb, hml, Z.2.1, Z.1⟩ (t_Jord G l k hk h) (va_cwU (owner := "java/lang/Enum") (x := ⟨"LineDisc$Word", "ordinal", "()I"⟩) 0 Z.1 (goodIn_big ?_) rfl rfl rfl rfl (by decide +kernel) (z_room hd (by decide))) ⟨WU.blind, ?_, fun U hU hW => ⟨rfl, hw.WU Z hU hW⟩⟩ rfl rfl hls rfl (lv_room hrs) hdg ⟨Nat.le_refl _, Nat.le_refl _⟩) hw kk
  · intro w hm
    simp only [va_wsU, List.mem_append, List.mem_cons, List.not_mem_nil, or_false] at hm
    rcases hm with (rfl | rfl | rfl | rfl | rfl) | rfl | hm
    · exact hl
    · exact jw_o_same
    · exact jw_o_sel
    · exact jw_o_inst
    · exact jw_initE
    · exact jw_o_code
    · exact hm
  · obtain ⟨cell, g1, g2, g3, -⟩ := hO
    exact ⟨cell, g1, g2, g3⟩
end ZT
