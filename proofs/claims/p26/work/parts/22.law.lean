/-! the law's loop (by program) -/
theorem wd436 : Cond.methodLink RL 74 yL_cell ∈ BIG := big_in (List.mem_of_getElem? (i := 436) (by decide +kernel)) (by decide +kernel)
theorem wd437 : Cond.static yL_cell ∈ BIG := big_in (List.mem_of_getElem? (i := 437) (by decide +kernel)) (by decide +kernel)
set_option maxRecDepth 1000000 in
set_option maxHeartbeats 4000000 in
theorem wd438 : Cond.code yL_cell cL_cell 2 (some .int) ∈ BIG := big_in (List.mem_of_getElem? (i := 438) rfl) (by decide +kernel)
theorem wd443 : Cond.methodLink RL 78 yL_does ∈ BIG := big_in (List.mem_of_getElem? (i := 443) (by decide +kernel)) (by decide +kernel)
theorem wd444 : Cond.static yL_does ∈ BIG := big_in (List.mem_of_getElem? (i := 444) (by decide +kernel)) (by decide +kernel)
set_option maxRecDepth 1000000 in
set_option maxHeartbeats 4000000 in
theorem wd445 : Cond.code yL_does cL_does 8 (some .int) ∈ BIG := big_in (List.mem_of_getElem? (i := 445) rfl) (by decide +kernel)
theorem wd568 : Cond.methodLink RL 86 yL_isFrameSo ∈ BIG := big_in (List.mem_of_getElem? (i := 568) (by decide +kernel)) (by decide +kernel)
theorem wd569 : Cond.static yL_isFrameSo ∈ BIG := big_in (List.mem_of_getElem? (i := 569) (by decide +kernel)) (by decide +kernel)
set_option maxRecDepth 1000000 in
set_option maxHeartbeats 4000000 in
theorem wd570 : Cond.code yL_isFrameSo cL_isFrameSo 21 (some .boolean) ∈ BIG := big_in (List.mem_of_getElem? (i := 570) rfl) (by decide +kernel)
theorem wd630 : Cond.methodLink RL 82 yL_isWholeSo ∈ BIG := big_in (List.mem_of_getElem? (i := 630) (by decide +kernel)) (by decide +kernel)
theorem wd631 : Cond.static yL_isWholeSo ∈ BIG := big_in (List.mem_of_getElem? (i := 631) (by decide +kernel)) (by decide +kernel)
set_option maxRecDepth 1000000 in
set_option maxHeartbeats 4000000 in
theorem wd632 : Cond.code yL_isWholeSo cL_isWholeSo 6 (some .boolean) ∈ BIG := big_in (List.mem_of_getElem? (i := 632) rfl) (by decide +kernel)
theorem wd641 : Cond.methodLink RL 90 yL_isGapSo ∈ BIG := big_in (List.mem_of_getElem? (i := 641) (by decide +kernel)) (by decide +kernel)
theorem wd642 : Cond.static yL_isGapSo ∈ BIG := big_in (List.mem_of_getElem? (i := 642) (by decide +kernel)) (by decide +kernel)
set_option maxRecDepth 1000000 in
set_option maxHeartbeats 4000000 in
theorem wd643 : Cond.code yL_isGapSo cL_isGapSo 7 (some .boolean) ∈ BIG := big_in (List.mem_of_getElem? (i := 643) rfl) (by decide +kernel)
theorem wd648 : Cond.methodLink RL 93 yL_isSeekSo ∈ BIG := big_in (List.mem_of_getElem? (i := 648) (by decide +kernel)) (by decide +kernel)
theorem wd649 : Cond.static yL_isSeekSo ∈ BIG := big_in (List.mem_of_getElem? (i := 649) (by decide +kernel)) (by decide +kernel)
set_option maxRecDepth 1000000 in
set_option maxHeartbeats 4000000 in
theorem wd650 : Cond.code yL_isSeekSo cL_isSeekSo 14 (some .boolean) ∈ BIG := big_in (List.mem_of_getElem? (i := 650) rfl) (by decide +kernel)
theorem wd672 : Cond.methodLink RL 97 yL_isPlaySo ∈ BIG := big_in (List.mem_of_getElem? (i := 672) (by decide +kernel)) (by decide +kernel)
theorem wd673 : Cond.static yL_isPlaySo ∈ BIG := big_in (List.mem_of_getElem? (i := 673) (by decide +kernel)) (by decide +kernel)
set_option maxRecDepth 1000000 in
set_option maxHeartbeats 4000000 in
theorem wd674 : Cond.code yL_isPlaySo cL_isPlaySo 10 (some .boolean) ∈ BIG := big_in (List.mem_of_getElem? (i := 674) rfl) (by decide +kernel)
theorem wd675 : Cond.methodLink RL 100 yL_isPolishSo ∈ BIG := big_in (List.mem_of_getElem? (i := 675) (by decide +kernel)) (by decide +kernel)
theorem wd676 : Cond.static yL_isPolishSo ∈ BIG := big_in (List.mem_of_getElem? (i := 676) (by decide +kernel)) (by decide +kernel)
set_option maxRecDepth 1000000 in
set_option maxHeartbeats 4000000 in
theorem wd677 : Cond.code yL_isPolishSo cL_isPolishSo 10 (some .boolean) ∈ BIG := big_in (List.mem_of_getElem? (i := 677) rfl) (by decide +kernel)
theorem cs_L_cell : CS yL_cell cL_cell 2 (some .int) 2 := ⟨wd437, wd23, wd438, by decide +kernel, by decide⟩
theorem cs_L_does : CS yL_does cL_does 8 (some .int) 2 := ⟨wd444, wd23, wd445, by decide +kernel, by decide⟩
theorem cs_L_isFrameSo : CS yL_isFrameSo cL_isFrameSo 21 (some .boolean) 2 := ⟨wd569, wd23, wd570, by decide +kernel, by decide⟩
theorem cs_L_isGapSo : CS yL_isGapSo cL_isGapSo 7 (some .boolean) 1 := ⟨wd642, wd23, wd643, by decide +kernel, by decide⟩
theorem cs_L_isPlaySo : CS yL_isPlaySo cL_isPlaySo 10 (some .boolean) 3 := ⟨wd673, wd23, wd674, by decide +kernel, by decide⟩
theorem cs_L_isPolishSo : CS yL_isPolishSo cL_isPolishSo 10 (some .boolean) 1 := ⟨wd676, wd23, wd677, by decide +kernel, by decide⟩
theorem cs_L_isSeekSo : CS yL_isSeekSo cL_isSeekSo 14 (some .boolean) 3 := ⟨wd649, wd23, wd650, by decide +kernel, by decide⟩
theorem cs_L_isWholeSo : CS yL_isWholeSo cL_isWholeSo 6 (some .boolean) 1 := ⟨wd631, wd23, wd632, by decide +kernel, by decide⟩
section ZL
variable {p : Program} {l : Launch} {e : Env} {s : State} {m : MethodId} {args : Array Value} {below : List Frame} {meth : Method} {c : Code} {H : Heap} {locs : List Loc} {Q : State → Prop}
variable {cc : ByteArray} {pc : Nat} {ls : Array Slot} {rest : List Value} {G : GM} {h : HP} {own : String}
theorem zl_go {rv : Option Value} {h1 : HP} {st0 : List Value} {a : Array Value} (hr : va_Run p l e room_1 s m args below meth c H locs 600000 7302250 0 0 (F0 m pc ls st0) rest (QM G rv h1 a) (AA G)) (hw : HW G h s H locs)
    (kk : ∀ (H1 : Heap) (locs1 : List Loc), HW G h1 s H1 locs1 → W p l e room_1 s m args below meth c H1 locs1 600000 7302250 Q (F0 m (pc + 3) ls (rv.toList ++ rest))) : W p l e room_1 s m args below meth c H locs 600000 7302250 Q (F0 m pc ls st0) := by
  intro T hT X
  obtain ⟨v, st₀, t, T', L, h0, X', hL, e1, e2, ⟨⟨hv, hP⟩, hz, hk⟩, st⟩ := hr T hT X
  cases hv
  rw [h0] at hz hk
  have hS := hw.2
  obtain ⟨t2, a1, b1⟩ := kk T'.heap (locs ++ L) ⟨by rw [e1]; exact hP, Nat.le_trans hS.1 (by rw [e1]; exact hz), fun q h1 h2 => by rw [e1, hk q (Nat.lt_of_lt_of_le h1 hS.1) h2]; exact hS.2.1 q h1 h2, fun q hq => by
      rcases List.mem_append.mp hq with h | h
      · exact hS.2.2 q h
      · exact hL q h⟩ T' rfl X'
  exact ⟨t2, st t2 a1, b1⟩
theorem zl_callVi {d1 n index nL mL o ci : Nat} {v : Value} {h1 : HP} {y : MethodName} {bytes : ByteArray} {ret : Option FieldType} {As st0 : List Value} {q : vw_C} (hM : MC G l y bytes mL ret d1 (.ref (ra G o) :: As) h h1 (some v)) (F : CV y bytes mL ret n) (hx : p.tables.exec = Jvm.exec) (hb : c.code = cc) (hml : c.maxLocals = nL) (hls : ls.size = nL) (Z : ZK G s args m own) (hw : HW G h s H locs)
    (ho : kd o = ci) (hci : ci < 10) (hn : o < gN G) (hc : vwCl[ci]? = some q) (hqc : q.1 = y.cls) (hl : Cond.methodLink own index y ∈ BIG) (hst : st0 = As.reverse ++ .ref (ra G o) :: rest) (hln : As.length = n) (hrs : (rest.map fun v => v.category).sum ≤ 8) (hd : d1 < 9) (hdg : decode cc pc = .ok (.invokevirtual index, 3))
    (kk : ∀ (H1 : Heap) (locs1 : List Loc), HW G h1 s H1 locs1 → W p l e room_1 s m args below meth c H1 locs1 600000 7302250 Q (F0 m (pc + 3) ls (v :: rest))) : W p l e room_1 s m args below meth c H locs 600000 7302250 Q (F0 m pc ls st0) := by
  obtain ⟨f1, f2, f3, f4, f5, f6⟩ := F
  subst ho
  have hat : (wl G (gN G) gF h)[o]? = some (ra G o, .inr (kd o, (List.range (nf (kd o))).map (fv G gF h o))) := by rw [wl_at hn, ent, if_pos hci]
  have hR : (rmD d1).frames + 1 ≤ room_1.frames ∧ 8 + (mL + 11) + (rmD d1).locals ≤ room_1.locals := by
    refine ⟨?_, ?_⟩
    · show d1 + 1 + 1 ≤ 10
      omega
    · show 8 + (mL + 11) + 40 * (d1 + 1) ≤ 406
      omega
  refine zl_go (va_runV (As := As) (rest := rest) (C := y.cls) ⟨hx, hb, hml, Z.2.1, Z.1⟩ hM (cwV n Z.1 (goodIn_big ?_) rfl rfl rfl ⟨rfl, f5⟩ hR) ⟨WU.blind, ?_, fun U hU hW => ⟨rfl, hw.WU Z hU hW⟩⟩ rfl hln hls hst (lv_room hrs) hdg ⟨Nat.le_of_ble_eq_true rfl, Nat.le_of_ble_eq_true rfl⟩) hw kk
  · intro w hm
    simp only [wsV, List.mem_append, List.mem_cons, List.not_mem_nil, or_false] at hm
    rcases hm with (rfl | rfl | rfl | rfl) | rfl | hm
    · exact hl
    · exact f1
    · exact f2
    · exact f3
    · exact f4
    · exact hm
  · rw [← hqc]
    exact va_recv Z.2.2.1 hw.1 hc hat
theorem zl_callSi {d1 n index nL mL : Nat} {v : Value} {h1 : HP} {y : MethodName} {bytes : ByteArray} {ret : Option FieldType} {As st0 : List Value} (hM : MC G l y bytes mL ret d1 As h h1 (some v)) (F : CS y bytes mL ret n) (hx : p.tables.exec = Jvm.exec) (hb : c.code = cc) (hml : c.maxLocals = nL) (hls : ls.size = nL) (Z : ZK G s args m own) (hw : HW G h s H locs)
    (hl : Cond.methodLink own index y ∈ BIG) (hst : st0 = As.reverse ++ rest) (hln : As.length = n) (hrs : (rest.map fun v => v.category).sum ≤ 8) (hd : d1 < 9) (hdg : decode cc pc = .ok (.invokestatic index, 3))
    (kk : ∀ (H1 : Heap) (locs1 : List Loc), HW G h1 s H1 locs1 → W p l e room_1 s m args below meth c H1 locs1 600000 7302250 Q (F0 m (pc + 3) ls (v :: rest))) : W p l e room_1 s m args below meth c H locs 600000 7302250 Q (F0 m pc ls st0) := by
  obtain ⟨f1, f3, f4, f5, f6⟩ := F
  have hR : (rmD d1).frames + 1 ≤ room_1.frames ∧ 8 + (mL + 11) + (rmD d1).locals ≤ room_1.locals := by
    refine ⟨?_, ?_⟩
    · show d1 + 1 + 1 ≤ 10
      omega
    · show 8 + (mL + 11) + 40 * (d1 + 1) ≤ 406
      omega
  refine zl_go (va_runS (As := As) (rest := rest) ⟨hx, hb, hml, Z.2.1, Z.1⟩ hM (va_cwS n Z.1 (goodIn_big ?_) rfl rfl rfl f5 hR) ⟨WU.blind, fun U hU hW => ⟨rfl, hw.WU Z hU hW⟩⟩ rfl hln hls hst (lv_room hrs) hdg ⟨Nat.le_of_ble_eq_true rfl, Nat.le_of_ble_eq_true rfl⟩) hw kk
  intro w hm
  simp only [va_wsS, List.mem_append, List.mem_cons, List.not_mem_nil, or_false] at hm
  rcases hm with (rfl | rfl | rfl) | rfl | hm
  · exact hl
  · exact f1
  · exact f3
  · exact f4
  · exact hm
end ZL
def nng (x : Int32) : Bool := decide (¬ x < 0)
theorem nng_p {x : Int32} (h : nng x = true) : ¬ x < 0 := of_decide_eq_true h
/-- the law's script, read by its own method -/
def cellF (xs : Nat → Int32) (L : Nat) (k : Int32) : Int32 := if Int32.ofNat L ≤ k then ((7919 : Int32) * (k + (3 : Int32))) * (k + (11 : Int32)) else xs k.toNatClampNeg
def WX (G : GM) (h : HP) (b L : Nat) (xs : Nat → Int32) (U : State) : Prop := WU G h U ∧ va_X b L xs U U.heap ∧ b < U.heap.size
theorem WX.blind {G : GM} {h : HP} {b L : Nat} {xs : Nat → Int32} {av : List Value} : FrameBlind (va_Pc av (WX G h b L xs)) := by
  intro a U g mk q
  obtain ⟨q0, q1, q2, q3⟩ := q
  exact ⟨q0, (WU.blind (G := G) (h := h) (av := av) a U g mk ⟨q0, q1⟩).2, va_X.moved (u := U) (U := U.calling g mk a) (Vm.Alike.refl U.vm) q2, q3⟩
set_option maxHeartbeats 4000000 in
set_option maxRecDepth 100000 in
theorem t_L_cell (G : GM) (l : Launch) {b L : Nat} {xs : Nat → Int32} (hL : L < 2 ^ 31) (hbA : ¬ AA G b) (k : Int32) (h : HP) (hk : ¬ k < 0) : Met l yL_cell (.code yL_cell cL_cell 2 (some .int) :: BIG) (rmD 0) (va_Pc [.ref b, .int k] (WX G h b L xs)) (QM G (some (.int (cellF xs L k))) h) 0 0 (AA G) := by
  refine Met.ofW (cc := cL_cell) (maxL := 2) (ret := some .int) (by decide) rfl ?_
  intro p e s m args below meth c s₁ B hml hv
  obtain ⟨rfl, ⟨hP, hK, hT, hN, hz⟩, hX, hbl⟩ := hv
  have hts := atoms_spec (ws := Cond.code yL_cell cL_cell 2 (some .int) :: BIG) B.pre
  have hown : s.vm.findClass yL_cell.cls = some m.cls := findClass_of_methodNamed B.named
  have hl := lv_entry [.ref b, .int k] (n := 2) (Nat.le_of_ble_eq_true rfl)
  rw [lg_entry_eq]
  generalize (lg_sl ([.ref b, .int k])  ++ List.replicate (2 - (lg_sl ([.ref b, .int k])).length) Slot.unset).toArray = ls at hl ⊢
  have hx := B.exec
  have hb := B.bytes
  have hr := B.returns
  have hlk := B.notSynchronized
  have hw : HW G h s s.heap [] := ⟨hP, va_S.rf⟩
  have hl : lv_has ls 2 [(0, .ref b), (1, .int k)] := hl
  refine lv_iload_n hx hb dL_cell_0 rfl (lv_at hl 1 rfl) ?_
  refine lv_aload_n hx hb dL_cell_1 rfl (lv_at hl 0 rfl) ?_
  refine va_slen hx hb hX hbl hbA hw.2 dL_cell_2 ?_
  refine lv_icmp_ge (tgt := 12) hx hb dL_cell_3 (by decide) (fun c3 => ?_) (fun c3 => ?_)
  · refine lv_sipush (v := (7919 : Int32)) hx hb dL_cell_12 (by decide) ?_
    refine lv_iload_n hx hb dL_cell_15 rfl (lv_at hl 1 rfl) ?_
    refine lv_iconst (v := (3 : Int32)) hx hb dL_cell_16 (by decide) ?_
    refine lv_iadd hx hb dL_cell_17 ?_
    refine lv_imul hx hb dL_cell_18 ?_
    refine lv_iload_n hx hb dL_cell_19 rfl (lv_at hl 1 rfl) ?_
    refine lv_bipush (v := (11 : Int32)) hx hb dL_cell_20 (by decide) ?_
    refine lv_iadd hx hb dL_cell_22 ?_
    refine lv_imul hx hb dL_cell_23 ?_
    rw [cellF, if_pos c3]
    exact z_iret hx hb hr hlk hw dL_cell_24
  · have hi : vp_in k L := inB_vp (inB_t hk c3 (hL))
    refine lv_aload_n hx hb dL_cell_6 rfl (lv_at hl 0 rfl) ?_
    refine lv_iload_n hx hb dL_cell_7 rfl (lv_at hl 1 rfl) ?_
    refine va_sld hx hb hX hbl hbA hw.2 hi dL_cell_8 ?_
    refine lv_goto (tgt := 24) hx hb dL_cell_9 (by decide) ?_
    rw [cellF, if_neg c3]
    exact z_iret hx hb hr hlk hw dL_cell_24
section ZM
variable {p : Program} {l : Launch} {e : Env} {s : State} {m : MethodId} {args : Array Value} {below : List Frame} {meth : Method} {c : Code} {H : Heap} {locs : List Loc} {Q : State → Prop}
variable {cc : ByteArray} {pc : Nat} {ls : Array Slot} {rest : List Value} {G : GM} {h : HP} {own : String}
theorem zl_cell {index nL b L : Nat} {xs : Nat → Int32} {k : Int32} (hx : p.tables.exec = Jvm.exec) (hb : c.code = cc) (hml : c.maxLocals = nL) (hls : ls.size = nL) (Z : ZK G s args m own) (hw : HW G h s H locs) (hX : va_X b L xs s s.heap) (hbl : b < s.heap.size) (hbA : ¬ AA G b) (hL : L < 2 ^ 31) (hk : ¬ k < 0)
    (hl : Cond.methodLink own index yL_cell ∈ BIG) (hrs : (rest.map fun v => v.category).sum ≤ 8) (hdg : decode cc pc = .ok (.invokestatic index, 3))
    (kk : ∀ (H1 : Heap) (locs1 : List Loc), HW G h s H1 locs1 → W p l e room_1 s m args below meth c H1 locs1 600000 7302250 Q (F0 m (pc + 3) ls (.int (cellF xs L k) :: rest))) : W p l e room_1 s m args below meth c H locs 600000 7302250 Q (F0 m pc ls (.int k :: .ref b :: rest)) := by
  obtain ⟨f1, f3, f4, f5, f6⟩ := cs_L_cell
  have hR : (rmD 0).frames + 1 ≤ room_1.frames ∧ 8 + (2 + 11) + (rmD 0).locals ≤ room_1.locals := by decide
  have hq : H[b]? = s.heap[b]? := hw.2.2.1 b hbl hbA
  refine zl_go (va_runS (As := [.ref b, .int k]) (rest := rest) ⟨hx, hb, hml, Z.2.1, Z.1⟩ (t_L_cell G l (L := L) (xs := xs) hL hbA k h hk) (va_cwS 2 Z.1 (goodIn_big ?_) rfl rfl rfl f5 hR) ⟨WX.blind, fun U hU hW => ⟨rfl, hw.WU Z hU hW, ?_, ?_⟩⟩ rfl rfl hls rfl (lv_room hrs) hdg ⟨Nat.le_of_ble_eq_true rfl, Nat.le_of_ble_eq_true rfl⟩) hw kk
  · intro w hm
    simp only [va_wsS, List.mem_append, List.mem_cons, List.not_mem_nil, or_false] at hm
    rcases hm with (rfl | rfl | rfl) | rfl | hm
    · exact hl
    · exact f1
    · exact f3
    · exact f4
    · exact hm
  · rw [hU]
    exact (hX.kept hq).moved hW.alike
  · rw [hU]
    exact Nat.lt_of_lt_of_le hbl hw.2.1
end ZM

/-- the law's loop -/
def f_L_law_L25 : Nat → (Nat → Int32) → Nat → Int32 → HP → Option HP
  | 0, _, _, _, _ => none
  | n + 1, xs, L, x3, h =>
  if (44 : Int32) ≤ x3 then
    some h
  else
    gd (nng x3) (
    ob (f_X10_count (0 : Int32) h) (fun q40 =>
    ob (f_L_does (cellF xs L x3) q40.2) (fun q48 =>
    if q48.1 < 0 then
      none
    else
      ob (
        if (jrem x3 (3 : Int32)) = (1 : Int32) then
          ob (f_L_isWholeSo q48.2) (fun q62 =>
          if q62.1 = 0 then
            none
          else
            some q62.2)
        else
          some q48.2) (fun j58 =>
      ob (f_X10_count (0 : Int32) j58) (fun q75 =>
      ob (f_L_low ((cellF xs L x3) >>> ((2 : Int32) &&& 31)) q75.1 q75.2) (fun q78 =>
      ob (f_L_isFrameSo q78 q75.2) (fun q81 =>
      if q81.1 = 0 then
        none
      else
        ob (f_X10_count (0 : Int32) q81.2) (fun q94 =>
        ob (f_L_low ((cellF xs L x3) >>> ((5 : Int32) &&& 31)) q94.1 q94.2) (fun q97 =>
        ob (f_L_isFrameSo q97 q94.2) (fun q100 =>
        if q100.1 = 0 then
          none
        else
          ob (
            if (jrem x3 (11 : Int32)) = (10 : Int32) then
              ob (f_L_isGapSo q100.2) (fun q116 =>
              if q116.1 = 0 then
                none
              else
                some q116.2)
            else
              some q100.2) (fun j112 =>
          ob (
            if (jrem x3 (6 : Int32)) = (2 : Int32) then
              ob (f_X10_count (0 : Int32) j112) (fun q137 =>
              ob (f_L_low ((cellF xs L x3) >>> ((3 : Int32) &&& 31)) q137.1 q137.2) (fun q140 =>
              ob (f_L_low ((cellF xs L x3) >>> ((7 : Int32) &&& 31)) (81 : Int32) q137.2) (fun q152 =>
              ob (f_L_isSeekSo q140 ((60 : Int32) + q152) q137.2) (fun q156 =>
              if q156.1 = 0 then
                none
              else
                some q156.2))))
            else
              some j112) (fun j127 =>
          ob (
            if (jrem x3 (4 : Int32)) = (3 : Int32) then
              ob (f_L_low ((cellF xs L x3) >>> ((4 : Int32) &&& 31)) (30 : Int32) j127) (fun q177 =>
              ob (f_L_low ((cellF xs L x3) >>> ((8 : Int32) &&& 31)) (30 : Int32) j127) (fun q189 =>
              ob (f_L_isPlaySo ((1 : Int32) + q177) ((1 : Int32) + q189) j127) (fun q193 =>
              if q193.1 = 0 then
                none
              else
                some q193.2)))
            else
              some j127) (fun j166 =>
          ob (
            if (jrem x3 (8 : Int32)) = (5 : Int32) then
              ob (f_L_isPolishSo j166) (fun q208 =>
              if q208.1 = 0 then
                none
              else
                some q208.2)
            else
              some j166) (fun j204 =>
          if (240 : Int32) ≤ q40.1 then
            f_L_law_L25 n xs L (x3 + (1 : Int32)) j204
          else
            none))))))))))))))
/-- the law behind its making of the object -/
def f_L_law_8 (xs : Nat → Int32) (L : Nat) (h : HP) : Option Int32 :=
  ob (f_X10_set (0 : Int32) (8 : Int32) h) (fun q12 =>
  ob (f_X10_set (1 : Int32) (1 : Int32) q12.2) (fun q18 =>
  ob (f_L_law_L25 FU xs L (0 : Int32) q18.2) (fun q25 =>
  if (q12.1 + q18.1) = (22 : Int32) then
    some (1 : Int32)
  else
    some (0 : Int32))))
set_option maxHeartbeats 40000000 in
set_option maxRecDepth 100000 in
theorem w_L_law_L25 (G : GM) (l : Launch) (hN : 70 ≤ gN G) {p : Program} {e : Env} {s : State} {m : MethodId} {args : Array Value} {below : List Frame} {meth : Method} {c : Code} {Q : State → Prop} (hx : p.tables.exec = Jvm.exec) (hb : c.code = cL_law) (hml : c.maxLocals = 6) (Z : ZK G s args m RL) {b L : Nat} {xs : Nat → Int32} (hX : va_X b L xs s s.heap) (hbl : b < s.heap.size) (hbA : ¬ AA G b) (hL : L < 2 ^ 31) : ∀ (n : Nat) (x3 : Int32) (h : HP) (v2 : Int32) (ls : Array Slot) (H : Heap) (locs : List Loc) {q : HP}, lv_has ls 6 [(0, .ref b), (1, .ref (ra G 0)), (2, .int v2), (3, .int x3)] → HW G h s H locs → f_L_law_L25 n xs L x3 h = some q → (∀ (ls : Array Slot) (H : Heap) (locs : List Loc), lv_has ls 6 [(2, .int v2)] → HW G q s H locs → W p l e room_1 s m args below meth c H locs 600000 7302250 Q (F0 m 230 ls [])) → W p l e room_1 s m args below meth c H locs 600000 7302250 Q (F0 m 25 ls []) := by
  intro n
  induction n with
  | zero => intro x3 h v2 ls H locs q hl hw hf kk; cases hf
  | succ n ih =>
    intro x3 h v2 ls H locs q hl hw hf kk
    rw [f_L_law_L25] at hf
    refine lv_iload_n hx hb dL_law_25 rfl (lv_at hl 3 rfl) ?_
    refine lv_bipush (v := (44 : Int32)) hx hb dL_law_26 (by decide) ?_
    refine lv_icmp_ge (tgt := 230) hx hb dL_law_28 (by decide) (fun c28 => ?_) (fun c28 => ?_)
    · have hf := (if_pos c28).symm.trans hf
      obtain rfl := Option.some.inj hf
      exact kk ls H locs (lv_sub hl [2] rfl) hw
    · have hf := (if_neg c28).symm.trans hf
      refine lv_aload_n hx hb dL_law_31 rfl (lv_at hl 0 rfl) ?_
      refine lv_iload_n hx hb dL_law_32 rfl (lv_at hl 3 rfl) ?_
      obtain ⟨hk33, hf⟩ := gd_some hf
      refine zl_cell (k := x3) (rest := []) hx hb hml hl.1 Z hw hX hbl hbA hL (nng_p hk33) wd436 (by decide) dL_law_33 (fun H locs hw => ?_)
      refine lv_istore (lv' := [(4, _), (0, _), (1, _), (2, _), (3, _)]) hx hb dL_law_36 hl (by decide) rfl (fun ls hl => ?_)
      refine lv_aload_n hx hb dL_law_38 rfl (lv_at hl 2 rfl) ?_
      refine lv_iconst (v := (0 : Int32)) hx hb dL_law_39 (by decide) ?_
      obtain ⟨q40, hq40, hf⟩ := ob_some hf
      refine zl_callVi (o := 0) (ci := 8) (As := [.int (0 : Int32)]) (rest := []) (t_X10_count G l hN (0 : Int32) h hq40) cv_X10_count hx hb hml hl.1 Z hw (by decide) (by decide) (by omega) rfl rfl wd322 rfl rfl (Nat.le_of_ble_eq_true rfl) (by decide) dL_law_40 (fun H locs hw => ?_)
      refine lv_istore (lv' := [(5, _), (4, _), (0, _), (1, _), (2, _), (3, _)]) hx hb dL_law_43 hl (by decide) rfl (fun ls hl => ?_)
      refine lv_aload_n hx hb dL_law_45 rfl (lv_at hl 3 rfl) ?_
      refine lv_iload hx hb dL_law_46 (lv_at hl 1 rfl) ?_
      obtain ⟨q48, hq48, hf⟩ := ob_some hf
      refine zl_callSi (As := [.ref (ra G 0), .int (cellF xs L x3)]) (rest := []) (t_L_does G l hN (cellF xs L x3) q40.2 hq48) cs_L_does hx hb hml hl.1 Z hw wd443 rfl rfl (Nat.le_of_ble_eq_true rfl) (by decide) dL_law_48 (fun H locs hw => ?_)
      refine lv_if_lt (tgt := 222) hx hb dL_law_51 (by decide) (fun c51 => ?_) (fun c51 => ?_)
      · have hf := (if_pos c51).symm.trans hf
        cases hf
      · have hf := (if_neg c51).symm.trans hf
        refine lv_iload_n hx hb dL_law_54 rfl (lv_at hl 5 rfl) ?_
        refine lv_iconst (v := (3 : Int32)) hx hb dL_law_55 (by decide) ?_
        refine z_irem hx hb dL_law_56 (by decide) ?_
        refine lv_iconst (v := (1 : Int32)) hx hb dL_law_57 (by decide) ?_
        obtain ⟨j58, hqj58, hf⟩ := ob_some hf
        have HJ68 : ∀ (ls : Array Slot) (H : Heap) (locs : List Loc), lv_has ls 6 [(0, .ref b), (1, .ref (ra G 0)), (2, .int v2), (3, .int x3), (4, .int (cellF xs L x3)), (5, .int q40.1)] → HW G j58 s H locs → W p l e room_1 s m args below meth c H locs 600000 7302250 Q (F0 m 68 ls []) := by
          intro ls H locs hl hw
          refine lv_aload_n hx hb dL_law_68 rfl (lv_at hl 1 rfl) ?_
          refine lv_iload hx hb dL_law_69 (lv_at hl 4 rfl) ?_
          refine lv_iconst (v := (2 : Int32)) hx hb dL_law_71 (by decide) ?_
          refine lv_ishr hx hb dL_law_72 ?_
          refine lv_aload_n hx hb dL_law_73 rfl (lv_at hl 1 rfl) ?_
          refine lv_iconst (v := (0 : Int32)) hx hb dL_law_74 (by decide) ?_
          obtain ⟨q75, hq75, hf⟩ := ob_some hf
          refine zl_callVi (o := 0) (ci := 8) (As := [.int (0 : Int32)]) (rest := [.int ((cellF xs L x3) >>> ((2 : Int32) &&& 31)), .ref (ra G 0)]) (t_X10_count G l hN (0 : Int32) j58 hq75) cv_X10_count hx hb hml hl.1 Z hw (by decide) (by decide) (by omega) rfl rfl wd322 rfl rfl (Nat.le_of_ble_eq_true rfl) (by decide) dL_law_75 (fun H locs hw => ?_)
          obtain ⟨q78, hq78, hf⟩ := ob_some hf
          refine zl_callSi (As := [.int ((cellF xs L x3) >>> ((2 : Int32) &&& 31)), .int q75.1]) (rest := [.ref (ra G 0)]) (t_L_low G l hN ((cellF xs L x3) >>> ((2 : Int32) &&& 31)) q75.1 q75.2 hq78) cs_L_low hx hb hml hl.1 Z hw wd439 rfl rfl (Nat.le_of_ble_eq_true rfl) (by decide) dL_law_78 (fun H locs hw => ?_)
          obtain ⟨q81, hq81, hf⟩ := ob_some hf
          refine zl_callSi (As := [.ref (ra G 0), .int q78]) (rest := []) (t_L_isFrameSo G l hN q78 q75.2 hq81) cs_L_isFrameSo hx hb hml hl.1 Z hw wd568 rfl rfl (Nat.le_of_ble_eq_true rfl) (by decide) dL_law_81 (fun H locs hw => ?_)
          refine lv_if_eq (tgt := 222) hx hb dL_law_84 (by decide) (fun c84 => ?_) (fun c84 => ?_)
          · have hf := (if_pos c84).symm.trans hf
            cases hf
          · have hf := (if_neg c84).symm.trans hf
            refine lv_aload_n hx hb dL_law_87 rfl (lv_at hl 1 rfl) ?_
            refine lv_iload hx hb dL_law_88 (lv_at hl 4 rfl) ?_
            refine lv_iconst (v := (5 : Int32)) hx hb dL_law_90 (by decide) ?_
            refine lv_ishr hx hb dL_law_91 ?_
            refine lv_aload_n hx hb dL_law_92 rfl (lv_at hl 1 rfl) ?_
            refine lv_iconst (v := (0 : Int32)) hx hb dL_law_93 (by decide) ?_
            obtain ⟨q94, hq94, hf⟩ := ob_some hf
            refine zl_callVi (o := 0) (ci := 8) (As := [.int (0 : Int32)]) (rest := [.int ((cellF xs L x3) >>> ((5 : Int32) &&& 31)), .ref (ra G 0)]) (t_X10_count G l hN (0 : Int32) q81.2 hq94) cv_X10_count hx hb hml hl.1 Z hw (by decide) (by decide) (by omega) rfl rfl wd322 rfl rfl (Nat.le_of_ble_eq_true rfl) (by decide) dL_law_94 (fun H locs hw => ?_)
            obtain ⟨q97, hq97, hf⟩ := ob_some hf
            refine zl_callSi (As := [.int ((cellF xs L x3) >>> ((5 : Int32) &&& 31)), .int q94.1]) (rest := [.ref (ra G 0)]) (t_L_low G l hN ((cellF xs L x3) >>> ((5 : Int32) &&& 31)) q94.1 q94.2 hq97) cs_L_low hx hb hml hl.1 Z hw wd439 rfl rfl (Nat.le_of_ble_eq_true rfl) (by decide) dL_law_97 (fun H locs hw => ?_)
            obtain ⟨q100, hq100, hf⟩ := ob_some hf
            refine zl_callSi (As := [.ref (ra G 0), .int q97]) (rest := []) (t_L_isFrameSo G l hN q97 q94.2 hq100) cs_L_isFrameSo hx hb hml hl.1 Z hw wd568 rfl rfl (Nat.le_of_ble_eq_true rfl) (by decide) dL_law_100 (fun H locs hw => ?_)
            refine lv_if_eq (tgt := 222) hx hb dL_law_103 (by decide) (fun c103 => ?_) (fun c103 => ?_)
            · have hf := (if_pos c103).symm.trans hf
              cases hf
            · have hf := (if_neg c103).symm.trans hf
              refine lv_iload_n hx hb dL_law_106 rfl (lv_at hl 3 rfl) ?_
              refine lv_bipush (v := (11 : Int32)) hx hb dL_law_107 (by decide) ?_
              refine z_irem hx hb dL_law_109 (by decide) ?_
              refine lv_bipush (v := (10 : Int32)) hx hb dL_law_110 (by decide) ?_
              obtain ⟨j112, hqj112, hf⟩ := ob_some hf
              have HJ122 : ∀ (ls : Array Slot) (H : Heap) (locs : List Loc), lv_has ls 6 [(0, .ref b), (1, .ref (ra G 0)), (2, .int v2), (3, .int x3), (4, .int (cellF xs L x3)), (5, .int q40.1)] → HW G j112 s H locs → W p l e room_1 s m args below meth c H locs 600000 7302250 Q (F0 m 122 ls []) := by
                intro ls H locs hl hw
                refine lv_iload_n hx hb dL_law_122 rfl (lv_at hl 3 rfl) ?_
                refine lv_bipush (v := (6 : Int32)) hx hb dL_law_123 (by decide) ?_
                refine z_irem hx hb dL_law_125 (by decide) ?_
                refine lv_iconst (v := (2 : Int32)) hx hb dL_law_126 (by decide) ?_
                obtain ⟨j127, hqj127, hf⟩ := ob_some hf
                have HJ162 : ∀ (ls : Array Slot) (H : Heap) (locs : List Loc), lv_has ls 6 [(0, .ref b), (1, .ref (ra G 0)), (2, .int v2), (3, .int x3), (4, .int (cellF xs L x3)), (5, .int q40.1)] → HW G j127 s H locs → W p l e room_1 s m args below meth c H locs 600000 7302250 Q (F0 m 162 ls []) := by
                  intro ls H locs hl hw
                  refine lv_iload_n hx hb dL_law_162 rfl (lv_at hl 3 rfl) ?_
                  refine lv_iconst (v := (4 : Int32)) hx hb dL_law_163 (by decide) ?_
                  refine z_irem hx hb dL_law_164 (by decide) ?_
                  refine lv_iconst (v := (3 : Int32)) hx hb dL_law_165 (by decide) ?_
                  obtain ⟨j166, hqj166, hf⟩ := ob_some hf
                  have HJ199 : ∀ (ls : Array Slot) (H : Heap) (locs : List Loc), lv_has ls 6 [(0, .ref b), (1, .ref (ra G 0)), (2, .int v2), (3, .int x3), (5, .int q40.1)] → HW G j166 s H locs → W p l e room_1 s m args below meth c H locs 600000 7302250 Q (F0 m 199 ls []) := by
                    intro ls H locs hl hw
                    refine lv_iload_n hx hb dL_law_199 rfl (lv_at hl 3 rfl) ?_
                    refine lv_bipush (v := (8 : Int32)) hx hb dL_law_200 (by decide) ?_
                    refine z_irem hx hb dL_law_202 (by decide) ?_
                    refine lv_iconst (v := (5 : Int32)) hx hb dL_law_203 (by decide) ?_
                    obtain ⟨j204, hqj204, hf⟩ := ob_some hf
                    have HJ214 : ∀ (ls : Array Slot) (H : Heap) (locs : List Loc), lv_has ls 6 [(0, .ref b), (1, .ref (ra G 0)), (2, .int v2), (3, .int x3), (5, .int q40.1)] → HW G j204 s H locs → W p l e room_1 s m args below meth c H locs 600000 7302250 Q (F0 m 214 ls []) := by
                      intro ls H locs hl hw
                      refine lv_iload hx hb dL_law_214 (lv_at hl 4 rfl) ?_
                      refine lv_sipush (v := (240 : Int32)) hx hb dL_law_216 (by decide) ?_
                      refine lv_icmp_ge (tgt := 224) hx hb dL_law_219 (by decide) (fun c219 => ?_) (fun c219 => ?_)
                      · have hf := (if_pos c219).symm.trans hf
                        refine lv_iinc (v := x3 + (1 : Int32)) (lv' := [(3, _), (0, _), (1, _), (2, _), (5, _)]) hx hb dL_law_224 hl (k := 3) rfl rfl (by decide) rfl (fun ls hl => ?_)
                        refine lv_goto (tgt := 25) hx hb dL_law_227 (by decide) ?_
                        exact ih (x3 + (1 : Int32)) j204 v2 ls H locs (lv_sub hl [1, 2, 3, 0] rfl) hw hf kk
                      · have hf := (if_neg c219).symm.trans hf
                        cases hf
                    have hf := hqj204
                    refine lv_icmp_ne (tgt := 214) hx hb dL_law_204 (by decide) (fun c204 => ?_) (fun c204 => ?_)
                    · have hf := (if_neg c204).symm.trans hf
                      obtain rfl := Option.some.inj hf
                      exact HJ214 ls H locs (lv_sub hl [0, 1, 2, 3, 4] rfl) hw
                    · have hf := (if_pos c204).symm.trans hf
                      refine lv_aload_n hx hb dL_law_207 rfl (lv_at hl 1 rfl) ?_
                      obtain ⟨q208, hq208, hf⟩ := ob_some hf
                      refine zl_callSi (As := [.ref (ra G 0)]) (rest := []) (t_L_isPolishSo G l hN  j166 hq208) cs_L_isPolishSo hx hb hml hl.1 Z hw wd675 rfl rfl (Nat.le_of_ble_eq_true rfl) (by decide) dL_law_208 (fun H locs hw => ?_)
                      refine lv_if_eq (tgt := 222) hx hb dL_law_211 (by decide) (fun c211 => ?_) (fun c211 => ?_)
                      · have hf := (if_pos c211).symm.trans hf
                        cases hf
                      · have hf := (if_neg c211).symm.trans hf
                        obtain rfl := Option.some.inj hf
                        exact HJ214 ls H locs (lv_sub hl [0, 1, 2, 3, 4] rfl) hw
                  have hf := hqj166
                  refine lv_icmp_ne (tgt := 199) hx hb dL_law_166 (by decide) (fun c166 => ?_) (fun c166 => ?_)
                  · have hf := (if_neg c166).symm.trans hf
                    obtain rfl := Option.some.inj hf
                    exact HJ199 ls H locs (lv_sub hl [0, 1, 2, 3, 5] rfl) hw
                  · have hf := (if_pos c166).symm.trans hf
                    refine lv_aload_n hx hb dL_law_169 rfl (lv_at hl 1 rfl) ?_
                    refine lv_iconst (v := (1 : Int32)) hx hb dL_law_170 (by decide) ?_
                    refine lv_iload hx hb dL_law_171 (lv_at hl 4 rfl) ?_
                    refine lv_iconst (v := (4 : Int32)) hx hb dL_law_173 (by decide) ?_
                    refine lv_ishr hx hb dL_law_174 ?_
                    refine lv_bipush (v := (30 : Int32)) hx hb dL_law_175 (by decide) ?_
                    obtain ⟨q177, hq177, hf⟩ := ob_some hf
                    refine zl_callSi (As := [.int ((cellF xs L x3) >>> ((4 : Int32) &&& 31)), .int (30 : Int32)]) (rest := [.int (1 : Int32), .ref (ra G 0)]) (t_L_low G l hN ((cellF xs L x3) >>> ((4 : Int32) &&& 31)) (30 : Int32) j127 hq177) cs_L_low hx hb hml hl.1 Z hw wd439 rfl rfl (Nat.le_of_ble_eq_true rfl) (by decide) dL_law_177 (fun H locs hw => ?_)
                    refine lv_iadd hx hb dL_law_180 ?_
                    refine lv_iconst (v := (1 : Int32)) hx hb dL_law_181 (by decide) ?_
                    refine lv_iload hx hb dL_law_182 (lv_at hl 4 rfl) ?_
                    refine lv_bipush (v := (8 : Int32)) hx hb dL_law_184 (by decide) ?_
                    refine lv_ishr hx hb dL_law_186 ?_
                    refine lv_bipush (v := (30 : Int32)) hx hb dL_law_187 (by decide) ?_
                    obtain ⟨q189, hq189, hf⟩ := ob_some hf
                    refine zl_callSi (As := [.int ((cellF xs L x3) >>> ((8 : Int32) &&& 31)), .int (30 : Int32)]) (rest := [.int (1 : Int32), .int ((1 : Int32) + q177), .ref (ra G 0)]) (t_L_low G l hN ((cellF xs L x3) >>> ((8 : Int32) &&& 31)) (30 : Int32) j127 hq189) cs_L_low hx hb hml hl.1 Z hw wd439 rfl rfl (Nat.le_of_ble_eq_true rfl) (by decide) dL_law_189 (fun H locs hw => ?_)
                    refine lv_iadd hx hb dL_law_192 ?_
                    obtain ⟨q193, hq193, hf⟩ := ob_some hf
                    refine zl_callSi (As := [.ref (ra G 0), .int ((1 : Int32) + q177), .int ((1 : Int32) + q189)]) (rest := []) (t_L_isPlaySo G l hN ((1 : Int32) + q177) ((1 : Int32) + q189) j127 hq193) cs_L_isPlaySo hx hb hml hl.1 Z hw wd672 rfl rfl (Nat.le_of_ble_eq_true rfl) (by decide) dL_law_193 (fun H locs hw => ?_)
                    refine lv_if_eq (tgt := 222) hx hb dL_law_196 (by decide) (fun c196 => ?_) (fun c196 => ?_)
                    · have hf := (if_pos c196).symm.trans hf
                      cases hf
                    · have hf := (if_neg c196).symm.trans hf
                      obtain rfl := Option.some.inj hf
                      exact HJ199 ls H locs (lv_sub hl [0, 1, 2, 3, 5] rfl) hw
                have hf := hqj127
                refine lv_icmp_ne (tgt := 162) hx hb dL_law_127 (by decide) (fun c127 => ?_) (fun c127 => ?_)
                · have hf := (if_neg c127).symm.trans hf
                  obtain rfl := Option.some.inj hf
                  exact HJ162 ls H locs (lv_sub hl [0, 1, 2, 3, 4, 5] rfl) hw
                · have hf := (if_pos c127).symm.trans hf
                  refine lv_aload_n hx hb dL_law_130 rfl (lv_at hl 1 rfl) ?_
                  refine lv_iload hx hb dL_law_131 (lv_at hl 4 rfl) ?_
                  refine lv_iconst (v := (3 : Int32)) hx hb dL_law_133 (by decide) ?_
                  refine lv_ishr hx hb dL_law_134 ?_
                  refine lv_aload_n hx hb dL_law_135 rfl (lv_at hl 1 rfl) ?_
                  refine lv_iconst (v := (0 : Int32)) hx hb dL_law_136 (by decide) ?_
                  obtain ⟨q137, hq137, hf⟩ := ob_some hf
                  refine zl_callVi (o := 0) (ci := 8) (As := [.int (0 : Int32)]) (rest := [.int ((cellF xs L x3) >>> ((3 : Int32) &&& 31)), .ref (ra G 0)]) (t_X10_count G l hN (0 : Int32) j112 hq137) cv_X10_count hx hb hml hl.1 Z hw (by decide) (by decide) (by omega) rfl rfl wd322 rfl rfl (Nat.le_of_ble_eq_true rfl) (by decide) dL_law_137 (fun H locs hw => ?_)
                  obtain ⟨q140, hq140, hf⟩ := ob_some hf
                  refine zl_callSi (As := [.int ((cellF xs L x3) >>> ((3 : Int32) &&& 31)), .int q137.1]) (rest := [.ref (ra G 0)]) (t_L_low G l hN ((cellF xs L x3) >>> ((3 : Int32) &&& 31)) q137.1 q137.2 hq140) cs_L_low hx hb hml hl.1 Z hw wd439 rfl rfl (Nat.le_of_ble_eq_true rfl) (by decide) dL_law_140 (fun H locs hw => ?_)
                  refine lv_bipush (v := (60 : Int32)) hx hb dL_law_143 (by decide) ?_
                  refine lv_iload hx hb dL_law_145 (lv_at hl 4 rfl) ?_
                  refine lv_bipush (v := (7 : Int32)) hx hb dL_law_147 (by decide) ?_
                  refine lv_ishr hx hb dL_law_149 ?_
                  refine lv_bipush (v := (81 : Int32)) hx hb dL_law_150 (by decide) ?_
                  obtain ⟨q152, hq152, hf⟩ := ob_some hf
                  refine zl_callSi (As := [.int ((cellF xs L x3) >>> ((7 : Int32) &&& 31)), .int (81 : Int32)]) (rest := [.int (60 : Int32), .int q140, .ref (ra G 0)]) (t_L_low G l hN ((cellF xs L x3) >>> ((7 : Int32) &&& 31)) (81 : Int32) q137.2 hq152) cs_L_low hx hb hml hl.1 Z hw wd439 rfl rfl (Nat.le_of_ble_eq_true rfl) (by decide) dL_law_152 (fun H locs hw => ?_)
                  refine lv_iadd hx hb dL_law_155 ?_
                  obtain ⟨q156, hq156, hf⟩ := ob_some hf
                  refine zl_callSi (As := [.ref (ra G 0), .int q140, .int ((60 : Int32) + q152)]) (rest := []) (t_L_isSeekSo G l hN q140 ((60 : Int32) + q152) q137.2 hq156) cs_L_isSeekSo hx hb hml hl.1 Z hw wd648 rfl rfl (Nat.le_of_ble_eq_true rfl) (by decide) dL_law_156 (fun H locs hw => ?_)
                  refine lv_if_eq (tgt := 222) hx hb dL_law_159 (by decide) (fun c159 => ?_) (fun c159 => ?_)
                  · have hf := (if_pos c159).symm.trans hf
                    cases hf
                  · have hf := (if_neg c159).symm.trans hf
                    obtain rfl := Option.some.inj hf
                    exact HJ162 ls H locs (lv_sub hl [0, 1, 2, 3, 4, 5] rfl) hw
              have hf := hqj112
              refine lv_icmp_ne (tgt := 122) hx hb dL_law_112 (by decide) (fun c112 => ?_) (fun c112 => ?_)
              · have hf := (if_neg c112).symm.trans hf
                obtain rfl := Option.some.inj hf
                exact HJ122 ls H locs (lv_sub hl [0, 1, 2, 3, 4, 5] rfl) hw
              · have hf := (if_pos c112).symm.trans hf
                refine lv_aload_n hx hb dL_law_115 rfl (lv_at hl 1 rfl) ?_
                obtain ⟨q116, hq116, hf⟩ := ob_some hf
                refine zl_callSi (As := [.ref (ra G 0)]) (rest := []) (t_L_isGapSo G l hN  q100.2 hq116) cs_L_isGapSo hx hb hml hl.1 Z hw wd641 rfl rfl (Nat.le_of_ble_eq_true rfl) (by decide) dL_law_116 (fun H locs hw => ?_)
                refine lv_if_eq (tgt := 222) hx hb dL_law_119 (by decide) (fun c119 => ?_) (fun c119 => ?_)
                · have hf := (if_pos c119).symm.trans hf
                  cases hf
                · have hf := (if_neg c119).symm.trans hf
                  obtain rfl := Option.some.inj hf
                  exact HJ122 ls H locs (lv_sub hl [0, 1, 2, 3, 4, 5] rfl) hw
        have hf := hqj58
        refine lv_icmp_ne (tgt := 68) hx hb dL_law_58 (by decide) (fun c58 => ?_) (fun c58 => ?_)
        · have hf := (if_neg c58).symm.trans hf
          obtain rfl := Option.some.inj hf
          exact HJ68 ls H locs (lv_sub hl [2, 3, 4, 5, 1, 0] rfl) hw
        · have hf := (if_pos c58).symm.trans hf
          refine lv_aload_n hx hb dL_law_61 rfl (lv_at hl 3 rfl) ?_
          obtain ⟨q62, hq62, hf⟩ := ob_some hf
          refine zl_callSi (As := [.ref (ra G 0)]) (rest := []) (t_L_isWholeSo G l hN  q48.2 hq62) cs_L_isWholeSo hx hb hml hl.1 Z hw wd630 rfl rfl (Nat.le_of_ble_eq_true rfl) (by decide) dL_law_62 (fun H locs hw => ?_)
          refine lv_if_eq (tgt := 222) hx hb dL_law_65 (by decide) (fun c65 => ?_) (fun c65 => ?_)
          · have hf := (if_pos c65).symm.trans hf
            cases hf
          · have hf := (if_neg c65).symm.trans hf
            obtain rfl := Option.some.inj hf
            exact HJ68 ls H locs (lv_sub hl [2, 3, 4, 5, 1, 0] rfl) hw
set_option maxHeartbeats 40000000 in
set_option maxRecDepth 100000 in
theorem w_L_law_8 (G : GM) (l : Launch) (hN : 70 ≤ gN G) {p : Program} {e : Env} {s : State} {m : MethodId} {args : Array Value} {below : List Frame} {meth : Method} {c : Code} {Q : State → Prop} (hx : p.tables.exec = Jvm.exec) (hb : c.code = cL_law) (hml : c.maxLocals = 6) (Z : ZK G s args m RL) {b L : Nat} {xs : Nat → Int32} (hX : va_X b L xs s s.heap) (hbl : b < s.heap.size) (hbA : ¬ AA G b) (hL : L < 2 ^ 31) (hend : ∀ (pc : Nat) (ls : Array Slot) (H : Heap) (locs : List Loc), decode cL_law pc = .ok (.ireturn, 1) → (∀ q ∈ locs, AA G q.base) → W p l e room_1 s m args below meth c H locs 600000 7302250 Q (F0 m pc ls [.int 1])) (h : HP) (ls : Array Slot) (H : Heap) (locs : List Loc) (hl : lv_has ls 6 [(0, .ref b), (1, .ref (ra G 0))]) (hw : HW G h s H locs) (hf : f_L_law_8 xs L h = some 1) : W p l e room_1 s m args below meth c H locs 600000 7302250 Q (F0 m 8 ls []) := by
  unfold f_L_law_8 at hf
  refine lv_aload_n hx hb dL_law_8 rfl (lv_at hl 1 rfl) ?_
  refine lv_iconst (v := (0 : Int32)) hx hb dL_law_9 (by decide) ?_
  refine lv_bipush (v := (8 : Int32)) hx hb dL_law_10 (by decide) ?_
  obtain ⟨q12, hq12, hf⟩ := ob_some hf
  refine zl_callVi (o := 0) (ci := 8) (As := [.int (0 : Int32), .int (8 : Int32)]) (rest := []) (t_X10_set G l hN (0 : Int32) (8 : Int32) h hq12) cv_X10_set hx hb hml hl.1 Z hw (by decide) (by decide) (by omega) rfl rfl wd258 rfl rfl (Nat.le_of_ble_eq_true rfl) (by decide) dL_law_12 (fun H locs hw => ?_)
  refine lv_aload_n hx hb dL_law_15 rfl (lv_at hl 1 rfl) ?_
  refine lv_iconst (v := (1 : Int32)) hx hb dL_law_16 (by decide) ?_
  refine lv_iconst (v := (1 : Int32)) hx hb dL_law_17 (by decide) ?_
  obtain ⟨q18, hq18, hf⟩ := ob_some hf
  refine zl_callVi (o := 0) (ci := 8) (As := [.int (1 : Int32), .int (1 : Int32)]) (rest := [.int q12.1]) (t_X10_set G l hN (1 : Int32) (1 : Int32) q12.2 hq18) cv_X10_set hx hb hml hl.1 Z hw (by decide) (by decide) (by omega) rfl rfl wd258 rfl rfl (Nat.le_of_ble_eq_true rfl) (by decide) dL_law_18 (fun H locs hw => ?_)
  refine lv_iadd hx hb dL_law_21 ?_
  refine lv_istore_n (lv' := [(2, _), (0, _), (1, _)]) hx hb dL_law_22 rfl hl (by decide) rfl (fun ls hl => ?_)
  refine lv_iconst (v := (0 : Int32)) hx hb dL_law_23 (by decide) ?_
  refine lv_istore_n (lv' := [(3, _), (2, _), (0, _), (1, _)]) hx hb dL_law_24 rfl hl (by decide) rfl (fun ls hl => ?_)
  obtain ⟨q25, hq25, hf⟩ := ob_some hf
  refine w_L_law_L25 G l hN hx hb hml Z hX hbl hbA hL FU (0 : Int32) q18.2 (q12.1 + q18.1) ls H locs (lv_sub hl [2, 3, 1, 0] rfl) hw hq25 (fun ls H locs hl hw => ?_)
  refine lv_iload_n hx hb dL_law_230 rfl (lv_at hl 0 rfl) ?_
  refine lv_bipush (v := (22 : Int32)) hx hb dL_law_231 (by decide) ?_
  refine lv_icmp_ne (tgt := 240) hx hb dL_law_233 (by decide) (fun c233 => ?_) (fun c233 => ?_)
  · have hf := (if_neg c233).symm.trans hf
    exact absurd (Option.some.inj hf) (by decide)
  · have hf := (if_pos c233).symm.trans hf
    refine lv_iconst (v := (1 : Int32)) hx hb dL_law_236 (by decide) ?_
    refine lv_goto (tgt := 241) hx hb dL_law_237 (by decide) ?_
    exact hend _ _ _ _ dL_law_241 hw.2.2.2
