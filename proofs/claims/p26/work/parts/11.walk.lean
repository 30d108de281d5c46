/-! walks (by program) -/
set_option maxHeartbeats 4000000 in
set_option maxRecDepth 100000 in
theorem t_X5_dataBehind (G : GM) (l : Launch) (hN : 70 ≤ gN G) (x0 : Int32) (h : HP) : MC G l yX5_dataBehind cX5_dataBehind 1 (some .int) 0 [.int x0] h h (some (.int (f_X5_dataBehind x0 h))) := by
  generalize hf : f_X5_dataBehind x0 h = r
  unfold f_X5_dataBehind at hf
  refine z_start (by decide) (Nat.le_of_ble_eq_true rfl) ?_
  intro p e s m args below meth c ls hx hb hr hlk hml Z hw hl
  have Z : ZK G s args m RX5 := Z
  have hl : lv_has ls 1 [(0, .int x0)] := hl
  obtain ⟨H, hH⟩ : ∃ H, H = s.heap := ⟨_, rfl⟩
  rw [← hH] at hw ⊢
  obtain ⟨locs, hlc⟩ : ∃ locs : List Loc, locs = [] := ⟨_, rfl⟩
  rw [← hlc] at hw ⊢
  refine lv_iload_n hx hb dX5_dataBehind_0 rfl (lv_at hl 0 rfl) ?_
  refine lv_iconst (v := (5 : Int32)) hx hb dX5_dataBehind_1 (by decide) ?_
  refine z_irem hx hb dX5_dataBehind_2 (by decide) ?_
  refine lv_iconst (v := (3 : Int32)) hx hb dX5_dataBehind_3 (by decide) ?_
  refine lv_icmp_ne (tgt := 13) hx hb dX5_dataBehind_4 (by decide) (fun c4 => ?_) (fun c4 => ?_)
  · have hf := (if_neg c4).symm.trans hf
    refine lv_iload_n hx hb dX5_dataBehind_13 rfl (lv_at hl 0 rfl) ?_
    refine lv_iconst (v := (1 : Int32)) hx hb dX5_dataBehind_14 (by decide) ?_
    refine lv_iadd hx hb dX5_dataBehind_15 ?_
    obtain rfl := hf
    exact z_iret hx hb hr hlk hw dX5_dataBehind_16
  · have hf := (if_pos c4).symm.trans hf
    refine lv_iload_n hx hb dX5_dataBehind_7 rfl (lv_at hl 0 rfl) ?_
    refine lv_iconst (v := (2 : Int32)) hx hb dX5_dataBehind_8 (by decide) ?_
    refine lv_iadd hx hb dX5_dataBehind_9 ?_
    refine lv_goto (tgt := 16) hx hb dX5_dataBehind_10 (by decide) ?_
    obtain rfl := hf
    exact z_iret hx hb hr hlk hw dX5_dataBehind_16
set_option maxHeartbeats 4000000 in
set_option maxRecDepth 100000 in
theorem t_X7_canBeFilled (G : GM) (l : Launch) (hN : 70 ≤ gN G) (x1 : Int32) (x2 : Int32) (h : HP) : MC G l yX7_canBeFilled cX7_canBeFilled 5 (some .boolean) 1 [.ref (ra G 63), .int x1, .int x2] h h (some (.int (f_X7_canBeFilled x1 x2 h))) := by
  generalize hf : f_X7_canBeFilled x1 x2 h = r
  unfold f_X7_canBeFilled at hf
  refine z_start (by decide) (Nat.le_of_ble_eq_true rfl) ?_
  intro p e s m args below meth c ls hx hb hr hlk hml Z hw hl
  have Z : ZK G s args m RX7 := Z
  have hl : lv_has ls 5 [(0, .ref (ra G 63)), (1, .int x1), (2, .int x2)] := hl
  obtain ⟨H, hH⟩ : ∃ H, H = s.heap := ⟨_, rfl⟩
  rw [← hH] at hw ⊢
  obtain ⟨locs, hlc⟩ : ∃ locs : List Loc, locs = [] := ⟨_, rfl⟩
  rw [← hlc] at hw ⊢
  refine lv_iload_n hx hb dX7_canBeFilled_0 rfl (lv_at hl 1 rfl) ?_
  refine z_callSi (As := [.int x1]) (rest := []) (t_X5_dataAhead G l hN x1 h) cs_X5_dataAhead hx hb hml hl.1 Z hw wd416 rfl rfl (Nat.le_of_ble_eq_true rfl) (by decide) dX7_canBeFilled_1 (fun H locs hw => ?_)
  refine lv_istore_n (lv' := [(3, _), (0, _), (1, _), (2, _)]) hx hb dX7_canBeFilled_4 rfl hl (by decide) rfl (fun ls hl => ?_)
  refine lv_iload_n hx hb dX7_canBeFilled_5 rfl (lv_at hl 2 rfl) ?_
  refine z_callSi (As := [.int x1]) (rest := []) (t_X5_dataBehind G l hN x1 h) cs_X5_dataBehind hx hb hml hl.1 Z hw wd419 rfl rfl (Nat.le_of_ble_eq_true rfl) (by decide) dX7_canBeFilled_6 (fun H locs hw => ?_)
  refine lv_istore (lv' := [(4, _), (3, _), (0, _), (1, _), (2, _)]) hx hb dX7_canBeFilled_9 hl (by decide) rfl (fun ls hl => ?_)
  refine lv_iload_n hx hb dX7_canBeFilled_11 rfl (lv_at hl 3 rfl) ?_
  refine z_callSi (As := [.int x1]) (rest := []) (t_X5_isCheck G l hN x1 h) cs_X5_isCheck hx hb hml hl.1 Z hw wd422 rfl rfl (Nat.le_of_ble_eq_true rfl) (by decide) dX7_canBeFilled_12 (fun H locs hw => ?_)
  refine lv_if_ne (tgt := 57) hx hb dX7_canBeFilled_15 (by decide) (fun c15 => ?_) (fun c15 => ?_)
  · have hf := (if_neg c15).symm.trans hf
    refine lv_iconst (v := (0 : Int32)) hx hb dX7_canBeFilled_57 (by decide) ?_
    obtain rfl := hf
    exact z_zret hx hb hr rfl hlk hw dX7_canBeFilled_58
  · have hf := (if_pos c15).symm.trans hf
    refine lv_iload_n hx hb dX7_canBeFilled_18 rfl (lv_at hl 1 rfl) ?_
    refine lv_if_lt (tgt := 57) hx hb dX7_canBeFilled_19 (by decide) (fun c19 => ?_) (fun c19 => ?_)
    · have hf := (if_pos c19).symm.trans hf
      refine lv_iconst (v := (0 : Int32)) hx hb dX7_canBeFilled_57 (by decide) ?_
      obtain rfl := hf
      exact z_zret hx hb hr rfl hlk hw dX7_canBeFilled_58
    · have hf := (if_neg c19).symm.trans hf
      refine lv_iload hx hb dX7_canBeFilled_22 (lv_at hl 0 rfl) ?_
      refine lv_iload_n hx hb dX7_canBeFilled_24 rfl (lv_at hl 4 rfl) ?_
      refine lv_icmp_ge (tgt := 57) hx hb dX7_canBeFilled_25 (by decide) (fun c25 => ?_) (fun c25 => ?_)
      · have hf := (if_pos c25).symm.trans hf
        refine lv_iconst (v := (0 : Int32)) hx hb dX7_canBeFilled_57 (by decide) ?_
        obtain rfl := hf
        exact z_zret hx hb hr rfl hlk hw dX7_canBeFilled_58
      · have hf := (if_neg c25).symm.trans hf
        refine lv_aload_n hx hb dX7_canBeFilled_28 rfl (lv_at hl 2 rfl) ?_
        refine z_getr (o := 63) (o2 := 68) (C := RX7) (T := TX7) (N := 4) (ci := 6) (k := 3) hx hb Z hw (by decide) (by omega) rfl inX7 (by decide) rfl wd221 dX7_canBeFilled_29 ?_
        refine lv_iload_n hx hb dX7_canBeFilled_32 rfl (lv_at hl 1 rfl) ?_
        refine z_callNi (As := [.ref (ra G 68), .int (f_X5_dataAhead x1 h)]) (rest := []) (t_X10_at G l hN 68 (by decide) (by omega) (f_X5_dataAhead x1 h) h) cs_X10_at hx hb hml hl.1 Z hw wd408 rfl rfl (Nat.le_of_ble_eq_true rfl) (by decide) dX7_canBeFilled_33 (fun H locs hw => ?_)
        refine lv_iconst (v := (1 : Int32)) hx hb dX7_canBeFilled_36 (by decide) ?_
        refine lv_icmp_gt (tgt := 57) hx hb dX7_canBeFilled_37 (by decide) (fun c37 => ?_) (fun c37 => ?_)
        · have hf := (if_pos c37).symm.trans hf
          refine lv_iconst (v := (0 : Int32)) hx hb dX7_canBeFilled_57 (by decide) ?_
          obtain rfl := hf
          exact z_zret hx hb hr rfl hlk hw dX7_canBeFilled_58
        · have hf := (if_neg c37).symm.trans hf
          refine lv_aload_n hx hb dX7_canBeFilled_40 rfl (lv_at hl 2 rfl) ?_
          refine z_getr (o := 63) (o2 := 68) (C := RX7) (T := TX7) (N := 4) (ci := 6) (k := 3) hx hb Z hw (by decide) (by omega) rfl inX7 (by decide) rfl wd221 dX7_canBeFilled_41 ?_
          refine lv_iload hx hb dX7_canBeFilled_44 (lv_at hl 0 rfl) ?_
          refine z_callNi (As := [.ref (ra G 68), .int (f_X5_dataBehind x1 h)]) (rest := []) (t_X10_at G l hN 68 (by decide) (by omega) (f_X5_dataBehind x1 h) h) cs_X10_at hx hb hml hl.1 Z hw wd408 rfl rfl (Nat.le_of_ble_eq_true rfl) (by decide) dX7_canBeFilled_46 (fun H locs hw => ?_)
          refine lv_iconst (v := (1 : Int32)) hx hb dX7_canBeFilled_49 (by decide) ?_
          refine lv_icmp_gt (tgt := 57) hx hb dX7_canBeFilled_50 (by decide) (fun c50 => ?_) (fun c50 => ?_)
          · have hf := (if_pos c50).symm.trans hf
            refine lv_iconst (v := (0 : Int32)) hx hb dX7_canBeFilled_57 (by decide) ?_
            obtain rfl := hf
            exact z_zret hx hb hr rfl hlk hw dX7_canBeFilled_58
          · have hf := (if_neg c50).symm.trans hf
            refine lv_iconst (v := (1 : Int32)) hx hb dX7_canBeFilled_53 (by decide) ?_
            refine lv_goto (tgt := 58) hx hb dX7_canBeFilled_54 (by decide) ?_
            obtain rfl := hf
            exact z_zret hx hb hr rfl hlk hw dX7_canBeFilled_58
set_option maxHeartbeats 4000000 in
set_option maxRecDepth 100000 in
theorem w_X7_judgeGroup_L40 (G : GM) (l : Launch) (hN : 70 ≤ gN G)  {p : Program} {e : Env} {s : State} {m : MethodId} {args : Array Value} {below : List Frame} {meth : Method} {c : Code} (hx : p.tables.exec = Jvm.exec) (hb : c.code = cX7_judgeGroup) (hr : meth.sig.returnType = none) (hlk : meth.locks = false) (hml : c.maxLocals = 7) (Z : ZK G s args m RX7) : ∀ (n : Nat) (x2 : Int32) (x3 : Int32) (x5 : Int32) (x6 : Int32)  (h : HP)  (rv : Option Value) (hq : HP) (ls : Array Slot) (H : Heap) (locs : List Loc) {q : HP}, lv_has ls 7 [(0, .ref (ra G 63)), (2, .int x2), (3, .int x3), (5, .int x5), (6, .int x6)] → HW G h s H locs → f_X7_judgeGroup_L40 n x2 x3 x5 x6 h = some q → (∀ (ls : Array Slot) (H : Heap) (locs : List Loc), lv_has ls 7 [] → HW G q s H locs → WZ p l e 1 s m args below meth c G rv hq H locs (F0 m 81 ls [])) → WZ p l e 1 s m args below meth c G rv hq H locs (F0 m 40 ls []) := by
  intro n
  induction n with
  | zero => intro x2 x3 x5 x6  h  rv hq ls H locs q hl hw hf kk; cases hf
  | succ n ih =>
    intro x2 x3 x5 x6  h  rv hq ls H locs q hl hw hf kk
    rw [f_X7_judgeGroup_L40] at hf
    refine lv_iload hx hb dX7_judgeGroup_40 (lv_at hl 4 rfl) ?_
    refine lv_iload_n hx hb dX7_judgeGroup_42 rfl (lv_at hl 1 rfl) ?_
    refine lv_icmp_ge (tgt := 81) hx hb dX7_judgeGroup_43 (by decide) (fun c43 => ?_) (fun c43 => ?_)
    · have hf := (if_pos c43).symm.trans hf
      obtain rfl := Option.some.inj hf
      exact kk ls H locs (lv_sub hl [] rfl) hw
    · have hf := (if_neg c43).symm.trans hf
      refine lv_aload_n hx hb dX7_judgeGroup_46 rfl (lv_at hl 0 rfl) ?_
      refine z_getr (o := 63) (o2 := 68) (C := RX7) (T := TX7) (N := 4) (ci := 6) (k := 3) hx hb Z hw (by decide) (by omega) rfl inX7 (by decide) rfl wd221 dX7_judgeGroup_47 ?_
      refine lv_iload hx hb dX7_judgeGroup_50 (lv_at hl 4 rfl) ?_
      refine lv_aload_n hx hb dX7_judgeGroup_52 rfl (lv_at hl 0 rfl) ?_
      refine z_getr (o := 63) (o2 := 67) (C := RX7) (T := TX7) (N := 4) (ci := 6) (k := 2) hx hb Z hw (by decide) (by omega) rfl inX7 (by decide) rfl wd220 dX7_judgeGroup_53 ?_
      refine lv_iload hx hb dX7_judgeGroup_56 (lv_at hl 4 rfl) ?_
      refine z_callNi (As := [.ref (ra G 67), .int x6]) (rest := [.int x6, .ref (ra G 68)]) (t_X10_at G l hN 67 (by decide) (by omega) x6 h) cs_X10_at hx hb hml hl.1 Z hw wd408 rfl rfl (Nat.le_of_ble_eq_true rfl) (by decide) dX7_judgeGroup_58 (fun H locs hw => ?_)
      refine lv_iload_n hx hb dX7_judgeGroup_61 rfl (lv_at hl 2 rfl) ?_
      refine lv_iand hx hb dX7_judgeGroup_62 ?_
      have HJ72 : ∀ (ls : Array Slot) (H : Heap) (locs : List Loc), lv_has ls 7 [(0, .ref (ra G 63)), (2, .int x2), (3, .int x3), (5, .int x5), (6, .int x6)] → HW G h s H locs → WZ p l e 1 s m args below meth c G rv hq H locs (F0 m 72 ls [.int (if ((f_X10_at 67 x6 h) &&& x3) = 0 then (0 : Int32) else x5), .int x6, .ref (ra G 68)]) := by
        intro ls H locs hl hw
        obtain ⟨q72, hq72, hf⟩ := tb_ex hf
        refine z_callNv (As := [.ref (ra G 68), .int x6, .int (if ((f_X10_at 67 x6 h) &&& x3) = 0 then (0 : Int32) else x5)]) (rest := []) (t_X10_put G l hN 68 (by decide) (by omega) x6 (if ((f_X10_at 67 x6 h) &&& x3) = 0 then (0 : Int32) else x5) h hq72) cs_X10_put hx hb hml hl.1 Z hw wd409 rfl rfl (Nat.le_of_ble_eq_true rfl) (by decide) dX7_judgeGroup_72 (fun H locs hw => ?_)
        refine lv_iinc (v := x6 + (1 : Int32)) (lv' := [(6, _), (0, _), (2, _), (3, _), (5, _)]) hx hb dX7_judgeGroup_75 hl (k := 4) rfl rfl (by decide) rfl (fun ls hl => ?_)
        refine lv_goto (tgt := 40) hx hb dX7_judgeGroup_78 (by decide) ?_
        exact ih x2 x3 x5 (x6 + (1 : Int32)) q72  rv hq ls H locs (lv_sub hl [1, 2, 3, 4, 0] rfl) hw hf kk
      refine lv_if_ne (tgt := 70) hx hb dX7_judgeGroup_63 (by decide) (fun c63 => ?_) (fun c63 => ?_)
      · skip
        refine lv_iload hx hb dX7_judgeGroup_70 (lv_at hl 3 rfl) ?_
        refine W.eq (g2 := F0 m 72 ls [.int (if ((f_X10_at 67 x6 h) &&& x3) = 0 then (0 : Int32) else x5), .int x6, .ref (ra G 68)]) ?_ (HJ72 ls H locs (lv_sub hl [0, 1, 2, 3, 4] rfl) hw)
        simp only [if_neg c63]
      · skip
        refine lv_iconst (v := (0 : Int32)) hx hb dX7_judgeGroup_66 (by decide) ?_
        refine lv_goto (tgt := 72) hx hb dX7_judgeGroup_67 (by decide) ?_
        refine W.eq (g2 := F0 m 72 ls [.int (if ((f_X10_at 67 x6 h) &&& x3) = 0 then (0 : Int32) else x5), .int x6, .ref (ra G 68)]) ?_ (HJ72 ls H locs (lv_sub hl [0, 1, 2, 3, 4] rfl) hw)
        simp only [if_pos c63]
set_option maxHeartbeats 4000000 in
set_option maxRecDepth 100000 in
theorem t_X7_judgeGroup (G : GM) (l : Launch) (hN : 70 ≤ gN G) (x1 : Int32) (x2 : Int32) (x3 : Int32) (h : HP) {h' : HP} (hf : f_X7_judgeGroup x1 x2 x3 h = some h') : MC G l yX7_judgeGroup cX7_judgeGroup 7 none 1 [.ref (ra G 63), .int x1, .int x2, .int x3] h h' none := by
  unfold f_X7_judgeGroup at hf
  refine z_start (by decide) (Nat.le_of_ble_eq_true rfl) ?_
  intro p e s m args below meth c ls hx hb hr hlk hml Z hw hl
  have Z : ZK G s args m RX7 := Z
  have hl : lv_has ls 7 [(0, .ref (ra G 63)), (1, .int x1), (2, .int x2), (3, .int x3)] := hl
  obtain ⟨H, hH⟩ : ∃ H, H = s.heap := ⟨_, rfl⟩
  rw [← hH] at hw ⊢
  obtain ⟨locs, hlc⟩ : ∃ locs : List Loc, locs = [] := ⟨_, rfl⟩
  rw [← hlc] at hw ⊢
  refine lv_iload_n hx hb dX7_judgeGroup_0 rfl (lv_at hl 2 rfl) ?_
  refine lv_iload_n hx hb dX7_judgeGroup_1 rfl (lv_at hl 1 rfl) ?_
  refine lv_isub hx hb dX7_judgeGroup_2 ?_
  refine lv_iconst (v := (5 : Int32)) hx hb dX7_judgeGroup_3 (by decide) ?_
  obtain ⟨j4, hqj4, hf⟩ := ob_some hf
  have HJ23 : ∀ (ls : Array Slot) (H : Heap) (locs : List Loc), lv_has ls 7 [(0, .ref (ra G 63)), (1, .int x1), (2, .int x2), (3, .int x3)] → HW G h s H locs → WZ p l e 1 s m args below meth c G none h' H locs (F0 m 23 ls [.int j4]) := by
    intro ls H locs hl hw
    refine lv_istore (lv' := [(4, _), (0, _), (1, _), (2, _), (3, _)]) hx hb dX7_judgeGroup_23 hl (by decide) rfl (fun ls hl => ?_)
    refine lv_iload hx hb dX7_judgeGroup_25 (lv_at hl 0 rfl) ?_
    have HJ35 : ∀ (ls : Array Slot) (H : Heap) (locs : List Loc), lv_has ls 7 [(0, .ref (ra G 63)), (1, .int x1), (2, .int x2), (3, .int x3)] → HW G h s H locs → WZ p l e 1 s m args below meth c G none h' H locs (F0 m 35 ls [.int (if j4 = 0 then (3 : Int32) else (1 : Int32))]) := by
      intro ls H locs hl hw
      obtain ⟨v35, hqv35, hf⟩ := tb_ex hf
      refine z_top hqv35 ?_
      refine lv_istore (lv' := [(5, _), (0, _), (1, _), (2, _), (3, _)]) hx hb dX7_judgeGroup_35 hl (by decide) rfl (fun ls hl => ?_)
      refine lv_iload_n hx hb dX7_judgeGroup_37 rfl (lv_at hl 2 rfl) ?_
      refine lv_istore (lv' := [(6, _), (5, _), (0, _), (1, _), (2, _), (3, _)]) hx hb dX7_judgeGroup_38 hl (by decide) rfl (fun ls hl => ?_)
      obtain ⟨q40, hq40, hf⟩ := ob_some hf
      refine w_X7_judgeGroup_L40 G l hN  hx hb hr hlk hml Z FU x2 x3 v35 x1 h  _ _ ls H locs (lv_sub hl [2, 4, 5, 1, 0] rfl) hw hq40 (fun ls H locs hl hw => ?_)
      obtain rfl := Option.some.inj hf
      exact z_vret hx hb hr hlk hw dX7_judgeGroup_81
    refine lv_if_eq (tgt := 34) hx hb dX7_judgeGroup_27 (by decide) (fun c27 => ?_) (fun c27 => ?_)
    · skip
      refine lv_iconst (v := (3 : Int32)) hx hb dX7_judgeGroup_34 (by decide) ?_
      refine W.eq (g2 := F0 m 35 ls [.int (if j4 = 0 then (3 : Int32) else (1 : Int32))]) ?_ (HJ35 ls H locs (lv_sub hl [1, 2, 3, 4] rfl) hw)
      simp only [if_pos c27]
    · skip
      refine lv_iconst (v := (1 : Int32)) hx hb dX7_judgeGroup_30 (by decide) ?_
      refine lv_goto (tgt := 35) hx hb dX7_judgeGroup_31 (by decide) ?_
      refine W.eq (g2 := F0 m 35 ls [.int (if j4 = 0 then (3 : Int32) else (1 : Int32))]) ?_ (HJ35 ls H locs (lv_sub hl [1, 2, 3, 4] rfl) hw)
      simp only [if_neg c27]
  have hf := hqj4
  refine lv_icmp_ne (tgt := 22) hx hb dX7_judgeGroup_4 (by decide) (fun c4 => ?_) (fun c4 => ?_)
  · have hf := (if_neg c4).symm.trans hf
    refine lv_iconst (v := (0 : Int32)) hx hb dX7_judgeGroup_22 (by decide) ?_
    obtain rfl := Option.some.inj hf
    exact HJ23 ls H locs (lv_sub hl [0, 1, 2, 3] rfl) hw
  · have hf := (if_pos c4).symm.trans hf
    refine lv_aload_n hx hb dX7_judgeGroup_7 rfl (lv_at hl 0 rfl) ?_
    refine lv_iload_n hx hb dX7_judgeGroup_8 rfl (lv_at hl 1 rfl) ?_
    refine lv_iload_n hx hb dX7_judgeGroup_9 rfl (lv_at hl 2 rfl) ?_
    refine lv_iload_n hx hb dX7_judgeGroup_10 rfl (lv_at hl 3 rfl) ?_
    obtain ⟨q11, hq11, hf⟩ := ob_some hf
    refine z_callVi (o := 63) (ci := 6) (As := [.int x1, .int x2, .int x3]) (rest := []) (t_X7_damagedIn G l hN x1 x2 x3 h hq11) cv_X7_damagedIn hx hb hml hl.1 Z hw (by decide) (by decide) (by omega) rfl rfl wd404 rfl rfl (Nat.le_of_ble_eq_true rfl) (by decide) dX7_judgeGroup_11 (fun H locs hw => ?_)
    refine lv_iconst (v := (1 : Int32)) hx hb dX7_judgeGroup_14 (by decide) ?_
    refine lv_icmp_ne (tgt := 22) hx hb dX7_judgeGroup_15 (by decide) (fun c15 => ?_) (fun c15 => ?_)
    · have hf := (if_neg c15).symm.trans hf
      refine lv_iconst (v := (0 : Int32)) hx hb dX7_judgeGroup_22 (by decide) ?_
      obtain rfl := Option.some.inj hf
      exact HJ23 ls H locs (lv_sub hl [0, 1, 2, 3] rfl) hw
    · have hf := (if_pos c15).symm.trans hf
      refine lv_iconst (v := (1 : Int32)) hx hb dX7_judgeGroup_18 (by decide) ?_
      refine lv_goto (tgt := 23) hx hb dX7_judgeGroup_19 (by decide) ?_
      obtain rfl := Option.some.inj hf
      exact HJ23 ls H locs (lv_sub hl [0, 1, 2, 3] rfl) hw
set_option maxHeartbeats 4000000 in
set_option maxRecDepth 100000 in
theorem w_X7_judge_L10 (G : GM) (l : Launch) (hN : 70 ≤ gN G)  {p : Program} {e : Env} {s : State} {m : MethodId} {args : Array Value} {below : List Frame} {meth : Method} {c : Code} (hx : p.tables.exec = Jvm.exec) (hb : c.code = cX7_judge) (hr : meth.sig.returnType = none) (hlk : meth.locks = false) (hml : c.maxLocals = 4) (Z : ZK G s args m RX7) : ∀ (n : Nat) (x1 : Int32) (x2 : Int32) (x3 : Int32)  (h : HP)  (rv : Option Value) (hq : HP) (ls : Array Slot) (H : Heap) (locs : List Loc) {q : HP}, lv_has ls 4 [(0, .ref (ra G 63)), (1, .int x1), (2, .int x2), (3, .int x3)] → HW G h s H locs → f_X7_judge_L10 n x1 x2 x3 h = some q → (∀ (ls : Array Slot) (H : Heap) (locs : List Loc), lv_has ls 4 [(0, .ref (ra G 63)), (2, .int x2)] → HW G q s H locs → WZ p l e 2 s m args below meth c G rv hq H locs (F0 m 34 ls [])) → WZ p l e 2 s m args below meth c G rv hq H locs (F0 m 10 ls []) := by
  intro n
  induction n with
  | zero => intro x1 x2 x3  h  rv hq ls H locs q hl hw hf kk; cases hf
  | succ n ih =>
    intro x1 x2 x3  h  rv hq ls H locs q hl hw hf kk
    rw [f_X7_judge_L10] at hf
    refine lv_iload_n hx hb dX7_judge_10 rfl (lv_at hl 3 rfl) ?_
    refine lv_iload_n hx hb dX7_judge_11 rfl (lv_at hl 2 rfl) ?_
    refine lv_icmp_ge (tgt := 34) hx hb dX7_judge_12 (by decide) (fun c12 => ?_) (fun c12 => ?_)
    · have hf := (if_pos c12).symm.trans hf
      obtain rfl := Option.some.inj hf
      exact kk ls H locs (lv_sub hl [0, 2] rfl) hw
    · have hf := (if_neg c12).symm.trans hf
      refine lv_aload_n hx hb dX7_judge_15 rfl (lv_at hl 0 rfl) ?_
      refine lv_iload_n hx hb dX7_judge_16 rfl (lv_at hl 3 rfl) ?_
      refine lv_iload_n hx hb dX7_judge_17 rfl (lv_at hl 3 rfl) ?_
      refine lv_iconst (v := (5 : Int32)) hx hb dX7_judge_18 (by decide) ?_
      refine lv_iadd hx hb dX7_judge_19 ?_
      refine lv_iload_n hx hb dX7_judge_20 rfl (lv_at hl 2 rfl) ?_
      refine z_mmin hx hb (hml.trans hl.1.symm) Z wd379 wd380 wd35 wd381 (Nat.le_of_ble_eq_true rfl) dX7_judge_21 ?_
      refine lv_iload_n hx hb dX7_judge_24 rfl (lv_at hl 1 rfl) ?_
      obtain ⟨q25, hq25, hf⟩ := ob_some hf
      refine z_callVv (o := 63) (ci := 6) (As := [.int x3, .int (jmin (x3 + (5 : Int32)) x2), .int x1]) (rest := []) (t_X7_judgeGroup G l hN x3 (jmin (x3 + (5 : Int32)) x2) x1 h hq25) cv_X7_judgeGroup hx hb hml hl.1 Z hw (by decide) (by decide) (by omega) rfl rfl wd400 rfl rfl (Nat.le_of_ble_eq_true rfl) (by decide) dX7_judge_25 (fun H locs hw => ?_)
      refine lv_iinc (v := x3 + (5 : Int32)) (lv' := [(3, _), (0, _), (1, _), (2, _)]) hx hb dX7_judge_28 hl (k := 3) rfl rfl (by decide) rfl (fun ls hl => ?_)
      refine lv_goto (tgt := 10) hx hb dX7_judge_31 (by decide) ?_
      exact ih x1 x2 (x3 + (5 : Int32)) q25  rv hq ls H locs (lv_sub hl [1, 2, 3, 0] rfl) hw hf kk
set_option maxHeartbeats 4000000 in
set_option maxRecDepth 100000 in
theorem w_X7_judge_L36 (G : GM) (l : Launch) (hN : 70 ≤ gN G)  {p : Program} {e : Env} {s : State} {m : MethodId} {args : Array Value} {below : List Frame} {meth : Method} {c : Code} (hx : p.tables.exec = Jvm.exec) (hb : c.code = cX7_judge) (hr : meth.sig.returnType = none) (hlk : meth.locks = false) (hml : c.maxLocals = 4) (Z : ZK G s args m RX7) : ∀ (n : Nat) (x2 : Int32) (x3 : Int32)  (h : HP)  (rv : Option Value) (hq : HP) (ls : Array Slot) (H : Heap) (locs : List Loc) {q : HP}, lv_has ls 4 [(0, .ref (ra G 63)), (2, .int x2), (3, .int x3)] → HW G h s H locs → f_X7_judge_L36 n x2 x3 h = some q → (∀ (ls : Array Slot) (H : Heap) (locs : List Loc), lv_has ls 4 [] → HW G q s H locs → WZ p l e 2 s m args below meth c G rv hq H locs (F0 m 77 ls [])) → WZ p l e 2 s m args below meth c G rv hq H locs (F0 m 36 ls []) := by
  intro n
  induction n with
  | zero => intro x2 x3  h  rv hq ls H locs q hl hw hf kk; cases hf
  | succ n ih =>
    intro x2 x3  h  rv hq ls H locs q hl hw hf kk
    rw [f_X7_judge_L36] at hf
    refine lv_iload_n hx hb dX7_judge_36 rfl (lv_at hl 2 rfl) ?_
    refine lv_iload_n hx hb dX7_judge_37 rfl (lv_at hl 1 rfl) ?_
    refine lv_icmp_ge (tgt := 77) hx hb dX7_judge_38 (by decide) (fun c38 => ?_) (fun c38 => ?_)
    · have hf := (if_pos c38).symm.trans hf
      obtain rfl := Option.some.inj hf
      exact kk ls H locs (lv_sub hl [] rfl) hw
    · have hf := (if_neg c38).symm.trans hf
      refine lv_aload_n hx hb dX7_judge_41 rfl (lv_at hl 0 rfl) ?_
      refine z_getr (o := 63) (o2 := 68) (C := RX7) (T := TX7) (N := 4) (ci := 6) (k := 3) hx hb Z hw (by decide) (by omega) rfl inX7 (by decide) rfl wd221 dX7_judge_42 ?_
      refine lv_iload_n hx hb dX7_judge_45 rfl (lv_at hl 2 rfl) ?_
      refine z_callNi (As := [.ref (ra G 68), .int x3]) (rest := []) (t_X10_at G l hN 68 (by decide) (by omega) x3 h) cs_X10_at hx hb hml hl.1 Z hw wd408 rfl rfl (Nat.le_of_ble_eq_true rfl) (by decide) dX7_judge_46 (fun H locs hw => ?_)
      refine lv_iconst (v := (3 : Int32)) hx hb dX7_judge_49 (by decide) ?_
      obtain ⟨j50, hqj50, hf⟩ := tb_ex hf
      have HJ71 : ∀ (ls : Array Slot) (H : Heap) (locs : List Loc), lv_has ls 4 [(0, .ref (ra G 63)), (2, .int x2), (3, .int x3)] → HW G j50 s H locs → WZ p l e 2 s m args below meth c G rv hq H locs (F0 m 71 ls []) := by
        intro ls H locs hl hw
        refine lv_iinc (v := x3 + (1 : Int32)) (lv' := [(3, _), (0, _), (2, _)]) hx hb dX7_judge_71 hl (k := 2) rfl rfl (by decide) rfl (fun ls hl => ?_)
        refine lv_goto (tgt := 36) hx hb dX7_judge_74 (by decide) ?_
        exact ih x2 (x3 + (1 : Int32)) j50  rv hq ls H locs (lv_sub hl [1, 2, 0] rfl) hw hf kk
      have hf := hqj50
      refine lv_icmp_ne (tgt := 71) hx hb dX7_judge_50 (by decide) (fun c50 => ?_) (fun c50 => ?_)
      · have hf := (if_neg c50).symm.trans hf
        subst hf
        exact HJ71 ls H locs (lv_sub hl [0, 1, 2] rfl) hw
      · have hf := (if_pos c50).symm.trans hf
        refine lv_aload_n hx hb dX7_judge_53 rfl (lv_at hl 0 rfl) ?_
        refine lv_iload_n hx hb dX7_judge_54 rfl (lv_at hl 2 rfl) ?_
        refine lv_iload_n hx hb dX7_judge_55 rfl (lv_at hl 1 rfl) ?_
        refine z_callVi (o := 63) (ci := 6) (As := [.int x3, .int x2]) (rest := []) (t_X7_canBeFilled G l hN x3 x2 h) cv_X7_canBeFilled hx hb hml hl.1 Z hw (by decide) (by decide) (by omega) rfl rfl wd412 rfl rfl (Nat.le_of_ble_eq_true rfl) (by decide) dX7_judge_56 (fun H locs hw => ?_)
        refine lv_if_eq (tgt := 71) hx hb dX7_judge_59 (by decide) (fun c59 => ?_) (fun c59 => ?_)
        · have hf := (if_pos c59).symm.trans hf
          subst hf
          exact HJ71 ls H locs (lv_sub hl [0, 1, 2] rfl) hw
        · have hf := (if_neg c59).symm.trans hf
          refine lv_aload_n hx hb dX7_judge_62 rfl (lv_at hl 0 rfl) ?_
          refine z_getr (o := 63) (o2 := 68) (C := RX7) (T := TX7) (N := 4) (ci := 6) (k := 3) hx hb Z hw (by decide) (by omega) rfl inX7 (by decide) rfl wd221 dX7_judge_63 ?_
          refine lv_iload_n hx hb dX7_judge_66 rfl (lv_at hl 2 rfl) ?_
          refine lv_iconst (v := (2 : Int32)) hx hb dX7_judge_67 (by decide) ?_
          obtain ⟨q68, hq68, hf⟩ := tb_ex hf
          refine z_callNv (As := [.ref (ra G 68), .int x3, .int (2 : Int32)]) (rest := []) (t_X10_put G l hN 68 (by decide) (by omega) x3 (2 : Int32) h hq68) cs_X10_put hx hb hml hl.1 Z hw wd409 rfl rfl (Nat.le_of_ble_eq_true rfl) (by decide) dX7_judge_68 (fun H locs hw => ?_)
          subst hf
          exact HJ71 ls H locs (lv_sub hl [0, 1, 2] rfl) hw
set_option maxHeartbeats 4000000 in
set_option maxRecDepth 100000 in
theorem t_X7_judge (G : GM) (l : Launch) (hN : 70 ≤ gN G) (x1 : Int32) (h : HP) {h' : HP} (hf : f_X7_judge x1 h = some h') : MC G l yX7_judge cX7_judge 4 none 2 [.ref (ra G 63), .int x1] h h' none := by
  unfold f_X7_judge at hf
  refine z_start (by decide) (Nat.le_of_ble_eq_true rfl) ?_
  intro p e s m args below meth c ls hx hb hr hlk hml Z hw hl
  have Z : ZK G s args m RX7 := Z
  have hl : lv_has ls 4 [(0, .ref (ra G 63)), (1, .int x1)] := hl
  obtain ⟨H, hH⟩ : ∃ H, H = s.heap := ⟨_, rfl⟩
  rw [← hH] at hw ⊢
  obtain ⟨locs, hlc⟩ : ∃ locs : List Loc, locs = [] := ⟨_, rfl⟩
  rw [← hlc] at hw ⊢
  refine lv_aload_n hx hb dX7_judge_0 rfl (lv_at hl 0 rfl) ?_
  refine z_getr (o := 63) (o2 := 64) (C := RX7) (T := TX7) (N := 4) (ci := 6) (k := 0) hx hb Z hw (by decide) (by omega) rfl inX7 (by decide) rfl wd218 dX7_judge_1 ?_
  refine z_callVi (o := 64) (ci := 4) (As := []) (rest := []) (t_X5_allFrames G l hN 64 (by decide) (by omega) h) cv_X5_allFrames hx hb hml hl.1 Z hw (by decide) (by decide) (by omega) rfl rfl wd399 rfl rfl (Nat.le_of_ble_eq_true rfl) (by decide) dX7_judge_4 (fun H locs hw => ?_)
  refine lv_istore_n (lv' := [(2, _), (0, _), (1, _)]) hx hb dX7_judge_7 rfl hl (by decide) rfl (fun ls hl => ?_)
  refine lv_iconst (v := (0 : Int32)) hx hb dX7_judge_8 (by decide) ?_
  refine lv_istore_n (lv' := [(3, _), (2, _), (0, _), (1, _)]) hx hb dX7_judge_9 rfl hl (by decide) rfl (fun ls hl => ?_)
  obtain ⟨q10, hq10, hf⟩ := ob_some hf
  refine w_X7_judge_L10 G l hN  hx hb hr hlk hml Z FU x1 (f_X5_allFrames 64 h) (0 : Int32) h  _ _ ls H locs (lv_sub hl [2, 3, 1, 0] rfl) hw hq10 (fun ls H locs hl hw => ?_)
  refine lv_iconst (v := (0 : Int32)) hx hb dX7_judge_34 (by decide) ?_
  refine lv_istore_n (lv' := [(3, _), (0, _), (2, _)]) hx hb dX7_judge_35 rfl hl (by decide) rfl (fun ls hl => ?_)
  obtain ⟨q36, hq36, hf⟩ := ob_some hf
  refine w_X7_judge_L36 G l hN  hx hb hr hlk hml Z FU (f_X5_allFrames 64 h) (0 : Int32) q10  _ _ ls H locs (lv_sub hl [1, 2, 0] rfl) hw hq36 (fun ls H locs hl hw => ?_)
  obtain rfl := Option.some.inj hf
  exact z_vret hx hb hr hlk hw dX7_judge_77
set_option maxHeartbeats 4000000 in
set_option maxRecDepth 100000 in
theorem t_X4_fromOf (G : GM) (l : Launch) (hN : 70 ≤ gN G) (o0 : Nat) (k_o0 : kd o0 = 3) (n_o0 : o0 < gN G) (x1 : Int32) (h : HP) : MC G l yX4_fromOf cX4_fromOf 2 (some .int) 1 [.ref (ra G o0), .int x1] h h (some (.int (f_X4_fromOf o0 x1 h))) := by
  generalize hf : f_X4_fromOf o0 x1 h = r
  unfold f_X4_fromOf at hf
  refine z_start (by decide) (Nat.le_of_ble_eq_true rfl) ?_
  intro p e s m args below meth c ls hx hb hr hlk hml Z hw hl
  have Z : ZK G s args m RX4 := Z
  have hl : lv_has ls 2 [(0, .ref (ra G o0)), (1, .int x1)] := hl
  obtain ⟨H, hH⟩ : ∃ H, H = s.heap := ⟨_, rfl⟩
  rw [← hH] at hw ⊢
  obtain ⟨locs, hlc⟩ : ∃ locs : List Loc, locs = [] := ⟨_, rfl⟩
  rw [← hlc] at hw ⊢
  refine lv_aload_n hx hb dX4_fromOf_0 rfl (lv_at hl 0 rfl) ?_
  refine z_getr (o := o0) (o2 := o0 + 1) (C := RX4) (T := TX4) (N := 2) (ci := 3) (k := 0) hx hb Z hw k_o0 n_o0 rfl inX4 (by decide) rfl wd85 dX4_fromOf_1 ?_
  refine lv_iload_n hx hb dX4_fromOf_4 rfl (lv_at hl 1 rfl) ?_
  refine lv_iconst (v := (4 : Int32)) hx hb dX4_fromOf_5 (by decide) ?_
  refine lv_imul hx hb dX4_fromOf_6 ?_
  refine z_callNi (As := [.ref (ra G (o0 + 1)), .int (x1 * (4 : Int32))]) (rest := []) (t_X10_at G l hN (o0 + 1) (kd_C_1 k_o0) (by have := kd_C_n k_o0; omega) (x1 * (4 : Int32)) h) cs_X10_at hx hb hml hl.1 Z hw wd355 rfl rfl (Nat.le_of_ble_eq_true rfl) (by decide) dX4_fromOf_7 (fun H locs hw => ?_)
  obtain rfl := hf
  exact z_iret hx hb hr hlk hw dX4_fromOf_10
set_option maxHeartbeats 4000000 in
set_option maxRecDepth 100000 in
theorem t_X4_innerOf (G : GM) (l : Launch) (hN : 70 ≤ gN G) (o0 : Nat) (k_o0 : kd o0 = 3) (n_o0 : o0 < gN G) (x1 : Int32) (h : HP) : MC G l yX4_innerOf cX4_innerOf 2 (some .int) 1 [.ref (ra G o0), .int x1] h h (some (.int (f_X4_innerOf o0 x1 h))) := by
  generalize hf : f_X4_innerOf o0 x1 h = r
  unfold f_X4_innerOf at hf
  refine z_start (by decide) (Nat.le_of_ble_eq_true rfl) ?_
  intro p e s m args below meth c ls hx hb hr hlk hml Z hw hl
  have Z : ZK G s args m RX4 := Z
  have hl : lv_has ls 2 [(0, .ref (ra G o0)), (1, .int x1)] := hl
  obtain ⟨H, hH⟩ : ∃ H, H = s.heap := ⟨_, rfl⟩
  rw [← hH] at hw ⊢
  obtain ⟨locs, hlc⟩ : ∃ locs : List Loc, locs = [] := ⟨_, rfl⟩
  rw [← hlc] at hw ⊢
  refine lv_aload_n hx hb dX4_innerOf_0 rfl (lv_at hl 0 rfl) ?_
  refine z_getr (o := o0) (o2 := o0 + 1) (C := RX4) (T := TX4) (N := 2) (ci := 3) (k := 0) hx hb Z hw k_o0 n_o0 rfl inX4 (by decide) rfl wd85 dX4_innerOf_1 ?_
  refine lv_iload_n hx hb dX4_innerOf_4 rfl (lv_at hl 1 rfl) ?_
  refine lv_iconst (v := (4 : Int32)) hx hb dX4_innerOf_5 (by decide) ?_
  refine lv_imul hx hb dX4_innerOf_6 ?_
  refine lv_iconst (v := (2 : Int32)) hx hb dX4_innerOf_7 (by decide) ?_
  refine lv_iadd hx hb dX4_innerOf_8 ?_
  refine z_callNi (As := [.ref (ra G (o0 + 1)), .int ((x1 * (4 : Int32)) + (2 : Int32))]) (rest := []) (t_X10_at G l hN (o0 + 1) (kd_C_1 k_o0) (by have := kd_C_n k_o0; omega) ((x1 * (4 : Int32)) + (2 : Int32)) h) cs_X10_at hx hb hml hl.1 Z hw wd355 rfl rfl (Nat.le_of_ble_eq_true rfl) (by decide) dX4_innerOf_9 (fun H locs hw => ?_)
  obtain rfl := hf
  exact z_iret hx hb hr hlk hw dX4_innerOf_12
set_option maxHeartbeats 4000000 in
set_option maxRecDepth 100000 in
theorem t_X4_outerOf (G : GM) (l : Launch) (hN : 70 ≤ gN G) (o0 : Nat) (k_o0 : kd o0 = 3) (n_o0 : o0 < gN G) (x1 : Int32) (h : HP) : MC G l yX4_outerOf cX4_outerOf 2 (some .int) 1 [.ref (ra G o0), .int x1] h h (some (.int (f_X4_outerOf o0 x1 h))) := by
  generalize hf : f_X4_outerOf o0 x1 h = r
  unfold f_X4_outerOf at hf
  refine z_start (by decide) (Nat.le_of_ble_eq_true rfl) ?_
  intro p e s m args below meth c ls hx hb hr hlk hml Z hw hl
  have Z : ZK G s args m RX4 := Z
  have hl : lv_has ls 2 [(0, .ref (ra G o0)), (1, .int x1)] := hl
  obtain ⟨H, hH⟩ : ∃ H, H = s.heap := ⟨_, rfl⟩
  rw [← hH] at hw ⊢
  obtain ⟨locs, hlc⟩ : ∃ locs : List Loc, locs = [] := ⟨_, rfl⟩
  rw [← hlc] at hw ⊢
  refine lv_aload_n hx hb dX4_outerOf_0 rfl (lv_at hl 0 rfl) ?_
  refine z_getr (o := o0) (o2 := o0 + 1) (C := RX4) (T := TX4) (N := 2) (ci := 3) (k := 0) hx hb Z hw k_o0 n_o0 rfl inX4 (by decide) rfl wd85 dX4_outerOf_1 ?_
  refine lv_iload_n hx hb dX4_outerOf_4 rfl (lv_at hl 1 rfl) ?_
  refine lv_iconst (v := (4 : Int32)) hx hb dX4_outerOf_5 (by decide) ?_
  refine lv_imul hx hb dX4_outerOf_6 ?_
  refine lv_iconst (v := (3 : Int32)) hx hb dX4_outerOf_7 (by decide) ?_
  refine lv_iadd hx hb dX4_outerOf_8 ?_
  refine z_callNi (As := [.ref (ra G (o0 + 1)), .int ((x1 * (4 : Int32)) + (3 : Int32))]) (rest := []) (t_X10_at G l hN (o0 + 1) (kd_C_1 k_o0) (by have := kd_C_n k_o0; omega) ((x1 * (4 : Int32)) + (3 : Int32)) h) cs_X10_at hx hb hml hl.1 Z hw wd355 rfl rfl (Nat.le_of_ble_eq_true rfl) (by decide) dX4_outerOf_9 (fun H locs hw => ?_)
  obtain rfl := hf
  exact z_iret hx hb hr hlk hw dX4_outerOf_12
set_option maxHeartbeats 4000000 in
set_option maxRecDepth 100000 in
theorem t_X4_toOf (G : GM) (l : Launch) (hN : 70 ≤ gN G) (o0 : Nat) (k_o0 : kd o0 = 3) (n_o0 : o0 < gN G) (x1 : Int32) (h : HP) : MC G l yX4_toOf cX4_toOf 2 (some .int) 1 [.ref (ra G o0), .int x1] h h (some (.int (f_X4_toOf o0 x1 h))) := by
  generalize hf : f_X4_toOf o0 x1 h = r
  unfold f_X4_toOf at hf
  refine z_start (by decide) (Nat.le_of_ble_eq_true rfl) ?_
  intro p e s m args below meth c ls hx hb hr hlk hml Z hw hl
  have Z : ZK G s args m RX4 := Z
  have hl : lv_has ls 2 [(0, .ref (ra G o0)), (1, .int x1)] := hl
  obtain ⟨H, hH⟩ : ∃ H, H = s.heap := ⟨_, rfl⟩
  rw [← hH] at hw ⊢
  obtain ⟨locs, hlc⟩ : ∃ locs : List Loc, locs = [] := ⟨_, rfl⟩
  rw [← hlc] at hw ⊢
  refine lv_aload_n hx hb dX4_toOf_0 rfl (lv_at hl 0 rfl) ?_
  refine z_getr (o := o0) (o2 := o0 + 1) (C := RX4) (T := TX4) (N := 2) (ci := 3) (k := 0) hx hb Z hw k_o0 n_o0 rfl inX4 (by decide) rfl wd85 dX4_toOf_1 ?_
  refine lv_iload_n hx hb dX4_toOf_4 rfl (lv_at hl 1 rfl) ?_
  refine lv_iconst (v := (4 : Int32)) hx hb dX4_toOf_5 (by decide) ?_
  refine lv_imul hx hb dX4_toOf_6 ?_
  refine lv_iconst (v := (1 : Int32)) hx hb dX4_toOf_7 (by decide) ?_
  refine lv_iadd hx hb dX4_toOf_8 ?_
  refine z_callNi (As := [.ref (ra G (o0 + 1)), .int ((x1 * (4 : Int32)) + (1 : Int32))]) (rest := []) (t_X10_at G l hN (o0 + 1) (kd_C_1 k_o0) (by have := kd_C_n k_o0; omega) ((x1 * (4 : Int32)) + (1 : Int32)) h) cs_X10_at hx hb hml hl.1 Z hw wd355 rfl rfl (Nat.le_of_ble_eq_true rfl) (by decide) dX4_toOf_9 (fun H locs hw => ?_)
  obtain rfl := hf
  exact z_iret hx hb hr hlk hw dX4_toOf_12
set_option maxHeartbeats 4000000 in
set_option maxRecDepth 100000 in
theorem t_X5_framesOf (G : GM) (l : Launch) (hN : 70 ≤ gN G) (o0 : Nat) (k_o0 : kd o0 = 4) (n_o0 : o0 < gN G) (x1 : Int32) (h : HP) : MC G l yX5_framesOf cX5_framesOf 2 (some .int) 0 [.ref (ra G o0), .int x1] h h (some (.int (f_X5_framesOf o0 x1 h))) := by
  generalize hf : f_X5_framesOf o0 x1 h = r
  unfold f_X5_framesOf at hf
  refine z_start (by decide) (Nat.le_of_ble_eq_true rfl) ?_
  intro p e s m args below meth c ls hx hb hr hlk hml Z hw hl
  have Z : ZK G s args m RX5 := Z
  have hl : lv_has ls 2 [(0, .ref (ra G o0)), (1, .int x1)] := hl
  obtain ⟨H, hH⟩ : ∃ H, H = s.heap := ⟨_, rfl⟩
  rw [← hH] at hw ⊢
  obtain ⟨locs, hlc⟩ : ∃ locs : List Loc, locs = [] := ⟨_, rfl⟩
  rw [← hlc] at hw ⊢
  refine lv_aload_n hx hb dX5_framesOf_0 rfl (lv_at hl 0 rfl) ?_
  refine z_geti (o := o0) (C := RX5) (T := TX5) (N := 6) (ci := 4) (k := 0) hx hb Z hw k_o0 n_o0 rfl inX5 (by decide) wd56 dX5_framesOf_1 ?_
  refine lv_aload_n hx hb dX5_framesOf_4 rfl (lv_at hl 0 rfl) ?_
  refine z_geti (o := o0) (C := RX5) (T := TX5) (N := 6) (ci := 4) (k := 1) hx hb Z hw k_o0 n_o0 rfl inX5 (by decide) wd57 dX5_framesOf_5 ?_
  refine lv_iload_n hx hb dX5_framesOf_8 rfl (lv_at hl 1 rfl) ?_
  refine lv_imul hx hb dX5_framesOf_9 ?_
  refine lv_iadd hx hb dX5_framesOf_10 ?_
  obtain rfl := hf
  exact z_iret hx hb hr hlk hw dX5_framesOf_11
set_option maxHeartbeats 4000000 in
set_option maxRecDepth 100000 in
theorem w_X7_markRow_L7 (G : GM) (l : Launch) (hN : 70 ≤ gN G)  {p : Program} {e : Env} {s : State} {m : MethodId} {args : Array Value} {below : List Frame} {meth : Method} {c : Code} (hx : p.tables.exec = Jvm.exec) (hb : c.code = cX7_markRow) (hr : meth.sig.returnType = none) (hlk : meth.locks = false) (hml : c.maxLocals = 5) (Z : ZK G s args m RX7) : ∀ (n : Nat) (x2 : Int32) (x3 : Int32) (x4 : Int32)  (h : HP)  (rv : Option Value) (hq : HP) (ls : Array Slot) (H : Heap) (locs : List Loc) {q : HP}, lv_has ls 5 [(0, .ref (ra G 63)), (2, .int x2), (3, .int x3), (4, .int x4)] → HW G h s H locs → f_X7_markRow_L7 n x2 x3 x4 h = some q → (∀ (ls : Array Slot) (H : Heap) (locs : List Loc), lv_has ls 5 [] → HW G q s H locs → WZ p l e 0 s m args below meth c G rv hq H locs (F0 m 40 ls [])) → WZ p l e 0 s m args below meth c G rv hq H locs (F0 m 7 ls []) := by
  intro n
  induction n with
  | zero => intro x2 x3 x4  h  rv hq ls H locs q hl hw hf kk; cases hf
  | succ n ih =>
    intro x2 x3 x4  h  rv hq ls H locs q hl hw hf kk
    rw [f_X7_markRow_L7] at hf
    refine lv_iload hx hb dX7_markRow_7 (lv_at hl 3 rfl) ?_
    refine lv_iload_n hx hb dX7_markRow_9 rfl (lv_at hl 1 rfl) ?_
    refine lv_icmp_gt (tgt := 40) hx hb dX7_markRow_10 (by decide) (fun c10 => ?_) (fun c10 => ?_)
    · have hf := (if_pos c10).symm.trans hf
      obtain rfl := Option.some.inj hf
      exact kk ls H locs (lv_sub hl [] rfl) hw
    · have hf := (if_neg c10).symm.trans hf
      refine lv_iload hx hb dX7_markRow_13 (lv_at hl 3 rfl) ?_
      refine lv_aload_n hx hb dX7_markRow_15 rfl (lv_at hl 0 rfl) ?_
      refine z_getr (o := 63) (o2 := 67) (C := RX7) (T := TX7) (N := 4) (ci := 6) (k := 2) hx hb Z hw (by decide) (by omega) rfl inX7 (by decide) rfl wd220 dX7_markRow_16 ?_
      refine z_alen (o := 67) (v := (3810 : Int32)) hx hb Z hw (by decide) (by omega) (by decide) dX7_markRow_19 ?_
      refine lv_icmp_ge (tgt := 40) hx hb dX7_markRow_20 (by decide) (fun c20 => ?_) (fun c20 => ?_)
      · have hf := (if_pos c20).symm.trans hf
        obtain rfl := Option.some.inj hf
        exact kk ls H locs (lv_sub hl [] rfl) hw
      · have hf := (if_neg c20).symm.trans hf
        refine lv_aload_n hx hb dX7_markRow_23 rfl (lv_at hl 0 rfl) ?_
        refine z_getr (o := 63) (o2 := 67) (C := RX7) (T := TX7) (N := 4) (ci := 6) (k := 2) hx hb Z hw (by decide) (by omega) rfl inX7 (by decide) rfl wd220 dX7_markRow_24 ?_
        refine lv_iload hx hb dX7_markRow_27 (lv_at hl 3 rfl) ?_
        refine lv_dup2_11 hx hb dX7_markRow_29 rfl rfl ?_
        obtain ⟨h30, hf⟩ := gd_some hf
        refine y_iald (o := 67) (k := x4.toNatClampNeg) hx hb Z hw (by decide) (by omega) rfl (inB_vp h30) dX7_markRow_30 ?_
        refine lv_iload_n hx hb dX7_markRow_31 rfl (lv_at hl 2 rfl) ?_
        refine lv_ior hx hb dX7_markRow_32 ?_
        obtain ⟨h33, hf⟩ := gd_some hf
        refine y_iast (o := 67) (k := x4.toNatClampNeg) hx hb Z hw (by decide) (by omega) rfl (inB_vp h33) dX7_markRow_33 (fun H locs hw => ?_)
        refine lv_iinc (v := x4 + (1 : Int32)) (lv' := [(4, _), (0, _), (2, _), (3, _)]) hx hb dX7_markRow_34 hl (k := 3) rfl rfl (by decide) rfl (fun ls hl => ?_)
        refine lv_goto (tgt := 7) hx hb dX7_markRow_37 (by decide) ?_
        exact ih x2 x3 (x4 + (1 : Int32)) (hset h 67 x4.toNatClampNeg ((h 67 x4.toNatClampNeg) ||| x3))  rv hq ls H locs (lv_sub hl [1, 2, 3, 0] rfl) hw hf kk
set_option maxHeartbeats 4000000 in
set_option maxRecDepth 100000 in
theorem t_X7_markRow (G : GM) (l : Launch) (hN : 70 ≤ gN G) (x1 : Int32) (x2 : Int32) (x3 : Int32) (h : HP) {h' : HP} (hf : f_X7_markRow x1 x2 x3 h = some h') : MC G l yX7_markRow cX7_markRow 5 none 0 [.ref (ra G 63), .int x1, .int x2, .int x3] h h' none := by
  unfold f_X7_markRow at hf
  refine z_start (by decide) (Nat.le_of_ble_eq_true rfl) ?_
  intro p e s m args below meth c ls hx hb hr hlk hml Z hw hl
  have Z : ZK G s args m RX7 := Z
  have hl : lv_has ls 5 [(0, .ref (ra G 63)), (1, .int x1), (2, .int x2), (3, .int x3)] := hl
  obtain ⟨H, hH⟩ : ∃ H, H = s.heap := ⟨_, rfl⟩
  rw [← hH] at hw ⊢
  obtain ⟨locs, hlc⟩ : ∃ locs : List Loc, locs = [] := ⟨_, rfl⟩
  rw [← hlc] at hw ⊢
  refine lv_iload_n hx hb dX7_markRow_0 rfl (lv_at hl 1 rfl) ?_
  refine lv_iconst (v := (0 : Int32)) hx hb dX7_markRow_1 (by decide) ?_
  refine z_mmax hx hb (hml.trans hl.1.symm) Z wd386 wd387 wd35 wd388 (Nat.le_of_ble_eq_true rfl) dX7_markRow_2 ?_
  refine lv_istore (lv' := [(4, _), (0, _), (1, _), (2, _), (3, _)]) hx hb dX7_markRow_5 hl (by decide) rfl (fun ls hl => ?_)
  obtain ⟨q7, hq7, hf⟩ := ob_some hf
  refine w_X7_markRow_L7 G l hN  hx hb hr hlk hml Z FU x2 x3 (jmax x1 (0 : Int32)) h  _ _ ls H locs (lv_sub hl [1, 3, 4, 0] rfl) hw hq7 (fun ls H locs hl hw => ?_)
  obtain rfl := Option.some.inj hf
  exact z_vret hx hb hr hlk hw dX7_markRow_40
set_option maxHeartbeats 4000000 in
set_option maxRecDepth 100000 in
theorem w_X7_markScratch_L49 (G : GM) (l : Launch) (hN : 70 ≤ gN G)  {p : Program} {e : Env} {s : State} {m : MethodId} {args : Array Value} {below : List Frame} {meth : Method} {c : Code} (hx : p.tables.exec = Jvm.exec) (hb : c.code = cX7_markScratch) (hr : meth.sig.returnType = none) (hlk : meth.locks = false) (hml : c.maxLocals = 8) (Z : ZK G s args m RX7) : ∀ (n : Nat) (x1 : Int32) (x2 : Int32) (x3 : Int32) (x4 : Int32) (x5 : Int32)  (h : HP)  (rv : Option Value) (hq : HP) (ls : Array Slot) (H : Heap) (locs : List Loc) {q : HP}, lv_has ls 8 [(0, .ref (ra G 63)), (1, .int x1), (2, .int x2), (3, .int x3), (4, .int x4), (5, .int x5)] → HW G h s H locs → f_X7_markScratch_L49 n x1 x2 x3 x4 x5 h = some q → (∀ (ls : Array Slot) (H : Heap) (locs : List Loc), lv_has ls 8 [] → HW G q s H locs → WZ p l e 2 s m args below meth c G rv hq H locs (F0 m 115 ls [])) → WZ p l e 2 s m args below meth c G rv hq H locs (F0 m 49 ls []) := by
  intro n
  induction n with
  | zero => intro x1 x2 x3 x4 x5  h  rv hq ls H locs q hl hw hf kk; cases hf
  | succ n ih =>
    intro x1 x2 x3 x4 x5  h  rv hq ls H locs q hl hw hf kk
    rw [f_X7_markScratch_L49] at hf
    refine lv_iload hx hb dX7_markScratch_49 (lv_at hl 5 rfl) ?_
    refine lv_iload hx hb dX7_markScratch_51 (lv_at hl 4 rfl) ?_
    refine lv_icmp_gt (tgt := 115) hx hb dX7_markScratch_53 (by decide) (fun c53 => ?_) (fun c53 => ?_)
    · have hf := (if_pos c53).symm.trans hf
      obtain rfl := Option.some.inj hf
      exact kk ls H locs (lv_sub hl [] rfl) hw
    · have hf := (if_neg c53).symm.trans hf
      refine lv_aload_n hx hb dX7_markScratch_56 rfl (lv_at hl 0 rfl) ?_
      refine z_getr (o := 63) (o2 := 64) (C := RX7) (T := TX7) (N := 4) (ci := 6) (k := 0) hx hb Z hw (by decide) (by omega) rfl inX7 (by decide) rfl wd218 dX7_markScratch_57 ?_
      refine lv_iload hx hb dX7_markScratch_60 (lv_at hl 5 rfl) ?_
      refine z_callVi (o := 64) (ci := 4) (As := [.int x5]) (rest := []) (t_X5_framesOf G l hN 64 (by decide) (by omega) x5 h) cv_X5_framesOf hx hb hml hl.1 Z hw (by decide) (by decide) (by omega) rfl rfl wd389 rfl rfl (Nat.le_of_ble_eq_true rfl) (by decide) dX7_markScratch_62 (fun H locs hw => ?_)
      refine lv_istore (lv' := [(6, _), (0, _), (1, _), (2, _), (3, _), (4, _), (5, _)]) hx hb dX7_markScratch_65 hl (by decide) rfl (fun ls hl => ?_)
      refine lv_aload_n hx hb dX7_markScratch_67 rfl (lv_at hl 1 rfl) ?_
      refine z_getr (o := 63) (o2 := 64) (C := RX7) (T := TX7) (N := 4) (ci := 6) (k := 0) hx hb Z hw (by decide) (by omega) rfl inX7 (by decide) rfl wd218 dX7_markScratch_68 ?_
      refine lv_iload hx hb dX7_markScratch_71 (lv_at hl 6 rfl) ?_
      refine z_callVi (o := 64) (ci := 4) (As := [.int x5]) (rest := []) (t_X5_firstOf G l hN 64 (by decide) (by omega) x5 h) cv_X5_firstOf hx hb hml hl.1 Z hw (by decide) (by decide) (by omega) rfl rfl wd390 rfl rfl (Nat.le_of_ble_eq_true rfl) (by decide) dX7_markScratch_73 (fun H locs hw => ?_)
      refine lv_istore (lv' := [(7, _), (6, _), (0, _), (1, _), (2, _), (3, _), (4, _), (5, _)]) hx hb dX7_markScratch_76 hl (by decide) rfl (fun ls hl => ?_)
      refine lv_aload_n hx hb dX7_markScratch_78 rfl (lv_at hl 2 rfl) ?_
      refine lv_iload hx hb dX7_markScratch_79 (lv_at hl 0 rfl) ?_
      refine lv_iload_n hx hb dX7_markScratch_81 rfl (lv_at hl 4 rfl) ?_
      refine lv_iload hx hb dX7_markScratch_82 (lv_at hl 1 rfl) ?_
      refine lv_imul hx hb dX7_markScratch_84 ?_
      refine lv_sipush (v := (360 : Int32)) hx hb dX7_markScratch_85 (by decide) ?_
      refine lv_idiv hx hb dX7_markScratch_88 (by decide) ?_
      refine lv_iadd hx hb dX7_markScratch_89 ?_
      refine lv_iload hx hb dX7_markScratch_90 (lv_at hl 0 rfl) ?_
      refine lv_iload_n hx hb dX7_markScratch_92 rfl (lv_at hl 5 rfl) ?_
      refine lv_iload hx hb dX7_markScratch_93 (lv_at hl 1 rfl) ?_
      refine lv_imul hx hb dX7_markScratch_95 ?_
      refine lv_iconst (v := (1 : Int32)) hx hb dX7_markScratch_96 (by decide) ?_
      refine lv_isub hx hb dX7_markScratch_97 ?_
      refine lv_sipush (v := (360 : Int32)) hx hb dX7_markScratch_98 (by decide) ?_
      refine lv_idiv hx hb dX7_markScratch_101 (by decide) ?_
      refine lv_iadd hx hb dX7_markScratch_102 ?_
      refine lv_iconst (v := (1 : Int32)) hx hb dX7_markScratch_103 (by decide) ?_
      refine lv_iload_n hx hb dX7_markScratch_104 rfl (lv_at hl 3 rfl) ?_
      refine lv_ishl hx hb dX7_markScratch_105 ?_
      obtain ⟨q106, hq106, hf⟩ := ob_some hf
      refine z_callVv (o := 63) (ci := 6) (As := [.int ((f_X5_firstOf 64 x5 h) + ((x2 * (f_X5_framesOf 64 x5 h)) / (360 : Int32))), .int ((f_X5_firstOf 64 x5 h) + (((x3 * (f_X5_framesOf 64 x5 h)) - (1 : Int32)) / (360 : Int32))), .int ((1 : Int32) <<< (x1 &&& 31))]) (rest := []) (t_X7_markRow G l hN ((f_X5_firstOf 64 x5 h) + ((x2 * (f_X5_framesOf 64 x5 h)) / (360 : Int32))) ((f_X5_firstOf 64 x5 h) + (((x3 * (f_X5_framesOf 64 x5 h)) - (1 : Int32)) / (360 : Int32))) ((1 : Int32) <<< (x1 &&& 31)) h hq106) cv_X7_markRow hx hb hml hl.1 Z hw (by decide) (by decide) (by omega) rfl rfl wd391 rfl rfl (Nat.le_of_ble_eq_true rfl) (by decide) dX7_markScratch_106 (fun H locs hw => ?_)
      refine lv_iinc (v := x5 + (1 : Int32)) (lv' := [(5, _), (7, _), (6, _), (0, _), (1, _), (2, _), (3, _), (4, _)]) hx hb dX7_markScratch_109 hl (k := 7) rfl rfl (by decide) rfl (fun ls hl => ?_)
      refine lv_goto (tgt := 49) hx hb dX7_markScratch_112 (by decide) ?_
      exact ih x1 x2 x3 x4 (x5 + (1 : Int32)) q106  rv hq ls H locs (lv_sub hl [3, 4, 5, 6, 7, 0] rfl) hw hf kk
set_option maxHeartbeats 4000000 in
set_option maxRecDepth 100000 in
theorem t_X7_markScratch (G : GM) (l : Launch) (hN : 70 ≤ gN G) (x1 : Int32) (h : HP) {h' : HP} (hf : f_X7_markScratch x1 h = some h') : MC G l yX7_markScratch cX7_markScratch 8 none 2 [.ref (ra G 63), .int x1] h h' none := by
  unfold f_X7_markScratch at hf
  refine z_start (by decide) (Nat.le_of_ble_eq_true rfl) ?_
  intro p e s m args below meth c ls hx hb hr hlk hml Z hw hl
  have Z : ZK G s args m RX7 := Z
  have hl : lv_has ls 8 [(0, .ref (ra G 63)), (1, .int x1)] := hl
  obtain ⟨H, hH⟩ : ∃ H, H = s.heap := ⟨_, rfl⟩
  rw [← hH] at hw ⊢
  obtain ⟨locs, hlc⟩ : ∃ locs : List Loc, locs = [] := ⟨_, rfl⟩
  rw [← hlc] at hw ⊢
  refine lv_aload_n hx hb dX7_markScratch_0 rfl (lv_at hl 0 rfl) ?_
  refine z_getr (o := 63) (o2 := 65) (C := RX7) (T := TX7) (N := 4) (ci := 6) (k := 1) hx hb Z hw (by decide) (by omega) rfl inX7 (by decide) rfl wd219 dX7_markScratch_1 ?_
  refine lv_iload_n hx hb dX7_markScratch_4 rfl (lv_at hl 1 rfl) ?_
  refine z_callVi (o := 65) (ci := 3) (As := [.int x1]) (rest := []) (t_X4_fromOf G l hN 65 (by decide) (by omega) x1 h) cv_X4_fromOf hx hb hml hl.1 Z hw (by decide) (by decide) (by omega) rfl rfl wd367 rfl rfl (Nat.le_of_ble_eq_true rfl) (by decide) dX7_markScratch_5 (fun H locs hw => ?_)
  refine lv_istore_n (lv' := [(2, _), (0, _), (1, _)]) hx hb dX7_markScratch_8 rfl hl (by decide) rfl (fun ls hl => ?_)
  refine lv_aload_n hx hb dX7_markScratch_9 rfl (lv_at hl 1 rfl) ?_
  refine z_getr (o := 63) (o2 := 65) (C := RX7) (T := TX7) (N := 4) (ci := 6) (k := 1) hx hb Z hw (by decide) (by omega) rfl inX7 (by decide) rfl wd219 dX7_markScratch_10 ?_
  refine lv_iload_n hx hb dX7_markScratch_13 rfl (lv_at hl 2 rfl) ?_
  refine z_callVi (o := 65) (ci := 3) (As := [.int x1]) (rest := []) (t_X4_toOf G l hN 65 (by decide) (by omega) x1 h) cv_X4_toOf hx hb hml hl.1 Z hw (by decide) (by decide) (by omega) rfl rfl wd371 rfl rfl (Nat.le_of_ble_eq_true rfl) (by decide) dX7_markScratch_14 (fun H locs hw => ?_)
  refine lv_iconst (v := (1 : Int32)) hx hb dX7_markScratch_17 (by decide) ?_
  refine lv_iadd hx hb dX7_markScratch_18 ?_
  refine lv_istore_n (lv' := [(3, _), (2, _), (0, _), (1, _)]) hx hb dX7_markScratch_19 rfl hl (by decide) rfl (fun ls hl => ?_)
  refine lv_aload_n hx hb dX7_markScratch_20 rfl (lv_at hl 2 rfl) ?_
  refine z_getr (o := 63) (o2 := 65) (C := RX7) (T := TX7) (N := 4) (ci := 6) (k := 1) hx hb Z hw (by decide) (by omega) rfl inX7 (by decide) rfl wd219 dX7_markScratch_21 ?_
  refine lv_iload_n hx hb dX7_markScratch_24 rfl (lv_at hl 3 rfl) ?_
  refine z_callVi (o := 65) (ci := 3) (As := [.int x1]) (rest := []) (t_X4_outerOf G l hN 65 (by decide) (by omega) x1 h) cv_X4_outerOf hx hb hml hl.1 Z hw (by decide) (by decide) (by omega) rfl rfl wd375 rfl rfl (Nat.le_of_ble_eq_true rfl) (by decide) dX7_markScratch_25 (fun H locs hw => ?_)
  refine lv_bipush (v := (29 : Int32)) hx hb dX7_markScratch_28 (by decide) ?_
  refine z_mmin hx hb (hml.trans hl.1.symm) Z wd379 wd380 wd35 wd381 (Nat.le_of_ble_eq_true rfl) dX7_markScratch_30 ?_
  refine lv_istore (lv' := [(4, _), (3, _), (2, _), (0, _), (1, _)]) hx hb dX7_markScratch_33 hl (by decide) rfl (fun ls hl => ?_)
  refine lv_aload_n hx hb dX7_markScratch_35 rfl (lv_at hl 3 rfl) ?_
  refine z_getr (o := 63) (o2 := 65) (C := RX7) (T := TX7) (N := 4) (ci := 6) (k := 1) hx hb Z hw (by decide) (by omega) rfl inX7 (by decide) rfl wd219 dX7_markScratch_36 ?_
  refine lv_iload_n hx hb dX7_markScratch_39 rfl (lv_at hl 4 rfl) ?_
  refine z_callVi (o := 65) (ci := 3) (As := [.int x1]) (rest := []) (t_X4_innerOf G l hN 65 (by decide) (by omega) x1 h) cv_X4_innerOf hx hb hml hl.1 Z hw (by decide) (by decide) (by omega) rfl rfl wd382 rfl rfl (Nat.le_of_ble_eq_true rfl) (by decide) dX7_markScratch_40 (fun H locs hw => ?_)
  refine lv_iconst (v := (0 : Int32)) hx hb dX7_markScratch_43 (by decide) ?_
  refine z_mmax hx hb (hml.trans hl.1.symm) Z wd386 wd387 wd35 wd388 (Nat.le_of_ble_eq_true rfl) dX7_markScratch_44 ?_
  refine lv_istore (lv' := [(5, _), (4, _), (3, _), (2, _), (0, _), (1, _)]) hx hb dX7_markScratch_47 hl (by decide) rfl (fun ls hl => ?_)
  obtain ⟨q49, hq49, hf⟩ := ob_some hf
  refine w_X7_markScratch_L49 G l hN  hx hb hr hlk hml Z FU x1 (f_X4_fromOf 65 x1 h) ((f_X4_toOf 65 x1 h) + (1 : Int32)) (jmin (f_X4_outerOf 65 x1 h) (29 : Int32)) (jmax (f_X4_innerOf 65 x1 h) (0 : Int32)) h  _ _ ls H locs (lv_sub hl [4, 5, 3, 2, 1, 0] rfl) hw hq49 (fun ls H locs hl hw => ?_)
  obtain rfl := Option.some.inj hf
  exact z_vret hx hb hr hlk hw dX7_markScratch_115
set_option maxHeartbeats 4000000 in
set_option maxRecDepth 100000 in
theorem w_J7_fill_53178_L5 (G : GM) (l : Launch) (hN : 0 ≤ gN G) (o0 : Nat) (k_o0 : kd o0 = 10) (n_o0 : o0 < gN G) {p : Program} {e : Env} {s : State} {m : MethodId} {args : Array Value} {below : List Frame} {meth : Method} {c : Code} (hx : p.tables.exec = Jvm.exec) (hb : c.code = cJ7_fill_53178) (hr : meth.sig.returnType = none) (hlk : meth.locks = false) (hml : c.maxLocals = 4) (Z : ZK G s args m RJ7) : ∀ (n : Nat) (x1 : Int32) (x2 : Int32) (x3 : Int32)  (h : HP)  (rv : Option Value) (hq : HP) (ls : Array Slot) (H : Heap) (locs : List Loc) {q : HP}, lv_has ls 4 [(0, .ref (ra G o0)), (1, .int x1), (2, .int x2), (3, .int x3)] → HW G h s H locs → f_J7_fill_53178_L5 n o0 x1 x2 x3 h = some q → (∀ (ls : Array Slot) (H : Heap) (locs : List Loc), lv_has ls 4 [] → HW G q s H locs → WZ p l e 0 s m args below meth c G rv hq H locs (F0 m 20 ls [])) → WZ p l e 0 s m args below meth c G rv hq H locs (F0 m 5 ls []) := by
  intro n
  induction n with
  | zero => intro x1 x2 x3  h  rv hq ls H locs q hl hw hf kk; cases hf
  | succ n ih =>
    intro x1 x2 x3  h  rv hq ls H locs q hl hw hf kk
    rw [f_J7_fill_53178_L5] at hf
    refine lv_iload_n hx hb dJ7_fill_53178_5 rfl (lv_at hl 2 rfl) ?_
    refine lv_iload_n hx hb dJ7_fill_53178_6 rfl (lv_at hl 3 rfl) ?_
    refine lv_icmp_ge (tgt := 20) hx hb dJ7_fill_53178_7 (by decide) (fun c7 => ?_) (fun c7 => ?_)
    · have hf := (if_pos c7).symm.trans hf
      obtain rfl := Option.some.inj hf
      exact kk ls H locs (lv_sub hl [] rfl) hw
    · have hf := (if_neg c7).symm.trans hf
      refine lv_aload_n hx hb dJ7_fill_53178_10 rfl (lv_at hl 0 rfl) ?_
      refine lv_iload_n hx hb dJ7_fill_53178_11 rfl (lv_at hl 2 rfl) ?_
      refine lv_iload_n hx hb dJ7_fill_53178_12 rfl (lv_at hl 1 rfl) ?_
      obtain ⟨h13, hf⟩ := gd_some hf
      refine y_iast (o := o0) (k := x2.toNatClampNeg) hx hb Z hw k_o0 n_o0 rfl (inB_vp h13) dJ7_fill_53178_13 (fun H locs hw => ?_)
      refine lv_iinc (v := x2 + (1 : Int32)) (lv' := [(2, _), (0, _), (1, _), (3, _)]) hx hb dJ7_fill_53178_14 hl (k := 2) rfl rfl (by decide) rfl (fun ls hl => ?_)
      refine lv_goto (tgt := 5) hx hb dJ7_fill_53178_17 (by decide) ?_
      exact ih x1 (x2 + (1 : Int32)) x3 (hset h o0 x2.toNatClampNeg x1)  rv hq ls H locs (lv_sub hl [1, 2, 0, 3] rfl) hw hf kk
set_option maxHeartbeats 4000000 in
set_option maxRecDepth 100000 in
theorem t_J7_fill_53178 (G : GM) (l : Launch) (hN : 0 ≤ gN G) (o0 : Nat) (k_o0 : kd o0 = 10) (n_o0 : o0 < gN G) (x1 : Int32) (h : HP) {h' : HP} (hf : f_J7_fill_53178 o0 x1 h = some h') : MC G l yJ7_fill_53178 cJ7_fill_53178 4 none 0 [.ref (ra G o0), .int x1] h h' none := by
  unfold f_J7_fill_53178 at hf
  refine z_start (by decide) (Nat.le_of_ble_eq_true rfl) ?_
  intro p e s m args below meth c ls hx hb hr hlk hml Z hw hl
  have Z : ZK G s args m RJ7 := Z
  have hl : lv_has ls 4 [(0, .ref (ra G o0)), (1, .int x1)] := hl
  obtain ⟨H, hH⟩ : ∃ H, H = s.heap := ⟨_, rfl⟩
  rw [← hH] at hw ⊢
  obtain ⟨locs, hlc⟩ : ∃ locs : List Loc, locs = [] := ⟨_, rfl⟩
  rw [← hlc] at hw ⊢
  refine lv_iconst (v := (0 : Int32)) hx hb dJ7_fill_53178_0 (by decide) ?_
  refine lv_istore_n (lv' := [(2, _), (0, _), (1, _)]) hx hb dJ7_fill_53178_1 rfl hl (by decide) rfl (fun ls hl => ?_)
  refine lv_aload_n hx hb dJ7_fill_53178_2 rfl (lv_at hl 1 rfl) ?_
  refine z_alen (o := o0) hx hb Z hw (by rw [k_o0]; decide) n_o0 rfl dJ7_fill_53178_3 ?_
  refine lv_istore_n (lv' := [(3, _), (2, _), (0, _), (1, _)]) hx hb dJ7_fill_53178_4 rfl hl (by decide) rfl (fun ls hl => ?_)
  obtain ⟨q5, hq5, hf⟩ := ob_some hf
  refine w_J7_fill_53178_L5 G l hN o0 k_o0 n_o0 hx hb hr hlk hml Z FU x1 (0 : Int32) (Int32.ofNat (ln o0)) h  _ _ ls H locs (lv_sub hl [2, 3, 1, 0] rfl) hw hq5 (fun ls H locs hl hw => ?_)
  obtain rfl := Option.some.inj hf
  exact z_vret hx hb hr hlk hw dJ7_fill_53178_20
set_option maxHeartbeats 4000000 in
set_option maxRecDepth 100000 in
theorem w_X7_of_L60 (G : GM) (l : Launch) (hN : 70 ≤ gN G) (o1 : Nat) (k_o1 : kd o1 = 5) (n_o1 : o1 < gN G) {p : Program} {e : Env} {s : State} {m : MethodId} {args : Array Value} {below : List Frame} {meth : Method} {c : Code} (hx : p.tables.exec = Jvm.exec) (hb : c.code = cX7_of) (hr : meth.sig.returnType = (some (.object "LineDisc$Survey"))) (hlk : meth.locks = false) (hml : c.maxLocals = 3) (Z : ZK G s args m RX7) : ∀ (n : Nat) (x2 : Int32)  (h : HP)  (rv : Option Value) (hq : HP) (ls : Array Slot) (H : Heap) (locs : List Loc) {q : HP}, lv_has ls 3 [(0, .ref (ra G 63)), (2, .int x2)] → HW G h s H locs → f_X7_of_L60 n o1 x2 h = some q → (∀ (ls : Array Slot) (H : Heap) (locs : List Loc), lv_has ls 3 [(0, .ref (ra G 63))] → HW G q s H locs → WZ p l e 3 s m args below meth c G rv hq H locs (F0 m 82 ls [])) → WZ p l e 3 s m args below meth c G rv hq H locs (F0 m 60 ls []) := by
  intro n
  induction n with
  | zero => intro x2  h  rv hq ls H locs q hl hw hf kk; cases hf
  | succ n ih =>
    intro x2  h  rv hq ls H locs q hl hw hf kk
    rw [f_X7_of_L60] at hf
    refine lv_iload_n hx hb dX7_of_60 rfl (lv_at hl 1 rfl) ?_
    refine lv_aload_n hx hb dX7_of_61 rfl (lv_at hl 0 rfl) ?_
    refine z_getr (o := 63) (o2 := 65) (C := RX7) (T := TX7) (N := 4) (ci := 6) (k := 1) hx hb Z hw (by decide) (by omega) rfl inX7 (by decide) rfl wd219 dX7_of_62 ?_
    refine z_geti (o := 65) (C := RX4) (T := TX4) (N := 2) (ci := 3) (k := 1) hx hb Z hw (by decide) (by omega) rfl inX4 (by decide) wd87 dX7_of_65 ?_
    refine lv_icmp_ge (tgt := 82) hx hb dX7_of_68 (by decide) (fun c68 => ?_) (fun c68 => ?_)
    · have hf := (if_pos c68).symm.trans hf
      obtain rfl := Option.some.inj hf
      exact kk ls H locs (lv_sub hl [0] rfl) hw
    · have hf := (if_neg c68).symm.trans hf
      refine lv_aload_n hx hb dX7_of_71 rfl (lv_at hl 0 rfl) ?_
      refine lv_iload_n hx hb dX7_of_72 rfl (lv_at hl 1 rfl) ?_
      obtain ⟨q73, hq73, hf⟩ := ob_some hf
      refine z_callVv (o := 63) (ci := 6) (As := [.int x2]) (rest := []) (t_X7_markScratch G l hN x2 h hq73) cv_X7_markScratch hx hb hml hl.1 Z hw (by decide) (by decide) (by omega) rfl rfl wd363 rfl rfl (Nat.le_of_ble_eq_true rfl) (by decide) dX7_of_73 (fun H locs hw => ?_)
      refine lv_iinc (v := x2 + (1 : Int32)) (lv' := [(2, _), (0, _)]) hx hb dX7_of_76 hl (k := 1) rfl rfl (by decide) rfl (fun ls hl => ?_)
      refine lv_goto (tgt := 60) hx hb dX7_of_79 (by decide) ?_
      exact ih (x2 + (1 : Int32)) q73  rv hq ls H locs (lv_sub hl [1, 0] rfl) hw hf kk
set_option maxHeartbeats 4000000 in
set_option maxRecDepth 100000 in
theorem t_X7_of (G : GM) (l : Launch) (hN : 70 ≤ gN G) (o1 : Nat) (k_o1 : kd o1 = 5) (n_o1 : o1 < gN G) (h : HP) {h' : HP} (hf : f_X7_of o1 h = some h') : MC G l yX7_of cX7_of 3 (some (.object "LineDisc$Survey")) 3 [.ref (ra G 63), .ref (ra G o1)] h h' (some (.ref (ra G 63))) := by
  unfold f_X7_of at hf
  refine z_start (by decide) (Nat.le_of_ble_eq_true rfl) ?_
  intro p e s m args below meth c ls hx hb hr hlk hml Z hw hl
  have Z : ZK G s args m RX7 := Z
  have hl : lv_has ls 3 [(0, .ref (ra G 63)), (1, .ref (ra G o1))] := hl
  obtain ⟨H, hH⟩ : ∃ H, H = s.heap := ⟨_, rfl⟩
  rw [← hH] at hw ⊢
  obtain ⟨locs, hlc⟩ : ∃ locs : List Loc, locs = [] := ⟨_, rfl⟩
  rw [← hlc] at hw ⊢
  refine lv_aload_n hx hb dX7_of_0 rfl (lv_at hl 0 rfl) ?_
  refine z_getr (o := 63) (o2 := 64) (C := RX7) (T := TX7) (N := 4) (ci := 6) (k := 0) hx hb Z hw (by decide) (by omega) rfl inX7 (by decide) rfl wd218 dX7_of_1 ?_
  refine lv_aload_n hx hb dX7_of_4 rfl (lv_at hl 1 rfl) ?_
  refine z_getr (o := o1) (o2 := o1 + 1) (C := RX6) (T := TX6) (N := 4) (ci := 5) (k := 0) hx hb Z hw k_o1 n_o1 rfl inX6 (by decide) rfl wd144 dX7_of_5 ?_
  refine z_callVi (o := 64) (ci := 4) (As := [.ref (ra G (o1 + 1))]) (rest := []) (t_X5_hasSpiralOf G l hN 64 (by decide) (by omega) (o1 + 1) (kd_S_1 k_o1) (by have := kd_S_n k_o1; omega) h) cv_X5_hasSpiralOf hx hb hml hl.1 Z hw (by decide) (by decide) (by omega) rfl rfl wd347 rfl rfl (Nat.le_of_ble_eq_true rfl) (by decide) dX7_of_8 (fun H locs hw => ?_)
  refine lv_if_eq (tgt := 28) hx hb dX7_of_11 (by decide) (fun c11 => ?_) (fun c11 => ?_)
  · have hf := (if_pos c11).symm.trans hf
    refine lv_aload_n hx hb dX7_of_28 rfl (lv_at hl 0 rfl) ?_
    refine z_getr (o := 63) (o2 := 64) (C := RX7) (T := TX7) (N := 4) (ci := 6) (k := 0) hx hb Z hw (by decide) (by omega) rfl inX7 (by decide) rfl wd218 dX7_of_29 ?_
    refine lv_aload_n hx hb dX7_of_32 rfl (lv_at hl 1 rfl) ?_
    refine z_getr (o := o1) (o2 := o1 + 1) (C := RX6) (T := TX6) (N := 4) (ci := 5) (k := 0) hx hb Z hw k_o1 n_o1 rfl inX6 (by decide) rfl wd144 dX7_of_33 ?_
    obtain ⟨q36, hq36, hf⟩ := tb_ex hf
    refine z_callVv (o := 64) (ci := 4) (As := [.ref (ra G (o1 + 1))]) (rest := []) (t_X5_copyFrom G l hN 64 (by decide) (by omega) (o1 + 1) (kd_S_1 k_o1) (by have := kd_S_n k_o1; omega) h hq36) cv_X5_copyFrom hx hb hml hl.1 Z hw (by decide) (by decide) (by omega) rfl rfl wd358 rfl rfl (Nat.le_of_ble_eq_true rfl) (by decide) dX7_of_36 (fun H locs hw => ?_)
    refine lv_aload_n hx hb dX7_of_39 rfl (lv_at hl 0 rfl) ?_
    refine z_getr (o := 63) (o2 := 65) (C := RX7) (T := TX7) (N := 4) (ci := 6) (k := 1) hx hb Z hw (by decide) (by omega) rfl inX7 (by decide) rfl wd219 dX7_of_40 ?_
    refine lv_aload_n hx hb dX7_of_43 rfl (lv_at hl 1 rfl) ?_
    refine z_getr (o := o1) (o2 := o1 + 2) (C := RX6) (T := TX6) (N := 4) (ci := 5) (k := 1) hx hb Z hw k_o1 n_o1 rfl inX6 (by decide) rfl wd147 dX7_of_44 ?_
    obtain ⟨q47, hq47, hf⟩ := tb_ex hf
    refine z_callVv (o := 65) (ci := 3) (As := [.ref (ra G (o1 + 2))]) (rest := []) (t_X4_copyFrom G l hN 65 (by decide) (by omega) (o1 + 2) (kd_S_2 k_o1) (by have := kd_S_n k_o1; omega) q36 hq47) cv_X4_copyFrom hx hb hml hl.1 Z hw (by decide) (by decide) (by omega) rfl rfl wd359 rfl rfl (Nat.le_of_ble_eq_true rfl) (by decide) dX7_of_47 (fun H locs hw => ?_)
    refine lv_aload_n hx hb dX7_of_50 rfl (lv_at hl 0 rfl) ?_
    refine z_getr (o := 63) (o2 := 67) (C := RX7) (T := TX7) (N := 4) (ci := 6) (k := 2) hx hb Z hw (by decide) (by omega) rfl inX7 (by decide) rfl wd220 dX7_of_51 ?_
    refine lv_iconst (v := (0 : Int32)) hx hb dX7_of_54 (by decide) ?_
    obtain ⟨q55, hq55, hf⟩ := ob_some hf
    refine z_callSv (As := [.ref (ra G 67), .int (0 : Int32)]) (rest := []) (t_J7_fill_53178 G l (Nat.zero_le _) 67 (by decide) (by omega) (0 : Int32) q47 hq55) cs_J7_fill_53178 hx hb hml hl.1 Z hw wd360 rfl rfl (Nat.le_of_ble_eq_true rfl) (by decide) dX7_of_55 (fun H locs hw => ?_)
    refine lv_iconst (v := (0 : Int32)) hx hb dX7_of_58 (by decide) ?_
    refine lv_istore_n (lv' := [(2, _), (0, _), (1, _)]) hx hb dX7_of_59 rfl hl (by decide) rfl (fun ls hl => ?_)
    obtain ⟨q60, hq60, hf⟩ := ob_some hf
    refine w_X7_of_L60 G l hN o1 k_o1 n_o1 hx hb hr hlk hml Z FU (0 : Int32) q55  _ _ ls H locs (lv_sub hl [1, 0] rfl) hw hq60 (fun ls H locs hl hw => ?_)
    refine lv_aload_n hx hb dX7_of_82 rfl (lv_at hl 0 rfl) ?_
    refine lv_iconst (v := (-1 : Int32)) hx hb dX7_of_83 (by decide) ?_
    obtain ⟨q84, hq84, hf⟩ := ob_some hf
    refine z_callVv (o := 63) (ci := 6) (As := [.int (-1 : Int32)]) (rest := []) (t_X7_judge G l hN (-1 : Int32) q60 hq84) cv_X7_judge hx hb hml hl.1 Z hw (by decide) (by decide) (by omega) rfl rfl wd395 rfl rfl (Nat.le_of_ble_eq_true rfl) (by decide) dX7_of_84 (fun H locs hw => ?_)
    refine lv_aload_n hx hb dX7_of_87 rfl (lv_at hl 0 rfl) ?_
    obtain rfl := Option.some.inj hf
    exact z_aret hx hb hr (Or.inl ⟨_, rfl⟩) (Or.inr ⟨_, rfl⟩) hlk hw dX7_of_88
  · have hf := (if_neg c11).symm.trans hf
    refine lv_aload_n hx hb dX7_of_14 rfl (lv_at hl 0 rfl) ?_
    refine z_getr (o := 63) (o2 := 65) (C := RX7) (T := TX7) (N := 4) (ci := 6) (k := 1) hx hb Z hw (by decide) (by omega) rfl inX7 (by decide) rfl wd219 dX7_of_15 ?_
    refine lv_aload_n hx hb dX7_of_18 rfl (lv_at hl 1 rfl) ?_
    refine z_getr (o := o1) (o2 := o1 + 2) (C := RX6) (T := TX6) (N := 4) (ci := 5) (k := 1) hx hb Z hw k_o1 n_o1 rfl inX6 (by decide) rfl wd147 dX7_of_19 ?_
    obtain ⟨q22, hq22, hf⟩ := ob_some hf
    refine z_callVi (o := 65) (ci := 3) (As := [.ref (ra G (o1 + 2))]) (rest := []) (t_X4_isLike G l hN 65 (by decide) (by omega) (o1 + 2) (kd_S_2 k_o1) (by have := kd_S_n k_o1; omega) h hq22) cv_X4_isLike hx hb hml hl.1 Z hw (by decide) (by decide) (by omega) rfl rfl wd351 rfl rfl (Nat.le_of_ble_eq_true rfl) (by decide) dX7_of_22 (fun H locs hw => ?_)
    refine lv_if_ne (tgt := 87) hx hb dX7_of_25 (by decide) (fun c25 => ?_) (fun c25 => ?_)
    · have hf := (if_neg c25).symm.trans hf
      refine lv_aload_n hx hb dX7_of_87 rfl (lv_at hl 0 rfl) ?_
      obtain rfl := Option.some.inj hf
      exact z_aret hx hb hr (Or.inl ⟨_, rfl⟩) (Or.inr ⟨_, rfl⟩) hlk hw dX7_of_88
    · have hf := (if_pos c25).symm.trans hf
      refine lv_aload_n hx hb dX7_of_28 rfl (lv_at hl 0 rfl) ?_
      refine z_getr (o := 63) (o2 := 64) (C := RX7) (T := TX7) (N := 4) (ci := 6) (k := 0) hx hb Z hw (by decide) (by omega) rfl inX7 (by decide) rfl wd218 dX7_of_29 ?_
      refine lv_aload_n hx hb dX7_of_32 rfl (lv_at hl 1 rfl) ?_
      refine z_getr (o := o1) (o2 := o1 + 1) (C := RX6) (T := TX6) (N := 4) (ci := 5) (k := 0) hx hb Z hw k_o1 n_o1 rfl inX6 (by decide) rfl wd144 dX7_of_33 ?_
      obtain ⟨q36, hq36, hf⟩ := tb_ex hf
      refine z_callVv (o := 64) (ci := 4) (As := [.ref (ra G (o1 + 1))]) (rest := []) (t_X5_copyFrom G l hN 64 (by decide) (by omega) (o1 + 1) (kd_S_1 k_o1) (by have := kd_S_n k_o1; omega) h hq36) cv_X5_copyFrom hx hb hml hl.1 Z hw (by decide) (by decide) (by omega) rfl rfl wd358 rfl rfl (Nat.le_of_ble_eq_true rfl) (by decide) dX7_of_36 (fun H locs hw => ?_)
      refine lv_aload_n hx hb dX7_of_39 rfl (lv_at hl 0 rfl) ?_
      refine z_getr (o := 63) (o2 := 65) (C := RX7) (T := TX7) (N := 4) (ci := 6) (k := 1) hx hb Z hw (by decide) (by omega) rfl inX7 (by decide) rfl wd219 dX7_of_40 ?_
      refine lv_aload_n hx hb dX7_of_43 rfl (lv_at hl 1 rfl) ?_
      refine z_getr (o := o1) (o2 := o1 + 2) (C := RX6) (T := TX6) (N := 4) (ci := 5) (k := 1) hx hb Z hw k_o1 n_o1 rfl inX6 (by decide) rfl wd147 dX7_of_44 ?_
      obtain ⟨q47, hq47, hf⟩ := tb_ex hf
      refine z_callVv (o := 65) (ci := 3) (As := [.ref (ra G (o1 + 2))]) (rest := []) (t_X4_copyFrom G l hN 65 (by decide) (by omega) (o1 + 2) (kd_S_2 k_o1) (by have := kd_S_n k_o1; omega) q36 hq47) cv_X4_copyFrom hx hb hml hl.1 Z hw (by decide) (by decide) (by omega) rfl rfl wd359 rfl rfl (Nat.le_of_ble_eq_true rfl) (by decide) dX7_of_47 (fun H locs hw => ?_)
      refine lv_aload_n hx hb dX7_of_50 rfl (lv_at hl 0 rfl) ?_
      refine z_getr (o := 63) (o2 := 67) (C := RX7) (T := TX7) (N := 4) (ci := 6) (k := 2) hx hb Z hw (by decide) (by omega) rfl inX7 (by decide) rfl wd220 dX7_of_51 ?_
      refine lv_iconst (v := (0 : Int32)) hx hb dX7_of_54 (by decide) ?_
      obtain ⟨q55, hq55, hf⟩ := ob_some hf
      refine z_callSv (As := [.ref (ra G 67), .int (0 : Int32)]) (rest := []) (t_J7_fill_53178 G l (Nat.zero_le _) 67 (by decide) (by omega) (0 : Int32) q47 hq55) cs_J7_fill_53178 hx hb hml hl.1 Z hw wd360 rfl rfl (Nat.le_of_ble_eq_true rfl) (by decide) dX7_of_55 (fun H locs hw => ?_)
      refine lv_iconst (v := (0 : Int32)) hx hb dX7_of_58 (by decide) ?_
      refine lv_istore_n (lv' := [(2, _), (0, _), (1, _)]) hx hb dX7_of_59 rfl hl (by decide) rfl (fun ls hl => ?_)
      obtain ⟨q60, hq60, hf⟩ := ob_some hf
      refine w_X7_of_L60 G l hN o1 k_o1 n_o1 hx hb hr hlk hml Z FU (0 : Int32) q55  _ _ ls H locs (lv_sub hl [1, 0] rfl) hw hq60 (fun ls H locs hl hw => ?_)
      refine lv_aload_n hx hb dX7_of_82 rfl (lv_at hl 0 rfl) ?_
      refine lv_iconst (v := (-1 : Int32)) hx hb dX7_of_83 (by decide) ?_
      obtain ⟨q84, hq84, hf⟩ := ob_some hf
      refine z_callVv (o := 63) (ci := 6) (As := [.int (-1 : Int32)]) (rest := []) (t_X7_judge G l hN (-1 : Int32) q60 hq84) cv_X7_judge hx hb hml hl.1 Z hw (by decide) (by decide) (by omega) rfl rfl wd395 rfl rfl (Nat.le_of_ble_eq_true rfl) (by decide) dX7_of_84 (fun H locs hw => ?_)
      refine lv_aload_n hx hb dX7_of_87 rfl (lv_at hl 0 rfl) ?_
      obtain rfl := Option.some.inj hf
      exact z_aret hx hb hr (Or.inl ⟨_, rfl⟩) (Or.inr ⟨_, rfl⟩) hlk hw dX7_of_88
set_option maxHeartbeats 4000000 in
set_option maxRecDepth 100000 in
theorem t_X10_addScratch (G : GM) (l : Launch) (hN : 70 ≤ gN G) (x1 : Int32) (x2 : Int32) (x3 : Int32) (x4 : Int32) (h : HP) {r : Int32} {h' : HP} (hf : f_X10_addScratch x1 x2 x3 x4 h = some (r, h')) : MC G l yX10_addScratch cX10_addScratch 7 (some .int) 4 [.ref (ra G 0), .int x1, .int x2, .int x3, .int x4] h h' (some (.int r)) := by
  unfold f_X10_addScratch at hf
  refine z_start (by decide) (Nat.le_of_ble_eq_true rfl) ?_
  intro p e s m args below meth c ls hx hb hr hlk hml Z hw hl
  have Z : ZK G s args m RX10 := Z
  have hl : lv_has ls 7 [(0, .ref (ra G 0)), (1, .int x1), (2, .int x2), (3, .int x3), (4, .int x4)] := hl
  obtain ⟨H, hH⟩ : ∃ H, H = s.heap := ⟨_, rfl⟩
  rw [← hH] at hw ⊢
  obtain ⟨locs, hlc⟩ : ∃ locs : List Loc, locs = [] := ⟨_, rfl⟩
  rw [← hlc] at hw ⊢
  refine lv_iload_n hx hb dX10_addScratch_0 rfl (lv_at hl 1 rfl) ?_
  have HJ21 : ∀ (ls : Array Slot) (H : Heap) (locs : List Loc), lv_has ls 7 [(0, .ref (ra G 0)), (1, .int x1), (2, .int x2), (3, .int x3), (4, .int x4)] → HW G h s H locs → WZ p l e 4 s m args below meth c G (some (.int r)) h' H locs (F0 m 21 ls [.int (if x1 < 0 then (0 : Int32) else (if x2 < x1 then (0 : Int32) else (if (360 : Int32) ≤ x2 then (0 : Int32) else (1 : Int32))))]) := by
    intro ls H locs hl hw
    obtain ⟨v21, hqv21, hf⟩ := tb_ex hf
    refine z_top hqv21 ?_
    refine lv_istore (lv' := [(5, _), (0, _), (1, _), (2, _), (3, _), (4, _)]) hx hb dX10_addScratch_21 hl (by decide) rfl (fun ls hl => ?_)
    refine lv_iload_n hx hb dX10_addScratch_23 rfl (lv_at hl 4 rfl) ?_
    have HJ45 : ∀ (ls : Array Slot) (H : Heap) (locs : List Loc), lv_has ls 7 [(0, .ref (ra G 0)), (1, .int x1), (2, .int x2), (3, .int x3), (4, .int x4), (5, .int v21)] → HW G h s H locs → WZ p l e 4 s m args below meth c G (some (.int r)) h' H locs (F0 m 45 ls [.int (if x3 < 0 then (0 : Int32) else (if x4 < x3 then (0 : Int32) else (if (30 : Int32) ≤ x4 then (0 : Int32) else (1 : Int32))))]) := by
      intro ls H locs hl hw
      obtain ⟨v45, hqv45, hf⟩ := tb_ex hf
      refine z_top hqv45 ?_
      refine lv_istore (lv' := [(6, _), (0, _), (1, _), (2, _), (3, _), (4, _), (5, _)]) hx hb dX10_addScratch_45 hl (by decide) rfl (fun ls hl => ?_)
      refine lv_iload hx hb dX10_addScratch_47 (lv_at hl 6 rfl) ?_
      refine lv_if_eq (tgt := 57) hx hb dX10_addScratch_49 (by decide) (fun c49 => ?_) (fun c49 => ?_)
      · have hf := (if_pos c49).symm.trans hf
        refine lv_bipush (v := (-2 : Int32)) hx hb dX10_addScratch_57 (by decide) ?_
        obtain ⟨rfl, rfl⟩ := Prod.mk.inj (Option.some.inj hf)
        exact z_iret hx hb hr hlk hw dX10_addScratch_59
      · have hf := (if_neg c49).symm.trans hf
        refine lv_iload hx hb dX10_addScratch_52 (lv_at hl 0 rfl) ?_
        refine lv_if_ne (tgt := 60) hx hb dX10_addScratch_54 (by decide) (fun c54 => ?_) (fun c54 => ?_)
        · have hf := (if_neg c54).symm.trans hf
          refine lv_aload_n hx hb dX10_addScratch_60 rfl (lv_at hl 1 rfl) ?_
          refine z_getr (o := 0) (o2 := 1) (C := RX10) (T := TX10) (N := 8) (ci := 8) (k := 0) hx hb Z hw (by decide) (by omega) rfl inX10 (by decide) rfl wd233 dX10_addScratch_61 ?_
          refine z_getr (o := 1) (o2 := 3) (C := RX6) (T := TX6) (N := 4) (ci := 5) (k := 1) hx hb Z hw (by decide) (by omega) rfl inX6 (by decide) rfl wd148 dX10_addScratch_64 ?_
          refine lv_iload_n hx hb dX10_addScratch_67 rfl (lv_at hl 2 rfl) ?_
          refine lv_iload_n hx hb dX10_addScratch_68 rfl (lv_at hl 3 rfl) ?_
          refine lv_iload_n hx hb dX10_addScratch_69 rfl (lv_at hl 4 rfl) ?_
          refine lv_iload hx hb dX10_addScratch_70 (lv_at hl 5 rfl) ?_
          obtain ⟨q72, hq72, hf⟩ := tb_ex hf
          refine z_callVi (o := 3) (ci := 3) (As := [.int x1, .int x2, .int x3, .int x4]) (rest := []) (t_X4_add G l hN 3 (by decide) (by omega) x1 x2 x3 x4 h hq72) cv_X4_add hx hb hml hl.1 Z hw (by decide) (by decide) (by omega) rfl rfl wd454 rfl rfl (Nat.le_of_ble_eq_true rfl) (by decide) dX10_addScratch_72 (fun H locs hw => ?_)
          refine lv_if_ne (tgt := 81) hx hb dX10_addScratch_75 (by decide) (fun c75 => ?_) (fun c75 => ?_)
          · have hf := (if_neg c75).symm.trans hf
            refine lv_aload_n hx hb dX10_addScratch_81 rfl (lv_at hl 1 rfl) ?_
            refine z_getr (o := 0) (o2 := 63) (C := RX10) (T := TX10) (N := 8) (ci := 8) (k := 6) hx hb Z hw (by decide) (by omega) rfl inX10 (by decide) rfl wd239 dX10_addScratch_82 ?_
            refine lv_aload_n hx hb dX10_addScratch_85 rfl (lv_at hl 1 rfl) ?_
            refine z_getr (o := 0) (o2 := 1) (C := RX10) (T := TX10) (N := 8) (ci := 8) (k := 0) hx hb Z hw (by decide) (by omega) rfl inX10 (by decide) rfl wd233 dX10_addScratch_86 ?_
            obtain ⟨q89, hq89, hf⟩ := ob_some hf
            refine z_callVi (o := 63) (ci := 6) (As := [.ref (ra G 1)]) (rest := []) (t_X7_of G l hN 1 (by decide) (by omega) q72.2 hq89) cv_X7_of hx hb hml hl.1 Z hw (by decide) (by decide) (by omega) rfl rfl wd343 rfl rfl (Nat.le_of_ble_eq_true rfl) (by decide) dX10_addScratch_89 (fun H locs hw => ?_)
            refine lv_iconst (v := (0 : Int32)) hx hb dX10_addScratch_92 (by decide) ?_
            refine lv_sipush (v := (3810 : Int32)) hx hb dX10_addScratch_93 (by decide) ?_
            refine lv_iconst (v := (-1 : Int32)) hx hb dX10_addScratch_96 (by decide) ?_
            obtain ⟨q97, hq97, hf⟩ := ob_some hf
            refine z_callVi (o := 63) (ci := 6) (As := [.int (0 : Int32), .int (3810 : Int32), .int (-1 : Int32)]) (rest := []) (t_X7_damagedIn G l hN (0 : Int32) (3810 : Int32) (-1 : Int32) q89 hq97) cv_X7_damagedIn hx hb hml hl.1 Z hw (by decide) (by decide) (by omega) rfl rfl wd459 rfl rfl (Nat.le_of_ble_eq_true rfl) (by decide) dX10_addScratch_97 (fun H locs hw => ?_)
            obtain ⟨rfl, rfl⟩ := Prod.mk.inj (Option.some.inj hf)
            exact z_iret hx hb hr hlk hw dX10_addScratch_100
          · have hf := (if_pos c75).symm.trans hf
            refine lv_bipush (v := (-3 : Int32)) hx hb dX10_addScratch_78 (by decide) ?_
            obtain ⟨rfl, rfl⟩ := Prod.mk.inj (Option.some.inj hf)
            exact z_iret hx hb hr hlk hw dX10_addScratch_80
        · have hf := (if_pos c54).symm.trans hf
          refine lv_bipush (v := (-2 : Int32)) hx hb dX10_addScratch_57 (by decide) ?_
          obtain ⟨rfl, rfl⟩ := Prod.mk.inj (Option.some.inj hf)
          exact z_iret hx hb hr hlk hw dX10_addScratch_59
    refine lv_if_lt (tgt := 44) hx hb dX10_addScratch_24 (by decide) (fun c24 => ?_) (fun c24 => ?_)
    · skip
      refine lv_iconst (v := (0 : Int32)) hx hb dX10_addScratch_44 (by decide) ?_
      refine W.eq (g2 := F0 m 45 ls [.int (if x3 < 0 then (0 : Int32) else (if x4 < x3 then (0 : Int32) else (if (30 : Int32) ≤ x4 then (0 : Int32) else (1 : Int32))))]) ?_ (HJ45 ls H locs (lv_sub hl [1, 2, 3, 4, 5, 0] rfl) hw)
      simp only [if_pos c24]
    · skip
      refine lv_iload_n hx hb dX10_addScratch_27 rfl (lv_at hl 4 rfl) ?_
      refine lv_iload hx hb dX10_addScratch_28 (lv_at hl 5 rfl) ?_
      refine lv_icmp_gt (tgt := 44) hx hb dX10_addScratch_30 (by decide) (fun c30 => ?_) (fun c30 => ?_)
      · skip
        refine lv_iconst (v := (0 : Int32)) hx hb dX10_addScratch_44 (by decide) ?_
        refine W.eq (g2 := F0 m 45 ls [.int (if x3 < 0 then (0 : Int32) else (if x4 < x3 then (0 : Int32) else (if (30 : Int32) ≤ x4 then (0 : Int32) else (1 : Int32))))]) ?_ (HJ45 ls H locs (lv_sub hl [1, 2, 3, 4, 5, 0] rfl) hw)
        simp only [if_neg c24, if_pos c30]
      · skip
        refine lv_iload hx hb dX10_addScratch_33 (lv_at hl 5 rfl) ?_
        refine lv_bipush (v := (30 : Int32)) hx hb dX10_addScratch_35 (by decide) ?_
        refine lv_icmp_ge (tgt := 44) hx hb dX10_addScratch_37 (by decide) (fun c37 => ?_) (fun c37 => ?_)
        · skip
          refine lv_iconst (v := (0 : Int32)) hx hb dX10_addScratch_44 (by decide) ?_
          refine W.eq (g2 := F0 m 45 ls [.int (if x3 < 0 then (0 : Int32) else (if x4 < x3 then (0 : Int32) else (if (30 : Int32) ≤ x4 then (0 : Int32) else (1 : Int32))))]) ?_ (HJ45 ls H locs (lv_sub hl [1, 2, 3, 4, 5, 0] rfl) hw)
          simp only [if_neg c24, if_neg c30, if_pos c37]
        · skip
          refine lv_iconst (v := (1 : Int32)) hx hb dX10_addScratch_40 (by decide) ?_
          refine lv_goto (tgt := 45) hx hb dX10_addScratch_41 (by decide) ?_
          refine W.eq (g2 := F0 m 45 ls [.int (if x3 < 0 then (0 : Int32) else (if x4 < x3 then (0 : Int32) else (if (30 : Int32) ≤ x4 then (0 : Int32) else (1 : Int32))))]) ?_ (HJ45 ls H locs (lv_sub hl [1, 2, 3, 4, 5, 0] rfl) hw)
          simp only [if_neg c24, if_neg c30, if_neg c37]
  refine lv_if_lt (tgt := 20) hx hb dX10_addScratch_1 (by decide) (fun c1 => ?_) (fun c1 => ?_)
  · skip
    refine lv_iconst (v := (0 : Int32)) hx hb dX10_addScratch_20 (by decide) ?_
    refine W.eq (g2 := F0 m 21 ls [.int (if x1 < 0 then (0 : Int32) else (if x2 < x1 then (0 : Int32) else (if (360 : Int32) ≤ x2 then (0 : Int32) else (1 : Int32))))]) ?_ (HJ21 ls H locs (lv_sub hl [0, 1, 2, 3, 4] rfl) hw)
    simp only [if_pos c1]
  · skip
    refine lv_iload_n hx hb dX10_addScratch_4 rfl (lv_at hl 1 rfl) ?_
    refine lv_iload_n hx hb dX10_addScratch_5 rfl (lv_at hl 2 rfl) ?_
    refine lv_icmp_gt (tgt := 20) hx hb dX10_addScratch_6 (by decide) (fun c6 => ?_) (fun c6 => ?_)
    · skip
      refine lv_iconst (v := (0 : Int32)) hx hb dX10_addScratch_20 (by decide) ?_
      refine W.eq (g2 := F0 m 21 ls [.int (if x1 < 0 then (0 : Int32) else (if x2 < x1 then (0 : Int32) else (if (360 : Int32) ≤ x2 then (0 : Int32) else (1 : Int32))))]) ?_ (HJ21 ls H locs (lv_sub hl [0, 1, 2, 3, 4] rfl) hw)
      simp only [if_neg c1, if_pos c6]
    · skip
      refine lv_iload_n hx hb dX10_addScratch_9 rfl (lv_at hl 2 rfl) ?_
      refine lv_sipush (v := (360 : Int32)) hx hb dX10_addScratch_10 (by decide) ?_
      refine lv_icmp_ge (tgt := 20) hx hb dX10_addScratch_13 (by decide) (fun c13 => ?_) (fun c13 => ?_)
      · skip
        refine lv_iconst (v := (0 : Int32)) hx hb dX10_addScratch_20 (by decide) ?_
        refine W.eq (g2 := F0 m 21 ls [.int (if x1 < 0 then (0 : Int32) else (if x2 < x1 then (0 : Int32) else (if (360 : Int32) ≤ x2 then (0 : Int32) else (1 : Int32))))]) ?_ (HJ21 ls H locs (lv_sub hl [0, 1, 2, 3, 4] rfl) hw)
        simp only [if_neg c1, if_neg c6, if_pos c13]
      · skip
        refine lv_iconst (v := (1 : Int32)) hx hb dX10_addScratch_16 (by decide) ?_
        refine lv_goto (tgt := 21) hx hb dX10_addScratch_17 (by decide) ?_
        refine W.eq (g2 := F0 m 21 ls [.int (if x1 < 0 then (0 : Int32) else (if x2 < x1 then (0 : Int32) else (if (360 : Int32) ≤ x2 then (0 : Int32) else (1 : Int32))))]) ?_ (HJ21 ls H locs (lv_sub hl [0, 1, 2, 3, 4] rfl) hw)
        simp only [if_neg c1, if_neg c6, if_neg c13]
set_option maxHeartbeats 4000000 in
set_option maxRecDepth 100000 in
theorem t_X10_scratch (G : GM) (l : Launch) (hN : 70 ≤ gN G) (x1 : Int32) (x2 : Int32) (x3 : Int32) (x4 : Int32) (h : HP) {r : Int32} {h' : HP} (hf : f_X10_scratch x1 x2 x3 x4 h = some (r, h')) : MC G l yX10_scratch cX10_scratch 5 (some .int) 5 [.ref (ra G 0), .int x1, .int x2, .int x3, .int x4] h h' (some (.int r)) := by
  unfold f_X10_scratch at hf
  refine z_start (by decide) (Nat.le_of_ble_eq_true rfl) ?_
  intro p e s m args below meth c ls hx hb hr hlk hml Z hw hl
  have Z : ZK G s args m RX10 := Z
  have hl : lv_has ls 5 [(0, .ref (ra G 0)), (1, .int x1), (2, .int x2), (3, .int x3), (4, .int x4)] := hl
  obtain ⟨H, hH⟩ : ∃ H, H = s.heap := ⟨_, rfl⟩
  rw [← hH] at hw ⊢
  obtain ⟨locs, hlc⟩ : ∃ locs : List Loc, locs = [] := ⟨_, rfl⟩
  rw [← hlc] at hw ⊢
  refine lv_aload_n hx hb dX10_scratch_0 rfl (lv_at hl 0 rfl) ?_
  refine z_getr (o := 0) (o2 := 9) (C := RX10) (T := TX10) (N := 8) (ci := 8) (k := 1) hx hb Z hw (by decide) (by omega) rfl inX10 (by decide) rfl wd234 dX10_scratch_1 ?_
  refine lv_aload_n hx hb dX10_scratch_4 rfl (lv_at hl 0 rfl) ?_
  refine z_getr (o := 0) (o2 := 1) (C := RX10) (T := TX10) (N := 8) (ci := 8) (k := 0) hx hb Z hw (by decide) (by omega) rfl inX10 (by decide) rfl wd233 dX10_scratch_5 ?_
  obtain ⟨q8, hq8, hf⟩ := tb_ex hf
  refine z_callVv (o := 9) (ci := 5) (As := [.ref (ra G 1)]) (rest := []) (t_X6_copyFrom G l hN 9 (by decide) (by omega) 1 (by decide) (by omega) h hq8) cv_X6_copyFrom hx hb hml hl.1 Z hw (by decide) (by decide) (by omega) rfl rfl wd269 rfl rfl (Nat.le_of_ble_eq_true rfl) (by decide) dX10_scratch_8 (fun H locs hw => ?_)
  refine lv_aload_n hx hb dX10_scratch_11 rfl (lv_at hl 0 rfl) ?_
  refine lv_aload_n hx hb dX10_scratch_12 rfl (lv_at hl 0 rfl) ?_
  refine lv_iload_n hx hb dX10_scratch_13 rfl (lv_at hl 1 rfl) ?_
  refine lv_iload_n hx hb dX10_scratch_14 rfl (lv_at hl 2 rfl) ?_
  refine lv_iload_n hx hb dX10_scratch_15 rfl (lv_at hl 3 rfl) ?_
  refine lv_iload hx hb dX10_scratch_16 (lv_at hl 4 rfl) ?_
  obtain ⟨q18, hq18, hf⟩ := ob_some hf
  refine z_callVi (o := 0) (ci := 8) (As := [.int x1, .int x2, .int x3, .int x4]) (rest := [.ref (ra G 0)]) (t_X10_addScratch G l hN x1 x2 x3 x4 q8 hq18) cv_X10_addScratch hx hb hml hl.1 Z hw (by decide) (by decide) (by omega) rfl rfl wd450 rfl rfl (Nat.le_of_ble_eq_true rfl) (by decide) dX10_scratch_18 (fun H locs hw => ?_)
  obtain ⟨q21, hq21, hf⟩ := ob_some hf
  refine z_callVi (o := 0) (ci := 8) (As := [.int q18.1]) (rest := []) (t_X10_recorded G l hN q18.1 q18.2 hq21) cv_X10_recorded hx hb hml hl.1 Z hw (by decide) (by decide) (by omega) rfl rfl wd305 rfl rfl (Nat.le_of_ble_eq_true rfl) (by decide) dX10_scratch_21 (fun H locs hw => ?_)
  obtain ⟨rfl, rfl⟩ := Prod.mk.inj (Option.some.inj hf)
  exact z_iret hx hb hr hlk hw dX10_scratch_24
set_option maxHeartbeats 4000000 in
set_option maxRecDepth 100000 in
theorem t_X4_has (G : GM) (l : Launch) (hN : 70 ≤ gN G) (o0 : Nat) (k_o0 : kd o0 = 3) (n_o0 : o0 < gN G) (x1 : Int32) (h : HP) : MC G l yX4_has cX4_has 2 (some .boolean) 0 [.ref (ra G o0), .int x1] h h (some (.int (f_X4_has o0 x1 h))) := by
  generalize hf : f_X4_has o0 x1 h = r
  unfold f_X4_has at hf
  refine z_start (by decide) (Nat.le_of_ble_eq_true rfl) ?_
  intro p e s m args below meth c ls hx hb hr hlk hml Z hw hl
  have Z : ZK G s args m RX4 := Z
  have hl : lv_has ls 2 [(0, .ref (ra G o0)), (1, .int x1)] := hl
  obtain ⟨H, hH⟩ : ∃ H, H = s.heap := ⟨_, rfl⟩
  rw [← hH] at hw ⊢
  obtain ⟨locs, hlc⟩ : ∃ locs : List Loc, locs = [] := ⟨_, rfl⟩
  rw [← hlc] at hw ⊢
  refine lv_iload_n hx hb dX4_has_0 rfl (lv_at hl 1 rfl) ?_
  refine lv_if_lt (tgt := 16) hx hb dX4_has_1 (by decide) (fun c1 => ?_) (fun c1 => ?_)
  · have hf := (if_pos c1).symm.trans hf
    refine lv_iconst (v := (0 : Int32)) hx hb dX4_has_16 (by decide) ?_
    obtain rfl := hf
    exact z_zret hx hb hr rfl hlk hw dX4_has_17
  · have hf := (if_neg c1).symm.trans hf
    refine lv_iload_n hx hb dX4_has_4 rfl (lv_at hl 1 rfl) ?_
    refine lv_aload_n hx hb dX4_has_5 rfl (lv_at hl 0 rfl) ?_
    refine z_geti (o := o0) (C := RX4) (T := TX4) (N := 2) (ci := 3) (k := 1) hx hb Z hw k_o0 n_o0 rfl inX4 (by decide) wd86 dX4_has_6 ?_
    refine lv_icmp_ge (tgt := 16) hx hb dX4_has_9 (by decide) (fun c9 => ?_) (fun c9 => ?_)
    · have hf := (if_pos c9).symm.trans hf
      refine lv_iconst (v := (0 : Int32)) hx hb dX4_has_16 (by decide) ?_
      obtain rfl := hf
      exact z_zret hx hb hr rfl hlk hw dX4_has_17
    · have hf := (if_neg c9).symm.trans hf
      refine lv_iconst (v := (1 : Int32)) hx hb dX4_has_12 (by decide) ?_
      refine lv_goto (tgt := 17) hx hb dX4_has_13 (by decide) ?_
      obtain rfl := hf
      exact z_zret hx hb hr rfl hlk hw dX4_has_17
set_option maxHeartbeats 4000000 in
set_option maxRecDepth 100000 in
theorem w_X4_drop_L13 (G : GM) (l : Launch) (hN : 70 ≤ gN G) (o0 : Nat) (k_o0 : kd o0 = 3) (n_o0 : o0 < gN G) {p : Program} {e : Env} {s : State} {m : MethodId} {args : Array Value} {below : List Frame} {meth : Method} {c : Code} (hx : p.tables.exec = Jvm.exec) (hb : c.code = cX4_drop) (hr : meth.sig.returnType = none) (hlk : meth.locks = false) (hml : c.maxLocals = 3) (Z : ZK G s args m RX4) : ∀ (n : Nat) (x2 : Int32)  (h : HP)  (rv : Option Value) (hq : HP) (ls : Array Slot) (H : Heap) (locs : List Loc) {q : HP}, lv_has ls 3 [(0, .ref (ra G o0)), (2, .int x2)] → HW G h s H locs → f_X4_drop_L13 n o0 x2 h = some q → (∀ (ls : Array Slot) (H : Heap) (locs : List Loc), lv_has ls 3 [(0, .ref (ra G o0))] → HW G q s H locs → WZ p l e 1 s m args below meth c G rv hq H locs (F0 m 48 ls [])) → WZ p l e 1 s m args below meth c G rv hq H locs (F0 m 13 ls []) := by
  intro n
  induction n with
  | zero => intro x2  h  rv hq ls H locs q hl hw hf kk; cases hf
  | succ n ih =>
    intro x2  h  rv hq ls H locs q hl hw hf kk
    rw [f_X4_drop_L13] at hf
    refine lv_iload_n hx hb dX4_drop_13 rfl (lv_at hl 1 rfl) ?_
    refine lv_aload_n hx hb dX4_drop_14 rfl (lv_at hl 0 rfl) ?_
    refine z_getr (o := o0) (o2 := o0 + 1) (C := RX4) (T := TX4) (N := 2) (ci := 3) (k := 0) hx hb Z hw k_o0 n_o0 rfl inX4 (by decide) rfl wd85 dX4_drop_15 ?_
    refine z_alen (o := o0 + 1) (v := (32 : Int32)) hx hb Z hw (by rw [kd_C_1 k_o0]; decide) (by have := kd_C_n k_o0; omega) (by rw [ln_C_1 k_o0]; decide) dX4_drop_18 ?_
    refine lv_iconst (v := (4 : Int32)) hx hb dX4_drop_19 (by decide) ?_
    refine lv_isub hx hb dX4_drop_20 ?_
    refine lv_icmp_ge (tgt := 48) hx hb dX4_drop_21 (by decide) (fun c21 => ?_) (fun c21 => ?_)
    · have hf := (if_pos c21).symm.trans hf
      obtain rfl := Option.some.inj hf
      exact kk ls H locs (lv_sub hl [0] rfl) hw
    · have hf := (if_neg c21).symm.trans hf
      refine lv_aload_n hx hb dX4_drop_24 rfl (lv_at hl 0 rfl) ?_
      refine z_getr (o := o0) (o2 := o0 + 1) (C := RX4) (T := TX4) (N := 2) (ci := 3) (k := 0) hx hb Z hw k_o0 n_o0 rfl inX4 (by decide) rfl wd85 dX4_drop_25 ?_
      refine lv_iload_n hx hb dX4_drop_28 rfl (lv_at hl 1 rfl) ?_
      refine lv_aload_n hx hb dX4_drop_29 rfl (lv_at hl 0 rfl) ?_
      refine z_getr (o := o0) (o2 := o0 + 1) (C := RX4) (T := TX4) (N := 2) (ci := 3) (k := 0) hx hb Z hw k_o0 n_o0 rfl inX4 (by decide) rfl wd85 dX4_drop_30 ?_
      refine lv_iload_n hx hb dX4_drop_33 rfl (lv_at hl 1 rfl) ?_
      refine lv_iconst (v := (4 : Int32)) hx hb dX4_drop_34 (by decide) ?_
      refine lv_iadd hx hb dX4_drop_35 ?_
      refine z_callNi (As := [.ref (ra G (o0 + 1)), .int (x2 + (4 : Int32))]) (rest := [.int x2, .ref (ra G (o0 + 1))]) (t_X10_at G l hN (o0 + 1) (kd_C_1 k_o0) (by have := kd_C_n k_o0; omega) (x2 + (4 : Int32)) h) cs_X10_at hx hb hml hl.1 Z hw wd355 rfl rfl (Nat.le_of_ble_eq_true rfl) (by decide) dX4_drop_36 (fun H locs hw => ?_)
      obtain ⟨q39, hq39, hf⟩ := tb_ex hf
      refine z_callNv (As := [.ref (ra G (o0 + 1)), .int x2, .int (f_X10_at (o0 + 1) (x2 + (4 : Int32)) h)]) (rest := []) (t_X10_put G l hN (o0 + 1) (kd_C_1 k_o0) (by have := kd_C_n k_o0; omega) x2 (f_X10_at (o0 + 1) (x2 + (4 : Int32)) h) h hq39) cs_X10_put hx hb hml hl.1 Z hw wd458 rfl rfl (Nat.le_of_ble_eq_true rfl) (by decide) dX4_drop_39 (fun H locs hw => ?_)
      refine lv_iinc (v := x2 + (1 : Int32)) (lv' := [(2, _), (0, _)]) hx hb dX4_drop_42 hl (k := 1) rfl rfl (by decide) rfl (fun ls hl => ?_)
      refine lv_goto (tgt := 13) hx hb dX4_drop_45 (by decide) ?_
      exact ih (x2 + (1 : Int32)) q39  rv hq ls H locs (lv_sub hl [1, 0] rfl) hw hf kk
set_option maxHeartbeats 4000000 in
set_option maxRecDepth 100000 in
theorem t_X4_drop (G : GM) (l : Launch) (hN : 70 ≤ gN G) (o0 : Nat) (k_o0 : kd o0 = 3) (n_o0 : o0 < gN G) (x1 : Int32) (h : HP) {h' : HP} (hf : f_X4_drop o0 x1 h = some h') : MC G l yX4_drop cX4_drop 3 none 1 [.ref (ra G o0), .int x1] h h' none := by
  unfold f_X4_drop at hf
  refine z_start (by decide) (Nat.le_of_ble_eq_true rfl) ?_
  intro p e s m args below meth c ls hx hb hr hlk hml Z hw hl
  have Z : ZK G s args m RX4 := Z
  have hl : lv_has ls 3 [(0, .ref (ra G o0)), (1, .int x1)] := hl
  obtain ⟨H, hH⟩ : ∃ H, H = s.heap := ⟨_, rfl⟩
  rw [← hH] at hw ⊢
  obtain ⟨locs, hlc⟩ : ∃ locs : List Loc, locs = [] := ⟨_, rfl⟩
  rw [← hlc] at hw ⊢
  refine lv_aload_n hx hb dX4_drop_0 rfl (lv_at hl 0 rfl) ?_
  refine lv_iload_n hx hb dX4_drop_1 rfl (lv_at hl 1 rfl) ?_
  refine z_callVi (o := o0) (ci := 3) (As := [.int x1]) (rest := []) (t_X4_has G l hN o0 k_o0 n_o0 x1 h) cv_X4_has hx hb hml hl.1 Z hw k_o0 (by decide) n_o0 rfl rfl wd476 rfl rfl (Nat.le_of_ble_eq_true rfl) (by decide) dX4_drop_2 (fun H locs hw => ?_)
  refine lv_if_ne (tgt := 9) hx hb dX4_drop_5 (by decide) (fun c5 => ?_) (fun c5 => ?_)
  · have hf := (if_neg c5).symm.trans hf
    refine lv_iload_n hx hb dX4_drop_9 rfl (lv_at hl 1 rfl) ?_
    refine lv_iconst (v := (4 : Int32)) hx hb dX4_drop_10 (by decide) ?_
    refine lv_imul hx hb dX4_drop_11 ?_
    refine lv_istore_n (lv' := [(2, _), (0, _), (1, _)]) hx hb dX4_drop_12 rfl hl (by decide) rfl (fun ls hl => ?_)
    obtain ⟨q13, hq13, hf⟩ := ob_some hf
    refine w_X4_drop_L13 G l hN o0 k_o0 n_o0 hx hb hr hlk hml Z FU (x1 * (4 : Int32)) h  _ _ ls H locs (lv_sub hl [1, 0] rfl) hw hq13 (fun ls H locs hl hw => ?_)
    refine lv_aload_n hx hb dX4_drop_48 rfl (lv_at hl 0 rfl) ?_
    refine lv_dup hx hb dX4_drop_49 rfl ?_
    refine z_geti (o := o0) (C := RX4) (T := TX4) (N := 2) (ci := 3) (k := 1) hx hb Z hw k_o0 n_o0 rfl inX4 (by decide) wd86 dX4_drop_50 ?_
    refine lv_iconst (v := (1 : Int32)) hx hb dX4_drop_53 (by decide) ?_
    refine lv_isub hx hb dX4_drop_54 ?_
    refine z_puti (o := o0) (v := (q13 o0 1) - (1 : Int32)) (ty := .int) (C := RX4) (T := TX4) (N := 2) (ci := 3) (k := 1) hx hb Z hw k_o0 n_o0 rfl inX4 tyX4 tyX4_ok nmX4 (by decide) wd86 rfl (by decide +kernel) rfl rfl dX4_drop_55 (fun H locs hw => ?_)
    obtain rfl := Option.some.inj hf
    exact z_vret hx hb hr hlk hw dX4_drop_58
  · have hf := (if_pos c5).symm.trans hf
    obtain rfl := Option.some.inj hf
    exact z_vret hx hb hr hlk hw dX4_drop_8
set_option maxHeartbeats 4000000 in
set_option maxRecDepth 100000 in
theorem t_X10_polishAway (G : GM) (l : Launch) (hN : 70 ≤ gN G) (x1 : Int32) (h : HP) {r : Int32} {h' : HP} (hf : f_X10_polishAway x1 h = some (r, h')) : MC G l yX10_polishAway cX10_polishAway 2 (some .int) 4 [.ref (ra G 0), .int x1] h h' (some (.int r)) := by
  unfold f_X10_polishAway at hf
  refine z_start (by decide) (Nat.le_of_ble_eq_true rfl) ?_
  intro p e s m args below meth c ls hx hb hr hlk hml Z hw hl
  have Z : ZK G s args m RX10 := Z
  have hl : lv_has ls 2 [(0, .ref (ra G 0)), (1, .int x1)] := hl
  obtain ⟨H, hH⟩ : ∃ H, H = s.heap := ⟨_, rfl⟩
  rw [← hH] at hw ⊢
  obtain ⟨locs, hlc⟩ : ∃ locs : List Loc, locs = [] := ⟨_, rfl⟩
  rw [← hlc] at hw ⊢
  refine lv_aload_n hx hb dX10_polishAway_0 rfl (lv_at hl 0 rfl) ?_
  refine z_getr (o := 0) (o2 := 1) (C := RX10) (T := TX10) (N := 8) (ci := 8) (k := 0) hx hb Z hw (by decide) (by omega) rfl inX10 (by decide) rfl wd233 dX10_polishAway_1 ?_
  refine z_getr (o := 1) (o2 := 3) (C := RX6) (T := TX6) (N := 4) (ci := 5) (k := 1) hx hb Z hw (by decide) (by omega) rfl inX6 (by decide) rfl wd148 dX10_polishAway_4 ?_
  refine lv_iload_n hx hb dX10_polishAway_7 rfl (lv_at hl 1 rfl) ?_
  refine z_callVi (o := 3) (ci := 3) (As := [.int x1]) (rest := []) (t_X4_has G l hN 3 (by decide) (by omega) x1 h) cv_X4_has hx hb hml hl.1 Z hw (by decide) (by decide) (by omega) rfl rfl wd468 rfl rfl (Nat.le_of_ble_eq_true rfl) (by decide) dX10_polishAway_8 (fun H locs hw => ?_)
  refine lv_if_ne (tgt := 16) hx hb dX10_polishAway_11 (by decide) (fun c11 => ?_) (fun c11 => ?_)
  · have hf := (if_neg c11).symm.trans hf
    refine lv_aload_n hx hb dX10_polishAway_16 rfl (lv_at hl 0 rfl) ?_
    refine z_getr (o := 0) (o2 := 1) (C := RX10) (T := TX10) (N := 8) (ci := 8) (k := 0) hx hb Z hw (by decide) (by omega) rfl inX10 (by decide) rfl wd233 dX10_polishAway_17 ?_
    refine z_getr (o := 1) (o2 := 3) (C := RX6) (T := TX6) (N := 4) (ci := 5) (k := 1) hx hb Z hw (by decide) (by omega) rfl inX6 (by decide) rfl wd148 dX10_polishAway_20 ?_
    refine lv_iload_n hx hb dX10_polishAway_23 rfl (lv_at hl 1 rfl) ?_
    obtain ⟨q24, hq24, hf⟩ := ob_some hf
    refine z_callVv (o := 3) (ci := 3) (As := [.int x1]) (rest := []) (t_X4_drop G l hN 3 (by decide) (by omega) x1 h hq24) cv_X4_drop hx hb hml hl.1 Z hw (by decide) (by decide) (by omega) rfl rfl wd472 rfl rfl (Nat.le_of_ble_eq_true rfl) (by decide) dX10_polishAway_24 (fun H locs hw => ?_)
    refine lv_aload_n hx hb dX10_polishAway_27 rfl (lv_at hl 0 rfl) ?_
    refine z_getr (o := 0) (o2 := 63) (C := RX10) (T := TX10) (N := 8) (ci := 8) (k := 6) hx hb Z hw (by decide) (by omega) rfl inX10 (by decide) rfl wd239 dX10_polishAway_28 ?_
    refine lv_aload_n hx hb dX10_polishAway_31 rfl (lv_at hl 0 rfl) ?_
    refine z_getr (o := 0) (o2 := 1) (C := RX10) (T := TX10) (N := 8) (ci := 8) (k := 0) hx hb Z hw (by decide) (by omega) rfl inX10 (by decide) rfl wd233 dX10_polishAway_32 ?_
    obtain ⟨q35, hq35, hf⟩ := ob_some hf
    refine z_callVi (o := 63) (ci := 6) (As := [.ref (ra G 1)]) (rest := []) (t_X7_of G l hN 1 (by decide) (by omega) q24 hq35) cv_X7_of hx hb hml hl.1 Z hw (by decide) (by decide) (by omega) rfl rfl wd343 rfl rfl (Nat.le_of_ble_eq_true rfl) (by decide) dX10_polishAway_35 (fun H locs hw => ?_)
    refine lv_iconst (v := (0 : Int32)) hx hb dX10_polishAway_38 (by decide) ?_
    refine lv_sipush (v := (3810 : Int32)) hx hb dX10_polishAway_39 (by decide) ?_
    refine lv_iconst (v := (-1 : Int32)) hx hb dX10_polishAway_42 (by decide) ?_
    obtain ⟨q43, hq43, hf⟩ := ob_some hf
    refine z_callVi (o := 63) (ci := 6) (As := [.int (0 : Int32), .int (3810 : Int32), .int (-1 : Int32)]) (rest := []) (t_X7_damagedIn G l hN (0 : Int32) (3810 : Int32) (-1 : Int32) q35 hq43) cv_X7_damagedIn hx hb hml hl.1 Z hw (by decide) (by decide) (by omega) rfl rfl wd459 rfl rfl (Nat.le_of_ble_eq_true rfl) (by decide) dX10_polishAway_43 (fun H locs hw => ?_)
    obtain ⟨rfl, rfl⟩ := Prod.mk.inj (Option.some.inj hf)
    exact z_iret hx hb hr hlk hw dX10_polishAway_46
  · have hf := (if_pos c11).symm.trans hf
    refine lv_iconst (v := (-1 : Int32)) hx hb dX10_polishAway_14 (by decide) ?_
    obtain ⟨rfl, rfl⟩ := Prod.mk.inj (Option.some.inj hf)
    exact z_iret hx hb hr hlk hw dX10_polishAway_15
set_option maxHeartbeats 4000000 in
set_option maxRecDepth 100000 in
theorem t_X10_polish (G : GM) (l : Launch) (hN : 70 ≤ gN G) (x1 : Int32) (h : HP) {r : Int32} {h' : HP} (hf : f_X10_polish x1 h = some (r, h')) : MC G l yX10_polish cX10_polish 2 (some .int) 5 [.ref (ra G 0), .int x1] h h' (some (.int r)) := by
  unfold f_X10_polish at hf
  refine z_start (by decide) (Nat.le_of_ble_eq_true rfl) ?_
  intro p e s m args below meth c ls hx hb hr hlk hml Z hw hl
  have Z : ZK G s args m RX10 := Z
  have hl : lv_has ls 2 [(0, .ref (ra G 0)), (1, .int x1)] := hl
  obtain ⟨H, hH⟩ : ∃ H, H = s.heap := ⟨_, rfl⟩
  rw [← hH] at hw ⊢
  obtain ⟨locs, hlc⟩ : ∃ locs : List Loc, locs = [] := ⟨_, rfl⟩
  rw [← hlc] at hw ⊢
  refine lv_aload_n hx hb dX10_polish_0 rfl (lv_at hl 0 rfl) ?_
  refine z_getr (o := 0) (o2 := 9) (C := RX10) (T := TX10) (N := 8) (ci := 8) (k := 1) hx hb Z hw (by decide) (by omega) rfl inX10 (by decide) rfl wd234 dX10_polish_1 ?_
  refine lv_aload_n hx hb dX10_polish_4 rfl (lv_at hl 0 rfl) ?_
  refine z_getr (o := 0) (o2 := 1) (C := RX10) (T := TX10) (N := 8) (ci := 8) (k := 0) hx hb Z hw (by decide) (by omega) rfl inX10 (by decide) rfl wd233 dX10_polish_5 ?_
  obtain ⟨q8, hq8, hf⟩ := tb_ex hf
  refine z_callVv (o := 9) (ci := 5) (As := [.ref (ra G 1)]) (rest := []) (t_X6_copyFrom G l hN 9 (by decide) (by omega) 1 (by decide) (by omega) h hq8) cv_X6_copyFrom hx hb hml hl.1 Z hw (by decide) (by decide) (by omega) rfl rfl wd269 rfl rfl (Nat.le_of_ble_eq_true rfl) (by decide) dX10_polish_8 (fun H locs hw => ?_)
  refine lv_aload_n hx hb dX10_polish_11 rfl (lv_at hl 0 rfl) ?_
  refine lv_aload_n hx hb dX10_polish_12 rfl (lv_at hl 0 rfl) ?_
  refine lv_iload_n hx hb dX10_polish_13 rfl (lv_at hl 1 rfl) ?_
  obtain ⟨q14, hq14, hf⟩ := ob_some hf
  refine z_callVi (o := 0) (ci := 8) (As := [.int x1]) (rest := [.ref (ra G 0)]) (t_X10_polishAway G l hN x1 q8 hq14) cv_X10_polishAway hx hb hml hl.1 Z hw (by decide) (by decide) (by omega) rfl rfl wd464 rfl rfl (Nat.le_of_ble_eq_true rfl) (by decide) dX10_polish_14 (fun H locs hw => ?_)
  obtain ⟨q17, hq17, hf⟩ := ob_some hf
  refine z_callVi (o := 0) (ci := 8) (As := [.int q14.1]) (rest := []) (t_X10_recorded G l hN q14.1 q14.2 hq17) cv_X10_recorded hx hb hml hl.1 Z hw (by decide) (by decide) (by omega) rfl rfl wd305 rfl rfl (Nat.le_of_ble_eq_true rfl) (by decide) dX10_polish_17 (fun H locs hw => ?_)
  obtain ⟨rfl, rfl⟩ := Prod.mk.inj (Option.some.inj hf)
  exact z_iret hx hb hr hlk hw dX10_polish_20
set_option maxHeartbeats 4000000 in
set_option maxRecDepth 100000 in
theorem t_X1_goToStart (G : GM) (l : Launch) (hN : 70 ≤ gN G) (o0 : Nat) (k_o0 : kd o0 = 0) (n_o0 : o0 < gN G) (o1 : Nat) (k_o1 : kd o1 = 4) (n_o1 : o1 < gN G) (h : HP) {h' : HP} (hf : f_X1_goToStart o0 o1 h = h') : MC G l yX1_goToStart cX1_goToStart 2 none 1 [.ref (ra G o0), .ref (ra G o1)] h h' none := by
  unfold f_X1_goToStart at hf
  refine z_start (by decide) (Nat.le_of_ble_eq_true rfl) ?_
  intro p e s m args below meth c ls hx hb hr hlk hml Z hw hl
  have Z : ZK G s args m RX1 := Z
  have hl : lv_has ls 2 [(0, .ref (ra G o0)), (1, .ref (ra G o1))] := hl
  obtain ⟨H, hH⟩ : ∃ H, H = s.heap := ⟨_, rfl⟩
  rw [← hH] at hw ⊢
  obtain ⟨locs, hlc⟩ : ∃ locs : List Loc, locs = [] := ⟨_, rfl⟩
  rw [← hlc] at hw ⊢
  refine lv_aload_n hx hb dX1_goToStart_0 rfl (lv_at hl 0 rfl) ?_
  refine lv_iconst (v := (0 : Int32)) hx hb dX1_goToStart_1 (by decide) ?_
  refine z_puti (o := o0) (v := (0 : Int32)) (ty := .int) (C := RX1) (T := TX1) (N := 6) (ci := 0) (k := 0) hx hb Z hw k_o0 n_o0 rfl inX1 tyX1 tyX1_ok nmX1 (by decide) wd118 rfl (by decide +kernel) rfl rfl dX1_goToStart_2 (fun H locs hw => ?_)
  refine lv_aload_n hx hb dX1_goToStart_5 rfl (lv_at hl 0 rfl) ?_
  refine lv_aload_n hx hb dX1_goToStart_6 rfl (lv_at hl 1 rfl) ?_
  refine lv_iconst (v := (0 : Int32)) hx hb dX1_goToStart_7 (by decide) ?_
  obtain ⟨h8, hqh8, hf⟩ := tb_ex hf
  rw [hqh8] at hw
  refine z_callVi (o := o1) (ci := 4) (As := [.int (0 : Int32)]) (rest := [.ref (ra G o0)]) (t_X5_framesOf G l hN o1 k_o1 n_o1 (0 : Int32) h8) cv_X5_framesOf hx hb hml hl.1 Z hw k_o1 (by decide) n_o1 rfl rfl wd301 rfl rfl (Nat.le_of_ble_eq_true rfl) (by decide) dX1_goToStart_8 (fun H locs hw => ?_)
  refine z_puti (o := o0) (v := f_X5_framesOf o1 (0 : Int32) h8) (ty := .int) (C := RX1) (T := TX1) (N := 6) (ci := 0) (k := 1) hx hb Z hw k_o0 n_o0 rfl inX1 tyX1 tyX1_ok nmX1 (by decide) wd120 rfl (by decide +kernel) rfl rfl dX1_goToStart_11 (fun H locs hw => ?_)
  obtain rfl := hf
  exact z_vret hx hb hr hlk hw dX1_goToStart_14
set_option maxHeartbeats 4000000 in
set_option maxRecDepth 100000 in
theorem t_X5_change (G : GM) (l : Launch) (hN : 70 ≤ gN G) (o0 : Nat) (k_o0 : kd o0 = 4) (n_o0 : o0 < gN G) (x1 : Int32) (x2 : Int32) (h : HP) {h' : HP} (hf : f_X5_change o0 x1 x2 h = h') : MC G l yX5_change cX5_change 3 none 0 [.ref (ra G o0), .int x1, .int x2] h h' none := by
  unfold f_X5_change at hf
  refine z_start (by decide) (Nat.le_of_ble_eq_true rfl) ?_
  intro p e s m args below meth c ls hx hb hr hlk hml Z hw hl
  have Z : ZK G s args m RX5 := Z
  have hl : lv_has ls 3 [(0, .ref (ra G o0)), (1, .int x1), (2, .int x2)] := hl
  obtain ⟨H, hH⟩ : ∃ H, H = s.heap := ⟨_, rfl⟩
  rw [← hH] at hw ⊢
  obtain ⟨locs, hlc⟩ : ∃ locs : List Loc, locs = [] := ⟨_, rfl⟩
  rw [← hlc] at hw ⊢
  refine lv_iload_n hx hb dX5_change_0 rfl (lv_at hl 1 rfl) ?_
  by_cases c1_0 : x1 = 0
  · have hf := (if_pos c1_0).symm.trans hf
    refine z_sw c1_0 ?_
    refine lv_tableIn (tgt := 36) hx hb dX5_change_1 (by decide) (by decide) rfl (by decide) ?_
    refine lv_aload_n hx hb dX5_change_36 rfl (lv_at hl 0 rfl) ?_
    refine lv_iload_n hx hb dX5_change_37 rfl (lv_at hl 2 rfl) ?_
    refine z_puti (o := o0) (v := x2) (ty := .int) (C := RX5) (T := TX5) (N := 6) (ci := 4) (k := 0) hx hb Z hw k_o0 n_o0 rfl inX5 tyX5 tyX5_ok nmX5 (by decide) wd56 rfl (by decide +kernel) rfl rfl dX5_change_38 (fun H locs hw => ?_)
    refine lv_goto (tgt := 81) hx hb dX5_change_41 (by decide) ?_
    obtain rfl := hf
    exact z_vret hx hb hr hlk hw dX5_change_81
  have hf := (if_neg c1_0).symm.trans hf
  by_cases c1_1 : x1 = 1
  · have hf := (if_pos c1_1).symm.trans hf
    refine z_sw c1_1 ?_
    refine lv_tableIn (tgt := 44) hx hb dX5_change_1 (by decide) (by decide) rfl (by decide) ?_
    refine lv_aload_n hx hb dX5_change_44 rfl (lv_at hl 0 rfl) ?_
    refine lv_iload_n hx hb dX5_change_45 rfl (lv_at hl 2 rfl) ?_
    refine z_puti (o := o0) (v := x2) (ty := .int) (C := RX5) (T := TX5) (N := 6) (ci := 4) (k := 1) hx hb Z hw k_o0 n_o0 rfl inX5 tyX5 tyX5_ok nmX5 (by decide) wd57 rfl (by decide +kernel) rfl rfl dX5_change_46 (fun H locs hw => ?_)
    refine lv_goto (tgt := 81) hx hb dX5_change_49 (by decide) ?_
    obtain rfl := hf
    exact z_vret hx hb hr hlk hw dX5_change_81
  have hf := (if_neg c1_1).symm.trans hf
  by_cases c1_2 : x1 = 2
  · have hf := (if_pos c1_2).symm.trans hf
    refine z_sw c1_2 ?_
    refine lv_tableIn (tgt := 52) hx hb dX5_change_1 (by decide) (by decide) rfl (by decide) ?_
    refine lv_aload_n hx hb dX5_change_52 rfl (lv_at hl 0 rfl) ?_
    refine lv_iload_n hx hb dX5_change_53 rfl (lv_at hl 2 rfl) ?_
    refine z_puti (o := o0) (v := x2) (ty := .int) (C := RX5) (T := TX5) (N := 6) (ci := 4) (k := 2) hx hb Z hw k_o0 n_o0 rfl inX5 tyX5 tyX5_ok nmX5 (by decide) wd58 rfl (by decide +kernel) rfl rfl dX5_change_54 (fun H locs hw => ?_)
    refine lv_goto (tgt := 81) hx hb dX5_change_57 (by decide) ?_
    obtain rfl := hf
    exact z_vret hx hb hr hlk hw dX5_change_81
  have hf := (if_neg c1_2).symm.trans hf
  by_cases c1_3 : x1 = 3
  · have hf := (if_pos c1_3).symm.trans hf
    refine z_sw c1_3 ?_
    refine lv_tableIn (tgt := 60) hx hb dX5_change_1 (by decide) (by decide) rfl (by decide) ?_
    refine lv_aload_n hx hb dX5_change_60 rfl (lv_at hl 0 rfl) ?_
    refine lv_iload_n hx hb dX5_change_61 rfl (lv_at hl 2 rfl) ?_
    refine z_puti (o := o0) (v := x2) (ty := .int) (C := RX5) (T := TX5) (N := 6) (ci := 4) (k := 3) hx hb Z hw k_o0 n_o0 rfl inX5 tyX5 tyX5_ok nmX5 (by decide) wd60 rfl (by decide +kernel) rfl rfl dX5_change_62 (fun H locs hw => ?_)
    refine lv_goto (tgt := 81) hx hb dX5_change_65 (by decide) ?_
    obtain rfl := hf
    exact z_vret hx hb hr hlk hw dX5_change_81
  have hf := (if_neg c1_3).symm.trans hf
  by_cases c1_4 : x1 = 4
  · have hf := (if_pos c1_4).symm.trans hf
    refine z_sw c1_4 ?_
    refine lv_tableIn (tgt := 68) hx hb dX5_change_1 (by decide) (by decide) rfl (by decide) ?_
    refine lv_aload_n hx hb dX5_change_68 rfl (lv_at hl 0 rfl) ?_
    refine lv_iload_n hx hb dX5_change_69 rfl (lv_at hl 2 rfl) ?_
    refine z_puti (o := o0) (v := x2) (ty := .int) (C := RX5) (T := TX5) (N := 6) (ci := 4) (k := 4) hx hb Z hw k_o0 n_o0 rfl inX5 tyX5 tyX5_ok nmX5 (by decide) wd62 rfl (by decide +kernel) rfl rfl dX5_change_70 (fun H locs hw => ?_)
    refine lv_goto (tgt := 81) hx hb dX5_change_73 (by decide) ?_
    obtain rfl := hf
    exact z_vret hx hb hr hlk hw dX5_change_81
  have hf := (if_neg c1_4).symm.trans hf
  refine lv_tableOut (tgt := 76) hx hb dX5_change_1 (by have := [0]; have e0 := sw_ne (k := 0) (by decide) c1_0; have e1 := sw_ne (k := 1) (by decide) c1_1; have e2 := sw_ne (k := 2) (by decide) c1_2; have e3 := sw_ne (k := 3) (by decide) c1_3; have e4 := sw_ne (k := 4) (by decide) c1_4; omega) (by decide) ?_
  refine lv_aload_n hx hb dX5_change_76 rfl (lv_at hl 0 rfl) ?_
  refine lv_iload_n hx hb dX5_change_77 rfl (lv_at hl 2 rfl) ?_
  refine z_puti (o := o0) (v := x2) (ty := .int) (C := RX5) (T := TX5) (N := 6) (ci := 4) (k := 5) hx hb Z hw k_o0 n_o0 rfl inX5 tyX5 tyX5_ok nmX5 (by decide) wd64 rfl (by decide +kernel) rfl rfl dX5_change_78 (fun H locs hw => ?_)
  obtain rfl := hf
  exact z_vret hx hb hr hlk hw dX5_change_81
set_option maxHeartbeats 4000000 in
set_option maxRecDepth 100000 in
theorem t_X5_isInRange (G : GM) (l : Launch) (hN : 70 ≤ gN G) (x0 : Int32) (x1 : Int32) (h : HP) : MC G l yX5_isInRange cX5_isInRange 2 (some .boolean) 0 [.int x0, .int x1] h h (some (.int (f_X5_isInRange x0 x1 h))) := by
  generalize hf : f_X5_isInRange x0 x1 h = r
  unfold f_X5_isInRange at hf
  refine z_start (by decide) (Nat.le_of_ble_eq_true rfl) ?_
  intro p e s m args below meth c ls hx hb hr hlk hml Z hw hl
  have Z : ZK G s args m RX5 := Z
  have hl : lv_has ls 2 [(0, .int x0), (1, .int x1)] := hl
  obtain ⟨H, hH⟩ : ∃ H, H = s.heap := ⟨_, rfl⟩
  rw [← hH] at hw ⊢
  obtain ⟨locs, hlc⟩ : ∃ locs : List Loc, locs = [] := ⟨_, rfl⟩
  rw [← hlc] at hw ⊢
  refine lv_iload_n hx hb dX5_isInRange_0 rfl (lv_at hl 0 rfl) ?_
  by_cases c1_0 : x0 = 0
  · have hf := (if_pos c1_0).symm.trans hf
    refine z_sw c1_0 ?_
    refine lv_tableIn (tgt := 40) hx hb dX5_isInRange_1 (by decide) (by decide) rfl (by decide) ?_
    refine lv_iload_n hx hb dX5_isInRange_40 rfl (lv_at hl 1 rfl) ?_
    refine lv_bipush (v := (8 : Int32)) hx hb dX5_isInRange_41 (by decide) ?_
    refine lv_icmp_lt (tgt := 56) hx hb dX5_isInRange_43 (by decide) (fun c43 => ?_) (fun c43 => ?_)
    · have hf := (if_pos c43).symm.trans hf
      refine lv_iconst (v := (0 : Int32)) hx hb dX5_isInRange_56 (by decide) ?_
      obtain rfl := hf
      exact z_zret hx hb hr rfl hlk hw dX5_isInRange_57
    · have hf := (if_neg c43).symm.trans hf
      refine lv_iload_n hx hb dX5_isInRange_46 rfl (lv_at hl 1 rfl) ?_
      refine lv_bipush (v := (40 : Int32)) hx hb dX5_isInRange_47 (by decide) ?_
      refine lv_icmp_gt (tgt := 56) hx hb dX5_isInRange_49 (by decide) (fun c49 => ?_) (fun c49 => ?_)
      · have hf := (if_pos c49).symm.trans hf
        refine lv_iconst (v := (0 : Int32)) hx hb dX5_isInRange_56 (by decide) ?_
        obtain rfl := hf
        exact z_zret hx hb hr rfl hlk hw dX5_isInRange_57
      · have hf := (if_neg c49).symm.trans hf
        refine lv_iconst (v := (1 : Int32)) hx hb dX5_isInRange_52 (by decide) ?_
        refine lv_goto (tgt := 57) hx hb dX5_isInRange_53 (by decide) ?_
        obtain rfl := hf
        exact z_zret hx hb hr rfl hlk hw dX5_isInRange_57
  have hf := (if_neg c1_0).symm.trans hf
  by_cases c1_1 : x0 = 1
  · have hf := (if_pos c1_1).symm.trans hf
    refine z_sw c1_1 ?_
    refine lv_tableIn (tgt := 58) hx hb dX5_isInRange_1 (by decide) (by decide) rfl (by decide) ?_
    refine lv_iload_n hx hb dX5_isInRange_58 rfl (lv_at hl 1 rfl) ?_
    refine lv_if_lt (tgt := 72) hx hb dX5_isInRange_59 (by decide) (fun c59 => ?_) (fun c59 => ?_)
    · have hf := (if_pos c59).symm.trans hf
      refine lv_iconst (v := (0 : Int32)) hx hb dX5_isInRange_72 (by decide) ?_
      obtain rfl := hf
      exact z_zret hx hb hr rfl hlk hw dX5_isInRange_73
    · have hf := (if_neg c59).symm.trans hf
      refine lv_iload_n hx hb dX5_isInRange_62 rfl (lv_at hl 1 rfl) ?_
      refine lv_bipush (v := (6 : Int32)) hx hb dX5_isInRange_63 (by decide) ?_
      refine lv_icmp_gt (tgt := 72) hx hb dX5_isInRange_65 (by decide) (fun c65 => ?_) (fun c65 => ?_)
      · have hf := (if_pos c65).symm.trans hf
        refine lv_iconst (v := (0 : Int32)) hx hb dX5_isInRange_72 (by decide) ?_
        obtain rfl := hf
        exact z_zret hx hb hr rfl hlk hw dX5_isInRange_73
      · have hf := (if_neg c65).symm.trans hf
        refine lv_iconst (v := (1 : Int32)) hx hb dX5_isInRange_68 (by decide) ?_
        refine lv_goto (tgt := 73) hx hb dX5_isInRange_69 (by decide) ?_
        obtain rfl := hf
        exact z_zret hx hb hr rfl hlk hw dX5_isInRange_73
  have hf := (if_neg c1_1).symm.trans hf
  by_cases c1_2 : x0 = 2
  · have hf := (if_pos c1_2).symm.trans hf
    refine z_sw c1_2 ?_
    refine lv_tableIn (tgt := 74) hx hb dX5_isInRange_1 (by decide) (by decide) rfl (by decide) ?_
    refine lv_iload_n hx hb dX5_isInRange_74 rfl (lv_at hl 1 rfl) ?_
    refine lv_iconst (v := (1 : Int32)) hx hb dX5_isInRange_75 (by decide) ?_
    refine lv_icmp_lt (tgt := 89) hx hb dX5_isInRange_76 (by decide) (fun c76 => ?_) (fun c76 => ?_)
    · have hf := (if_pos c76).symm.trans hf
      refine lv_iconst (v := (0 : Int32)) hx hb dX5_isInRange_89 (by decide) ?_
      obtain rfl := hf
      exact z_zret hx hb hr rfl hlk hw dX5_isInRange_90
    · have hf := (if_neg c76).symm.trans hf
      refine lv_iload_n hx hb dX5_isInRange_79 rfl (lv_at hl 1 rfl) ?_
      refine lv_bipush (v := (9 : Int32)) hx hb dX5_isInRange_80 (by decide) ?_
      refine lv_icmp_gt (tgt := 89) hx hb dX5_isInRange_82 (by decide) (fun c82 => ?_) (fun c82 => ?_)
      · have hf := (if_pos c82).symm.trans hf
        refine lv_iconst (v := (0 : Int32)) hx hb dX5_isInRange_89 (by decide) ?_
        obtain rfl := hf
        exact z_zret hx hb hr rfl hlk hw dX5_isInRange_90
      · have hf := (if_neg c82).symm.trans hf
        refine lv_iconst (v := (1 : Int32)) hx hb dX5_isInRange_85 (by decide) ?_
        refine lv_goto (tgt := 90) hx hb dX5_isInRange_86 (by decide) ?_
        obtain rfl := hf
        exact z_zret hx hb hr rfl hlk hw dX5_isInRange_90
  have hf := (if_neg c1_2).symm.trans hf
  by_cases c1_3 : x0 = 3
  · have hf := (if_pos c1_3).symm.trans hf
    refine z_sw c1_3 ?_
    refine lv_tableIn (tgt := 91) hx hb dX5_isInRange_1 (by decide) (by decide) rfl (by decide) ?_
    refine lv_iload_n hx hb dX5_isInRange_91 rfl (lv_at hl 1 rfl) ?_
    refine lv_if_lt (tgt := 104) hx hb dX5_isInRange_92 (by decide) (fun c92 => ?_) (fun c92 => ?_)
    · have hf := (if_pos c92).symm.trans hf
      refine lv_iconst (v := (0 : Int32)) hx hb dX5_isInRange_104 (by decide) ?_
      obtain rfl := hf
      exact z_zret hx hb hr rfl hlk hw dX5_isInRange_105
    · have hf := (if_neg c92).symm.trans hf
      refine lv_iload_n hx hb dX5_isInRange_95 rfl (lv_at hl 1 rfl) ?_
      refine lv_iconst (v := (5 : Int32)) hx hb dX5_isInRange_96 (by decide) ?_
      refine lv_icmp_gt (tgt := 104) hx hb dX5_isInRange_97 (by decide) (fun c97 => ?_) (fun c97 => ?_)
      · have hf := (if_pos c97).symm.trans hf
        refine lv_iconst (v := (0 : Int32)) hx hb dX5_isInRange_104 (by decide) ?_
        obtain rfl := hf
        exact z_zret hx hb hr rfl hlk hw dX5_isInRange_105
      · have hf := (if_neg c97).symm.trans hf
        refine lv_iconst (v := (1 : Int32)) hx hb dX5_isInRange_100 (by decide) ?_
        refine lv_goto (tgt := 105) hx hb dX5_isInRange_101 (by decide) ?_
        obtain rfl := hf
        exact z_zret hx hb hr rfl hlk hw dX5_isInRange_105
  have hf := (if_neg c1_3).symm.trans hf
  by_cases c1_4 : x0 = 4
  · have hf := (if_pos c1_4).symm.trans hf
    refine z_sw c1_4 ?_
    refine lv_tableIn (tgt := 106) hx hb dX5_isInRange_1 (by decide) (by decide) rfl (by decide) ?_
    refine lv_iload_n hx hb dX5_isInRange_106 rfl (lv_at hl 1 rfl) ?_
    refine lv_bipush (v := (60 : Int32)) hx hb dX5_isInRange_107 (by decide) ?_
    refine lv_icmp_lt (tgt := 123) hx hb dX5_isInRange_109 (by decide) (fun c109 => ?_) (fun c109 => ?_)
    · have hf := (if_pos c109).symm.trans hf
      refine lv_iconst (v := (0 : Int32)) hx hb dX5_isInRange_123 (by decide) ?_
      obtain rfl := hf
      exact z_zret hx hb hr rfl hlk hw dX5_isInRange_124
    · have hf := (if_neg c109).symm.trans hf
      refine lv_iload_n hx hb dX5_isInRange_112 rfl (lv_at hl 1 rfl) ?_
      refine lv_sipush (v := (140 : Int32)) hx hb dX5_isInRange_113 (by decide) ?_
      refine lv_icmp_gt (tgt := 123) hx hb dX5_isInRange_116 (by decide) (fun c116 => ?_) (fun c116 => ?_)
      · have hf := (if_pos c116).symm.trans hf
        refine lv_iconst (v := (0 : Int32)) hx hb dX5_isInRange_123 (by decide) ?_
        obtain rfl := hf
        exact z_zret hx hb hr rfl hlk hw dX5_isInRange_124
      · have hf := (if_neg c116).symm.trans hf
        refine lv_iconst (v := (1 : Int32)) hx hb dX5_isInRange_119 (by decide) ?_
        refine lv_goto (tgt := 124) hx hb dX5_isInRange_120 (by decide) ?_
        obtain rfl := hf
        exact z_zret hx hb hr rfl hlk hw dX5_isInRange_124
  have hf := (if_neg c1_4).symm.trans hf
  by_cases c1_5 : x0 = 5
  · have hf := (if_pos c1_5).symm.trans hf
    refine z_sw c1_5 ?_
    refine lv_tableIn (tgt := 125) hx hb dX5_isInRange_1 (by decide) (by decide) rfl (by decide) ?_
    refine lv_iload_n hx hb dX5_isInRange_125 rfl (lv_at hl 1 rfl) ?_
    refine lv_if_lt (tgt := 139) hx hb dX5_isInRange_126 (by decide) (fun c126 => ?_) (fun c126 => ?_)
    · have hf := (if_pos c126).symm.trans hf
      refine lv_iconst (v := (0 : Int32)) hx hb dX5_isInRange_139 (by decide) ?_
      obtain rfl := hf
      exact z_zret hx hb hr rfl hlk hw dX5_isInRange_140
    · have hf := (if_neg c126).symm.trans hf
      refine lv_iload_n hx hb dX5_isInRange_129 rfl (lv_at hl 1 rfl) ?_
      refine lv_bipush (v := (20 : Int32)) hx hb dX5_isInRange_130 (by decide) ?_
      refine lv_icmp_gt (tgt := 139) hx hb dX5_isInRange_132 (by decide) (fun c132 => ?_) (fun c132 => ?_)
      · have hf := (if_pos c132).symm.trans hf
        refine lv_iconst (v := (0 : Int32)) hx hb dX5_isInRange_139 (by decide) ?_
        obtain rfl := hf
        exact z_zret hx hb hr rfl hlk hw dX5_isInRange_140
      · have hf := (if_neg c132).symm.trans hf
        refine lv_iconst (v := (1 : Int32)) hx hb dX5_isInRange_135 (by decide) ?_
        refine lv_goto (tgt := 140) hx hb dX5_isInRange_136 (by decide) ?_
        obtain rfl := hf
        exact z_zret hx hb hr rfl hlk hw dX5_isInRange_140
  have hf := (if_neg c1_5).symm.trans hf
  refine lv_tableOut (tgt := 141) hx hb dX5_isInRange_1 (by have := [0]; have e0 := sw_ne (k := 0) (by decide) c1_0; have e1 := sw_ne (k := 1) (by decide) c1_1; have e2 := sw_ne (k := 2) (by decide) c1_2; have e3 := sw_ne (k := 3) (by decide) c1_3; have e4 := sw_ne (k := 4) (by decide) c1_4; have e5 := sw_ne (k := 5) (by decide) c1_5; omega) (by decide) ?_
  refine lv_iconst (v := (0 : Int32)) hx hb dX5_isInRange_141 (by decide) ?_
  obtain rfl := hf
  exact z_zret hx hb hr rfl hlk hw dX5_isInRange_142
