/-! walks (by program) -/
set_option maxHeartbeats 4000000 in
set_option maxRecDepth 100000 in
theorem w_X10_isToldRight_L23 (G : GM) (l : Launch) (hN : 70 ≤ gN G)  {p : Program} {e : Env} {s : State} {m : MethodId} {args : Array Value} {below : List Frame} {meth : Method} {c : Code} (hx : p.tables.exec = Jvm.exec) (hb : c.code = cX10_isToldRight) (hr : meth.sig.returnType = (some .boolean)) (hlk : meth.locks = false) (hml : c.maxLocals = 5) (Z : ZK G s args m RX10) : ∀ (n : Nat) (x1 : Int32) (x2 : Int32) (x3 : Int32) (x4 : Int32)  (h : HP)  (rv : Option Value) (hq : HP) (ls : Array Slot) (H : Heap) (locs : List Loc) {q : Int32}, lv_has ls 5 [(0, .ref (ra G 0)), (1, .int x1), (2, .int x2), (3, .int x3), (4, .int x4)] → HW G h s H locs → f_X10_isToldRight_L23 n x1 x2 x3 x4 h = some q → (∀ (ls : Array Slot) (H : Heap) (locs : List Loc), lv_has ls 5 [(3, .int q)] → HW G h s H locs → WZ p l e 4 s m args below meth c G rv hq H locs (F0 m 73 ls [])) → WZ p l e 4 s m args below meth c G rv hq H locs (F0 m 23 ls []) := by
  intro n
  induction n with
  | zero => intro x1 x2 x3 x4  h  rv hq ls H locs q hl hw hf kk; cases hf
  | succ n ih =>
    intro x1 x2 x3 x4  h  rv hq ls H locs q hl hw hf kk
    rw [f_X10_isToldRight_L23] at hf
    refine lv_iload hx hb dX10_isToldRight_23 (lv_at hl 4 rfl) ?_
    refine lv_iconst (v := (4 : Int32)) hx hb dX10_isToldRight_25 (by decide) ?_
    refine lv_icmp_ge (tgt := 73) hx hb dX10_isToldRight_26 (by decide) (fun c26 => ?_) (fun c26 => ?_)
    · have hf := (if_pos c26).symm.trans hf
      obtain rfl := Option.some.inj hf
      exact kk ls H locs (lv_sub hl [3] rfl) hw
    · have hf := (if_neg c26).symm.trans hf
      refine lv_iload_n hx hb dX10_isToldRight_29 rfl (lv_at hl 3 rfl) ?_
      refine lv_if_eq (tgt := 73) hx hb dX10_isToldRight_30 (by decide) (fun c30 => ?_) (fun c30 => ?_)
      · have hf := (if_pos c30).symm.trans hf
        obtain rfl := Option.some.inj hf
        exact kk ls H locs (lv_sub hl [3] rfl) hw
      · have hf := (if_neg c30).symm.trans hf
        refine lv_iload_n hx hb dX10_isToldRight_33 rfl (lv_at hl 2 rfl) ?_
        refine lv_iconst (v := (2 : Int32)) hx hb dX10_isToldRight_34 (by decide) ?_
        refine lv_icmp_ne (tgt := 73) hx hb dX10_isToldRight_35 (by decide) (fun c35 => ?_) (fun c35 => ?_)
        · have hf := (if_neg c35).symm.trans hf
          obtain rfl := Option.some.inj hf
          exact kk ls H locs (lv_sub hl [3] rfl) hw
        · have hf := (if_pos c35).symm.trans hf
          refine lv_aload_n hx hb dX10_isToldRight_38 rfl (lv_at hl 0 rfl) ?_
          refine lv_iload_n hx hb dX10_isToldRight_39 rfl (lv_at hl 1 rfl) ?_
          refine lv_iload hx hb dX10_isToldRight_40 (lv_at hl 4 rfl) ?_
          obtain ⟨q42, hq42, hf⟩ := ob_some hf
          refine z_callVi (o := 0) (ci := 8) (As := [.int x1, .int x4]) (rest := []) (t_X10_filledSymbol G l hN x1 x4 h hq42) cv_X10_filledSymbol hx hb hml hl.1 Z hw (by decide) (by decide) (by omega) rfl rfl wd794 rfl rfl (Nat.le_of_ble_eq_true rfl) (by decide) dX10_isToldRight_42 (fun H locs hw => ?_)
          refine lv_aload_n hx hb dX10_isToldRight_45 rfl (lv_at hl 0 rfl) ?_
          refine z_getr (o := 0) (o2 := 1) (C := RX10) (T := TX10) (N := 8) (ci := 8) (k := 0) hx hb Z hw (by decide) (by omega) rfl inX10 (by decide) rfl wd288 dX10_isToldRight_46 ?_
          refine z_getr (o := 1) (o2 := 5) (C := RX6) (T := TX6) (N := 4) (ci := 5) (k := 2) hx hb Z hw (by decide) (by omega) rfl inX6 (by decide) rfl wd204 dX10_isToldRight_49 ?_
          refine lv_iload_n hx hb dX10_isToldRight_52 rfl (lv_at hl 1 rfl) ?_
          refine lv_iload hx hb dX10_isToldRight_53 (lv_at hl 4 rfl) ?_
          obtain ⟨q55, hq55, hf⟩ := ob_some hf
          refine z_callVi (o := 5) (ci := 7) (As := [.int x1, .int x4]) (rest := [.int q42]) (t_X8_standsAt G l hN 5 (by decide) (by omega) x1 x4 h hq55) cv_X8_standsAt hx hb hml hl.1 Z hw (by decide) (by decide) (by omega) rfl rfl wd363 rfl rfl (Nat.le_of_ble_eq_true rfl) (by decide) dX10_isToldRight_55 (fun H locs hw => ?_)
          have HJ66 : ∀ (ls : Array Slot) (H : Heap) (locs : List Loc), lv_has ls 5 [(0, .ref (ra G 0)), (1, .int x1), (2, .int x2), (4, .int x4)] → HW G h s H locs → WZ p l e 4 s m args below meth c G rv hq H locs (F0 m 66 ls [.int (if q42 = q55 then (1 : Int32) else (0 : Int32))]) := by
            intro ls H locs hl hw
            obtain ⟨v66, hqv66, hf⟩ := tb_ex hf
            refine z_top hqv66 ?_
            refine lv_istore_n (lv' := [(3, _), (0, _), (1, _), (2, _), (4, _)]) hx hb dX10_isToldRight_66 rfl hl (by decide) rfl (fun ls hl => ?_)
            refine lv_iinc (v := x4 + (1 : Int32)) (lv' := [(4, _), (3, _), (0, _), (1, _), (2, _)]) hx hb dX10_isToldRight_67 hl (k := 4) rfl rfl (by decide) rfl (fun ls hl => ?_)
            refine lv_goto (tgt := 23) hx hb dX10_isToldRight_70 (by decide) ?_
            exact ih x1 x2 v66 (x4 + (1 : Int32)) h  rv hq ls H locs (lv_sub hl [2, 3, 4, 1, 0] rfl) hw hf kk
          refine lv_icmp_ne (tgt := 65) hx hb dX10_isToldRight_58 (by decide) (fun c58 => ?_) (fun c58 => ?_)
          · skip
            refine lv_iconst (v := (0 : Int32)) hx hb dX10_isToldRight_65 (by decide) ?_
            refine W.eq (g2 := F0 m 66 ls [.int (if q42 = q55 then (1 : Int32) else (0 : Int32))]) ?_ (HJ66 ls H locs (lv_sub hl [0, 1, 2, 4] rfl) hw)
            simp only [if_neg c58]
          · skip
            refine lv_iconst (v := (1 : Int32)) hx hb dX10_isToldRight_61 (by decide) ?_
            refine lv_goto (tgt := 66) hx hb dX10_isToldRight_62 (by decide) ?_
            refine W.eq (g2 := F0 m 66 ls [.int (if q42 = q55 then (1 : Int32) else (0 : Int32))]) ?_ (HJ66 ls H locs (lv_sub hl [0, 1, 2, 4] rfl) hw)
            simp only [if_pos c58]
set_option maxHeartbeats 4000000 in
set_option maxRecDepth 100000 in
theorem t_X10_isToldRight (G : GM) (l : Launch) (hN : 70 ≤ gN G) (x1 : Int32) (h : HP) {r : Int32} (hf : f_X10_isToldRight x1 h = some r) : MC G l yX10_isToldRight cX10_isToldRight 5 (some .boolean) 4 [.ref (ra G 0), .int x1] h h (some (.int r)) := by
  unfold f_X10_isToldRight at hf
  refine z_start (by decide) (Nat.le_of_ble_eq_true rfl) ?_
  intro p e s m args below meth c ls hx hb hr hlk hml Z hw hl
  have Z : ZK G s args m RX10 := Z
  have hl : lv_has ls 5 [(0, .ref (ra G 0)), (1, .int x1)] := hl
  obtain ⟨H, hH⟩ : ∃ H, H = s.heap := ⟨_, rfl⟩
  rw [← hH] at hw ⊢
  obtain ⟨locs, hlc⟩ : ∃ locs : List Loc, locs = [] := ⟨_, rfl⟩
  rw [← hlc] at hw ⊢
  refine lv_aload_n hx hb dX10_isToldRight_0 rfl (lv_at hl 0 rfl) ?_
  refine z_getr (o := 0) (o2 := 63) (C := RX10) (T := TX10) (N := 8) (ci := 8) (k := 6) hx hb Z hw (by decide) (by omega) rfl inX10 (by decide) rfl wd294 dX10_isToldRight_1 ?_
  refine lv_iload_n hx hb dX10_isToldRight_4 rfl (lv_at hl 1 rfl) ?_
  refine z_callVi (o := 63) (ci := 6) (As := [.int x1]) (rest := []) (t_X7_howIs G l hN x1 h) cv_X7_howIs hx hb hml hl.1 Z hw (by decide) (by decide) (by omega) rfl rfl wd762 rfl rfl (Nat.le_of_ble_eq_true rfl) (by decide) dX10_isToldRight_5 (fun H locs hw => ?_)
  refine lv_istore_n (lv' := [(2, _), (0, _), (1, _)]) hx hb dX10_isToldRight_8 rfl hl (by decide) rfl (fun ls hl => ?_)
  refine lv_iload_n hx hb dX10_isToldRight_9 rfl (lv_at hl 0 rfl) ?_
  refine lv_iconst (v := (3 : Int32)) hx hb dX10_isToldRight_10 (by decide) ?_
  have HJ19 : ∀ (ls : Array Slot) (H : Heap) (locs : List Loc), lv_has ls 5 [(0, .ref (ra G 0)), (1, .int x1), (2, .int (f_X7_howIs x1 h))] → HW G h s H locs → WZ p l e 4 s m args below meth c G (some (.int r)) h H locs (F0 m 19 ls [.int (if (f_X7_howIs x1 h) = (3 : Int32) then (0 : Int32) else (1 : Int32))]) := by
    intro ls H locs hl hw
    obtain ⟨v19, hqv19, hf⟩ := tb_ex hf
    refine z_top hqv19 ?_
    refine lv_istore_n (lv' := [(3, _), (0, _), (1, _), (2, _)]) hx hb dX10_isToldRight_19 rfl hl (by decide) rfl (fun ls hl => ?_)
    refine lv_iconst (v := (0 : Int32)) hx hb dX10_isToldRight_20 (by decide) ?_
    refine lv_istore (lv' := [(4, _), (3, _), (0, _), (1, _), (2, _)]) hx hb dX10_isToldRight_21 hl (by decide) rfl (fun ls hl => ?_)
    obtain ⟨q23, hq23, hf⟩ := ob_some hf
    refine w_X10_isToldRight_L23 G l hN  hx hb hr hlk hml Z FU x1 (f_X7_howIs x1 h) v19 (0 : Int32) h  _ _ ls H locs (lv_sub hl [2, 3, 4, 1, 0] rfl) hw hq23 (fun ls H locs hl hw => ?_)
    refine lv_iload_n hx hb dX10_isToldRight_73 rfl (lv_at hl 0 rfl) ?_
    obtain ⟨hz74, hf⟩ := gd_some hf
    obtain rfl := Option.some.inj hf
    exact z_zret hx hb hr (nar_b (is01_or hz74)) hlk hw dX10_isToldRight_74
  refine lv_icmp_eq (tgt := 18) hx hb dX10_isToldRight_11 (by decide) (fun c11 => ?_) (fun c11 => ?_)
  · skip
    refine lv_iconst (v := (0 : Int32)) hx hb dX10_isToldRight_18 (by decide) ?_
    refine W.eq (g2 := F0 m 19 ls [.int (if (f_X7_howIs x1 h) = (3 : Int32) then (0 : Int32) else (1 : Int32))]) ?_ (HJ19 ls H locs (lv_sub hl [1, 2, 0] rfl) hw)
    simp only [if_pos c11]
  · skip
    refine lv_iconst (v := (1 : Int32)) hx hb dX10_isToldRight_14 (by decide) ?_
    refine lv_goto (tgt := 19) hx hb dX10_isToldRight_15 (by decide) ?_
    refine W.eq (g2 := F0 m 19 ls [.int (if (f_X7_howIs x1 h) = (3 : Int32) then (0 : Int32) else (1 : Int32))]) ?_ (HJ19 ls H locs (lv_sub hl [1, 2, 0] rfl) hw)
    simp only [if_neg c11]
set_option maxHeartbeats 4000000 in
set_option maxRecDepth 100000 in
theorem w_X10_right_L30 (G : GM) (l : Launch) (hN : 70 ≤ gN G)  {p : Program} {e : Env} {s : State} {m : MethodId} {args : Array Value} {below : List Frame} {meth : Method} {c : Code} (hx : p.tables.exec = Jvm.exec) (hb : c.code = cX10_right) (hr : meth.sig.returnType = (some .double)) (hlk : meth.locks = false) (hml : c.maxLocals = 5) (Z : ZK G s args m RX10) : ∀ (n : Nat) (x1 : Int32) (x2 : Int32) (x3 : Int32) (x4 : Int32)  (h : HP)  (rv : Option Value) (hq : HP) (ls : Array Slot) (H : Heap) (locs : List Loc) {q : Int32 × Int32}, lv_has ls 5 [(0, .ref (ra G 0)), (1, .int x1), (2, .int x2), (3, .int x3), (4, .int x4)] → HW G h s H locs → f_X10_right_L30 n x1 x2 x3 x4 h = some q → (∀ (ls : Array Slot) (H : Heap) (locs : List Loc), lv_has ls 5 [(1, .int q.1), (2, .int q.2)] → HW G h s H locs → WZ p l e 5 s m args below meth c G rv hq H locs (F0 m 70 ls [])) → WZ p l e 5 s m args below meth c G rv hq H locs (F0 m 30 ls []) := by
  intro n
  induction n with
  | zero => intro x1 x2 x3 x4  h  rv hq ls H locs q hl hw hf kk; cases hf
  | succ n ih =>
    intro x1 x2 x3 x4  h  rv hq ls H locs q hl hw hf kk
    rw [f_X10_right_L30] at hf
    refine lv_iload hx hb dX10_right_30 (lv_at hl 4 rfl) ?_
    refine lv_iload_n hx hb dX10_right_32 rfl (lv_at hl 3 rfl) ?_
    refine lv_icmp_ge (tgt := 70) hx hb dX10_right_33 (by decide) (fun c33 => ?_) (fun c33 => ?_)
    · have hf := (if_pos c33).symm.trans hf
      obtain rfl := Option.some.inj hf
      exact kk ls H locs (lv_sub hl [1, 2] rfl) hw
    · have hf := (if_neg c33).symm.trans hf
      refine lv_iload hx hb dX10_right_36 (lv_at hl 4 rfl) ?_
      refine z_callSi (As := [.int x4]) (rest := []) (t_X5_isCheck G l hN x4 h) cs_X5_isCheck hx hb hml hl.1 Z hw wd360 rfl rfl (Nat.le_of_ble_eq_true rfl) (by decide) dX10_right_38 (fun H locs hw => ?_)
      obtain ⟨j41, hqj41, hf⟩ := ob_some hf
      have HJ64 : ∀ (ls : Array Slot) (H : Heap) (locs : List Loc), lv_has ls 5 [(0, .ref (ra G 0)), (1, .int j41.1), (2, .int j41.2), (3, .int x3), (4, .int x4)] → HW G h s H locs → WZ p l e 5 s m args below meth c G rv hq H locs (F0 m 64 ls []) := by
        intro ls H locs hl hw
        refine lv_iinc (v := x4 + (1 : Int32)) (lv' := [(4, _), (0, _), (1, _), (2, _), (3, _)]) hx hb dX10_right_64 hl (k := 4) rfl rfl (by decide) rfl (fun ls hl => ?_)
        refine lv_goto (tgt := 30) hx hb dX10_right_67 (by decide) ?_
        exact ih j41.1 j41.2 x3 (x4 + (1 : Int32)) h  rv hq ls H locs (lv_sub hl [1, 2, 3, 4, 0] rfl) hw hf kk
      have hf := hqj41
      refine lv_if_ne (tgt := 64) hx hb dX10_right_41 (by decide) (fun c41 => ?_) (fun c41 => ?_)
      · have hf := (if_neg c41).symm.trans hf
        obtain rfl := Option.some.inj hf
        exact HJ64 ls H locs (lv_sub hl [0, 1, 2, 3, 4] rfl) hw
      · have hf := (if_pos c41).symm.trans hf
        refine lv_iinc (v := x1 + (1 : Int32)) (lv' := [(1, _), (0, _), (2, _), (3, _), (4, _)]) hx hb dX10_right_44 hl (k := 1) rfl rfl (by decide) rfl (fun ls hl => ?_)
        refine lv_iload_n hx hb dX10_right_47 rfl (lv_at hl 2 rfl) ?_
        refine lv_aload_n hx hb dX10_right_48 rfl (lv_at hl 1 rfl) ?_
        refine lv_iload hx hb dX10_right_49 (lv_at hl 4 rfl) ?_
        obtain ⟨q51, hq51, hf⟩ := ob_some hf
        refine z_callVi (o := 0) (ci := 8) (As := [.int x4]) (rest := [.int x2]) (t_X10_isToldRight G l hN x4 h hq51) cv_X10_isToldRight hx hb hml hl.1 Z hw (by decide) (by decide) (by omega) rfl rfl wd838 rfl rfl (Nat.le_of_ble_eq_true rfl) (by decide) dX10_right_51 (fun H locs hw => ?_)
        have HJ62 : ∀ (ls : Array Slot) (H : Heap) (locs : List Loc), lv_has ls 5 [(0, .ref (ra G 0)), (1, .int (x1 + (1 : Int32))), (3, .int x3), (4, .int x4)] → HW G h s H locs → WZ p l e 5 s m args below meth c G rv hq H locs (F0 m 62 ls [.int (if q51 = 0 then (0 : Int32) else (1 : Int32)), .int x2]) := by
          intro ls H locs hl hw
          refine lv_iadd hx hb dX10_right_62 ?_
          obtain ⟨v63, hqv63, hf⟩ := tb_ex hf
          refine z_top hqv63 ?_
          refine lv_istore_n (lv' := [(2, _), (0, _), (1, _), (3, _), (4, _)]) hx hb dX10_right_63 rfl hl (by decide) rfl (fun ls hl => ?_)
          obtain rfl := Option.some.inj hf
          exact HJ64 ls H locs (lv_sub hl [1, 2, 0, 3, 4] rfl) hw
        refine lv_if_eq (tgt := 61) hx hb dX10_right_54 (by decide) (fun c54 => ?_) (fun c54 => ?_)
        · skip
          refine lv_iconst (v := (0 : Int32)) hx hb dX10_right_61 (by decide) ?_
          refine W.eq (g2 := F0 m 62 ls [.int (if q51 = 0 then (0 : Int32) else (1 : Int32)), .int x2]) ?_ (HJ62 ls H locs (lv_sub hl [1, 0, 3, 4] rfl) hw)
          simp only [if_pos c54]
        · skip
          refine lv_iconst (v := (1 : Int32)) hx hb dX10_right_57 (by decide) ?_
          refine lv_goto (tgt := 62) hx hb dX10_right_58 (by decide) ?_
          refine W.eq (g2 := F0 m 62 ls [.int (if q51 = 0 then (0 : Int32) else (1 : Int32)), .int x2]) ?_ (HJ62 ls H locs (lv_sub hl [1, 0, 3, 4] rfl) hw)
          simp only [if_neg c54]
set_option maxHeartbeats 4000000 in
set_option maxRecDepth 100000 in
theorem t_X10_right (G : GM) (l : Launch) (hN : 70 ≤ gN G)  (h : HP) {r : UInt64} {h' : HP} (hf : f_X10_right  h = some (r, h')) : MC G l yX10_right cX10_right 5 (some .double) 5 [.ref (ra G 0)] h h' (some (.double r)) := by
  unfold f_X10_right at hf
  refine z_start (by decide) (Nat.le_of_ble_eq_true rfl) ?_
  intro p e s m args below meth c ls hx hb hr hlk hml Z hw hl
  have Z : ZK G s args m RX10 := Z
  have hl : lv_has ls 5 [(0, .ref (ra G 0))] := hl
  obtain ⟨H, hH⟩ : ∃ H, H = s.heap := ⟨_, rfl⟩
  rw [← hH] at hw ⊢
  obtain ⟨locs, hlc⟩ : ∃ locs : List Loc, locs = [] := ⟨_, rfl⟩
  rw [← hlc] at hw ⊢
  refine lv_iconst (v := (0 : Int32)) hx hb dX10_right_0 (by decide) ?_
  refine lv_istore_n (lv' := [(1, _), (0, _)]) hx hb dX10_right_1 rfl hl (by decide) rfl (fun ls hl => ?_)
  refine lv_iconst (v := (0 : Int32)) hx hb dX10_right_2 (by decide) ?_
  refine lv_istore_n (lv' := [(2, _), (1, _), (0, _)]) hx hb dX10_right_3 rfl hl (by decide) rfl (fun ls hl => ?_)
  refine lv_aload_n hx hb dX10_right_4 rfl (lv_at hl 2 rfl) ?_
  refine z_getr (o := 0) (o2 := 1) (C := RX10) (T := TX10) (N := 8) (ci := 8) (k := 0) hx hb Z hw (by decide) (by omega) rfl inX10 (by decide) rfl wd288 dX10_right_5 ?_
  refine z_getr (o := 1) (o2 := 2) (C := RX6) (T := TX6) (N := 4) (ci := 5) (k := 0) hx hb Z hw (by decide) (by omega) rfl inX6 (by decide) rfl wd199 dX10_right_8 ?_
  refine z_callVi (o := 2) (ci := 4) (As := []) (rest := []) (t_X5_allFrames G l hN 2 (by decide) (by omega) h) cv_X5_allFrames hx hb hml hl.1 Z hw (by decide) (by decide) (by omega) rfl rfl wd548 rfl rfl (Nat.le_of_ble_eq_true rfl) (by decide) dX10_right_11 (fun H locs hw => ?_)
  refine lv_istore_n (lv' := [(3, _), (2, _), (1, _), (0, _)]) hx hb dX10_right_14 rfl hl (by decide) rfl (fun ls hl => ?_)
  refine lv_aload_n hx hb dX10_right_15 rfl (lv_at hl 3 rfl) ?_
  refine z_getr (o := 0) (o2 := 63) (C := RX10) (T := TX10) (N := 8) (ci := 8) (k := 6) hx hb Z hw (by decide) (by omega) rfl inX10 (by decide) rfl wd294 dX10_right_16 ?_
  refine lv_aload_n hx hb dX10_right_19 rfl (lv_at hl 3 rfl) ?_
  refine z_getr (o := 0) (o2 := 1) (C := RX10) (T := TX10) (N := 8) (ci := 8) (k := 0) hx hb Z hw (by decide) (by omega) rfl inX10 (by decide) rfl wd288 dX10_right_20 ?_
  obtain ⟨q23, hq23, hf⟩ := ob_some hf
  refine z_callVi (o := 63) (ci := 6) (As := [.ref (ra G 1)]) (rest := []) (t_X7_of G l hN 1 (by decide) (by omega) h hq23) cv_X7_of hx hb hml hl.1 Z hw (by decide) (by decide) (by omega) rfl rfl wd423 rfl rfl (Nat.le_of_ble_eq_true rfl) (by decide) dX10_right_23 (fun H locs hw => ?_)
  refine lv_pop hx hb dX10_right_26 rfl ?_
  refine lv_iconst (v := (0 : Int32)) hx hb dX10_right_27 (by decide) ?_
  refine lv_istore (lv' := [(4, _), (3, _), (2, _), (1, _), (0, _)]) hx hb dX10_right_28 hl (by decide) rfl (fun ls hl => ?_)
  obtain ⟨q30, hq30, hf⟩ := ob_some hf
  refine w_X10_right_L30 G l hN  hx hb hr hlk hml Z FU (0 : Int32) (0 : Int32) (f_X5_allFrames 2 h) (0 : Int32) q23  _ _ ls H locs (lv_sub hl [4, 3, 2, 1, 0] rfl) hw hq30 (fun ls H locs hl hw => ?_)
  refine lv_iload_n hx hb dX10_right_70 rfl (lv_at hl 0 rfl) ?_
  refine lv_if_ne (tgt := 78) hx hb dX10_right_71 (by decide) (fun c71 => ?_) (fun c71 => ?_)
  · have hf := (if_neg c71).symm.trans hf
    refine lv_iload_n hx hb dX10_right_78 rfl (lv_at hl 1 rfl) ?_
    refine lv_i2d hx hb dX10_right_79 ?_
    refine lv_iload_n hx hb dX10_right_80 rfl (lv_at hl 0 rfl) ?_
    refine lv_i2d hx hb dX10_right_81 ?_
    obtain ⟨h82, hf⟩ := gd_some hf
    refine lv_ddiv hx hb dX10_right_82 (dok_n h82) ?_
    obtain ⟨rfl, rfl⟩ := Prod.mk.inj (Option.some.inj hf)
    exact z_dret hx hb hr hlk hw dX10_right_83
  · have hf := (if_pos c71).symm.trans hf
    refine z_dconst1 hx hb dX10_right_74 ?_
    refine lv_goto (tgt := 83) hx hb dX10_right_75 (by decide) ?_
    obtain ⟨rfl, rfl⟩ := Prod.mk.inj (Option.some.inj hf)
    exact z_dret hx hb hr hlk hw dX10_right_83
set_option maxHeartbeats 4000000 in
set_option maxRecDepth 100000 in
theorem t_X10_trySeek (G : GM) (l : Launch) (hN : 70 ≤ gN G) (x1 : Int32) (x2 : Int32) (h : HP) {r : Int32} {h' : HP} (hf : f_X10_trySeek x1 x2 h = some (r, h')) : MC G l yX10_trySeek cX10_trySeek 3 (some .int) 3 [.ref (ra G 0), .int x1, .int x2] h h' (some (.int r)) := by
  unfold f_X10_trySeek at hf
  refine z_start (by decide) (Nat.le_of_ble_eq_true rfl) ?_
  intro p e s m args below meth c ls hx hb hr hlk hml Z hw hl
  have Z : ZK G s args m RX10 := Z
  have hl : lv_has ls 3 [(0, .ref (ra G 0)), (1, .int x1), (2, .int x2)] := hl
  obtain ⟨H, hH⟩ : ∃ H, H = s.heap := ⟨_, rfl⟩
  rw [← hH] at hw ⊢
  obtain ⟨locs, hlc⟩ : ∃ locs : List Loc, locs = [] := ⟨_, rfl⟩
  rw [← hlc] at hw ⊢
  refine lv_aload_n hx hb dX10_trySeek_0 rfl (lv_at hl 0 rfl) ?_
  refine z_getr (o := 0) (o2 := 69) (C := RX10) (T := TX10) (N := 8) (ci := 8) (k := 7) hx hb Z hw (by decide) (by omega) rfl inX10 (by decide) rfl wd295 dX10_trySeek_1 ?_
  refine lv_aload_n hx hb dX10_trySeek_4 rfl (lv_at hl 0 rfl) ?_
  refine z_getr (o := 0) (o2 := 1) (C := RX10) (T := TX10) (N := 8) (ci := 8) (k := 0) hx hb Z hw (by decide) (by omega) rfl inX10 (by decide) rfl wd288 dX10_trySeek_5 ?_
  refine z_getr (o := 1) (o2 := 8) (C := RX6) (T := TX6) (N := 4) (ci := 5) (k := 3) hx hb Z hw (by decide) (by omega) rfl inX6 (by decide) rfl wd206 dX10_trySeek_8 ?_
  obtain ⟨q11, hq11, hf⟩ := tb_ex hf
  refine z_callVv (o := 69) (ci := 0) (As := [.ref (ra G 8)]) (rest := []) (t_X1_copyFrom G l hN 69 (by decide) (by omega) 8 (by decide) (by omega) h hq11) cv_X1_copyFrom hx hb hml hl.1 Z hw (by decide) (by decide) (by omega) rfl rfl wd850 rfl rfl (Nat.le_of_ble_eq_true rfl) (by decide) dX10_trySeek_11 (fun H locs hw => ?_)
  refine lv_aload_n hx hb dX10_trySeek_14 rfl (lv_at hl 0 rfl) ?_
  refine z_getr (o := 0) (o2 := 69) (C := RX10) (T := TX10) (N := 8) (ci := 8) (k := 7) hx hb Z hw (by decide) (by omega) rfl inX10 (by decide) rfl wd295 dX10_trySeek_15 ?_
  refine lv_iload_n hx hb dX10_trySeek_18 rfl (lv_at hl 1 rfl) ?_
  refine lv_aload_n hx hb dX10_trySeek_19 rfl (lv_at hl 0 rfl) ?_
  refine z_getr (o := 0) (o2 := 1) (C := RX10) (T := TX10) (N := 8) (ci := 8) (k := 0) hx hb Z hw (by decide) (by omega) rfl inX10 (by decide) rfl wd288 dX10_trySeek_20 ?_
  refine z_getr (o := 1) (o2 := 2) (C := RX6) (T := TX6) (N := 4) (ci := 5) (k := 0) hx hb Z hw (by decide) (by omega) rfl inX6 (by decide) rfl wd199 dX10_trySeek_23 ?_
  refine lv_iload_n hx hb dX10_trySeek_26 rfl (lv_at hl 2 rfl) ?_
  obtain ⟨q27, hq27, hf⟩ := ob_some hf
  refine z_callVv (o := 69) (ci := 0) (As := [.int x1, .ref (ra G 2), .int x2]) (rest := []) (t_X1_goTo G l hN 69 (by decide) (by omega) x1 2 (by decide) (by omega) x2 q11 hq27) cv_X1_goTo hx hb hml hl.1 Z hw (by decide) (by decide) (by omega) rfl rfl wd584 rfl rfl (Nat.le_of_ble_eq_true rfl) (by decide) dX10_trySeek_27 (fun H locs hw => ?_)
  refine lv_aload_n hx hb dX10_trySeek_30 rfl (lv_at hl 0 rfl) ?_
  refine z_getr (o := 0) (o2 := 69) (C := RX10) (T := TX10) (N := 8) (ci := 8) (k := 7) hx hb Z hw (by decide) (by omega) rfl inX10 (by decide) rfl wd295 dX10_trySeek_31 ?_
  refine z_geti (o := 69) (C := RX1) (T := TX1) (N := 6) (ci := 0) (k := 2) hx hb Z hw (by decide) (by omega) rfl inX1 (by decide) wd177 dX10_trySeek_34 ?_
  refine lv_aload_n hx hb dX10_trySeek_37 rfl (lv_at hl 0 rfl) ?_
  refine z_getr (o := 0) (o2 := 1) (C := RX10) (T := TX10) (N := 8) (ci := 8) (k := 0) hx hb Z hw (by decide) (by omega) rfl inX10 (by decide) rfl wd288 dX10_trySeek_38 ?_
  refine z_getr (o := 1) (o2 := 8) (C := RX6) (T := TX6) (N := 4) (ci := 5) (k := 3) hx hb Z hw (by decide) (by omega) rfl inX6 (by decide) rfl wd206 dX10_trySeek_41 ?_
  refine z_geti (o := 8) (C := RX1) (T := TX1) (N := 6) (ci := 0) (k := 2) hx hb Z hw (by decide) (by omega) rfl inX1 (by decide) wd177 dX10_trySeek_44 ?_
  refine lv_isub hx hb dX10_trySeek_47 ?_
  obtain ⟨rfl, rfl⟩ := Prod.mk.inj (Option.some.inj hf)
  exact z_iret hx hb hr hlk hw dX10_trySeek_48
set_option maxHeartbeats 4000000 in
set_option maxRecDepth 100000 in
theorem t_X10_ifSought (G : GM) (l : Launch) (hN : 70 ≤ gN G) (x1 : Int32) (x2 : Int32) (h : HP) {r : Int32} {h' : HP} (hf : f_X10_ifSought x1 x2 h = some (r, h')) : MC G l yX10_ifSought cX10_ifSought 4 (some .int) 4 [.ref (ra G 0), .int x1, .int x2] h h' (some (.int r)) := by
  unfold f_X10_ifSought at hf
  refine z_start (by decide) (Nat.le_of_ble_eq_true rfl) ?_
  intro p e s m args below meth c ls hx hb hr hlk hml Z hw hl
  have Z : ZK G s args m RX10 := Z
  have hl : lv_has ls 4 [(0, .ref (ra G 0)), (1, .int x1), (2, .int x2)] := hl
  obtain ⟨H, hH⟩ : ∃ H, H = s.heap := ⟨_, rfl⟩
  rw [← hH] at hw ⊢
  obtain ⟨locs, hlc⟩ : ∃ locs : List Loc, locs = [] := ⟨_, rfl⟩
  rw [← hlc] at hw ⊢
  refine lv_aload_n hx hb dX10_ifSought_0 rfl (lv_at hl 0 rfl) ?_
  refine z_getr (o := 0) (o2 := 1) (C := RX10) (T := TX10) (N := 8) (ci := 8) (k := 0) hx hb Z hw (by decide) (by omega) rfl inX10 (by decide) rfl wd288 dX10_ifSought_1 ?_
  refine z_getr (o := 1) (o2 := 2) (C := RX6) (T := TX6) (N := 4) (ci := 5) (k := 0) hx hb Z hw (by decide) (by omega) rfl inX6 (by decide) rfl wd199 dX10_ifSought_4 ?_
  refine lv_iload_n hx hb dX10_ifSought_7 rfl (lv_at hl 1 rfl) ?_
  refine z_callVi (o := 2) (ci := 4) (As := [.int x1]) (rest := []) (t_X5_hasFrame G l hN 2 (by decide) (by omega) x1 h) cv_X5_hasFrame hx hb hml hl.1 Z hw (by decide) (by decide) (by omega) rfl rfl wd345 rfl rfl (Nat.le_of_ble_eq_true rfl) (by decide) dX10_ifSought_8 (fun H locs hw => ?_)
  refine lv_if_ne (tgt := 16) hx hb dX10_ifSought_11 (by decide) (fun c11 => ?_) (fun c11 => ?_)
  · have hf := (if_neg c11).symm.trans hf
    refine lv_iload_n hx hb dX10_ifSought_16 rfl (lv_at hl 2 rfl) ?_
    refine lv_if_eq (tgt := 28) hx hb dX10_ifSought_17 (by decide) (fun c17 => ?_) (fun c17 => ?_)
    · have hf := (if_pos c17).symm.trans hf
      refine lv_aload_n hx hb dX10_ifSought_28 rfl (lv_at hl 0 rfl) ?_
      refine lv_iload_n hx hb dX10_ifSought_29 rfl (lv_at hl 1 rfl) ?_
      refine lv_aload_n hx hb dX10_ifSought_30 rfl (lv_at hl 0 rfl) ?_
      refine z_getr (o := 0) (o2 := 1) (C := RX10) (T := TX10) (N := 8) (ci := 8) (k := 0) hx hb Z hw (by decide) (by omega) rfl inX10 (by decide) rfl wd288 dX10_ifSought_31 ?_
      refine z_getr (o := 1) (o2 := 2) (C := RX6) (T := TX6) (N := 4) (ci := 5) (k := 0) hx hb Z hw (by decide) (by omega) rfl inX6 (by decide) rfl wd199 dX10_ifSought_34 ?_
      refine z_geti (o := 2) (C := RX5) (T := TX5) (N := 6) (ci := 4) (k := 4) hx hb Z hw (by decide) (by omega) rfl inX5 (by decide) wd117 dX10_ifSought_37 ?_
      obtain ⟨q40, hq40, hf⟩ := ob_some hf
      refine z_callVi (o := 0) (ci := 8) (As := [.int x1, .int (h 2 4)]) (rest := []) (t_X10_trySeek G l hN x1 (h 2 4) h hq40) cv_X10_trySeek hx hb hml hl.1 Z hw (by decide) (by decide) (by omega) rfl rfl wd846 rfl rfl (Nat.le_of_ble_eq_true rfl) (by decide) dX10_ifSought_40 (fun H locs hw => ?_)
      refine lv_istore_n (lv' := [(3, _), (0, _), (1, _), (2, _)]) hx hb dX10_ifSought_43 rfl hl (by decide) rfl (fun ls hl => ?_)
      refine lv_iload_n hx hb dX10_ifSought_44 rfl (lv_at hl 3 rfl) ?_
      refine lv_if_ne (tgt := 52) hx hb dX10_ifSought_45 (by decide) (fun c45 => ?_) (fun c45 => ?_)
      · have hf := (if_neg c45).symm.trans hf
        refine lv_aload_n hx hb dX10_ifSought_52 rfl (lv_at hl 1 rfl) ?_
        refine z_getr (o := 0) (o2 := 69) (C := RX10) (T := TX10) (N := 8) (ci := 8) (k := 7) hx hb Z hw (by decide) (by omega) rfl inX10 (by decide) rfl wd295 dX10_ifSought_53 ?_
        refine z_geti (o := 69) (C := RX1) (T := TX1) (N := 6) (ci := 0) (k := 5) hx hb Z hw (by decide) (by omega) rfl inX1 (by decide) wd183 dX10_ifSought_56 ?_
        refine lv_aload_n hx hb dX10_ifSought_59 rfl (lv_at hl 1 rfl) ?_
        refine z_getr (o := 0) (o2 := 1) (C := RX10) (T := TX10) (N := 8) (ci := 8) (k := 0) hx hb Z hw (by decide) (by omega) rfl inX10 (by decide) rfl wd288 dX10_ifSought_60 ?_
        refine z_getr (o := 1) (o2 := 8) (C := RX6) (T := TX6) (N := 4) (ci := 5) (k := 3) hx hb Z hw (by decide) (by omega) rfl inX6 (by decide) rfl wd206 dX10_ifSought_63 ?_
        refine z_geti (o := 8) (C := RX1) (T := TX1) (N := 6) (ci := 0) (k := 5) hx hb Z hw (by decide) (by omega) rfl inX1 (by decide) wd183 dX10_ifSought_66 ?_
        refine lv_isub hx hb dX10_ifSought_69 ?_
        obtain ⟨rfl, rfl⟩ := Prod.mk.inj (Option.some.inj hf)
        exact z_iret hx hb hr hlk hw dX10_ifSought_70
      · have hf := (if_pos c45).symm.trans hf
        refine lv_iload_n hx hb dX10_ifSought_48 rfl (lv_at hl 0 rfl) ?_
        refine lv_goto (tgt := 70) hx hb dX10_ifSought_49 (by decide) ?_
        obtain ⟨rfl, rfl⟩ := Prod.mk.inj (Option.some.inj hf)
        exact z_iret hx hb hr hlk hw dX10_ifSought_70
    · have hf := (if_neg c17).symm.trans hf
      refine lv_iload_n hx hb dX10_ifSought_20 rfl (lv_at hl 2 rfl) ?_
      refine lv_iconst (v := (1 : Int32)) hx hb dX10_ifSought_21 (by decide) ?_
      refine lv_icmp_eq (tgt := 28) hx hb dX10_ifSought_22 (by decide) (fun c22 => ?_) (fun c22 => ?_)
      · have hf := (if_pos c22).symm.trans hf
        refine lv_aload_n hx hb dX10_ifSought_28 rfl (lv_at hl 0 rfl) ?_
        refine lv_iload_n hx hb dX10_ifSought_29 rfl (lv_at hl 1 rfl) ?_
        refine lv_aload_n hx hb dX10_ifSought_30 rfl (lv_at hl 0 rfl) ?_
        refine z_getr (o := 0) (o2 := 1) (C := RX10) (T := TX10) (N := 8) (ci := 8) (k := 0) hx hb Z hw (by decide) (by omega) rfl inX10 (by decide) rfl wd288 dX10_ifSought_31 ?_
        refine z_getr (o := 1) (o2 := 2) (C := RX6) (T := TX6) (N := 4) (ci := 5) (k := 0) hx hb Z hw (by decide) (by omega) rfl inX6 (by decide) rfl wd199 dX10_ifSought_34 ?_
        refine z_geti (o := 2) (C := RX5) (T := TX5) (N := 6) (ci := 4) (k := 4) hx hb Z hw (by decide) (by omega) rfl inX5 (by decide) wd117 dX10_ifSought_37 ?_
        obtain ⟨q40, hq40, hf⟩ := ob_some hf
        refine z_callVi (o := 0) (ci := 8) (As := [.int x1, .int (h 2 4)]) (rest := []) (t_X10_trySeek G l hN x1 (h 2 4) h hq40) cv_X10_trySeek hx hb hml hl.1 Z hw (by decide) (by decide) (by omega) rfl rfl wd846 rfl rfl (Nat.le_of_ble_eq_true rfl) (by decide) dX10_ifSought_40 (fun H locs hw => ?_)
        refine lv_istore_n (lv' := [(3, _), (0, _), (1, _), (2, _)]) hx hb dX10_ifSought_43 rfl hl (by decide) rfl (fun ls hl => ?_)
        refine lv_iload_n hx hb dX10_ifSought_44 rfl (lv_at hl 3 rfl) ?_
        refine lv_if_ne (tgt := 52) hx hb dX10_ifSought_45 (by decide) (fun c45 => ?_) (fun c45 => ?_)
        · have hf := (if_neg c45).symm.trans hf
          refine lv_aload_n hx hb dX10_ifSought_52 rfl (lv_at hl 1 rfl) ?_
          refine z_getr (o := 0) (o2 := 69) (C := RX10) (T := TX10) (N := 8) (ci := 8) (k := 7) hx hb Z hw (by decide) (by omega) rfl inX10 (by decide) rfl wd295 dX10_ifSought_53 ?_
          refine z_geti (o := 69) (C := RX1) (T := TX1) (N := 6) (ci := 0) (k := 5) hx hb Z hw (by decide) (by omega) rfl inX1 (by decide) wd183 dX10_ifSought_56 ?_
          refine lv_aload_n hx hb dX10_ifSought_59 rfl (lv_at hl 1 rfl) ?_
          refine z_getr (o := 0) (o2 := 1) (C := RX10) (T := TX10) (N := 8) (ci := 8) (k := 0) hx hb Z hw (by decide) (by omega) rfl inX10 (by decide) rfl wd288 dX10_ifSought_60 ?_
          refine z_getr (o := 1) (o2 := 8) (C := RX6) (T := TX6) (N := 4) (ci := 5) (k := 3) hx hb Z hw (by decide) (by omega) rfl inX6 (by decide) rfl wd206 dX10_ifSought_63 ?_
          refine z_geti (o := 8) (C := RX1) (T := TX1) (N := 6) (ci := 0) (k := 5) hx hb Z hw (by decide) (by omega) rfl inX1 (by decide) wd183 dX10_ifSought_66 ?_
          refine lv_isub hx hb dX10_ifSought_69 ?_
          obtain ⟨rfl, rfl⟩ := Prod.mk.inj (Option.some.inj hf)
          exact z_iret hx hb hr hlk hw dX10_ifSought_70
        · have hf := (if_pos c45).symm.trans hf
          refine lv_iload_n hx hb dX10_ifSought_48 rfl (lv_at hl 0 rfl) ?_
          refine lv_goto (tgt := 70) hx hb dX10_ifSought_49 (by decide) ?_
          obtain ⟨rfl, rfl⟩ := Prod.mk.inj (Option.some.inj hf)
          exact z_iret hx hb hr hlk hw dX10_ifSought_70
      · have hf := (if_neg c22).symm.trans hf
        refine lv_bipush (v := (-2 : Int32)) hx hb dX10_ifSought_25 (by decide) ?_
        obtain ⟨rfl, rfl⟩ := Prod.mk.inj (Option.some.inj hf)
        exact z_iret hx hb hr hlk hw dX10_ifSought_27
  · have hf := (if_pos c11).symm.trans hf
    refine lv_iconst (v := (-1 : Int32)) hx hb dX10_ifSought_14 (by decide) ?_
    obtain ⟨rfl, rfl⟩ := Prod.mk.inj (Option.some.inj hf)
    exact z_iret hx hb hr hlk hw dX10_ifSought_15
set_option maxHeartbeats 4000000 in
set_option maxRecDepth 100000 in
theorem w_X10_bestGuess_L31 (G : GM) (l : Launch) (hN : 70 ≤ gN G)  {p : Program} {e : Env} {s : State} {m : MethodId} {args : Array Value} {below : List Frame} {meth : Method} {c : Code} (hx : p.tables.exec = Jvm.exec) (hb : c.code = cX10_bestGuess) (hr : meth.sig.returnType = (some .int)) (hlk : meth.locks = false) (hml : c.maxLocals = 6) (Z : ZK G s args m RX10) : ∀ (n : Nat) (x1 : Int32) (x2 : Int32) (x3 : Int32) (x4 : Int32)  (h : HP)  (rv : Option Value) (hq : HP) (ls : Array Slot) (H : Heap) (locs : List Loc) {q : Int32 × HP}, lv_has ls 6 [(0, .ref (ra G 0)), (1, .int x1), (2, .int x2), (3, .int x3), (4, .int x4)] → HW G h s H locs → f_X10_bestGuess_L31 n x1 x2 x3 x4 h = some q → (∀ (ls : Array Slot) (H : Heap) (locs : List Loc), lv_has ls 6 [(2, .int q.1)] → HW G q.2 s H locs → WZ p l e 4 s m args below meth c G rv hq H locs (F0 m 66 ls [])) → WZ p l e 4 s m args below meth c G rv hq H locs (F0 m 31 ls []) := by
  intro n
  induction n with
  | zero => intro x1 x2 x3 x4  h  rv hq ls H locs q hl hw hf kk; cases hf
  | succ n ih =>
    intro x1 x2 x3 x4  h  rv hq ls H locs q hl hw hf kk
    rw [f_X10_bestGuess_L31] at hf
    refine lv_iload hx hb dX10_bestGuess_31 (lv_at hl 4 rfl) ?_
    refine lv_sipush (v := (140 : Int32)) hx hb dX10_bestGuess_33 (by decide) ?_
    refine lv_icmp_gt (tgt := 66) hx hb dX10_bestGuess_36 (by decide) (fun c36 => ?_) (fun c36 => ?_)
    · have hf := (if_pos c36).symm.trans hf
      obtain rfl := Option.some.inj hf
      exact kk ls H locs (lv_sub hl [2] rfl) hw
    · have hf := (if_neg c36).symm.trans hf
      refine lv_aload_n hx hb dX10_bestGuess_39 rfl (lv_at hl 0 rfl) ?_
      refine lv_iload_n hx hb dX10_bestGuess_40 rfl (lv_at hl 1 rfl) ?_
      refine lv_iload hx hb dX10_bestGuess_41 (lv_at hl 4 rfl) ?_
      obtain ⟨q43, hq43, hf⟩ := ob_some hf
      refine z_callVi (o := 0) (ci := 8) (As := [.int x1, .int x4]) (rest := []) (t_X10_trySeek G l hN x1 x4 h hq43) cv_X10_trySeek hx hb hml hl.1 Z hw (by decide) (by decide) (by omega) rfl rfl wd846 rfl rfl (Nat.le_of_ble_eq_true rfl) (by decide) dX10_bestGuess_43 (fun H locs hw => ?_)
      refine lv_istore (lv' := [(5, _), (0, _), (1, _), (2, _), (3, _), (4, _)]) hx hb dX10_bestGuess_46 hl (by decide) rfl (fun ls hl => ?_)
      refine lv_iload hx hb dX10_bestGuess_48 (lv_at hl 0 rfl) ?_
      refine lv_iload_n hx hb dX10_bestGuess_50 rfl (lv_at hl 4 rfl) ?_
      have HJ60 : ∀ (ls : Array Slot) (H : Heap) (locs : List Loc), lv_has ls 6 [(0, .ref (ra G 0)), (1, .int x1), (2, .int (if x3 ≤ q43.1 then x2 else x4)), (3, .int (if x3 ≤ q43.1 then x3 else q43.1)), (4, .int x4)] → HW G q43.2 s H locs → WZ p l e 4 s m args below meth c G rv hq H locs (F0 m 60 ls []) := by
        intro ls H locs hl hw
        refine lv_iinc (v := x4 + (1 : Int32)) (lv' := [(4, _), (0, _), (1, _), (2, _), (3, _)]) hx hb dX10_bestGuess_60 hl (k := 4) rfl rfl (by decide) rfl (fun ls hl => ?_)
        refine lv_goto (tgt := 31) hx hb dX10_bestGuess_63 (by decide) ?_
        exact ih x1 (if x3 ≤ q43.1 then x2 else x4) (if x3 ≤ q43.1 then x3 else q43.1) (x4 + (1 : Int32)) q43.2  rv hq ls H locs (lv_sub hl [1, 2, 3, 4, 0] rfl) hw hf kk
      refine lv_icmp_ge (tgt := 60) hx hb dX10_bestGuess_51 (by decide) (fun c51 => ?_) (fun c51 => ?_)
      · skip
        exact HJ60 ls H locs (by simp only [if_pos c51]; exact lv_sub hl [1, 2, 3, 4, 5] rfl) hw
      · skip
        refine lv_iload hx hb dX10_bestGuess_54 (lv_at hl 5 rfl) ?_
        refine lv_istore_n (lv' := [(2, _), (5, _), (0, _), (1, _), (3, _), (4, _)]) hx hb dX10_bestGuess_56 rfl hl (by decide) rfl (fun ls hl => ?_)
        refine lv_iload hx hb dX10_bestGuess_57 (lv_at hl 1 rfl) ?_
        refine lv_istore_n (lv' := [(3, _), (2, _), (5, _), (0, _), (1, _), (4, _)]) hx hb dX10_bestGuess_59 rfl hl (by decide) rfl (fun ls hl => ?_)
        exact HJ60 ls H locs (by simp only [if_neg c51]; exact lv_sub hl [3, 4, 1, 0, 5] rfl) hw
set_option maxHeartbeats 4000000 in
set_option maxRecDepth 100000 in
theorem t_X10_bestGuess (G : GM) (l : Launch) (hN : 70 ≤ gN G) (x1 : Int32) (h : HP) {r : Int32} {h' : HP} (hf : f_X10_bestGuess x1 h = some (r, h')) : MC G l yX10_bestGuess cX10_bestGuess 6 (some .int) 4 [.ref (ra G 0), .int x1] h h' (some (.int r)) := by
  unfold f_X10_bestGuess at hf
  refine z_start (by decide) (Nat.le_of_ble_eq_true rfl) ?_
  intro p e s m args below meth c ls hx hb hr hlk hml Z hw hl
  have Z : ZK G s args m RX10 := Z
  have hl : lv_has ls 6 [(0, .ref (ra G 0)), (1, .int x1)] := hl
  obtain ⟨H, hH⟩ : ∃ H, H = s.heap := ⟨_, rfl⟩
  rw [← hH] at hw ⊢
  obtain ⟨locs, hlc⟩ : ∃ locs : List Loc, locs = [] := ⟨_, rfl⟩
  rw [← hlc] at hw ⊢
  refine lv_aload_n hx hb dX10_bestGuess_0 rfl (lv_at hl 0 rfl) ?_
  refine z_getr (o := 0) (o2 := 1) (C := RX10) (T := TX10) (N := 8) (ci := 8) (k := 0) hx hb Z hw (by decide) (by omega) rfl inX10 (by decide) rfl wd288 dX10_bestGuess_1 ?_
  refine z_getr (o := 1) (o2 := 2) (C := RX6) (T := TX6) (N := 4) (ci := 5) (k := 0) hx hb Z hw (by decide) (by omega) rfl inX6 (by decide) rfl wd199 dX10_bestGuess_4 ?_
  refine lv_iload_n hx hb dX10_bestGuess_7 rfl (lv_at hl 1 rfl) ?_
  refine z_callVi (o := 2) (ci := 4) (As := [.int x1]) (rest := []) (t_X5_hasFrame G l hN 2 (by decide) (by omega) x1 h) cv_X5_hasFrame hx hb hml hl.1 Z hw (by decide) (by decide) (by omega) rfl rfl wd345 rfl rfl (Nat.le_of_ble_eq_true rfl) (by decide) dX10_bestGuess_8 (fun H locs hw => ?_)
  refine lv_if_ne (tgt := 16) hx hb dX10_bestGuess_11 (by decide) (fun c11 => ?_) (fun c11 => ?_)
  · have hf := (if_neg c11).symm.trans hf
    refine lv_bipush (v := (60 : Int32)) hx hb dX10_bestGuess_16 (by decide) ?_
    refine lv_istore_n (lv' := [(2, _), (0, _), (1, _)]) hx hb dX10_bestGuess_18 rfl hl (by decide) rfl (fun ls hl => ?_)
    refine lv_aload_n hx hb dX10_bestGuess_19 rfl (lv_at hl 1 rfl) ?_
    refine lv_iload_n hx hb dX10_bestGuess_20 rfl (lv_at hl 2 rfl) ?_
    refine lv_bipush (v := (60 : Int32)) hx hb dX10_bestGuess_21 (by decide) ?_
    obtain ⟨q23, hq23, hf⟩ := ob_some hf
    refine z_callVi (o := 0) (ci := 8) (As := [.int x1, .int (60 : Int32)]) (rest := []) (t_X10_trySeek G l hN x1 (60 : Int32) h hq23) cv_X10_trySeek hx hb hml hl.1 Z hw (by decide) (by decide) (by omega) rfl rfl wd846 rfl rfl (Nat.le_of_ble_eq_true rfl) (by decide) dX10_bestGuess_23 (fun H locs hw => ?_)
    refine lv_istore_n (lv' := [(3, _), (2, _), (0, _), (1, _)]) hx hb dX10_bestGuess_26 rfl hl (by decide) rfl (fun ls hl => ?_)
    refine lv_bipush (v := (61 : Int32)) hx hb dX10_bestGuess_27 (by decide) ?_
    refine lv_istore (lv' := [(4, _), (3, _), (2, _), (0, _), (1, _)]) hx hb dX10_bestGuess_29 hl (by decide) rfl (fun ls hl => ?_)
    obtain ⟨q31, hq31, hf⟩ := ob_some hf
    refine w_X10_bestGuess_L31 G l hN  hx hb hr hlk hml Z FU x1 (60 : Int32) q23.1 (61 : Int32) q23.2  _ _ ls H locs (lv_sub hl [3, 4, 2, 1, 0] rfl) hw hq31 (fun ls H locs hl hw => ?_)
    refine lv_iload_n hx hb dX10_bestGuess_66 rfl (lv_at hl 0 rfl) ?_
    obtain ⟨rfl, rfl⟩ := Prod.mk.inj (Option.some.inj hf)
    exact z_iret hx hb hr hlk hw dX10_bestGuess_67
  · have hf := (if_pos c11).symm.trans hf
    refine lv_iconst (v := (-1 : Int32)) hx hb dX10_bestGuess_14 (by decide) ?_
    obtain ⟨rfl, rfl⟩ := Prod.mk.inj (Option.some.inj hf)
    exact z_iret hx hb hr hlk hw dX10_bestGuess_15
set_option maxHeartbeats 4000000 in
set_option maxRecDepth 100000 in
theorem t_X7_missingWithout (G : GM) (l : Launch) (hN : 70 ≤ gN G) (x1 : Int32) (h : HP) {r : Int32} {h' : HP} (hf : f_X7_missingWithout x1 h = some (r, h')) : MC G l yX7_missingWithout cX7_missingWithout 2 (some .int) 3 [.ref (ra G 63), .int x1] h h' (some (.int r)) := by
  unfold f_X7_missingWithout at hf
  refine z_start (by decide) (Nat.le_of_ble_eq_true rfl) ?_
  intro p e s m args below meth c ls hx hb hr hlk hml Z hw hl
  have Z : ZK G s args m RX7 := Z
  have hl : lv_has ls 2 [(0, .ref (ra G 63)), (1, .int x1)] := hl
  obtain ⟨H, hH⟩ : ∃ H, H = s.heap := ⟨_, rfl⟩
  rw [← hH] at hw ⊢
  obtain ⟨locs, hlc⟩ : ∃ locs : List Loc, locs = [] := ⟨_, rfl⟩
  rw [← hlc] at hw ⊢
  refine lv_aload_n hx hb dX7_missingWithout_0 rfl (lv_at hl 0 rfl) ?_
  refine lv_iconst (v := (1 : Int32)) hx hb dX7_missingWithout_1 (by decide) ?_
  refine lv_iload_n hx hb dX7_missingWithout_2 rfl (lv_at hl 1 rfl) ?_
  refine lv_ishl hx hb dX7_missingWithout_3 ?_
  refine lv_iconst (v := (-1 : Int32)) hx hb dX7_missingWithout_4 (by decide) ?_
  refine lv_ixor hx hb dX7_missingWithout_5 ?_
  obtain ⟨q6, hq6, hf⟩ := ob_some hf
  refine z_callVv (o := 63) (ci := 6) (As := [.int (((1 : Int32) <<< (x1 &&& 31)) ^^^ (-1 : Int32))]) (rest := []) (t_X7_judge G l hN (((1 : Int32) <<< (x1 &&& 31)) ^^^ (-1 : Int32)) h hq6) cv_X7_judge hx hb hml hl.1 Z hw (by decide) (by decide) (by omega) rfl rfl wd476 rfl rfl (Nat.le_of_ble_eq_true rfl) (by decide) dX7_missingWithout_6 (fun H locs hw => ?_)
  refine lv_aload_n hx hb dX7_missingWithout_9 rfl (lv_at hl 0 rfl) ?_
  refine lv_iconst (v := (3 : Int32)) hx hb dX7_missingWithout_10 (by decide) ?_
  obtain ⟨q11, hq11, hf⟩ := ob_some hf
  refine z_callVi (o := 63) (ci := 6) (As := [.int (3 : Int32)]) (rest := []) (t_X7_framesThatAre G l hN (3 : Int32) q6 hq11) cv_X7_framesThatAre hx hb hml hl.1 Z hw (by decide) (by decide) (by omega) rfl rfl wd863 rfl rfl (Nat.le_of_ble_eq_true rfl) (by decide) dX7_missingWithout_11 (fun H locs hw => ?_)
  obtain ⟨rfl, rfl⟩ := Prod.mk.inj (Option.some.inj hf)
  exact z_iret hx hb hr hlk hw dX7_missingWithout_14
set_option maxHeartbeats 4000000 in
set_option maxRecDepth 100000 in
theorem w_X10_polishFirst_L49 (G : GM) (l : Launch) (hN : 70 ≤ gN G)  {p : Program} {e : Env} {s : State} {m : MethodId} {args : Array Value} {below : List Frame} {meth : Method} {c : Code} (hx : p.tables.exec = Jvm.exec) (hb : c.code = cX10_polishFirst) (hr : meth.sig.returnType = (some .int)) (hlk : meth.locks = false) (hml : c.maxLocals = 6) (Z : ZK G s args m RX10) : ∀ (n : Nat) (x2 : Int32) (x3 : Int32) (x4 : Int32)  (h : HP) (v1 : Int32) (rv : Option Value) (hq : HP) (ls : Array Slot) (H : Heap) (locs : List Loc) {q : Int32 × Int32 × HP}, lv_has ls 6 [(0, .ref (ra G 0)), (1, .int v1), (2, .int x2), (3, .int x3), (4, .int x4)] → HW G h s H locs → f_X10_polishFirst_L49 n x2 x3 x4 h = some q → (∀ (ls : Array Slot) (H : Heap) (locs : List Loc), lv_has ls 6 [(0, .ref (ra G 0)), (1, .int v1), (2, .int q.1), (3, .int q.2.1)] → HW G q.2.2 s H locs → WZ p l e 4 s m args below meth c G rv hq H locs (F0 m 93 ls [])) → WZ p l e 4 s m args below meth c G rv hq H locs (F0 m 49 ls []) := by
  intro n
  induction n with
  | zero => intro x2 x3 x4  h v1 rv hq ls H locs q hl hw hf kk; cases hf
  | succ n ih =>
    intro x2 x3 x4  h v1 rv hq ls H locs q hl hw hf kk
    rw [f_X10_polishFirst_L49] at hf
    refine lv_iload hx hb dX10_polishFirst_49 (lv_at hl 4 rfl) ?_
    refine lv_aload_n hx hb dX10_polishFirst_51 rfl (lv_at hl 0 rfl) ?_
    refine z_getr (o := 0) (o2 := 1) (C := RX10) (T := TX10) (N := 8) (ci := 8) (k := 0) hx hb Z hw (by decide) (by omega) rfl inX10 (by decide) rfl wd288 dX10_polishFirst_52 ?_
    refine z_getr (o := 1) (o2 := 3) (C := RX6) (T := TX6) (N := 4) (ci := 5) (k := 1) hx hb Z hw (by decide) (by omega) rfl inX6 (by decide) rfl wd202 dX10_polishFirst_55 ?_
    refine z_geti (o := 3) (C := RX4) (T := TX4) (N := 2) (ci := 3) (k := 1) hx hb Z hw (by decide) (by omega) rfl inX4 (by decide) wd142 dX10_polishFirst_58 ?_
    refine lv_icmp_ge (tgt := 93) hx hb dX10_polishFirst_61 (by decide) (fun c61 => ?_) (fun c61 => ?_)
    · have hf := (if_pos c61).symm.trans hf
      obtain rfl := Option.some.inj hf
      exact kk ls H locs (lv_sub hl [0, 1, 2, 3] rfl) hw
    · have hf := (if_neg c61).symm.trans hf
      refine lv_aload_n hx hb dX10_polishFirst_64 rfl (lv_at hl 0 rfl) ?_
      refine z_getr (o := 0) (o2 := 63) (C := RX10) (T := TX10) (N := 8) (ci := 8) (k := 6) hx hb Z hw (by decide) (by omega) rfl inX10 (by decide) rfl wd294 dX10_polishFirst_65 ?_
      refine lv_iload hx hb dX10_polishFirst_68 (lv_at hl 4 rfl) ?_
      obtain ⟨q70, hq70, hf⟩ := ob_some hf
      refine z_callVi (o := 63) (ci := 6) (As := [.int x4]) (rest := []) (t_X7_missingWithout G l hN x4 h hq70) cv_X7_missingWithout hx hb hml hl.1 Z hw (by decide) (by decide) (by omega) rfl rfl wd859 rfl rfl (Nat.le_of_ble_eq_true rfl) (by decide) dX10_polishFirst_70 (fun H locs hw => ?_)
      refine lv_istore (lv' := [(5, _), (0, _), (1, _), (2, _), (3, _), (4, _)]) hx hb dX10_polishFirst_73 hl (by decide) rfl (fun ls hl => ?_)
      refine lv_iload hx hb dX10_polishFirst_75 (lv_at hl 0 rfl) ?_
      refine lv_iload_n hx hb dX10_polishFirst_77 rfl (lv_at hl 4 rfl) ?_
      have HJ87 : ∀ (ls : Array Slot) (H : Heap) (locs : List Loc), lv_has ls 6 [(0, .ref (ra G 0)), (1, .int v1), (2, .int (if x3 ≤ q70.1 then x2 else x4)), (3, .int (if x3 ≤ q70.1 then x3 else q70.1)), (4, .int x4)] → HW G q70.2 s H locs → WZ p l e 4 s m args below meth c G rv hq H locs (F0 m 87 ls []) := by
        intro ls H locs hl hw
        refine lv_iinc (v := x4 + (1 : Int32)) (lv' := [(4, _), (0, _), (1, _), (2, _), (3, _)]) hx hb dX10_polishFirst_87 hl (k := 4) rfl rfl (by decide) rfl (fun ls hl => ?_)
        refine lv_goto (tgt := 49) hx hb dX10_polishFirst_90 (by decide) ?_
        exact ih (if x3 ≤ q70.1 then x2 else x4) (if x3 ≤ q70.1 then x3 else q70.1) (x4 + (1 : Int32)) q70.2 v1 rv hq ls H locs (lv_sub hl [1, 2, 3, 4, 0] rfl) hw hf kk
      refine lv_icmp_ge (tgt := 87) hx hb dX10_polishFirst_78 (by decide) (fun c78 => ?_) (fun c78 => ?_)
      · skip
        exact HJ87 ls H locs (by simp only [if_pos c78]; exact lv_sub hl [1, 2, 3, 4, 5] rfl) hw
      · skip
        refine lv_iload hx hb dX10_polishFirst_81 (lv_at hl 5 rfl) ?_
        refine lv_istore_n (lv' := [(2, _), (5, _), (0, _), (1, _), (3, _), (4, _)]) hx hb dX10_polishFirst_83 rfl hl (by decide) rfl (fun ls hl => ?_)
        refine lv_iload hx hb dX10_polishFirst_84 (lv_at hl 1 rfl) ?_
        refine lv_istore_n (lv' := [(3, _), (2, _), (5, _), (0, _), (1, _), (4, _)]) hx hb dX10_polishFirst_86 rfl hl (by decide) rfl (fun ls hl => ?_)
        exact HJ87 ls H locs (by simp only [if_neg c78]; exact lv_sub hl [3, 4, 1, 0, 5] rfl) hw
set_option maxHeartbeats 4000000 in
set_option maxRecDepth 100000 in
theorem t_X10_polishFirst (G : GM) (l : Launch) (hN : 70 ≤ gN G) (x1 : Int32) (h : HP) {r : Int32} {h' : HP} (hf : f_X10_polishFirst x1 h = some (r, h')) : MC G l yX10_polishFirst cX10_polishFirst 6 (some .int) 4 [.ref (ra G 0), .int x1] h h' (some (.int r)) := by
  unfold f_X10_polishFirst at hf
  refine z_start (by decide) (Nat.le_of_ble_eq_true rfl) ?_
  intro p e s m args below meth c ls hx hb hr hlk hml Z hw hl
  have Z : ZK G s args m RX10 := Z
  have hl : lv_has ls 6 [(0, .ref (ra G 0)), (1, .int x1)] := hl
  obtain ⟨H, hH⟩ : ∃ H, H = s.heap := ⟨_, rfl⟩
  rw [← hH] at hw ⊢
  obtain ⟨locs, hlc⟩ : ∃ locs : List Loc, locs = [] := ⟨_, rfl⟩
  rw [← hlc] at hw ⊢
  refine lv_iload_n hx hb dX10_polishFirst_0 rfl (lv_at hl 1 rfl) ?_
  refine lv_if_eq (tgt := 12) hx hb dX10_polishFirst_1 (by decide) (fun c1 => ?_) (fun c1 => ?_)
  · have hf := (if_pos c1).symm.trans hf
    refine lv_aload_n hx hb dX10_polishFirst_12 rfl (lv_at hl 0 rfl) ?_
    refine z_getr (o := 0) (o2 := 1) (C := RX10) (T := TX10) (N := 8) (ci := 8) (k := 0) hx hb Z hw (by decide) (by omega) rfl inX10 (by decide) rfl wd288 dX10_polishFirst_13 ?_
    refine z_getr (o := 1) (o2 := 3) (C := RX6) (T := TX6) (N := 4) (ci := 5) (k := 1) hx hb Z hw (by decide) (by omega) rfl inX6 (by decide) rfl wd202 dX10_polishFirst_16 ?_
    refine z_geti (o := 3) (C := RX4) (T := TX4) (N := 2) (ci := 3) (k := 1) hx hb Z hw (by decide) (by omega) rfl inX4 (by decide) wd142 dX10_polishFirst_19 ?_
    refine lv_if_ne (tgt := 28) hx hb dX10_polishFirst_22 (by decide) (fun c22 => ?_) (fun c22 => ?_)
    · have hf := (if_neg c22).symm.trans hf
      refine lv_iconst (v := (0 : Int32)) hx hb dX10_polishFirst_28 (by decide) ?_
      refine lv_istore_n (lv' := [(2, _), (0, _), (1, _)]) hx hb dX10_polishFirst_29 rfl hl (by decide) rfl (fun ls hl => ?_)
      refine lv_aload_n hx hb dX10_polishFirst_30 rfl (lv_at hl 1 rfl) ?_
      refine z_getr (o := 0) (o2 := 63) (C := RX10) (T := TX10) (N := 8) (ci := 8) (k := 6) hx hb Z hw (by decide) (by omega) rfl inX10 (by decide) rfl wd294 dX10_polishFirst_31 ?_
      refine lv_aload_n hx hb dX10_polishFirst_34 rfl (lv_at hl 1 rfl) ?_
      refine z_getr (o := 0) (o2 := 1) (C := RX10) (T := TX10) (N := 8) (ci := 8) (k := 0) hx hb Z hw (by decide) (by omega) rfl inX10 (by decide) rfl wd288 dX10_polishFirst_35 ?_
      obtain ⟨q38, hq38, hf⟩ := ob_some hf
      refine z_callVi (o := 63) (ci := 6) (As := [.ref (ra G 1)]) (rest := []) (t_X7_of G l hN 1 (by decide) (by omega) h hq38) cv_X7_of hx hb hml hl.1 Z hw (by decide) (by decide) (by omega) rfl rfl wd423 rfl rfl (Nat.le_of_ble_eq_true rfl) (by decide) dX10_polishFirst_38 (fun H locs hw => ?_)
      refine lv_iconst (v := (0 : Int32)) hx hb dX10_polishFirst_41 (by decide) ?_
      obtain ⟨q42, hq42, hf⟩ := ob_some hf
      refine z_callVi (o := 63) (ci := 6) (As := [.int (0 : Int32)]) (rest := []) (t_X7_missingWithout G l hN (0 : Int32) q38 hq42) cv_X7_missingWithout hx hb hml hl.1 Z hw (by decide) (by decide) (by omega) rfl rfl wd859 rfl rfl (Nat.le_of_ble_eq_true rfl) (by decide) dX10_polishFirst_42 (fun H locs hw => ?_)
      refine lv_istore_n (lv' := [(3, _), (2, _), (0, _), (1, _)]) hx hb dX10_polishFirst_45 rfl hl (by decide) rfl (fun ls hl => ?_)
      refine lv_iconst (v := (1 : Int32)) hx hb dX10_polishFirst_46 (by decide) ?_
      refine lv_istore (lv' := [(4, _), (3, _), (2, _), (0, _), (1, _)]) hx hb dX10_polishFirst_47 hl (by decide) rfl (fun ls hl => ?_)
      obtain ⟨q49, hq49, hf⟩ := ob_some hf
      refine w_X10_polishFirst_L49 G l hN  hx hb hr hlk hml Z FU (0 : Int32) q42.1 (1 : Int32) q42.2 x1 _ _ ls H locs (lv_sub hl [3, 4, 2, 1, 0] rfl) hw hq49 (fun ls H locs hl hw => ?_)
      refine lv_aload_n hx hb dX10_polishFirst_93 rfl (lv_at hl 0 rfl) ?_
      refine z_getr (o := 0) (o2 := 63) (C := RX10) (T := TX10) (N := 8) (ci := 8) (k := 6) hx hb Z hw (by decide) (by omega) rfl inX10 (by decide) rfl wd294 dX10_polishFirst_94 ?_
      refine lv_iconst (v := (-1 : Int32)) hx hb dX10_polishFirst_97 (by decide) ?_
      obtain ⟨q98, hq98, hf⟩ := ob_some hf
      refine z_callVv (o := 63) (ci := 6) (As := [.int (-1 : Int32)]) (rest := []) (t_X7_judge G l hN (-1 : Int32) q49.2.2 hq98) cv_X7_judge hx hb hml hl.1 Z hw (by decide) (by decide) (by omega) rfl rfl wd864 rfl rfl (Nat.le_of_ble_eq_true rfl) (by decide) dX10_polishFirst_98 (fun H locs hw => ?_)
      refine lv_iload_n hx hb dX10_polishFirst_101 rfl (lv_at hl 1 rfl) ?_
      refine lv_if_ne (tgt := 109) hx hb dX10_polishFirst_102 (by decide) (fun c102 => ?_) (fun c102 => ?_)
      · have hf := (if_neg c102).symm.trans hf
        refine lv_iload_n hx hb dX10_polishFirst_109 rfl (lv_at hl 3 rfl) ?_
        obtain ⟨rfl, rfl⟩ := Prod.mk.inj (Option.some.inj hf)
        exact z_iret hx hb hr hlk hw dX10_polishFirst_110
      · have hf := (if_pos c102).symm.trans hf
        refine lv_iload_n hx hb dX10_polishFirst_105 rfl (lv_at hl 2 rfl) ?_
        refine lv_goto (tgt := 110) hx hb dX10_polishFirst_106 (by decide) ?_
        obtain ⟨rfl, rfl⟩ := Prod.mk.inj (Option.some.inj hf)
        exact z_iret hx hb hr hlk hw dX10_polishFirst_110
    · have hf := (if_pos c22).symm.trans hf
      refine lv_bipush (v := (-5 : Int32)) hx hb dX10_polishFirst_25 (by decide) ?_
      obtain ⟨rfl, rfl⟩ := Prod.mk.inj (Option.some.inj hf)
      exact z_iret hx hb hr hlk hw dX10_polishFirst_27
  · have hf := (if_neg c1).symm.trans hf
    refine lv_iload_n hx hb dX10_polishFirst_4 rfl (lv_at hl 1 rfl) ?_
    refine lv_iconst (v := (1 : Int32)) hx hb dX10_polishFirst_5 (by decide) ?_
    refine lv_icmp_eq (tgt := 12) hx hb dX10_polishFirst_6 (by decide) (fun c6 => ?_) (fun c6 => ?_)
    · have hf := (if_pos c6).symm.trans hf
      refine lv_aload_n hx hb dX10_polishFirst_12 rfl (lv_at hl 0 rfl) ?_
      refine z_getr (o := 0) (o2 := 1) (C := RX10) (T := TX10) (N := 8) (ci := 8) (k := 0) hx hb Z hw (by decide) (by omega) rfl inX10 (by decide) rfl wd288 dX10_polishFirst_13 ?_
      refine z_getr (o := 1) (o2 := 3) (C := RX6) (T := TX6) (N := 4) (ci := 5) (k := 1) hx hb Z hw (by decide) (by omega) rfl inX6 (by decide) rfl wd202 dX10_polishFirst_16 ?_
      refine z_geti (o := 3) (C := RX4) (T := TX4) (N := 2) (ci := 3) (k := 1) hx hb Z hw (by decide) (by omega) rfl inX4 (by decide) wd142 dX10_polishFirst_19 ?_
      refine lv_if_ne (tgt := 28) hx hb dX10_polishFirst_22 (by decide) (fun c22 => ?_) (fun c22 => ?_)
      · have hf := (if_neg c22).symm.trans hf
        refine lv_iconst (v := (0 : Int32)) hx hb dX10_polishFirst_28 (by decide) ?_
        refine lv_istore_n (lv' := [(2, _), (0, _), (1, _)]) hx hb dX10_polishFirst_29 rfl hl (by decide) rfl (fun ls hl => ?_)
        refine lv_aload_n hx hb dX10_polishFirst_30 rfl (lv_at hl 1 rfl) ?_
        refine z_getr (o := 0) (o2 := 63) (C := RX10) (T := TX10) (N := 8) (ci := 8) (k := 6) hx hb Z hw (by decide) (by omega) rfl inX10 (by decide) rfl wd294 dX10_polishFirst_31 ?_
        refine lv_aload_n hx hb dX10_polishFirst_34 rfl (lv_at hl 1 rfl) ?_
        refine z_getr (o := 0) (o2 := 1) (C := RX10) (T := TX10) (N := 8) (ci := 8) (k := 0) hx hb Z hw (by decide) (by omega) rfl inX10 (by decide) rfl wd288 dX10_polishFirst_35 ?_
        obtain ⟨q38, hq38, hf⟩ := ob_some hf
        refine z_callVi (o := 63) (ci := 6) (As := [.ref (ra G 1)]) (rest := []) (t_X7_of G l hN 1 (by decide) (by omega) h hq38) cv_X7_of hx hb hml hl.1 Z hw (by decide) (by decide) (by omega) rfl rfl wd423 rfl rfl (Nat.le_of_ble_eq_true rfl) (by decide) dX10_polishFirst_38 (fun H locs hw => ?_)
        refine lv_iconst (v := (0 : Int32)) hx hb dX10_polishFirst_41 (by decide) ?_
        obtain ⟨q42, hq42, hf⟩ := ob_some hf
        refine z_callVi (o := 63) (ci := 6) (As := [.int (0 : Int32)]) (rest := []) (t_X7_missingWithout G l hN (0 : Int32) q38 hq42) cv_X7_missingWithout hx hb hml hl.1 Z hw (by decide) (by decide) (by omega) rfl rfl wd859 rfl rfl (Nat.le_of_ble_eq_true rfl) (by decide) dX10_polishFirst_42 (fun H locs hw => ?_)
        refine lv_istore_n (lv' := [(3, _), (2, _), (0, _), (1, _)]) hx hb dX10_polishFirst_45 rfl hl (by decide) rfl (fun ls hl => ?_)
        refine lv_iconst (v := (1 : Int32)) hx hb dX10_polishFirst_46 (by decide) ?_
        refine lv_istore (lv' := [(4, _), (3, _), (2, _), (0, _), (1, _)]) hx hb dX10_polishFirst_47 hl (by decide) rfl (fun ls hl => ?_)
        obtain ⟨q49, hq49, hf⟩ := ob_some hf
        refine w_X10_polishFirst_L49 G l hN  hx hb hr hlk hml Z FU (0 : Int32) q42.1 (1 : Int32) q42.2 x1 _ _ ls H locs (lv_sub hl [3, 4, 2, 1, 0] rfl) hw hq49 (fun ls H locs hl hw => ?_)
        refine lv_aload_n hx hb dX10_polishFirst_93 rfl (lv_at hl 0 rfl) ?_
        refine z_getr (o := 0) (o2 := 63) (C := RX10) (T := TX10) (N := 8) (ci := 8) (k := 6) hx hb Z hw (by decide) (by omega) rfl inX10 (by decide) rfl wd294 dX10_polishFirst_94 ?_
        refine lv_iconst (v := (-1 : Int32)) hx hb dX10_polishFirst_97 (by decide) ?_
        obtain ⟨q98, hq98, hf⟩ := ob_some hf
        refine z_callVv (o := 63) (ci := 6) (As := [.int (-1 : Int32)]) (rest := []) (t_X7_judge G l hN (-1 : Int32) q49.2.2 hq98) cv_X7_judge hx hb hml hl.1 Z hw (by decide) (by decide) (by omega) rfl rfl wd864 rfl rfl (Nat.le_of_ble_eq_true rfl) (by decide) dX10_polishFirst_98 (fun H locs hw => ?_)
        refine lv_iload_n hx hb dX10_polishFirst_101 rfl (lv_at hl 1 rfl) ?_
        refine lv_if_ne (tgt := 109) hx hb dX10_polishFirst_102 (by decide) (fun c102 => ?_) (fun c102 => ?_)
        · have hf := (if_neg c102).symm.trans hf
          refine lv_iload_n hx hb dX10_polishFirst_109 rfl (lv_at hl 3 rfl) ?_
          obtain ⟨rfl, rfl⟩ := Prod.mk.inj (Option.some.inj hf)
          exact z_iret hx hb hr hlk hw dX10_polishFirst_110
        · have hf := (if_pos c102).symm.trans hf
          refine lv_iload_n hx hb dX10_polishFirst_105 rfl (lv_at hl 2 rfl) ?_
          refine lv_goto (tgt := 110) hx hb dX10_polishFirst_106 (by decide) ?_
          obtain ⟨rfl, rfl⟩ := Prod.mk.inj (Option.some.inj hf)
          exact z_iret hx hb hr hlk hw dX10_polishFirst_110
      · have hf := (if_pos c22).symm.trans hf
        refine lv_bipush (v := (-5 : Int32)) hx hb dX10_polishFirst_25 (by decide) ?_
        obtain ⟨rfl, rfl⟩ := Prod.mk.inj (Option.some.inj hf)
        exact z_iret hx hb hr hlk hw dX10_polishFirst_27
    · have hf := (if_neg c6).symm.trans hf
      refine lv_bipush (v := (-2 : Int32)) hx hb dX10_polishFirst_9 (by decide) ?_
      obtain ⟨rfl, rfl⟩ := Prod.mk.inj (Option.some.inj hf)
      exact z_iret hx hb hr hlk hw dX10_polishFirst_11
set_option maxHeartbeats 4000000 in
set_option maxRecDepth 100000 in
theorem w_X10_gap_L46 (G : GM) (l : Launch) (hN : 70 ≤ gN G)  {p : Program} {e : Env} {s : State} {m : MethodId} {args : Array Value} {below : List Frame} {meth : Method} {c : Code} (hx : p.tables.exec = Jvm.exec) (hb : c.code = cX10_gap) (hr : meth.sig.returnType = (some .int)) (hlk : meth.locks = false) (hml : c.maxLocals = 7) (Z : ZK G s args m RX10) : ∀ (n : Nat) (x2 : Int32) (x3 : Int32) (x4 : Int32) (x5 : Int32) (x6 : Int32)  (h : HP) (v1 : Int32) (rv : Option Value) (hq : HP) (ls : Array Slot) (H : Heap) (locs : List Loc) {q : Int32 × Int32}, lv_has ls 7 [(0, .ref (ra G 0)), (1, .int v1), (2, .int x2), (3, .int x3), (4, .int x4), (5, .int x5), (6, .int x6)] → HW G h s H locs → f_X10_gap_L46 n x2 x3 x4 x5 x6 h = some q → (∀ (ls : Array Slot) (H : Heap) (locs : List Loc), lv_has ls 7 [(1, .int v1), (2, .int q.1), (3, .int q.2)] → HW G h s H locs → WZ p l e 4 s m args below meth c G rv hq H locs (F0 m 99 ls [])) → WZ p l e 4 s m args below meth c G rv hq H locs (F0 m 46 ls []) := by
  intro n
  induction n with
  | zero => intro x2 x3 x4 x5 x6  h v1 rv hq ls H locs q hl hw hf kk; cases hf
  | succ n ih =>
    intro x2 x3 x4 x5 x6  h v1 rv hq ls H locs q hl hw hf kk
    rw [f_X10_gap_L46] at hf
    refine lv_iload hx hb dX10_gap_46 (lv_at hl 6 rfl) ?_
    refine lv_iload hx hb dX10_gap_48 (lv_at hl 5 rfl) ?_
    refine lv_icmp_ge (tgt := 99) hx hb dX10_gap_50 (by decide) (fun c50 => ?_) (fun c50 => ?_)
    · have hf := (if_pos c50).symm.trans hf
      obtain rfl := Option.some.inj hf
      exact kk ls H locs (lv_sub hl [1, 2, 3] rfl) hw
    · have hf := (if_neg c50).symm.trans hf
      refine lv_aload_n hx hb dX10_gap_53 rfl (lv_at hl 0 rfl) ?_
      refine z_getr (o := 0) (o2 := 63) (C := RX10) (T := TX10) (N := 8) (ci := 8) (k := 6) hx hb Z hw (by decide) (by omega) rfl inX10 (by decide) rfl wd294 dX10_gap_54 ?_
      refine lv_iload hx hb dX10_gap_57 (lv_at hl 6 rfl) ?_
      refine z_callVi (o := 63) (ci := 6) (As := [.int x6]) (rest := []) (t_X7_howIs G l hN x6 h) cv_X7_howIs hx hb hml hl.1 Z hw (by decide) (by decide) (by omega) rfl rfl wd762 rfl rfl (Nat.le_of_ble_eq_true rfl) (by decide) dX10_gap_59 (fun H locs hw => ?_)
      refine lv_iconst (v := (3 : Int32)) hx hb dX10_gap_62 (by decide) ?_
      have HJ74 : ∀ (ls : Array Slot) (H : Heap) (locs : List Loc), lv_has ls 7 [(0, .ref (ra G 0)), (1, .int v1), (2, .int x2), (3, .int x3), (5, .int x5), (6, .int x6)] → HW G h s H locs → WZ p l e 4 s m args below meth c G rv hq H locs (F0 m 74 ls [.int (if (f_X7_howIs x6 h) = (3 : Int32) then (x4 + (1 : Int32)) else (0 : Int32))]) := by
        intro ls H locs hl hw
        obtain ⟨v74, hqv74, hf⟩ := tb_ex hf
        refine z_top hqv74 ?_
        refine lv_istore (lv' := [(4, _), (0, _), (1, _), (2, _), (3, _), (5, _), (6, _)]) hx hb dX10_gap_74 hl (by decide) rfl (fun ls hl => ?_)
        refine lv_iload hx hb dX10_gap_76 (lv_at hl 0 rfl) ?_
        refine lv_iload_n hx hb dX10_gap_78 rfl (lv_at hl 3 rfl) ?_
        have HJ93 : ∀ (ls : Array Slot) (H : Heap) (locs : List Loc), lv_has ls 7 [(0, .ref (ra G 0)), (1, .int v1), (2, .int (if v74 ≤ x2 then x2 else v74)), (3, .int (if v74 ≤ x2 then x3 else ((x6 - v74) + (1 : Int32)))), (4, .int v74), (5, .int x5), (6, .int x6)] → HW G h s H locs → WZ p l e 4 s m args below meth c G rv hq H locs (F0 m 93 ls []) := by
          intro ls H locs hl hw
          refine lv_iinc (v := x6 + (1 : Int32)) (lv' := [(6, _), (0, _), (1, _), (2, _), (3, _), (4, _), (5, _)]) hx hb dX10_gap_93 hl (k := 6) rfl rfl (by decide) rfl (fun ls hl => ?_)
          refine lv_goto (tgt := 46) hx hb dX10_gap_96 (by decide) ?_
          exact ih (if v74 ≤ x2 then x2 else v74) (if v74 ≤ x2 then x3 else ((x6 - v74) + (1 : Int32))) v74 x5 (x6 + (1 : Int32)) h v1 rv hq ls H locs (lv_sub hl [1, 2, 3, 4, 5, 6, 0] rfl) hw hf kk
        refine lv_icmp_le (tgt := 93) hx hb dX10_gap_79 (by decide) (fun c79 => ?_) (fun c79 => ?_)
        · skip
          exact HJ93 ls H locs (by simp only [if_pos c79]; exact lv_sub hl [1, 2, 3, 4, 0, 5, 6] rfl) hw
        · skip
          refine lv_iload hx hb dX10_gap_82 (lv_at hl 0 rfl) ?_
          refine lv_istore_n (lv' := [(2, _), (4, _), (0, _), (1, _), (3, _), (5, _), (6, _)]) hx hb dX10_gap_84 rfl hl (by decide) rfl (fun ls hl => ?_)
          refine lv_iload hx hb dX10_gap_85 (lv_at hl 6 rfl) ?_
          refine lv_iload hx hb dX10_gap_87 (lv_at hl 1 rfl) ?_
          refine lv_isub hx hb dX10_gap_89 ?_
          refine lv_iconst (v := (1 : Int32)) hx hb dX10_gap_90 (by decide) ?_
          refine lv_iadd hx hb dX10_gap_91 ?_
          refine lv_istore_n (lv' := [(3, _), (2, _), (4, _), (0, _), (1, _), (5, _), (6, _)]) hx hb dX10_gap_92 rfl hl (by decide) rfl (fun ls hl => ?_)
          exact HJ93 ls H locs (by simp only [if_neg c79]; exact lv_sub hl [3, 4, 1, 0, 2, 5, 6] rfl) hw
      refine lv_icmp_ne (tgt := 73) hx hb dX10_gap_63 (by decide) (fun c63 => ?_) (fun c63 => ?_)
      · skip
        refine lv_iconst (v := (0 : Int32)) hx hb dX10_gap_73 (by decide) ?_
        refine W.eq (g2 := F0 m 74 ls [.int (if (f_X7_howIs x6 h) = (3 : Int32) then (x4 + (1 : Int32)) else (0 : Int32))]) ?_ (HJ74 ls H locs (lv_sub hl [0, 1, 2, 3, 5, 6] rfl) hw)
        simp only [if_neg c63]
      · skip
        refine lv_iload hx hb dX10_gap_66 (lv_at hl 4 rfl) ?_
        refine lv_iconst (v := (1 : Int32)) hx hb dX10_gap_68 (by decide) ?_
        refine lv_iadd hx hb dX10_gap_69 ?_
        refine lv_goto (tgt := 74) hx hb dX10_gap_70 (by decide) ?_
        refine W.eq (g2 := F0 m 74 ls [.int (if (f_X7_howIs x6 h) = (3 : Int32) then (x4 + (1 : Int32)) else (0 : Int32))]) ?_ (HJ74 ls H locs (lv_sub hl [0, 1, 2, 3, 5, 6] rfl) hw)
        simp only [if_pos c63]
set_option maxHeartbeats 4000000 in
set_option maxRecDepth 100000 in
theorem t_X10_gap (G : GM) (l : Launch) (hN : 70 ≤ gN G) (x1 : Int32) (h : HP) {r : Int32} {h' : HP} (hf : f_X10_gap x1 h = some (r, h')) : MC G l yX10_gap cX10_gap 7 (some .int) 4 [.ref (ra G 0), .int x1] h h' (some (.int r)) := by
  unfold f_X10_gap at hf
  refine z_start (by decide) (Nat.le_of_ble_eq_true rfl) ?_
  intro p e s m args below meth c ls hx hb hr hlk hml Z hw hl
  have Z : ZK G s args m RX10 := Z
  have hl : lv_has ls 7 [(0, .ref (ra G 0)), (1, .int x1)] := hl
  obtain ⟨H, hH⟩ : ∃ H, H = s.heap := ⟨_, rfl⟩
  rw [← hH] at hw ⊢
  obtain ⟨locs, hlc⟩ : ∃ locs : List Loc, locs = [] := ⟨_, rfl⟩
  rw [← hlc] at hw ⊢
  refine lv_iload_n hx hb dX10_gap_0 rfl (lv_at hl 1 rfl) ?_
  refine lv_if_eq (tgt := 12) hx hb dX10_gap_1 (by decide) (fun c1 => ?_) (fun c1 => ?_)
  · have hf := (if_pos c1).symm.trans hf
    refine lv_iconst (v := (0 : Int32)) hx hb dX10_gap_12 (by decide) ?_
    refine lv_istore_n (lv' := [(2, _), (0, _), (1, _)]) hx hb dX10_gap_13 rfl hl (by decide) rfl (fun ls hl => ?_)
    refine lv_iconst (v := (0 : Int32)) hx hb dX10_gap_14 (by decide) ?_
    refine lv_istore_n (lv' := [(3, _), (2, _), (0, _), (1, _)]) hx hb dX10_gap_15 rfl hl (by decide) rfl (fun ls hl => ?_)
    refine lv_iconst (v := (0 : Int32)) hx hb dX10_gap_16 (by decide) ?_
    refine lv_istore (lv' := [(4, _), (3, _), (2, _), (0, _), (1, _)]) hx hb dX10_gap_17 hl (by decide) rfl (fun ls hl => ?_)
    refine lv_aload_n hx hb dX10_gap_19 rfl (lv_at hl 3 rfl) ?_
    refine z_getr (o := 0) (o2 := 1) (C := RX10) (T := TX10) (N := 8) (ci := 8) (k := 0) hx hb Z hw (by decide) (by omega) rfl inX10 (by decide) rfl wd288 dX10_gap_20 ?_
    refine z_getr (o := 1) (o2 := 2) (C := RX6) (T := TX6) (N := 4) (ci := 5) (k := 0) hx hb Z hw (by decide) (by omega) rfl inX6 (by decide) rfl wd199 dX10_gap_23 ?_
    refine z_callVi (o := 2) (ci := 4) (As := []) (rest := []) (t_X5_allFrames G l hN 2 (by decide) (by omega) h) cv_X5_allFrames hx hb hml hl.1 Z hw (by decide) (by decide) (by omega) rfl rfl wd548 rfl rfl (Nat.le_of_ble_eq_true rfl) (by decide) dX10_gap_26 (fun H locs hw => ?_)
    refine lv_istore (lv' := [(5, _), (4, _), (3, _), (2, _), (0, _), (1, _)]) hx hb dX10_gap_29 hl (by decide) rfl (fun ls hl => ?_)
    refine lv_aload_n hx hb dX10_gap_31 rfl (lv_at hl 4 rfl) ?_
    refine z_getr (o := 0) (o2 := 63) (C := RX10) (T := TX10) (N := 8) (ci := 8) (k := 6) hx hb Z hw (by decide) (by omega) rfl inX10 (by decide) rfl wd294 dX10_gap_32 ?_
    refine lv_aload_n hx hb dX10_gap_35 rfl (lv_at hl 4 rfl) ?_
    refine z_getr (o := 0) (o2 := 1) (C := RX10) (T := TX10) (N := 8) (ci := 8) (k := 0) hx hb Z hw (by decide) (by omega) rfl inX10 (by decide) rfl wd288 dX10_gap_36 ?_
    obtain ⟨q39, hq39, hf⟩ := ob_some hf
    refine z_callVi (o := 63) (ci := 6) (As := [.ref (ra G 1)]) (rest := []) (t_X7_of G l hN 1 (by decide) (by omega) h hq39) cv_X7_of hx hb hml hl.1 Z hw (by decide) (by decide) (by omega) rfl rfl wd423 rfl rfl (Nat.le_of_ble_eq_true rfl) (by decide) dX10_gap_39 (fun H locs hw => ?_)
    refine lv_pop hx hb dX10_gap_42 rfl ?_
    refine lv_iconst (v := (0 : Int32)) hx hb dX10_gap_43 (by decide) ?_
    refine lv_istore (lv' := [(6, _), (5, _), (4, _), (3, _), (2, _), (0, _), (1, _)]) hx hb dX10_gap_44 hl (by decide) rfl (fun ls hl => ?_)
    obtain ⟨q46, hq46, hf⟩ := ob_some hf
    refine w_X10_gap_L46 G l hN  hx hb hr hlk hml Z FU (0 : Int32) (0 : Int32) (0 : Int32) (f_X5_allFrames 2 h) (0 : Int32) q39 x1 _ _ ls H locs (lv_sub hl [5, 6, 4, 3, 2, 1, 0] rfl) hw hq46 (fun ls H locs hl hw => ?_)
    refine lv_iload_n hx hb dX10_gap_99 rfl (lv_at hl 1 rfl) ?_
    refine lv_if_ne (tgt := 106) hx hb dX10_gap_100 (by decide) (fun c100 => ?_) (fun c100 => ?_)
    · have hf := (if_neg c100).symm.trans hf
      refine lv_iload_n hx hb dX10_gap_106 rfl (lv_at hl 0 rfl) ?_
      refine lv_if_ne (tgt := 114) hx hb dX10_gap_107 (by decide) (fun c107 => ?_) (fun c107 => ?_)
      · have hf := (if_neg c107).symm.trans hf
        refine lv_iload_n hx hb dX10_gap_114 rfl (lv_at hl 1 rfl) ?_
        obtain ⟨rfl, rfl⟩ := Prod.mk.inj (Option.some.inj hf)
        exact z_iret hx hb hr hlk hw dX10_gap_115
      · have hf := (if_pos c107).symm.trans hf
        refine lv_iload_n hx hb dX10_gap_110 rfl (lv_at hl 2 rfl) ?_
        refine lv_goto (tgt := 115) hx hb dX10_gap_111 (by decide) ?_
        obtain ⟨rfl, rfl⟩ := Prod.mk.inj (Option.some.inj hf)
        exact z_iret hx hb hr hlk hw dX10_gap_115
    · have hf := (if_pos c100).symm.trans hf
      refine lv_bipush (v := (-5 : Int32)) hx hb dX10_gap_103 (by decide) ?_
      obtain ⟨rfl, rfl⟩ := Prod.mk.inj (Option.some.inj hf)
      exact z_iret hx hb hr hlk hw dX10_gap_105
  · have hf := (if_neg c1).symm.trans hf
    refine lv_iload_n hx hb dX10_gap_4 rfl (lv_at hl 1 rfl) ?_
    refine lv_iconst (v := (1 : Int32)) hx hb dX10_gap_5 (by decide) ?_
    refine lv_icmp_eq (tgt := 12) hx hb dX10_gap_6 (by decide) (fun c6 => ?_) (fun c6 => ?_)
    · have hf := (if_pos c6).symm.trans hf
      refine lv_iconst (v := (0 : Int32)) hx hb dX10_gap_12 (by decide) ?_
      refine lv_istore_n (lv' := [(2, _), (0, _), (1, _)]) hx hb dX10_gap_13 rfl hl (by decide) rfl (fun ls hl => ?_)
      refine lv_iconst (v := (0 : Int32)) hx hb dX10_gap_14 (by decide) ?_
      refine lv_istore_n (lv' := [(3, _), (2, _), (0, _), (1, _)]) hx hb dX10_gap_15 rfl hl (by decide) rfl (fun ls hl => ?_)
      refine lv_iconst (v := (0 : Int32)) hx hb dX10_gap_16 (by decide) ?_
      refine lv_istore (lv' := [(4, _), (3, _), (2, _), (0, _), (1, _)]) hx hb dX10_gap_17 hl (by decide) rfl (fun ls hl => ?_)
      refine lv_aload_n hx hb dX10_gap_19 rfl (lv_at hl 3 rfl) ?_
      refine z_getr (o := 0) (o2 := 1) (C := RX10) (T := TX10) (N := 8) (ci := 8) (k := 0) hx hb Z hw (by decide) (by omega) rfl inX10 (by decide) rfl wd288 dX10_gap_20 ?_
      refine z_getr (o := 1) (o2 := 2) (C := RX6) (T := TX6) (N := 4) (ci := 5) (k := 0) hx hb Z hw (by decide) (by omega) rfl inX6 (by decide) rfl wd199 dX10_gap_23 ?_
      refine z_callVi (o := 2) (ci := 4) (As := []) (rest := []) (t_X5_allFrames G l hN 2 (by decide) (by omega) h) cv_X5_allFrames hx hb hml hl.1 Z hw (by decide) (by decide) (by omega) rfl rfl wd548 rfl rfl (Nat.le_of_ble_eq_true rfl) (by decide) dX10_gap_26 (fun H locs hw => ?_)
      refine lv_istore (lv' := [(5, _), (4, _), (3, _), (2, _), (0, _), (1, _)]) hx hb dX10_gap_29 hl (by decide) rfl (fun ls hl => ?_)
      refine lv_aload_n hx hb dX10_gap_31 rfl (lv_at hl 4 rfl) ?_
      refine z_getr (o := 0) (o2 := 63) (C := RX10) (T := TX10) (N := 8) (ci := 8) (k := 6) hx hb Z hw (by decide) (by omega) rfl inX10 (by decide) rfl wd294 dX10_gap_32 ?_
      refine lv_aload_n hx hb dX10_gap_35 rfl (lv_at hl 4 rfl) ?_
      refine z_getr (o := 0) (o2 := 1) (C := RX10) (T := TX10) (N := 8) (ci := 8) (k := 0) hx hb Z hw (by decide) (by omega) rfl inX10 (by decide) rfl wd288 dX10_gap_36 ?_
      obtain ⟨q39, hq39, hf⟩ := ob_some hf
      refine z_callVi (o := 63) (ci := 6) (As := [.ref (ra G 1)]) (rest := []) (t_X7_of G l hN 1 (by decide) (by omega) h hq39) cv_X7_of hx hb hml hl.1 Z hw (by decide) (by decide) (by omega) rfl rfl wd423 rfl rfl (Nat.le_of_ble_eq_true rfl) (by decide) dX10_gap_39 (fun H locs hw => ?_)
      refine lv_pop hx hb dX10_gap_42 rfl ?_
      refine lv_iconst (v := (0 : Int32)) hx hb dX10_gap_43 (by decide) ?_
      refine lv_istore (lv' := [(6, _), (5, _), (4, _), (3, _), (2, _), (0, _), (1, _)]) hx hb dX10_gap_44 hl (by decide) rfl (fun ls hl => ?_)
      obtain ⟨q46, hq46, hf⟩ := ob_some hf
      refine w_X10_gap_L46 G l hN  hx hb hr hlk hml Z FU (0 : Int32) (0 : Int32) (0 : Int32) (f_X5_allFrames 2 h) (0 : Int32) q39 x1 _ _ ls H locs (lv_sub hl [5, 6, 4, 3, 2, 1, 0] rfl) hw hq46 (fun ls H locs hl hw => ?_)
      refine lv_iload_n hx hb dX10_gap_99 rfl (lv_at hl 1 rfl) ?_
      refine lv_if_ne (tgt := 106) hx hb dX10_gap_100 (by decide) (fun c100 => ?_) (fun c100 => ?_)
      · have hf := (if_neg c100).symm.trans hf
        refine lv_iload_n hx hb dX10_gap_106 rfl (lv_at hl 0 rfl) ?_
        refine lv_if_ne (tgt := 114) hx hb dX10_gap_107 (by decide) (fun c107 => ?_) (fun c107 => ?_)
        · have hf := (if_neg c107).symm.trans hf
          refine lv_iload_n hx hb dX10_gap_114 rfl (lv_at hl 1 rfl) ?_
          obtain ⟨rfl, rfl⟩ := Prod.mk.inj (Option.some.inj hf)
          exact z_iret hx hb hr hlk hw dX10_gap_115
        · have hf := (if_pos c107).symm.trans hf
          refine lv_iload_n hx hb dX10_gap_110 rfl (lv_at hl 2 rfl) ?_
          refine lv_goto (tgt := 115) hx hb dX10_gap_111 (by decide) ?_
          obtain ⟨rfl, rfl⟩ := Prod.mk.inj (Option.some.inj hf)
          exact z_iret hx hb hr hlk hw dX10_gap_115
      · have hf := (if_pos c100).symm.trans hf
        refine lv_bipush (v := (-5 : Int32)) hx hb dX10_gap_103 (by decide) ?_
        obtain ⟨rfl, rfl⟩ := Prod.mk.inj (Option.some.inj hf)
        exact z_iret hx hb hr hlk hw dX10_gap_105
    · have hf := (if_neg c6).symm.trans hf
      refine lv_bipush (v := (-2 : Int32)) hx hb dX10_gap_9 (by decide) ?_
      obtain ⟨rfl, rfl⟩ := Prod.mk.inj (Option.some.inj hf)
      exact z_iret hx hb hr hlk hw dX10_gap_11
set_option maxHeartbeats 4000000 in
set_option maxRecDepth 100000 in
theorem t_X11_in (G : GM) (l : Launch) (hN : 77 ≤ gN G) (x0 : Int32) (x1 : Int32) (x2 : Int32) (h : HP) : MC G l yX11_in cX11_in 3 (some .boolean) 0 [.int x0, .int x1, .int x2] h h (some (.int (f_X11_in x0 x1 x2 h))) := by
  generalize hf : f_X11_in x0 x1 x2 h = r
  unfold f_X11_in at hf
  refine z_start (by decide) (Nat.le_of_ble_eq_true rfl) ?_
  intro p e s m args below meth c ls hx hb hr hlk hml Z hw hl
  have Z : ZK G s args m RX11 := Z
  have hl : lv_has ls 3 [(0, .int x0), (1, .int x1), (2, .int x2)] := hl
  obtain ⟨H, hH⟩ : ∃ H, H = s.heap := ⟨_, rfl⟩
  rw [← hH] at hw ⊢
  obtain ⟨locs, hlc⟩ : ∃ locs : List Loc, locs = [] := ⟨_, rfl⟩
  rw [← hlc] at hw ⊢
  refine lv_iload_n hx hb dX11_in_0 rfl (lv_at hl 0 rfl) ?_
  refine lv_iload_n hx hb dX11_in_1 rfl (lv_at hl 1 rfl) ?_
  refine lv_icmp_lt (tgt := 14) hx hb dX11_in_2 (by decide) (fun c2 => ?_) (fun c2 => ?_)
  · have hf := (if_pos c2).symm.trans hf
    refine lv_iconst (v := (0 : Int32)) hx hb dX11_in_14 (by decide) ?_
    obtain rfl := hf
    exact z_zret hx hb hr rfl hlk hw dX11_in_15
  · have hf := (if_neg c2).symm.trans hf
    refine lv_iload_n hx hb dX11_in_5 rfl (lv_at hl 0 rfl) ?_
    refine lv_iload_n hx hb dX11_in_6 rfl (lv_at hl 2 rfl) ?_
    refine lv_icmp_gt (tgt := 14) hx hb dX11_in_7 (by decide) (fun c7 => ?_) (fun c7 => ?_)
    · have hf := (if_pos c7).symm.trans hf
      refine lv_iconst (v := (0 : Int32)) hx hb dX11_in_14 (by decide) ?_
      obtain rfl := hf
      exact z_zret hx hb hr rfl hlk hw dX11_in_15
    · have hf := (if_neg c7).symm.trans hf
      refine lv_iconst (v := (1 : Int32)) hx hb dX11_in_10 (by decide) ?_
      refine lv_goto (tgt := 15) hx hb dX11_in_11 (by decide) ?_
      obtain rfl := hf
      exact z_zret hx hb hr rfl hlk hw dX11_in_15
set_option maxHeartbeats 4000000 in
set_option maxRecDepth 100000 in
theorem t_X11_size (G : GM) (l : Launch) (hN : 77 ≤ gN G) (x0 : Int32) (h : HP) : MC G l yX11_size cX11_size 1 (some .int) 0 [.int x0] h h (some (.int (f_X11_size x0 h))) := by
  generalize hf : f_X11_size x0 h = r
  unfold f_X11_size at hf
  refine z_start (by decide) (Nat.le_of_ble_eq_true rfl) ?_
  intro p e s m args below meth c ls hx hb hr hlk hml Z hw hl
  have Z : ZK G s args m RX11 := Z
  have hl : lv_has ls 1 [(0, .int x0)] := hl
  obtain ⟨H, hH⟩ : ∃ H, H = s.heap := ⟨_, rfl⟩
  rw [← hH] at hw ⊢
  obtain ⟨locs, hlc⟩ : ∃ locs : List Loc, locs = [] := ⟨_, rfl⟩
  rw [← hlc] at hw ⊢
  refine lv_iload_n hx hb dX11_size_0 rfl (lv_at hl 0 rfl) ?_
  refine lv_if_ge (tgt := 9) hx hb dX11_size_1 (by decide) (fun c1 => ?_) (fun c1 => ?_)
  · have hf := (if_pos c1).symm.trans hf
    refine lv_iload_n hx hb dX11_size_9 rfl (lv_at hl 0 rfl) ?_
    obtain rfl := hf
    exact z_iret hx hb hr hlk hw dX11_size_10
  · have hf := (if_neg c1).symm.trans hf
    refine lv_iload_n hx hb dX11_size_4 rfl (lv_at hl 0 rfl) ?_
    refine lv_ineg hx hb dX11_size_5 ?_
    refine lv_goto (tgt := 10) hx hb dX11_size_6 (by decide) ?_
    obtain rfl := hf
    exact z_iret hx hb hr hlk hw dX11_size_10
set_option maxHeartbeats 4000000 in
set_option maxRecDepth 100000 in
theorem w_X11_putAside_L2 (G : GM) (l : Launch) (hN : 77 ≤ gN G)  {p : Program} {e : Env} {s : State} {m : MethodId} {args : Array Value} {below : List Frame} {meth : Method} {c : Code} (hx : p.tables.exec = Jvm.exec) (hb : c.code = cX11_putAside) (hr : meth.sig.returnType = none) (hlk : meth.locks = false) (hml : c.maxLocals = 2) (Z : ZK G s args m RX11) : ∀ (n : Nat) (x1 : Int32)  (h : HP)  (rv : Option Value) (hq : HP) (ls : Array Slot) (H : Heap) (locs : List Loc) {q : HP}, lv_has ls 2 [(0, .ref (ra G 70)), (1, .int x1)] → HW G h s H locs → f_X11_putAside_L2 n x1 h = some q → (∀ (ls : Array Slot) (H : Heap) (locs : List Loc), lv_has ls 2 [] → HW G q s H locs → WZ p l e 0 s m args below meth c G rv hq H locs (F0 m 27 ls [])) → WZ p l e 0 s m args below meth c G rv hq H locs (F0 m 2 ls []) := by
  intro n
  induction n with
  | zero => intro x1  h  rv hq ls H locs q hl hw hf kk; cases hf
  | succ n ih =>
    intro x1  h  rv hq ls H locs q hl hw hf kk
    rw [f_X11_putAside_L2] at hf
    refine lv_iload_n hx hb dX11_putAside_2 rfl (lv_at hl 1 rfl) ?_
    refine lv_sipush (v := (166 : Int32)) hx hb dX11_putAside_3 (by decide) ?_
    refine lv_icmp_ge (tgt := 27) hx hb dX11_putAside_6 (by decide) (fun c6 => ?_) (fun c6 => ?_)
    · have hf := (if_pos c6).symm.trans hf
      obtain rfl := Option.some.inj hf
      exact kk ls H locs (lv_sub hl [] rfl) hw
    · have hf := (if_neg c6).symm.trans hf
      refine lv_aload_n hx hb dX11_putAside_9 rfl (lv_at hl 0 rfl) ?_
      refine z_getr (o := 70) (o2 := 72) (C := RX11) (T := TX11) (N := 11) (ci := 9) (k := 1) hx hb Z hw (by decide) (by omega) rfl inX11 (by decide) rfl wd876 dX11_putAside_10 ?_
      refine lv_iload_n hx hb dX11_putAside_13 rfl (lv_at hl 1 rfl) ?_
      refine lv_aload_n hx hb dX11_putAside_14 rfl (lv_at hl 0 rfl) ?_
      refine z_getr (o := 70) (o2 := 71) (C := RX11) (T := TX11) (N := 11) (ci := 9) (k := 0) hx hb Z hw (by decide) (by omega) rfl inX11 (by decide) rfl wd875 dX11_putAside_15 ?_
      refine lv_iload_n hx hb dX11_putAside_18 rfl (lv_at hl 1 rfl) ?_
      obtain ⟨h19, hf⟩ := gd_some hf
      refine y_iald (o := 71) (k := x1.toNatClampNeg) hx hb Z hw (by decide) (by omega) rfl (inB_vp h19) dX11_putAside_19 ?_
      obtain ⟨h20, hf⟩ := gd_some hf
      refine y_iast (o := 72) (k := x1.toNatClampNeg) hx hb Z hw (by decide) (by omega) rfl (inB_vp h20) dX11_putAside_20 (fun H locs hw => ?_)
      refine lv_iinc (v := x1 + (1 : Int32)) (lv' := [(1, _), (0, _)]) hx hb dX11_putAside_21 hl (k := 1) rfl rfl (by decide) rfl (fun ls hl => ?_)
      refine lv_goto (tgt := 2) hx hb dX11_putAside_24 (by decide) ?_
      exact ih (x1 + (1 : Int32)) (hset h 72 x1.toNatClampNeg (h 71 x1.toNatClampNeg))  rv hq ls H locs (lv_sub hl [1, 0] rfl) hw hf kk
set_option maxHeartbeats 4000000 in
set_option maxRecDepth 100000 in
theorem t_X11_putAside (G : GM) (l : Launch) (hN : 77 ≤ gN G)  (h : HP) {h' : HP} (hf : f_X11_putAside  h = some h') : MC G l yX11_putAside cX11_putAside 2 none 0 [.ref (ra G 70)] h h' none := by
  unfold f_X11_putAside at hf
  refine z_start (by decide) (Nat.le_of_ble_eq_true rfl) ?_
  intro p e s m args below meth c ls hx hb hr hlk hml Z hw hl
  have Z : ZK G s args m RX11 := Z
  have hl : lv_has ls 2 [(0, .ref (ra G 70))] := hl
  obtain ⟨H, hH⟩ : ∃ H, H = s.heap := ⟨_, rfl⟩
  rw [← hH] at hw ⊢
  obtain ⟨locs, hlc⟩ : ∃ locs : List Loc, locs = [] := ⟨_, rfl⟩
  rw [← hlc] at hw ⊢
  refine lv_iconst (v := (0 : Int32)) hx hb dX11_putAside_0 (by decide) ?_
  refine lv_istore_n (lv' := [(1, _), (0, _)]) hx hb dX11_putAside_1 rfl hl (by decide) rfl (fun ls hl => ?_)
  obtain ⟨q2, hq2, hf⟩ := ob_some hf
  refine w_X11_putAside_L2 G l hN  hx hb hr hlk hml Z FU (0 : Int32) h  _ _ ls H locs (lv_sub hl [1, 0] rfl) hw hq2 (fun ls H locs hl hw => ?_)
  obtain rfl := Option.some.inj hf
  exact z_vret hx hb hr hlk hw dX11_putAside_27
set_option maxHeartbeats 4000000 in
set_option maxRecDepth 100000 in
theorem w_X11_putBack_L2 (G : GM) (l : Launch) (hN : 77 ≤ gN G)  {p : Program} {e : Env} {s : State} {m : MethodId} {args : Array Value} {below : List Frame} {meth : Method} {c : Code} (hx : p.tables.exec = Jvm.exec) (hb : c.code = cX11_putBack) (hr : meth.sig.returnType = none) (hlk : meth.locks = false) (hml : c.maxLocals = 2) (Z : ZK G s args m RX11) : ∀ (n : Nat) (x1 : Int32)  (h : HP)  (rv : Option Value) (hq : HP) (ls : Array Slot) (H : Heap) (locs : List Loc) {q : HP}, lv_has ls 2 [(0, .ref (ra G 70)), (1, .int x1)] → HW G h s H locs → f_X11_putBack_L2 n x1 h = some q → (∀ (ls : Array Slot) (H : Heap) (locs : List Loc), lv_has ls 2 [] → HW G q s H locs → WZ p l e 0 s m args below meth c G rv hq H locs (F0 m 27 ls [])) → WZ p l e 0 s m args below meth c G rv hq H locs (F0 m 2 ls []) := by
  intro n
  induction n with
  | zero => intro x1  h  rv hq ls H locs q hl hw hf kk; cases hf
  | succ n ih =>
    intro x1  h  rv hq ls H locs q hl hw hf kk
    rw [f_X11_putBack_L2] at hf
    refine lv_iload_n hx hb dX11_putBack_2 rfl (lv_at hl 1 rfl) ?_
    refine lv_sipush (v := (166 : Int32)) hx hb dX11_putBack_3 (by decide) ?_
    refine lv_icmp_ge (tgt := 27) hx hb dX11_putBack_6 (by decide) (fun c6 => ?_) (fun c6 => ?_)
    · have hf := (if_pos c6).symm.trans hf
      obtain rfl := Option.some.inj hf
      exact kk ls H locs (lv_sub hl [] rfl) hw
    · have hf := (if_neg c6).symm.trans hf
      refine lv_aload_n hx hb dX11_putBack_9 rfl (lv_at hl 0 rfl) ?_
      refine z_getr (o := 70) (o2 := 71) (C := RX11) (T := TX11) (N := 11) (ci := 9) (k := 0) hx hb Z hw (by decide) (by omega) rfl inX11 (by decide) rfl wd875 dX11_putBack_10 ?_
      refine lv_iload_n hx hb dX11_putBack_13 rfl (lv_at hl 1 rfl) ?_
      refine lv_aload_n hx hb dX11_putBack_14 rfl (lv_at hl 0 rfl) ?_
      refine z_getr (o := 70) (o2 := 72) (C := RX11) (T := TX11) (N := 11) (ci := 9) (k := 1) hx hb Z hw (by decide) (by omega) rfl inX11 (by decide) rfl wd876 dX11_putBack_15 ?_
      refine lv_iload_n hx hb dX11_putBack_18 rfl (lv_at hl 1 rfl) ?_
      obtain ⟨h19, hf⟩ := gd_some hf
      refine y_iald (o := 72) (k := x1.toNatClampNeg) hx hb Z hw (by decide) (by omega) rfl (inB_vp h19) dX11_putBack_19 ?_
      obtain ⟨h20, hf⟩ := gd_some hf
      refine y_iast (o := 71) (k := x1.toNatClampNeg) hx hb Z hw (by decide) (by omega) rfl (inB_vp h20) dX11_putBack_20 (fun H locs hw => ?_)
      refine lv_iinc (v := x1 + (1 : Int32)) (lv' := [(1, _), (0, _)]) hx hb dX11_putBack_21 hl (k := 1) rfl rfl (by decide) rfl (fun ls hl => ?_)
      refine lv_goto (tgt := 2) hx hb dX11_putBack_24 (by decide) ?_
      exact ih (x1 + (1 : Int32)) (hset h 71 x1.toNatClampNeg (h 72 x1.toNatClampNeg))  rv hq ls H locs (lv_sub hl [1, 0] rfl) hw hf kk
set_option maxHeartbeats 4000000 in
set_option maxRecDepth 100000 in
theorem t_X11_putBack (G : GM) (l : Launch) (hN : 77 ≤ gN G)  (h : HP) {h' : HP} (hf : f_X11_putBack  h = some h') : MC G l yX11_putBack cX11_putBack 2 none 0 [.ref (ra G 70)] h h' none := by
  unfold f_X11_putBack at hf
  refine z_start (by decide) (Nat.le_of_ble_eq_true rfl) ?_
  intro p e s m args below meth c ls hx hb hr hlk hml Z hw hl
  have Z : ZK G s args m RX11 := Z
  have hl : lv_has ls 2 [(0, .ref (ra G 70))] := hl
  obtain ⟨H, hH⟩ : ∃ H, H = s.heap := ⟨_, rfl⟩
  rw [← hH] at hw ⊢
  obtain ⟨locs, hlc⟩ : ∃ locs : List Loc, locs = [] := ⟨_, rfl⟩
  rw [← hlc] at hw ⊢
  refine lv_iconst (v := (0 : Int32)) hx hb dX11_putBack_0 (by decide) ?_
  refine lv_istore_n (lv' := [(1, _), (0, _)]) hx hb dX11_putBack_1 rfl hl (by decide) rfl (fun ls hl => ?_)
  obtain ⟨q2, hq2, hf⟩ := ob_some hf
  refine w_X11_putBack_L2 G l hN  hx hb hr hlk hml Z FU (0 : Int32) h  _ _ ls H locs (lv_sub hl [1, 0] rfl) hw hq2 (fun ls H locs hl hw => ?_)
  obtain rfl := Option.some.inj hf
  exact z_vret hx hb hr hlk hw dX11_putBack_27
set_option maxHeartbeats 4000000 in
set_option maxRecDepth 100000 in
theorem w_X11_act_L20 (G : GM) (l : Launch) (hN : 77 ≤ gN G)  {p : Program} {e : Env} {s : State} {m : MethodId} {args : Array Value} {below : List Frame} {meth : Method} {c : Code} (hx : p.tables.exec = Jvm.exec) (hb : c.code = cX11_act) (hr : meth.sig.returnType = (some .int)) (hlk : meth.locks = false) (hml : c.maxLocals = 3) (Z : ZK G s args m RX11) : ∀ (n : Nat) (x2 : Int32)  (h : HP) (v1 : Int32) (rv : Option Value) (hq : HP) (ls : Array Slot) (H : Heap) (locs : List Loc) {q : HP}, lv_has ls 3 [(0, .ref (ra G 70)), (1, .int v1), (2, .int x2)] → HW G h s H locs → f_X11_act_L20 n x2 h = some q → (∀ (ls : Array Slot) (H : Heap) (locs : List Loc), lv_has ls 3 [(0, .ref (ra G 70)), (1, .int v1)] → HW G q s H locs → WZ p l e 1 s m args below meth c G rv hq H locs (F0 m 49 ls [])) → WZ p l e 1 s m args below meth c G rv hq H locs (F0 m 20 ls []) := by
  intro n
  induction n with
  | zero => intro x2  h v1 rv hq ls H locs q hl hw hf kk; cases hf
  | succ n ih =>
    intro x2  h v1 rv hq ls H locs q hl hw hf kk
    rw [f_X11_act_L20] at hf
    refine lv_iload_n hx hb dX11_act_20 rfl (lv_at hl 2 rfl) ?_
    refine lv_sipush (v := (498 : Int32)) hx hb dX11_act_21 (by decide) ?_
    refine lv_icmp_ge (tgt := 49) hx hb dX11_act_24 (by decide) (fun c24 => ?_) (fun c24 => ?_)
    · have hf := (if_pos c24).symm.trans hf
      obtain rfl := Option.some.inj hf
      exact kk ls H locs (lv_sub hl [0, 1] rfl) hw
    · have hf := (if_neg c24).symm.trans hf
      refine lv_aload_n hx hb dX11_act_27 rfl (lv_at hl 0 rfl) ?_
      refine z_getr (o := 70) (o2 := 73) (C := RX11) (T := TX11) (N := 11) (ci := 9) (k := 2) hx hb Z hw (by decide) (by omega) rfl inX11 (by decide) rfl wd877 dX11_act_28 ?_
      refine lv_iload_n hx hb dX11_act_31 rfl (lv_at hl 2 rfl) ?_
      refine lv_aload_n hx hb dX11_act_32 rfl (lv_at hl 0 rfl) ?_
      refine z_getr (o := 70) (o2 := 73) (C := RX11) (T := TX11) (N := 11) (ci := 9) (k := 2) hx hb Z hw (by decide) (by omega) rfl inX11 (by decide) rfl wd877 dX11_act_33 ?_
      refine lv_sipush (v := (166 : Int32)) hx hb dX11_act_36 (by decide) ?_
      refine lv_iload_n hx hb dX11_act_39 rfl (lv_at hl 2 rfl) ?_
      refine lv_iadd hx hb dX11_act_40 ?_
      obtain ⟨h41, hf⟩ := gd_some hf
      refine y_iald (o := 73) (k := ((166 : Int32) + x2).toNatClampNeg) hx hb Z hw (by decide) (by omega) rfl (inB_vp h41) dX11_act_41 ?_
      obtain ⟨h42, hf⟩ := gd_some hf
      refine y_iast (o := 73) (k := x2.toNatClampNeg) hx hb Z hw (by decide) (by omega) rfl (inB_vp h42) dX11_act_42 (fun H locs hw => ?_)
      refine lv_iinc (v := x2 + (1 : Int32)) (lv' := [(2, _), (0, _), (1, _)]) hx hb dX11_act_43 hl (k := 2) rfl rfl (by decide) rfl (fun ls hl => ?_)
      refine lv_goto (tgt := 20) hx hb dX11_act_46 (by decide) ?_
      exact ih (x2 + (1 : Int32)) (hset h 73 x2.toNatClampNeg (h 73 ((166 : Int32) + x2).toNatClampNeg)) v1 rv hq ls H locs (lv_sub hl [1, 2, 0] rfl) hw hf kk
set_option maxHeartbeats 4000000 in
set_option maxRecDepth 100000 in
theorem w_X11_act_L61 (G : GM) (l : Launch) (hN : 77 ≤ gN G)  {p : Program} {e : Env} {s : State} {m : MethodId} {args : Array Value} {below : List Frame} {meth : Method} {c : Code} (hx : p.tables.exec = Jvm.exec) (hb : c.code = cX11_act) (hr : meth.sig.returnType = (some .int)) (hlk : meth.locks = false) (hml : c.maxLocals = 3) (Z : ZK G s args m RX11) : ∀ (n : Nat) (x2 : Int32)  (h : HP) (v1 : Int32) (rv : Option Value) (hq : HP) (ls : Array Slot) (H : Heap) (locs : List Loc) {q : HP}, lv_has ls 3 [(0, .ref (ra G 70)), (1, .int v1), (2, .int x2)] → HW G h s H locs → f_X11_act_L61 n x2 h = some q → (∀ (ls : Array Slot) (H : Heap) (locs : List Loc), lv_has ls 3 [(0, .ref (ra G 70)), (1, .int v1)] → HW G q s H locs → WZ p l e 1 s m args below meth c G rv hq H locs (F0 m 95 ls [])) → WZ p l e 1 s m args below meth c G rv hq H locs (F0 m 61 ls []) := by
  intro n
  induction n with
  | zero => intro x2  h v1 rv hq ls H locs q hl hw hf kk; cases hf
  | succ n ih =>
    intro x2  h v1 rv hq ls H locs q hl hw hf kk
    rw [f_X11_act_L61] at hf
    refine lv_iload_n hx hb dX11_act_61 rfl (lv_at hl 2 rfl) ?_
    refine lv_sipush (v := (166 : Int32)) hx hb dX11_act_62 (by decide) ?_
    refine lv_icmp_ge (tgt := 95) hx hb dX11_act_65 (by decide) (fun c65 => ?_) (fun c65 => ?_)
    · have hf := (if_pos c65).symm.trans hf
      obtain rfl := Option.some.inj hf
      exact kk ls H locs (lv_sub hl [0, 1] rfl) hw
    · have hf := (if_neg c65).symm.trans hf
      refine lv_aload_n hx hb dX11_act_68 rfl (lv_at hl 0 rfl) ?_
      refine z_getr (o := 70) (o2 := 73) (C := RX11) (T := TX11) (N := 11) (ci := 9) (k := 2) hx hb Z hw (by decide) (by omega) rfl inX11 (by decide) rfl wd877 dX11_act_69 ?_
      refine lv_sipush (v := (166 : Int32)) hx hb dX11_act_72 (by decide) ?_
      refine lv_aload_n hx hb dX11_act_75 rfl (lv_at hl 0 rfl) ?_
      refine z_geti (o := 70) (C := RX11) (T := TX11) (N := 11) (ci := 9) (k := 3) hx hb Z hw (by decide) (by omega) rfl inX11 (by decide) wd878 dX11_act_76 ?_
      refine lv_imul hx hb dX11_act_79 ?_
      refine lv_iload_n hx hb dX11_act_80 rfl (lv_at hl 2 rfl) ?_
      refine lv_iadd hx hb dX11_act_81 ?_
      refine lv_aload_n hx hb dX11_act_82 rfl (lv_at hl 0 rfl) ?_
      refine z_getr (o := 70) (o2 := 72) (C := RX11) (T := TX11) (N := 11) (ci := 9) (k := 1) hx hb Z hw (by decide) (by omega) rfl inX11 (by decide) rfl wd876 dX11_act_83 ?_
      refine lv_iload_n hx hb dX11_act_86 rfl (lv_at hl 2 rfl) ?_
      obtain ⟨h87, hf⟩ := gd_some hf
      refine y_iald (o := 72) (k := x2.toNatClampNeg) hx hb Z hw (by decide) (by omega) rfl (inB_vp h87) dX11_act_87 ?_
      obtain ⟨h88, hf⟩ := gd_some hf
      refine y_iast (o := 73) (k := (((166 : Int32) * (h 70 3)) + x2).toNatClampNeg) hx hb Z hw (by decide) (by omega) rfl (inB_vp h88) dX11_act_88 (fun H locs hw => ?_)
      refine lv_iinc (v := x2 + (1 : Int32)) (lv' := [(2, _), (0, _), (1, _)]) hx hb dX11_act_89 hl (k := 2) rfl rfl (by decide) rfl (fun ls hl => ?_)
      refine lv_goto (tgt := 61) hx hb dX11_act_92 (by decide) ?_
      exact ih (x2 + (1 : Int32)) (hset h 73 (((166 : Int32) * (h 70 3)) + x2).toNatClampNeg (h 72 x2.toNatClampNeg)) v1 rv hq ls H locs (lv_sub hl [1, 2, 0] rfl) hw hf kk
set_option maxHeartbeats 4000000 in
set_option maxRecDepth 100000 in
theorem t_X11_act (G : GM) (l : Launch) (hN : 77 ≤ gN G) (x1 : Int32) (h : HP) {r : Int32} {h' : HP} (hf : f_X11_act x1 h = some (r, h')) : MC G l yX11_act cX11_act 3 (some .int) 1 [.ref (ra G 70), .int x1] h h' (some (.int r)) := by
  unfold f_X11_act at hf
  refine z_start (by decide) (Nat.le_of_ble_eq_true rfl) ?_
  intro p e s m args below meth c ls hx hb hr hlk hml Z hw hl
  have Z : ZK G s args m RX11 := Z
  have hl : lv_has ls 3 [(0, .ref (ra G 70)), (1, .int x1)] := hl
  obtain ⟨H, hH⟩ : ∃ H, H = s.heap := ⟨_, rfl⟩
  rw [← hH] at hw ⊢
  obtain ⟨locs, hlc⟩ : ∃ locs : List Loc, locs = [] := ⟨_, rfl⟩
  rw [← hlc] at hw ⊢
  refine lv_iload_n hx hb dX11_act_0 rfl (lv_at hl 1 rfl) ?_
  refine lv_if_ge (tgt := 10) hx hb dX11_act_1 (by decide) (fun c1 => ?_) (fun c1 => ?_)
  · have hf := (if_pos c1).symm.trans hf
    refine lv_aload_n hx hb dX11_act_10 rfl (lv_at hl 0 rfl) ?_
    refine z_geti (o := 70) (C := RX11) (T := TX11) (N := 11) (ci := 9) (k := 3) hx hb Z hw (by decide) (by omega) rfl inX11 (by decide) wd878 dX11_act_11 ?_
    refine lv_iconst (v := (4 : Int32)) hx hb dX11_act_14 (by decide) ?_
    obtain ⟨j15, hqj15, hf⟩ := ob_some hf
    have HJ59 : ∀ (ls : Array Slot) (H : Heap) (locs : List Loc), lv_has ls 3 [(0, .ref (ra G 70)), (1, .int x1)] → HW G j15 s H locs → WZ p l e 1 s m args below meth c G (some (.int r)) h' H locs (F0 m 59 ls []) := by
      intro ls H locs hl hw
      refine lv_iconst (v := (0 : Int32)) hx hb dX11_act_59 (by decide) ?_
      refine lv_istore_n (lv' := [(2, _), (0, _), (1, _)]) hx hb dX11_act_60 rfl hl (by decide) rfl (fun ls hl => ?_)
      obtain ⟨q61, hq61, hf⟩ := ob_some hf
      refine w_X11_act_L61 G l hN  hx hb hr hlk hml Z FU (0 : Int32) j15 x1 _ _ ls H locs (lv_sub hl [1, 2, 0] rfl) hw hq61 (fun ls H locs hl hw => ?_)
      refine lv_aload_n hx hb dX11_act_95 rfl (lv_at hl 0 rfl) ?_
      refine lv_dup hx hb dX11_act_96 rfl ?_
      refine z_geti (o := 70) (C := RX11) (T := TX11) (N := 11) (ci := 9) (k := 3) hx hb Z hw (by decide) (by omega) rfl inX11 (by decide) wd878 dX11_act_97 ?_
      refine lv_iconst (v := (1 : Int32)) hx hb dX11_act_100 (by decide) ?_
      refine lv_iadd hx hb dX11_act_101 ?_
      refine z_puti (o := 70) (v := (q61 70 3) + (1 : Int32)) (ty := .int) (C := RX11) (T := TX11) (N := 11) (ci := 9) (k := 3) hx hb Z hw (by decide) (by omega) rfl inX11 tyX11 tyX11_ok nmX11 (by decide) wd878 rfl (by decide +kernel) rfl rfl dX11_act_102 (fun H locs hw => ?_)
      refine lv_iload_n hx hb dX11_act_105 rfl (lv_at hl 1 rfl) ?_
      obtain ⟨rfl, rfl⟩ := Prod.mk.inj (Option.some.inj hf)
      exact z_iret hx hb hr hlk hw dX11_act_106
    have hf := hqj15
    refine lv_icmp_ne (tgt := 59) hx hb dX11_act_15 (by decide) (fun c15 => ?_) (fun c15 => ?_)
    · have hf := (if_neg c15).symm.trans hf
      obtain rfl := Option.some.inj hf
      exact HJ59 ls H locs (lv_sub hl [0, 1] rfl) hw
    · have hf := (if_pos c15).symm.trans hf
      refine lv_iconst (v := (0 : Int32)) hx hb dX11_act_18 (by decide) ?_
      refine lv_istore_n (lv' := [(2, _), (0, _), (1, _)]) hx hb dX11_act_19 rfl hl (by decide) rfl (fun ls hl => ?_)
      obtain ⟨q20, hq20, hf⟩ := ob_some hf
      refine w_X11_act_L20 G l hN  hx hb hr hlk hml Z FU (0 : Int32) h x1 _ _ ls H locs (lv_sub hl [1, 2, 0] rfl) hw hq20 (fun ls H locs hl hw => ?_)
      refine lv_aload_n hx hb dX11_act_49 rfl (lv_at hl 0 rfl) ?_
      refine lv_dup hx hb dX11_act_50 rfl ?_
      refine z_geti (o := 70) (C := RX11) (T := TX11) (N := 11) (ci := 9) (k := 3) hx hb Z hw (by decide) (by omega) rfl inX11 (by decide) wd878 dX11_act_51 ?_
      refine lv_iconst (v := (1 : Int32)) hx hb dX11_act_54 (by decide) ?_
      refine lv_isub hx hb dX11_act_55 ?_
      refine z_puti (o := 70) (v := (q20 70 3) - (1 : Int32)) (ty := .int) (C := RX11) (T := TX11) (N := 11) (ci := 9) (k := 3) hx hb Z hw (by decide) (by omega) rfl inX11 tyX11 tyX11_ok nmX11 (by decide) wd878 rfl (by decide +kernel) rfl rfl dX11_act_56 (fun H locs hw => ?_)
      obtain rfl := Option.some.inj hf
      exact HJ59 ls H locs (lv_sub hl [0, 1] rfl) hw
  · have hf := (if_neg c1).symm.trans hf
    refine lv_aload_n hx hb dX11_act_4 rfl (lv_at hl 0 rfl) ?_
    obtain ⟨q5, hq5, hf⟩ := ob_some hf
    refine z_callVv (o := 70) (ci := 9) (As := []) (rest := []) (t_X11_putBack G l hN  h hq5) cv_X11_putBack hx hb hml hl.1 Z hw (by decide) (by decide) (by omega) rfl rfl wd955 rfl rfl (Nat.le_of_ble_eq_true rfl) (by decide) dX11_act_5 (fun H locs hw => ?_)
    refine lv_iload_n hx hb dX11_act_8 rfl (lv_at hl 1 rfl) ?_
    obtain ⟨rfl, rfl⟩ := Prod.mk.inj (Option.some.inj hf)
    exact z_iret hx hb hr hlk hw dX11_act_9
set_option maxHeartbeats 4000000 in
set_option maxRecDepth 100000 in
theorem t_X11_framesOf (G : GM) (l : Launch) (hN : 77 ≤ gN G) (x1 : Int32) (h : HP) : MC G l yX11_framesOf cX11_framesOf 2 (some .int) 0 [.ref (ra G 70), .int x1] h h (some (.int (f_X11_framesOf x1 h))) := by
  generalize hf : f_X11_framesOf x1 h = r
  unfold f_X11_framesOf at hf
  refine z_start (by decide) (Nat.le_of_ble_eq_true rfl) ?_
  intro p e s m args below meth c ls hx hb hr hlk hml Z hw hl
  have Z : ZK G s args m RX11 := Z
  have hl : lv_has ls 2 [(0, .ref (ra G 70)), (1, .int x1)] := hl
  obtain ⟨H, hH⟩ : ∃ H, H = s.heap := ⟨_, rfl⟩
  rw [← hH] at hw ⊢
  obtain ⟨locs, hlc⟩ : ∃ locs : List Loc, locs = [] := ⟨_, rfl⟩
  rw [← hlc] at hw ⊢
  refine lv_aload_n hx hb dX11_framesOf_0 rfl (lv_at hl 0 rfl) ?_
  refine z_getr (o := 70) (o2 := 71) (C := RX11) (T := TX11) (N := 11) (ci := 9) (k := 0) hx hb Z hw (by decide) (by omega) rfl inX11 (by decide) rfl wd875 dX11_framesOf_1 ?_
  refine lv_iconst (v := (0 : Int32)) hx hb dX11_framesOf_4 (by decide) ?_
  refine y_iald (o := 71) (k := 0) hx hb Z hw (by decide) (by omega) (by decide) (inB_vp (by decide)) dX11_framesOf_5 ?_
  refine lv_iload_n hx hb dX11_framesOf_6 rfl (lv_at hl 1 rfl) ?_
  refine lv_aload_n hx hb dX11_framesOf_7 rfl (lv_at hl 0 rfl) ?_
  refine z_getr (o := 70) (o2 := 71) (C := RX11) (T := TX11) (N := 11) (ci := 9) (k := 0) hx hb Z hw (by decide) (by omega) rfl inX11 (by decide) rfl wd875 dX11_framesOf_8 ?_
  refine lv_iconst (v := (1 : Int32)) hx hb dX11_framesOf_11 (by decide) ?_
  refine y_iald (o := 71) (k := 1) hx hb Z hw (by decide) (by omega) (by decide) (inB_vp (by decide)) dX11_framesOf_12 ?_
  refine lv_imul hx hb dX11_framesOf_13 ?_
  refine lv_iadd hx hb dX11_framesOf_14 ?_
  obtain rfl := hf
  exact z_iret hx hb hr hlk hw dX11_framesOf_15
set_option maxHeartbeats 4000000 in
set_option maxRecDepth 100000 in
theorem t_X11_start (G : GM) (l : Launch) (hN : 77 ≤ gN G) (x1 : Int32) (h : HP) : MC G l yX11_start cX11_start 2 (some .int) 0 [.ref (ra G 70), .int x1] h h (some (.int (f_X11_start x1 h))) := by
  generalize hf : f_X11_start x1 h = r
  unfold f_X11_start at hf
  refine z_start (by decide) (Nat.le_of_ble_eq_true rfl) ?_
  intro p e s m args below meth c ls hx hb hr hlk hml Z hw hl
  have Z : ZK G s args m RX11 := Z
  have hl : lv_has ls 2 [(0, .ref (ra G 70)), (1, .int x1)] := hl
  obtain ⟨H, hH⟩ : ∃ H, H = s.heap := ⟨_, rfl⟩
  rw [← hH] at hw ⊢
  obtain ⟨locs, hlc⟩ : ∃ locs : List Loc, locs = [] := ⟨_, rfl⟩
  rw [← hlc] at hw ⊢
  refine lv_iload_n hx hb dX11_start_0 rfl (lv_at hl 1 rfl) ?_
  refine lv_aload_n hx hb dX11_start_1 rfl (lv_at hl 0 rfl) ?_
  refine z_getr (o := 70) (o2 := 71) (C := RX11) (T := TX11) (N := 11) (ci := 9) (k := 0) hx hb Z hw (by decide) (by omega) rfl inX11 (by decide) rfl wd875 dX11_start_2 ?_
  refine lv_iconst (v := (0 : Int32)) hx hb dX11_start_5 (by decide) ?_
  refine y_iald (o := 71) (k := 0) hx hb Z hw (by decide) (by omega) (by decide) (inB_vp (by decide)) dX11_start_6 ?_
  refine lv_imul hx hb dX11_start_7 ?_
  refine lv_iload_n hx hb dX11_start_8 rfl (lv_at hl 1 rfl) ?_
  refine lv_iload_n hx hb dX11_start_9 rfl (lv_at hl 1 rfl) ?_
  refine lv_iconst (v := (1 : Int32)) hx hb dX11_start_10 (by decide) ?_
  refine lv_isub hx hb dX11_start_11 ?_
  refine lv_imul hx hb dX11_start_12 ?_
  refine lv_iconst (v := (2 : Int32)) hx hb dX11_start_13 (by decide) ?_
  refine lv_idiv hx hb dX11_start_14 (by decide) ?_
  refine lv_aload_n hx hb dX11_start_15 rfl (lv_at hl 0 rfl) ?_
  refine z_getr (o := 70) (o2 := 71) (C := RX11) (T := TX11) (N := 11) (ci := 9) (k := 0) hx hb Z hw (by decide) (by omega) rfl inX11 (by decide) rfl wd875 dX11_start_16 ?_
  refine lv_iconst (v := (1 : Int32)) hx hb dX11_start_19 (by decide) ?_
  refine y_iald (o := 71) (k := 1) hx hb Z hw (by decide) (by omega) (by decide) (inB_vp (by decide)) dX11_start_20 ?_
  refine lv_imul hx hb dX11_start_21 ?_
  refine lv_iadd hx hb dX11_start_22 ?_
  obtain rfl := hf
  exact z_iret hx hb hr hlk hw dX11_start_23
set_option maxHeartbeats 4000000 in
set_option maxRecDepth 100000 in
theorem t_X11_frames (G : GM) (l : Launch) (hN : 77 ≤ gN G)  (h : HP) : MC G l yX11_frames cX11_frames 1 (some .int) 1 [.ref (ra G 70)] h h (some (.int (f_X11_frames  h))) := by
  generalize hf : f_X11_frames  h = r
  unfold f_X11_frames at hf
  refine z_start (by decide) (Nat.le_of_ble_eq_true rfl) ?_
  intro p e s m args below meth c ls hx hb hr hlk hml Z hw hl
  have Z : ZK G s args m RX11 := Z
  have hl : lv_has ls 1 [(0, .ref (ra G 70))] := hl
  obtain ⟨H, hH⟩ : ∃ H, H = s.heap := ⟨_, rfl⟩
  rw [← hH] at hw ⊢
  obtain ⟨locs, hlc⟩ : ∃ locs : List Loc, locs = [] := ⟨_, rfl⟩
  rw [← hlc] at hw ⊢
  refine lv_aload_n hx hb dX11_frames_0 rfl (lv_at hl 0 rfl) ?_
  refine lv_bipush (v := (30 : Int32)) hx hb dX11_frames_1 (by decide) ?_
  refine z_callVi (o := 70) (ci := 9) (As := [.int (30 : Int32)]) (rest := []) (t_X11_start G l hN (30 : Int32) h) cv_X11_start hx hb hml hl.1 Z hw (by decide) (by decide) (by omega) rfl rfl wd930 rfl rfl (Nat.le_of_ble_eq_true rfl) (by decide) dX11_frames_3 (fun H locs hw => ?_)
  obtain rfl := hf
  exact z_iret hx hb hr hlk hw dX11_frames_6
set_option maxHeartbeats 4000000 in
set_option maxRecDepth 100000 in
theorem t_X11_isFrame (G : GM) (l : Launch) (hN : 77 ≤ gN G) (x1 : Int32) (h : HP) : MC G l yX11_isFrame cX11_isFrame 2 (some .boolean) 2 [.ref (ra G 70), .int x1] h h (some (.int (f_X11_isFrame x1 h))) := by
  generalize hf : f_X11_isFrame x1 h = r
  unfold f_X11_isFrame at hf
  refine z_start (by decide) (Nat.le_of_ble_eq_true rfl) ?_
  intro p e s m args below meth c ls hx hb hr hlk hml Z hw hl
  have Z : ZK G s args m RX11 := Z
  have hl : lv_has ls 2 [(0, .ref (ra G 70)), (1, .int x1)] := hl
  obtain ⟨H, hH⟩ : ∃ H, H = s.heap := ⟨_, rfl⟩
  rw [← hH] at hw ⊢
  obtain ⟨locs, hlc⟩ : ∃ locs : List Loc, locs = [] := ⟨_, rfl⟩
  rw [← hlc] at hw ⊢
  refine lv_iload_n hx hb dX11_isFrame_0 rfl (lv_at hl 1 rfl) ?_
  refine lv_iconst (v := (0 : Int32)) hx hb dX11_isFrame_1 (by decide) ?_
  refine lv_aload_n hx hb dX11_isFrame_2 rfl (lv_at hl 0 rfl) ?_
  refine z_callVi (o := 70) (ci := 9) (As := []) (rest := [.int (0 : Int32), .int x1]) (t_X11_frames G l hN  h) cv_X11_frames hx hb hml hl.1 Z hw (by decide) (by decide) (by omega) rfl rfl wd926 rfl rfl (Nat.le_of_ble_eq_true rfl) (by decide) dX11_isFrame_3 (fun H locs hw => ?_)
  refine lv_iconst (v := (1 : Int32)) hx hb dX11_isFrame_6 (by decide) ?_
  refine lv_isub hx hb dX11_isFrame_7 ?_
  refine z_callSi (As := [.int x1, .int (0 : Int32), .int ((f_X11_frames h) - (1 : Int32))]) (rest := []) (t_X11_in G l hN x1 (0 : Int32) ((f_X11_frames h) - (1 : Int32)) h) cs_X11_in hx hb hml hl.1 Z hw wd934 rfl rfl (Nat.le_of_ble_eq_true rfl) (by decide) dX11_isFrame_8 (fun H locs hw => ?_)
  obtain rfl := hf
  exact z_zret hx hb hr (nar_b (b_X11_in x1 (0 : Int32) ((f_X11_frames h) - (1 : Int32)) h)) hlk hw dX11_isFrame_11
set_option maxHeartbeats 4000000 in
set_option maxRecDepth 100000 in
theorem w_X11_turnOf_L2 (G : GM) (l : Launch) (hN : 77 ≤ gN G)  {p : Program} {e : Env} {s : State} {m : MethodId} {args : Array Value} {below : List Frame} {meth : Method} {c : Code} (hx : p.tables.exec = Jvm.exec) (hb : c.code = cX11_turnOf) (hr : meth.sig.returnType = (some .int)) (hlk : meth.locks = false) (hml : c.maxLocals = 3) (Z : ZK G s args m RX11) : ∀ (n : Nat) (x1 : Int32) (x2 : Int32)  (h : HP)  (rv : Option Value) (hq : HP) (ls : Array Slot) (H : Heap) (locs : List Loc) {q : Int32}, lv_has ls 3 [(0, .ref (ra G 70)), (1, .int x1), (2, .int x2)] → HW G h s H locs → f_X11_turnOf_L2 n x1 x2 h = some q → (∀ (ls : Array Slot) (H : Heap) (locs : List Loc), lv_has ls 3 [(2, .int q)] → HW G h s H locs → WZ p l e 1 s m args below meth c G rv hq H locs (F0 m 25 ls [])) → WZ p l e 1 s m args below meth c G rv hq H locs (F0 m 2 ls []) := by
  intro n
  induction n with
  | zero => intro x1 x2  h  rv hq ls H locs q hl hw hf kk; cases hf
  | succ n ih =>
    intro x1 x2  h  rv hq ls H locs q hl hw hf kk
    rw [f_X11_turnOf_L2] at hf
    refine lv_iload_n hx hb dX11_turnOf_2 rfl (lv_at hl 2 rfl) ?_
    refine lv_bipush (v := (29 : Int32)) hx hb dX11_turnOf_3 (by decide) ?_
    refine lv_icmp_ge (tgt := 25) hx hb dX11_turnOf_5 (by decide) (fun c5 => ?_) (fun c5 => ?_)
    · have hf := (if_pos c5).symm.trans hf
      obtain rfl := Option.some.inj hf
      exact kk ls H locs (lv_sub hl [2] rfl) hw
    · have hf := (if_neg c5).symm.trans hf
      refine lv_aload_n hx hb dX11_turnOf_8 rfl (lv_at hl 0 rfl) ?_
      refine lv_iload_n hx hb dX11_turnOf_9 rfl (lv_at hl 2 rfl) ?_
      refine lv_iconst (v := (1 : Int32)) hx hb dX11_turnOf_10 (by decide) ?_
      refine lv_iadd hx hb dX11_turnOf_11 ?_
      refine z_callVi (o := 70) (ci := 9) (As := [.int (x2 + (1 : Int32))]) (rest := []) (t_X11_start G l hN (x2 + (1 : Int32)) h) cv_X11_start hx hb hml hl.1 Z hw (by decide) (by decide) (by omega) rfl rfl wd930 rfl rfl (Nat.le_of_ble_eq_true rfl) (by decide) dX11_turnOf_12 (fun H locs hw => ?_)
      refine lv_iload_n hx hb dX11_turnOf_15 rfl (lv_at hl 1 rfl) ?_
      refine lv_icmp_gt (tgt := 25) hx hb dX11_turnOf_16 (by decide) (fun c16 => ?_) (fun c16 => ?_)
      · have hf := (if_pos c16).symm.trans hf
        obtain rfl := Option.some.inj hf
        exact kk ls H locs (lv_sub hl [2] rfl) hw
      · have hf := (if_neg c16).symm.trans hf
        refine lv_iinc (v := x2 + (1 : Int32)) (lv' := [(2, _), (0, _), (1, _)]) hx hb dX11_turnOf_19 hl (k := 2) rfl rfl (by decide) rfl (fun ls hl => ?_)
        refine lv_goto (tgt := 2) hx hb dX11_turnOf_22 (by decide) ?_
        exact ih x1 (x2 + (1 : Int32)) h  rv hq ls H locs (lv_sub hl [1, 2, 0] rfl) hw hf kk
set_option maxHeartbeats 4000000 in
set_option maxRecDepth 100000 in
theorem t_X11_turnOf (G : GM) (l : Launch) (hN : 77 ≤ gN G) (x1 : Int32) (h : HP) {r : Int32} (hf : f_X11_turnOf x1 h = some r) : MC G l yX11_turnOf cX11_turnOf 3 (some .int) 1 [.ref (ra G 70), .int x1] h h (some (.int r)) := by
  unfold f_X11_turnOf at hf
  refine z_start (by decide) (Nat.le_of_ble_eq_true rfl) ?_
  intro p e s m args below meth c ls hx hb hr hlk hml Z hw hl
  have Z : ZK G s args m RX11 := Z
  have hl : lv_has ls 3 [(0, .ref (ra G 70)), (1, .int x1)] := hl
  obtain ⟨H, hH⟩ : ∃ H, H = s.heap := ⟨_, rfl⟩
  rw [← hH] at hw ⊢
  obtain ⟨locs, hlc⟩ : ∃ locs : List Loc, locs = [] := ⟨_, rfl⟩
  rw [← hlc] at hw ⊢
  refine lv_iconst (v := (0 : Int32)) hx hb dX11_turnOf_0 (by decide) ?_
  refine lv_istore_n (lv' := [(2, _), (0, _), (1, _)]) hx hb dX11_turnOf_1 rfl hl (by decide) rfl (fun ls hl => ?_)
  obtain ⟨q2, hq2, hf⟩ := ob_some hf
  refine w_X11_turnOf_L2 G l hN  hx hb hr hlk hml Z FU x1 (0 : Int32) h  _ _ ls H locs (lv_sub hl [1, 2, 0] rfl) hw hq2 (fun ls H locs hl hw => ?_)
  refine lv_iload_n hx hb dX11_turnOf_25 rfl (lv_at hl 0 rfl) ?_
  obtain rfl := Option.some.inj hf
  exact z_iret hx hb hr hlk hw dX11_turnOf_26
set_option maxHeartbeats 4000000 in
set_option maxRecDepth 100000 in
theorem t_X11_isCheck (G : GM) (l : Launch) (hN : 77 ≤ gN G) (x0 : Int32) (h : HP) : MC G l yX11_isCheck cX11_isCheck 1 (some .boolean) 0 [.int x0] h h (some (.int (f_X11_isCheck x0 h))) := by
  generalize hf : f_X11_isCheck x0 h = r
  unfold f_X11_isCheck at hf
  refine z_start (by decide) (Nat.le_of_ble_eq_true rfl) ?_
  intro p e s m args below meth c ls hx hb hr hlk hml Z hw hl
  have Z : ZK G s args m RX11 := Z
  have hl : lv_has ls 1 [(0, .int x0)] := hl
  obtain ⟨H, hH⟩ : ∃ H, H = s.heap := ⟨_, rfl⟩
  rw [← hH] at hw ⊢
  obtain ⟨locs, hlc⟩ : ∃ locs : List Loc, locs = [] := ⟨_, rfl⟩
  rw [← hlc] at hw ⊢
  refine lv_iload_n hx hb dX11_isCheck_0 rfl (lv_at hl 0 rfl) ?_
  refine lv_iconst (v := (5 : Int32)) hx hb dX11_isCheck_1 (by decide) ?_
  refine z_irem hx hb dX11_isCheck_2 (by decide) ?_
  refine lv_iconst (v := (4 : Int32)) hx hb dX11_isCheck_3 (by decide) ?_
  refine lv_icmp_ne (tgt := 11) hx hb dX11_isCheck_4 (by decide) (fun c4 => ?_) (fun c4 => ?_)
  · have hf := (if_neg c4).symm.trans hf
    refine lv_iconst (v := (0 : Int32)) hx hb dX11_isCheck_11 (by decide) ?_
    obtain rfl := hf
    exact z_zret hx hb hr rfl hlk hw dX11_isCheck_12
  · have hf := (if_pos c4).symm.trans hf
    refine lv_iconst (v := (1 : Int32)) hx hb dX11_isCheck_7 (by decide) ?_
    refine lv_goto (tgt := 12) hx hb dX11_isCheck_8 (by decide) ?_
    obtain rfl := hf
    exact z_zret hx hb hr rfl hlk hw dX11_isCheck_12
set_option maxHeartbeats 4000000 in
set_option maxRecDepth 100000 in
theorem t_X11_hasGroup (G : GM) (l : Launch) (hN : 77 ≤ gN G) (x1 : Int32) (h : HP) : MC G l yX11_hasGroup cX11_hasGroup 2 (some .boolean) 2 [.ref (ra G 70), .int x1] h h (some (.int (f_X11_hasGroup x1 h))) := by
  generalize hf : f_X11_hasGroup x1 h = r
  unfold f_X11_hasGroup at hf
  refine z_start (by decide) (Nat.le_of_ble_eq_true rfl) ?_
  intro p e s m args below meth c ls hx hb hr hlk hml Z hw hl
  have Z : ZK G s args m RX11 := Z
  have hl : lv_has ls 2 [(0, .ref (ra G 70)), (1, .int x1)] := hl
  obtain ⟨H, hH⟩ : ∃ H, H = s.heap := ⟨_, rfl⟩
  rw [← hH] at hw ⊢
  obtain ⟨locs, hlc⟩ : ∃ locs : List Loc, locs = [] := ⟨_, rfl⟩
  rw [← hlc] at hw ⊢
  refine lv_iload_n hx hb dX11_hasGroup_0 rfl (lv_at hl 1 rfl) ?_
  refine lv_iconst (v := (5 : Int32)) hx hb dX11_hasGroup_1 (by decide) ?_
  refine lv_idiv hx hb dX11_hasGroup_2 (by decide) ?_
  refine lv_aload_n hx hb dX11_hasGroup_3 rfl (lv_at hl 0 rfl) ?_
  refine z_callVi (o := 70) (ci := 9) (As := []) (rest := [.int (x1 / (5 : Int32))]) (t_X11_frames G l hN  h) cv_X11_frames hx hb hml hl.1 Z hw (by decide) (by decide) (by omega) rfl rfl wd926 rfl rfl (Nat.le_of_ble_eq_true rfl) (by decide) dX11_hasGroup_4 (fun H locs hw => ?_)
  refine lv_iconst (v := (5 : Int32)) hx hb dX11_hasGroup_7 (by decide) ?_
  refine lv_idiv hx hb dX11_hasGroup_8 (by decide) ?_
  refine lv_icmp_ge (tgt := 16) hx hb dX11_hasGroup_9 (by decide) (fun c9 => ?_) (fun c9 => ?_)
  · have hf := (if_pos c9).symm.trans hf
    refine lv_iconst (v := (0 : Int32)) hx hb dX11_hasGroup_16 (by decide) ?_
    obtain rfl := hf
    exact z_zret hx hb hr rfl hlk hw dX11_hasGroup_17
  · have hf := (if_neg c9).symm.trans hf
    refine lv_iconst (v := (1 : Int32)) hx hb dX11_hasGroup_12 (by decide) ?_
    refine lv_goto (tgt := 17) hx hb dX11_hasGroup_13 (by decide) ?_
    obtain rfl := hf
    exact z_zret hx hb hr rfl hlk hw dX11_hasGroup_17
set_option maxHeartbeats 4000000 in
set_option maxRecDepth 100000 in
theorem w_X11_findPressed_L2 (G : GM) (l : Launch) (hN : 77 ≤ gN G)  {p : Program} {e : Env} {s : State} {m : MethodId} {args : Array Value} {below : List Frame} {meth : Method} {c : Code} (hx : p.tables.exec = Jvm.exec) (hb : c.code = cX11_findPressed) (hr : meth.sig.returnType = (some .int)) (hlk : meth.locks = false) (hml : c.maxLocals = 4) (Z : ZK G s args m RX11) : ∀ (n : Nat) (x1 : Int32) (x2 : Int32) (x3 : Int32)  (h : HP) (r : Int32) (ls : Array Slot) (H : Heap) (locs : List Loc), lv_has ls 4 [(0, .ref (ra G 70)), (1, .int x1), (2, .int x2), (3, .int x3)] → HW G h s H locs → f_X11_findPressed_L2 n x1 x2 x3 h = some r → WZ p l e 0 s m args below meth c G (some (.int r)) h H locs (F0 m 2 ls []) := by
  intro n
  induction n with
  | zero => intro x1 x2 x3  h r ls H locs hl hw hf; cases hf
  | succ n ih =>
    intro x1 x2 x3  h r ls H locs hl hw hf
    rw [f_X11_findPressed_L2] at hf
    refine lv_iload_n hx hb dX11_findPressed_2 rfl (lv_at hl 3 rfl) ?_
    refine lv_aload_n hx hb dX11_findPressed_3 rfl (lv_at hl 0 rfl) ?_
    refine z_getr (o := 70) (o2 := 71) (C := RX11) (T := TX11) (N := 11) (ci := 9) (k := 0) hx hb Z hw (by decide) (by omega) rfl inX11 (by decide) rfl wd875 dX11_findPressed_4 ?_
    refine lv_bipush (v := (45 : Int32)) hx hb dX11_findPressed_7 (by decide) ?_
    refine y_iald (o := 71) (k := 45) hx hb Z hw (by decide) (by omega) (by decide) (inB_vp (by decide)) dX11_findPressed_9 ?_
    refine lv_icmp_ge (tgt := 53) hx hb dX11_findPressed_10 (by decide) (fun c10 => ?_) (fun c10 => ?_)
    · have hf := (if_pos c10).symm.trans hf
      refine lv_bipush (v := (-5 : Int32)) hx hb dX11_findPressed_53 (by decide) ?_
      obtain rfl := Option.some.inj hf
      exact z_iret hx hb hr hlk hw dX11_findPressed_55
    · have hf := (if_neg c10).symm.trans hf
      refine lv_aload_n hx hb dX11_findPressed_13 rfl (lv_at hl 0 rfl) ?_
      refine z_getr (o := 70) (o2 := 71) (C := RX11) (T := TX11) (N := 11) (ci := 9) (k := 0) hx hb Z hw (by decide) (by omega) rfl inX11 (by decide) rfl wd875 dX11_findPressed_14 ?_
      refine lv_bipush (v := (46 : Int32)) hx hb dX11_findPressed_17 (by decide) ?_
      refine lv_iconst (v := (3 : Int32)) hx hb dX11_findPressed_19 (by decide) ?_
      refine lv_iload_n hx hb dX11_findPressed_20 rfl (lv_at hl 3 rfl) ?_
      refine lv_imul hx hb dX11_findPressed_21 ?_
      refine lv_iadd hx hb dX11_findPressed_22 ?_
      obtain ⟨h23, hf⟩ := gd_some hf
      refine y_iald (o := 71) (k := ((46 : Int32) + ((3 : Int32) * x3)).toNatClampNeg) hx hb Z hw (by decide) (by omega) rfl (inB_vp h23) dX11_findPressed_23 ?_
      refine lv_iload_n hx hb dX11_findPressed_24 rfl (lv_at hl 1 rfl) ?_
      refine lv_icmp_ne (tgt := 47) hx hb dX11_findPressed_25 (by decide) (fun c25 => ?_) (fun c25 => ?_)
      · have hf := (if_neg c25).symm.trans hf
        refine lv_iinc (v := x3 + (1 : Int32)) (lv' := [(3, _), (0, _), (1, _), (2, _)]) hx hb dX11_findPressed_47 hl (k := 3) rfl rfl (by decide) rfl (fun ls hl => ?_)
        refine lv_goto (tgt := 2) hx hb dX11_findPressed_50 (by decide) ?_
        exact ih x1 x2 (x3 + (1 : Int32)) h r ls H locs (lv_sub hl [1, 2, 3, 0] rfl) hw hf
      · have hf := (if_pos c25).symm.trans hf
        refine lv_aload_n hx hb dX11_findPressed_28 rfl (lv_at hl 0 rfl) ?_
        refine z_getr (o := 70) (o2 := 71) (C := RX11) (T := TX11) (N := 11) (ci := 9) (k := 0) hx hb Z hw (by decide) (by omega) rfl inX11 (by decide) rfl wd875 dX11_findPressed_29 ?_
        refine lv_bipush (v := (46 : Int32)) hx hb dX11_findPressed_32 (by decide) ?_
        refine lv_iconst (v := (3 : Int32)) hx hb dX11_findPressed_34 (by decide) ?_
        refine lv_iload_n hx hb dX11_findPressed_35 rfl (lv_at hl 3 rfl) ?_
        refine lv_imul hx hb dX11_findPressed_36 ?_
        refine lv_iadd hx hb dX11_findPressed_37 ?_
        refine lv_iconst (v := (1 : Int32)) hx hb dX11_findPressed_38 (by decide) ?_
        refine lv_iadd hx hb dX11_findPressed_39 ?_
        obtain ⟨h40, hf⟩ := gd_some hf
        refine y_iald (o := 71) (k := (((46 : Int32) + ((3 : Int32) * x3)) + (1 : Int32)).toNatClampNeg) hx hb Z hw (by decide) (by omega) rfl (inB_vp h40) dX11_findPressed_40 ?_
        refine lv_iload_n hx hb dX11_findPressed_41 rfl (lv_at hl 2 rfl) ?_
        refine lv_icmp_ne (tgt := 47) hx hb dX11_findPressed_42 (by decide) (fun c42 => ?_) (fun c42 => ?_)
        · have hf := (if_neg c42).symm.trans hf
          refine lv_iinc (v := x3 + (1 : Int32)) (lv' := [(3, _), (0, _), (1, _), (2, _)]) hx hb dX11_findPressed_47 hl (k := 3) rfl rfl (by decide) rfl (fun ls hl => ?_)
          refine lv_goto (tgt := 2) hx hb dX11_findPressed_50 (by decide) ?_
          exact ih x1 x2 (x3 + (1 : Int32)) h r ls H locs (lv_sub hl [1, 2, 3, 0] rfl) hw hf
        · have hf := (if_pos c42).symm.trans hf
          refine lv_iload_n hx hb dX11_findPressed_45 rfl (lv_at hl 3 rfl) ?_
          obtain rfl := Option.some.inj hf
          exact z_iret hx hb hr hlk hw dX11_findPressed_46
set_option maxHeartbeats 4000000 in
set_option maxRecDepth 100000 in
theorem t_X11_findPressed (G : GM) (l : Launch) (hN : 77 ≤ gN G) (x1 : Int32) (x2 : Int32) (h : HP) {r : Int32} (hf : f_X11_findPressed x1 x2 h = some r) : MC G l yX11_findPressed cX11_findPressed 4 (some .int) 0 [.ref (ra G 70), .int x1, .int x2] h h (some (.int r)) := by
  unfold f_X11_findPressed at hf
  refine z_start (by decide) (Nat.le_of_ble_eq_true rfl) ?_
  intro p e s m args below meth c ls hx hb hr hlk hml Z hw hl
  have Z : ZK G s args m RX11 := Z
  have hl : lv_has ls 4 [(0, .ref (ra G 70)), (1, .int x1), (2, .int x2)] := hl
  obtain ⟨H, hH⟩ : ∃ H, H = s.heap := ⟨_, rfl⟩
  rw [← hH] at hw ⊢
  obtain ⟨locs, hlc⟩ : ∃ locs : List Loc, locs = [] := ⟨_, rfl⟩
  rw [← hlc] at hw ⊢
  refine lv_iconst (v := (0 : Int32)) hx hb dX11_findPressed_0 (by decide) ?_
  refine lv_istore_n (lv' := [(3, _), (0, _), (1, _), (2, _)]) hx hb dX11_findPressed_1 rfl hl (by decide) rfl (fun ls hl => ?_)
  exact w_X11_findPressed_L2 G l hN  hx hb hr hlk hml Z FU x1 x2 (0 : Int32) h _ ls H locs (lv_sub hl [1, 2, 3, 0] rfl) hw hf
