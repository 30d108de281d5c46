/-! walks (by program) -/
set_option maxHeartbeats 4000000 in
set_option maxRecDepth 100000 in
theorem t_X11_isNext (G : GM) (l : Launch) (hN : 77 ≤ gN G) (x1 : Int32) (h : HP) {r : Int32} (hf : f_X11_isNext x1 h = some r) : MC G l yX11_isNext cX11_isNext 2 (some .boolean) 0 [.ref (ra G 70), .int x1] h h (some (.int r)) := by
  unfold f_X11_isNext at hf
  refine z_start (by decide) (Nat.le_of_ble_eq_true rfl) ?_
  intro p e s m args below meth c ls hx hb hr hlk hml Z hw hl
  have Z : ZK G s args m RX11 := Z
  have hl : lv_has ls 2 [(0, .ref (ra G 70)), (1, .int x1)] := hl
  obtain ⟨H, hH⟩ : ∃ H, H = s.heap := ⟨_, rfl⟩
  rw [← hH] at hw ⊢
  obtain ⟨locs, hlc⟩ : ∃ locs : List Loc, locs = [] := ⟨_, rfl⟩
  rw [← hlc] at hw ⊢
  refine lv_aload_n hx hb dX11_isNext_0 rfl (lv_at hl 0 rfl) ?_
  refine z_geti (o := 70) (C := RX11) (T := TX11) (N := 11) (ci := 9) (k := 10) hx hb Z hw (by decide) (by omega) rfl inX11 (by decide) wd885 dX11_isNext_1 ?_
  refine lv_if_ne (tgt := 35) hx hb dX11_isNext_4 (by decide) (fun c4 => ?_) (fun c4 => ?_)
  · have hf := (if_neg c4).symm.trans hf
    refine lv_iconst (v := (0 : Int32)) hx hb dX11_isNext_35 (by decide) ?_
    obtain rfl := Option.some.inj hf
    exact z_zret hx hb hr rfl hlk hw dX11_isNext_36
  · have hf := (if_pos c4).symm.trans hf
    refine lv_aload_n hx hb dX11_isNext_7 rfl (lv_at hl 0 rfl) ?_
    refine z_geti (o := 70) (C := RX11) (T := TX11) (N := 11) (ci := 9) (k := 9) hx hb Z hw (by decide) (by omega) rfl inX11 (by decide) wd884 dX11_isNext_8 ?_
    refine lv_aload_n hx hb dX11_isNext_11 rfl (lv_at hl 0 rfl) ?_
    refine z_geti (o := 70) (C := RX11) (T := TX11) (N := 11) (ci := 9) (k := 7) hx hb Z hw (by decide) (by omega) rfl inX11 (by decide) wd882 dX11_isNext_12 ?_
    refine lv_icmp_ge (tgt := 35) hx hb dX11_isNext_15 (by decide) (fun c15 => ?_) (fun c15 => ?_)
    · have hf := (if_pos c15).symm.trans hf
      refine lv_iconst (v := (0 : Int32)) hx hb dX11_isNext_35 (by decide) ?_
      obtain rfl := Option.some.inj hf
      exact z_zret hx hb hr rfl hlk hw dX11_isNext_36
    · have hf := (if_neg c15).symm.trans hf
      refine lv_aload_n hx hb dX11_isNext_18 rfl (lv_at hl 0 rfl) ?_
      refine z_getr (o := 70) (o2 := 75) (C := RX11) (T := TX11) (N := 11) (ci := 9) (k := 6) hx hb Z hw (by decide) (by omega) rfl inX11 (by decide) rfl wd881 dX11_isNext_19 ?_
      refine lv_aload_n hx hb dX11_isNext_22 rfl (lv_at hl 0 rfl) ?_
      refine z_geti (o := 70) (C := RX11) (T := TX11) (N := 11) (ci := 9) (k := 9) hx hb Z hw (by decide) (by omega) rfl inX11 (by decide) wd884 dX11_isNext_23 ?_
      obtain ⟨h26, hf⟩ := gd_some hf
      refine y_iald (o := 75) (k := (h 70 9).toNatClampNeg) hx hb Z hw (by decide) (by omega) rfl (inB_vp h26) dX11_isNext_26 ?_
      refine lv_iload_n hx hb dX11_isNext_27 rfl (lv_at hl 1 rfl) ?_
      refine lv_icmp_ne (tgt := 35) hx hb dX11_isNext_28 (by decide) (fun c28 => ?_) (fun c28 => ?_)
      · have hf := (if_neg c28).symm.trans hf
        refine lv_iconst (v := (0 : Int32)) hx hb dX11_isNext_35 (by decide) ?_
        obtain rfl := Option.some.inj hf
        exact z_zret hx hb hr rfl hlk hw dX11_isNext_36
      · have hf := (if_pos c28).symm.trans hf
        refine lv_iconst (v := (1 : Int32)) hx hb dX11_isNext_31 (by decide) ?_
        refine lv_goto (tgt := 36) hx hb dX11_isNext_32 (by decide) ?_
        obtain rfl := Option.some.inj hf
        exact z_zret hx hb hr rfl hlk hw dX11_isNext_36
set_option maxHeartbeats 4000000 in
set_option maxRecDepth 100000 in
theorem t_X11_signs (G : GM) (l : Launch) (hN : 77 ≤ gN G) (x1 : Int32) (x2 : Int32) (x3 : Int32) (x4 : Int32) (h : HP) {h' : HP} (hf : f_X11_signs x1 x2 x3 x4 h = some h') : MC G l yX11_signs cX11_signs 9 none 2 [.ref (ra G 70), .int x1, .int x2, .int x3, .int x4] h h' none := by
  unfold f_X11_signs at hf
  refine z_start (by decide) (Nat.le_of_ble_eq_true rfl) ?_
  intro p e s m args below meth c ls hx hb hr hlk hml Z hw hl
  have Z : ZK G s args m RX11 := Z
  have hl : lv_has ls 9 [(0, .ref (ra G 70)), (1, .int x1), (2, .int x2), (3, .int x3), (4, .int x4)] := hl
  obtain ⟨H, hH⟩ : ∃ H, H = s.heap := ⟨_, rfl⟩
  rw [← hH] at hw ⊢
  obtain ⟨locs, hlc⟩ : ∃ locs : List Loc, locs = [] := ⟨_, rfl⟩
  rw [← hlc] at hw ⊢
  refine lv_aload_n hx hb dX11_signs_0 rfl (lv_at hl 0 rfl) ?_
  refine lv_iload_n hx hb dX11_signs_1 rfl (lv_at hl 1 rfl) ?_
  refine lv_iload_n hx hb dX11_signs_2 rfl (lv_at hl 1 rfl) ?_
  obtain ⟨q3, hq3, hf⟩ := ob_some hf
  refine z_callVi (o := 70) (ci := 9) (As := [.int x1, .int x1]) (rest := []) (t_X11_sign G l hN x1 x1 h hq3) cv_X11_sign hx hb hml hl.1 Z hw (by decide) (by decide) (by omega) rfl rfl wd1056 rfl rfl (Nat.le_of_ble_eq_true rfl) (by decide) dX11_signs_3 (fun H locs hw => ?_)
  refine lv_istore (lv' := [(5, _), (0, _), (1, _), (2, _), (3, _), (4, _)]) hx hb dX11_signs_6 hl (by decide) rfl (fun ls hl => ?_)
  refine lv_aload_n hx hb dX11_signs_8 rfl (lv_at hl 1 rfl) ?_
  refine lv_iload_n hx hb dX11_signs_9 rfl (lv_at hl 3 rfl) ?_
  refine lv_iload_n hx hb dX11_signs_10 rfl (lv_at hl 3 rfl) ?_
  obtain ⟨q11, hq11, hf⟩ := ob_some hf
  refine z_callVi (o := 70) (ci := 9) (As := [.int x2, .int x2]) (rest := []) (t_X11_sign G l hN x2 x2 q3.2 hq11) cv_X11_sign hx hb hml hl.1 Z hw (by decide) (by decide) (by omega) rfl rfl wd1056 rfl rfl (Nat.le_of_ble_eq_true rfl) (by decide) dX11_signs_11 (fun H locs hw => ?_)
  refine lv_istore (lv' := [(6, _), (5, _), (0, _), (1, _), (2, _), (3, _), (4, _)]) hx hb dX11_signs_14 hl (by decide) rfl (fun ls hl => ?_)
  refine lv_iload_n hx hb dX11_signs_16 rfl (lv_at hl 5 rfl) ?_
  obtain ⟨j17, hqj17, hf⟩ := ob_some hf
  have HJ30 : ∀ (ls : Array Slot) (H : Heap) (locs : List Loc), lv_has ls 9 [(0, .ref (ra G 70)), (4, .int x4)] → HW G j17.2 s H locs → WZ p l e 2 s m args below meth c G none h' H locs (F0 m 30 ls [.int j17.1]) := by
    intro ls H locs hl hw
    refine lv_istore (lv' := [(7, _), (0, _), (4, _)]) hx hb dX11_signs_30 hl (by decide) rfl (fun ls hl => ?_)
    refine lv_iload hx hb dX11_signs_32 (lv_at hl 2 rfl) ?_
    refine lv_if_ne (tgt := 41) hx hb dX11_signs_34 (by decide) (fun c34 => ?_) (fun c34 => ?_)
    · have hf := (if_neg c34).symm.trans hf
      refine lv_aload_n hx hb dX11_signs_41 rfl (lv_at hl 1 rfl) ?_
      refine lv_iload hx hb dX11_signs_42 (lv_at hl 2 rfl) ?_
      refine lv_iload hx hb dX11_signs_44 (lv_at hl 2 rfl) ?_
      obtain ⟨q46, hq46, hf⟩ := ob_some hf
      refine z_callVi (o := 70) (ci := 9) (As := [.int x4, .int x4]) (rest := []) (t_X11_sign G l hN x4 x4 j17.2 hq46) cv_X11_sign hx hb hml hl.1 Z hw (by decide) (by decide) (by omega) rfl rfl wd1056 rfl rfl (Nat.le_of_ble_eq_true rfl) (by decide) dX11_signs_46 (fun H locs hw => ?_)
      refine lv_istore (lv' := [(8, _), (7, _), (0, _), (4, _)]) hx hb dX11_signs_49 hl (by decide) rfl (fun ls hl => ?_)
      obtain rfl := Option.some.inj hf
      exact z_vret hx hb hr hlk hw dX11_signs_51
    · have hf := (if_pos c34).symm.trans hf
      refine lv_iconst (v := (0 : Int32)) hx hb dX11_signs_37 (by decide) ?_
      refine lv_goto (tgt := 49) hx hb dX11_signs_38 (by decide) ?_
      refine lv_istore (lv' := [(8, _), (7, _), (0, _), (4, _)]) hx hb dX11_signs_49 hl (by decide) rfl (fun ls hl => ?_)
      obtain rfl := Option.some.inj hf
      exact z_vret hx hb hr hlk hw dX11_signs_51
  have hf := hqj17
  refine lv_if_ne (tgt := 24) hx hb dX11_signs_17 (by decide) (fun c17 => ?_) (fun c17 => ?_)
  · have hf := (if_neg c17).symm.trans hf
    refine lv_aload_n hx hb dX11_signs_24 rfl (lv_at hl 2 rfl) ?_
    refine lv_iload_n hx hb dX11_signs_25 rfl (lv_at hl 5 rfl) ?_
    refine lv_iload_n hx hb dX11_signs_26 rfl (lv_at hl 5 rfl) ?_
    obtain ⟨q27, hq27, hf⟩ := ob_some hf
    refine z_callVi (o := 70) (ci := 9) (As := [.int x3, .int x3]) (rest := []) (t_X11_sign G l hN x3 x3 q11.2 hq27) cv_X11_sign hx hb hml hl.1 Z hw (by decide) (by decide) (by omega) rfl rfl wd1056 rfl rfl (Nat.le_of_ble_eq_true rfl) (by decide) dX11_signs_27 (fun H locs hw => ?_)
    obtain rfl := Option.some.inj hf
    exact HJ30 ls H locs (lv_sub hl [2, 6] rfl) hw
  · have hf := (if_pos c17).symm.trans hf
    refine lv_iconst (v := (0 : Int32)) hx hb dX11_signs_20 (by decide) ?_
    refine lv_goto (tgt := 30) hx hb dX11_signs_21 (by decide) ?_
    obtain rfl := Option.some.inj hf
    exact HJ30 ls H locs (lv_sub hl [2, 6] rfl) hw
set_option maxHeartbeats 4000000 in
set_option maxRecDepth 100000 in
theorem w_X11_number_L14 (G : GM) (l : Launch) (hN : 77 ≤ gN G)  {p : Program} {e : Env} {s : State} {m : MethodId} {args : Array Value} {below : List Frame} {meth : Method} {c : Code} (hx : p.tables.exec = Jvm.exec) (hb : c.code = cX11_number) (hr : meth.sig.returnType = (some .int)) (hlk : meth.locks = false) (hml : c.maxLocals = 4) (Z : ZK G s args m RX11) : ∀ (n : Nat) (x2 : Int32) (x3 : Int32)  (h : HP)  (rv : Option Value) (hq : HP) (ls : Array Slot) (H : Heap) (locs : List Loc) {q : Int32 × HP}, lv_has ls 4 [(0, .ref (ra G 70)), (2, .int x2), (3, .int x3)] → HW G h s H locs → f_X11_number_L14 n x2 x3 h = some q → (∀ (ls : Array Slot) (H : Heap) (locs : List Loc), lv_has ls 4 [(3, .int q.1)] → HW G q.2 s H locs → WZ p l e 2 s m args below meth c G rv hq H locs (F0 m 107 ls [])) → WZ p l e 2 s m args below meth c G rv hq H locs (F0 m 14 ls []) := by
  intro n
  induction n with
  | zero => intro x2 x3  h  rv hq ls H locs q hl hw hf kk; cases hf
  | succ n ih =>
    intro x2 x3  h  rv hq ls H locs q hl hw hf kk
    rw [f_X11_number_L14] at hf
    refine lv_iload_n hx hb dX11_number_14 rfl (lv_at hl 2 rfl) ?_
    refine lv_if_le (tgt := 107) hx hb dX11_number_15 (by decide) (fun c15 => ?_) (fun c15 => ?_)
    · have hf := (if_pos c15).symm.trans hf
      obtain rfl := Option.some.inj hf
      exact kk ls H locs (lv_sub hl [2] rfl) hw
    · have hf := (if_neg c15).symm.trans hf
      refine lv_aload_n hx hb dX11_number_18 rfl (lv_at hl 0 rfl) ?_
      refine z_geti (o := 70) (C := RX11) (T := TX11) (N := 11) (ci := 9) (k := 10) hx hb Z hw (by decide) (by omega) rfl inX11 (by decide) wd885 dX11_number_19 ?_
      refine lv_if_ne (tgt := 107) hx hb dX11_number_22 (by decide) (fun c22 => ?_) (fun c22 => ?_)
      · have hf := (if_neg c22).symm.trans hf
        obtain rfl := Option.some.inj hf
        exact kk ls H locs (lv_sub hl [2] rfl) hw
      · have hf := (if_pos c22).symm.trans hf
        refine lv_aload_n hx hb dX11_number_25 rfl (lv_at hl 0 rfl) ?_
        refine z_geti (o := 70) (C := RX11) (T := TX11) (N := 11) (ci := 9) (k := 9) hx hb Z hw (by decide) (by omega) rfl inX11 (by decide) wd884 dX11_number_26 ?_
        refine lv_aload_n hx hb dX11_number_29 rfl (lv_at hl 0 rfl) ?_
        refine z_geti (o := 70) (C := RX11) (T := TX11) (N := 11) (ci := 9) (k := 7) hx hb Z hw (by decide) (by omega) rfl inX11 (by decide) wd882 dX11_number_30 ?_
        refine lv_icmp_ge (tgt := 107) hx hb dX11_number_33 (by decide) (fun c33 => ?_) (fun c33 => ?_)
        · have hf := (if_pos c33).symm.trans hf
          obtain rfl := Option.some.inj hf
          exact kk ls H locs (lv_sub hl [2] rfl) hw
        · have hf := (if_neg c33).symm.trans hf
          refine lv_aload_n hx hb dX11_number_36 rfl (lv_at hl 0 rfl) ?_
          refine z_getr (o := 70) (o2 := 75) (C := RX11) (T := TX11) (N := 11) (ci := 9) (k := 6) hx hb Z hw (by decide) (by omega) rfl inX11 (by decide) rfl wd881 dX11_number_37 ?_
          refine lv_aload_n hx hb dX11_number_40 rfl (lv_at hl 0 rfl) ?_
          refine z_geti (o := 70) (C := RX11) (T := TX11) (N := 11) (ci := 9) (k := 9) hx hb Z hw (by decide) (by omega) rfl inX11 (by decide) wd884 dX11_number_41 ?_
          obtain ⟨h44, hf⟩ := gd_some hf
          refine y_iald (o := 75) (k := (h 70 9).toNatClampNeg) hx hb Z hw (by decide) (by omega) rfl (inB_vp h44) dX11_number_44 ?_
          refine lv_bipush (v := (48 : Int32)) hx hb dX11_number_45 (by decide) ?_
          refine lv_bipush (v := (57 : Int32)) hx hb dX11_number_47 (by decide) ?_
          refine z_callSi (As := [.int (h 75 (h 70 9).toNatClampNeg), .int (48 : Int32), .int (57 : Int32)]) (rest := []) (t_X11_in G l hN (h 75 (h 70 9).toNatClampNeg) (48 : Int32) (57 : Int32) h) cs_X11_in hx hb hml hl.1 Z hw wd934 rfl rfl (Nat.le_of_ble_eq_true rfl) (by decide) dX11_number_49 (fun H locs hw => ?_)
          refine lv_if_eq (tgt := 107) hx hb dX11_number_52 (by decide) (fun c52 => ?_) (fun c52 => ?_)
          · have hf := (if_pos c52).symm.trans hf
            obtain rfl := Option.some.inj hf
            exact kk ls H locs (lv_sub hl [2] rfl) hw
          · have hf := (if_neg c52).symm.trans hf
            refine lv_bipush (v := (10 : Int32)) hx hb dX11_number_55 (by decide) ?_
            refine lv_iload_n hx hb dX11_number_57 rfl (lv_at hl 2 rfl) ?_
            refine lv_imul hx hb dX11_number_58 ?_
            refine lv_aload_n hx hb dX11_number_59 rfl (lv_at hl 0 rfl) ?_
            refine z_getr (o := 70) (o2 := 75) (C := RX11) (T := TX11) (N := 11) (ci := 9) (k := 6) hx hb Z hw (by decide) (by omega) rfl inX11 (by decide) rfl wd881 dX11_number_60 ?_
            refine lv_aload_n hx hb dX11_number_63 rfl (lv_at hl 0 rfl) ?_
            refine z_geti (o := 70) (C := RX11) (T := TX11) (N := 11) (ci := 9) (k := 9) hx hb Z hw (by decide) (by omega) rfl inX11 (by decide) wd884 dX11_number_64 ?_
            obtain ⟨h67, hf⟩ := gd_some hf
            refine y_iald (o := 75) (k := (h 70 9).toNatClampNeg) hx hb Z hw (by decide) (by omega) rfl (inB_vp h67) dX11_number_67 ?_
            refine lv_iadd hx hb dX11_number_68 ?_
            refine lv_bipush (v := (48 : Int32)) hx hb dX11_number_69 (by decide) ?_
            refine lv_isub hx hb dX11_number_71 ?_
            refine lv_iload_n hx hb dX11_number_72 rfl (lv_at hl 1 rfl) ?_
            refine lv_icmp_gt (tgt := 107) hx hb dX11_number_73 (by decide) (fun c73 => ?_) (fun c73 => ?_)
            · have hf := (if_pos c73).symm.trans hf
              obtain rfl := Option.some.inj hf
              exact kk ls H locs (lv_sub hl [2] rfl) hw
            · have hf := (if_neg c73).symm.trans hf
              refine lv_bipush (v := (10 : Int32)) hx hb dX11_number_76 (by decide) ?_
              refine lv_iload_n hx hb dX11_number_78 rfl (lv_at hl 2 rfl) ?_
              refine lv_imul hx hb dX11_number_79 ?_
              refine lv_aload_n hx hb dX11_number_80 rfl (lv_at hl 0 rfl) ?_
              refine z_getr (o := 70) (o2 := 75) (C := RX11) (T := TX11) (N := 11) (ci := 9) (k := 6) hx hb Z hw (by decide) (by omega) rfl inX11 (by decide) rfl wd881 dX11_number_81 ?_
              refine lv_aload_n hx hb dX11_number_84 rfl (lv_at hl 0 rfl) ?_
              refine z_geti (o := 70) (C := RX11) (T := TX11) (N := 11) (ci := 9) (k := 9) hx hb Z hw (by decide) (by omega) rfl inX11 (by decide) wd884 dX11_number_85 ?_
              obtain ⟨h88, hf⟩ := gd_some hf
              refine y_iald (o := 75) (k := (h 70 9).toNatClampNeg) hx hb Z hw (by decide) (by omega) rfl (inB_vp h88) dX11_number_88 ?_
              refine lv_iadd hx hb dX11_number_89 ?_
              refine lv_bipush (v := (48 : Int32)) hx hb dX11_number_90 (by decide) ?_
              refine lv_isub hx hb dX11_number_92 ?_
              obtain ⟨v93, hqv93, hf⟩ := tb_ex hf
              refine z_top hqv93 ?_
              refine lv_istore_n (lv' := [(3, _), (0, _), (2, _)]) hx hb dX11_number_93 rfl hl (by decide) rfl (fun ls hl => ?_)
              refine lv_aload_n hx hb dX11_number_94 rfl (lv_at hl 1 rfl) ?_
              refine lv_dup hx hb dX11_number_95 rfl ?_
              refine z_geti (o := 70) (C := RX11) (T := TX11) (N := 11) (ci := 9) (k := 9) hx hb Z hw (by decide) (by omega) rfl inX11 (by decide) wd884 dX11_number_96 ?_
              refine lv_iconst (v := (1 : Int32)) hx hb dX11_number_99 (by decide) ?_
              refine lv_iadd hx hb dX11_number_100 ?_
              refine z_puti (o := 70) (v := (h 70 9) + (1 : Int32)) (ty := .int) (C := RX11) (T := TX11) (N := 11) (ci := 9) (k := 9) hx hb Z hw (by decide) (by omega) rfl inX11 tyX11 tyX11_ok nmX11 (by decide) wd884 rfl (by decide +kernel) rfl rfl dX11_number_101 (fun H locs hw => ?_)
              refine lv_goto (tgt := 14) hx hb dX11_number_104 (by decide) ?_
              exact ih x2 v93 (hset h 70 9 ((h 70 9) + (1 : Int32)))  rv hq ls H locs (lv_sub hl [1, 2, 0] rfl) hw hf kk
set_option maxHeartbeats 4000000 in
set_option maxRecDepth 100000 in
theorem t_X11_number (G : GM) (l : Launch) (hN : 77 ≤ gN G) (x1 : Int32) (x2 : Int32) (h : HP) {r : Int32} {h' : HP} (hf : f_X11_number x1 x2 h = some (r, h')) : MC G l yX11_number cX11_number 4 (some .int) 2 [.ref (ra G 70), .int x1, .int x2] h h' (some (.int r)) := by
  unfold f_X11_number at hf
  refine z_start (by decide) (Nat.le_of_ble_eq_true rfl) ?_
  intro p e s m args below meth c ls hx hb hr hlk hml Z hw hl
  have Z : ZK G s args m RX11 := Z
  have hl : lv_has ls 4 [(0, .ref (ra G 70)), (1, .int x1), (2, .int x2)] := hl
  obtain ⟨H, hH⟩ : ∃ H, H = s.heap := ⟨_, rfl⟩
  rw [← hH] at hw ⊢
  obtain ⟨locs, hlc⟩ : ∃ locs : List Loc, locs = [] := ⟨_, rfl⟩
  rw [← hlc] at hw ⊢
  refine lv_aload_n hx hb dX11_number_0 rfl (lv_at hl 0 rfl) ?_
  refine lv_bipush (v := (48 : Int32)) hx hb dX11_number_1 (by decide) ?_
  refine lv_iload_n hx hb dX11_number_3 rfl (lv_at hl 1 rfl) ?_
  refine lv_iadd hx hb dX11_number_4 ?_
  refine lv_bipush (v := (57 : Int32)) hx hb dX11_number_5 (by decide) ?_
  obtain ⟨q7, hq7, hf⟩ := ob_some hf
  refine z_callVi (o := 70) (ci := 9) (As := [.int ((48 : Int32) + x1), .int (57 : Int32)]) (rest := []) (t_X11_sign G l hN ((48 : Int32) + x1) (57 : Int32) h hq7) cv_X11_sign hx hb hml hl.1 Z hw (by decide) (by decide) (by omega) rfl rfl wd1056 rfl rfl (Nat.le_of_ble_eq_true rfl) (by decide) dX11_number_7 (fun H locs hw => ?_)
  refine lv_bipush (v := (48 : Int32)) hx hb dX11_number_10 (by decide) ?_
  refine lv_isub hx hb dX11_number_12 ?_
  refine lv_istore_n (lv' := [(3, _), (0, _), (1, _), (2, _)]) hx hb dX11_number_13 rfl hl (by decide) rfl (fun ls hl => ?_)
  obtain ⟨q14, hq14, hf⟩ := ob_some hf
  refine w_X11_number_L14 G l hN  hx hb hr hlk hml Z FU x2 (q7.1 - (48 : Int32)) q7.2  _ _ ls H locs (lv_sub hl [1, 3, 0] rfl) hw hq14 (fun ls H locs hl hw => ?_)
  refine lv_iload_n hx hb dX11_number_107 rfl (lv_at hl 0 rfl) ?_
  obtain ⟨rfl, rfl⟩ := Prod.mk.inj (Option.some.inj hf)
  exact z_iret hx hb hr hlk hw dX11_number_108
set_option maxHeartbeats 4000000 in
set_option maxRecDepth 100000 in
theorem t_X11_behind (G : GM) (l : Launch) (hN : 77 ≤ gN G) (x1 : Int32) (x2 : Int32) (x3 : Int32) (h : HP) {r : Int32} {h' : HP} (hf : f_X11_behind x1 x2 x3 h = some (r, h')) : MC G l yX11_behind cX11_behind 5 (some .int) 3 [.ref (ra G 70), .int x1, .int x2, .int x3] h h' (some (.int r)) := by
  unfold f_X11_behind at hf
  refine z_start (by decide) (Nat.le_of_ble_eq_true rfl) ?_
  intro p e s m args below meth c ls hx hb hr hlk hml Z hw hl
  have Z : ZK G s args m RX11 := Z
  have hl : lv_has ls 5 [(0, .ref (ra G 70)), (1, .int x1), (2, .int x2), (3, .int x3)] := hl
  obtain ⟨H, hH⟩ : ∃ H, H = s.heap := ⟨_, rfl⟩
  rw [← hH] at hw ⊢
  obtain ⟨locs, hlc⟩ : ∃ locs : List Loc, locs = [] := ⟨_, rfl⟩
  rw [← hlc] at hw ⊢
  refine lv_aload_n hx hb dX11_behind_0 rfl (lv_at hl 0 rfl) ?_
  refine lv_iload_n hx hb dX11_behind_1 rfl (lv_at hl 1 rfl) ?_
  refine lv_iload_n hx hb dX11_behind_2 rfl (lv_at hl 1 rfl) ?_
  obtain ⟨q3, hq3, hf⟩ := ob_some hf
  refine z_callVi (o := 70) (ci := 9) (As := [.int x1, .int x1]) (rest := []) (t_X11_sign G l hN x1 x1 h hq3) cv_X11_sign hx hb hml hl.1 Z hw (by decide) (by decide) (by omega) rfl rfl wd1056 rfl rfl (Nat.le_of_ble_eq_true rfl) (by decide) dX11_behind_3 (fun H locs hw => ?_)
  refine lv_istore (lv' := [(4, _), (0, _), (1, _), (2, _), (3, _)]) hx hb dX11_behind_6 hl (by decide) rfl (fun ls hl => ?_)
  refine lv_aload_n hx hb dX11_behind_8 rfl (lv_at hl 1 rfl) ?_
  refine lv_iload_n hx hb dX11_behind_9 rfl (lv_at hl 3 rfl) ?_
  refine lv_iload_n hx hb dX11_behind_10 rfl (lv_at hl 4 rfl) ?_
  obtain ⟨q11, hq11, hf⟩ := ob_some hf
  refine z_callVi (o := 70) (ci := 9) (As := [.int x2, .int x3]) (rest := []) (t_X11_number G l hN x2 x3 q3.2 hq11) cv_X11_number hx hb hml hl.1 Z hw (by decide) (by decide) (by omega) rfl rfl wd1068 rfl rfl (Nat.le_of_ble_eq_true rfl) (by decide) dX11_behind_11 (fun H locs hw => ?_)
  obtain ⟨rfl, rfl⟩ := Prod.mk.inj (Option.some.inj hf)
  exact z_iret hx hb hr hlk hw dX11_behind_14
set_option maxHeartbeats 4000000 in
set_option maxRecDepth 100000 in
theorem t_X11_orderOfS (G : GM) (l : Launch) (hN : 77 ≤ gN G) (x1 : Int32) (h : HP) {r : Int32} {h' : HP} (hf : f_X11_orderOfS x1 h = some (r, h')) : MC G l yX11_orderOfS cX11_orderOfS 6 (some .int) 4 [.ref (ra G 70), .int x1] h h' (some (.int r)) := by
  unfold f_X11_orderOfS at hf
  refine z_start (by decide) (Nat.le_of_ble_eq_true rfl) ?_
  intro p e s m args below meth c ls hx hb hr hlk hml Z hw hl
  have Z : ZK G s args m RX11 := Z
  have hl : lv_has ls 6 [(0, .ref (ra G 70)), (1, .int x1)] := hl
  obtain ⟨H, hH⟩ : ∃ H, H = s.heap := ⟨_, rfl⟩
  rw [← hH] at hw ⊢
  obtain ⟨locs, hlc⟩ : ∃ locs : List Loc, locs = [] := ⟨_, rfl⟩
  rw [← hlc] at hw ⊢
  refine lv_aload_n hx hb dX11_orderOfS_0 rfl (lv_at hl 0 rfl) ?_
  refine lv_bipush (v := (99 : Int32)) hx hb dX11_orderOfS_1 (by decide) ?_
  obtain ⟨q3, hq3, hf⟩ := ob_some hf
  refine z_callVi (o := 70) (ci := 9) (As := [.int (99 : Int32)]) (rest := []) (t_X11_isNext G l hN (99 : Int32) h hq3) cv_X11_isNext hx hb hml hl.1 Z hw (by decide) (by decide) (by omega) rfl rfl wd1052 rfl rfl (Nat.le_of_ble_eq_true rfl) (by decide) dX11_orderOfS_3 (fun H locs hw => ?_)
  refine lv_if_eq (tgt := 93) hx hb dX11_orderOfS_6 (by decide) (fun c6 => ?_) (fun c6 => ?_)
  · have hf := (if_pos c6).symm.trans hf
    refine lv_aload_n hx hb dX11_orderOfS_93 rfl (lv_at hl 0 rfl) ?_
    refine lv_bipush (v := (101 : Int32)) hx hb dX11_orderOfS_94 (by decide) ?_
    refine lv_bipush (v := (101 : Int32)) hx hb dX11_orderOfS_96 (by decide) ?_
    refine lv_bipush (v := (107 : Int32)) hx hb dX11_orderOfS_98 (by decide) ?_
    refine lv_bipush (v := (61 : Int32)) hx hb dX11_orderOfS_100 (by decide) ?_
    obtain ⟨q102, hq102, hf⟩ := ob_some hf
    refine z_callVv (o := 70) (ci := 9) (As := [.int (101 : Int32), .int (101 : Int32), .int (107 : Int32), .int (61 : Int32)]) (rest := []) (t_X11_signs G l hN (101 : Int32) (101 : Int32) (107 : Int32) (61 : Int32) h hq102) cv_X11_signs hx hb hml hl.1 Z hw (by decide) (by decide) (by omega) rfl rfl wd1064 rfl rfl (Nat.le_of_ble_eq_true rfl) (by decide) dX11_orderOfS_102 (fun H locs hw => ?_)
    refine lv_aload_n hx hb dX11_orderOfS_105 rfl (lv_at hl 0 rfl) ?_
    refine lv_iconst (v := (0 : Int32)) hx hb dX11_orderOfS_106 (by decide) ?_
    refine lv_sipush (v := (9999 : Int32)) hx hb dX11_orderOfS_107 (by decide) ?_
    obtain ⟨q110, hq110, hf⟩ := ob_some hf
    refine z_callVi (o := 70) (ci := 9) (As := [.int (0 : Int32), .int (9999 : Int32)]) (rest := []) (t_X11_number G l hN (0 : Int32) (9999 : Int32) q102 hq110) cv_X11_number hx hb hml hl.1 Z hw (by decide) (by decide) (by omega) rfl rfl wd1068 rfl rfl (Nat.le_of_ble_eq_true rfl) (by decide) dX11_orderOfS_110 (fun H locs hw => ?_)
    refine lv_istore_n (lv' := [(2, _), (0, _), (1, _)]) hx hb dX11_orderOfS_113 rfl hl (by decide) rfl (fun ls hl => ?_)
    refine lv_iload_n hx hb dX11_orderOfS_114 rfl (lv_at hl 2 rfl) ?_
    refine lv_if_eq (tgt := 126) hx hb dX11_orderOfS_115 (by decide) (fun c115 => ?_) (fun c115 => ?_)
    · have hf := (if_pos c115).symm.trans hf
      refine lv_iconst (v := (0 : Int32)) hx hb dX11_orderOfS_126 (by decide) ?_
      obtain ⟨rfl, rfl⟩ := Prod.mk.inj (Option.some.inj hf)
      exact z_iret hx hb hr hlk hw dX11_orderOfS_127
    · have hf := (if_neg c115).symm.trans hf
      refine lv_aload_n hx hb dX11_orderOfS_118 rfl (lv_at hl 1 rfl) ?_
      refine lv_iload_n hx hb dX11_orderOfS_119 rfl (lv_at hl 0 rfl) ?_
      obtain ⟨q120, hq120, hf⟩ := ob_some hf
      refine z_callVi (o := 70) (ci := 9) (As := [.int q110.1]) (rest := []) (t_X11_seeks G l hN q110.1 q110.2 hq120) cv_X11_seeks hx hb hml hl.1 Z hw (by decide) (by decide) (by omega) rfl rfl wd1028 rfl rfl (Nat.le_of_ble_eq_true rfl) (by decide) dX11_orderOfS_120 (fun H locs hw => ?_)
      refine lv_goto (tgt := 127) hx hb dX11_orderOfS_123 (by decide) ?_
      obtain ⟨rfl, rfl⟩ := Prod.mk.inj (Option.some.inj hf)
      exact z_iret hx hb hr hlk hw dX11_orderOfS_127
  · have hf := (if_neg c6).symm.trans hf
    refine lv_aload_n hx hb dX11_orderOfS_9 rfl (lv_at hl 0 rfl) ?_
    refine lv_bipush (v := (99 : Int32)) hx hb dX11_orderOfS_10 (by decide) ?_
    refine lv_bipush (v := (114 : Int32)) hx hb dX11_orderOfS_12 (by decide) ?_
    refine lv_bipush (v := (97 : Int32)) hx hb dX11_orderOfS_14 (by decide) ?_
    refine lv_bipush (v := (116 : Int32)) hx hb dX11_orderOfS_16 (by decide) ?_
    obtain ⟨q18, hq18, hf⟩ := ob_some hf
    refine z_callVv (o := 70) (ci := 9) (As := [.int (99 : Int32), .int (114 : Int32), .int (97 : Int32), .int (116 : Int32)]) (rest := []) (t_X11_signs G l hN (99 : Int32) (114 : Int32) (97 : Int32) (116 : Int32) h hq18) cv_X11_signs hx hb hml hl.1 Z hw (by decide) (by decide) (by omega) rfl rfl wd1064 rfl rfl (Nat.le_of_ble_eq_true rfl) (by decide) dX11_orderOfS_18 (fun H locs hw => ?_)
    refine lv_aload_n hx hb dX11_orderOfS_21 rfl (lv_at hl 0 rfl) ?_
    refine lv_bipush (v := (99 : Int32)) hx hb dX11_orderOfS_22 (by decide) ?_
    refine lv_bipush (v := (104 : Int32)) hx hb dX11_orderOfS_24 (by decide) ?_
    refine lv_bipush (v := (61 : Int32)) hx hb dX11_orderOfS_26 (by decide) ?_
    refine lv_iconst (v := (0 : Int32)) hx hb dX11_orderOfS_28 (by decide) ?_
    obtain ⟨q29, hq29, hf⟩ := ob_some hf
    refine z_callVv (o := 70) (ci := 9) (As := [.int (99 : Int32), .int (104 : Int32), .int (61 : Int32), .int (0 : Int32)]) (rest := []) (t_X11_signs G l hN (99 : Int32) (104 : Int32) (61 : Int32) (0 : Int32) q18 hq29) cv_X11_signs hx hb hml hl.1 Z hw (by decide) (by decide) (by omega) rfl rfl wd1064 rfl rfl (Nat.le_of_ble_eq_true rfl) (by decide) dX11_orderOfS_29 (fun H locs hw => ?_)
    refine lv_aload_n hx hb dX11_orderOfS_32 rfl (lv_at hl 0 rfl) ?_
    refine lv_iconst (v := (0 : Int32)) hx hb dX11_orderOfS_33 (by decide) ?_
    refine lv_sipush (v := (359 : Int32)) hx hb dX11_orderOfS_34 (by decide) ?_
    obtain ⟨q37, hq37, hf⟩ := ob_some hf
    refine z_callVi (o := 70) (ci := 9) (As := [.int (0 : Int32), .int (359 : Int32)]) (rest := []) (t_X11_number G l hN (0 : Int32) (359 : Int32) q29 hq37) cv_X11_number hx hb hml hl.1 Z hw (by decide) (by decide) (by omega) rfl rfl wd1068 rfl rfl (Nat.le_of_ble_eq_true rfl) (by decide) dX11_orderOfS_37 (fun H locs hw => ?_)
    refine lv_istore_n (lv' := [(2, _), (0, _), (1, _)]) hx hb dX11_orderOfS_40 rfl hl (by decide) rfl (fun ls hl => ?_)
    refine lv_aload_n hx hb dX11_orderOfS_41 rfl (lv_at hl 1 rfl) ?_
    refine lv_bipush (v := (45 : Int32)) hx hb dX11_orderOfS_42 (by decide) ?_
    refine lv_iconst (v := (0 : Int32)) hx hb dX11_orderOfS_44 (by decide) ?_
    refine lv_sipush (v := (359 : Int32)) hx hb dX11_orderOfS_45 (by decide) ?_
    obtain ⟨q48, hq48, hf⟩ := ob_some hf
    refine z_callVi (o := 70) (ci := 9) (As := [.int (45 : Int32), .int (0 : Int32), .int (359 : Int32)]) (rest := []) (t_X11_behind G l hN (45 : Int32) (0 : Int32) (359 : Int32) q37.2 hq48) cv_X11_behind hx hb hml hl.1 Z hw (by decide) (by decide) (by omega) rfl rfl wd1072 rfl rfl (Nat.le_of_ble_eq_true rfl) (by decide) dX11_orderOfS_48 (fun H locs hw => ?_)
    refine lv_istore_n (lv' := [(3, _), (2, _), (0, _), (1, _)]) hx hb dX11_orderOfS_51 rfl hl (by decide) rfl (fun ls hl => ?_)
    refine lv_aload_n hx hb dX11_orderOfS_52 rfl (lv_at hl 2 rfl) ?_
    refine lv_bipush (v := (64 : Int32)) hx hb dX11_orderOfS_53 (by decide) ?_
    refine lv_iconst (v := (0 : Int32)) hx hb dX11_orderOfS_55 (by decide) ?_
    refine lv_bipush (v := (29 : Int32)) hx hb dX11_orderOfS_56 (by decide) ?_
    obtain ⟨q58, hq58, hf⟩ := ob_some hf
    refine z_callVi (o := 70) (ci := 9) (As := [.int (64 : Int32), .int (0 : Int32), .int (29 : Int32)]) (rest := []) (t_X11_behind G l hN (64 : Int32) (0 : Int32) (29 : Int32) q48.2 hq58) cv_X11_behind hx hb hml hl.1 Z hw (by decide) (by decide) (by omega) rfl rfl wd1072 rfl rfl (Nat.le_of_ble_eq_true rfl) (by decide) dX11_orderOfS_58 (fun H locs hw => ?_)
    refine lv_istore (lv' := [(4, _), (3, _), (2, _), (0, _), (1, _)]) hx hb dX11_orderOfS_61 hl (by decide) rfl (fun ls hl => ?_)
    refine lv_aload_n hx hb dX11_orderOfS_63 rfl (lv_at hl 3 rfl) ?_
    refine lv_bipush (v := (45 : Int32)) hx hb dX11_orderOfS_64 (by decide) ?_
    refine lv_iconst (v := (0 : Int32)) hx hb dX11_orderOfS_66 (by decide) ?_
    refine lv_bipush (v := (29 : Int32)) hx hb dX11_orderOfS_67 (by decide) ?_
    obtain ⟨q69, hq69, hf⟩ := ob_some hf
    refine z_callVi (o := 70) (ci := 9) (As := [.int (45 : Int32), .int (0 : Int32), .int (29 : Int32)]) (rest := []) (t_X11_behind G l hN (45 : Int32) (0 : Int32) (29 : Int32) q58.2 hq69) cv_X11_behind hx hb hml hl.1 Z hw (by decide) (by decide) (by omega) rfl rfl wd1072 rfl rfl (Nat.le_of_ble_eq_true rfl) (by decide) dX11_orderOfS_69 (fun H locs hw => ?_)
    refine lv_istore (lv' := [(5, _), (4, _), (3, _), (2, _), (0, _), (1, _)]) hx hb dX11_orderOfS_72 hl (by decide) rfl (fun ls hl => ?_)
    refine lv_iload_n hx hb dX11_orderOfS_74 rfl (lv_at hl 5 rfl) ?_
    refine lv_if_eq (tgt := 91) hx hb dX11_orderOfS_75 (by decide) (fun c75 => ?_) (fun c75 => ?_)
    · have hf := (if_pos c75).symm.trans hf
      refine lv_iconst (v := (0 : Int32)) hx hb dX11_orderOfS_91 (by decide) ?_
      obtain ⟨rfl, rfl⟩ := Prod.mk.inj (Option.some.inj hf)
      exact z_iret hx hb hr hlk hw dX11_orderOfS_92
    · have hf := (if_neg c75).symm.trans hf
      refine lv_aload_n hx hb dX11_orderOfS_78 rfl (lv_at hl 4 rfl) ?_
      refine lv_iload_n hx hb dX11_orderOfS_79 rfl (lv_at hl 3 rfl) ?_
      refine lv_iload_n hx hb dX11_orderOfS_80 rfl (lv_at hl 2 rfl) ?_
      refine lv_iload hx hb dX11_orderOfS_81 (lv_at hl 1 rfl) ?_
      refine lv_iload hx hb dX11_orderOfS_83 (lv_at hl 0 rfl) ?_
      obtain ⟨q85, hq85, hf⟩ := ob_some hf
      refine z_callVi (o := 70) (ci := 9) (As := [.int q37.1, .int q48.1, .int q58.1, .int q69.1]) (rest := []) (t_X11_scratches G l hN q37.1 q48.1 q58.1 q69.1 q69.2 hq85) cv_X11_scratches hx hb hml hl.1 Z hw (by decide) (by decide) (by omega) rfl rfl wd963 rfl rfl (Nat.le_of_ble_eq_true rfl) (by decide) dX11_orderOfS_85 (fun H locs hw => ?_)
      refine lv_goto (tgt := 92) hx hb dX11_orderOfS_88 (by decide) ?_
      obtain ⟨rfl, rfl⟩ := Prod.mk.inj (Option.some.inj hf)
      exact z_iret hx hb hr hlk hw dX11_orderOfS_92
set_option maxHeartbeats 4000000 in
set_option maxRecDepth 100000 in
theorem t_X11_orderOfP (G : GM) (l : Launch) (hN : 77 ≤ gN G) (x1 : Int32) (h : HP) {r : Int32} {h' : HP} (hf : f_X11_orderOfP x1 h = some (r, h')) : MC G l yX11_orderOfP cX11_orderOfP 7 (some .int) 4 [.ref (ra G 70), .int x1] h h' (some (.int r)) := by
  unfold f_X11_orderOfP at hf
  refine z_start (by decide) (Nat.le_of_ble_eq_true rfl) ?_
  intro p e s m args below meth c ls hx hb hr hlk hml Z hw hl
  have Z : ZK G s args m RX11 := Z
  have hl : lv_has ls 7 [(0, .ref (ra G 70)), (1, .int x1)] := hl
  obtain ⟨H, hH⟩ : ∃ H, H = s.heap := ⟨_, rfl⟩
  rw [← hH] at hw ⊢
  obtain ⟨locs, hlc⟩ : ∃ locs : List Loc, locs = [] := ⟨_, rfl⟩
  rw [← hlc] at hw ⊢
  refine lv_aload_n hx hb dX11_orderOfP_0 rfl (lv_at hl 0 rfl) ?_
  refine lv_bipush (v := (111 : Int32)) hx hb dX11_orderOfP_1 (by decide) ?_
  obtain ⟨q3, hq3, hf⟩ := ob_some hf
  refine z_callVi (o := 70) (ci := 9) (As := [.int (111 : Int32)]) (rest := []) (t_X11_isNext G l hN (111 : Int32) h hq3) cv_X11_isNext hx hb hml hl.1 Z hw (by decide) (by decide) (by omega) rfl rfl wd1052 rfl rfl (Nat.le_of_ble_eq_true rfl) (by decide) dX11_orderOfP_3 (fun H locs hw => ?_)
  refine lv_if_eq (tgt := 57) hx hb dX11_orderOfP_6 (by decide) (fun c6 => ?_) (fun c6 => ?_)
  · have hf := (if_pos c6).symm.trans hf
    refine lv_aload_n hx hb dX11_orderOfP_57 rfl (lv_at hl 0 rfl) ?_
    refine lv_bipush (v := (108 : Int32)) hx hb dX11_orderOfP_58 (by decide) ?_
    obtain ⟨q60, hq60, hf⟩ := ob_some hf
    refine z_callVi (o := 70) (ci := 9) (As := [.int (108 : Int32)]) (rest := []) (t_X11_isNext G l hN (108 : Int32) h hq60) cv_X11_isNext hx hb hml hl.1 Z hw (by decide) (by decide) (by omega) rfl rfl wd1052 rfl rfl (Nat.le_of_ble_eq_true rfl) (by decide) dX11_orderOfP_60 (fun H locs hw => ?_)
    refine lv_if_eq (tgt := 101) hx hb dX11_orderOfP_63 (by decide) (fun c63 => ?_) (fun c63 => ?_)
    · have hf := (if_pos c63).symm.trans hf
      refine lv_aload_n hx hb dX11_orderOfP_101 rfl (lv_at hl 0 rfl) ?_
      refine lv_bipush (v := (114 : Int32)) hx hb dX11_orderOfP_102 (by decide) ?_
      refine lv_bipush (v := (101 : Int32)) hx hb dX11_orderOfP_104 (by decide) ?_
      refine lv_bipush (v := (115 : Int32)) hx hb dX11_orderOfP_106 (by decide) ?_
      refine lv_bipush (v := (115 : Int32)) hx hb dX11_orderOfP_108 (by decide) ?_
      obtain ⟨q110, hq110, hf⟩ := ob_some hf
      refine z_callVv (o := 70) (ci := 9) (As := [.int (114 : Int32), .int (101 : Int32), .int (115 : Int32), .int (115 : Int32)]) (rest := []) (t_X11_signs G l hN (114 : Int32) (101 : Int32) (115 : Int32) (115 : Int32) h hq110) cv_X11_signs hx hb hml hl.1 Z hw (by decide) (by decide) (by omega) rfl rfl wd1064 rfl rfl (Nat.le_of_ble_eq_true rfl) (by decide) dX11_orderOfP_110 (fun H locs hw => ?_)
      refine lv_aload_n hx hb dX11_orderOfP_113 rfl (lv_at hl 0 rfl) ?_
      refine lv_bipush (v := (61 : Int32)) hx hb dX11_orderOfP_114 (by decide) ?_
      refine lv_bipush (v := (61 : Int32)) hx hb dX11_orderOfP_116 (by decide) ?_
      obtain ⟨q118, hq118, hf⟩ := ob_some hf
      refine z_callVi (o := 70) (ci := 9) (As := [.int (61 : Int32), .int (61 : Int32)]) (rest := []) (t_X11_sign G l hN (61 : Int32) (61 : Int32) q110 hq118) cv_X11_sign hx hb hml hl.1 Z hw (by decide) (by decide) (by omega) rfl rfl wd1056 rfl rfl (Nat.le_of_ble_eq_true rfl) (by decide) dX11_orderOfP_118 (fun H locs hw => ?_)
      refine lv_istore_n (lv' := [(2, _), (0, _), (1, _)]) hx hb dX11_orderOfP_121 rfl hl (by decide) rfl (fun ls hl => ?_)
      refine lv_aload_n hx hb dX11_orderOfP_122 rfl (lv_at hl 1 rfl) ?_
      refine lv_iconst (v := (0 : Int32)) hx hb dX11_orderOfP_123 (by decide) ?_
      refine lv_sipush (v := (9999 : Int32)) hx hb dX11_orderOfP_124 (by decide) ?_
      obtain ⟨q127, hq127, hf⟩ := ob_some hf
      refine z_callVi (o := 70) (ci := 9) (As := [.int (0 : Int32), .int (9999 : Int32)]) (rest := []) (t_X11_number G l hN (0 : Int32) (9999 : Int32) q118.2 hq127) cv_X11_number hx hb hml hl.1 Z hw (by decide) (by decide) (by omega) rfl rfl wd1068 rfl rfl (Nat.le_of_ble_eq_true rfl) (by decide) dX11_orderOfP_127 (fun H locs hw => ?_)
      refine lv_istore_n (lv' := [(3, _), (2, _), (0, _), (1, _)]) hx hb dX11_orderOfP_130 rfl hl (by decide) rfl (fun ls hl => ?_)
      refine lv_aload_n hx hb dX11_orderOfP_131 rfl (lv_at hl 2 rfl) ?_
      refine lv_bipush (v := (46 : Int32)) hx hb dX11_orderOfP_132 (by decide) ?_
      refine lv_bipush (v := (46 : Int32)) hx hb dX11_orderOfP_134 (by decide) ?_
      obtain ⟨q136, hq136, hf⟩ := ob_some hf
      refine z_callVi (o := 70) (ci := 9) (As := [.int (46 : Int32), .int (46 : Int32)]) (rest := []) (t_X11_sign G l hN (46 : Int32) (46 : Int32) q127.2 hq136) cv_X11_sign hx hb hml hl.1 Z hw (by decide) (by decide) (by omega) rfl rfl wd1056 rfl rfl (Nat.le_of_ble_eq_true rfl) (by decide) dX11_orderOfP_136 (fun H locs hw => ?_)
      refine lv_istore (lv' := [(4, _), (3, _), (2, _), (0, _), (1, _)]) hx hb dX11_orderOfP_139 hl (by decide) rfl (fun ls hl => ?_)
      refine lv_aload_n hx hb dX11_orderOfP_141 rfl (lv_at hl 3 rfl) ?_
      refine lv_bipush (v := (48 : Int32)) hx hb dX11_orderOfP_142 (by decide) ?_
      refine lv_bipush (v := (51 : Int32)) hx hb dX11_orderOfP_144 (by decide) ?_
      obtain ⟨q146, hq146, hf⟩ := ob_some hf
      refine z_callVi (o := 70) (ci := 9) (As := [.int (48 : Int32), .int (51 : Int32)]) (rest := []) (t_X11_sign G l hN (48 : Int32) (51 : Int32) q136.2 hq146) cv_X11_sign hx hb hml hl.1 Z hw (by decide) (by decide) (by omega) rfl rfl wd1056 rfl rfl (Nat.le_of_ble_eq_true rfl) (by decide) dX11_orderOfP_146 (fun H locs hw => ?_)
      refine lv_bipush (v := (48 : Int32)) hx hb dX11_orderOfP_149 (by decide) ?_
      refine lv_isub hx hb dX11_orderOfP_151 ?_
      refine lv_istore (lv' := [(5, _), (4, _), (3, _), (2, _), (0, _), (1, _)]) hx hb dX11_orderOfP_152 hl (by decide) rfl (fun ls hl => ?_)
      refine lv_aload_n hx hb dX11_orderOfP_154 rfl (lv_at hl 4 rfl) ?_
      refine lv_bipush (v := (58 : Int32)) hx hb dX11_orderOfP_155 (by decide) ?_
      refine lv_iconst (v := (0 : Int32)) hx hb dX11_orderOfP_157 (by decide) ?_
      refine lv_bipush (v := (15 : Int32)) hx hb dX11_orderOfP_158 (by decide) ?_
      obtain ⟨q160, hq160, hf⟩ := ob_some hf
      refine z_callVi (o := 70) (ci := 9) (As := [.int (58 : Int32), .int (0 : Int32), .int (15 : Int32)]) (rest := []) (t_X11_behind G l hN (58 : Int32) (0 : Int32) (15 : Int32) q146.2 hq160) cv_X11_behind hx hb hml hl.1 Z hw (by decide) (by decide) (by omega) rfl rfl wd1072 rfl rfl (Nat.le_of_ble_eq_true rfl) (by decide) dX11_orderOfP_160 (fun H locs hw => ?_)
      refine lv_istore (lv' := [(6, _), (5, _), (4, _), (3, _), (2, _), (0, _), (1, _)]) hx hb dX11_orderOfP_163 hl (by decide) rfl (fun ls hl => ?_)
      refine lv_iload_n hx hb dX11_orderOfP_165 rfl (lv_at hl 6 rfl) ?_
      refine lv_if_eq (tgt := 181) hx hb dX11_orderOfP_166 (by decide) (fun c166 => ?_) (fun c166 => ?_)
      · have hf := (if_pos c166).symm.trans hf
        refine lv_iconst (v := (0 : Int32)) hx hb dX11_orderOfP_181 (by decide) ?_
        obtain ⟨rfl, rfl⟩ := Prod.mk.inj (Option.some.inj hf)
        exact z_iret hx hb hr hlk hw dX11_orderOfP_182
      · have hf := (if_neg c166).symm.trans hf
        refine lv_aload_n hx hb dX11_orderOfP_169 rfl (lv_at hl 5 rfl) ?_
        refine lv_iload_n hx hb dX11_orderOfP_170 rfl (lv_at hl 3 rfl) ?_
        refine lv_iload hx hb dX11_orderOfP_171 (lv_at hl 1 rfl) ?_
        refine lv_iload hx hb dX11_orderOfP_173 (lv_at hl 0 rfl) ?_
        obtain ⟨q175, hq175, hf⟩ := ob_some hf
        refine z_callVi (o := 70) (ci := 9) (As := [.int q127.1, .int (q146.1 - (48 : Int32)), .int q160.1]) (rest := []) (t_X11_presses G l hN q127.1 (q146.1 - (48 : Int32)) q160.1 q160.2 hq175) cv_X11_presses hx hb hml hl.1 Z hw (by decide) (by decide) (by omega) rfl rfl wd918 rfl rfl (Nat.le_of_ble_eq_true rfl) (by decide) dX11_orderOfP_175 (fun H locs hw => ?_)
        refine lv_goto (tgt := 182) hx hb dX11_orderOfP_178 (by decide) ?_
        obtain ⟨rfl, rfl⟩ := Prod.mk.inj (Option.some.inj hf)
        exact z_iret hx hb hr hlk hw dX11_orderOfP_182
    · have hf := (if_neg c63).symm.trans hf
      refine lv_aload_n hx hb dX11_orderOfP_66 rfl (lv_at hl 0 rfl) ?_
      refine lv_bipush (v := (108 : Int32)) hx hb dX11_orderOfP_67 (by decide) ?_
      refine lv_bipush (v := (97 : Int32)) hx hb dX11_orderOfP_69 (by decide) ?_
      refine lv_bipush (v := (121 : Int32)) hx hb dX11_orderOfP_71 (by decide) ?_
      refine lv_bipush (v := (61 : Int32)) hx hb dX11_orderOfP_73 (by decide) ?_
      obtain ⟨q75, hq75, hf⟩ := ob_some hf
      refine z_callVv (o := 70) (ci := 9) (As := [.int (108 : Int32), .int (97 : Int32), .int (121 : Int32), .int (61 : Int32)]) (rest := []) (t_X11_signs G l hN (108 : Int32) (97 : Int32) (121 : Int32) (61 : Int32) h hq75) cv_X11_signs hx hb hml hl.1 Z hw (by decide) (by decide) (by omega) rfl rfl wd1064 rfl rfl (Nat.le_of_ble_eq_true rfl) (by decide) dX11_orderOfP_75 (fun H locs hw => ?_)
      refine lv_aload_n hx hb dX11_orderOfP_78 rfl (lv_at hl 0 rfl) ?_
      refine lv_iconst (v := (1 : Int32)) hx hb dX11_orderOfP_79 (by decide) ?_
      refine lv_sipush (v := (999 : Int32)) hx hb dX11_orderOfP_80 (by decide) ?_
      obtain ⟨q83, hq83, hf⟩ := ob_some hf
      refine z_callVi (o := 70) (ci := 9) (As := [.int (1 : Int32), .int (999 : Int32)]) (rest := []) (t_X11_number G l hN (1 : Int32) (999 : Int32) q75 hq83) cv_X11_number hx hb hml hl.1 Z hw (by decide) (by decide) (by omega) rfl rfl wd1068 rfl rfl (Nat.le_of_ble_eq_true rfl) (by decide) dX11_orderOfP_83 (fun H locs hw => ?_)
      refine lv_istore_n (lv' := [(2, _), (0, _), (1, _)]) hx hb dX11_orderOfP_86 rfl hl (by decide) rfl (fun ls hl => ?_)
      refine lv_iload_n hx hb dX11_orderOfP_87 rfl (lv_at hl 2 rfl) ?_
      refine lv_if_eq (tgt := 99) hx hb dX11_orderOfP_88 (by decide) (fun c88 => ?_) (fun c88 => ?_)
      · have hf := (if_pos c88).symm.trans hf
        refine lv_iconst (v := (0 : Int32)) hx hb dX11_orderOfP_99 (by decide) ?_
        obtain ⟨rfl, rfl⟩ := Prod.mk.inj (Option.some.inj hf)
        exact z_iret hx hb hr hlk hw dX11_orderOfP_100
      · have hf := (if_neg c88).symm.trans hf
        refine lv_aload_n hx hb dX11_orderOfP_91 rfl (lv_at hl 1 rfl) ?_
        refine lv_iload_n hx hb dX11_orderOfP_92 rfl (lv_at hl 0 rfl) ?_
        obtain ⟨q93, hq93, hf⟩ := ob_some hf
        refine z_callVi (o := 70) (ci := 9) (As := [.int q83.1]) (rest := []) (t_X11_plays G l hN q83.1 q83.2 hq93) cv_X11_plays hx hb hml hl.1 Z hw (by decide) (by decide) (by omega) rfl rfl wd1005 rfl rfl (Nat.le_of_ble_eq_true rfl) (by decide) dX11_orderOfP_93 (fun H locs hw => ?_)
        refine lv_goto (tgt := 100) hx hb dX11_orderOfP_96 (by decide) ?_
        obtain ⟨rfl, rfl⟩ := Prod.mk.inj (Option.some.inj hf)
        exact z_iret hx hb hr hlk hw dX11_orderOfP_100
  · have hf := (if_neg c6).symm.trans hf
    refine lv_aload_n hx hb dX11_orderOfP_9 rfl (lv_at hl 0 rfl) ?_
    refine lv_bipush (v := (111 : Int32)) hx hb dX11_orderOfP_10 (by decide) ?_
    refine lv_bipush (v := (108 : Int32)) hx hb dX11_orderOfP_12 (by decide) ?_
    refine lv_bipush (v := (105 : Int32)) hx hb dX11_orderOfP_14 (by decide) ?_
    refine lv_bipush (v := (115 : Int32)) hx hb dX11_orderOfP_16 (by decide) ?_
    obtain ⟨q18, hq18, hf⟩ := ob_some hf
    refine z_callVv (o := 70) (ci := 9) (As := [.int (111 : Int32), .int (108 : Int32), .int (105 : Int32), .int (115 : Int32)]) (rest := []) (t_X11_signs G l hN (111 : Int32) (108 : Int32) (105 : Int32) (115 : Int32) h hq18) cv_X11_signs hx hb hml hl.1 Z hw (by decide) (by decide) (by omega) rfl rfl wd1064 rfl rfl (Nat.le_of_ble_eq_true rfl) (by decide) dX11_orderOfP_18 (fun H locs hw => ?_)
    refine lv_aload_n hx hb dX11_orderOfP_21 rfl (lv_at hl 0 rfl) ?_
    refine lv_bipush (v := (104 : Int32)) hx hb dX11_orderOfP_22 (by decide) ?_
    refine lv_bipush (v := (61 : Int32)) hx hb dX11_orderOfP_24 (by decide) ?_
    refine lv_iconst (v := (0 : Int32)) hx hb dX11_orderOfP_26 (by decide) ?_
    refine lv_iconst (v := (0 : Int32)) hx hb dX11_orderOfP_27 (by decide) ?_
    obtain ⟨q28, hq28, hf⟩ := ob_some hf
    refine z_callVv (o := 70) (ci := 9) (As := [.int (104 : Int32), .int (61 : Int32), .int (0 : Int32), .int (0 : Int32)]) (rest := []) (t_X11_signs G l hN (104 : Int32) (61 : Int32) (0 : Int32) (0 : Int32) q18 hq28) cv_X11_signs hx hb hml hl.1 Z hw (by decide) (by decide) (by omega) rfl rfl wd1064 rfl rfl (Nat.le_of_ble_eq_true rfl) (by decide) dX11_orderOfP_28 (fun H locs hw => ?_)
    refine lv_aload_n hx hb dX11_orderOfP_31 rfl (lv_at hl 0 rfl) ?_
    refine lv_bipush (v := (48 : Int32)) hx hb dX11_orderOfP_32 (by decide) ?_
    refine lv_bipush (v := (57 : Int32)) hx hb dX11_orderOfP_34 (by decide) ?_
    obtain ⟨q36, hq36, hf⟩ := ob_some hf
    refine z_callVi (o := 70) (ci := 9) (As := [.int (48 : Int32), .int (57 : Int32)]) (rest := []) (t_X11_sign G l hN (48 : Int32) (57 : Int32) q28 hq36) cv_X11_sign hx hb hml hl.1 Z hw (by decide) (by decide) (by omega) rfl rfl wd1056 rfl rfl (Nat.le_of_ble_eq_true rfl) (by decide) dX11_orderOfP_36 (fun H locs hw => ?_)
    refine lv_bipush (v := (48 : Int32)) hx hb dX11_orderOfP_39 (by decide) ?_
    refine lv_isub hx hb dX11_orderOfP_41 ?_
    refine lv_istore_n (lv' := [(2, _), (0, _), (1, _)]) hx hb dX11_orderOfP_42 rfl hl (by decide) rfl (fun ls hl => ?_)
    refine lv_iload_n hx hb dX11_orderOfP_43 rfl (lv_at hl 2 rfl) ?_
    refine lv_if_eq (tgt := 55) hx hb dX11_orderOfP_44 (by decide) (fun c44 => ?_) (fun c44 => ?_)
    · have hf := (if_pos c44).symm.trans hf
      refine lv_iconst (v := (0 : Int32)) hx hb dX11_orderOfP_55 (by decide) ?_
      obtain ⟨rfl, rfl⟩ := Prod.mk.inj (Option.some.inj hf)
      exact z_iret hx hb hr hlk hw dX11_orderOfP_56
    · have hf := (if_neg c44).symm.trans hf
      refine lv_aload_n hx hb dX11_orderOfP_47 rfl (lv_at hl 1 rfl) ?_
      refine lv_iload_n hx hb dX11_orderOfP_48 rfl (lv_at hl 0 rfl) ?_
      obtain ⟨q49, hq49, hf⟩ := ob_some hf
      refine z_callVi (o := 70) (ci := 9) (As := [.int (q36.1 - (48 : Int32))]) (rest := []) (t_X11_polishes G l hN (q36.1 - (48 : Int32)) q36.2 hq49) cv_X11_polishes hx hb hml hl.1 Z hw (by decide) (by decide) (by omega) rfl rfl wd987 rfl rfl (Nat.le_of_ble_eq_true rfl) (by decide) dX11_orderOfP_49 (fun H locs hw => ?_)
      refine lv_goto (tgt := 56) hx hb dX11_orderOfP_52 (by decide) ?_
      obtain ⟨rfl, rfl⟩ := Prod.mk.inj (Option.some.inj hf)
      exact z_iret hx hb hr hlk hw dX11_orderOfP_56
set_option maxHeartbeats 4000000 in
set_option maxRecDepth 100000 in
theorem w_X11_go_L14 (G : GM) (l : Launch) (hN : 77 ≤ gN G)  {p : Program} {e : Env} {s : State} {m : MethodId} {args : Array Value} {below : List Frame} {meth : Method} {c : Code} (hx : p.tables.exec = Jvm.exec) (hb : c.code = cX11_go) (hr : meth.sig.returnType = (some .int)) (hlk : meth.locks = false) (hml : c.maxLocals = 8) (Z : ZK G s args m RX11) : ∀ (n : Nat) (x1 : Int32) (x2 : Int32) (x3 : Int32)  (h : HP) (r : Int32) (h' : HP) (ls : Array Slot) (H : Heap) (locs : List Loc), lv_has ls 8 [(0, .ref (ra G 70)), (1, .int x1), (2, .int x2), (3, .int x3)] → HW G h s H locs → f_X11_go_L14 n x1 x2 x3 h = some (r, h') → WZ p l e 5 s m args below meth c G (some (.int r)) h' H locs (F0 m 14 ls []) := by
  intro n
  induction n with
  | zero => intro x1 x2 x3  h r h' ls H locs hl hw hf; cases hf
  | succ n ih =>
    intro x1 x2 x3  h r h' ls H locs hl hw hf
    rw [f_X11_go_L14] at hf
    refine lv_iload_n hx hb dX11_go_14 rfl (lv_at hl 3 rfl) ?_
    refine lv_if_eq (tgt := 155) hx hb dX11_go_15 (by decide) (fun c15 => ?_) (fun c15 => ?_)
    · have hf := (if_pos c15).symm.trans hf
      refine lv_iload_n hx hb dX11_go_155 rfl (lv_at hl 2 rfl) ?_
      obtain ⟨rfl, rfl⟩ := Prod.mk.inj (Option.some.inj hf)
      exact z_iret hx hb hr hlk hw dX11_go_156
    · have hf := (if_neg c15).symm.trans hf
      refine lv_aload_n hx hb dX11_go_18 rfl (lv_at hl 0 rfl) ?_
      refine lv_bipush (v := (115 : Int32)) hx hb dX11_go_19 (by decide) ?_
      obtain ⟨q21, hq21, hf⟩ := ob_some hf
      refine z_callVi (o := 70) (ci := 9) (As := [.int (115 : Int32)]) (rest := []) (t_X11_isNext G l hN (115 : Int32) h hq21) cv_X11_isNext hx hb hml hl.1 Z hw (by decide) (by decide) (by omega) rfl rfl wd1052 rfl rfl (Nat.le_of_ble_eq_true rfl) (by decide) dX11_go_21 (fun H locs hw => ?_)
      refine lv_istore (lv' := [(4, _), (0, _), (1, _), (2, _), (3, _)]) hx hb dX11_go_24 hl (by decide) rfl (fun ls hl => ?_)
      refine lv_iload hx hb dX11_go_26 (lv_at hl 0 rfl) ?_
      obtain ⟨j28, hqj28, hf⟩ := ob_some hf
      have HJ50 : ∀ (ls : Array Slot) (H : Heap) (locs : List Loc), lv_has ls 8 [(0, .ref (ra G 70)), (1, .int x1), (2, .int x2), (4, .int q21)] → HW G j28.2 s H locs → WZ p l e 5 s m args below meth c G (some (.int r)) h' H locs (F0 m 50 ls [.int j28.1]) := by
        intro ls H locs hl hw
        refine lv_istore (lv' := [(5, _), (0, _), (1, _), (2, _), (4, _)]) hx hb dX11_go_50 hl (by decide) rfl (fun ls hl => ?_)
        refine lv_aload_n hx hb dX11_go_52 rfl (lv_at hl 1 rfl) ?_
        refine z_geti (o := 70) (C := RX11) (T := TX11) (N := 11) (ci := 9) (k := 10) hx hb Z hw (by decide) (by omega) rfl inX11 (by decide) wd885 dX11_go_53 ?_
        obtain ⟨j56, hqj56, hf⟩ := ob_some hf
        have HJ81 : ∀ (ls : Array Slot) (H : Heap) (locs : List Loc), lv_has ls 8 [(0, .ref (ra G 70)), (1, .int x1), (2, .int x2)] → HW G j56.2 s H locs → WZ p l e 5 s m args below meth c G (some (.int r)) h' H locs (F0 m 81 ls [.int j56.1]) := by
          intro ls H locs hl hw
          refine lv_istore (lv' := [(6, _), (0, _), (1, _), (2, _)]) hx hb dX11_go_81 hl (by decide) rfl (fun ls hl => ?_)
          refine lv_iload hx hb dX11_go_83 (lv_at hl 0 rfl) ?_
          refine lv_if_ge (tgt := 98) hx hb dX11_go_85 (by decide) (fun c85 => ?_) (fun c85 => ?_)
          · have hf := (if_pos c85).symm.trans hf
            refine lv_iinc (v := x2 + (1 : Int32)) (lv' := [(2, _), (6, _), (0, _), (1, _)]) hx hb dX11_go_98 hl (k := 3) rfl rfl (by decide) rfl (fun ls hl => ?_)
            refine lv_aload_n hx hb dX11_go_101 rfl (lv_at hl 2 rfl) ?_
            refine z_geti (o := 70) (C := RX11) (T := TX11) (N := 11) (ci := 9) (k := 10) hx hb Z hw (by decide) (by omega) rfl inX11 (by decide) wd885 dX11_go_102 ?_
            have HJ124 : ∀ (ls : Array Slot) (H : Heap) (locs : List Loc), lv_has ls 8 [(0, .ref (ra G 70)), (1, .int x1), (2, .int (x2 + (1 : Int32)))] → HW G j56.2 s H locs → WZ p l e 5 s m args below meth c G (some (.int r)) h' H locs (F0 m 124 ls [.int (if (j56.2 70 10) = 0 then (if (j56.2 70 7) ≤ (j56.2 70 9) then (0 : Int32) else (1 : Int32)) else (0 : Int32))]) := by
              intro ls H locs hl hw
              obtain ⟨v124, hqv124, hf⟩ := tb_ex hf
              refine z_top hqv124 ?_
              refine lv_istore_n (lv' := [(3, _), (0, _), (1, _), (2, _)]) hx hb dX11_go_124 rfl hl (by decide) rfl (fun ls hl => ?_)
              refine lv_iload_n hx hb dX11_go_125 rfl (lv_at hl 0 rfl) ?_
              obtain ⟨j126, hqj126, hf⟩ := ob_some hf
              have HJ152 : ∀ (ls : Array Slot) (H : Heap) (locs : List Loc), lv_has ls 8 [(0, .ref (ra G 70)), (1, .int x1), (2, .int (x2 + (1 : Int32))), (3, .int j126.1)] → HW G j126.2 s H locs → WZ p l e 5 s m args below meth c G (some (.int r)) h' H locs (F0 m 152 ls []) := by
                intro ls H locs hl hw
                refine lv_goto (tgt := 14) hx hb dX11_go_152 (by decide) ?_
                exact ih x1 (x2 + (1 : Int32)) j126.1 j126.2 r h' ls H locs (lv_sub hl [0, 1, 2, 3] rfl) hw hf
              have hf := hqj126
              refine lv_if_eq (tgt := 152) hx hb dX11_go_126 (by decide) (fun c126 => ?_) (fun c126 => ?_)
              · have hf := (if_pos c126).symm.trans hf
                obtain rfl := Option.some.inj hf
                exact HJ152 ls H locs (lv_sub hl [1, 2, 3, 0] rfl) hw
              · have hf := (if_neg c126).symm.trans hf
                refine lv_aload_n hx hb dX11_go_129 rfl (lv_at hl 1 rfl) ?_
                refine lv_bipush (v := (59 : Int32)) hx hb dX11_go_130 (by decide) ?_
                refine lv_bipush (v := (59 : Int32)) hx hb dX11_go_132 (by decide) ?_
                obtain ⟨q134, hq134, hf⟩ := ob_some hf
                refine z_callVi (o := 70) (ci := 9) (As := [.int (59 : Int32), .int (59 : Int32)]) (rest := []) (t_X11_sign G l hN (59 : Int32) (59 : Int32) j56.2 hq134) cv_X11_sign hx hb hml hl.1 Z hw (by decide) (by decide) (by omega) rfl rfl wd1056 rfl rfl (Nat.le_of_ble_eq_true rfl) (by decide) dX11_go_134 (fun H locs hw => ?_)
                refine lv_istore (lv' := [(7, _), (3, _), (0, _), (1, _), (2, _)]) hx hb dX11_go_137 hl (by decide) rfl (fun ls hl => ?_)
                refine lv_aload_n hx hb dX11_go_139 rfl (lv_at hl 2 rfl) ?_
                refine z_geti (o := 70) (C := RX11) (T := TX11) (N := 11) (ci := 9) (k := 10) hx hb Z hw (by decide) (by omega) rfl inX11 (by decide) wd885 dX11_go_140 ?_
                have HJ151 : ∀ (ls : Array Slot) (H : Heap) (locs : List Loc), lv_has ls 8 [(0, .ref (ra G 70)), (1, .int x1), (2, .int (x2 + (1 : Int32)))] → HW G q134.2 s H locs → WZ p l e 5 s m args below meth c G (some (.int r)) h' H locs (F0 m 151 ls [.int (if (q134.2 70 10) = 0 then (1 : Int32) else (0 : Int32))]) := by
                  intro ls H locs hl hw
                  obtain ⟨v151, hqv151, hf⟩ := tb_ex hf
                  refine z_top hqv151 ?_
                  refine lv_istore_n (lv' := [(3, _), (0, _), (1, _), (2, _)]) hx hb dX11_go_151 rfl hl (by decide) rfl (fun ls hl => ?_)
                  obtain rfl := Option.some.inj hf
                  exact HJ152 ls H locs (lv_sub hl [1, 2, 3, 0] rfl) hw
                refine lv_if_ne (tgt := 150) hx hb dX11_go_143 (by decide) (fun c143 => ?_) (fun c143 => ?_)
                · skip
                  refine lv_iconst (v := (0 : Int32)) hx hb dX11_go_150 (by decide) ?_
                  refine W.eq (g2 := F0 m 151 ls [.int (if (q134.2 70 10) = 0 then (1 : Int32) else (0 : Int32))]) ?_ (HJ151 ls H locs (lv_sub hl [2, 3, 4] rfl) hw)
                  simp only [if_neg c143]
                · skip
                  refine lv_iconst (v := (1 : Int32)) hx hb dX11_go_146 (by decide) ?_
                  refine lv_goto (tgt := 151) hx hb dX11_go_147 (by decide) ?_
                  refine W.eq (g2 := F0 m 151 ls [.int (if (q134.2 70 10) = 0 then (1 : Int32) else (0 : Int32))]) ?_ (HJ151 ls H locs (lv_sub hl [2, 3, 4] rfl) hw)
                  simp only [if_pos c143]
            refine lv_if_ne (tgt := 123) hx hb dX11_go_105 (by decide) (fun c105 => ?_) (fun c105 => ?_)
            · skip
              refine lv_iconst (v := (0 : Int32)) hx hb dX11_go_123 (by decide) ?_
              refine W.eq (g2 := F0 m 124 ls [.int (if (j56.2 70 10) = 0 then (if (j56.2 70 7) ≤ (j56.2 70 9) then (0 : Int32) else (1 : Int32)) else (0 : Int32))]) ?_ (HJ124 ls H locs (lv_sub hl [2, 3, 0] rfl) hw)
              simp only [if_neg c105]
            · skip
              refine lv_aload_n hx hb dX11_go_108 rfl (lv_at hl 2 rfl) ?_
              refine z_geti (o := 70) (C := RX11) (T := TX11) (N := 11) (ci := 9) (k := 9) hx hb Z hw (by decide) (by omega) rfl inX11 (by decide) wd884 dX11_go_109 ?_
              refine lv_aload_n hx hb dX11_go_112 rfl (lv_at hl 2 rfl) ?_
              refine z_geti (o := 70) (C := RX11) (T := TX11) (N := 11) (ci := 9) (k := 7) hx hb Z hw (by decide) (by omega) rfl inX11 (by decide) wd882 dX11_go_113 ?_
              refine lv_icmp_ge (tgt := 123) hx hb dX11_go_116 (by decide) (fun c116 => ?_) (fun c116 => ?_)
              · skip
                refine lv_iconst (v := (0 : Int32)) hx hb dX11_go_123 (by decide) ?_
                refine W.eq (g2 := F0 m 124 ls [.int (if (j56.2 70 10) = 0 then (if (j56.2 70 7) ≤ (j56.2 70 9) then (0 : Int32) else (1 : Int32)) else (0 : Int32))]) ?_ (HJ124 ls H locs (lv_sub hl [2, 3, 0] rfl) hw)
                simp only [if_pos c105, if_pos c116]
              · skip
                refine lv_iconst (v := (1 : Int32)) hx hb dX11_go_119 (by decide) ?_
                refine lv_goto (tgt := 124) hx hb dX11_go_120 (by decide) ?_
                refine W.eq (g2 := F0 m 124 ls [.int (if (j56.2 70 10) = 0 then (if (j56.2 70 7) ≤ (j56.2 70 9) then (0 : Int32) else (1 : Int32)) else (0 : Int32))]) ?_ (HJ124 ls H locs (lv_sub hl [2, 3, 0] rfl) hw)
                simp only [if_pos c105, if_neg c116]
          · have hf := (if_neg c85).symm.trans hf
            refine lv_iload hx hb dX11_go_88 (lv_at hl 0 rfl) ?_
            refine lv_bipush (v := (-5 : Int32)) hx hb dX11_go_90 (by decide) ?_
            refine lv_icmp_eq (tgt := 98) hx hb dX11_go_92 (by decide) (fun c92 => ?_) (fun c92 => ?_)
            · have hf := (if_pos c92).symm.trans hf
              refine lv_iinc (v := x2 + (1 : Int32)) (lv' := [(2, _), (6, _), (0, _), (1, _)]) hx hb dX11_go_98 hl (k := 3) rfl rfl (by decide) rfl (fun ls hl => ?_)
              refine lv_aload_n hx hb dX11_go_101 rfl (lv_at hl 2 rfl) ?_
              refine z_geti (o := 70) (C := RX11) (T := TX11) (N := 11) (ci := 9) (k := 10) hx hb Z hw (by decide) (by omega) rfl inX11 (by decide) wd885 dX11_go_102 ?_
              have HJ124 : ∀ (ls : Array Slot) (H : Heap) (locs : List Loc), lv_has ls 8 [(0, .ref (ra G 70)), (1, .int x1), (2, .int (x2 + (1 : Int32)))] → HW G j56.2 s H locs → WZ p l e 5 s m args below meth c G (some (.int r)) h' H locs (F0 m 124 ls [.int (if (j56.2 70 10) = 0 then (if (j56.2 70 7) ≤ (j56.2 70 9) then (0 : Int32) else (1 : Int32)) else (0 : Int32))]) := by
                intro ls H locs hl hw
                obtain ⟨v124, hqv124, hf⟩ := tb_ex hf
                refine z_top hqv124 ?_
                refine lv_istore_n (lv' := [(3, _), (0, _), (1, _), (2, _)]) hx hb dX11_go_124 rfl hl (by decide) rfl (fun ls hl => ?_)
                refine lv_iload_n hx hb dX11_go_125 rfl (lv_at hl 0 rfl) ?_
                obtain ⟨j126, hqj126, hf⟩ := ob_some hf
                have HJ152 : ∀ (ls : Array Slot) (H : Heap) (locs : List Loc), lv_has ls 8 [(0, .ref (ra G 70)), (1, .int x1), (2, .int (x2 + (1 : Int32))), (3, .int j126.1)] → HW G j126.2 s H locs → WZ p l e 5 s m args below meth c G (some (.int r)) h' H locs (F0 m 152 ls []) := by
                  intro ls H locs hl hw
                  refine lv_goto (tgt := 14) hx hb dX11_go_152 (by decide) ?_
                  exact ih x1 (x2 + (1 : Int32)) j126.1 j126.2 r h' ls H locs (lv_sub hl [0, 1, 2, 3] rfl) hw hf
                have hf := hqj126
                refine lv_if_eq (tgt := 152) hx hb dX11_go_126 (by decide) (fun c126 => ?_) (fun c126 => ?_)
                · have hf := (if_pos c126).symm.trans hf
                  obtain rfl := Option.some.inj hf
                  exact HJ152 ls H locs (lv_sub hl [1, 2, 3, 0] rfl) hw
                · have hf := (if_neg c126).symm.trans hf
                  refine lv_aload_n hx hb dX11_go_129 rfl (lv_at hl 1 rfl) ?_
                  refine lv_bipush (v := (59 : Int32)) hx hb dX11_go_130 (by decide) ?_
                  refine lv_bipush (v := (59 : Int32)) hx hb dX11_go_132 (by decide) ?_
                  obtain ⟨q134, hq134, hf⟩ := ob_some hf
                  refine z_callVi (o := 70) (ci := 9) (As := [.int (59 : Int32), .int (59 : Int32)]) (rest := []) (t_X11_sign G l hN (59 : Int32) (59 : Int32) j56.2 hq134) cv_X11_sign hx hb hml hl.1 Z hw (by decide) (by decide) (by omega) rfl rfl wd1056 rfl rfl (Nat.le_of_ble_eq_true rfl) (by decide) dX11_go_134 (fun H locs hw => ?_)
                  refine lv_istore (lv' := [(7, _), (3, _), (0, _), (1, _), (2, _)]) hx hb dX11_go_137 hl (by decide) rfl (fun ls hl => ?_)
                  refine lv_aload_n hx hb dX11_go_139 rfl (lv_at hl 2 rfl) ?_
                  refine z_geti (o := 70) (C := RX11) (T := TX11) (N := 11) (ci := 9) (k := 10) hx hb Z hw (by decide) (by omega) rfl inX11 (by decide) wd885 dX11_go_140 ?_
                  have HJ151 : ∀ (ls : Array Slot) (H : Heap) (locs : List Loc), lv_has ls 8 [(0, .ref (ra G 70)), (1, .int x1), (2, .int (x2 + (1 : Int32)))] → HW G q134.2 s H locs → WZ p l e 5 s m args below meth c G (some (.int r)) h' H locs (F0 m 151 ls [.int (if (q134.2 70 10) = 0 then (1 : Int32) else (0 : Int32))]) := by
                    intro ls H locs hl hw
                    obtain ⟨v151, hqv151, hf⟩ := tb_ex hf
                    refine z_top hqv151 ?_
                    refine lv_istore_n (lv' := [(3, _), (0, _), (1, _), (2, _)]) hx hb dX11_go_151 rfl hl (by decide) rfl (fun ls hl => ?_)
                    obtain rfl := Option.some.inj hf
                    exact HJ152 ls H locs (lv_sub hl [1, 2, 3, 0] rfl) hw
                  refine lv_if_ne (tgt := 150) hx hb dX11_go_143 (by decide) (fun c143 => ?_) (fun c143 => ?_)
                  · skip
                    refine lv_iconst (v := (0 : Int32)) hx hb dX11_go_150 (by decide) ?_
                    refine W.eq (g2 := F0 m 151 ls [.int (if (q134.2 70 10) = 0 then (1 : Int32) else (0 : Int32))]) ?_ (HJ151 ls H locs (lv_sub hl [2, 3, 4] rfl) hw)
                    simp only [if_neg c143]
                  · skip
                    refine lv_iconst (v := (1 : Int32)) hx hb dX11_go_146 (by decide) ?_
                    refine lv_goto (tgt := 151) hx hb dX11_go_147 (by decide) ?_
                    refine W.eq (g2 := F0 m 151 ls [.int (if (q134.2 70 10) = 0 then (1 : Int32) else (0 : Int32))]) ?_ (HJ151 ls H locs (lv_sub hl [2, 3, 4] rfl) hw)
                    simp only [if_pos c143]
              refine lv_if_ne (tgt := 123) hx hb dX11_go_105 (by decide) (fun c105 => ?_) (fun c105 => ?_)
              · skip
                refine lv_iconst (v := (0 : Int32)) hx hb dX11_go_123 (by decide) ?_
                refine W.eq (g2 := F0 m 124 ls [.int (if (j56.2 70 10) = 0 then (if (j56.2 70 7) ≤ (j56.2 70 9) then (0 : Int32) else (1 : Int32)) else (0 : Int32))]) ?_ (HJ124 ls H locs (lv_sub hl [2, 3, 0] rfl) hw)
                simp only [if_neg c105]
              · skip
                refine lv_aload_n hx hb dX11_go_108 rfl (lv_at hl 2 rfl) ?_
                refine z_geti (o := 70) (C := RX11) (T := TX11) (N := 11) (ci := 9) (k := 9) hx hb Z hw (by decide) (by omega) rfl inX11 (by decide) wd884 dX11_go_109 ?_
                refine lv_aload_n hx hb dX11_go_112 rfl (lv_at hl 2 rfl) ?_
                refine z_geti (o := 70) (C := RX11) (T := TX11) (N := 11) (ci := 9) (k := 7) hx hb Z hw (by decide) (by omega) rfl inX11 (by decide) wd882 dX11_go_113 ?_
                refine lv_icmp_ge (tgt := 123) hx hb dX11_go_116 (by decide) (fun c116 => ?_) (fun c116 => ?_)
                · skip
                  refine lv_iconst (v := (0 : Int32)) hx hb dX11_go_123 (by decide) ?_
                  refine W.eq (g2 := F0 m 124 ls [.int (if (j56.2 70 10) = 0 then (if (j56.2 70 7) ≤ (j56.2 70 9) then (0 : Int32) else (1 : Int32)) else (0 : Int32))]) ?_ (HJ124 ls H locs (lv_sub hl [2, 3, 0] rfl) hw)
                  simp only [if_pos c105, if_pos c116]
                · skip
                  refine lv_iconst (v := (1 : Int32)) hx hb dX11_go_119 (by decide) ?_
                  refine lv_goto (tgt := 124) hx hb dX11_go_120 (by decide) ?_
                  refine W.eq (g2 := F0 m 124 ls [.int (if (j56.2 70 10) = 0 then (if (j56.2 70 7) ≤ (j56.2 70 9) then (0 : Int32) else (1 : Int32)) else (0 : Int32))]) ?_ (HJ124 ls H locs (lv_sub hl [2, 3, 0] rfl) hw)
                  simp only [if_pos c105, if_neg c116]
            · have hf := (if_neg c92).symm.trans hf
              refine lv_iload hx hb dX11_go_95 (lv_at hl 0 rfl) ?_
              obtain ⟨rfl, rfl⟩ := Prod.mk.inj (Option.some.inj hf)
              exact z_iret hx hb hr hlk hw dX11_go_97
        have hf := hqj56
        refine lv_if_eq (tgt := 63) hx hb dX11_go_56 (by decide) (fun c56 => ?_) (fun c56 => ?_)
        · have hf := (if_pos c56).symm.trans hf
          refine lv_iload hx hb dX11_go_63 (lv_at hl 4 rfl) ?_
          refine lv_if_eq (tgt := 76) hx hb dX11_go_65 (by decide) (fun c65 => ?_) (fun c65 => ?_)
          · have hf := (if_pos c65).symm.trans hf
            refine lv_aload_n hx hb dX11_go_76 rfl (lv_at hl 1 rfl) ?_
            refine lv_iload_n hx hb dX11_go_77 rfl (lv_at hl 2 rfl) ?_
            obtain ⟨q78, hq78, hf⟩ := ob_some hf
            refine z_callVi (o := 70) (ci := 9) (As := [.int x1]) (rest := []) (t_X11_orderOfP G l hN x1 j28.2 hq78) cv_X11_orderOfP hx hb hml hl.1 Z hw (by decide) (by decide) (by omega) rfl rfl wd1076 rfl rfl (Nat.le_of_ble_eq_true rfl) (by decide) dX11_go_78 (fun H locs hw => ?_)
            obtain rfl := Option.some.inj hf
            exact HJ81 ls H locs (lv_sub hl [1, 2, 3] rfl) hw
          · have hf := (if_neg c65).symm.trans hf
            refine lv_aload_n hx hb dX11_go_68 rfl (lv_at hl 1 rfl) ?_
            refine lv_iload_n hx hb dX11_go_69 rfl (lv_at hl 2 rfl) ?_
            obtain ⟨q70, hq70, hf⟩ := ob_some hf
            refine z_callVi (o := 70) (ci := 9) (As := [.int x1]) (rest := []) (t_X11_orderOfS G l hN x1 j28.2 hq70) cv_X11_orderOfS hx hb hml hl.1 Z hw (by decide) (by decide) (by omega) rfl rfl wd1060 rfl rfl (Nat.le_of_ble_eq_true rfl) (by decide) dX11_go_70 (fun H locs hw => ?_)
            refine lv_goto (tgt := 81) hx hb dX11_go_73 (by decide) ?_
            obtain rfl := Option.some.inj hf
            exact HJ81 ls H locs (lv_sub hl [1, 2, 3] rfl) hw
        · have hf := (if_neg c56).symm.trans hf
          refine lv_iconst (v := (0 : Int32)) hx hb dX11_go_59 (by decide) ?_
          refine lv_goto (tgt := 81) hx hb dX11_go_60 (by decide) ?_
          obtain rfl := Option.some.inj hf
          exact HJ81 ls H locs (lv_sub hl [1, 2, 3] rfl) hw
      have hf := hqj28
      refine lv_if_eq (tgt := 42) hx hb dX11_go_28 (by decide) (fun c28 => ?_) (fun c28 => ?_)
      · have hf := (if_pos c28).symm.trans hf
        refine lv_aload_n hx hb dX11_go_42 rfl (lv_at hl 1 rfl) ?_
        refine lv_bipush (v := (112 : Int32)) hx hb dX11_go_43 (by decide) ?_
        refine lv_bipush (v := (112 : Int32)) hx hb dX11_go_45 (by decide) ?_
        obtain ⟨q47, hq47, hf⟩ := ob_some hf
        refine z_callVi (o := 70) (ci := 9) (As := [.int (112 : Int32), .int (112 : Int32)]) (rest := []) (t_X11_sign G l hN (112 : Int32) (112 : Int32) h hq47) cv_X11_sign hx hb hml hl.1 Z hw (by decide) (by decide) (by omega) rfl rfl wd1056 rfl rfl (Nat.le_of_ble_eq_true rfl) (by decide) dX11_go_47 (fun H locs hw => ?_)
        obtain rfl := Option.some.inj hf
        exact HJ50 ls H locs (lv_sub hl [1, 2, 3, 0] rfl) hw
      · have hf := (if_neg c28).symm.trans hf
        refine lv_aload_n hx hb dX11_go_31 rfl (lv_at hl 1 rfl) ?_
        refine lv_bipush (v := (115 : Int32)) hx hb dX11_go_32 (by decide) ?_
        refine lv_bipush (v := (115 : Int32)) hx hb dX11_go_34 (by decide) ?_
        obtain ⟨q36, hq36, hf⟩ := ob_some hf
        refine z_callVi (o := 70) (ci := 9) (As := [.int (115 : Int32), .int (115 : Int32)]) (rest := []) (t_X11_sign G l hN (115 : Int32) (115 : Int32) h hq36) cv_X11_sign hx hb hml hl.1 Z hw (by decide) (by decide) (by omega) rfl rfl wd1056 rfl rfl (Nat.le_of_ble_eq_true rfl) (by decide) dX11_go_36 (fun H locs hw => ?_)
        refine lv_goto (tgt := 50) hx hb dX11_go_39 (by decide) ?_
        obtain rfl := Option.some.inj hf
        exact HJ50 ls H locs (lv_sub hl [1, 2, 3, 0] rfl) hw
set_option maxHeartbeats 4000000 in
set_option maxRecDepth 100000 in
theorem t_X11_go (G : GM) (l : Launch) (hN : 77 ≤ gN G) (x1 : Int32) (h : HP) {r : Int32} {h' : HP} (hf : f_X11_go x1 h = some (r, h')) : MC G l yX11_go cX11_go 8 (some .int) 5 [.ref (ra G 70), .int x1] h h' (some (.int r)) := by
  unfold f_X11_go at hf
  refine z_start (by decide) (Nat.le_of_ble_eq_true rfl) ?_
  intro p e s m args below meth c ls hx hb hr hlk hml Z hw hl
  have Z : ZK G s args m RX11 := Z
  have hl : lv_has ls 8 [(0, .ref (ra G 70)), (1, .int x1)] := hl
  obtain ⟨H, hH⟩ : ∃ H, H = s.heap := ⟨_, rfl⟩
  rw [← hH] at hw ⊢
  obtain ⟨locs, hlc⟩ : ∃ locs : List Loc, locs = [] := ⟨_, rfl⟩
  rw [← hlc] at hw ⊢
  refine lv_aload_n hx hb dX11_go_0 rfl (lv_at hl 0 rfl) ?_
  refine lv_iconst (v := (0 : Int32)) hx hb dX11_go_1 (by decide) ?_
  refine z_puti (o := 70) (v := (0 : Int32)) (ty := .int) (C := RX11) (T := TX11) (N := 11) (ci := 9) (k := 9) hx hb Z hw (by decide) (by omega) rfl inX11 tyX11 tyX11_ok nmX11 (by decide) wd884 rfl (by decide +kernel) rfl rfl dX11_go_2 (fun H locs hw => ?_)
  refine lv_aload_n hx hb dX11_go_5 rfl (lv_at hl 0 rfl) ?_
  refine lv_iconst (v := (0 : Int32)) hx hb dX11_go_6 (by decide) ?_
  obtain ⟨h7, hqh7, hf⟩ := tb_ex hf
  rw [hqh7] at hw
  refine z_puti (o := 70) (v := (0 : Int32)) (ty := .boolean) (C := RX11) (T := TX11) (N := 11) (ci := 9) (k := 10) hx hb Z hw (by decide) (by omega) rfl inX11 tyX11 tyX11_ok nmX11 (by decide) wd885 rfl (by decide +kernel) rfl rfl dX11_go_7 (fun H locs hw => ?_)
  refine lv_iconst (v := (0 : Int32)) hx hb dX11_go_10 (by decide) ?_
  refine lv_istore_n (lv' := [(2, _), (0, _), (1, _)]) hx hb dX11_go_11 rfl hl (by decide) rfl (fun ls hl => ?_)
  refine lv_iconst (v := (1 : Int32)) hx hb dX11_go_12 (by decide) ?_
  refine lv_istore_n (lv' := [(3, _), (2, _), (0, _), (1, _)]) hx hb dX11_go_13 rfl hl (by decide) rfl (fun ls hl => ?_)
  exact w_X11_go_L14 G l hN  hx hb hr hlk hml Z FU x1 (0 : Int32) (1 : Int32) (hset h7 70 10 (0 : Int32)) _ _ ls H locs (lv_sub hl [2, 3, 1, 0] rfl) hw hf
set_option maxHeartbeats 4000000 in
set_option maxRecDepth 100000 in
theorem t_X11_fault (G : GM) (l : Launch) (hN : 77 ≤ gN G)  (h : HP) {r : Int32} {h' : HP} (hf : f_X11_fault  h = some (r, h')) : MC G l yX11_fault cX11_fault 2 (some .int) 6 [.ref (ra G 70)] h h' (some (.int r)) := by
  unfold f_X11_fault at hf
  refine z_start (by decide) (Nat.le_of_ble_eq_true rfl) ?_
  intro p e s m args below meth c ls hx hb hr hlk hml Z hw hl
  have Z : ZK G s args m RX11 := Z
  have hl : lv_has ls 2 [(0, .ref (ra G 70))] := hl
  obtain ⟨H, hH⟩ : ∃ H, H = s.heap := ⟨_, rfl⟩
  rw [← hH] at hw ⊢
  obtain ⟨locs, hlc⟩ : ∃ locs : List Loc, locs = [] := ⟨_, rfl⟩
  rw [← hlc] at hw ⊢
  refine lv_aload_n hx hb dX11_fault_0 rfl (lv_at hl 0 rfl) ?_
  refine lv_iconst (v := (0 : Int32)) hx hb dX11_fault_1 (by decide) ?_
  obtain ⟨q2, hq2, hf⟩ := ob_some hf
  refine z_callVi (o := 70) (ci := 9) (As := [.int (0 : Int32)]) (rest := []) (t_X11_go G l hN (0 : Int32) h hq2) cv_X11_go hx hb hml hl.1 Z hw (by decide) (by decide) (by omega) rfl rfl wd1048 rfl rfl (Nat.le_of_ble_eq_true rfl) (by decide) dX11_fault_2 (fun H locs hw => ?_)
  refine lv_istore_n (lv' := [(1, _), (0, _)]) hx hb dX11_fault_5 rfl hl (by decide) rfl (fun ls hl => ?_)
  refine lv_aload_n hx hb dX11_fault_6 rfl (lv_at hl 1 rfl) ?_
  refine z_geti (o := 70) (C := RX11) (T := TX11) (N := 11) (ci := 9) (k := 10) hx hb Z hw (by decide) (by omega) rfl inX11 (by decide) wd885 dX11_fault_7 ?_
  refine lv_if_eq (tgt := 20) hx hb dX11_fault_10 (by decide) (fun c10 => ?_) (fun c10 => ?_)
  · have hf := (if_pos c10).symm.trans hf
    refine lv_bipush (v := (-5 : Int32)) hx hb dX11_fault_20 (by decide) ?_
    obtain ⟨rfl, rfl⟩ := Prod.mk.inj (Option.some.inj hf)
    exact z_iret hx hb hr hlk hw dX11_fault_22
  · have hf := (if_neg c10).symm.trans hf
    refine lv_aload_n hx hb dX11_fault_13 rfl (lv_at hl 1 rfl) ?_
    refine z_geti (o := 70) (C := RX11) (T := TX11) (N := 11) (ci := 9) (k := 9) hx hb Z hw (by decide) (by omega) rfl inX11 (by decide) wd884 dX11_fault_14 ?_
    refine lv_goto (tgt := 22) hx hb dX11_fault_17 (by decide) ?_
    obtain ⟨rfl, rfl⟩ := Prod.mk.inj (Option.some.inj hf)
    exact z_iret hx hb hr hlk hw dX11_fault_22
set_option maxHeartbeats 4000000 in
set_option maxRecDepth 100000 in
theorem t_X11_doAll (G : GM) (l : Launch) (hN : 77 ≤ gN G)  (h : HP) {r : Int32} {h' : HP} (hf : f_X11_doAll  h = some (r, h')) : MC G l yX11_doAll cX11_doAll 2 (some .int) 6 [.ref (ra G 70)] h h' (some (.int r)) := by
  unfold f_X11_doAll at hf
  refine z_start (by decide) (Nat.le_of_ble_eq_true rfl) ?_
  intro p e s m args below meth c ls hx hb hr hlk hml Z hw hl
  have Z : ZK G s args m RX11 := Z
  have hl : lv_has ls 2 [(0, .ref (ra G 70))] := hl
  obtain ⟨H, hH⟩ : ∃ H, H = s.heap := ⟨_, rfl⟩
  rw [← hH] at hw ⊢
  obtain ⟨locs, hlc⟩ : ∃ locs : List Loc, locs = [] := ⟨_, rfl⟩
  rw [← hlc] at hw ⊢
  refine lv_aload_n hx hb dX11_doAll_0 rfl (lv_at hl 0 rfl) ?_
  refine lv_iconst (v := (0 : Int32)) hx hb dX11_doAll_1 (by decide) ?_
  obtain ⟨q2, hq2, hf⟩ := ob_some hf
  refine z_callVi (o := 70) (ci := 9) (As := [.int (0 : Int32)]) (rest := []) (t_X11_go G l hN (0 : Int32) h hq2) cv_X11_go hx hb hml hl.1 Z hw (by decide) (by decide) (by omega) rfl rfl wd1048 rfl rfl (Nat.le_of_ble_eq_true rfl) (by decide) dX11_doAll_2 (fun H locs hw => ?_)
  refine lv_istore_n (lv' := [(1, _), (0, _)]) hx hb dX11_doAll_5 rfl hl (by decide) rfl (fun ls hl => ?_)
  refine lv_aload_n hx hb dX11_doAll_6 rfl (lv_at hl 1 rfl) ?_
  refine z_geti (o := 70) (C := RX11) (T := TX11) (N := 11) (ci := 9) (k := 10) hx hb Z hw (by decide) (by omega) rfl inX11 (by decide) wd885 dX11_doAll_7 ?_
  refine lv_if_eq (tgt := 21) hx hb dX11_doAll_10 (by decide) (fun c10 => ?_) (fun c10 => ?_)
  · have hf := (if_pos c10).symm.trans hf
    refine lv_aload_n hx hb dX11_doAll_21 rfl (lv_at hl 1 rfl) ?_
    obtain ⟨q22, hq22, hf⟩ := ob_some hf
    refine z_callVv (o := 70) (ci := 9) (As := []) (rest := []) (t_X11_putAside G l hN  q2.2 hq22) cv_X11_putAside hx hb hml hl.1 Z hw (by decide) (by decide) (by omega) rfl rfl wd914 rfl rfl (Nat.le_of_ble_eq_true rfl) (by decide) dX11_doAll_22 (fun H locs hw => ?_)
    refine lv_aload_n hx hb dX11_doAll_25 rfl (lv_at hl 1 rfl) ?_
    refine lv_aload_n hx hb dX11_doAll_26 rfl (lv_at hl 1 rfl) ?_
    refine lv_iconst (v := (1 : Int32)) hx hb dX11_doAll_27 (by decide) ?_
    obtain ⟨q28, hq28, hf⟩ := ob_some hf
    refine z_callVi (o := 70) (ci := 9) (As := [.int (1 : Int32)]) (rest := [.ref (ra G 70)]) (t_X11_go G l hN (1 : Int32) q22 hq28) cv_X11_go hx hb hml hl.1 Z hw (by decide) (by decide) (by omega) rfl rfl wd1048 rfl rfl (Nat.le_of_ble_eq_true rfl) (by decide) dX11_doAll_28 (fun H locs hw => ?_)
    obtain ⟨q31, hq31, hf⟩ := ob_some hf
    refine z_callVi (o := 70) (ci := 9) (As := [.int q28.1]) (rest := []) (t_X11_act G l hN q28.1 q28.2 hq31) cv_X11_act hx hb hml hl.1 Z hw (by decide) (by decide) (by omega) rfl rfl wd951 rfl rfl (Nat.le_of_ble_eq_true rfl) (by decide) dX11_doAll_31 (fun H locs hw => ?_)
    obtain ⟨rfl, rfl⟩ := Prod.mk.inj (Option.some.inj hf)
    exact z_iret hx hb hr hlk hw dX11_doAll_34
  · have hf := (if_neg c10).symm.trans hf
    refine lv_bipush (v := (-100 : Int32)) hx hb dX11_doAll_13 (by decide) ?_
    refine lv_aload_n hx hb dX11_doAll_15 rfl (lv_at hl 1 rfl) ?_
    refine z_geti (o := 70) (C := RX11) (T := TX11) (N := 11) (ci := 9) (k := 9) hx hb Z hw (by decide) (by omega) rfl inX11 (by decide) wd884 dX11_doAll_16 ?_
    refine lv_isub hx hb dX11_doAll_19 ?_
    obtain ⟨rfl, rfl⟩ := Prod.mk.inj (Option.some.inj hf)
    exact z_iret hx hb hr hlk hw dX11_doAll_20
set_option maxHeartbeats 4000000 in
set_option maxRecDepth 100000 in
theorem w_X11_undo_L22 (G : GM) (l : Launch) (hN : 77 ≤ gN G)  {p : Program} {e : Env} {s : State} {m : MethodId} {args : Array Value} {below : List Frame} {meth : Method} {c : Code} (hx : p.tables.exec = Jvm.exec) (hb : c.code = cX11_undo) (hr : meth.sig.returnType = (some .int)) (hlk : meth.locks = false) (hml : c.maxLocals = 2) (Z : ZK G s args m RX11) : ∀ (n : Nat) (x1 : Int32)  (h : HP)  (rv : Option Value) (hq : HP) (ls : Array Slot) (H : Heap) (locs : List Loc) {q : HP}, lv_has ls 2 [(0, .ref (ra G 70)), (1, .int x1)] → HW G h s H locs → f_X11_undo_L22 n x1 h = some q → (∀ (ls : Array Slot) (H : Heap) (locs : List Loc), lv_has ls 2 [(0, .ref (ra G 70))] → HW G q s H locs → WZ p l e 0 s m args below meth c G rv hq H locs (F0 m 56 ls [])) → WZ p l e 0 s m args below meth c G rv hq H locs (F0 m 22 ls []) := by
  intro n
  induction n with
  | zero => intro x1  h  rv hq ls H locs q hl hw hf kk; cases hf
  | succ n ih =>
    intro x1  h  rv hq ls H locs q hl hw hf kk
    rw [f_X11_undo_L22] at hf
    refine lv_iload_n hx hb dX11_undo_22 rfl (lv_at hl 1 rfl) ?_
    refine lv_sipush (v := (166 : Int32)) hx hb dX11_undo_23 (by decide) ?_
    refine lv_icmp_ge (tgt := 56) hx hb dX11_undo_26 (by decide) (fun c26 => ?_) (fun c26 => ?_)
    · have hf := (if_pos c26).symm.trans hf
      obtain rfl := Option.some.inj hf
      exact kk ls H locs (lv_sub hl [0] rfl) hw
    · have hf := (if_neg c26).symm.trans hf
      refine lv_aload_n hx hb dX11_undo_29 rfl (lv_at hl 0 rfl) ?_
      refine z_getr (o := 70) (o2 := 71) (C := RX11) (T := TX11) (N := 11) (ci := 9) (k := 0) hx hb Z hw (by decide) (by omega) rfl inX11 (by decide) rfl wd875 dX11_undo_30 ?_
      refine lv_iload_n hx hb dX11_undo_33 rfl (lv_at hl 1 rfl) ?_
      refine lv_aload_n hx hb dX11_undo_34 rfl (lv_at hl 0 rfl) ?_
      refine z_getr (o := 70) (o2 := 73) (C := RX11) (T := TX11) (N := 11) (ci := 9) (k := 2) hx hb Z hw (by decide) (by omega) rfl inX11 (by decide) rfl wd877 dX11_undo_35 ?_
      refine lv_sipush (v := (166 : Int32)) hx hb dX11_undo_38 (by decide) ?_
      refine lv_aload_n hx hb dX11_undo_41 rfl (lv_at hl 0 rfl) ?_
      refine z_geti (o := 70) (C := RX11) (T := TX11) (N := 11) (ci := 9) (k := 3) hx hb Z hw (by decide) (by omega) rfl inX11 (by decide) wd878 dX11_undo_42 ?_
      refine lv_imul hx hb dX11_undo_45 ?_
      refine lv_iload_n hx hb dX11_undo_46 rfl (lv_at hl 1 rfl) ?_
      refine lv_iadd hx hb dX11_undo_47 ?_
      obtain ⟨h48, hf⟩ := gd_some hf
      refine y_iald (o := 73) (k := (((166 : Int32) * (h 70 3)) + x1).toNatClampNeg) hx hb Z hw (by decide) (by omega) rfl (inB_vp h48) dX11_undo_48 ?_
      obtain ⟨h49, hf⟩ := gd_some hf
      refine y_iast (o := 71) (k := x1.toNatClampNeg) hx hb Z hw (by decide) (by omega) rfl (inB_vp h49) dX11_undo_49 (fun H locs hw => ?_)
      refine lv_iinc (v := x1 + (1 : Int32)) (lv' := [(1, _), (0, _)]) hx hb dX11_undo_50 hl (k := 1) rfl rfl (by decide) rfl (fun ls hl => ?_)
      refine lv_goto (tgt := 22) hx hb dX11_undo_53 (by decide) ?_
      exact ih (x1 + (1 : Int32)) (hset h 71 x1.toNatClampNeg (h 73 (((166 : Int32) * (h 70 3)) + x1).toNatClampNeg))  rv hq ls H locs (lv_sub hl [1, 0] rfl) hw hf kk
set_option maxHeartbeats 4000000 in
set_option maxRecDepth 100000 in
theorem t_X11_undo (G : GM) (l : Launch) (hN : 77 ≤ gN G)  (h : HP) {r : Int32} {h' : HP} (hf : f_X11_undo  h = some (r, h')) : MC G l yX11_undo cX11_undo 2 (some .int) 0 [.ref (ra G 70)] h h' (some (.int r)) := by
  unfold f_X11_undo at hf
  refine z_start (by decide) (Nat.le_of_ble_eq_true rfl) ?_
  intro p e s m args below meth c ls hx hb hr hlk hml Z hw hl
  have Z : ZK G s args m RX11 := Z
  have hl : lv_has ls 2 [(0, .ref (ra G 70))] := hl
  obtain ⟨H, hH⟩ : ∃ H, H = s.heap := ⟨_, rfl⟩
  rw [← hH] at hw ⊢
  obtain ⟨locs, hlc⟩ : ∃ locs : List Loc, locs = [] := ⟨_, rfl⟩
  rw [← hlc] at hw ⊢
  refine lv_aload_n hx hb dX11_undo_0 rfl (lv_at hl 0 rfl) ?_
  refine z_geti (o := 70) (C := RX11) (T := TX11) (N := 11) (ci := 9) (k := 3) hx hb Z hw (by decide) (by omega) rfl inX11 (by decide) wd878 dX11_undo_1 ?_
  refine lv_if_ne (tgt := 10) hx hb dX11_undo_4 (by decide) (fun c4 => ?_) (fun c4 => ?_)
  · have hf := (if_neg c4).symm.trans hf
    refine lv_aload_n hx hb dX11_undo_10 rfl (lv_at hl 0 rfl) ?_
    refine lv_dup hx hb dX11_undo_11 rfl ?_
    refine z_geti (o := 70) (C := RX11) (T := TX11) (N := 11) (ci := 9) (k := 3) hx hb Z hw (by decide) (by omega) rfl inX11 (by decide) wd878 dX11_undo_12 ?_
    refine lv_iconst (v := (1 : Int32)) hx hb dX11_undo_15 (by decide) ?_
    refine lv_isub hx hb dX11_undo_16 ?_
    refine z_puti (o := 70) (v := (h 70 3) - (1 : Int32)) (ty := .int) (C := RX11) (T := TX11) (N := 11) (ci := 9) (k := 3) hx hb Z hw (by decide) (by omega) rfl inX11 tyX11 tyX11_ok nmX11 (by decide) wd878 rfl (by decide +kernel) rfl rfl dX11_undo_17 (fun H locs hw => ?_)
    refine lv_iconst (v := (0 : Int32)) hx hb dX11_undo_20 (by decide) ?_
    refine lv_istore_n (lv' := [(1, _), (0, _)]) hx hb dX11_undo_21 rfl hl (by decide) rfl (fun ls hl => ?_)
    obtain ⟨q22, hq22, hf⟩ := ob_some hf
    refine w_X11_undo_L22 G l hN  hx hb hr hlk hml Z FU (0 : Int32) (hset h 70 3 ((h 70 3) - (1 : Int32)))  _ _ ls H locs (lv_sub hl [1, 0] rfl) hw hq22 (fun ls H locs hl hw => ?_)
    refine lv_aload_n hx hb dX11_undo_56 rfl (lv_at hl 0 rfl) ?_
    refine z_geti (o := 70) (C := RX11) (T := TX11) (N := 11) (ci := 9) (k := 3) hx hb Z hw (by decide) (by omega) rfl inX11 (by decide) wd878 dX11_undo_57 ?_
    obtain ⟨rfl, rfl⟩ := Prod.mk.inj (Option.some.inj hf)
    exact z_iret hx hb hr hlk hw dX11_undo_60
  · have hf := (if_pos c4).symm.trans hf
    refine lv_bipush (v := (-5 : Int32)) hx hb dX11_undo_7 (by decide) ?_
    obtain ⟨rfl, rfl⟩ := Prod.mk.inj (Option.some.inj hf)
    exact z_iret hx hb hr hlk hw dX11_undo_9
set_option maxHeartbeats 4000000 in
set_option maxRecDepth 100000 in
theorem w_X11_keep_L2 (G : GM) (l : Launch) (hN : 77 ≤ gN G)  {p : Program} {e : Env} {s : State} {m : MethodId} {args : Array Value} {below : List Frame} {meth : Method} {c : Code} (hx : p.tables.exec = Jvm.exec) (hb : c.code = cX11_keep) (hr : meth.sig.returnType = (some .int)) (hlk : meth.locks = false) (hml : c.maxLocals = 2) (Z : ZK G s args m RX11) : ∀ (n : Nat) (x1 : Int32)  (h : HP)  (rv : Option Value) (hq : HP) (ls : Array Slot) (H : Heap) (locs : List Loc) {q : HP}, lv_has ls 2 [(0, .ref (ra G 70)), (1, .int x1)] → HW G h s H locs → f_X11_keep_L2 n x1 h = some q → (∀ (ls : Array Slot) (H : Heap) (locs : List Loc), lv_has ls 2 [(0, .ref (ra G 70))] → HW G q s H locs → WZ p l e 0 s m args below meth c G rv hq H locs (F0 m 27 ls [])) → WZ p l e 0 s m args below meth c G rv hq H locs (F0 m 2 ls []) := by
  intro n
  induction n with
  | zero => intro x1  h  rv hq ls H locs q hl hw hf kk; cases hf
  | succ n ih =>
    intro x1  h  rv hq ls H locs q hl hw hf kk
    rw [f_X11_keep_L2] at hf
    refine lv_iload_n hx hb dX11_keep_2 rfl (lv_at hl 1 rfl) ?_
    refine lv_sipush (v := (166 : Int32)) hx hb dX11_keep_3 (by decide) ?_
    refine lv_icmp_ge (tgt := 27) hx hb dX11_keep_6 (by decide) (fun c6 => ?_) (fun c6 => ?_)
    · have hf := (if_pos c6).symm.trans hf
      obtain rfl := Option.some.inj hf
      exact kk ls H locs (lv_sub hl [0] rfl) hw
    · have hf := (if_neg c6).symm.trans hf
      refine lv_aload_n hx hb dX11_keep_9 rfl (lv_at hl 0 rfl) ?_
      refine z_getr (o := 70) (o2 := 74) (C := RX11) (T := TX11) (N := 11) (ci := 9) (k := 4) hx hb Z hw (by decide) (by omega) rfl inX11 (by decide) rfl wd879 dX11_keep_10 ?_
      refine lv_iload_n hx hb dX11_keep_13 rfl (lv_at hl 1 rfl) ?_
      refine lv_aload_n hx hb dX11_keep_14 rfl (lv_at hl 0 rfl) ?_
      refine z_getr (o := 70) (o2 := 71) (C := RX11) (T := TX11) (N := 11) (ci := 9) (k := 0) hx hb Z hw (by decide) (by omega) rfl inX11 (by decide) rfl wd875 dX11_keep_15 ?_
      refine lv_iload_n hx hb dX11_keep_18 rfl (lv_at hl 1 rfl) ?_
      obtain ⟨h19, hf⟩ := gd_some hf
      refine y_iald (o := 71) (k := x1.toNatClampNeg) hx hb Z hw (by decide) (by omega) rfl (inB_vp h19) dX11_keep_19 ?_
      obtain ⟨h20, hf⟩ := gd_some hf
      refine y_iast (o := 74) (k := x1.toNatClampNeg) hx hb Z hw (by decide) (by omega) rfl (inB_vp h20) dX11_keep_20 (fun H locs hw => ?_)
      refine lv_iinc (v := x1 + (1 : Int32)) (lv' := [(1, _), (0, _)]) hx hb dX11_keep_21 hl (k := 1) rfl rfl (by decide) rfl (fun ls hl => ?_)
      refine lv_goto (tgt := 2) hx hb dX11_keep_24 (by decide) ?_
      exact ih (x1 + (1 : Int32)) (hset h 74 x1.toNatClampNeg (h 71 x1.toNatClampNeg))  rv hq ls H locs (lv_sub hl [1, 0] rfl) hw hf kk
set_option maxHeartbeats 4000000 in
set_option maxRecDepth 100000 in
theorem t_X11_keep (G : GM) (l : Launch) (hN : 77 ≤ gN G)  (h : HP) {r : Int32} {h' : HP} (hf : f_X11_keep  h = some (r, h')) : MC G l yX11_keep cX11_keep 2 (some .int) 0 [.ref (ra G 70)] h h' (some (.int r)) := by
  unfold f_X11_keep at hf
  refine z_start (by decide) (Nat.le_of_ble_eq_true rfl) ?_
  intro p e s m args below meth c ls hx hb hr hlk hml Z hw hl
  have Z : ZK G s args m RX11 := Z
  have hl : lv_has ls 2 [(0, .ref (ra G 70))] := hl
  obtain ⟨H, hH⟩ : ∃ H, H = s.heap := ⟨_, rfl⟩
  rw [← hH] at hw ⊢
  obtain ⟨locs, hlc⟩ : ∃ locs : List Loc, locs = [] := ⟨_, rfl⟩
  rw [← hlc] at hw ⊢
  refine lv_iconst (v := (0 : Int32)) hx hb dX11_keep_0 (by decide) ?_
  refine lv_istore_n (lv' := [(1, _), (0, _)]) hx hb dX11_keep_1 rfl hl (by decide) rfl (fun ls hl => ?_)
  obtain ⟨q2, hq2, hf⟩ := ob_some hf
  refine w_X11_keep_L2 G l hN  hx hb hr hlk hml Z FU (0 : Int32) h  _ _ ls H locs (lv_sub hl [1, 0] rfl) hw hq2 (fun ls H locs hl hw => ?_)
  refine lv_aload_n hx hb dX11_keep_27 rfl (lv_at hl 0 rfl) ?_
  refine lv_iconst (v := (1 : Int32)) hx hb dX11_keep_28 (by decide) ?_
  refine z_puti (o := 70) (v := (1 : Int32)) (ty := .boolean) (C := RX11) (T := TX11) (N := 11) (ci := 9) (k := 5) hx hb Z hw (by decide) (by omega) rfl inX11 tyX11 tyX11_ok nmX11 (by decide) wd880 rfl (by decide +kernel) rfl rfl dX11_keep_29 (fun H locs hw => ?_)
  refine lv_aload_n hx hb dX11_keep_32 rfl (lv_at hl 0 rfl) ?_
  obtain ⟨h33, hqh33, hf⟩ := tb_ex hf
  rw [hqh33] at hw
  refine z_getr (o := 70) (o2 := 71) (C := RX11) (T := TX11) (N := 11) (ci := 9) (k := 0) hx hb Z hw (by decide) (by omega) rfl inX11 (by decide) rfl wd875 dX11_keep_33 ?_
  refine lv_bipush (v := (8 : Int32)) hx hb dX11_keep_36 (by decide) ?_
  refine y_iald (o := 71) (k := 8) hx hb Z hw (by decide) (by omega) (by decide) (inB_vp (by decide)) dX11_keep_38 ?_
  obtain ⟨rfl, rfl⟩ := Prod.mk.inj (Option.some.inj hf)
  exact z_iret hx hb hr hlk hw dX11_keep_39
set_option maxHeartbeats 4000000 in
set_option maxRecDepth 100000 in
theorem w_X11_restore_L16 (G : GM) (l : Launch) (hN : 77 ≤ gN G)  {p : Program} {e : Env} {s : State} {m : MethodId} {args : Array Value} {below : List Frame} {meth : Method} {c : Code} (hx : p.tables.exec = Jvm.exec) (hb : c.code = cX11_restore) (hr : meth.sig.returnType = (some .int)) (hlk : meth.locks = false) (hml : c.maxLocals = 2) (Z : ZK G s args m RX11) : ∀ (n : Nat) (x1 : Int32)  (h : HP)  (rv : Option Value) (hq : HP) (ls : Array Slot) (H : Heap) (locs : List Loc) {q : HP}, lv_has ls 2 [(0, .ref (ra G 70)), (1, .int x1)] → HW G h s H locs → f_X11_restore_L16 n x1 h = some q → (∀ (ls : Array Slot) (H : Heap) (locs : List Loc), lv_has ls 2 [(0, .ref (ra G 70))] → HW G q s H locs → WZ p l e 2 s m args below meth c G rv hq H locs (F0 m 41 ls [])) → WZ p l e 2 s m args below meth c G rv hq H locs (F0 m 16 ls []) := by
  intro n
  induction n with
  | zero => intro x1  h  rv hq ls H locs q hl hw hf kk; cases hf
  | succ n ih =>
    intro x1  h  rv hq ls H locs q hl hw hf kk
    rw [f_X11_restore_L16] at hf
    refine lv_iload_n hx hb dX11_restore_16 rfl (lv_at hl 1 rfl) ?_
    refine lv_sipush (v := (166 : Int32)) hx hb dX11_restore_17 (by decide) ?_
    refine lv_icmp_ge (tgt := 41) hx hb dX11_restore_20 (by decide) (fun c20 => ?_) (fun c20 => ?_)
    · have hf := (if_pos c20).symm.trans hf
      obtain rfl := Option.some.inj hf
      exact kk ls H locs (lv_sub hl [0] rfl) hw
    · have hf := (if_neg c20).symm.trans hf
      refine lv_aload_n hx hb dX11_restore_23 rfl (lv_at hl 0 rfl) ?_
      refine z_getr (o := 70) (o2 := 71) (C := RX11) (T := TX11) (N := 11) (ci := 9) (k := 0) hx hb Z hw (by decide) (by omega) rfl inX11 (by decide) rfl wd875 dX11_restore_24 ?_
      refine lv_iload_n hx hb dX11_restore_27 rfl (lv_at hl 1 rfl) ?_
      refine lv_aload_n hx hb dX11_restore_28 rfl (lv_at hl 0 rfl) ?_
      refine z_getr (o := 70) (o2 := 74) (C := RX11) (T := TX11) (N := 11) (ci := 9) (k := 4) hx hb Z hw (by decide) (by omega) rfl inX11 (by decide) rfl wd879 dX11_restore_29 ?_
      refine lv_iload_n hx hb dX11_restore_32 rfl (lv_at hl 1 rfl) ?_
      obtain ⟨h33, hf⟩ := gd_some hf
      refine y_iald (o := 74) (k := x1.toNatClampNeg) hx hb Z hw (by decide) (by omega) rfl (inB_vp h33) dX11_restore_33 ?_
      obtain ⟨h34, hf⟩ := gd_some hf
      refine y_iast (o := 71) (k := x1.toNatClampNeg) hx hb Z hw (by decide) (by omega) rfl (inB_vp h34) dX11_restore_34 (fun H locs hw => ?_)
      refine lv_iinc (v := x1 + (1 : Int32)) (lv' := [(1, _), (0, _)]) hx hb dX11_restore_35 hl (k := 1) rfl rfl (by decide) rfl (fun ls hl => ?_)
      refine lv_goto (tgt := 16) hx hb dX11_restore_38 (by decide) ?_
      exact ih (x1 + (1 : Int32)) (hset h 71 x1.toNatClampNeg (h 74 x1.toNatClampNeg))  rv hq ls H locs (lv_sub hl [1, 0] rfl) hw hf kk
set_option maxHeartbeats 4000000 in
set_option maxRecDepth 100000 in
theorem t_X11_restore (G : GM) (l : Launch) (hN : 77 ≤ gN G)  (h : HP) {r : Int32} {h' : HP} (hf : f_X11_restore  h = some (r, h')) : MC G l yX11_restore cX11_restore 2 (some .int) 2 [.ref (ra G 70)] h h' (some (.int r)) := by
  unfold f_X11_restore at hf
  refine z_start (by decide) (Nat.le_of_ble_eq_true rfl) ?_
  intro p e s m args below meth c ls hx hb hr hlk hml Z hw hl
  have Z : ZK G s args m RX11 := Z
  have hl : lv_has ls 2 [(0, .ref (ra G 70))] := hl
  obtain ⟨H, hH⟩ : ∃ H, H = s.heap := ⟨_, rfl⟩
  rw [← hH] at hw ⊢
  obtain ⟨locs, hlc⟩ : ∃ locs : List Loc, locs = [] := ⟨_, rfl⟩
  rw [← hlc] at hw ⊢
  refine lv_aload_n hx hb dX11_restore_0 rfl (lv_at hl 0 rfl) ?_
  refine z_geti (o := 70) (C := RX11) (T := TX11) (N := 11) (ci := 9) (k := 5) hx hb Z hw (by decide) (by omega) rfl inX11 (by decide) wd880 dX11_restore_1 ?_
  refine lv_if_ne (tgt := 10) hx hb dX11_restore_4 (by decide) (fun c4 => ?_) (fun c4 => ?_)
  · have hf := (if_neg c4).symm.trans hf
    refine lv_aload_n hx hb dX11_restore_10 rfl (lv_at hl 0 rfl) ?_
    obtain ⟨q11, hq11, hf⟩ := ob_some hf
    refine z_callVv (o := 70) (ci := 9) (As := []) (rest := []) (t_X11_putAside G l hN  h hq11) cv_X11_putAside hx hb hml hl.1 Z hw (by decide) (by decide) (by omega) rfl rfl wd914 rfl rfl (Nat.le_of_ble_eq_true rfl) (by decide) dX11_restore_11 (fun H locs hw => ?_)
    refine lv_iconst (v := (0 : Int32)) hx hb dX11_restore_14 (by decide) ?_
    refine lv_istore_n (lv' := [(1, _), (0, _)]) hx hb dX11_restore_15 rfl hl (by decide) rfl (fun ls hl => ?_)
    obtain ⟨q16, hq16, hf⟩ := ob_some hf
    refine w_X11_restore_L16 G l hN  hx hb hr hlk hml Z FU (0 : Int32) q11  _ _ ls H locs (lv_sub hl [1, 0] rfl) hw hq16 (fun ls H locs hl hw => ?_)
    refine lv_aload_n hx hb dX11_restore_41 rfl (lv_at hl 0 rfl) ?_
    refine lv_aload_n hx hb dX11_restore_42 rfl (lv_at hl 0 rfl) ?_
    refine z_getr (o := 70) (o2 := 71) (C := RX11) (T := TX11) (N := 11) (ci := 9) (k := 0) hx hb Z hw (by decide) (by omega) rfl inX11 (by decide) rfl wd875 dX11_restore_43 ?_
    refine lv_bipush (v := (8 : Int32)) hx hb dX11_restore_46 (by decide) ?_
    refine y_iald (o := 71) (k := 8) hx hb Z hw (by decide) (by omega) (by decide) (inB_vp (by decide)) dX11_restore_48 ?_
    obtain ⟨q49, hq49, hf⟩ := ob_some hf
    refine z_callVi (o := 70) (ci := 9) (As := [.int (q16 71 8)]) (rest := []) (t_X11_act G l hN (q16 71 8) q16 hq49) cv_X11_act hx hb hml hl.1 Z hw (by decide) (by decide) (by omega) rfl rfl wd951 rfl rfl (Nat.le_of_ble_eq_true rfl) (by decide) dX11_restore_49 (fun H locs hw => ?_)
    obtain ⟨rfl, rfl⟩ := Prod.mk.inj (Option.some.inj hf)
    exact z_iret hx hb hr hlk hw dX11_restore_52
  · have hf := (if_pos c4).symm.trans hf
    refine lv_bipush (v := (-5 : Int32)) hx hb dX11_restore_7 (by decide) ?_
    obtain ⟨rfl, rfl⟩ := Prod.mk.inj (Option.some.inj hf)
    exact z_iret hx hb hr hlk hw dX11_restore_9
set_option maxHeartbeats 4000000 in
set_option maxRecDepth 100000 in
theorem t_X11_frame (G : GM) (l : Launch) (hN : 77 ≤ gN G) (x1 : Int32) (x2 : Int32) (h : HP) {r : Int32} {h' : HP} (hf : f_X11_frame x1 x2 h = some (r, h')) : MC G l yX11_frame cX11_frame 3 (some .int) 5 [.ref (ra G 70), .int x1, .int x2] h h' (some (.int r)) := by
  unfold f_X11_frame at hf
  refine z_start (by decide) (Nat.le_of_ble_eq_true rfl) ?_
  intro p e s m args below meth c ls hx hb hr hlk hml Z hw hl
  have Z : ZK G s args m RX11 := Z
  have hl : lv_has ls 3 [(0, .ref (ra G 70)), (1, .int x1), (2, .int x2)] := hl
  obtain ⟨H, hH⟩ : ∃ H, H = s.heap := ⟨_, rfl⟩
  rw [← hH] at hw ⊢
  obtain ⟨locs, hlc⟩ : ∃ locs : List Loc, locs = [] := ⟨_, rfl⟩
  rw [← hlc] at hw ⊢
  refine lv_aload_n hx hb dX11_frame_0 rfl (lv_at hl 0 rfl) ?_
  refine lv_iload_n hx hb dX11_frame_1 rfl (lv_at hl 1 rfl) ?_
  refine z_callVi (o := 70) (ci := 9) (As := [.int x1]) (rest := []) (t_X11_isFrame G l hN x1 h) cv_X11_isFrame hx hb hml hl.1 Z hw (by decide) (by decide) (by omega) rfl rfl wd922 rfl rfl (Nat.le_of_ble_eq_true rfl) (by decide) dX11_frame_2 (fun H locs hw => ?_)
  refine lv_if_ne (tgt := 10) hx hb dX11_frame_5 (by decide) (fun c5 => ?_) (fun c5 => ?_)
  · have hf := (if_neg c5).symm.trans hf
    refine lv_aload_n hx hb dX11_frame_10 rfl (lv_at hl 0 rfl) ?_
    refine lv_bipush (v := (-5 : Int32)) hx hb dX11_frame_11 (by decide) ?_
    obtain ⟨q13, hq13, hf⟩ := ob_some hf
    refine z_callVv (o := 70) (ci := 9) (As := [.int (-5 : Int32)]) (rest := []) (t_X11_lay G l hN (-5 : Int32) h hq13) cv_X11_lay hx hb hml hl.1 Z hw (by decide) (by decide) (by omega) rfl rfl wd971 rfl rfl (Nat.le_of_ble_eq_true rfl) (by decide) dX11_frame_13 (fun H locs hw => ?_)
    refine lv_iload_n hx hb dX11_frame_16 rfl (lv_at hl 2 rfl) ?_
    by_cases c17_0 : x2 = 0
    · have hf := (if_pos c17_0).symm.trans hf
      refine z_sw c17_0 ?_
      refine lv_tableIn (tgt := 68) hx hb dX11_frame_17 (by decide) (by decide) rfl (by decide) ?_
      refine lv_aload_n hx hb dX11_frame_68 rfl (lv_at hl 0 rfl) ?_
      refine lv_iload_n hx hb dX11_frame_69 rfl (lv_at hl 1 rfl) ?_
      obtain ⟨q70, hq70, hf⟩ := ob_some hf
      refine z_callVi (o := 70) (ci := 9) (As := [.int x1]) (rest := []) (t_X11_turnOf G l hN x1 q13 hq70) cv_X11_turnOf hx hb hml hl.1 Z hw (by decide) (by decide) (by omega) rfl rfl wd1009 rfl rfl (Nat.le_of_ble_eq_true rfl) (by decide) dX11_frame_70 (fun H locs hw => ?_)
      obtain ⟨rfl, rfl⟩ := Prod.mk.inj (Option.some.inj hf)
      exact z_iret hx hb hr hlk hw dX11_frame_73
    have hf := (if_neg c17_0).symm.trans hf
    by_cases c17_1 : x2 = 1
    · have hf := (if_pos c17_1).symm.trans hf
      refine z_sw c17_1 ?_
      refine lv_tableIn (tgt := 74) hx hb dX11_frame_17 (by decide) (by decide) rfl (by decide) ?_
      refine lv_iload_n hx hb dX11_frame_74 rfl (lv_at hl 1 rfl) ?_
      refine lv_aload_n hx hb dX11_frame_75 rfl (lv_at hl 0 rfl) ?_
      refine lv_aload_n hx hb dX11_frame_76 rfl (lv_at hl 0 rfl) ?_
      refine lv_iload_n hx hb dX11_frame_77 rfl (lv_at hl 1 rfl) ?_
      obtain ⟨q78, hq78, hf⟩ := ob_some hf
      refine z_callVi (o := 70) (ci := 9) (As := [.int x1]) (rest := [.ref (ra G 70), .int x1]) (t_X11_turnOf G l hN x1 q13 hq78) cv_X11_turnOf hx hb hml hl.1 Z hw (by decide) (by decide) (by omega) rfl rfl wd1009 rfl rfl (Nat.le_of_ble_eq_true rfl) (by decide) dX11_frame_78 (fun H locs hw => ?_)
      refine z_callVi (o := 70) (ci := 9) (As := [.int q78]) (rest := [.int x1]) (t_X11_start G l hN q78 q13) cv_X11_start hx hb hml hl.1 Z hw (by decide) (by decide) (by omega) rfl rfl wd930 rfl rfl (Nat.le_of_ble_eq_true rfl) (by decide) dX11_frame_81 (fun H locs hw => ?_)
      refine lv_isub hx hb dX11_frame_84 ?_
      obtain ⟨rfl, rfl⟩ := Prod.mk.inj (Option.some.inj hf)
      exact z_iret hx hb hr hlk hw dX11_frame_85
    have hf := (if_neg c17_1).symm.trans hf
    by_cases c17_2 : x2 = 2
    · have hf := (if_pos c17_2).symm.trans hf
      refine z_sw c17_2 ?_
      refine lv_tableIn (tgt := 86) hx hb dX11_frame_17 (by decide) (by decide) rfl (by decide) ?_
      refine lv_aload_n hx hb dX11_frame_86 rfl (lv_at hl 0 rfl) ?_
      refine lv_iload_n hx hb dX11_frame_87 rfl (lv_at hl 1 rfl) ?_
      refine z_callVi (o := 70) (ci := 9) (As := [.int x1]) (rest := []) (t_X11_hasGroup G l hN x1 q13) cv_X11_hasGroup hx hb hml hl.1 Z hw (by decide) (by decide) (by omega) rfl rfl wd1100 rfl rfl (Nat.le_of_ble_eq_true rfl) (by decide) dX11_frame_88 (fun H locs hw => ?_)
      refine lv_if_eq (tgt := 100) hx hb dX11_frame_91 (by decide) (fun c91 => ?_) (fun c91 => ?_)
      · have hf := (if_pos c91).symm.trans hf
        refine lv_bipush (v := (-5 : Int32)) hx hb dX11_frame_100 (by decide) ?_
        obtain ⟨rfl, rfl⟩ := Prod.mk.inj (Option.some.inj hf)
        exact z_iret hx hb hr hlk hw dX11_frame_102
      · have hf := (if_neg c91).symm.trans hf
        refine lv_iload_n hx hb dX11_frame_94 rfl (lv_at hl 1 rfl) ?_
        refine lv_iconst (v := (5 : Int32)) hx hb dX11_frame_95 (by decide) ?_
        refine lv_idiv hx hb dX11_frame_96 (by decide) ?_
        refine lv_goto (tgt := 102) hx hb dX11_frame_97 (by decide) ?_
        obtain ⟨rfl, rfl⟩ := Prod.mk.inj (Option.some.inj hf)
        exact z_iret hx hb hr hlk hw dX11_frame_102
    have hf := (if_neg c17_2).symm.trans hf
    by_cases c17_3 : x2 = 3
    · have hf := (if_pos c17_3).symm.trans hf
      refine z_sw c17_3 ?_
      refine lv_tableIn (tgt := 103) hx hb dX11_frame_17 (by decide) (by decide) rfl (by decide) ?_
      refine lv_iload_n hx hb dX11_frame_103 rfl (lv_at hl 1 rfl) ?_
      refine z_callSi (As := [.int x1]) (rest := []) (t_X11_isCheck G l hN x1 q13) cs_X11_isCheck hx hb hml hl.1 Z hw wd937 rfl rfl (Nat.le_of_ble_eq_true rfl) (by decide) dX11_frame_104 (fun H locs hw => ?_)
      refine lv_if_eq (tgt := 114) hx hb dX11_frame_107 (by decide) (fun c107 => ?_) (fun c107 => ?_)
      · have hf := (if_pos c107).symm.trans hf
        refine lv_iconst (v := (0 : Int32)) hx hb dX11_frame_114 (by decide) ?_
        obtain ⟨rfl, rfl⟩ := Prod.mk.inj (Option.some.inj hf)
        exact z_iret hx hb hr hlk hw dX11_frame_115
      · have hf := (if_neg c107).symm.trans hf
        refine lv_iconst (v := (1 : Int32)) hx hb dX11_frame_110 (by decide) ?_
        refine lv_goto (tgt := 115) hx hb dX11_frame_111 (by decide) ?_
        obtain ⟨rfl, rfl⟩ := Prod.mk.inj (Option.some.inj hf)
        exact z_iret hx hb hr hlk hw dX11_frame_115
    have hf := (if_neg c17_3).symm.trans hf
    by_cases c17_4 : x2 = 4
    · have hf := (if_pos c17_4).symm.trans hf
      refine z_sw c17_4 ?_
      refine lv_tableIn (tgt := 116) hx hb dX11_frame_17 (by decide) (by decide) rfl (by decide) ?_
      refine lv_aload_n hx hb dX11_frame_116 rfl (lv_at hl 0 rfl) ?_
      refine z_getr (o := 70) (o2 := 76) (C := RX11) (T := TX11) (N := 11) (ci := 9) (k := 8) hx hb Z hw (by decide) (by omega) rfl inX11 (by decide) rfl wd883 dX11_frame_117 ?_
      refine lv_iload_n hx hb dX11_frame_120 rfl (lv_at hl 1 rfl) ?_
      obtain ⟨h121, hf⟩ := gd_some hf
      refine y_zald (o := 76) (k := x1.toNatClampNeg) hx hb Z hw (by decide) (by omega) rfl (inB_vp h121) dX11_frame_121 ?_
      refine lv_if_eq (tgt := 129) hx hb dX11_frame_122 (by decide) (fun c122 => ?_) (fun c122 => ?_)
      · have hf := (if_pos c122).symm.trans hf
        refine lv_iconst (v := (0 : Int32)) hx hb dX11_frame_129 (by decide) ?_
        obtain ⟨rfl, rfl⟩ := Prod.mk.inj (Option.some.inj hf)
        exact z_iret hx hb hr hlk hw dX11_frame_130
      · have hf := (if_neg c122).symm.trans hf
        refine lv_iconst (v := (1 : Int32)) hx hb dX11_frame_125 (by decide) ?_
        refine lv_goto (tgt := 130) hx hb dX11_frame_126 (by decide) ?_
        obtain ⟨rfl, rfl⟩ := Prod.mk.inj (Option.some.inj hf)
        exact z_iret hx hb hr hlk hw dX11_frame_130
    have hf := (if_neg c17_4).symm.trans hf
    by_cases c17_5 : x2 = 5
    · have hf := (if_pos c17_5).symm.trans hf
      refine z_sw c17_5 ?_
      refine lv_tableIn (tgt := 131) hx hb dX11_frame_17 (by decide) (by decide) rfl (by decide) ?_
      refine lv_aload_n hx hb dX11_frame_131 rfl (lv_at hl 0 rfl) ?_
      refine lv_iload_n hx hb dX11_frame_132 rfl (lv_at hl 1 rfl) ?_
      obtain ⟨q133, hq133, hf⟩ := ob_some hf
      refine z_callVi (o := 70) (ci := 9) (As := [.int x1]) (rest := []) (t_X11_how G l hN x1 q13 hq133) cv_X11_how hx hb hml hl.1 Z hw (by decide) (by decide) (by omega) rfl rfl wd1104 rfl rfl (Nat.le_of_ble_eq_true rfl) (by decide) dX11_frame_133 (fun H locs hw => ?_)
      obtain ⟨rfl, rfl⟩ := Prod.mk.inj (Option.some.inj hf)
      exact z_iret hx hb hr hlk hw dX11_frame_136
    have hf := (if_neg c17_5).symm.trans hf
    by_cases c17_6 : x2 = 6
    · have hf := (if_pos c17_6).symm.trans hf
      refine z_sw c17_6 ?_
      refine lv_tableIn (tgt := 137) hx hb dX11_frame_17 (by decide) (by decide) rfl (by decide) ?_
      refine lv_aload_n hx hb dX11_frame_137 rfl (lv_at hl 0 rfl) ?_
      refine lv_iload_n hx hb dX11_frame_138 rfl (lv_at hl 1 rfl) ?_
      obtain ⟨q139, hq139, hf⟩ := ob_some hf
      refine z_callVi (o := 70) (ci := 9) (As := [.int x1]) (rest := []) (t_X11_pits G l hN x1 q13 hq139) cv_X11_pits hx hb hml hl.1 Z hw (by decide) (by decide) (by omega) rfl rfl wd1115 rfl rfl (Nat.le_of_ble_eq_true rfl) (by decide) dX11_frame_139 (fun H locs hw => ?_)
      refine lv_aload_n hx hb dX11_frame_142 rfl (lv_at hl 0 rfl) ?_
      refine lv_iload_n hx hb dX11_frame_143 rfl (lv_at hl 1 rfl) ?_
      obtain ⟨q144, hq144, hf⟩ := ob_some hf
      refine z_callVi (o := 70) (ci := 9) (As := [.int x1]) (rest := [.int q139]) (t_X11_flats G l hN x1 q13 hq144) cv_X11_flats hx hb hml hl.1 Z hw (by decide) (by decide) (by omega) rfl rfl wd1126 rfl rfl (Nat.le_of_ble_eq_true rfl) (by decide) dX11_frame_144 (fun H locs hw => ?_)
      refine lv_iadd hx hb dX11_frame_147 ?_
      obtain ⟨rfl, rfl⟩ := Prod.mk.inj (Option.some.inj hf)
      exact z_iret hx hb hr hlk hw dX11_frame_148
    have hf := (if_neg c17_6).symm.trans hf
    by_cases c17_7 : x2 = 7
    · have hf := (if_pos c17_7).symm.trans hf
      refine z_sw c17_7 ?_
      refine lv_tableIn (tgt := 149) hx hb dX11_frame_17 (by decide) (by decide) rfl (by decide) ?_
      refine lv_aload_n hx hb dX11_frame_149 rfl (lv_at hl 0 rfl) ?_
      refine lv_iload_n hx hb dX11_frame_150 rfl (lv_at hl 1 rfl) ?_
      obtain ⟨q151, hq151, hf⟩ := ob_some hf
      refine z_callVi (o := 70) (ci := 9) (As := [.int x1]) (rest := []) (t_X11_pits G l hN x1 q13 hq151) cv_X11_pits hx hb hml hl.1 Z hw (by decide) (by decide) (by omega) rfl rfl wd1115 rfl rfl (Nat.le_of_ble_eq_true rfl) (by decide) dX11_frame_151 (fun H locs hw => ?_)
      refine lv_aload_n hx hb dX11_frame_154 rfl (lv_at hl 0 rfl) ?_
      refine lv_iload_n hx hb dX11_frame_155 rfl (lv_at hl 1 rfl) ?_
      obtain ⟨q156, hq156, hf⟩ := ob_some hf
      refine z_callVi (o := 70) (ci := 9) (As := [.int x1]) (rest := [.int q151]) (t_X11_flats G l hN x1 q13 hq156) cv_X11_flats hx hb hml hl.1 Z hw (by decide) (by decide) (by omega) rfl rfl wd1126 rfl rfl (Nat.le_of_ble_eq_true rfl) (by decide) dX11_frame_156 (fun H locs hw => ?_)
      refine lv_isub hx hb dX11_frame_159 ?_
      refine lv_bipush (v := (100 : Int32)) hx hb dX11_frame_160 (by decide) ?_
      refine lv_iadd hx hb dX11_frame_162 ?_
      obtain ⟨rfl, rfl⟩ := Prod.mk.inj (Option.some.inj hf)
      exact z_iret hx hb hr hlk hw dX11_frame_163
    have hf := (if_neg c17_7).symm.trans hf
    by_cases c17_8 : x2 = 8
    · have hf := (if_pos c17_8).symm.trans hf
      refine z_sw c17_8 ?_
      refine lv_tableIn (tgt := 164) hx hb dX11_frame_17 (by decide) (by decide) rfl (by decide) ?_
      refine lv_aload_n hx hb dX11_frame_164 rfl (lv_at hl 0 rfl) ?_
      refine lv_iload_n hx hb dX11_frame_165 rfl (lv_at hl 1 rfl) ?_
      obtain ⟨q166, hq166, hf⟩ := ob_some hf
      refine z_callVi (o := 70) (ci := 9) (As := [.int x1]) (rest := []) (t_X11_longestRun G l hN x1 q13 hq166) cv_X11_longestRun hx hb hml hl.1 Z hw (by decide) (by decide) (by omega) rfl rfl wd1133 rfl rfl (Nat.le_of_ble_eq_true rfl) (by decide) dX11_frame_166 (fun H locs hw => ?_)
      obtain ⟨rfl, rfl⟩ := Prod.mk.inj (Option.some.inj hf)
      exact z_iret hx hb hr hlk hw dX11_frame_169
    have hf := (if_neg c17_8).symm.trans hf
    refine lv_tableOut (tgt := 170) hx hb dX11_frame_17 (by have := [0]; have e0 := sw_ne (k := 0) (by decide) c17_0; have e1 := sw_ne (k := 1) (by decide) c17_1; have e2 := sw_ne (k := 2) (by decide) c17_2; have e3 := sw_ne (k := 3) (by decide) c17_3; have e4 := sw_ne (k := 4) (by decide) c17_4; have e5 := sw_ne (k := 5) (by decide) c17_5; have e6 := sw_ne (k := 6) (by decide) c17_6; have e7 := sw_ne (k := 7) (by decide) c17_7; have e8 := sw_ne (k := 8) (by decide) c17_8; omega) (by decide) ?_
    refine lv_bipush (v := (-2 : Int32)) hx hb dX11_frame_170 (by decide) ?_
    obtain ⟨rfl, rfl⟩ := Prod.mk.inj (Option.some.inj hf)
    exact z_iret hx hb hr hlk hw dX11_frame_172
  · have hf := (if_pos c5).symm.trans hf
    refine lv_iconst (v := (-1 : Int32)) hx hb dX11_frame_8 (by decide) ?_
    obtain ⟨rfl, rfl⟩ := Prod.mk.inj (Option.some.inj hf)
    exact z_iret hx hb hr hlk hw dX11_frame_9
set_option maxHeartbeats 4000000 in
set_option maxRecDepth 100000 in
theorem t_X11_symbol (G : GM) (l : Launch) (hN : 77 ≤ gN G) (x1 : Int32) (x2 : Int32) (x3 : Int32) (h : HP) {r : Int32} {h' : HP} (hf : f_X11_symbol x1 x2 x3 h = some (r, h')) : MC G l yX11_symbol cX11_symbol 4 (some .int) 6 [.ref (ra G 70), .int x1, .int x2, .int x3] h h' (some (.int r)) := by
  unfold f_X11_symbol at hf
  refine z_start (by decide) (Nat.le_of_ble_eq_true rfl) ?_
  intro p e s m args below meth c ls hx hb hr hlk hml Z hw hl
  have Z : ZK G s args m RX11 := Z
  have hl : lv_has ls 4 [(0, .ref (ra G 70)), (1, .int x1), (2, .int x2), (3, .int x3)] := hl
  obtain ⟨H, hH⟩ : ∃ H, H = s.heap := ⟨_, rfl⟩
  rw [← hH] at hw ⊢
  obtain ⟨locs, hlc⟩ : ∃ locs : List Loc, locs = [] := ⟨_, rfl⟩
  rw [← hlc] at hw ⊢
  refine lv_aload_n hx hb dX11_symbol_0 rfl (lv_at hl 0 rfl) ?_
  refine lv_iload_n hx hb dX11_symbol_1 rfl (lv_at hl 1 rfl) ?_
  refine z_callVi (o := 70) (ci := 9) (As := [.int x1]) (rest := []) (t_X11_isFrame G l hN x1 h) cv_X11_isFrame hx hb hml hl.1 Z hw (by decide) (by decide) (by omega) rfl rfl wd922 rfl rfl (Nat.le_of_ble_eq_true rfl) (by decide) dX11_symbol_2 (fun H locs hw => ?_)
  refine lv_if_ne (tgt := 10) hx hb dX11_symbol_5 (by decide) (fun c5 => ?_) (fun c5 => ?_)
  · have hf := (if_neg c5).symm.trans hf
    refine lv_iload_n hx hb dX11_symbol_10 rfl (lv_at hl 2 rfl) ?_
    refine lv_iconst (v := (0 : Int32)) hx hb dX11_symbol_11 (by decide) ?_
    refine lv_iconst (v := (3 : Int32)) hx hb dX11_symbol_12 (by decide) ?_
    refine z_callSi (As := [.int x2, .int (0 : Int32), .int (3 : Int32)]) (rest := []) (t_X11_in G l hN x2 (0 : Int32) (3 : Int32) h) cs_X11_in hx hb hml hl.1 Z hw wd934 rfl rfl (Nat.le_of_ble_eq_true rfl) (by decide) dX11_symbol_13 (fun H locs hw => ?_)
    refine lv_if_ne (tgt := 22) hx hb dX11_symbol_16 (by decide) (fun c16 => ?_) (fun c16 => ?_)
    · have hf := (if_neg c16).symm.trans hf
      refine lv_aload_n hx hb dX11_symbol_22 rfl (lv_at hl 0 rfl) ?_
      refine lv_bipush (v := (-5 : Int32)) hx hb dX11_symbol_23 (by decide) ?_
      obtain ⟨q25, hq25, hf⟩ := ob_some hf
      refine z_callVv (o := 70) (ci := 9) (As := [.int (-5 : Int32)]) (rest := []) (t_X11_lay G l hN (-5 : Int32) h hq25) cv_X11_lay hx hb hml hl.1 Z hw (by decide) (by decide) (by omega) rfl rfl wd971 rfl rfl (Nat.le_of_ble_eq_true rfl) (by decide) dX11_symbol_25 (fun H locs hw => ?_)
      refine lv_iload_n hx hb dX11_symbol_28 rfl (lv_at hl 3 rfl) ?_
      refine lv_if_ne (tgt := 41) hx hb dX11_symbol_29 (by decide) (fun c29 => ?_) (fun c29 => ?_)
      · have hf := (if_neg c29).symm.trans hf
        refine lv_aload_n hx hb dX11_symbol_41 rfl (lv_at hl 0 rfl) ?_
        refine lv_iload_n hx hb dX11_symbol_42 rfl (lv_at hl 1 rfl) ?_
        obtain ⟨q43, hq43, hf⟩ := ob_some hf
        refine z_callVi (o := 70) (ci := 9) (As := [.int x1]) (rest := []) (t_X11_how G l hN x1 q25 hq43) cv_X11_how hx hb hml hl.1 Z hw (by decide) (by decide) (by omega) rfl rfl wd1104 rfl rfl (Nat.le_of_ble_eq_true rfl) (by decide) dX11_symbol_43 (fun H locs hw => ?_)
        refine lv_iconst (v := (3 : Int32)) hx hb dX11_symbol_46 (by decide) ?_
        refine lv_icmp_ne (tgt := 55) hx hb dX11_symbol_47 (by decide) (fun c47 => ?_) (fun c47 => ?_)
        · have hf := (if_neg c47).symm.trans hf
          refine lv_aload_n hx hb dX11_symbol_55 rfl (lv_at hl 0 rfl) ?_
          refine lv_iload_n hx hb dX11_symbol_56 rfl (lv_at hl 1 rfl) ?_
          refine lv_iload_n hx hb dX11_symbol_57 rfl (lv_at hl 2 rfl) ?_
          obtain ⟨q58, hq58, hf⟩ := ob_some hf
          refine z_callVi (o := 70) (ci := 9) (As := [.int x1, .int x2]) (rest := []) (t_X11_toldSymbol G l hN x1 x2 q25 hq58) cv_X11_toldSymbol hx hb hml hl.1 Z hw (by decide) (by decide) (by omega) rfl rfl wd1141 rfl rfl (Nat.le_of_ble_eq_true rfl) (by decide) dX11_symbol_58 (fun H locs hw => ?_)
          obtain ⟨rfl, rfl⟩ := Prod.mk.inj (Option.some.inj hf)
          exact z_iret hx hb hr hlk hw dX11_symbol_61
        · have hf := (if_pos c47).symm.trans hf
          refine lv_bipush (v := (-5 : Int32)) hx hb dX11_symbol_50 (by decide) ?_
          refine lv_goto (tgt := 61) hx hb dX11_symbol_52 (by decide) ?_
          obtain ⟨rfl, rfl⟩ := Prod.mk.inj (Option.some.inj hf)
          exact z_iret hx hb hr hlk hw dX11_symbol_61
      · have hf := (if_pos c29).symm.trans hf
        refine lv_aload_n hx hb dX11_symbol_32 rfl (lv_at hl 0 rfl) ?_
        refine lv_iload_n hx hb dX11_symbol_33 rfl (lv_at hl 1 rfl) ?_
        refine lv_iload_n hx hb dX11_symbol_34 rfl (lv_at hl 2 rfl) ?_
        obtain ⟨q35, hq35, hf⟩ := ob_some hf
        refine z_callVi (o := 70) (ci := 9) (As := [.int x1, .int x2]) (rest := []) (t_X11_symbolOf G l hN x1 x2 q25 hq35) cv_X11_symbolOf hx hb hml hl.1 Z hw (by decide) (by decide) (by omega) rfl rfl wd1119 rfl rfl (Nat.le_of_ble_eq_true rfl) (by decide) dX11_symbol_35 (fun H locs hw => ?_)
        refine lv_goto (tgt := 61) hx hb dX11_symbol_38 (by decide) ?_
        obtain ⟨rfl, rfl⟩ := Prod.mk.inj (Option.some.inj hf)
        exact z_iret hx hb hr hlk hw dX11_symbol_61
    · have hf := (if_pos c16).symm.trans hf
      refine lv_bipush (v := (-2 : Int32)) hx hb dX11_symbol_19 (by decide) ?_
      obtain ⟨rfl, rfl⟩ := Prod.mk.inj (Option.some.inj hf)
      exact z_iret hx hb hr hlk hw dX11_symbol_21
  · have hf := (if_pos c5).symm.trans hf
    refine lv_iconst (v := (-1 : Int32)) hx hb dX11_symbol_8 (by decide) ?_
    obtain ⟨rfl, rfl⟩ := Prod.mk.inj (Option.some.inj hf)
    exact z_iret hx hb hr hlk hw dX11_symbol_9
set_option maxHeartbeats 4000000 in
set_option maxRecDepth 100000 in
theorem w_X11_turn_L42 (G : GM) (l : Launch) (hN : 77 ≤ gN G)  {p : Program} {e : Env} {s : State} {m : MethodId} {args : Array Value} {below : List Frame} {meth : Method} {c : Code} (hx : p.tables.exec = Jvm.exec) (hb : c.code = cX11_turn) (hr : meth.sig.returnType = (some .int)) (hlk : meth.locks = false) (hml : c.maxLocals = 6) (Z : ZK G s args m RX11) : ∀ (n : Nat) (x1 : Int32) (x2 : Int32) (x3 : Int32) (x4 : Int32) (x5 : Int32)  (h : HP)  (rv : Option Value) (hq : HP) (ls : Array Slot) (H : Heap) (locs : List Loc) {q : Int32 × Int32}, lv_has ls 6 [(0, .ref (ra G 70)), (1, .int x1), (2, .int x2), (3, .int x3), (4, .int x4), (5, .int x5)] → HW G h s H locs → f_X11_turn_L42 n x1 x2 x3 x4 x5 h = some q → (∀ (ls : Array Slot) (H : Heap) (locs : List Loc), lv_has ls 6 [(0, .ref (ra G 70)), (1, .int x1), (2, .int x2), (3, .int q.1), (4, .int q.2)] → HW G h s H locs → WZ p l e 4 s m args below meth c G rv hq H locs (F0 m 110 ls [])) → WZ p l e 4 s m args below meth c G rv hq H locs (F0 m 42 ls []) := by
  intro n
  induction n with
  | zero => intro x1 x2 x3 x4 x5  h  rv hq ls H locs q hl hw hf kk; cases hf
  | succ n ih =>
    intro x1 x2 x3 x4 x5  h  rv hq ls H locs q hl hw hf kk
    rw [f_X11_turn_L42] at hf
    refine lv_iload hx hb dX11_turn_42 (lv_at hl 5 rfl) ?_
    refine lv_aload_n hx hb dX11_turn_44 rfl (lv_at hl 0 rfl) ?_
    refine lv_iload_n hx hb dX11_turn_45 rfl (lv_at hl 1 rfl) ?_
    refine lv_iconst (v := (1 : Int32)) hx hb dX11_turn_46 (by decide) ?_
    refine lv_iadd hx hb dX11_turn_47 ?_
    refine z_callVi (o := 70) (ci := 9) (As := [.int (x1 + (1 : Int32))]) (rest := [.int x5]) (t_X11_start G l hN (x1 + (1 : Int32)) h) cv_X11_start hx hb hml hl.1 Z hw (by decide) (by decide) (by omega) rfl rfl wd930 rfl rfl (Nat.le_of_ble_eq_true rfl) (by decide) dX11_turn_48 (fun H locs hw => ?_)
    refine lv_icmp_ge (tgt := 110) hx hb dX11_turn_51 (by decide) (fun c51 => ?_) (fun c51 => ?_)
    · have hf := (if_pos c51).symm.trans hf
      obtain rfl := Option.some.inj hf
      exact kk ls H locs (lv_sub hl [0, 1, 2, 3, 4] rfl) hw
    · have hf := (if_neg c51).symm.trans hf
      refine lv_iload_n hx hb dX11_turn_54 rfl (lv_at hl 2 rfl) ?_
      refine lv_iconst (v := (1 : Int32)) hx hb dX11_turn_55 (by decide) ?_
      refine lv_icmp_le (tgt := 110) hx hb dX11_turn_56 (by decide) (fun c56 => ?_) (fun c56 => ?_)
      · have hf := (if_pos c56).symm.trans hf
        obtain rfl := Option.some.inj hf
        exact kk ls H locs (lv_sub hl [0, 1, 2, 3, 4] rfl) hw
      · have hf := (if_neg c56).symm.trans hf
        refine lv_iload_n hx hb dX11_turn_59 rfl (lv_at hl 3 rfl) ?_
        refine lv_aload_n hx hb dX11_turn_60 rfl (lv_at hl 0 rfl) ?_
        refine z_getr (o := 70) (o2 := 76) (C := RX11) (T := TX11) (N := 11) (ci := 9) (k := 8) hx hb Z hw (by decide) (by omega) rfl inX11 (by decide) rfl wd883 dX11_turn_61 ?_
        refine lv_iload hx hb dX11_turn_64 (lv_at hl 5 rfl) ?_
        obtain ⟨h66, hf⟩ := gd_some hf
        refine y_zald (o := 76) (k := x5.toNatClampNeg) hx hb Z hw (by decide) (by omega) rfl (inB_vp h66) dX11_turn_66 ?_
        have HJ75 : ∀ (ls : Array Slot) (H : Heap) (locs : List Loc), lv_has ls 6 [(0, .ref (ra G 70)), (1, .int x1), (2, .int x2), (4, .int x4), (5, .int x5)] → HW G h s H locs → WZ p l e 4 s m args below meth c G rv hq H locs (F0 m 75 ls [.int (if (h 76 x5.toNatClampNeg) = 0 then (0 : Int32) else (1 : Int32)), .int x3]) := by
          intro ls H locs hl hw
          refine lv_iadd hx hb dX11_turn_75 ?_
          obtain ⟨v76, hqv76, hf⟩ := tb_ex hf
          refine z_top hqv76 ?_
          refine lv_istore_n (lv' := [(3, _), (0, _), (1, _), (2, _), (4, _), (5, _)]) hx hb dX11_turn_76 rfl hl (by decide) rfl (fun ls hl => ?_)
          refine lv_iload hx hb dX11_turn_77 (lv_at hl 4 rfl) ?_
          refine lv_iload_n hx hb dX11_turn_79 rfl (lv_at hl 3 rfl) ?_
          refine lv_iconst (v := (3 : Int32)) hx hb dX11_turn_80 (by decide) ?_
          obtain ⟨j81, hqj81, hf⟩ := ob_some hf
          have HJ101 : ∀ (ls : Array Slot) (H : Heap) (locs : List Loc), lv_has ls 6 [(0, .ref (ra G 70)), (1, .int x1), (2, .int x2), (3, .int v76), (5, .int x5)] → HW G h s H locs → WZ p l e 4 s m args below meth c G rv hq H locs (F0 m 101 ls [.int j81, .int x4]) := by
            intro ls H locs hl hw
            refine lv_iadd hx hb dX11_turn_101 ?_
            refine lv_istore (lv' := [(4, _), (0, _), (1, _), (2, _), (3, _), (5, _)]) hx hb dX11_turn_102 hl (by decide) rfl (fun ls hl => ?_)
            refine lv_iinc (v := x5 + (1 : Int32)) (lv' := [(5, _), (4, _), (0, _), (1, _), (2, _), (3, _)]) hx hb dX11_turn_104 hl (k := 5) rfl rfl (by decide) rfl (fun ls hl => ?_)
            refine lv_goto (tgt := 42) hx hb dX11_turn_107 (by decide) ?_
            exact ih x1 x2 v76 (x4 + j81) (x5 + (1 : Int32)) h  rv hq ls H locs (lv_sub hl [2, 3, 4, 5, 1, 0] rfl) hw hf kk
          have hf := hqj81
          refine lv_icmp_ne (tgt := 100) hx hb dX11_turn_81 (by decide) (fun c81 => ?_) (fun c81 => ?_)
          · have hf := (if_neg c81).symm.trans hf
            refine lv_iconst (v := (0 : Int32)) hx hb dX11_turn_100 (by decide) ?_
            obtain rfl := Option.some.inj hf
            exact HJ101 ls H locs (lv_sub hl [1, 2, 3, 0, 5] rfl) hw
          · have hf := (if_pos c81).symm.trans hf
            refine lv_aload_n hx hb dX11_turn_84 rfl (lv_at hl 1 rfl) ?_
            refine lv_iload hx hb dX11_turn_85 (lv_at hl 5 rfl) ?_
            obtain ⟨q87, hq87, hf⟩ := ob_some hf
            refine z_callVi (o := 70) (ci := 9) (As := [.int x5]) (rest := [.int x4]) (t_X11_pits G l hN x5 h hq87) cv_X11_pits hx hb hml hl.1 Z hw (by decide) (by decide) (by omega) rfl rfl wd1115 rfl rfl (Nat.le_of_ble_eq_true rfl) (by decide) dX11_turn_87 (fun H locs hw => ?_)
            refine lv_aload_n hx hb dX11_turn_90 rfl (lv_at hl 1 rfl) ?_
            refine lv_iload hx hb dX11_turn_91 (lv_at hl 5 rfl) ?_
            obtain ⟨q93, hq93, hf⟩ := ob_some hf
            refine z_callVi (o := 70) (ci := 9) (As := [.int x5]) (rest := [.int q87, .int x4]) (t_X11_flats G l hN x5 h hq93) cv_X11_flats hx hb hml hl.1 Z hw (by decide) (by decide) (by omega) rfl rfl wd1126 rfl rfl (Nat.le_of_ble_eq_true rfl) (by decide) dX11_turn_93 (fun H locs hw => ?_)
            refine lv_iadd hx hb dX11_turn_96 ?_
            refine lv_goto (tgt := 101) hx hb dX11_turn_97 (by decide) ?_
            obtain rfl := Option.some.inj hf
            exact HJ101 ls H locs (lv_sub hl [1, 2, 3, 0, 5] rfl) hw
        refine lv_if_eq (tgt := 74) hx hb dX11_turn_67 (by decide) (fun c67 => ?_) (fun c67 => ?_)
        · skip
          refine lv_iconst (v := (0 : Int32)) hx hb dX11_turn_74 (by decide) ?_
          refine W.eq (g2 := F0 m 75 ls [.int (if (h 76 x5.toNatClampNeg) = 0 then (0 : Int32) else (1 : Int32)), .int x3]) ?_ (HJ75 ls H locs (lv_sub hl [0, 1, 2, 4, 5] rfl) hw)
          simp only [if_pos c67]
        · skip
          refine lv_iconst (v := (1 : Int32)) hx hb dX11_turn_70 (by decide) ?_
          refine lv_goto (tgt := 75) hx hb dX11_turn_71 (by decide) ?_
          refine W.eq (g2 := F0 m 75 ls [.int (if (h 76 x5.toNatClampNeg) = 0 then (0 : Int32) else (1 : Int32)), .int x3]) ?_ (HJ75 ls H locs (lv_sub hl [0, 1, 2, 4, 5] rfl) hw)
          simp only [if_neg c67]
set_option maxHeartbeats 4000000 in
set_option maxRecDepth 100000 in
theorem t_X11_turn (G : GM) (l : Launch) (hN : 77 ≤ gN G) (x1 : Int32) (x2 : Int32) (h : HP) {r : Int32} {h' : HP} (hf : f_X11_turn x1 x2 h = some (r, h')) : MC G l yX11_turn cX11_turn 6 (some .int) 4 [.ref (ra G 70), .int x1, .int x2] h h' (some (.int r)) := by
  unfold f_X11_turn at hf
  refine z_start (by decide) (Nat.le_of_ble_eq_true rfl) ?_
  intro p e s m args below meth c ls hx hb hr hlk hml Z hw hl
  have Z : ZK G s args m RX11 := Z
  have hl : lv_has ls 6 [(0, .ref (ra G 70)), (1, .int x1), (2, .int x2)] := hl
  obtain ⟨H, hH⟩ : ∃ H, H = s.heap := ⟨_, rfl⟩
  rw [← hH] at hw ⊢
  obtain ⟨locs, hlc⟩ : ∃ locs : List Loc, locs = [] := ⟨_, rfl⟩
  rw [← hlc] at hw ⊢
  refine lv_iload_n hx hb dX11_turn_0 rfl (lv_at hl 1 rfl) ?_
  refine lv_iconst (v := (0 : Int32)) hx hb dX11_turn_1 (by decide) ?_
  refine lv_bipush (v := (29 : Int32)) hx hb dX11_turn_2 (by decide) ?_
  refine z_callSi (As := [.int x1, .int (0 : Int32), .int (29 : Int32)]) (rest := []) (t_X11_in G l hN x1 (0 : Int32) (29 : Int32) h) cs_X11_in hx hb hml hl.1 Z hw wd934 rfl rfl (Nat.le_of_ble_eq_true rfl) (by decide) dX11_turn_4 (fun H locs hw => ?_)
  refine lv_if_ne (tgt := 12) hx hb dX11_turn_7 (by decide) (fun c7 => ?_) (fun c7 => ?_)
  · have hf := (if_neg c7).symm.trans hf
    refine lv_iload_n hx hb dX11_turn_12 rfl (lv_at hl 2 rfl) ?_
    refine lv_iconst (v := (0 : Int32)) hx hb dX11_turn_13 (by decide) ?_
    refine lv_iconst (v := (3 : Int32)) hx hb dX11_turn_14 (by decide) ?_
    refine z_callSi (As := [.int x2, .int (0 : Int32), .int (3 : Int32)]) (rest := []) (t_X11_in G l hN x2 (0 : Int32) (3 : Int32) h) cs_X11_in hx hb hml hl.1 Z hw wd934 rfl rfl (Nat.le_of_ble_eq_true rfl) (by decide) dX11_turn_15 (fun H locs hw => ?_)
    refine lv_if_ne (tgt := 24) hx hb dX11_turn_18 (by decide) (fun c18 => ?_) (fun c18 => ?_)
    · have hf := (if_neg c18).symm.trans hf
      refine lv_aload_n hx hb dX11_turn_24 rfl (lv_at hl 0 rfl) ?_
      refine lv_bipush (v := (-5 : Int32)) hx hb dX11_turn_25 (by decide) ?_
      obtain ⟨q27, hq27, hf⟩ := ob_some hf
      refine z_callVv (o := 70) (ci := 9) (As := [.int (-5 : Int32)]) (rest := []) (t_X11_lay G l hN (-5 : Int32) h hq27) cv_X11_lay hx hb hml hl.1 Z hw (by decide) (by decide) (by omega) rfl rfl wd971 rfl rfl (Nat.le_of_ble_eq_true rfl) (by decide) dX11_turn_27 (fun H locs hw => ?_)
      refine lv_iconst (v := (0 : Int32)) hx hb dX11_turn_30 (by decide) ?_
      refine lv_istore_n (lv' := [(3, _), (0, _), (1, _), (2, _)]) hx hb dX11_turn_31 rfl hl (by decide) rfl (fun ls hl => ?_)
      refine lv_iconst (v := (0 : Int32)) hx hb dX11_turn_32 (by decide) ?_
      refine lv_istore (lv' := [(4, _), (3, _), (0, _), (1, _), (2, _)]) hx hb dX11_turn_33 hl (by decide) rfl (fun ls hl => ?_)
      refine lv_aload_n hx hb dX11_turn_35 rfl (lv_at hl 2 rfl) ?_
      refine lv_iload_n hx hb dX11_turn_36 rfl (lv_at hl 3 rfl) ?_
      refine z_callVi (o := 70) (ci := 9) (As := [.int x1]) (rest := []) (t_X11_start G l hN x1 q27) cv_X11_start hx hb hml hl.1 Z hw (by decide) (by decide) (by omega) rfl rfl wd930 rfl rfl (Nat.le_of_ble_eq_true rfl) (by decide) dX11_turn_37 (fun H locs hw => ?_)
      refine lv_istore (lv' := [(5, _), (4, _), (3, _), (0, _), (1, _), (2, _)]) hx hb dX11_turn_40 hl (by decide) rfl (fun ls hl => ?_)
      obtain ⟨q42, hq42, hf⟩ := ob_some hf
      refine w_X11_turn_L42 G l hN  hx hb hr hlk hml Z FU x1 x2 (0 : Int32) (0 : Int32) (f_X11_start x1 q27) q27  _ _ ls H locs (lv_sub hl [3, 4, 5, 2, 1, 0] rfl) hw hq42 (fun ls H locs hl hw => ?_)
      refine lv_iload_n hx hb dX11_turn_110 rfl (lv_at hl 2 rfl) ?_
      refine lv_if_ne (tgt := 122) hx hb dX11_turn_111 (by decide) (fun c111 => ?_) (fun c111 => ?_)
      · have hf := (if_neg c111).symm.trans hf
        refine lv_iload_n hx hb dX11_turn_122 rfl (lv_at hl 2 rfl) ?_
        refine lv_iconst (v := (1 : Int32)) hx hb dX11_turn_123 (by decide) ?_
        refine lv_icmp_ne (tgt := 135) hx hb dX11_turn_124 (by decide) (fun c124 => ?_) (fun c124 => ?_)
        · have hf := (if_neg c124).symm.trans hf
          refine lv_iload_n hx hb dX11_turn_135 rfl (lv_at hl 2 rfl) ?_
          refine lv_iconst (v := (2 : Int32)) hx hb dX11_turn_136 (by decide) ?_
          refine lv_icmp_ne (tgt := 144) hx hb dX11_turn_137 (by decide) (fun c137 => ?_) (fun c137 => ?_)
          · have hf := (if_neg c137).symm.trans hf
            refine lv_iload hx hb dX11_turn_144 (lv_at hl 4 rfl) ?_
            obtain ⟨rfl, rfl⟩ := Prod.mk.inj (Option.some.inj hf)
            exact z_iret hx hb hr hlk hw dX11_turn_146
          · have hf := (if_pos c137).symm.trans hf
            refine lv_iload_n hx hb dX11_turn_140 rfl (lv_at hl 3 rfl) ?_
            refine lv_goto (tgt := 146) hx hb dX11_turn_141 (by decide) ?_
            obtain ⟨rfl, rfl⟩ := Prod.mk.inj (Option.some.inj hf)
            exact z_iret hx hb hr hlk hw dX11_turn_146
        · have hf := (if_pos c124).symm.trans hf
          refine lv_aload_n hx hb dX11_turn_127 rfl (lv_at hl 0 rfl) ?_
          refine lv_iload_n hx hb dX11_turn_128 rfl (lv_at hl 1 rfl) ?_
          refine z_callVi (o := 70) (ci := 9) (As := [.int x1]) (rest := []) (t_X11_start G l hN x1 q27) cv_X11_start hx hb hml hl.1 Z hw (by decide) (by decide) (by omega) rfl rfl wd930 rfl rfl (Nat.le_of_ble_eq_true rfl) (by decide) dX11_turn_129 (fun H locs hw => ?_)
          refine lv_goto (tgt := 146) hx hb dX11_turn_132 (by decide) ?_
          obtain ⟨rfl, rfl⟩ := Prod.mk.inj (Option.some.inj hf)
          exact z_iret hx hb hr hlk hw dX11_turn_146
      · have hf := (if_pos c111).symm.trans hf
        refine lv_aload_n hx hb dX11_turn_114 rfl (lv_at hl 0 rfl) ?_
        refine lv_iload_n hx hb dX11_turn_115 rfl (lv_at hl 1 rfl) ?_
        refine z_callVi (o := 70) (ci := 9) (As := [.int x1]) (rest := []) (t_X11_framesOf G l hN x1 q27) cv_X11_framesOf hx hb hml hl.1 Z hw (by decide) (by decide) (by omega) rfl rfl wd975 rfl rfl (Nat.le_of_ble_eq_true rfl) (by decide) dX11_turn_116 (fun H locs hw => ?_)
        refine lv_goto (tgt := 146) hx hb dX11_turn_119 (by decide) ?_
        obtain ⟨rfl, rfl⟩ := Prod.mk.inj (Option.some.inj hf)
        exact z_iret hx hb hr hlk hw dX11_turn_146
    · have hf := (if_pos c18).symm.trans hf
      refine lv_bipush (v := (-2 : Int32)) hx hb dX11_turn_21 (by decide) ?_
      obtain ⟨rfl, rfl⟩ := Prod.mk.inj (Option.some.inj hf)
      exact z_iret hx hb hr hlk hw dX11_turn_23
  · have hf := (if_pos c7).symm.trans hf
    refine lv_iconst (v := (-1 : Int32)) hx hb dX11_turn_10 (by decide) ?_
    obtain ⟨rfl, rfl⟩ := Prod.mk.inj (Option.some.inj hf)
    exact z_iret hx hb hr hlk hw dX11_turn_11
