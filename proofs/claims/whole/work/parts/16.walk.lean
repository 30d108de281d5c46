/-! walks (by program) -/
set_option maxHeartbeats 4000000 in
set_option maxRecDepth 100000 in
theorem w_X11_isSound_L15 (G : GM) (l : Launch) (hN : 77 ≤ gN G)  {p : Program} {e : Env} {s : State} {m : MethodId} {args : Array Value} {below : List Frame} {meth : Method} {c : Code} (hx : p.tables.exec = Jvm.exec) (hb : c.code = cX11_isSound) (hr : meth.sig.returnType = (some .boolean)) (hlk : meth.locks = false) (hml : c.maxLocals = 4) (Z : ZK G s args m RX11) : ∀ (n : Nat) (x1 : Int32) (x2 : Int32) (x3 : Int32)  (h : HP)  (rv : Option Value) (hq : HP) (ls : Array Slot) (H : Heap) (locs : List Loc) {q : Int32}, lv_has ls 4 [(0, .ref (ra G 70)), (1, .int x1), (2, .int x2), (3, .int x3)] → HW G h s H locs → f_X11_isSound_L15 n x1 x2 x3 h = some q → (∀ (ls : Array Slot) (H : Heap) (locs : List Loc), lv_has ls 4 [(2, .int q)] → HW G h s H locs → WZ p l e 3 s m args below meth c G rv hq H locs (F0 m 57 ls [])) → WZ p l e 3 s m args below meth c G rv hq H locs (F0 m 15 ls []) := by
  intro n
  induction n with
  | zero => intro x1 x2 x3  h  rv hq ls H locs q hl hw hf kk; cases hf
  | succ n ih =>
    intro x1 x2 x3  h  rv hq ls H locs q hl hw hf kk
    rw [f_X11_isSound_L15] at hf
    refine lv_iload_n hx hb dX11_isSound_15 rfl (lv_at hl 3 rfl) ?_
    refine lv_iconst (v := (5 : Int32)) hx hb dX11_isSound_16 (by decide) ?_
    refine lv_icmp_ge (tgt := 57) hx hb dX11_isSound_17 (by decide) (fun c17 => ?_) (fun c17 => ?_)
    · have hf := (if_pos c17).symm.trans hf
      obtain rfl := Option.some.inj hf
      exact kk ls H locs (lv_sub hl [2] rfl) hw
    · have hf := (if_neg c17).symm.trans hf
      refine lv_aload_n hx hb dX11_isSound_20 rfl (lv_at hl 0 rfl) ?_
      refine lv_iload_n hx hb dX11_isSound_21 rfl (lv_at hl 1 rfl) ?_
      refine z_callVi (o := 70) (ci := 9) (As := [.int x1]) (rest := []) (t_X11_hasGroup G l hN x1 h) cv_X11_hasGroup hx hb hml hl.1 Z hw (by decide) (by decide) (by omega) rfl rfl wd1100 rfl rfl (Nat.le_of_ble_eq_true rfl) (by decide) dX11_isSound_22 (fun H locs hw => ?_)
      refine lv_if_eq (tgt := 57) hx hb dX11_isSound_25 (by decide) (fun c25 => ?_) (fun c25 => ?_)
      · have hf := (if_pos c25).symm.trans hf
        obtain rfl := Option.some.inj hf
        exact kk ls H locs (lv_sub hl [2] rfl) hw
      · have hf := (if_neg c25).symm.trans hf
        refine lv_iload_n hx hb dX11_isSound_28 rfl (lv_at hl 2 rfl) ?_
        refine lv_aload_n hx hb dX11_isSound_29 rfl (lv_at hl 0 rfl) ?_
        refine z_getr (o := 70) (o2 := 76) (C := RX11) (T := TX11) (N := 11) (ci := 9) (k := 8) hx hb Z hw (by decide) (by omega) rfl inX11 (by decide) rfl wd883 dX11_isSound_30 ?_
        refine lv_iload_n hx hb dX11_isSound_33 rfl (lv_at hl 1 rfl) ?_
        refine lv_iconst (v := (5 : Int32)) hx hb dX11_isSound_34 (by decide) ?_
        refine lv_idiv hx hb dX11_isSound_35 (by decide) ?_
        refine lv_iconst (v := (5 : Int32)) hx hb dX11_isSound_36 (by decide) ?_
        refine lv_imul hx hb dX11_isSound_37 ?_
        refine lv_iload_n hx hb dX11_isSound_38 rfl (lv_at hl 3 rfl) ?_
        refine lv_iadd hx hb dX11_isSound_39 ?_
        obtain ⟨h40, hf⟩ := gd_some hf
        refine y_zald (o := 76) (k := (((x1 / (5 : Int32)) * (5 : Int32)) + x3).toNatClampNeg) hx hb Z hw (by decide) (by omega) rfl (inB_vp h40) dX11_isSound_40 ?_
        have HJ49 : ∀ (ls : Array Slot) (H : Heap) (locs : List Loc), lv_has ls 4 [(0, .ref (ra G 70)), (1, .int x1), (3, .int x3)] → HW G h s H locs → WZ p l e 3 s m args below meth c G rv hq H locs (F0 m 49 ls [.int (if (h 76 (((x1 / (5 : Int32)) * (5 : Int32)) + x3).toNatClampNeg) = 0 then (0 : Int32) else (1 : Int32)), .int x2]) := by
          intro ls H locs hl hw
          refine lv_iadd hx hb dX11_isSound_49 ?_
          obtain ⟨v50, hqv50, hf⟩ := tb_ex hf
          refine z_top hqv50 ?_
          refine lv_istore_n (lv' := [(2, _), (0, _), (1, _), (3, _)]) hx hb dX11_isSound_50 rfl hl (by decide) rfl (fun ls hl => ?_)
          refine lv_iinc (v := x3 + (1 : Int32)) (lv' := [(3, _), (2, _), (0, _), (1, _)]) hx hb dX11_isSound_51 hl (k := 3) rfl rfl (by decide) rfl (fun ls hl => ?_)
          refine lv_goto (tgt := 15) hx hb dX11_isSound_54 (by decide) ?_
          exact ih x1 v50 (x3 + (1 : Int32)) h  rv hq ls H locs (lv_sub hl [2, 3, 1, 0] rfl) hw hf kk
        refine lv_if_eq (tgt := 48) hx hb dX11_isSound_41 (by decide) (fun c41 => ?_) (fun c41 => ?_)
        · skip
          refine lv_iconst (v := (0 : Int32)) hx hb dX11_isSound_48 (by decide) ?_
          refine W.eq (g2 := F0 m 49 ls [.int (if (h 76 (((x1 / (5 : Int32)) * (5 : Int32)) + x3).toNatClampNeg) = 0 then (0 : Int32) else (1 : Int32)), .int x2]) ?_ (HJ49 ls H locs (lv_sub hl [0, 1, 3] rfl) hw)
          simp only [if_pos c41]
        · skip
          refine lv_iconst (v := (1 : Int32)) hx hb dX11_isSound_44 (by decide) ?_
          refine lv_goto (tgt := 49) hx hb dX11_isSound_45 (by decide) ?_
          refine W.eq (g2 := F0 m 49 ls [.int (if (h 76 (((x1 / (5 : Int32)) * (5 : Int32)) + x3).toNatClampNeg) = 0 then (0 : Int32) else (1 : Int32)), .int x2]) ?_ (HJ49 ls H locs (lv_sub hl [0, 1, 3] rfl) hw)
          simp only [if_neg c41]
set_option maxHeartbeats 4000000 in
set_option maxRecDepth 100000 in
theorem t_X11_isSound (G : GM) (l : Launch) (hN : 77 ≤ gN G) (x1 : Int32) (h : HP) {r : Int32} (hf : f_X11_isSound x1 h = some r) : MC G l yX11_isSound cX11_isSound 4 (some .boolean) 3 [.ref (ra G 70), .int x1] h h (some (.int r)) := by
  unfold f_X11_isSound at hf
  refine z_start (by decide) (Nat.le_of_ble_eq_true rfl) ?_
  intro p e s m args below meth c ls hx hb hr hlk hml Z hw hl
  have Z : ZK G s args m RX11 := Z
  have hl : lv_has ls 4 [(0, .ref (ra G 70)), (1, .int x1)] := hl
  obtain ⟨H, hH⟩ : ∃ H, H = s.heap := ⟨_, rfl⟩
  rw [← hH] at hw ⊢
  obtain ⟨locs, hlc⟩ : ∃ locs : List Loc, locs = [] := ⟨_, rfl⟩
  rw [← hlc] at hw ⊢
  refine lv_aload_n hx hb dX11_isSound_0 rfl (lv_at hl 0 rfl) ?_
  refine z_getr (o := 70) (o2 := 76) (C := RX11) (T := TX11) (N := 11) (ci := 9) (k := 8) hx hb Z hw (by decide) (by omega) rfl inX11 (by decide) rfl wd883 dX11_isSound_1 ?_
  refine lv_iload_n hx hb dX11_isSound_4 rfl (lv_at hl 1 rfl) ?_
  obtain ⟨h5, hf⟩ := gd_some hf
  refine y_zald (o := 76) (k := x1.toNatClampNeg) hx hb Z hw (by decide) (by omega) rfl (inB_vp h5) dX11_isSound_5 ?_
  refine lv_if_ne (tgt := 11) hx hb dX11_isSound_6 (by decide) (fun c6 => ?_) (fun c6 => ?_)
  · have hf := (if_neg c6).symm.trans hf
    refine lv_iconst (v := (0 : Int32)) hx hb dX11_isSound_11 (by decide) ?_
    refine lv_istore_n (lv' := [(2, _), (0, _), (1, _)]) hx hb dX11_isSound_12 rfl hl (by decide) rfl (fun ls hl => ?_)
    refine lv_iconst (v := (0 : Int32)) hx hb dX11_isSound_13 (by decide) ?_
    refine lv_istore_n (lv' := [(3, _), (2, _), (0, _), (1, _)]) hx hb dX11_isSound_14 rfl hl (by decide) rfl (fun ls hl => ?_)
    obtain ⟨q15, hq15, hf⟩ := ob_some hf
    refine w_X11_isSound_L15 G l hN  hx hb hr hlk hml Z FU x1 (0 : Int32) (0 : Int32) h  _ _ ls H locs (lv_sub hl [2, 3, 1, 0] rfl) hw hq15 (fun ls H locs hl hw => ?_)
    refine lv_iload_n hx hb dX11_isSound_57 rfl (lv_at hl 0 rfl) ?_
    refine lv_iconst (v := (1 : Int32)) hx hb dX11_isSound_58 (by decide) ?_
    refine lv_icmp_ne (tgt := 66) hx hb dX11_isSound_59 (by decide) (fun c59 => ?_) (fun c59 => ?_)
    · have hf := (if_neg c59).symm.trans hf
      refine lv_iconst (v := (0 : Int32)) hx hb dX11_isSound_66 (by decide) ?_
      obtain rfl := Option.some.inj hf
      exact z_zret hx hb hr rfl hlk hw dX11_isSound_67
    · have hf := (if_pos c59).symm.trans hf
      refine lv_iconst (v := (1 : Int32)) hx hb dX11_isSound_62 (by decide) ?_
      refine lv_goto (tgt := 67) hx hb dX11_isSound_63 (by decide) ?_
      obtain rfl := Option.some.inj hf
      exact z_zret hx hb hr rfl hlk hw dX11_isSound_67
  · have hf := (if_pos c6).symm.trans hf
    refine lv_iconst (v := (1 : Int32)) hx hb dX11_isSound_9 (by decide) ?_
    obtain rfl := Option.some.inj hf
    exact z_zret hx hb hr rfl hlk hw dX11_isSound_10
set_option maxHeartbeats 4000000 in
set_option maxRecDepth 100000 in
theorem t_X11_beside (G : GM) (l : Launch) (hN : 77 ≤ gN G) (x0 : Int32) (x1 : Int32) (h : HP) : MC G l yX11_beside cX11_beside 2 (some .int) 1 [.int x0, .int x1] h h (some (.int (f_X11_beside x0 x1 h))) := by
  generalize hf : f_X11_beside x0 x1 h = r
  unfold f_X11_beside at hf
  refine z_start (by decide) (Nat.le_of_ble_eq_true rfl) ?_
  intro p e s m args below meth c ls hx hb hr hlk hml Z hw hl
  have Z : ZK G s args m RX11 := Z
  have hl : lv_has ls 2 [(0, .int x0), (1, .int x1)] := hl
  obtain ⟨H, hH⟩ : ∃ H, H = s.heap := ⟨_, rfl⟩
  rw [← hH] at hw ⊢
  obtain ⟨locs, hlc⟩ : ∃ locs : List Loc, locs = [] := ⟨_, rfl⟩
  rw [← hlc] at hw ⊢
  refine lv_iload_n hx hb dX11_beside_0 rfl (lv_at hl 0 rfl) ?_
  refine lv_iload_n hx hb dX11_beside_1 rfl (lv_at hl 1 rfl) ?_
  refine lv_iadd hx hb dX11_beside_2 ?_
  refine lv_iconst (v := (5 : Int32)) hx hb dX11_beside_3 (by decide) ?_
  refine lv_iadd hx hb dX11_beside_4 ?_
  refine z_callSi (As := [.int ((x0 + x1) + (5 : Int32))]) (rest := []) (t_X11_isCheck G l hN ((x0 + x1) + (5 : Int32)) h) cs_X11_isCheck hx hb hml hl.1 Z hw wd937 rfl rfl (Nat.le_of_ble_eq_true rfl) (by decide) dX11_beside_5 (fun H locs hw => ?_)
  refine lv_if_eq (tgt := 19) hx hb dX11_beside_8 (by decide) (fun c8 => ?_) (fun c8 => ?_)
  · have hf := (if_pos c8).symm.trans hf
    refine lv_iload_n hx hb dX11_beside_19 rfl (lv_at hl 0 rfl) ?_
    refine lv_iload_n hx hb dX11_beside_20 rfl (lv_at hl 1 rfl) ?_
    refine lv_iadd hx hb dX11_beside_21 ?_
    obtain rfl := hf
    exact z_iret hx hb hr hlk hw dX11_beside_22
  · have hf := (if_neg c8).symm.trans hf
    refine lv_iload_n hx hb dX11_beside_11 rfl (lv_at hl 0 rfl) ?_
    refine lv_iconst (v := (2 : Int32)) hx hb dX11_beside_12 (by decide) ?_
    refine lv_iload_n hx hb dX11_beside_13 rfl (lv_at hl 1 rfl) ?_
    refine lv_imul hx hb dX11_beside_14 ?_
    refine lv_iadd hx hb dX11_beside_15 ?_
    refine lv_goto (tgt := 22) hx hb dX11_beside_16 (by decide) ?_
    obtain rfl := hf
    exact z_iret hx hb hr hlk hw dX11_beside_22
set_option maxHeartbeats 4000000 in
set_option maxRecDepth 100000 in
theorem t_X11_how (G : GM) (l : Launch) (hN : 77 ≤ gN G) (x1 : Int32) (h : HP) {r : Int32} (hf : f_X11_how x1 h = some r) : MC G l yX11_how cX11_how 5 (some .int) 4 [.ref (ra G 70), .int x1] h h (some (.int r)) := by
  unfold f_X11_how at hf
  refine z_start (by decide) (Nat.le_of_ble_eq_true rfl) ?_
  intro p e s m args below meth c ls hx hb hr hlk hml Z hw hl
  have Z : ZK G s args m RX11 := Z
  have hl : lv_has ls 5 [(0, .ref (ra G 70)), (1, .int x1)] := hl
  obtain ⟨H, hH⟩ : ∃ H, H = s.heap := ⟨_, rfl⟩
  rw [← hH] at hw ⊢
  obtain ⟨locs, hlc⟩ : ∃ locs : List Loc, locs = [] := ⟨_, rfl⟩
  rw [← hlc] at hw ⊢
  refine lv_aload_n hx hb dX11_how_0 rfl (lv_at hl 0 rfl) ?_
  refine z_getr (o := 70) (o2 := 76) (C := RX11) (T := TX11) (N := 11) (ci := 9) (k := 8) hx hb Z hw (by decide) (by omega) rfl inX11 (by decide) rfl wd883 dX11_how_1 ?_
  refine lv_iload_n hx hb dX11_how_4 rfl (lv_at hl 1 rfl) ?_
  obtain ⟨h5, hf⟩ := gd_some hf
  refine y_zald (o := 76) (k := x1.toNatClampNeg) hx hb Z hw (by decide) (by omega) rfl (inB_vp h5) dX11_how_5 ?_
  refine lv_if_ne (tgt := 11) hx hb dX11_how_6 (by decide) (fun c6 => ?_) (fun c6 => ?_)
  · have hf := (if_neg c6).symm.trans hf
    refine lv_aload_n hx hb dX11_how_11 rfl (lv_at hl 0 rfl) ?_
    refine lv_iload_n hx hb dX11_how_12 rfl (lv_at hl 1 rfl) ?_
    obtain ⟨q13, hq13, hf⟩ := ob_some hf
    refine z_callVi (o := 70) (ci := 9) (As := [.int x1]) (rest := []) (t_X11_isSound G l hN x1 h hq13) cv_X11_isSound hx hb hml hl.1 Z hw (by decide) (by decide) (by omega) rfl rfl wd1108 rfl rfl (Nat.le_of_ble_eq_true rfl) (by decide) dX11_how_13 (fun H locs hw => ?_)
    refine lv_if_eq (tgt := 21) hx hb dX11_how_16 (by decide) (fun c16 => ?_) (fun c16 => ?_)
    · have hf := (if_pos c16).symm.trans hf
      refine lv_iload_n hx hb dX11_how_21 rfl (lv_at hl 1 rfl) ?_
      refine lv_iconst (v := (-1 : Int32)) hx hb dX11_how_22 (by decide) ?_
      refine z_callSi (As := [.int x1, .int (-1 : Int32)]) (rest := []) (t_X11_beside G l hN x1 (-1 : Int32) h) cs_X11_beside hx hb hml hl.1 Z hw wd1112 rfl rfl (Nat.le_of_ble_eq_true rfl) (by decide) dX11_how_23 (fun H locs hw => ?_)
      refine lv_istore_n (lv' := [(2, _), (0, _), (1, _)]) hx hb dX11_how_26 rfl hl (by decide) rfl (fun ls hl => ?_)
      refine lv_iload_n hx hb dX11_how_27 rfl (lv_at hl 2 rfl) ?_
      refine lv_iconst (v := (1 : Int32)) hx hb dX11_how_28 (by decide) ?_
      refine z_callSi (As := [.int x1, .int (1 : Int32)]) (rest := []) (t_X11_beside G l hN x1 (1 : Int32) h) cs_X11_beside hx hb hml hl.1 Z hw wd1112 rfl rfl (Nat.le_of_ble_eq_true rfl) (by decide) dX11_how_29 (fun H locs hw => ?_)
      refine lv_istore_n (lv' := [(3, _), (2, _), (0, _), (1, _)]) hx hb dX11_how_32 rfl hl (by decide) rfl (fun ls hl => ?_)
      refine lv_iload_n hx hb dX11_how_33 rfl (lv_at hl 3 rfl) ?_
      refine z_callSi (As := [.int x1]) (rest := []) (t_X11_isCheck G l hN x1 h) cs_X11_isCheck hx hb hml hl.1 Z hw wd937 rfl rfl (Nat.le_of_ble_eq_true rfl) (by decide) dX11_how_34 (fun H locs hw => ?_)
      obtain ⟨j37, hqj37, hf⟩ := ob_some hf
      have HJ73 : ∀ (ls : Array Slot) (H : Heap) (locs : List Loc), lv_has ls 5 [] → HW G h s H locs → WZ p l e 4 s m args below meth c G (some (.int r)) h H locs (F0 m 73 ls [.int j37]) := by
        intro ls H locs hl hw
        refine lv_istore (lv' := [(4, _)]) hx hb dX11_how_73 hl (by decide) rfl (fun ls hl => ?_)
        refine lv_iload hx hb dX11_how_75 (lv_at hl 0 rfl) ?_
        refine lv_if_eq (tgt := 84) hx hb dX11_how_77 (by decide) (fun c77 => ?_) (fun c77 => ?_)
        · have hf := (if_pos c77).symm.trans hf
          refine lv_iconst (v := (3 : Int32)) hx hb dX11_how_84 (by decide) ?_
          obtain rfl := Option.some.inj hf
          exact z_iret hx hb hr hlk hw dX11_how_85
        · have hf := (if_neg c77).symm.trans hf
          refine lv_iconst (v := (2 : Int32)) hx hb dX11_how_80 (by decide) ?_
          refine lv_goto (tgt := 85) hx hb dX11_how_81 (by decide) ?_
          obtain rfl := Option.some.inj hf
          exact z_iret hx hb hr hlk hw dX11_how_85
      have hf := hqj37
      refine lv_if_ne (tgt := 72) hx hb dX11_how_37 (by decide) (fun c37 => ?_) (fun c37 => ?_)
      · have hf := (if_neg c37).symm.trans hf
        refine lv_iconst (v := (0 : Int32)) hx hb dX11_how_72 (by decide) ?_
        obtain rfl := Option.some.inj hf
        exact HJ73 ls H locs (lv_sub hl [] rfl) hw
      · have hf := (if_pos c37).symm.trans hf
        refine lv_iload_n hx hb dX11_how_40 rfl (lv_at hl 1 rfl) ?_
        refine lv_if_lt (tgt := 72) hx hb dX11_how_41 (by decide) (fun c41 => ?_) (fun c41 => ?_)
        · have hf := (if_pos c41).symm.trans hf
          refine lv_iconst (v := (0 : Int32)) hx hb dX11_how_72 (by decide) ?_
          obtain rfl := Option.some.inj hf
          exact HJ73 ls H locs (lv_sub hl [] rfl) hw
        · have hf := (if_neg c41).symm.trans hf
          refine lv_iload_n hx hb dX11_how_44 rfl (lv_at hl 0 rfl) ?_
          refine lv_aload_n hx hb dX11_how_45 rfl (lv_at hl 2 rfl) ?_
          refine z_callVi (o := 70) (ci := 9) (As := []) (rest := [.int (f_X11_beside x1 (1 : Int32) h)]) (t_X11_frames G l hN  h) cv_X11_frames hx hb hml hl.1 Z hw (by decide) (by decide) (by omega) rfl rfl wd926 rfl rfl (Nat.le_of_ble_eq_true rfl) (by decide) dX11_how_46 (fun H locs hw => ?_)
          refine lv_icmp_ge (tgt := 72) hx hb dX11_how_49 (by decide) (fun c49 => ?_) (fun c49 => ?_)
          · have hf := (if_pos c49).symm.trans hf
            refine lv_iconst (v := (0 : Int32)) hx hb dX11_how_72 (by decide) ?_
            obtain rfl := Option.some.inj hf
            exact HJ73 ls H locs (lv_sub hl [] rfl) hw
          · have hf := (if_neg c49).symm.trans hf
            refine lv_aload_n hx hb dX11_how_52 rfl (lv_at hl 2 rfl) ?_
            refine lv_iload_n hx hb dX11_how_53 rfl (lv_at hl 1 rfl) ?_
            obtain ⟨q54, hq54, hf⟩ := ob_some hf
            refine z_callVi (o := 70) (ci := 9) (As := [.int (f_X11_beside x1 (-1 : Int32) h)]) (rest := []) (t_X11_isSound G l hN (f_X11_beside x1 (-1 : Int32) h) h hq54) cv_X11_isSound hx hb hml hl.1 Z hw (by decide) (by decide) (by omega) rfl rfl wd1108 rfl rfl (Nat.le_of_ble_eq_true rfl) (by decide) dX11_how_54 (fun H locs hw => ?_)
            refine lv_if_eq (tgt := 72) hx hb dX11_how_57 (by decide) (fun c57 => ?_) (fun c57 => ?_)
            · have hf := (if_pos c57).symm.trans hf
              refine lv_iconst (v := (0 : Int32)) hx hb dX11_how_72 (by decide) ?_
              obtain rfl := Option.some.inj hf
              exact HJ73 ls H locs (lv_sub hl [] rfl) hw
            · have hf := (if_neg c57).symm.trans hf
              refine lv_aload_n hx hb dX11_how_60 rfl (lv_at hl 2 rfl) ?_
              refine lv_iload_n hx hb dX11_how_61 rfl (lv_at hl 0 rfl) ?_
              obtain ⟨q62, hq62, hf⟩ := ob_some hf
              refine z_callVi (o := 70) (ci := 9) (As := [.int (f_X11_beside x1 (1 : Int32) h)]) (rest := []) (t_X11_isSound G l hN (f_X11_beside x1 (1 : Int32) h) h hq62) cv_X11_isSound hx hb hml hl.1 Z hw (by decide) (by decide) (by omega) rfl rfl wd1108 rfl rfl (Nat.le_of_ble_eq_true rfl) (by decide) dX11_how_62 (fun H locs hw => ?_)
              refine lv_if_eq (tgt := 72) hx hb dX11_how_65 (by decide) (fun c65 => ?_) (fun c65 => ?_)
              · have hf := (if_pos c65).symm.trans hf
                refine lv_iconst (v := (0 : Int32)) hx hb dX11_how_72 (by decide) ?_
                obtain rfl := Option.some.inj hf
                exact HJ73 ls H locs (lv_sub hl [] rfl) hw
              · have hf := (if_neg c65).symm.trans hf
                refine lv_iconst (v := (1 : Int32)) hx hb dX11_how_68 (by decide) ?_
                refine lv_goto (tgt := 73) hx hb dX11_how_69 (by decide) ?_
                obtain rfl := Option.some.inj hf
                exact HJ73 ls H locs (lv_sub hl [] rfl) hw
    · have hf := (if_neg c16).symm.trans hf
      refine lv_iconst (v := (1 : Int32)) hx hb dX11_how_19 (by decide) ?_
      obtain rfl := Option.some.inj hf
      exact z_iret hx hb hr hlk hw dX11_how_20
  · have hf := (if_pos c6).symm.trans hf
    refine lv_iconst (v := (0 : Int32)) hx hb dX11_how_9 (by decide) ?_
    obtain rfl := Option.some.inj hf
    exact z_iret hx hb hr hlk hw dX11_how_10
set_option maxHeartbeats 4000000 in
set_option maxRecDepth 100000 in
theorem t_X11_toldSymbol (G : GM) (l : Launch) (hN : 77 ≤ gN G) (x1 : Int32) (x2 : Int32) (h : HP) {r : Int32} (hf : f_X11_toldSymbol x1 x2 h = some r) : MC G l yX11_toldSymbol cX11_toldSymbol 3 (some .int) 5 [.ref (ra G 70), .int x1, .int x2] h h (some (.int r)) := by
  unfold f_X11_toldSymbol at hf
  refine z_start (by decide) (Nat.le_of_ble_eq_true rfl) ?_
  intro p e s m args below meth c ls hx hb hr hlk hml Z hw hl
  have Z : ZK G s args m RX11 := Z
  have hl : lv_has ls 3 [(0, .ref (ra G 70)), (1, .int x1), (2, .int x2)] := hl
  obtain ⟨H, hH⟩ : ∃ H, H = s.heap := ⟨_, rfl⟩
  rw [← hH] at hw ⊢
  obtain ⟨locs, hlc⟩ : ∃ locs : List Loc, locs = [] := ⟨_, rfl⟩
  rw [← hlc] at hw ⊢
  refine lv_aload_n hx hb dX11_toldSymbol_0 rfl (lv_at hl 0 rfl) ?_
  refine lv_iload_n hx hb dX11_toldSymbol_1 rfl (lv_at hl 1 rfl) ?_
  obtain ⟨q2, hq2, hf⟩ := ob_some hf
  refine z_callVi (o := 70) (ci := 9) (As := [.int x1]) (rest := []) (t_X11_how G l hN x1 h hq2) cv_X11_how hx hb hml hl.1 Z hw (by decide) (by decide) (by omega) rfl rfl wd1104 rfl rfl (Nat.le_of_ble_eq_true rfl) (by decide) dX11_toldSymbol_2 (fun H locs hw => ?_)
  refine lv_iconst (v := (2 : Int32)) hx hb dX11_toldSymbol_5 (by decide) ?_
  refine lv_icmp_ge (tgt := 18) hx hb dX11_toldSymbol_6 (by decide) (fun c6 => ?_) (fun c6 => ?_)
  · have hf := (if_pos c6).symm.trans hf
    refine lv_aload_n hx hb dX11_toldSymbol_18 rfl (lv_at hl 0 rfl) ?_
    refine lv_iload_n hx hb dX11_toldSymbol_19 rfl (lv_at hl 1 rfl) ?_
    refine lv_iconst (v := (-1 : Int32)) hx hb dX11_toldSymbol_20 (by decide) ?_
    refine z_callSi (As := [.int x1, .int (-1 : Int32)]) (rest := [.ref (ra G 70)]) (t_X11_beside G l hN x1 (-1 : Int32) h) cs_X11_beside hx hb hml hl.1 Z hw wd1112 rfl rfl (Nat.le_of_ble_eq_true rfl) (by decide) dX11_toldSymbol_21 (fun H locs hw => ?_)
    refine lv_iload_n hx hb dX11_toldSymbol_24 rfl (lv_at hl 2 rfl) ?_
    obtain ⟨q25, hq25, hf⟩ := ob_some hf
    refine z_callVi (o := 70) (ci := 9) (As := [.int (f_X11_beside x1 (-1 : Int32) h), .int x2]) (rest := []) (t_X11_symbolOf G l hN (f_X11_beside x1 (-1 : Int32) h) x2 h hq25) cv_X11_symbolOf hx hb hml hl.1 Z hw (by decide) (by decide) (by omega) rfl rfl wd1119 rfl rfl (Nat.le_of_ble_eq_true rfl) (by decide) dX11_toldSymbol_25 (fun H locs hw => ?_)
    refine lv_aload_n hx hb dX11_toldSymbol_28 rfl (lv_at hl 0 rfl) ?_
    refine lv_iload_n hx hb dX11_toldSymbol_29 rfl (lv_at hl 1 rfl) ?_
    refine lv_iconst (v := (1 : Int32)) hx hb dX11_toldSymbol_30 (by decide) ?_
    refine z_callSi (As := [.int x1, .int (1 : Int32)]) (rest := [.ref (ra G 70), .int q25]) (t_X11_beside G l hN x1 (1 : Int32) h) cs_X11_beside hx hb hml hl.1 Z hw wd1112 rfl rfl (Nat.le_of_ble_eq_true rfl) (by decide) dX11_toldSymbol_31 (fun H locs hw => ?_)
    refine lv_iload_n hx hb dX11_toldSymbol_34 rfl (lv_at hl 2 rfl) ?_
    obtain ⟨q35, hq35, hf⟩ := ob_some hf
    refine z_callVi (o := 70) (ci := 9) (As := [.int (f_X11_beside x1 (1 : Int32) h), .int x2]) (rest := [.int q25]) (t_X11_symbolOf G l hN (f_X11_beside x1 (1 : Int32) h) x2 h hq35) cv_X11_symbolOf hx hb hml hl.1 Z hw (by decide) (by decide) (by omega) rfl rfl wd1119 rfl rfl (Nat.le_of_ble_eq_true rfl) (by decide) dX11_toldSymbol_35 (fun H locs hw => ?_)
    refine lv_iadd hx hb dX11_toldSymbol_38 ?_
    refine lv_iconst (v := (2 : Int32)) hx hb dX11_toldSymbol_39 (by decide) ?_
    refine lv_idiv hx hb dX11_toldSymbol_40 (by decide) ?_
    obtain rfl := Option.some.inj hf
    exact z_iret hx hb hr hlk hw dX11_toldSymbol_41
  · have hf := (if_neg c6).symm.trans hf
    refine lv_aload_n hx hb dX11_toldSymbol_9 rfl (lv_at hl 0 rfl) ?_
    refine lv_iload_n hx hb dX11_toldSymbol_10 rfl (lv_at hl 1 rfl) ?_
    refine lv_iload_n hx hb dX11_toldSymbol_11 rfl (lv_at hl 2 rfl) ?_
    obtain ⟨q12, hq12, hf⟩ := ob_some hf
    refine z_callVi (o := 70) (ci := 9) (As := [.int x1, .int x2]) (rest := []) (t_X11_symbolOf G l hN x1 x2 h hq12) cv_X11_symbolOf hx hb hml hl.1 Z hw (by decide) (by decide) (by omega) rfl rfl wd1119 rfl rfl (Nat.le_of_ble_eq_true rfl) (by decide) dX11_toldSymbol_12 (fun H locs hw => ?_)
    refine lv_goto (tgt := 41) hx hb dX11_toldSymbol_15 (by decide) ?_
    obtain rfl := Option.some.inj hf
    exact z_iret hx hb hr hlk hw dX11_toldSymbol_41
set_option maxHeartbeats 4000000 in
set_option maxRecDepth 100000 in
theorem w_X11_framesThat_L4 (G : GM) (l : Launch) (hN : 77 ≤ gN G)  {p : Program} {e : Env} {s : State} {m : MethodId} {args : Array Value} {below : List Frame} {meth : Method} {c : Code} (hx : p.tables.exec = Jvm.exec) (hb : c.code = cX11_framesThat) (hr : meth.sig.returnType = (some .int)) (hlk : meth.locks = false) (hml : c.maxLocals = 4) (Z : ZK G s args m RX11) : ∀ (n : Nat) (x1 : Int32) (x2 : Int32) (x3 : Int32)  (h : HP)  (rv : Option Value) (hq : HP) (ls : Array Slot) (H : Heap) (locs : List Loc) {q : Int32}, lv_has ls 4 [(0, .ref (ra G 70)), (1, .int x1), (2, .int x2), (3, .int x3)] → HW G h s H locs → f_X11_framesThat_L4 n x1 x2 x3 h = some q → (∀ (ls : Array Slot) (H : Heap) (locs : List Loc), lv_has ls 4 [(2, .int q)] → HW G h s H locs → WZ p l e 5 s m args below meth c G rv hq H locs (F0 m 35 ls [])) → WZ p l e 5 s m args below meth c G rv hq H locs (F0 m 4 ls []) := by
  intro n
  induction n with
  | zero => intro x1 x2 x3  h  rv hq ls H locs q hl hw hf kk; cases hf
  | succ n ih =>
    intro x1 x2 x3  h  rv hq ls H locs q hl hw hf kk
    rw [f_X11_framesThat_L4] at hf
    refine lv_iload_n hx hb dX11_framesThat_4 rfl (lv_at hl 3 rfl) ?_
    refine lv_aload_n hx hb dX11_framesThat_5 rfl (lv_at hl 0 rfl) ?_
    refine z_callVi (o := 70) (ci := 9) (As := []) (rest := [.int x3]) (t_X11_frames G l hN  h) cv_X11_frames hx hb hml hl.1 Z hw (by decide) (by decide) (by omega) rfl rfl wd926 rfl rfl (Nat.le_of_ble_eq_true rfl) (by decide) dX11_framesThat_6 (fun H locs hw => ?_)
    refine lv_icmp_ge (tgt := 35) hx hb dX11_framesThat_9 (by decide) (fun c9 => ?_) (fun c9 => ?_)
    · have hf := (if_pos c9).symm.trans hf
      obtain rfl := Option.some.inj hf
      exact kk ls H locs (lv_sub hl [2] rfl) hw
    · have hf := (if_neg c9).symm.trans hf
      refine lv_iload_n hx hb dX11_framesThat_12 rfl (lv_at hl 2 rfl) ?_
      refine lv_aload_n hx hb dX11_framesThat_13 rfl (lv_at hl 0 rfl) ?_
      refine lv_iload_n hx hb dX11_framesThat_14 rfl (lv_at hl 3 rfl) ?_
      obtain ⟨q15, hq15, hf⟩ := ob_some hf
      refine z_callVi (o := 70) (ci := 9) (As := [.int x3]) (rest := [.int x2]) (t_X11_how G l hN x3 h hq15) cv_X11_how hx hb hml hl.1 Z hw (by decide) (by decide) (by omega) rfl rfl wd1104 rfl rfl (Nat.le_of_ble_eq_true rfl) (by decide) dX11_framesThat_15 (fun H locs hw => ?_)
      refine lv_iload_n hx hb dX11_framesThat_18 rfl (lv_at hl 1 rfl) ?_
      have HJ27 : ∀ (ls : Array Slot) (H : Heap) (locs : List Loc), lv_has ls 4 [(0, .ref (ra G 70)), (1, .int x1), (3, .int x3)] → HW G h s H locs → WZ p l e 5 s m args below meth c G rv hq H locs (F0 m 27 ls [.int (if q15 = x1 then (1 : Int32) else (0 : Int32)), .int x2]) := by
        intro ls H locs hl hw
        refine lv_iadd hx hb dX11_framesThat_27 ?_
        obtain ⟨v28, hqv28, hf⟩ := tb_ex hf
        refine z_top hqv28 ?_
        refine lv_istore_n (lv' := [(2, _), (0, _), (1, _), (3, _)]) hx hb dX11_framesThat_28 rfl hl (by decide) rfl (fun ls hl => ?_)
        refine lv_iinc (v := x3 + (1 : Int32)) (lv' := [(3, _), (2, _), (0, _), (1, _)]) hx hb dX11_framesThat_29 hl (k := 3) rfl rfl (by decide) rfl (fun ls hl => ?_)
        refine lv_goto (tgt := 4) hx hb dX11_framesThat_32 (by decide) ?_
        exact ih x1 v28 (x3 + (1 : Int32)) h  rv hq ls H locs (lv_sub hl [2, 3, 1, 0] rfl) hw hf kk
      refine lv_icmp_ne (tgt := 26) hx hb dX11_framesThat_19 (by decide) (fun c19 => ?_) (fun c19 => ?_)
      · skip
        refine lv_iconst (v := (0 : Int32)) hx hb dX11_framesThat_26 (by decide) ?_
        refine W.eq (g2 := F0 m 27 ls [.int (if q15 = x1 then (1 : Int32) else (0 : Int32)), .int x2]) ?_ (HJ27 ls H locs (lv_sub hl [0, 1, 3] rfl) hw)
        simp only [if_neg c19]
      · skip
        refine lv_iconst (v := (1 : Int32)) hx hb dX11_framesThat_22 (by decide) ?_
        refine lv_goto (tgt := 27) hx hb dX11_framesThat_23 (by decide) ?_
        refine W.eq (g2 := F0 m 27 ls [.int (if q15 = x1 then (1 : Int32) else (0 : Int32)), .int x2]) ?_ (HJ27 ls H locs (lv_sub hl [0, 1, 3] rfl) hw)
        simp only [if_pos c19]
set_option maxHeartbeats 4000000 in
set_option maxRecDepth 100000 in
theorem t_X11_framesThat (G : GM) (l : Launch) (hN : 77 ≤ gN G) (x1 : Int32) (h : HP) {r : Int32} (hf : f_X11_framesThat x1 h = some r) : MC G l yX11_framesThat cX11_framesThat 4 (some .int) 5 [.ref (ra G 70), .int x1] h h (some (.int r)) := by
  unfold f_X11_framesThat at hf
  refine z_start (by decide) (Nat.le_of_ble_eq_true rfl) ?_
  intro p e s m args below meth c ls hx hb hr hlk hml Z hw hl
  have Z : ZK G s args m RX11 := Z
  have hl : lv_has ls 4 [(0, .ref (ra G 70)), (1, .int x1)] := hl
  obtain ⟨H, hH⟩ : ∃ H, H = s.heap := ⟨_, rfl⟩
  rw [← hH] at hw ⊢
  obtain ⟨locs, hlc⟩ : ∃ locs : List Loc, locs = [] := ⟨_, rfl⟩
  rw [← hlc] at hw ⊢
  refine lv_iconst (v := (0 : Int32)) hx hb dX11_framesThat_0 (by decide) ?_
  refine lv_istore_n (lv' := [(2, _), (0, _), (1, _)]) hx hb dX11_framesThat_1 rfl hl (by decide) rfl (fun ls hl => ?_)
  refine lv_iconst (v := (0 : Int32)) hx hb dX11_framesThat_2 (by decide) ?_
  refine lv_istore_n (lv' := [(3, _), (2, _), (0, _), (1, _)]) hx hb dX11_framesThat_3 rfl hl (by decide) rfl (fun ls hl => ?_)
  obtain ⟨q4, hq4, hf⟩ := ob_some hf
  refine w_X11_framesThat_L4 G l hN  hx hb hr hlk hml Z FU x1 (0 : Int32) (0 : Int32) h  _ _ ls H locs (lv_sub hl [2, 3, 1, 0] rfl) hw hq4 (fun ls H locs hl hw => ?_)
  refine lv_iload_n hx hb dX11_framesThat_35 rfl (lv_at hl 0 rfl) ?_
  obtain rfl := Option.some.inj hf
  exact z_iret hx hb hr hlk hw dX11_framesThat_36
set_option maxHeartbeats 4000000 in
set_option maxRecDepth 100000 in
theorem t_X11_tick (G : GM) (l : Launch) (hN : 77 ≤ gN G) (x1 : Int32) (h : HP) {h' : HP} (hf : f_X11_tick x1 h = h') : MC G l yX11_tick cX11_tick 3 none 1 [.ref (ra G 70), .int x1] h h' none := by
  unfold f_X11_tick at hf
  refine z_start (by decide) (Nat.le_of_ble_eq_true rfl) ?_
  intro p e s m args below meth c ls hx hb hr hlk hml Z hw hl
  have Z : ZK G s args m RX11 := Z
  have hl : lv_has ls 3 [(0, .ref (ra G 70)), (1, .int x1)] := hl
  obtain ⟨H, hH⟩ : ∃ H, H = s.heap := ⟨_, rfl⟩
  rw [← hH] at hw ⊢
  obtain ⟨locs, hlc⟩ : ∃ locs : List Loc, locs = [] := ⟨_, rfl⟩
  rw [← hlc] at hw ⊢
  refine lv_aload_n hx hb dX11_tick_0 rfl (lv_at hl 0 rfl) ?_
  refine lv_iload_n hx hb dX11_tick_1 rfl (lv_at hl 1 rfl) ?_
  refine z_callVi (o := 70) (ci := 9) (As := [.int x1]) (rest := []) (t_X11_framesOf G l hN x1 h) cv_X11_framesOf hx hb hml hl.1 Z hw (by decide) (by decide) (by omega) rfl rfl wd975 rfl rfl (Nat.le_of_ble_eq_true rfl) (by decide) dX11_tick_2 (fun H locs hw => ?_)
  refine lv_aload_n hx hb dX11_tick_5 rfl (lv_at hl 0 rfl) ?_
  refine z_getr (o := 70) (o2 := 71) (C := RX11) (T := TX11) (N := 11) (ci := 9) (k := 0) hx hb Z hw (by decide) (by omega) rfl inX11 (by decide) rfl wd875 dX11_tick_6 ?_
  refine lv_bipush (v := (7 : Int32)) hx hb dX11_tick_9 (by decide) ?_
  refine y_iald (o := 71) (k := 7) hx hb Z hw (by decide) (by omega) (by decide) (inB_vp (by decide)) dX11_tick_11 ?_
  refine lv_isub hx hb dX11_tick_12 ?_
  refine lv_istore_n (lv' := [(2, _), (0, _), (1, _)]) hx hb dX11_tick_13 rfl hl (by decide) rfl (fun ls hl => ?_)
  refine lv_aload_n hx hb dX11_tick_14 rfl (lv_at hl 1 rfl) ?_
  refine z_getr (o := 70) (o2 := 71) (C := RX11) (T := TX11) (N := 11) (ci := 9) (k := 0) hx hb Z hw (by decide) (by omega) rfl inX11 (by decide) rfl wd875 dX11_tick_15 ?_
  refine lv_bipush (v := (7 : Int32)) hx hb dX11_tick_18 (by decide) ?_
  refine lv_dup2_11 hx hb dX11_tick_20 rfl rfl ?_
  refine y_iald (o := 71) (k := 7) hx hb Z hw (by decide) (by omega) (by decide) (inB_vp (by decide)) dX11_tick_21 ?_
  refine lv_iload_n hx hb dX11_tick_22 rfl (lv_at hl 0 rfl) ?_
  refine lv_aload_n hx hb dX11_tick_23 rfl (lv_at hl 1 rfl) ?_
  refine z_getr (o := 70) (o2 := 71) (C := RX11) (T := TX11) (N := 11) (ci := 9) (k := 0) hx hb Z hw (by decide) (by omega) rfl inX11 (by decide) rfl wd875 dX11_tick_24 ?_
  refine lv_iconst (v := (2 : Int32)) hx hb dX11_tick_27 (by decide) ?_
  refine y_iald (o := 71) (k := 2) hx hb Z hw (by decide) (by omega) (by decide) (inB_vp (by decide)) dX11_tick_28 ?_
  have HJ63 : ∀ (ls : Array Slot) (H : Heap) (locs : List Loc), lv_has ls 3 [(0, .ref (ra G 70))] → HW G h s H locs → WZ p l e 1 s m args below meth c G none h' H locs (F0 m 63 ls [.int (if ((f_X11_framesOf x1 h) - (h 71 7)) ≤ (h 71 2) then (if (-(h 71 2)) ≤ ((f_X11_framesOf x1 h) - (h 71 7)) then ((f_X11_framesOf x1 h) - (h 71 7)) else (-(h 71 2))) else (h 71 2)), .int (h 71 7), .int (7 : Int32), .ref (ra G 71)]) := by
    intro ls H locs hl hw
    refine lv_iadd hx hb dX11_tick_63 ?_
    refine y_iast (o := 71) (k := 7) hx hb Z hw (by decide) (by omega) (by decide) (inB_vp (by decide)) dX11_tick_64 (fun H locs hw => ?_)
    refine lv_aload_n hx hb dX11_tick_65 rfl (lv_at hl 0 rfl) ?_
    obtain ⟨h66, hqh66, hf⟩ := tb_ex hf
    rw [hqh66] at hw
    refine z_getr (o := 70) (o2 := 71) (C := RX11) (T := TX11) (N := 11) (ci := 9) (k := 0) hx hb Z hw (by decide) (by omega) rfl inX11 (by decide) rfl wd875 dX11_tick_66 ?_
    refine lv_bipush (v := (8 : Int32)) hx hb dX11_tick_69 (by decide) ?_
    refine lv_dup2_11 hx hb dX11_tick_71 rfl rfl ?_
    refine y_iald (o := 71) (k := 8) hx hb Z hw (by decide) (by omega) (by decide) (inB_vp (by decide)) dX11_tick_72 ?_
    refine lv_iconst (v := (1 : Int32)) hx hb dX11_tick_73 (by decide) ?_
    refine lv_iadd hx hb dX11_tick_74 ?_
    refine y_iast (o := 71) (k := 8) hx hb Z hw (by decide) (by omega) (by decide) (inB_vp (by decide)) dX11_tick_75 (fun H locs hw => ?_)
    obtain rfl := hf
    exact z_vret hx hb hr hlk hw dX11_tick_76
  refine lv_icmp_le (tgt := 41) hx hb dX11_tick_29 (by decide) (fun c29 => ?_) (fun c29 => ?_)
  · skip
    refine lv_iload_n hx hb dX11_tick_41 rfl (lv_at hl 0 rfl) ?_
    refine lv_aload_n hx hb dX11_tick_42 rfl (lv_at hl 1 rfl) ?_
    refine z_getr (o := 70) (o2 := 71) (C := RX11) (T := TX11) (N := 11) (ci := 9) (k := 0) hx hb Z hw (by decide) (by omega) rfl inX11 (by decide) rfl wd875 dX11_tick_43 ?_
    refine lv_iconst (v := (2 : Int32)) hx hb dX11_tick_46 (by decide) ?_
    refine y_iald (o := 71) (k := 2) hx hb Z hw (by decide) (by omega) (by decide) (inB_vp (by decide)) dX11_tick_47 ?_
    refine lv_ineg hx hb dX11_tick_48 ?_
    refine lv_icmp_ge (tgt := 62) hx hb dX11_tick_49 (by decide) (fun c49 => ?_) (fun c49 => ?_)
    · skip
      refine lv_iload_n hx hb dX11_tick_62 rfl (lv_at hl 0 rfl) ?_
      refine W.eq (g2 := F0 m 63 ls [.int (if ((f_X11_framesOf x1 h) - (h 71 7)) ≤ (h 71 2) then (if (-(h 71 2)) ≤ ((f_X11_framesOf x1 h) - (h 71 7)) then ((f_X11_framesOf x1 h) - (h 71 7)) else (-(h 71 2))) else (h 71 2)), .int (h 71 7), .int (7 : Int32), .ref (ra G 71)]) ?_ (HJ63 ls H locs (lv_sub hl [1] rfl) hw)
      simp only [if_pos c29, if_pos c49]
    · skip
      refine lv_aload_n hx hb dX11_tick_52 rfl (lv_at hl 1 rfl) ?_
      refine z_getr (o := 70) (o2 := 71) (C := RX11) (T := TX11) (N := 11) (ci := 9) (k := 0) hx hb Z hw (by decide) (by omega) rfl inX11 (by decide) rfl wd875 dX11_tick_53 ?_
      refine lv_iconst (v := (2 : Int32)) hx hb dX11_tick_56 (by decide) ?_
      refine y_iald (o := 71) (k := 2) hx hb Z hw (by decide) (by omega) (by decide) (inB_vp (by decide)) dX11_tick_57 ?_
      refine lv_ineg hx hb dX11_tick_58 ?_
      refine lv_goto (tgt := 63) hx hb dX11_tick_59 (by decide) ?_
      refine W.eq (g2 := F0 m 63 ls [.int (if ((f_X11_framesOf x1 h) - (h 71 7)) ≤ (h 71 2) then (if (-(h 71 2)) ≤ ((f_X11_framesOf x1 h) - (h 71 7)) then ((f_X11_framesOf x1 h) - (h 71 7)) else (-(h 71 2))) else (h 71 2)), .int (h 71 7), .int (7 : Int32), .ref (ra G 71)]) ?_ (HJ63 ls H locs (lv_sub hl [1] rfl) hw)
      simp only [if_pos c29, if_neg c49]
  · skip
    refine lv_aload_n hx hb dX11_tick_32 rfl (lv_at hl 1 rfl) ?_
    refine z_getr (o := 70) (o2 := 71) (C := RX11) (T := TX11) (N := 11) (ci := 9) (k := 0) hx hb Z hw (by decide) (by omega) rfl inX11 (by decide) rfl wd875 dX11_tick_33 ?_
    refine lv_iconst (v := (2 : Int32)) hx hb dX11_tick_36 (by decide) ?_
    refine y_iald (o := 71) (k := 2) hx hb Z hw (by decide) (by omega) (by decide) (inB_vp (by decide)) dX11_tick_37 ?_
    refine lv_goto (tgt := 63) hx hb dX11_tick_38 (by decide) ?_
    refine W.eq (g2 := F0 m 63 ls [.int (if ((f_X11_framesOf x1 h) - (h 71 7)) ≤ (h 71 2) then (if (-(h 71 2)) ≤ ((f_X11_framesOf x1 h) - (h 71 7)) then ((f_X11_framesOf x1 h) - (h 71 7)) else (-(h 71 2))) else (h 71 2)), .int (h 71 7), .int (7 : Int32), .ref (ra G 71)]) ?_ (HJ63 ls H locs (lv_sub hl [1] rfl) hw)
    simp only [if_neg c29]
set_option maxHeartbeats 4000000 in
set_option maxRecDepth 100000 in
theorem t_X11_isNear (G : GM) (l : Launch) (hN : 77 ≤ gN G) (x1 : Int32) (h : HP) : MC G l yX11_isNear cX11_isNear 2 (some .boolean) 1 [.ref (ra G 70), .int x1] h h (some (.int (f_X11_isNear x1 h))) := by
  generalize hf : f_X11_isNear x1 h = r
  unfold f_X11_isNear at hf
  refine z_start (by decide) (Nat.le_of_ble_eq_true rfl) ?_
  intro p e s m args below meth c ls hx hb hr hlk hml Z hw hl
  have Z : ZK G s args m RX11 := Z
  have hl : lv_has ls 2 [(0, .ref (ra G 70)), (1, .int x1)] := hl
  obtain ⟨H, hH⟩ : ∃ H, H = s.heap := ⟨_, rfl⟩
  rw [← hH] at hw ⊢
  obtain ⟨locs, hlc⟩ : ∃ locs : List Loc, locs = [] := ⟨_, rfl⟩
  rw [← hlc] at hw ⊢
  refine lv_aload_n hx hb dX11_isNear_0 rfl (lv_at hl 0 rfl) ?_
  refine lv_iload_n hx hb dX11_isNear_1 rfl (lv_at hl 1 rfl) ?_
  refine z_callVi (o := 70) (ci := 9) (As := [.int x1]) (rest := []) (t_X11_framesOf G l hN x1 h) cv_X11_framesOf hx hb hml hl.1 Z hw (by decide) (by decide) (by omega) rfl rfl wd975 rfl rfl (Nat.le_of_ble_eq_true rfl) (by decide) dX11_isNear_2 (fun H locs hw => ?_)
  refine lv_aload_n hx hb dX11_isNear_5 rfl (lv_at hl 0 rfl) ?_
  refine z_getr (o := 70) (o2 := 71) (C := RX11) (T := TX11) (N := 11) (ci := 9) (k := 0) hx hb Z hw (by decide) (by omega) rfl inX11 (by decide) rfl wd875 dX11_isNear_6 ?_
  refine lv_bipush (v := (7 : Int32)) hx hb dX11_isNear_9 (by decide) ?_
  refine y_iald (o := 71) (k := 7) hx hb Z hw (by decide) (by omega) (by decide) (inB_vp (by decide)) dX11_isNear_11 ?_
  refine lv_isub hx hb dX11_isNear_12 ?_
  refine z_callSi (As := [.int ((f_X11_framesOf x1 h) - (h 71 7))]) (rest := []) (t_X11_size G l hN ((f_X11_framesOf x1 h) - (h 71 7)) h) cs_X11_size hx hb hml hl.1 Z hw wd1021 rfl rfl (Nat.le_of_ble_eq_true rfl) (by decide) dX11_isNear_13 (fun H locs hw => ?_)
  refine lv_aload_n hx hb dX11_isNear_16 rfl (lv_at hl 0 rfl) ?_
  refine z_getr (o := 70) (o2 := 71) (C := RX11) (T := TX11) (N := 11) (ci := 9) (k := 0) hx hb Z hw (by decide) (by omega) rfl inX11 (by decide) rfl wd875 dX11_isNear_17 ?_
  refine lv_iconst (v := (3 : Int32)) hx hb dX11_isNear_20 (by decide) ?_
  refine y_iald (o := 71) (k := 3) hx hb Z hw (by decide) (by omega) (by decide) (inB_vp (by decide)) dX11_isNear_21 ?_
  refine lv_icmp_gt (tgt := 29) hx hb dX11_isNear_22 (by decide) (fun c22 => ?_) (fun c22 => ?_)
  · have hf := (if_pos c22).symm.trans hf
    refine lv_iconst (v := (0 : Int32)) hx hb dX11_isNear_29 (by decide) ?_
    obtain rfl := hf
    exact z_zret hx hb hr rfl hlk hw dX11_isNear_30
  · have hf := (if_neg c22).symm.trans hf
    refine lv_iconst (v := (1 : Int32)) hx hb dX11_isNear_25 (by decide) ?_
    refine lv_goto (tgt := 30) hx hb dX11_isNear_26 (by decide) ?_
    obtain rfl := hf
    exact z_zret hx hb hr rfl hlk hw dX11_isNear_30
set_option maxHeartbeats 4000000 in
set_option maxRecDepth 100000 in
theorem w_X11_jumps_L92 (G : GM) (l : Launch) (hN : 77 ≤ gN G)  {p : Program} {e : Env} {s : State} {m : MethodId} {args : Array Value} {below : List Frame} {meth : Method} {c : Code} (hx : p.tables.exec = Jvm.exec) (hb : c.code = cX11_jumps) (hr : meth.sig.returnType = none) (hlk : meth.locks = false) (hml : c.maxLocals = 7) (Z : ZK G s args m RX11) : ∀ (n : Nat) (x4 : Int32) (x5 : Int32) (x6 : Int32)  (h : HP)  (rv : Option Value) (hq : HP) (ls : Array Slot) (H : Heap) (locs : List Loc) {q : HP}, lv_has ls 7 [(0, .ref (ra G 70)), (4, .int x4), (5, .int x5), (6, .int x6)] → HW G h s H locs → f_X11_jumps_L92 n x4 x5 x6 h = some q → (∀ (ls : Array Slot) (H : Heap) (locs : List Loc), lv_has ls 7 [(0, .ref (ra G 70)), (4, .int x4)] → HW G q s H locs → WZ p l e 2 s m args below meth c G rv hq H locs (F0 m 111 ls [])) → WZ p l e 2 s m args below meth c G rv hq H locs (F0 m 92 ls []) := by
  intro n
  induction n with
  | zero => intro x4 x5 x6  h  rv hq ls H locs q hl hw hf kk; cases hf
  | succ n ih =>
    intro x4 x5 x6  h  rv hq ls H locs q hl hw hf kk
    rw [f_X11_jumps_L92] at hf
    refine lv_iload hx hb dX11_jumps_92 (lv_at hl 3 rfl) ?_
    refine lv_iload hx hb dX11_jumps_94 (lv_at hl 2 rfl) ?_
    refine lv_icmp_ge (tgt := 111) hx hb dX11_jumps_96 (by decide) (fun c96 => ?_) (fun c96 => ?_)
    · have hf := (if_pos c96).symm.trans hf
      obtain rfl := Option.some.inj hf
      exact kk ls H locs (lv_sub hl [0, 1] rfl) hw
    · have hf := (if_neg c96).symm.trans hf
      refine lv_aload_n hx hb dX11_jumps_99 rfl (lv_at hl 0 rfl) ?_
      refine lv_iload hx hb dX11_jumps_100 (lv_at hl 1 rfl) ?_
      obtain ⟨q102, hq102, hf⟩ := tb_ex hf
      refine z_callVv (o := 70) (ci := 9) (As := [.int x4]) (rest := []) (t_X11_tick G l hN x4 h hq102) cv_X11_tick hx hb hml hl.1 Z hw (by decide) (by decide) (by omega) rfl rfl wd1013 rfl rfl (Nat.le_of_ble_eq_true rfl) (by decide) dX11_jumps_102 (fun H locs hw => ?_)
      refine lv_iinc (v := x6 + (1 : Int32)) (lv' := [(6, _), (0, _), (4, _), (5, _)]) hx hb dX11_jumps_105 hl (k := 3) rfl rfl (by decide) rfl (fun ls hl => ?_)
      refine lv_goto (tgt := 92) hx hb dX11_jumps_108 (by decide) ?_
      exact ih x4 x5 (x6 + (1 : Int32)) q102  rv hq ls H locs (lv_sub hl [1, 2, 3, 0] rfl) hw hf kk
set_option maxHeartbeats 4000000 in
set_option maxRecDepth 100000 in
theorem t_X11_jumps (G : GM) (l : Launch) (hN : 77 ≤ gN G) (x1 : Int32) (h : HP) {h' : HP} (hf : f_X11_jumps x1 h = some h') : MC G l yX11_jumps cX11_jumps 7 none 2 [.ref (ra G 70), .int x1] h h' none := by
  unfold f_X11_jumps at hf
  refine z_start (by decide) (Nat.le_of_ble_eq_true rfl) ?_
  intro p e s m args below meth c ls hx hb hr hlk hml Z hw hl
  have Z : ZK G s args m RX11 := Z
  have hl : lv_has ls 7 [(0, .ref (ra G 70)), (1, .int x1)] := hl
  obtain ⟨H, hH⟩ : ∃ H, H = s.heap := ⟨_, rfl⟩
  rw [← hH] at hw ⊢
  obtain ⟨locs, hlc⟩ : ∃ locs : List Loc, locs = [] := ⟨_, rfl⟩
  rw [← hlc] at hw ⊢
  refine lv_aload_n hx hb dX11_jumps_0 rfl (lv_at hl 0 rfl) ?_
  refine lv_aload_n hx hb dX11_jumps_1 rfl (lv_at hl 0 rfl) ?_
  refine z_getr (o := 70) (o2 := 71) (C := RX11) (T := TX11) (N := 11) (ci := 9) (k := 0) hx hb Z hw (by decide) (by omega) rfl inX11 (by decide) rfl wd875 dX11_jumps_2 ?_
  refine lv_bipush (v := (6 : Int32)) hx hb dX11_jumps_5 (by decide) ?_
  refine y_iald (o := 71) (k := 6) hx hb Z hw (by decide) (by omega) (by decide) (inB_vp (by decide)) dX11_jumps_7 ?_
  obtain ⟨q8, hq8, hf⟩ := ob_some hf
  refine z_callVi (o := 70) (ci := 9) (As := [.int (h 71 6)]) (rest := []) (t_X11_turnOf G l hN (h 71 6) h hq8) cv_X11_turnOf hx hb hml hl.1 Z hw (by decide) (by decide) (by omega) rfl rfl wd1009 rfl rfl (Nat.le_of_ble_eq_true rfl) (by decide) dX11_jumps_8 (fun H locs hw => ?_)
  refine lv_istore_n (lv' := [(2, _), (0, _), (1, _)]) hx hb dX11_jumps_11 rfl hl (by decide) rfl (fun ls hl => ?_)
  refine lv_iload_n hx hb dX11_jumps_12 rfl (lv_at hl 2 rfl) ?_
  refine lv_iload_n hx hb dX11_jumps_13 rfl (lv_at hl 0 rfl) ?_
  refine lv_isub hx hb dX11_jumps_14 ?_
  refine lv_aload_n hx hb dX11_jumps_15 rfl (lv_at hl 1 rfl) ?_
  refine z_getr (o := 70) (o2 := 71) (C := RX11) (T := TX11) (N := 11) (ci := 9) (k := 0) hx hb Z hw (by decide) (by omega) rfl inX11 (by decide) rfl wd875 dX11_jumps_16 ?_
  refine lv_iconst (v := (4 : Int32)) hx hb dX11_jumps_19 (by decide) ?_
  refine y_iald (o := 71) (k := 4) hx hb Z hw (by decide) (by omega) (by decide) (inB_vp (by decide)) dX11_jumps_20 ?_
  refine lv_imul hx hb dX11_jumps_21 ?_
  refine lv_bipush (v := (100 : Int32)) hx hb dX11_jumps_22 (by decide) ?_
  refine lv_idiv hx hb dX11_jumps_24 (by decide) ?_
  refine lv_istore_n (lv' := [(3, _), (2, _), (0, _), (1, _)]) hx hb dX11_jumps_25 rfl hl (by decide) rfl (fun ls hl => ?_)
  refine lv_iload_n hx hb dX11_jumps_26 rfl (lv_at hl 0 rfl) ?_
  have HJ44 : ∀ (ls : Array Slot) (H : Heap) (locs : List Loc), lv_has ls 7 [(0, .ref (ra G 70)), (2, .int q8)] → HW G h s H locs → WZ p l e 2 s m args below meth c G none h' H locs (F0 m 44 ls [.int (if (((x1 - q8) * (h 71 4)) / (100 : Int32)) = 0 then (if x1 ≤ q8 then (-1 : Int32) else (1 : Int32)) else (((x1 - q8) * (h 71 4)) / (100 : Int32)))]) := by
    intro ls H locs hl hw
    obtain ⟨v44, hqv44, hf⟩ := tb_ex hf
    refine z_top hqv44 ?_
    refine lv_istore_n (lv' := [(3, _), (0, _), (2, _)]) hx hb dX11_jumps_44 rfl hl (by decide) rfl (fun ls hl => ?_)
    refine lv_iload_n hx hb dX11_jumps_45 rfl (lv_at hl 2 rfl) ?_
    refine lv_iload_n hx hb dX11_jumps_46 rfl (lv_at hl 0 rfl) ?_
    refine lv_iadd hx hb dX11_jumps_47 ?_
    have HJ71 : ∀ (ls : Array Slot) (H : Heap) (locs : List Loc), lv_has ls 7 [(0, .ref (ra G 70)), (2, .int q8)] → HW G h s H locs → WZ p l e 2 s m args below meth c G none h' H locs (F0 m 71 ls [.int (if 0 ≤ (q8 + v44) then (if (q8 + v44) < (30 : Int32) then (q8 + v44) else (29 : Int32)) else (0 : Int32))]) := by
      intro ls H locs hl hw
      obtain ⟨v71, hqv71, hf⟩ := tb_ex hf
      refine z_top hqv71 ?_
      refine lv_istore (lv' := [(4, _), (0, _), (2, _)]) hx hb dX11_jumps_71 hl (by decide) rfl (fun ls hl => ?_)
      refine lv_aload_n hx hb dX11_jumps_73 rfl (lv_at hl 1 rfl) ?_
      refine z_getr (o := 70) (o2 := 71) (C := RX11) (T := TX11) (N := 11) (ci := 9) (k := 0) hx hb Z hw (by decide) (by omega) rfl inX11 (by decide) rfl wd875 dX11_jumps_74 ?_
      refine lv_iconst (v := (5 : Int32)) hx hb dX11_jumps_77 (by decide) ?_
      refine y_iald (o := 71) (k := 5) hx hb Z hw (by decide) (by omega) (by decide) (inB_vp (by decide)) dX11_jumps_78 ?_
      refine lv_iload hx hb dX11_jumps_79 (lv_at hl 0 rfl) ?_
      refine lv_iload_n hx hb dX11_jumps_81 rfl (lv_at hl 2 rfl) ?_
      refine lv_isub hx hb dX11_jumps_82 ?_
      refine z_callSi (As := [.int (v71 - q8)]) (rest := [.int (h 71 5)]) (t_X11_size G l hN (v71 - q8) h) cs_X11_size hx hb hml hl.1 Z hw wd1021 rfl rfl (Nat.le_of_ble_eq_true rfl) (by decide) dX11_jumps_83 (fun H locs hw => ?_)
      refine lv_iadd hx hb dX11_jumps_86 ?_
      refine lv_istore (lv' := [(5, _), (4, _), (0, _), (2, _)]) hx hb dX11_jumps_87 hl (by decide) rfl (fun ls hl => ?_)
      refine lv_iconst (v := (0 : Int32)) hx hb dX11_jumps_89 (by decide) ?_
      refine lv_istore (lv' := [(6, _), (5, _), (4, _), (0, _), (2, _)]) hx hb dX11_jumps_90 hl (by decide) rfl (fun ls hl => ?_)
      obtain ⟨q92, hq92, hf⟩ := ob_some hf
      refine w_X11_jumps_L92 G l hN  hx hb hr hlk hml Z FU v71 ((h 71 5) + (f_X11_size (v71 - q8) h)) (0 : Int32) h  _ _ ls H locs (lv_sub hl [3, 2, 1, 0] rfl) hw hq92 (fun ls H locs hl hw => ?_)
      refine lv_aload_n hx hb dX11_jumps_111 rfl (lv_at hl 0 rfl) ?_
      refine z_getr (o := 70) (o2 := 71) (C := RX11) (T := TX11) (N := 11) (ci := 9) (k := 0) hx hb Z hw (by decide) (by omega) rfl inX11 (by decide) rfl wd875 dX11_jumps_112 ?_
      refine lv_bipush (v := (6 : Int32)) hx hb dX11_jumps_115 (by decide) ?_
      refine lv_aload_n hx hb dX11_jumps_117 rfl (lv_at hl 0 rfl) ?_
      refine lv_iload hx hb dX11_jumps_118 (lv_at hl 1 rfl) ?_
      refine z_callVi (o := 70) (ci := 9) (As := [.int v71]) (rest := [.int (6 : Int32), .ref (ra G 71)]) (t_X11_start G l hN v71 q92) cv_X11_start hx hb hml hl.1 Z hw (by decide) (by decide) (by omega) rfl rfl wd930 rfl rfl (Nat.le_of_ble_eq_true rfl) (by decide) dX11_jumps_120 (fun H locs hw => ?_)
      refine y_iast (o := 71) (k := 6) hx hb Z hw (by decide) (by omega) (by decide) (inB_vp (by decide)) dX11_jumps_123 (fun H locs hw => ?_)
      refine lv_aload_n hx hb dX11_jumps_124 rfl (lv_at hl 0 rfl) ?_
      obtain ⟨h125, hqh125, hf⟩ := tb_ex hf
      rw [hqh125] at hw
      refine z_getr (o := 70) (o2 := 71) (C := RX11) (T := TX11) (N := 11) (ci := 9) (k := 0) hx hb Z hw (by decide) (by omega) rfl inX11 (by decide) rfl wd875 dX11_jumps_125 ?_
      refine lv_bipush (v := (11 : Int32)) hx hb dX11_jumps_128 (by decide) ?_
      refine lv_dup2_11 hx hb dX11_jumps_130 rfl rfl ?_
      refine y_iald (o := 71) (k := 11) hx hb Z hw (by decide) (by omega) (by decide) (inB_vp (by decide)) dX11_jumps_131 ?_
      refine lv_iconst (v := (1 : Int32)) hx hb dX11_jumps_132 (by decide) ?_
      refine lv_iadd hx hb dX11_jumps_133 ?_
      refine y_iast (o := 71) (k := 11) hx hb Z hw (by decide) (by omega) (by decide) (inB_vp (by decide)) dX11_jumps_134 (fun H locs hw => ?_)
      obtain rfl := Option.some.inj hf
      exact z_vret hx hb hr hlk hw dX11_jumps_135
    refine lv_if_ge (tgt := 55) hx hb dX11_jumps_48 (by decide) (fun c48 => ?_) (fun c48 => ?_)
    · skip
      refine lv_iload_n hx hb dX11_jumps_55 rfl (lv_at hl 2 rfl) ?_
      refine lv_iload_n hx hb dX11_jumps_56 rfl (lv_at hl 0 rfl) ?_
      refine lv_iadd hx hb dX11_jumps_57 ?_
      refine lv_bipush (v := (30 : Int32)) hx hb dX11_jumps_58 (by decide) ?_
      refine lv_icmp_lt (tgt := 68) hx hb dX11_jumps_60 (by decide) (fun c60 => ?_) (fun c60 => ?_)
      · skip
        refine lv_iload_n hx hb dX11_jumps_68 rfl (lv_at hl 2 rfl) ?_
        refine lv_iload_n hx hb dX11_jumps_69 rfl (lv_at hl 0 rfl) ?_
        refine lv_iadd hx hb dX11_jumps_70 ?_
        refine W.eq (g2 := F0 m 71 ls [.int (if 0 ≤ (q8 + v44) then (if (q8 + v44) < (30 : Int32) then (q8 + v44) else (29 : Int32)) else (0 : Int32))]) ?_ (HJ71 ls H locs (lv_sub hl [1, 2] rfl) hw)
        simp only [if_pos c48, if_pos c60]
      · skip
        refine lv_bipush (v := (29 : Int32)) hx hb dX11_jumps_63 (by decide) ?_
        refine lv_goto (tgt := 71) hx hb dX11_jumps_65 (by decide) ?_
        refine W.eq (g2 := F0 m 71 ls [.int (if 0 ≤ (q8 + v44) then (if (q8 + v44) < (30 : Int32) then (q8 + v44) else (29 : Int32)) else (0 : Int32))]) ?_ (HJ71 ls H locs (lv_sub hl [1, 2] rfl) hw)
        simp only [if_pos c48, if_neg c60]
    · skip
      refine lv_iconst (v := (0 : Int32)) hx hb dX11_jumps_51 (by decide) ?_
      refine lv_goto (tgt := 71) hx hb dX11_jumps_52 (by decide) ?_
      refine W.eq (g2 := F0 m 71 ls [.int (if 0 ≤ (q8 + v44) then (if (q8 + v44) < (30 : Int32) then (q8 + v44) else (29 : Int32)) else (0 : Int32))]) ?_ (HJ71 ls H locs (lv_sub hl [1, 2] rfl) hw)
      simp only [if_neg c48]
  refine lv_if_ne (tgt := 43) hx hb dX11_jumps_27 (by decide) (fun c27 => ?_) (fun c27 => ?_)
  · skip
    refine lv_iload_n hx hb dX11_jumps_43 rfl (lv_at hl 0 rfl) ?_
    refine W.eq (g2 := F0 m 44 ls [.int (if (((x1 - q8) * (h 71 4)) / (100 : Int32)) = 0 then (if x1 ≤ q8 then (-1 : Int32) else (1 : Int32)) else (((x1 - q8) * (h 71 4)) / (100 : Int32)))]) ?_ (HJ44 ls H locs (lv_sub hl [2, 1] rfl) hw)
    simp only [if_neg c27]
  · skip
    refine lv_iload_n hx hb dX11_jumps_30 rfl (lv_at hl 3 rfl) ?_
    refine lv_iload_n hx hb dX11_jumps_31 rfl (lv_at hl 1 rfl) ?_
    refine lv_icmp_le (tgt := 39) hx hb dX11_jumps_32 (by decide) (fun c32 => ?_) (fun c32 => ?_)
    · skip
      refine lv_iconst (v := (-1 : Int32)) hx hb dX11_jumps_39 (by decide) ?_
      refine lv_goto (tgt := 44) hx hb dX11_jumps_40 (by decide) ?_
      refine W.eq (g2 := F0 m 44 ls [.int (if (((x1 - q8) * (h 71 4)) / (100 : Int32)) = 0 then (if x1 ≤ q8 then (-1 : Int32) else (1 : Int32)) else (((x1 - q8) * (h 71 4)) / (100 : Int32)))]) ?_ (HJ44 ls H locs (lv_sub hl [2, 1] rfl) hw)
      simp only [if_pos c27, if_pos c32]
    · skip
      refine lv_iconst (v := (1 : Int32)) hx hb dX11_jumps_35 (by decide) ?_
      refine lv_goto (tgt := 44) hx hb dX11_jumps_36 (by decide) ?_
      refine W.eq (g2 := F0 m 44 ls [.int (if (((x1 - q8) * (h 71 4)) / (100 : Int32)) = 0 then (if x1 ≤ q8 then (-1 : Int32) else (1 : Int32)) else (((x1 - q8) * (h 71 4)) / (100 : Int32)))]) ?_ (HJ44 ls H locs (lv_sub hl [2, 1] rfl) hw)
      simp only [if_pos c27, if_neg c32]
set_option maxHeartbeats 4000000 in
set_option maxRecDepth 100000 in
theorem w_X11_seeks_L24 (G : GM) (l : Launch) (hN : 77 ≤ gN G)  {p : Program} {e : Env} {s : State} {m : MethodId} {args : Array Value} {below : List Frame} {meth : Method} {c : Code} (hx : p.tables.exec = Jvm.exec) (hb : c.code = cX11_seeks) (hr : meth.sig.returnType = (some .int)) (hlk : meth.locks = false) (hml : c.maxLocals = 4) (Z : ZK G s args m RX11) : ∀ (n : Nat) (x3 : Int32)  (h : HP) (v1 : Int32) (v2 : Int32) (rv : Option Value) (hq : HP) (ls : Array Slot) (H : Heap) (locs : List Loc) {q : HP}, lv_has ls 4 [(0, .ref (ra G 70)), (1, .int v1), (2, .int v2), (3, .int x3)] → HW G h s H locs → f_X11_seeks_L24 n x3 h = some q → (∀ (ls : Array Slot) (H : Heap) (locs : List Loc), lv_has ls 4 [(0, .ref (ra G 70)), (1, .int v1), (2, .int v2), (3, .int x3)] → HW G q s H locs → WZ p l e 3 s m args below meth c G rv hq H locs (F0 m 47 ls [])) → WZ p l e 3 s m args below meth c G rv hq H locs (F0 m 24 ls []) := by
  intro n
  induction n with
  | zero => intro x3  h v1 v2 rv hq ls H locs q hl hw hf kk; cases hf
  | succ n ih =>
    intro x3  h v1 v2 rv hq ls H locs q hl hw hf kk
    rw [f_X11_seeks_L24] at hf
    refine lv_aload_n hx hb dX11_seeks_24 rfl (lv_at hl 0 rfl) ?_
    refine lv_aload_n hx hb dX11_seeks_25 rfl (lv_at hl 0 rfl) ?_
    refine z_getr (o := 70) (o2 := 71) (C := RX11) (T := TX11) (N := 11) (ci := 9) (k := 0) hx hb Z hw (by decide) (by omega) rfl inX11 (by decide) rfl wd875 dX11_seeks_26 ?_
    refine lv_bipush (v := (6 : Int32)) hx hb dX11_seeks_29 (by decide) ?_
    refine y_iald (o := 71) (k := 6) hx hb Z hw (by decide) (by omega) (by decide) (inB_vp (by decide)) dX11_seeks_31 ?_
    obtain ⟨q32, hq32, hf⟩ := ob_some hf
    refine z_callVi (o := 70) (ci := 9) (As := [.int (h 71 6)]) (rest := []) (t_X11_turnOf G l hN (h 71 6) h hq32) cv_X11_turnOf hx hb hml hl.1 Z hw (by decide) (by decide) (by omega) rfl rfl wd1009 rfl rfl (Nat.le_of_ble_eq_true rfl) (by decide) dX11_seeks_32 (fun H locs hw => ?_)
    refine lv_iload_n hx hb dX11_seeks_35 rfl (lv_at hl 3 rfl) ?_
    refine lv_icmp_eq (tgt := 47) hx hb dX11_seeks_36 (by decide) (fun c36 => ?_) (fun c36 => ?_)
    · have hf := (if_pos c36).symm.trans hf
      obtain rfl := Option.some.inj hf
      exact kk ls H locs (lv_sub hl [0, 1, 2, 3] rfl) hw
    · have hf := (if_neg c36).symm.trans hf
      refine lv_aload_n hx hb dX11_seeks_39 rfl (lv_at hl 0 rfl) ?_
      refine lv_iload_n hx hb dX11_seeks_40 rfl (lv_at hl 3 rfl) ?_
      obtain ⟨q41, hq41, hf⟩ := ob_some hf
      refine z_callVv (o := 70) (ci := 9) (As := [.int x3]) (rest := []) (t_X11_jumps G l hN x3 h hq41) cv_X11_jumps hx hb hml hl.1 Z hw (by decide) (by decide) (by omega) rfl rfl wd1032 rfl rfl (Nat.le_of_ble_eq_true rfl) (by decide) dX11_seeks_41 (fun H locs hw => ?_)
      refine lv_goto (tgt := 24) hx hb dX11_seeks_44 (by decide) ?_
      exact ih x3 q41 v1 v2 rv hq ls H locs (lv_sub hl [0, 1, 2, 3] rfl) hw hf kk
set_option maxHeartbeats 4000000 in
set_option maxRecDepth 100000 in
theorem w_X11_seeks_L47 (G : GM) (l : Launch) (hN : 77 ≤ gN G)  {p : Program} {e : Env} {s : State} {m : MethodId} {args : Array Value} {below : List Frame} {meth : Method} {c : Code} (hx : p.tables.exec = Jvm.exec) (hb : c.code = cX11_seeks) (hr : meth.sig.returnType = (some .int)) (hlk : meth.locks = false) (hml : c.maxLocals = 4) (Z : ZK G s args m RX11) : ∀ (n : Nat) (x3 : Int32)  (h : HP) (v1 : Int32) (v2 : Int32) (rv : Option Value) (hq : HP) (ls : Array Slot) (H : Heap) (locs : List Loc) {q : HP}, lv_has ls 4 [(0, .ref (ra G 70)), (1, .int v1), (2, .int v2), (3, .int x3)] → HW G h s H locs → f_X11_seeks_L47 n x3 h = some q → (∀ (ls : Array Slot) (H : Heap) (locs : List Loc), lv_has ls 4 [(0, .ref (ra G 70)), (1, .int v1), (2, .int v2), (3, .int x3)] → HW G q s H locs → WZ p l e 3 s m args below meth c G rv hq H locs (F0 m 63 ls [])) → WZ p l e 3 s m args below meth c G rv hq H locs (F0 m 47 ls []) := by
  intro n
  induction n with
  | zero => intro x3  h v1 v2 rv hq ls H locs q hl hw hf kk; cases hf
  | succ n ih =>
    intro x3  h v1 v2 rv hq ls H locs q hl hw hf kk
    rw [f_X11_seeks_L47] at hf
    refine lv_aload_n hx hb dX11_seeks_47 rfl (lv_at hl 0 rfl) ?_
    refine lv_iload_n hx hb dX11_seeks_48 rfl (lv_at hl 3 rfl) ?_
    refine z_callVi (o := 70) (ci := 9) (As := [.int x3]) (rest := []) (t_X11_isNear G l hN x3 h) cv_X11_isNear hx hb hml hl.1 Z hw (by decide) (by decide) (by omega) rfl rfl wd1017 rfl rfl (Nat.le_of_ble_eq_true rfl) (by decide) dX11_seeks_49 (fun H locs hw => ?_)
    refine lv_if_ne (tgt := 63) hx hb dX11_seeks_52 (by decide) (fun c52 => ?_) (fun c52 => ?_)
    · have hf := (if_neg c52).symm.trans hf
      obtain rfl := Option.some.inj hf
      exact kk ls H locs (lv_sub hl [0, 1, 2, 3] rfl) hw
    · have hf := (if_pos c52).symm.trans hf
      refine lv_aload_n hx hb dX11_seeks_55 rfl (lv_at hl 0 rfl) ?_
      refine lv_iload_n hx hb dX11_seeks_56 rfl (lv_at hl 3 rfl) ?_
      obtain ⟨q57, hq57, hf⟩ := tb_ex hf
      refine z_callVv (o := 70) (ci := 9) (As := [.int x3]) (rest := []) (t_X11_tick G l hN x3 h hq57) cv_X11_tick hx hb hml hl.1 Z hw (by decide) (by decide) (by omega) rfl rfl wd1013 rfl rfl (Nat.le_of_ble_eq_true rfl) (by decide) dX11_seeks_57 (fun H locs hw => ?_)
      refine lv_goto (tgt := 47) hx hb dX11_seeks_60 (by decide) ?_
      exact ih x3 q57 v1 v2 rv hq ls H locs (lv_sub hl [0, 1, 2, 3] rfl) hw hf kk
set_option maxHeartbeats 4000000 in
set_option maxRecDepth 100000 in
theorem t_X11_seeks (G : GM) (l : Launch) (hN : 77 ≤ gN G) (x1 : Int32) (h : HP) {r : Int32} {h' : HP} (hf : f_X11_seeks x1 h = some (r, h')) : MC G l yX11_seeks cX11_seeks 4 (some .int) 3 [.ref (ra G 70), .int x1] h h' (some (.int r)) := by
  unfold f_X11_seeks at hf
  refine z_start (by decide) (Nat.le_of_ble_eq_true rfl) ?_
  intro p e s m args below meth c ls hx hb hr hlk hml Z hw hl
  have Z : ZK G s args m RX11 := Z
  have hl : lv_has ls 4 [(0, .ref (ra G 70)), (1, .int x1)] := hl
  obtain ⟨H, hH⟩ : ∃ H, H = s.heap := ⟨_, rfl⟩
  rw [← hH] at hw ⊢
  obtain ⟨locs, hlc⟩ : ∃ locs : List Loc, locs = [] := ⟨_, rfl⟩
  rw [← hlc] at hw ⊢
  refine lv_aload_n hx hb dX11_seeks_0 rfl (lv_at hl 0 rfl) ?_
  refine lv_iload_n hx hb dX11_seeks_1 rfl (lv_at hl 1 rfl) ?_
  refine z_callVi (o := 70) (ci := 9) (As := [.int x1]) (rest := []) (t_X11_isFrame G l hN x1 h) cv_X11_isFrame hx hb hml hl.1 Z hw (by decide) (by decide) (by omega) rfl rfl wd922 rfl rfl (Nat.le_of_ble_eq_true rfl) (by decide) dX11_seeks_2 (fun H locs hw => ?_)
  refine lv_if_ne (tgt := 10) hx hb dX11_seeks_5 (by decide) (fun c5 => ?_) (fun c5 => ?_)
  · have hf := (if_neg c5).symm.trans hf
    refine lv_aload_n hx hb dX11_seeks_10 rfl (lv_at hl 0 rfl) ?_
    refine z_getr (o := 70) (o2 := 71) (C := RX11) (T := TX11) (N := 11) (ci := 9) (k := 0) hx hb Z hw (by decide) (by omega) rfl inX11 (by decide) rfl wd875 dX11_seeks_11 ?_
    refine lv_bipush (v := (8 : Int32)) hx hb dX11_seeks_14 (by decide) ?_
    refine y_iald (o := 71) (k := 8) hx hb Z hw (by decide) (by omega) (by decide) (inB_vp (by decide)) dX11_seeks_16 ?_
    refine lv_istore_n (lv' := [(2, _), (0, _), (1, _)]) hx hb dX11_seeks_17 rfl hl (by decide) rfl (fun ls hl => ?_)
    refine lv_aload_n hx hb dX11_seeks_18 rfl (lv_at hl 1 rfl) ?_
    refine lv_iload_n hx hb dX11_seeks_19 rfl (lv_at hl 2 rfl) ?_
    obtain ⟨q20, hq20, hf⟩ := ob_some hf
    refine z_callVi (o := 70) (ci := 9) (As := [.int x1]) (rest := []) (t_X11_turnOf G l hN x1 h hq20) cv_X11_turnOf hx hb hml hl.1 Z hw (by decide) (by decide) (by omega) rfl rfl wd1009 rfl rfl (Nat.le_of_ble_eq_true rfl) (by decide) dX11_seeks_20 (fun H locs hw => ?_)
    refine lv_istore_n (lv' := [(3, _), (2, _), (0, _), (1, _)]) hx hb dX11_seeks_23 rfl hl (by decide) rfl (fun ls hl => ?_)
    obtain ⟨q24, hq24, hf⟩ := ob_some hf
    refine w_X11_seeks_L24 G l hN  hx hb hr hlk hml Z FU q20 h x1 (h 71 8) _ _ ls H locs (lv_sub hl [2, 3, 1, 0] rfl) hw hq24 (fun ls H locs hl hw => ?_)
    obtain ⟨q47, hq47, hf⟩ := ob_some hf
    refine w_X11_seeks_L47 G l hN  hx hb hr hlk hml Z FU q20 q24 x1 (h 71 8) _ _ ls H locs (lv_sub hl [0, 1, 2, 3] rfl) hw hq47 (fun ls H locs hl hw => ?_)
    refine lv_aload_n hx hb dX11_seeks_63 rfl (lv_at hl 0 rfl) ?_
    refine z_getr (o := 70) (o2 := 71) (C := RX11) (T := TX11) (N := 11) (ci := 9) (k := 0) hx hb Z hw (by decide) (by omega) rfl inX11 (by decide) rfl wd875 dX11_seeks_64 ?_
    refine lv_bipush (v := (6 : Int32)) hx hb dX11_seeks_67 (by decide) ?_
    refine y_iald (o := 71) (k := 6) hx hb Z hw (by decide) (by omega) (by decide) (inB_vp (by decide)) dX11_seeks_69 ?_
    refine lv_iload_n hx hb dX11_seeks_70 rfl (lv_at hl 1 rfl) ?_
    obtain ⟨j71, hqj71, hf⟩ := tb_ex hf
    have HJ111 : ∀ (ls : Array Slot) (H : Heap) (locs : List Loc), lv_has ls 4 [(0, .ref (ra G 70)), (1, .int x1), (2, .int (h 71 8))] → HW G j71 s H locs → WZ p l e 3 s m args below meth c G (some (.int r)) h' H locs (F0 m 111 ls []) := by
      intro ls H locs hl hw
      refine lv_aload_n hx hb dX11_seeks_111 rfl (lv_at hl 0 rfl) ?_
      refine z_getr (o := 70) (o2 := 71) (C := RX11) (T := TX11) (N := 11) (ci := 9) (k := 0) hx hb Z hw (by decide) (by omega) rfl inX11 (by decide) rfl wd875 dX11_seeks_112 ?_
      refine lv_bipush (v := (8 : Int32)) hx hb dX11_seeks_115 (by decide) ?_
      refine lv_dup2_11 hx hb dX11_seeks_117 rfl rfl ?_
      refine y_iald (o := 71) (k := 8) hx hb Z hw (by decide) (by omega) (by decide) (inB_vp (by decide)) dX11_seeks_118 ?_
      refine lv_iload_n hx hb dX11_seeks_119 rfl (lv_at hl 1 rfl) ?_
      refine lv_aload_n hx hb dX11_seeks_120 rfl (lv_at hl 0 rfl) ?_
      refine z_getr (o := 70) (o2 := 71) (C := RX11) (T := TX11) (N := 11) (ci := 9) (k := 0) hx hb Z hw (by decide) (by omega) rfl inX11 (by decide) rfl wd875 dX11_seeks_121 ?_
      refine lv_bipush (v := (6 : Int32)) hx hb dX11_seeks_124 (by decide) ?_
      refine y_iald (o := 71) (k := 6) hx hb Z hw (by decide) (by omega) (by decide) (inB_vp (by decide)) dX11_seeks_126 ?_
      refine lv_isub hx hb dX11_seeks_127 ?_
      refine lv_iadd hx hb dX11_seeks_128 ?_
      refine y_iast (o := 71) (k := 8) hx hb Z hw (by decide) (by omega) (by decide) (inB_vp (by decide)) dX11_seeks_129 (fun H locs hw => ?_)
      refine lv_aload_n hx hb dX11_seeks_130 rfl (lv_at hl 0 rfl) ?_
      obtain ⟨h131, hqh131, hf⟩ := tb_ex hf
      rw [hqh131] at hw
      refine z_getr (o := 70) (o2 := 71) (C := RX11) (T := TX11) (N := 11) (ci := 9) (k := 0) hx hb Z hw (by decide) (by omega) rfl inX11 (by decide) rfl wd875 dX11_seeks_131 ?_
      refine lv_bipush (v := (6 : Int32)) hx hb dX11_seeks_134 (by decide) ?_
      refine lv_iload_n hx hb dX11_seeks_136 rfl (lv_at hl 1 rfl) ?_
      refine y_iast (o := 71) (k := 6) hx hb Z hw (by decide) (by omega) (by decide) (inB_vp (by decide)) dX11_seeks_137 (fun H locs hw => ?_)
      refine lv_aload_n hx hb dX11_seeks_138 rfl (lv_at hl 0 rfl) ?_
      obtain ⟨h139, hqh139, hf⟩ := tb_ex hf
      rw [hqh139] at hw
      refine z_getr (o := 70) (o2 := 71) (C := RX11) (T := TX11) (N := 11) (ci := 9) (k := 0) hx hb Z hw (by decide) (by omega) rfl inX11 (by decide) rfl wd875 dX11_seeks_139 ?_
      refine lv_bipush (v := (8 : Int32)) hx hb dX11_seeks_142 (by decide) ?_
      refine y_iald (o := 71) (k := 8) hx hb Z hw (by decide) (by omega) (by decide) (inB_vp (by decide)) dX11_seeks_144 ?_
      refine lv_iload_n hx hb dX11_seeks_145 rfl (lv_at hl 2 rfl) ?_
      refine lv_isub hx hb dX11_seeks_146 ?_
      obtain ⟨rfl, rfl⟩ := Prod.mk.inj (Option.some.inj hf)
      exact z_iret hx hb hr hlk hw dX11_seeks_147
    have hf := hqj71
    refine lv_icmp_le (tgt := 111) hx hb dX11_seeks_71 (by decide) (fun c71 => ?_) (fun c71 => ?_)
    · have hf := (if_pos c71).symm.trans hf
      subst hf
      exact HJ111 ls H locs (lv_sub hl [0, 1, 2] rfl) hw
    · have hf := (if_neg c71).symm.trans hf
      refine lv_aload_n hx hb dX11_seeks_74 rfl (lv_at hl 0 rfl) ?_
      refine z_getr (o := 70) (o2 := 71) (C := RX11) (T := TX11) (N := 11) (ci := 9) (k := 0) hx hb Z hw (by decide) (by omega) rfl inX11 (by decide) rfl wd875 dX11_seeks_75 ?_
      refine lv_bipush (v := (8 : Int32)) hx hb dX11_seeks_78 (by decide) ?_
      refine lv_dup2_11 hx hb dX11_seeks_80 rfl rfl ?_
      refine y_iald (o := 71) (k := 8) hx hb Z hw (by decide) (by omega) (by decide) (inB_vp (by decide)) dX11_seeks_81 ?_
      refine lv_aload_n hx hb dX11_seeks_82 rfl (lv_at hl 0 rfl) ?_
      refine lv_iload_n hx hb dX11_seeks_83 rfl (lv_at hl 3 rfl) ?_
      refine lv_iconst (v := (1 : Int32)) hx hb dX11_seeks_84 (by decide) ?_
      refine lv_iadd hx hb dX11_seeks_85 ?_
      refine z_callVi (o := 70) (ci := 9) (As := [.int (q20 + (1 : Int32))]) (rest := [.int (q47 71 8), .int (8 : Int32), .ref (ra G 71)]) (t_X11_start G l hN (q20 + (1 : Int32)) q47) cv_X11_start hx hb hml hl.1 Z hw (by decide) (by decide) (by omega) rfl rfl wd930 rfl rfl (Nat.le_of_ble_eq_true rfl) (by decide) dX11_seeks_86 (fun H locs hw => ?_)
      refine lv_aload_n hx hb dX11_seeks_89 rfl (lv_at hl 0 rfl) ?_
      refine z_getr (o := 70) (o2 := 71) (C := RX11) (T := TX11) (N := 11) (ci := 9) (k := 0) hx hb Z hw (by decide) (by omega) rfl inX11 (by decide) rfl wd875 dX11_seeks_90 ?_
      refine lv_bipush (v := (6 : Int32)) hx hb dX11_seeks_93 (by decide) ?_
      refine y_iald (o := 71) (k := 6) hx hb Z hw (by decide) (by omega) (by decide) (inB_vp (by decide)) dX11_seeks_95 ?_
      refine lv_isub hx hb dX11_seeks_96 ?_
      refine lv_iadd hx hb dX11_seeks_97 ?_
      refine y_iast (o := 71) (k := 8) hx hb Z hw (by decide) (by omega) (by decide) (inB_vp (by decide)) dX11_seeks_98 (fun H locs hw => ?_)
      refine lv_aload_n hx hb dX11_seeks_99 rfl (lv_at hl 0 rfl) ?_
      obtain ⟨h100, hqh100, hf⟩ := tb_ex hf
      rw [hqh100] at hw
      refine z_getr (o := 70) (o2 := 71) (C := RX11) (T := TX11) (N := 11) (ci := 9) (k := 0) hx hb Z hw (by decide) (by omega) rfl inX11 (by decide) rfl wd875 dX11_seeks_100 ?_
      refine lv_bipush (v := (6 : Int32)) hx hb dX11_seeks_103 (by decide) ?_
      refine lv_aload_n hx hb dX11_seeks_105 rfl (lv_at hl 0 rfl) ?_
      refine lv_iload_n hx hb dX11_seeks_106 rfl (lv_at hl 3 rfl) ?_
      refine z_callVi (o := 70) (ci := 9) (As := [.int q20]) (rest := [.int (6 : Int32), .ref (ra G 71)]) (t_X11_start G l hN q20 h100) cv_X11_start hx hb hml hl.1 Z hw (by decide) (by decide) (by omega) rfl rfl wd930 rfl rfl (Nat.le_of_ble_eq_true rfl) (by decide) dX11_seeks_107 (fun H locs hw => ?_)
      refine y_iast (o := 71) (k := 6) hx hb Z hw (by decide) (by omega) (by decide) (inB_vp (by decide)) dX11_seeks_110 (fun H locs hw => ?_)
      subst hf
      exact HJ111 ls H locs (lv_sub hl [0, 1, 2] rfl) hw
  · have hf := (if_pos c5).symm.trans hf
    refine lv_iconst (v := (-1 : Int32)) hx hb dX11_seeks_8 (by decide) ?_
    obtain ⟨rfl, rfl⟩ := Prod.mk.inj (Option.some.inj hf)
    exact z_iret hx hb hr hlk hw dX11_seeks_9
set_option maxHeartbeats 4000000 in
set_option maxRecDepth 100000 in
theorem w_X11_plays_L41 (G : GM) (l : Launch) (hN : 77 ≤ gN G)  {p : Program} {e : Env} {s : State} {m : MethodId} {args : Array Value} {below : List Frame} {meth : Method} {c : Code} (hx : p.tables.exec = Jvm.exec) (hb : c.code = cX11_plays) (hr : meth.sig.returnType = (some .int)) (hlk : meth.locks = false) (hml : c.maxLocals = 5) (Z : ZK G s args m RX11) : ∀ (n : Nat) (x2 : Int32) (x3 : Int32)  (h : HP)  (rv : Option Value) (hq : HP) (ls : Array Slot) (H : Heap) (locs : List Loc) {q : Int32 × HP}, lv_has ls 5 [(0, .ref (ra G 70)), (2, .int x2), (3, .int x3)] → HW G h s H locs → f_X11_plays_L41 n x2 x3 h = some q → (∀ (ls : Array Slot) (H : Heap) (locs : List Loc), lv_has ls 5 [(0, .ref (ra G 70)), (3, .int q.1)] → HW G q.2 s H locs → WZ p l e 3 s m args below meth c G rv hq H locs (F0 m 138 ls [])) → WZ p l e 3 s m args below meth c G rv hq H locs (F0 m 41 ls []) := by
  intro n
  induction n with
  | zero => intro x2 x3  h  rv hq ls H locs q hl hw hf kk; cases hf
  | succ n ih =>
    intro x2 x3  h  rv hq ls H locs q hl hw hf kk
    rw [f_X11_plays_L41] at hf
    refine lv_iload_n hx hb dX11_plays_41 rfl (lv_at hl 1 rfl) ?_
    refine lv_if_le (tgt := 138) hx hb dX11_plays_42 (by decide) (fun c42 => ?_) (fun c42 => ?_)
    · have hf := (if_pos c42).symm.trans hf
      obtain rfl := Option.some.inj hf
      exact kk ls H locs (lv_sub hl [0, 2] rfl) hw
    · have hf := (if_neg c42).symm.trans hf
      refine lv_aload_n hx hb dX11_plays_45 rfl (lv_at hl 0 rfl) ?_
      refine z_getr (o := 70) (o2 := 71) (C := RX11) (T := TX11) (N := 11) (ci := 9) (k := 0) hx hb Z hw (by decide) (by omega) rfl inX11 (by decide) rfl wd875 dX11_plays_46 ?_
      refine lv_bipush (v := (6 : Int32)) hx hb dX11_plays_49 (by decide) ?_
      refine y_iald (o := 71) (k := 6) hx hb Z hw (by decide) (by omega) (by decide) (inB_vp (by decide)) dX11_plays_51 ?_
      refine lv_aload_n hx hb dX11_plays_52 rfl (lv_at hl 0 rfl) ?_
      refine z_callVi (o := 70) (ci := 9) (As := []) (rest := [.int (h 71 6)]) (t_X11_frames G l hN  h) cv_X11_frames hx hb hml hl.1 Z hw (by decide) (by decide) (by omega) rfl rfl wd926 rfl rfl (Nat.le_of_ble_eq_true rfl) (by decide) dX11_plays_53 (fun H locs hw => ?_)
      refine lv_icmp_ge (tgt := 138) hx hb dX11_plays_56 (by decide) (fun c56 => ?_) (fun c56 => ?_)
      · have hf := (if_pos c56).symm.trans hf
        obtain rfl := Option.some.inj hf
        exact kk ls H locs (lv_sub hl [0, 2] rfl) hw
      · have hf := (if_neg c56).symm.trans hf
        refine lv_aload_n hx hb dX11_plays_59 rfl (lv_at hl 0 rfl) ?_
        refine lv_aload_n hx hb dX11_plays_60 rfl (lv_at hl 0 rfl) ?_
        refine z_getr (o := 70) (o2 := 71) (C := RX11) (T := TX11) (N := 11) (ci := 9) (k := 0) hx hb Z hw (by decide) (by omega) rfl inX11 (by decide) rfl wd875 dX11_plays_61 ?_
        refine lv_bipush (v := (6 : Int32)) hx hb dX11_plays_64 (by decide) ?_
        refine y_iald (o := 71) (k := 6) hx hb Z hw (by decide) (by omega) (by decide) (inB_vp (by decide)) dX11_plays_66 ?_
        obtain ⟨q67, hq67, hf⟩ := ob_some hf
        refine z_callVi (o := 70) (ci := 9) (As := [.int (h 71 6)]) (rest := []) (t_X11_turnOf G l hN (h 71 6) h hq67) cv_X11_turnOf hx hb hml hl.1 Z hw (by decide) (by decide) (by omega) rfl rfl wd1009 rfl rfl (Nat.le_of_ble_eq_true rfl) (by decide) dX11_plays_67 (fun H locs hw => ?_)
        refine lv_istore (lv' := [(4, _), (0, _), (2, _), (3, _)]) hx hb dX11_plays_70 hl (by decide) rfl (fun ls hl => ?_)
        refine lv_aload_n hx hb dX11_plays_72 rfl (lv_at hl 1 rfl) ?_
        refine lv_iload hx hb dX11_plays_73 (lv_at hl 0 rfl) ?_
        obtain ⟨q75, hq75, hf⟩ := tb_ex hf
        refine z_callVv (o := 70) (ci := 9) (As := [.int q67]) (rest := []) (t_X11_tick G l hN q67 h hq75) cv_X11_tick hx hb hml hl.1 Z hw (by decide) (by decide) (by omega) rfl rfl wd1013 rfl rfl (Nat.le_of_ble_eq_true rfl) (by decide) dX11_plays_75 (fun H locs hw => ?_)
        refine lv_aload_n hx hb dX11_plays_78 rfl (lv_at hl 1 rfl) ?_
        refine lv_iload hx hb dX11_plays_79 (lv_at hl 0 rfl) ?_
        refine z_callVi (o := 70) (ci := 9) (As := [.int q67]) (rest := []) (t_X11_isNear G l hN q67 q75) cv_X11_isNear hx hb hml hl.1 Z hw (by decide) (by decide) (by omega) rfl rfl wd1017 rfl rfl (Nat.le_of_ble_eq_true rfl) (by decide) dX11_plays_81 (fun H locs hw => ?_)
        obtain ⟨j84, hqj84, hf⟩ := ob_some hf
        have HJ135 : ∀ (ls : Array Slot) (H : Heap) (locs : List Loc), lv_has ls 5 [(0, .ref (ra G 70)), (2, .int j84.1), (3, .int j84.2.1)] → HW G j84.2.2 s H locs → WZ p l e 3 s m args below meth c G rv hq H locs (F0 m 135 ls []) := by
          intro ls H locs hl hw
          refine lv_goto (tgt := 41) hx hb dX11_plays_135 (by decide) ?_
          exact ih j84.1 j84.2.1 j84.2.2  rv hq ls H locs (lv_sub hl [0, 1, 2] rfl) hw hf kk
        have hf := hqj84
        refine lv_if_eq (tgt := 135) hx hb dX11_plays_84 (by decide) (fun c84 => ?_) (fun c84 => ?_)
        · have hf := (if_pos c84).symm.trans hf
          obtain rfl := Option.some.inj hf
          exact HJ135 ls H locs (lv_sub hl [1, 2, 3] rfl) hw
        · have hf := (if_neg c84).symm.trans hf
          refine lv_iload_n hx hb dX11_plays_87 rfl (lv_at hl 3 rfl) ?_
          refine lv_aload_n hx hb dX11_plays_88 rfl (lv_at hl 1 rfl) ?_
          refine z_getr (o := 70) (o2 := 76) (C := RX11) (T := TX11) (N := 11) (ci := 9) (k := 8) hx hb Z hw (by decide) (by omega) rfl inX11 (by decide) rfl wd883 dX11_plays_89 ?_
          refine lv_aload_n hx hb dX11_plays_92 rfl (lv_at hl 1 rfl) ?_
          refine z_getr (o := 70) (o2 := 71) (C := RX11) (T := TX11) (N := 11) (ci := 9) (k := 0) hx hb Z hw (by decide) (by omega) rfl inX11 (by decide) rfl wd875 dX11_plays_93 ?_
          refine lv_bipush (v := (6 : Int32)) hx hb dX11_plays_96 (by decide) ?_
          refine y_iald (o := 71) (k := 6) hx hb Z hw (by decide) (by omega) (by decide) (inB_vp (by decide)) dX11_plays_98 ?_
          obtain ⟨h99, hf⟩ := gd_some hf
          refine y_zald (o := 76) (k := (q75 71 6).toNatClampNeg) hx hb Z hw (by decide) (by omega) rfl (inB_vp h99) dX11_plays_99 ?_
          have HJ108 : ∀ (ls : Array Slot) (H : Heap) (locs : List Loc), lv_has ls 5 [(0, .ref (ra G 70)), (2, .int x2)] → HW G q75 s H locs → WZ p l e 3 s m args below meth c G rv hq H locs (F0 m 108 ls [.int (if (q75 76 (q75 71 6).toNatClampNeg) = 0 then (1 : Int32) else (0 : Int32)), .int x3]) := by
            intro ls H locs hl hw
            refine lv_iadd hx hb dX11_plays_108 ?_
            obtain ⟨v109, hqv109, hf⟩ := tb_ex hf
            refine z_top hqv109 ?_
            refine lv_istore_n (lv' := [(3, _), (0, _), (2, _)]) hx hb dX11_plays_109 rfl hl (by decide) rfl (fun ls hl => ?_)
            refine lv_aload_n hx hb dX11_plays_110 rfl (lv_at hl 1 rfl) ?_
            refine z_getr (o := 70) (o2 := 71) (C := RX11) (T := TX11) (N := 11) (ci := 9) (k := 0) hx hb Z hw (by decide) (by omega) rfl inX11 (by decide) rfl wd875 dX11_plays_111 ?_
            refine lv_bipush (v := (6 : Int32)) hx hb dX11_plays_114 (by decide) ?_
            refine lv_dup2_11 hx hb dX11_plays_116 rfl rfl ?_
            refine y_iald (o := 71) (k := 6) hx hb Z hw (by decide) (by omega) (by decide) (inB_vp (by decide)) dX11_plays_117 ?_
            refine lv_iconst (v := (1 : Int32)) hx hb dX11_plays_118 (by decide) ?_
            refine lv_iadd hx hb dX11_plays_119 ?_
            refine y_iast (o := 71) (k := 6) hx hb Z hw (by decide) (by omega) (by decide) (inB_vp (by decide)) dX11_plays_120 (fun H locs hw => ?_)
            refine lv_aload_n hx hb dX11_plays_121 rfl (lv_at hl 1 rfl) ?_
            obtain ⟨h122, hqh122, hf⟩ := tb_ex hf
            rw [hqh122] at hw
            refine z_getr (o := 70) (o2 := 71) (C := RX11) (T := TX11) (N := 11) (ci := 9) (k := 0) hx hb Z hw (by decide) (by omega) rfl inX11 (by decide) rfl wd875 dX11_plays_122 ?_
            refine lv_bipush (v := (9 : Int32)) hx hb dX11_plays_125 (by decide) ?_
            refine lv_dup2_11 hx hb dX11_plays_127 rfl rfl ?_
            refine y_iald (o := 71) (k := 9) hx hb Z hw (by decide) (by omega) (by decide) (inB_vp (by decide)) dX11_plays_128 ?_
            refine lv_iconst (v := (1 : Int32)) hx hb dX11_plays_129 (by decide) ?_
            refine lv_iadd hx hb dX11_plays_130 ?_
            refine y_iast (o := 71) (k := 9) hx hb Z hw (by decide) (by omega) (by decide) (inB_vp (by decide)) dX11_plays_131 (fun H locs hw => ?_)
            refine lv_iinc (v := x2 + (-1 : Int32)) (lv' := [(2, _), (3, _), (0, _)]) hx hb dX11_plays_132 hl (k := 2) rfl rfl (by decide) rfl (fun ls hl => ?_)
            obtain rfl := Option.some.inj hf
            exact HJ135 ls H locs (lv_sub hl [2, 0, 1] rfl) hw
          refine lv_if_eq (tgt := 107) hx hb dX11_plays_100 (by decide) (fun c100 => ?_) (fun c100 => ?_)
          · skip
            refine lv_iconst (v := (1 : Int32)) hx hb dX11_plays_107 (by decide) ?_
            refine W.eq (g2 := F0 m 108 ls [.int (if (q75 76 (q75 71 6).toNatClampNeg) = 0 then (1 : Int32) else (0 : Int32)), .int x3]) ?_ (HJ108 ls H locs (lv_sub hl [1, 2] rfl) hw)
            simp only [if_pos c100]
          · skip
            refine lv_iconst (v := (0 : Int32)) hx hb dX11_plays_103 (by decide) ?_
            refine lv_goto (tgt := 108) hx hb dX11_plays_104 (by decide) ?_
            refine W.eq (g2 := F0 m 108 ls [.int (if (q75 76 (q75 71 6).toNatClampNeg) = 0 then (1 : Int32) else (0 : Int32)), .int x3]) ?_ (HJ108 ls H locs (lv_sub hl [1, 2] rfl) hw)
            simp only [if_neg c100]
set_option maxHeartbeats 4000000 in
set_option maxRecDepth 100000 in
theorem t_X11_plays (G : GM) (l : Launch) (hN : 77 ≤ gN G) (x1 : Int32) (h : HP) {r : Int32} {h' : HP} (hf : f_X11_plays x1 h = some (r, h')) : MC G l yX11_plays cX11_plays 5 (some .int) 3 [.ref (ra G 70), .int x1] h h' (some (.int r)) := by
  unfold f_X11_plays at hf
  refine z_start (by decide) (Nat.le_of_ble_eq_true rfl) ?_
  intro p e s m args below meth c ls hx hb hr hlk hml Z hw hl
  have Z : ZK G s args m RX11 := Z
  have hl : lv_has ls 5 [(0, .ref (ra G 70)), (1, .int x1)] := hl
  obtain ⟨H, hH⟩ : ∃ H, H = s.heap := ⟨_, rfl⟩
  rw [← hH] at hw ⊢
  obtain ⟨locs, hlc⟩ : ∃ locs : List Loc, locs = [] := ⟨_, rfl⟩
  rw [← hlc] at hw ⊢
  refine lv_iload_n hx hb dX11_plays_0 rfl (lv_at hl 1 rfl) ?_
  refine lv_iconst (v := (1 : Int32)) hx hb dX11_plays_1 (by decide) ?_
  refine lv_sipush (v := (999 : Int32)) hx hb dX11_plays_2 (by decide) ?_
  refine z_callSi (As := [.int x1, .int (1 : Int32), .int (999 : Int32)]) (rest := []) (t_X11_in G l hN x1 (1 : Int32) (999 : Int32) h) cs_X11_in hx hb hml hl.1 Z hw wd934 rfl rfl (Nat.le_of_ble_eq_true rfl) (by decide) dX11_plays_5 (fun H locs hw => ?_)
  refine lv_if_ne (tgt := 14) hx hb dX11_plays_8 (by decide) (fun c8 => ?_) (fun c8 => ?_)
  · have hf := (if_neg c8).symm.trans hf
    refine lv_aload_n hx hb dX11_plays_14 rfl (lv_at hl 0 rfl) ?_
    refine z_getr (o := 70) (o2 := 71) (C := RX11) (T := TX11) (N := 11) (ci := 9) (k := 0) hx hb Z hw (by decide) (by omega) rfl inX11 (by decide) rfl wd875 dX11_plays_15 ?_
    refine lv_bipush (v := (6 : Int32)) hx hb dX11_plays_18 (by decide) ?_
    refine y_iald (o := 71) (k := 6) hx hb Z hw (by decide) (by omega) (by decide) (inB_vp (by decide)) dX11_plays_20 ?_
    refine lv_aload_n hx hb dX11_plays_21 rfl (lv_at hl 0 rfl) ?_
    refine z_callVi (o := 70) (ci := 9) (As := []) (rest := [.int (h 71 6)]) (t_X11_frames G l hN  h) cv_X11_frames hx hb hml hl.1 Z hw (by decide) (by decide) (by omega) rfl rfl wd926 rfl rfl (Nat.le_of_ble_eq_true rfl) (by decide) dX11_plays_22 (fun H locs hw => ?_)
    refine lv_icmp_ne (tgt := 31) hx hb dX11_plays_25 (by decide) (fun c25 => ?_) (fun c25 => ?_)
    · have hf := (if_neg c25).symm.trans hf
      refine lv_aload_n hx hb dX11_plays_31 rfl (lv_at hl 0 rfl) ?_
      refine lv_bipush (v := (-5 : Int32)) hx hb dX11_plays_32 (by decide) ?_
      obtain ⟨q34, hq34, hf⟩ := ob_some hf
      refine z_callVv (o := 70) (ci := 9) (As := [.int (-5 : Int32)]) (rest := []) (t_X11_lay G l hN (-5 : Int32) h hq34) cv_X11_lay hx hb hml hl.1 Z hw (by decide) (by decide) (by omega) rfl rfl wd971 rfl rfl (Nat.le_of_ble_eq_true rfl) (by decide) dX11_plays_34 (fun H locs hw => ?_)
      refine lv_iload_n hx hb dX11_plays_37 rfl (lv_at hl 1 rfl) ?_
      refine lv_istore_n (lv' := [(2, _), (0, _), (1, _)]) hx hb dX11_plays_38 rfl hl (by decide) rfl (fun ls hl => ?_)
      refine lv_iconst (v := (0 : Int32)) hx hb dX11_plays_39 (by decide) ?_
      refine lv_istore_n (lv' := [(3, _), (2, _), (0, _), (1, _)]) hx hb dX11_plays_40 rfl hl (by decide) rfl (fun ls hl => ?_)
      obtain ⟨q41, hq41, hf⟩ := ob_some hf
      refine w_X11_plays_L41 G l hN  hx hb hr hlk hml Z FU x1 (0 : Int32) q34  _ _ ls H locs (lv_sub hl [2, 1, 0] rfl) hw hq41 (fun ls H locs hl hw => ?_)
      refine lv_aload_n hx hb dX11_plays_138 rfl (lv_at hl 0 rfl) ?_
      refine z_getr (o := 70) (o2 := 71) (C := RX11) (T := TX11) (N := 11) (ci := 9) (k := 0) hx hb Z hw (by decide) (by omega) rfl inX11 (by decide) rfl wd875 dX11_plays_139 ?_
      refine lv_bipush (v := (10 : Int32)) hx hb dX11_plays_142 (by decide) ?_
      refine lv_dup2_11 hx hb dX11_plays_144 rfl rfl ?_
      refine y_iald (o := 71) (k := 10) hx hb Z hw (by decide) (by omega) (by decide) (inB_vp (by decide)) dX11_plays_145 ?_
      refine lv_iload_n hx hb dX11_plays_146 rfl (lv_at hl 1 rfl) ?_
      refine lv_iadd hx hb dX11_plays_147 ?_
      refine y_iast (o := 71) (k := 10) hx hb Z hw (by decide) (by omega) (by decide) (inB_vp (by decide)) dX11_plays_148 (fun H locs hw => ?_)
      refine lv_iload_n hx hb dX11_plays_149 rfl (lv_at hl 1 rfl) ?_
      obtain ⟨rfl, rfl⟩ := Prod.mk.inj (Option.some.inj hf)
      exact z_iret hx hb hr hlk hw dX11_plays_150
    · have hf := (if_pos c25).symm.trans hf
      refine lv_bipush (v := (-5 : Int32)) hx hb dX11_plays_28 (by decide) ?_
      obtain ⟨rfl, rfl⟩ := Prod.mk.inj (Option.some.inj hf)
      exact z_iret hx hb hr hlk hw dX11_plays_30
  · have hf := (if_pos c8).symm.trans hf
    refine lv_bipush (v := (-2 : Int32)) hx hb dX11_plays_11 (by decide) ?_
    obtain ⟨rfl, rfl⟩ := Prod.mk.inj (Option.some.inj hf)
    exact z_iret hx hb hr hlk hw dX11_plays_13
set_option maxHeartbeats 4000000 in
set_option maxRecDepth 100000 in
theorem w_X11_presses_L209 (G : GM) (l : Launch) (hN : 77 ≤ gN G)  {p : Program} {e : Env} {s : State} {m : MethodId} {args : Array Value} {below : List Frame} {meth : Method} {c : Code} (hx : p.tables.exec = Jvm.exec) (hb : c.code = cX11_presses) (hr : meth.sig.returnType = (some .int)) (hlk : meth.locks = false) (hml : c.maxLocals = 7) (Z : ZK G s args m RX11) : ∀ (n : Nat) (x5 : Int32) (x6 : Int32)  (h : HP) (v4 : Int32) (rv : Option Value) (hq : HP) (ls : Array Slot) (H : Heap) (locs : List Loc) {q : HP}, lv_has ls 7 [(0, .ref (ra G 70)), (4, .int v4), (5, .int x5), (6, .int x6)] → HW G h s H locs → f_X11_presses_L209 n x5 x6 h = some q → (∀ (ls : Array Slot) (H : Heap) (locs : List Loc), lv_has ls 7 [(4, .int v4)] → HW G q s H locs → WZ p l e 3 s m args below meth c G rv hq H locs (F0 m 277 ls [])) → WZ p l e 3 s m args below meth c G rv hq H locs (F0 m 209 ls []) := by
  intro n
  induction n with
  | zero => intro x5 x6  h v4 rv hq ls H locs q hl hw hf kk; cases hf
  | succ n ih =>
    intro x5 x6  h v4 rv hq ls H locs q hl hw hf kk
    rw [f_X11_presses_L209] at hf
    refine lv_iload hx hb dX11_presses_209 (lv_at hl 3 rfl) ?_
    refine lv_iconst (v := (3 : Int32)) hx hb dX11_presses_211 (by decide) ?_
    refine lv_icmp_ge (tgt := 277) hx hb dX11_presses_212 (by decide) (fun c212 => ?_) (fun c212 => ?_)
    · have hf := (if_pos c212).symm.trans hf
      obtain rfl := Option.some.inj hf
      exact kk ls H locs (lv_sub hl [1] rfl) hw
    · have hf := (if_neg c212).symm.trans hf
      refine lv_aload_n hx hb dX11_presses_215 rfl (lv_at hl 0 rfl) ?_
      refine z_getr (o := 70) (o2 := 71) (C := RX11) (T := TX11) (N := 11) (ci := 9) (k := 0) hx hb Z hw (by decide) (by omega) rfl inX11 (by decide) rfl wd875 dX11_presses_216 ?_
      refine lv_bipush (v := (46 : Int32)) hx hb dX11_presses_219 (by decide) ?_
      refine lv_iconst (v := (3 : Int32)) hx hb dX11_presses_221 (by decide) ?_
      refine lv_iload hx hb dX11_presses_222 (lv_at hl 2 rfl) ?_
      refine lv_imul hx hb dX11_presses_224 ?_
      refine lv_iadd hx hb dX11_presses_225 ?_
      refine lv_iload hx hb dX11_presses_226 (lv_at hl 3 rfl) ?_
      refine lv_iadd hx hb dX11_presses_228 ?_
      refine lv_aload_n hx hb dX11_presses_229 rfl (lv_at hl 0 rfl) ?_
      refine z_getr (o := 70) (o2 := 71) (C := RX11) (T := TX11) (N := 11) (ci := 9) (k := 0) hx hb Z hw (by decide) (by omega) rfl inX11 (by decide) rfl wd875 dX11_presses_230 ?_
      refine lv_bipush (v := (46 : Int32)) hx hb dX11_presses_233 (by decide) ?_
      refine lv_iconst (v := (3 : Int32)) hx hb dX11_presses_235 (by decide) ?_
      refine lv_aload_n hx hb dX11_presses_236 rfl (lv_at hl 0 rfl) ?_
      refine z_getr (o := 70) (o2 := 71) (C := RX11) (T := TX11) (N := 11) (ci := 9) (k := 0) hx hb Z hw (by decide) (by omega) rfl inX11 (by decide) rfl wd875 dX11_presses_237 ?_
      refine lv_bipush (v := (45 : Int32)) hx hb dX11_presses_240 (by decide) ?_
      refine y_iald (o := 71) (k := 45) hx hb Z hw (by decide) (by omega) (by decide) (inB_vp (by decide)) dX11_presses_242 ?_
      refine lv_imul hx hb dX11_presses_243 ?_
      refine lv_iadd hx hb dX11_presses_244 ?_
      refine lv_iload hx hb dX11_presses_245 (lv_at hl 3 rfl) ?_
      refine lv_iadd hx hb dX11_presses_247 ?_
      obtain ⟨h248, hf⟩ := gd_some hf
      refine y_iald (o := 71) (k := (((46 : Int32) + ((3 : Int32) * (h 71 45))) + x6).toNatClampNeg) hx hb Z hw (by decide) (by omega) rfl (inB_vp h248) dX11_presses_248 ?_
      obtain ⟨h249, hf⟩ := gd_some hf
      refine y_iast (o := 71) (k := (((46 : Int32) + ((3 : Int32) * x5)) + x6).toNatClampNeg) hx hb Z hw (by decide) (by omega) rfl (inB_vp h249) dX11_presses_249 (fun H locs hw => ?_)
      refine lv_aload_n hx hb dX11_presses_250 rfl (lv_at hl 0 rfl) ?_
      obtain ⟨h251, hqh251, hf⟩ := tb_ex hf
      rw [hqh251] at hw
      refine z_getr (o := 70) (o2 := 71) (C := RX11) (T := TX11) (N := 11) (ci := 9) (k := 0) hx hb Z hw (by decide) (by omega) rfl inX11 (by decide) rfl wd875 dX11_presses_251 ?_
      refine lv_bipush (v := (46 : Int32)) hx hb dX11_presses_254 (by decide) ?_
      refine lv_iconst (v := (3 : Int32)) hx hb dX11_presses_256 (by decide) ?_
      refine lv_aload_n hx hb dX11_presses_257 rfl (lv_at hl 0 rfl) ?_
      refine z_getr (o := 70) (o2 := 71) (C := RX11) (T := TX11) (N := 11) (ci := 9) (k := 0) hx hb Z hw (by decide) (by omega) rfl inX11 (by decide) rfl wd875 dX11_presses_258 ?_
      refine lv_bipush (v := (45 : Int32)) hx hb dX11_presses_261 (by decide) ?_
      refine y_iald (o := 71) (k := 45) hx hb Z hw (by decide) (by omega) (by decide) (inB_vp (by decide)) dX11_presses_263 ?_
      refine lv_imul hx hb dX11_presses_264 ?_
      refine lv_iadd hx hb dX11_presses_265 ?_
      refine lv_iload hx hb dX11_presses_266 (lv_at hl 3 rfl) ?_
      refine lv_iadd hx hb dX11_presses_268 ?_
      refine lv_iconst (v := (0 : Int32)) hx hb dX11_presses_269 (by decide) ?_
      obtain ⟨h270, hf⟩ := gd_some hf
      refine y_iast (o := 71) (k := (((46 : Int32) + ((3 : Int32) * (h251 71 45))) + x6).toNatClampNeg) hx hb Z hw (by decide) (by omega) rfl (inB_vp h270) dX11_presses_270 (fun H locs hw => ?_)
      refine lv_iinc (v := x6 + (1 : Int32)) (lv' := [(6, _), (0, _), (4, _), (5, _)]) hx hb dX11_presses_271 hl (k := 3) rfl rfl (by decide) rfl (fun ls hl => ?_)
      refine lv_goto (tgt := 209) hx hb dX11_presses_274 (by decide) ?_
      exact ih x5 (x6 + (1 : Int32)) (hset h251 71 (((46 : Int32) + ((3 : Int32) * (h251 71 45))) + x6).toNatClampNeg (0 : Int32)) v4 rv hq ls H locs (lv_sub hl [1, 2, 3, 0] rfl) hw hf kk
set_option maxHeartbeats 4000000 in
set_option maxRecDepth 100000 in
theorem t_X11_presses (G : GM) (l : Launch) (hN : 77 ≤ gN G) (x1 : Int32) (x2 : Int32) (x3 : Int32) (h : HP) {r : Int32} {h' : HP} (hf : f_X11_presses x1 x2 x3 h = some (r, h')) : MC G l yX11_presses cX11_presses 7 (some .int) 3 [.ref (ra G 70), .int x1, .int x2, .int x3] h h' (some (.int r)) := by
  unfold f_X11_presses at hf
  refine z_start (by decide) (Nat.le_of_ble_eq_true rfl) ?_
  intro p e s m args below meth c ls hx hb hr hlk hml Z hw hl
  have Z : ZK G s args m RX11 := Z
  have hl : lv_has ls 7 [(0, .ref (ra G 70)), (1, .int x1), (2, .int x2), (3, .int x3)] := hl
  obtain ⟨H, hH⟩ : ∃ H, H = s.heap := ⟨_, rfl⟩
  rw [← hH] at hw ⊢
  obtain ⟨locs, hlc⟩ : ∃ locs : List Loc, locs = [] := ⟨_, rfl⟩
  rw [← hlc] at hw ⊢
  refine lv_aload_n hx hb dX11_presses_0 rfl (lv_at hl 0 rfl) ?_
  refine lv_iload_n hx hb dX11_presses_1 rfl (lv_at hl 1 rfl) ?_
  refine z_callVi (o := 70) (ci := 9) (As := [.int x1]) (rest := []) (t_X11_isFrame G l hN x1 h) cv_X11_isFrame hx hb hml hl.1 Z hw (by decide) (by decide) (by omega) rfl rfl wd922 rfl rfl (Nat.le_of_ble_eq_true rfl) (by decide) dX11_presses_2 (fun H locs hw => ?_)
  refine lv_if_ne (tgt := 10) hx hb dX11_presses_5 (by decide) (fun c5 => ?_) (fun c5 => ?_)
  · have hf := (if_neg c5).symm.trans hf
    refine lv_iload_n hx hb dX11_presses_10 rfl (lv_at hl 2 rfl) ?_
    refine lv_iconst (v := (0 : Int32)) hx hb dX11_presses_11 (by decide) ?_
    refine lv_iconst (v := (3 : Int32)) hx hb dX11_presses_12 (by decide) ?_
    refine z_callSi (As := [.int x2, .int (0 : Int32), .int (3 : Int32)]) (rest := []) (t_X11_in G l hN x2 (0 : Int32) (3 : Int32) h) cs_X11_in hx hb hml hl.1 Z hw wd934 rfl rfl (Nat.le_of_ble_eq_true rfl) (by decide) dX11_presses_13 (fun H locs hw => ?_)
    refine lv_if_eq (tgt := 29) hx hb dX11_presses_16 (by decide) (fun c16 => ?_) (fun c16 => ?_)
    · have hf := (if_pos c16).symm.trans hf
      refine lv_bipush (v := (-2 : Int32)) hx hb dX11_presses_29 (by decide) ?_
      obtain ⟨rfl, rfl⟩ := Prod.mk.inj (Option.some.inj hf)
      exact z_iret hx hb hr hlk hw dX11_presses_31
    · have hf := (if_neg c16).symm.trans hf
      refine lv_iload_n hx hb dX11_presses_19 rfl (lv_at hl 3 rfl) ?_
      refine lv_iconst (v := (0 : Int32)) hx hb dX11_presses_20 (by decide) ?_
      refine lv_bipush (v := (15 : Int32)) hx hb dX11_presses_21 (by decide) ?_
      refine z_callSi (As := [.int x3, .int (0 : Int32), .int (15 : Int32)]) (rest := []) (t_X11_in G l hN x3 (0 : Int32) (15 : Int32) h) cs_X11_in hx hb hml hl.1 Z hw wd934 rfl rfl (Nat.le_of_ble_eq_true rfl) (by decide) dX11_presses_23 (fun H locs hw => ?_)
      refine lv_if_ne (tgt := 32) hx hb dX11_presses_26 (by decide) (fun c26 => ?_) (fun c26 => ?_)
      · have hf := (if_neg c26).symm.trans hf
        refine lv_iload_n hx hb dX11_presses_32 rfl (lv_at hl 1 rfl) ?_
        refine z_callSi (As := [.int x1]) (rest := []) (t_X11_isCheck G l hN x1 h) cs_X11_isCheck hx hb hml hl.1 Z hw wd937 rfl rfl (Nat.le_of_ble_eq_true rfl) (by decide) dX11_presses_33 (fun H locs hw => ?_)
        refine lv_if_eq (tgt := 42) hx hb dX11_presses_36 (by decide) (fun c36 => ?_) (fun c36 => ?_)
        · have hf := (if_pos c36).symm.trans hf
          refine lv_aload_n hx hb dX11_presses_42 rfl (lv_at hl 0 rfl) ?_
          refine lv_iload_n hx hb dX11_presses_43 rfl (lv_at hl 1 rfl) ?_
          refine lv_iload_n hx hb dX11_presses_44 rfl (lv_at hl 2 rfl) ?_
          obtain ⟨q45, hq45, hf⟩ := ob_some hf
          refine z_callVi (o := 70) (ci := 9) (As := [.int x1, .int x2]) (rest := []) (t_X11_dataSymbol G l hN x1 x2 h hq45) cv_X11_dataSymbol hx hb hml hl.1 Z hw (by decide) (by decide) (by omega) rfl rfl wd940 rfl rfl (Nat.le_of_ble_eq_true rfl) (by decide) dX11_presses_45 (fun H locs hw => ?_)
          refine lv_istore (lv' := [(4, _), (0, _), (1, _), (2, _), (3, _)]) hx hb dX11_presses_48 hl (by decide) rfl (fun ls hl => ?_)
          refine lv_iload hx hb dX11_presses_50 (lv_at hl 0 rfl) ?_
          refine lv_iload_n hx hb dX11_presses_52 rfl (lv_at hl 4 rfl) ?_
          refine lv_icmp_ne (tgt := 59) hx hb dX11_presses_53 (by decide) (fun c53 => ?_) (fun c53 => ?_)
          · have hf := (if_neg c53).symm.trans hf
            refine lv_aload_n hx hb dX11_presses_59 rfl (lv_at hl 1 rfl) ?_
            refine lv_iload_n hx hb dX11_presses_60 rfl (lv_at hl 2 rfl) ?_
            refine lv_iload_n hx hb dX11_presses_61 rfl (lv_at hl 3 rfl) ?_
            obtain ⟨q62, hq62, hf⟩ := ob_some hf
            refine z_callVi (o := 70) (ci := 9) (As := [.int x1, .int x2]) (rest := []) (t_X11_findPressed G l hN x1 x2 h hq62) cv_X11_findPressed hx hb hml hl.1 Z hw (by decide) (by decide) (by omega) rfl rfl wd944 rfl rfl (Nat.le_of_ble_eq_true rfl) (by decide) dX11_presses_62 (fun H locs hw => ?_)
            refine lv_istore (lv' := [(5, _), (4, _), (0, _), (1, _), (2, _), (3, _)]) hx hb dX11_presses_65 hl (by decide) rfl (fun ls hl => ?_)
            refine lv_iload hx hb dX11_presses_67 (lv_at hl 0 rfl) ?_
            refine lv_bipush (v := (-5 : Int32)) hx hb dX11_presses_69 (by decide) ?_
            refine lv_icmp_ne (tgt := 89) hx hb dX11_presses_71 (by decide) (fun c71 => ?_) (fun c71 => ?_)
            · have hf := (if_neg c71).symm.trans hf
              refine lv_iload hx hb dX11_presses_89 (lv_at hl 0 rfl) ?_
              refine lv_bipush (v := (-5 : Int32)) hx hb dX11_presses_91 (by decide) ?_
              have HJ108 : ∀ (ls : Array Slot) (H : Heap) (locs : List Loc), lv_has ls 7 [(0, .ref (ra G 70)), (1, .int x1), (2, .int x2), (3, .int x3), (4, .int q45)] → HW G h s H locs → WZ p l e 3 s m args below meth c G (some (.int r)) h' H locs (F0 m 108 ls [.int (if q62 = (-5 : Int32) then (h 71 45) else q62)]) := by
                intro ls H locs hl hw
                obtain ⟨v108, hqv108, hf⟩ := tb_ex hf
                refine z_top hqv108 ?_
                refine lv_istore (lv' := [(5, _), (0, _), (1, _), (2, _), (3, _), (4, _)]) hx hb dX11_presses_108 hl (by decide) rfl (fun ls hl => ?_)
                refine lv_aload_n hx hb dX11_presses_110 rfl (lv_at hl 1 rfl) ?_
                refine z_getr (o := 70) (o2 := 71) (C := RX11) (T := TX11) (N := 11) (ci := 9) (k := 0) hx hb Z hw (by decide) (by omega) rfl inX11 (by decide) rfl wd875 dX11_presses_111 ?_
                refine lv_bipush (v := (45 : Int32)) hx hb dX11_presses_114 (by decide) ?_
                refine lv_iload hx hb dX11_presses_116 (lv_at hl 0 rfl) ?_
                refine lv_aload_n hx hb dX11_presses_118 rfl (lv_at hl 1 rfl) ?_
                refine z_getr (o := 70) (o2 := 71) (C := RX11) (T := TX11) (N := 11) (ci := 9) (k := 0) hx hb Z hw (by decide) (by omega) rfl inX11 (by decide) rfl wd875 dX11_presses_119 ?_
                refine lv_bipush (v := (45 : Int32)) hx hb dX11_presses_122 (by decide) ?_
                refine y_iald (o := 71) (k := 45) hx hb Z hw (by decide) (by omega) (by decide) (inB_vp (by decide)) dX11_presses_124 ?_
                have HJ142 : ∀ (ls : Array Slot) (H : Heap) (locs : List Loc), lv_has ls 7 [(0, .ref (ra G 70)), (1, .int x1), (2, .int x2), (3, .int x3), (4, .int q45), (5, .int v108)] → HW G h s H locs → WZ p l e 3 s m args below meth c G (some (.int r)) h' H locs (F0 m 142 ls [.int (if v108 = (h 71 45) then (v108 + (1 : Int32)) else (h 71 45)), .int (45 : Int32), .ref (ra G 71)]) := by
                  intro ls H locs hl hw
                  refine y_iast (o := 71) (k := 45) hx hb Z hw (by decide) (by omega) (by decide) (inB_vp (by decide)) dX11_presses_142 (fun H locs hw => ?_)
                  refine lv_aload_n hx hb dX11_presses_143 rfl (lv_at hl 0 rfl) ?_
                  obtain ⟨h144, hqh144, hf⟩ := tb_ex hf
                  rw [hqh144] at hw
                  refine z_getr (o := 70) (o2 := 71) (C := RX11) (T := TX11) (N := 11) (ci := 9) (k := 0) hx hb Z hw (by decide) (by omega) rfl inX11 (by decide) rfl wd875 dX11_presses_144 ?_
                  refine lv_bipush (v := (46 : Int32)) hx hb dX11_presses_147 (by decide) ?_
                  refine lv_iconst (v := (3 : Int32)) hx hb dX11_presses_149 (by decide) ?_
                  refine lv_iload hx hb dX11_presses_150 (lv_at hl 5 rfl) ?_
                  refine lv_imul hx hb dX11_presses_152 ?_
                  refine lv_iadd hx hb dX11_presses_153 ?_
                  refine lv_iload_n hx hb dX11_presses_154 rfl (lv_at hl 1 rfl) ?_
                  obtain ⟨h155, hf⟩ := gd_some hf
                  refine y_iast (o := 71) (k := ((46 : Int32) + ((3 : Int32) * v108)).toNatClampNeg) hx hb Z hw (by decide) (by omega) rfl (inB_vp h155) dX11_presses_155 (fun H locs hw => ?_)
                  refine lv_aload_n hx hb dX11_presses_156 rfl (lv_at hl 0 rfl) ?_
                  obtain ⟨h157, hqh157, hf⟩ := tb_ex hf
                  rw [hqh157] at hw
                  refine z_getr (o := 70) (o2 := 71) (C := RX11) (T := TX11) (N := 11) (ci := 9) (k := 0) hx hb Z hw (by decide) (by omega) rfl inX11 (by decide) rfl wd875 dX11_presses_157 ?_
                  refine lv_bipush (v := (46 : Int32)) hx hb dX11_presses_160 (by decide) ?_
                  refine lv_iconst (v := (3 : Int32)) hx hb dX11_presses_162 (by decide) ?_
                  refine lv_iload hx hb dX11_presses_163 (lv_at hl 5 rfl) ?_
                  refine lv_imul hx hb dX11_presses_165 ?_
                  refine lv_iadd hx hb dX11_presses_166 ?_
                  refine lv_iconst (v := (1 : Int32)) hx hb dX11_presses_167 (by decide) ?_
                  refine lv_iadd hx hb dX11_presses_168 ?_
                  refine lv_iload_n hx hb dX11_presses_169 rfl (lv_at hl 2 rfl) ?_
                  obtain ⟨h170, hf⟩ := gd_some hf
                  refine y_iast (o := 71) (k := (((46 : Int32) + ((3 : Int32) * v108)) + (1 : Int32)).toNatClampNeg) hx hb Z hw (by decide) (by omega) rfl (inB_vp h170) dX11_presses_170 (fun H locs hw => ?_)
                  refine lv_aload_n hx hb dX11_presses_171 rfl (lv_at hl 0 rfl) ?_
                  obtain ⟨h172, hqh172, hf⟩ := tb_ex hf
                  rw [hqh172] at hw
                  refine z_getr (o := 70) (o2 := 71) (C := RX11) (T := TX11) (N := 11) (ci := 9) (k := 0) hx hb Z hw (by decide) (by omega) rfl inX11 (by decide) rfl wd875 dX11_presses_172 ?_
                  refine lv_bipush (v := (46 : Int32)) hx hb dX11_presses_175 (by decide) ?_
                  refine lv_iconst (v := (3 : Int32)) hx hb dX11_presses_177 (by decide) ?_
                  refine lv_iload hx hb dX11_presses_178 (lv_at hl 5 rfl) ?_
                  refine lv_imul hx hb dX11_presses_180 ?_
                  refine lv_iadd hx hb dX11_presses_181 ?_
                  refine lv_iconst (v := (2 : Int32)) hx hb dX11_presses_182 (by decide) ?_
                  refine lv_iadd hx hb dX11_presses_183 ?_
                  refine lv_iload_n hx hb dX11_presses_184 rfl (lv_at hl 3 rfl) ?_
                  obtain ⟨h185, hf⟩ := gd_some hf
                  refine y_iast (o := 71) (k := (((46 : Int32) + ((3 : Int32) * v108)) + (2 : Int32)).toNatClampNeg) hx hb Z hw (by decide) (by omega) rfl (inB_vp h185) dX11_presses_185 (fun H locs hw => ?_)
                  refine lv_iload_n hx hb dX11_presses_186 rfl (lv_at hl 3 rfl) ?_
                  refine lv_iload_n hx hb dX11_presses_187 rfl (lv_at hl 1 rfl) ?_
                  refine lv_iload_n hx hb dX11_presses_188 rfl (lv_at hl 2 rfl) ?_
                  obtain ⟨h189, hqh189, hf⟩ := tb_ex hf
                  rw [hqh189] at hw
                  refine z_callSi (As := [.int x1, .int x2]) (rest := [.int x3]) (t_X11_atFirst G l hN x1 x2 h189) cs_X11_atFirst hx hb hml hl.1 Z hw wd948 rfl rfl (Nat.le_of_ble_eq_true rfl) (by decide) dX11_presses_189 (fun H locs hw => ?_)
                  refine lv_icmp_ne (tgt := 277) hx hb dX11_presses_192 (by decide) (fun c192 => ?_) (fun c192 => ?_)
                  · have hf := (if_neg c192).symm.trans hf
                    refine lv_iload hx hb dX11_presses_277 (lv_at hl 4 rfl) ?_
                    obtain ⟨rfl, rfl⟩ := Prod.mk.inj (Option.some.inj hf)
                    exact z_iret hx hb hr hlk hw dX11_presses_279
                  · have hf := (if_pos c192).symm.trans hf
                    refine lv_aload_n hx hb dX11_presses_195 rfl (lv_at hl 0 rfl) ?_
                    refine z_getr (o := 70) (o2 := 71) (C := RX11) (T := TX11) (N := 11) (ci := 9) (k := 0) hx hb Z hw (by decide) (by omega) rfl inX11 (by decide) rfl wd875 dX11_presses_196 ?_
                    refine lv_bipush (v := (45 : Int32)) hx hb dX11_presses_199 (by decide) ?_
                    refine lv_dup2_11 hx hb dX11_presses_201 rfl rfl ?_
                    refine y_iald (o := 71) (k := 45) hx hb Z hw (by decide) (by omega) (by decide) (inB_vp (by decide)) dX11_presses_202 ?_
                    refine lv_iconst (v := (1 : Int32)) hx hb dX11_presses_203 (by decide) ?_
                    refine lv_isub hx hb dX11_presses_204 ?_
                    refine y_iast (o := 71) (k := 45) hx hb Z hw (by decide) (by omega) (by decide) (inB_vp (by decide)) dX11_presses_205 (fun H locs hw => ?_)
                    refine lv_iconst (v := (0 : Int32)) hx hb dX11_presses_206 (by decide) ?_
                    refine lv_istore (lv' := [(6, _), (0, _), (1, _), (2, _), (3, _), (4, _), (5, _)]) hx hb dX11_presses_207 hl (by decide) rfl (fun ls hl => ?_)
                    obtain ⟨q209, hq209, hf⟩ := ob_some hf
                    refine w_X11_presses_L209 G l hN  hx hb hr hlk hml Z FU v108 (0 : Int32) (hset h189 71 45 ((h189 71 45) - (1 : Int32))) q45 _ _ ls H locs (lv_sub hl [1, 5, 6, 0] rfl) hw hq209 (fun ls H locs hl hw => ?_)
                    refine lv_iload hx hb dX11_presses_277 (lv_at hl 0 rfl) ?_
                    obtain ⟨rfl, rfl⟩ := Prod.mk.inj (Option.some.inj hf)
                    exact z_iret hx hb hr hlk hw dX11_presses_279
                refine lv_icmp_ne (tgt := 135) hx hb dX11_presses_125 (by decide) (fun c125 => ?_) (fun c125 => ?_)
                · skip
                  refine lv_aload_n hx hb dX11_presses_135 rfl (lv_at hl 1 rfl) ?_
                  refine z_getr (o := 70) (o2 := 71) (C := RX11) (T := TX11) (N := 11) (ci := 9) (k := 0) hx hb Z hw (by decide) (by omega) rfl inX11 (by decide) rfl wd875 dX11_presses_136 ?_
                  refine lv_bipush (v := (45 : Int32)) hx hb dX11_presses_139 (by decide) ?_
                  refine y_iald (o := 71) (k := 45) hx hb Z hw (by decide) (by omega) (by decide) (inB_vp (by decide)) dX11_presses_141 ?_
                  refine W.eq (g2 := F0 m 142 ls [.int (if v108 = (h 71 45) then (v108 + (1 : Int32)) else (h 71 45)), .int (45 : Int32), .ref (ra G 71)]) ?_ (HJ142 ls H locs (lv_sub hl [1, 2, 3, 4, 5, 0] rfl) hw)
                  simp only [if_neg c125]
                · skip
                  refine lv_iload hx hb dX11_presses_128 (lv_at hl 0 rfl) ?_
                  refine lv_iconst (v := (1 : Int32)) hx hb dX11_presses_130 (by decide) ?_
                  refine lv_iadd hx hb dX11_presses_131 ?_
                  refine lv_goto (tgt := 142) hx hb dX11_presses_132 (by decide) ?_
                  refine W.eq (g2 := F0 m 142 ls [.int (if v108 = (h 71 45) then (v108 + (1 : Int32)) else (h 71 45)), .int (45 : Int32), .ref (ra G 71)]) ?_ (HJ142 ls H locs (lv_sub hl [1, 2, 3, 4, 5, 0] rfl) hw)
                  simp only [if_pos c125]
              refine lv_icmp_ne (tgt := 106) hx hb dX11_presses_93 (by decide) (fun c93 => ?_) (fun c93 => ?_)
              · skip
                refine lv_iload hx hb dX11_presses_106 (lv_at hl 0 rfl) ?_
                refine W.eq (g2 := F0 m 108 ls [.int (if q62 = (-5 : Int32) then (h 71 45) else q62)]) ?_ (HJ108 ls H locs (lv_sub hl [2, 3, 4, 5, 1] rfl) hw)
                simp only [if_neg c93]
              · skip
                refine lv_aload_n hx hb dX11_presses_96 rfl (lv_at hl 2 rfl) ?_
                refine z_getr (o := 70) (o2 := 71) (C := RX11) (T := TX11) (N := 11) (ci := 9) (k := 0) hx hb Z hw (by decide) (by omega) rfl inX11 (by decide) rfl wd875 dX11_presses_97 ?_
                refine lv_bipush (v := (45 : Int32)) hx hb dX11_presses_100 (by decide) ?_
                refine y_iald (o := 71) (k := 45) hx hb Z hw (by decide) (by omega) (by decide) (inB_vp (by decide)) dX11_presses_102 ?_
                refine lv_goto (tgt := 108) hx hb dX11_presses_103 (by decide) ?_
                refine W.eq (g2 := F0 m 108 ls [.int (if q62 = (-5 : Int32) then (h 71 45) else q62)]) ?_ (HJ108 ls H locs (lv_sub hl [2, 3, 4, 5, 1] rfl) hw)
                simp only [if_pos c93]
            · have hf := (if_pos c71).symm.trans hf
              refine lv_aload_n hx hb dX11_presses_74 rfl (lv_at hl 2 rfl) ?_
              refine z_getr (o := 70) (o2 := 71) (C := RX11) (T := TX11) (N := 11) (ci := 9) (k := 0) hx hb Z hw (by decide) (by omega) rfl inX11 (by decide) rfl wd875 dX11_presses_75 ?_
              refine lv_bipush (v := (45 : Int32)) hx hb dX11_presses_78 (by decide) ?_
              refine y_iald (o := 71) (k := 45) hx hb Z hw (by decide) (by omega) (by decide) (inB_vp (by decide)) dX11_presses_80 ?_
              refine lv_bipush (v := (40 : Int32)) hx hb dX11_presses_81 (by decide) ?_
              refine lv_icmp_ne (tgt := 89) hx hb dX11_presses_83 (by decide) (fun c83 => ?_) (fun c83 => ?_)
              · have hf := (if_neg c83).symm.trans hf
                refine lv_iload hx hb dX11_presses_89 (lv_at hl 0 rfl) ?_
                refine lv_bipush (v := (-5 : Int32)) hx hb dX11_presses_91 (by decide) ?_
                have HJ108 : ∀ (ls : Array Slot) (H : Heap) (locs : List Loc), lv_has ls 7 [(0, .ref (ra G 70)), (1, .int x1), (2, .int x2), (3, .int x3), (4, .int q45)] → HW G h s H locs → WZ p l e 3 s m args below meth c G (some (.int r)) h' H locs (F0 m 108 ls [.int (if q62 = (-5 : Int32) then (h 71 45) else q62)]) := by
                  intro ls H locs hl hw
                  obtain ⟨v108, hqv108, hf⟩ := tb_ex hf
                  refine z_top hqv108 ?_
                  refine lv_istore (lv' := [(5, _), (0, _), (1, _), (2, _), (3, _), (4, _)]) hx hb dX11_presses_108 hl (by decide) rfl (fun ls hl => ?_)
                  refine lv_aload_n hx hb dX11_presses_110 rfl (lv_at hl 1 rfl) ?_
                  refine z_getr (o := 70) (o2 := 71) (C := RX11) (T := TX11) (N := 11) (ci := 9) (k := 0) hx hb Z hw (by decide) (by omega) rfl inX11 (by decide) rfl wd875 dX11_presses_111 ?_
                  refine lv_bipush (v := (45 : Int32)) hx hb dX11_presses_114 (by decide) ?_
                  refine lv_iload hx hb dX11_presses_116 (lv_at hl 0 rfl) ?_
                  refine lv_aload_n hx hb dX11_presses_118 rfl (lv_at hl 1 rfl) ?_
                  refine z_getr (o := 70) (o2 := 71) (C := RX11) (T := TX11) (N := 11) (ci := 9) (k := 0) hx hb Z hw (by decide) (by omega) rfl inX11 (by decide) rfl wd875 dX11_presses_119 ?_
                  refine lv_bipush (v := (45 : Int32)) hx hb dX11_presses_122 (by decide) ?_
                  refine y_iald (o := 71) (k := 45) hx hb Z hw (by decide) (by omega) (by decide) (inB_vp (by decide)) dX11_presses_124 ?_
                  have HJ142 : ∀ (ls : Array Slot) (H : Heap) (locs : List Loc), lv_has ls 7 [(0, .ref (ra G 70)), (1, .int x1), (2, .int x2), (3, .int x3), (4, .int q45), (5, .int v108)] → HW G h s H locs → WZ p l e 3 s m args below meth c G (some (.int r)) h' H locs (F0 m 142 ls [.int (if v108 = (h 71 45) then (v108 + (1 : Int32)) else (h 71 45)), .int (45 : Int32), .ref (ra G 71)]) := by
                    intro ls H locs hl hw
                    refine y_iast (o := 71) (k := 45) hx hb Z hw (by decide) (by omega) (by decide) (inB_vp (by decide)) dX11_presses_142 (fun H locs hw => ?_)
                    refine lv_aload_n hx hb dX11_presses_143 rfl (lv_at hl 0 rfl) ?_
                    obtain ⟨h144, hqh144, hf⟩ := tb_ex hf
                    rw [hqh144] at hw
                    refine z_getr (o := 70) (o2 := 71) (C := RX11) (T := TX11) (N := 11) (ci := 9) (k := 0) hx hb Z hw (by decide) (by omega) rfl inX11 (by decide) rfl wd875 dX11_presses_144 ?_
                    refine lv_bipush (v := (46 : Int32)) hx hb dX11_presses_147 (by decide) ?_
                    refine lv_iconst (v := (3 : Int32)) hx hb dX11_presses_149 (by decide) ?_
                    refine lv_iload hx hb dX11_presses_150 (lv_at hl 5 rfl) ?_
                    refine lv_imul hx hb dX11_presses_152 ?_
                    refine lv_iadd hx hb dX11_presses_153 ?_
                    refine lv_iload_n hx hb dX11_presses_154 rfl (lv_at hl 1 rfl) ?_
                    obtain ⟨h155, hf⟩ := gd_some hf
                    refine y_iast (o := 71) (k := ((46 : Int32) + ((3 : Int32) * v108)).toNatClampNeg) hx hb Z hw (by decide) (by omega) rfl (inB_vp h155) dX11_presses_155 (fun H locs hw => ?_)
                    refine lv_aload_n hx hb dX11_presses_156 rfl (lv_at hl 0 rfl) ?_
                    obtain ⟨h157, hqh157, hf⟩ := tb_ex hf
                    rw [hqh157] at hw
                    refine z_getr (o := 70) (o2 := 71) (C := RX11) (T := TX11) (N := 11) (ci := 9) (k := 0) hx hb Z hw (by decide) (by omega) rfl inX11 (by decide) rfl wd875 dX11_presses_157 ?_
                    refine lv_bipush (v := (46 : Int32)) hx hb dX11_presses_160 (by decide) ?_
                    refine lv_iconst (v := (3 : Int32)) hx hb dX11_presses_162 (by decide) ?_
                    refine lv_iload hx hb dX11_presses_163 (lv_at hl 5 rfl) ?_
                    refine lv_imul hx hb dX11_presses_165 ?_
                    refine lv_iadd hx hb dX11_presses_166 ?_
                    refine lv_iconst (v := (1 : Int32)) hx hb dX11_presses_167 (by decide) ?_
                    refine lv_iadd hx hb dX11_presses_168 ?_
                    refine lv_iload_n hx hb dX11_presses_169 rfl (lv_at hl 2 rfl) ?_
                    obtain ⟨h170, hf⟩ := gd_some hf
                    refine y_iast (o := 71) (k := (((46 : Int32) + ((3 : Int32) * v108)) + (1 : Int32)).toNatClampNeg) hx hb Z hw (by decide) (by omega) rfl (inB_vp h170) dX11_presses_170 (fun H locs hw => ?_)
                    refine lv_aload_n hx hb dX11_presses_171 rfl (lv_at hl 0 rfl) ?_
                    obtain ⟨h172, hqh172, hf⟩ := tb_ex hf
                    rw [hqh172] at hw
                    refine z_getr (o := 70) (o2 := 71) (C := RX11) (T := TX11) (N := 11) (ci := 9) (k := 0) hx hb Z hw (by decide) (by omega) rfl inX11 (by decide) rfl wd875 dX11_presses_172 ?_
                    refine lv_bipush (v := (46 : Int32)) hx hb dX11_presses_175 (by decide) ?_
                    refine lv_iconst (v := (3 : Int32)) hx hb dX11_presses_177 (by decide) ?_
                    refine lv_iload hx hb dX11_presses_178 (lv_at hl 5 rfl) ?_
                    refine lv_imul hx hb dX11_presses_180 ?_
                    refine lv_iadd hx hb dX11_presses_181 ?_
                    refine lv_iconst (v := (2 : Int32)) hx hb dX11_presses_182 (by decide) ?_
                    refine lv_iadd hx hb dX11_presses_183 ?_
                    refine lv_iload_n hx hb dX11_presses_184 rfl (lv_at hl 3 rfl) ?_
                    obtain ⟨h185, hf⟩ := gd_some hf
                    refine y_iast (o := 71) (k := (((46 : Int32) + ((3 : Int32) * v108)) + (2 : Int32)).toNatClampNeg) hx hb Z hw (by decide) (by omega) rfl (inB_vp h185) dX11_presses_185 (fun H locs hw => ?_)
                    refine lv_iload_n hx hb dX11_presses_186 rfl (lv_at hl 3 rfl) ?_
                    refine lv_iload_n hx hb dX11_presses_187 rfl (lv_at hl 1 rfl) ?_
                    refine lv_iload_n hx hb dX11_presses_188 rfl (lv_at hl 2 rfl) ?_
                    obtain ⟨h189, hqh189, hf⟩ := tb_ex hf
                    rw [hqh189] at hw
                    refine z_callSi (As := [.int x1, .int x2]) (rest := [.int x3]) (t_X11_atFirst G l hN x1 x2 h189) cs_X11_atFirst hx hb hml hl.1 Z hw wd948 rfl rfl (Nat.le_of_ble_eq_true rfl) (by decide) dX11_presses_189 (fun H locs hw => ?_)
                    refine lv_icmp_ne (tgt := 277) hx hb dX11_presses_192 (by decide) (fun c192 => ?_) (fun c192 => ?_)
                    · have hf := (if_neg c192).symm.trans hf
                      refine lv_iload hx hb dX11_presses_277 (lv_at hl 4 rfl) ?_
                      obtain ⟨rfl, rfl⟩ := Prod.mk.inj (Option.some.inj hf)
                      exact z_iret hx hb hr hlk hw dX11_presses_279
                    · have hf := (if_pos c192).symm.trans hf
                      refine lv_aload_n hx hb dX11_presses_195 rfl (lv_at hl 0 rfl) ?_
                      refine z_getr (o := 70) (o2 := 71) (C := RX11) (T := TX11) (N := 11) (ci := 9) (k := 0) hx hb Z hw (by decide) (by omega) rfl inX11 (by decide) rfl wd875 dX11_presses_196 ?_
                      refine lv_bipush (v := (45 : Int32)) hx hb dX11_presses_199 (by decide) ?_
                      refine lv_dup2_11 hx hb dX11_presses_201 rfl rfl ?_
                      refine y_iald (o := 71) (k := 45) hx hb Z hw (by decide) (by omega) (by decide) (inB_vp (by decide)) dX11_presses_202 ?_
                      refine lv_iconst (v := (1 : Int32)) hx hb dX11_presses_203 (by decide) ?_
                      refine lv_isub hx hb dX11_presses_204 ?_
                      refine y_iast (o := 71) (k := 45) hx hb Z hw (by decide) (by omega) (by decide) (inB_vp (by decide)) dX11_presses_205 (fun H locs hw => ?_)
                      refine lv_iconst (v := (0 : Int32)) hx hb dX11_presses_206 (by decide) ?_
                      refine lv_istore (lv' := [(6, _), (0, _), (1, _), (2, _), (3, _), (4, _), (5, _)]) hx hb dX11_presses_207 hl (by decide) rfl (fun ls hl => ?_)
                      obtain ⟨q209, hq209, hf⟩ := ob_some hf
                      refine w_X11_presses_L209 G l hN  hx hb hr hlk hml Z FU v108 (0 : Int32) (hset h189 71 45 ((h189 71 45) - (1 : Int32))) q45 _ _ ls H locs (lv_sub hl [1, 5, 6, 0] rfl) hw hq209 (fun ls H locs hl hw => ?_)
                      refine lv_iload hx hb dX11_presses_277 (lv_at hl 0 rfl) ?_
                      obtain ⟨rfl, rfl⟩ := Prod.mk.inj (Option.some.inj hf)
                      exact z_iret hx hb hr hlk hw dX11_presses_279
                  refine lv_icmp_ne (tgt := 135) hx hb dX11_presses_125 (by decide) (fun c125 => ?_) (fun c125 => ?_)
                  · skip
                    refine lv_aload_n hx hb dX11_presses_135 rfl (lv_at hl 1 rfl) ?_
                    refine z_getr (o := 70) (o2 := 71) (C := RX11) (T := TX11) (N := 11) (ci := 9) (k := 0) hx hb Z hw (by decide) (by omega) rfl inX11 (by decide) rfl wd875 dX11_presses_136 ?_
                    refine lv_bipush (v := (45 : Int32)) hx hb dX11_presses_139 (by decide) ?_
                    refine y_iald (o := 71) (k := 45) hx hb Z hw (by decide) (by omega) (by decide) (inB_vp (by decide)) dX11_presses_141 ?_
                    refine W.eq (g2 := F0 m 142 ls [.int (if v108 = (h 71 45) then (v108 + (1 : Int32)) else (h 71 45)), .int (45 : Int32), .ref (ra G 71)]) ?_ (HJ142 ls H locs (lv_sub hl [1, 2, 3, 4, 5, 0] rfl) hw)
                    simp only [if_neg c125]
                  · skip
                    refine lv_iload hx hb dX11_presses_128 (lv_at hl 0 rfl) ?_
                    refine lv_iconst (v := (1 : Int32)) hx hb dX11_presses_130 (by decide) ?_
                    refine lv_iadd hx hb dX11_presses_131 ?_
                    refine lv_goto (tgt := 142) hx hb dX11_presses_132 (by decide) ?_
                    refine W.eq (g2 := F0 m 142 ls [.int (if v108 = (h 71 45) then (v108 + (1 : Int32)) else (h 71 45)), .int (45 : Int32), .ref (ra G 71)]) ?_ (HJ142 ls H locs (lv_sub hl [1, 2, 3, 4, 5, 0] rfl) hw)
                    simp only [if_pos c125]
                refine lv_icmp_ne (tgt := 106) hx hb dX11_presses_93 (by decide) (fun c93 => ?_) (fun c93 => ?_)
                · skip
                  refine lv_iload hx hb dX11_presses_106 (lv_at hl 0 rfl) ?_
                  refine W.eq (g2 := F0 m 108 ls [.int (if q62 = (-5 : Int32) then (h 71 45) else q62)]) ?_ (HJ108 ls H locs (lv_sub hl [2, 3, 4, 5, 1] rfl) hw)
                  simp only [if_neg c93]
                · skip
                  refine lv_aload_n hx hb dX11_presses_96 rfl (lv_at hl 2 rfl) ?_
                  refine z_getr (o := 70) (o2 := 71) (C := RX11) (T := TX11) (N := 11) (ci := 9) (k := 0) hx hb Z hw (by decide) (by omega) rfl inX11 (by decide) rfl wd875 dX11_presses_97 ?_
                  refine lv_bipush (v := (45 : Int32)) hx hb dX11_presses_100 (by decide) ?_
                  refine y_iald (o := 71) (k := 45) hx hb Z hw (by decide) (by omega) (by decide) (inB_vp (by decide)) dX11_presses_102 ?_
                  refine lv_goto (tgt := 108) hx hb dX11_presses_103 (by decide) ?_
                  refine W.eq (g2 := F0 m 108 ls [.int (if q62 = (-5 : Int32) then (h 71 45) else q62)]) ?_ (HJ108 ls H locs (lv_sub hl [2, 3, 4, 5, 1] rfl) hw)
                  simp only [if_pos c93]
              · have hf := (if_pos c83).symm.trans hf
                refine lv_bipush (v := (-3 : Int32)) hx hb dX11_presses_86 (by decide) ?_
                obtain ⟨rfl, rfl⟩ := Prod.mk.inj (Option.some.inj hf)
                exact z_iret hx hb hr hlk hw dX11_presses_88
          · have hf := (if_pos c53).symm.trans hf
            refine lv_bipush (v := (-5 : Int32)) hx hb dX11_presses_56 (by decide) ?_
            obtain ⟨rfl, rfl⟩ := Prod.mk.inj (Option.some.inj hf)
            exact z_iret hx hb hr hlk hw dX11_presses_58
        · have hf := (if_neg c36).symm.trans hf
          refine lv_bipush (v := (-4 : Int32)) hx hb dX11_presses_39 (by decide) ?_
          obtain ⟨rfl, rfl⟩ := Prod.mk.inj (Option.some.inj hf)
          exact z_iret hx hb hr hlk hw dX11_presses_41
      · have hf := (if_pos c26).symm.trans hf
        refine lv_bipush (v := (-2 : Int32)) hx hb dX11_presses_29 (by decide) ?_
        obtain ⟨rfl, rfl⟩ := Prod.mk.inj (Option.some.inj hf)
        exact z_iret hx hb hr hlk hw dX11_presses_31
  · have hf := (if_pos c5).symm.trans hf
    refine lv_iconst (v := (-1 : Int32)) hx hb dX11_presses_8 (by decide) ?_
    obtain ⟨rfl, rfl⟩ := Prod.mk.inj (Option.some.inj hf)
    exact z_iret hx hb hr hlk hw dX11_presses_9
