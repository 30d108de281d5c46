/-! walks (by program) -/
set_option maxHeartbeats 4000000 in
set_option maxRecDepth 100000 in
theorem t_X11_fault (G : GM) (l : Launch) (hN : 77 ≤ gN G)  (h : HP) {r : Int32} {h' : HP} (hf : f_X11_fault  h = some (r, h')) : MC G l yX11_fault cX11_fault 2 (some .int) 6 [.ref (ra G 70)] h h' (some (.int r)) := by
  unfold f_X11_fault at hf
  refine z_start (by decide) (Nat.le_of_ble_eq_true rfl) ?_
  intro p e s m args below meth c ls hx hb hr hlk hml Z hw hl
  have Z : ZK G s args m RX11 := Z
  have hl : lv_has ls 2 [(0, .ref (ra G 70))] := hl
  obtain ⟨H, hH⟩ : ∃ H, H = s.heap := ⟨_, rfl⟩
  rw [← hH] at hw ⊢
  obtain ⟨locs, hlc⟩ : ∃ locs : List Loc, locs = [] := ⟨_, rfl⟩
  rw [← hlc] at hw ⊢
  refine lv_aload_n hx hb dX11_fault_0 rfl (lv_at hl 0 rfl) ?_
  refine lv_iconst (v := (0 : Int32)) hx hb dX11_fault_1 (by decide) ?_
  obtain ⟨q2, hq2, hf⟩ := ob_some hf
  refine z_callVi (o := 70) (ci := 9) (As := [.int (0 : Int32)]) (rest := []) (t_X11_go G l hN (0 : Int32) h hq2) cv_X11_go hx hb hml hl.1 Z hw (by decide) (by decide) (by omega) rfl rfl wd1048 rfl rfl (Nat.le_of_ble_eq_true rfl) (by decide) dX11_fault_2 (fun H locs hw => ?_)
  refine lv_istore_n (lv' := [(1, _), (0, _)]) hx hb dX11_fault_5 rfl hl (by decide) rfl (fun ls hl => ?_)
  refine lv_aload_n hx hb dX11_fault_6 rfl (lv_at hl 1 rfl) ?_
  refine z_geti (o := 70) (C := RX11) (T := TX11) (N := 11) (ci := 9) (k := 10) hx hb Z hw (by decide) (by omega) rfl inX11 (by decide) wd885 dX11_fault_7 ?_
  refine lv_if_eq (tgt := 20) hx hb dX11_fault_10 (by decide) (fun c10 => ?_) (fun c10 => ?_)
  · have hf := (if_pos c10).symm.trans hf
    refine lv_bipush (v := (-5 : Int32)) hx hb dX11_fault_20 (by decide) ?_
    obtain ⟨rfl, rfl⟩ := Prod.mk.inj (Option.some.inj hf)
    exact z_iret hx hb hr hlk hw dX11_fault_22
  · have hf := (if_neg c10).symm.trans hf
    refine lv_aload_n hx hb dX11_fault_13 rfl (lv_at hl 1 rfl) ?_
    refine z_geti (o := 70) (C := RX11) (T := TX11) (N := 11) (ci := 9) (k := 9) hx hb Z hw (by decide) (by omega) rfl inX11 (by decide) wd884 dX11_fault_14 ?_
    refine lv_goto (tgt := 22) hx hb dX11_fault_17 (by decide) ?_
    obtain ⟨rfl, rfl⟩ := Prod.mk.inj (Option.some.inj hf)
    exact z_iret hx hb hr hlk hw dX11_fault_22
set_option maxHeartbeats 4000000 in
set_option maxRecDepth 100000 in
theorem t_X11_doAll (G : GM) (l : Launch) (hN : 77 ≤ gN G)  (h : HP) {r : Int32} {h' : HP} (hf : f_X11_doAll  h = some (r, h')) : MC G l yX11_doAll cX11_doAll 2 (some .int) 6 [.ref (ra G 70)] h h' (some (.int r)) := by
  unfold f_X11_doAll at hf
  refine z_start (by decide) (Nat.le_of_ble_eq_true rfl) ?_
  intro p e s m args below meth c ls hx hb hr hlk hml Z hw hl
  have Z : ZK G s args m RX11 := Z
  have hl : lv_has ls 2 [(0, .ref (ra G 70))] := hl
  obtain ⟨H, hH⟩ : ∃ H, H = s.heap := ⟨_, rfl⟩
  rw [← hH] at hw ⊢
  obtain ⟨locs, hlc⟩ : ∃ locs : List Loc, locs = [] := ⟨_, rfl⟩
  rw [← hlc] at hw ⊢
  refine lv_aload_n hx hb dX11_doAll_0 rfl (lv_at hl 0 rfl) ?_
  refine lv_iconst (v := (0 : Int32)) hx hb dX11_doAll_1 (by decide) ?_
  obtain ⟨q2, hq2, hf⟩ := ob_some hf
  refine z_callVi (o := 70) (ci := 9) (As := [.int (0 : Int32)]) (rest := []) (t_X11_go G l hN (0 : Int32) h hq2) cv_X11_go hx hb hml hl.1 Z hw (by decide) (by decide) (by omega) rfl rfl wd1048 rfl rfl (Nat.le_of_ble_eq_true rfl) (by decide) dX11_doAll_2 (fun H locs hw => ?_)
  refine lv_istore_n (lv' := [(1, _), (0, _)]) hx hb dX11_doAll_5 rfl hl (by decide) rfl (fun ls hl => ?_)
  refine lv_aload_n hx hb dX11_doAll_6 rfl (lv_at hl 1 rfl) ?_
  refine z_geti (o := 70) (C := RX11) (T := TX11) (N := 11) (ci := 9) (k := 10) hx hb Z hw (by decide) (by omega) rfl inX11 (by decide) wd885 dX11_doAll_7 ?_
  refine lv_if_eq (tgt := 21) hx hb dX11_doAll_10 (by decide) (fun c10 => ?_) (fun c10 => ?_)
  · have hf := (if_pos c10).symm.trans hf
    refine lv_aload_n hx hb dX11_doAll_21 rfl (lv_at hl 1 rfl) ?_
    obtain ⟨q22, hq22, hf⟩ := ob_some hf
    refine z_callVv (o := 70) (ci := 9) (As := []) (rest := []) (t_X11_putAside G l hN  q2.2 hq22) cv_X11_putAside hx hb hml hl.1 Z hw (by decide) (by decide) (by omega) rfl rfl wd914 rfl rfl (Nat.le_of_ble_eq_true rfl) (by decide) dX11_doAll_22 (fun H locs hw => ?_)
    refine lv_aload_n hx hb dX11_doAll_25 rfl (lv_at hl 1 rfl) ?_
    refine lv_aload_n hx hb dX11_doAll_26 rfl (lv_at hl 1 rfl) ?_
    refine lv_iconst (v := (1 : Int32)) hx hb dX11_doAll_27 (by decide) ?_
    obtain ⟨q28, hq28, hf⟩ := ob_some hf
    refine z_callVi (o := 70) (ci := 9) (As := [.int (1 : Int32)]) (rest := [.ref (ra G 70)]) (t_X11_go G l hN (1 : Int32) q22 hq28) cv_X11_go hx hb hml hl.1 Z hw (by decide) (by decide) (by omega) rfl rfl wd1048 rfl rfl (Nat.le_of_ble_eq_true rfl) (by decide) dX11_doAll_28 (fun H locs hw => ?_)
    obtain ⟨q31, hq31, hf⟩ := ob_some hf
    refine z_callVi (o := 70) (ci := 9) (As := [.int q28.1]) (rest := []) (t_X11_act G l hN q28.1 q28.2 hq31) cv_X11_act hx hb hml hl.1 Z hw (by decide) (by decide) (by omega) rfl rfl wd951 rfl rfl (Nat.le_of_ble_eq_true rfl) (by decide) dX11_doAll_31 (fun H locs hw => ?_)
    obtain ⟨rfl, rfl⟩ := Prod.mk.inj (Option.some.inj hf)
    exact z_iret hx hb hr hlk hw dX11_doAll_34
  · have hf := (if_neg c10).symm.trans hf
    refine lv_bipush (v := (-100 : Int32)) hx hb dX11_doAll_13 (by decide) ?_
    refine lv_aload_n hx hb dX11_doAll_15 rfl (lv_at hl 1 rfl) ?_
    refine z_geti (o := 70) (C := RX11) (T := TX11) (N := 11) (ci := 9) (k := 9) hx hb Z hw (by decide) (by omega) rfl inX11 (by decide) wd884 dX11_doAll_16 ?_
    refine lv_isub hx hb dX11_doAll_19 ?_
    obtain ⟨rfl, rfl⟩ := Prod.mk.inj (Option.some.inj hf)
    exact z_iret hx hb hr hlk hw dX11_doAll_20
set_option maxHeartbeats 4000000 in
set_option maxRecDepth 100000 in
theorem w_X11_undo_L22 (G : GM) (l : Launch) (hN : 77 ≤ gN G)  {p : Program} {e : Env} {s : State} {m : MethodId} {args : Array Value} {below : List Frame} {meth : Method} {c : Code} (hx : p.tables.exec = Jvm.exec) (hb : c.code = cX11_undo) (hr : meth.sig.returnType = (some .int)) (hlk : meth.locks = false) (hml : c.maxLocals = 2) (Z : ZK G s args m RX11) : ∀ (n : Nat) (x1 : Int32)  (h : HP)  (rv : Option Value) (hq : HP) (ls : Array Slot) (H : Heap) (locs : List Loc) {q : HP}, lv_has ls 2 [(0, .ref (ra G 70)), (1, .int x1)] → HW G h s H locs → f_X11_undo_L22 n x1 h = some q → (∀ (ls : Array Slot) (H : Heap) (locs : List Loc), lv_has ls 2 [(0, .ref (ra G 70))] → HW G q s H locs → WZ p l e 0 s m args below meth c G rv hq H locs (F0 m 56 ls [])) → WZ p l e 0 s m args below meth c G rv hq H locs (F0 m 22 ls []) := by
  intro n
  induction n with
  | zero => intro x1  h  rv hq ls H locs q hl hw hf kk; cases hf
  | succ n ih =>
    intro x1  h  rv hq ls H locs q hl hw hf kk
    rw [f_X11_undo_L22] at hf
    refine lv_iload_n hx hb dX11_undo_22 rfl (lv_at hl 1 rfl) ?_
    refine lv_sipush (v := (166 : Int32)) hx hb dX11_undo_23 (by decide) ?_
    refine lv_icmp_ge (tgt := 56) hx hb dX11_undo_26 (by decide) (fun c26 => ?_) (fun c26 => ?_)
    · have hf := (if_pos c26).symm.trans hf
      obtain rfl := Option.some.inj hf
      exact kk ls H locs (lv_sub hl [0] rfl) hw
    · have hf := (if_neg c26).symm.trans hf
      refine lv_aload_n hx hb dX11_undo_29 rfl (lv_at hl 0 rfl) ?_
      refine z_getr (o := 70) (o2 := 71) (C := RX11) (T := TX11) (N := 11) (ci := 9) (k := 0) hx hb Z hw (by decide) (by omega) rfl inX11 (by decide) rfl wd875 dX11_undo_30 ?_
      refine lv_iload_n hx hb dX11_undo_33 rfl (lv_at hl 1 rfl) ?_
      refine lv_aload_n hx hb dX11_undo_34 rfl (lv_at hl 0 rfl) ?_
      refine z_getr (o := 70) (o2 := 73) (C := RX11) (T := TX11) (N := 11) (ci := 9) (k := 2) hx hb Z hw (by decide) (by omega) rfl inX11 (by decide) rfl wd877 dX11_undo_35 ?_
      refine lv_sipush (v := (166 : Int32)) hx hb dX11_undo_38 (by decide) ?_
      refine lv_aload_n hx hb dX11_undo_41 rfl (lv_at hl 0 rfl) ?_
      refine z_geti (o := 70) (C := RX11) (T := TX11) (N := 11) (ci := 9) (k := 3) hx hb Z hw (by decide) (by omega) rfl inX11 (by decide) wd878 dX11_undo_42 ?_
      refine lv_imul hx hb dX11_undo_45 ?_
      refine lv_iload_n hx hb dX11_undo_46 rfl (lv_at hl 1 rfl) ?_
      refine lv_iadd hx hb dX11_undo_47 ?_
      obtain ⟨h48, hf⟩ := gd_some hf
      refine y_iald (o := 73) (k := (((166 : Int32) * (h 70 3)) + x1).toNatClampNeg) hx hb Z hw (by decide) (by omega) rfl (inB_vp h48) dX11_undo_48 ?_
      obtain ⟨h49, hf⟩ := gd_some hf
      refine y_iast (o := 71) (k := x1.toNatClampNeg) hx hb Z hw (by decide) (by omega) rfl (inB_vp h49) dX11_undo_49 (fun H locs hw => ?_)
      refine lv_iinc (v := x1 + (1 : Int32)) (lv' := [(1, _), (0, _)]) hx hb dX11_undo_50 hl (k := 1) rfl rfl (by decide) rfl (fun ls hl => ?_)
      refine lv_goto (tgt := 22) hx hb dX11_undo_53 (by decide) ?_
      exact ih (x1 + (1 : Int32)) (hset h 71 x1.toNatClampNeg (h 73 (((166 : Int32) * (h 70 3)) + x1).toNatClampNeg))  rv hq ls H locs (lv_sub hl [1, 0] rfl) hw hf kk
set_option maxHeartbeats 4000000 in
set_option maxRecDepth 100000 in
theorem t_X11_undo (G : GM) (l : Launch) (hN : 77 ≤ gN G)  (h : HP) {r : Int32} {h' : HP} (hf : f_X11_undo  h = some (r, h')) : MC G l yX11_undo cX11_undo 2 (some .int) 0 [.ref (ra G 70)] h h' (some (.int r)) := by
  unfold f_X11_undo at hf
  refine z_start (by decide) (Nat.le_of_ble_eq_true rfl) ?_
  intro p e s m args below meth c ls hx hb hr hlk hml Z hw hl
  have Z : ZK G s args m RX11 := Z
  have hl : lv_has ls 2 [(0, .ref (ra G 70))] := hl
  obtain ⟨H, hH⟩ : ∃ H, H = s.heap := ⟨_, rfl⟩
  rw [← hH] at hw ⊢
  obtain ⟨locs, hlc⟩ : ∃ locs : List Loc, locs = [] := ⟨_, rfl⟩
  rw [← hlc] at hw ⊢
  refine lv_aload_n hx hb dX11_undo_0 rfl (lv_at hl 0 rfl) ?_
  refine z_geti (o := 70) (C := RX11) (T := TX11) (N := 11) (ci := 9) (k := 3) hx hb Z hw (by decide) (by omega) rfl inX11 (by decide) wd878 dX11_undo_1 ?_
  refine lv_if_ne (tgt := 10) hx hb dX11_undo_4 (by decide) (fun c4 => ?_) (fun c4 => ?_)
  · have hf := (if_neg c4).symm.trans hf
    refine lv_aload_n hx hb dX11_undo_10 rfl (lv_at hl 0 rfl) ?_
    refine lv_dup hx hb dX11_undo_11 rfl ?_
    refine z_geti (o := 70) (C := RX11) (T := TX11) (N := 11) (ci := 9) (k := 3) hx hb Z hw (by decide) (by omega) rfl inX11 (by decide) wd878 dX11_undo_12 ?_
    refine lv_iconst (v := (1 : Int32)) hx hb dX11_undo_15 (by decide) ?_
    refine lv_isub hx hb dX11_undo_16 ?_
    refine z_puti (o := 70) (v := (h 70 3) - (1 : Int32)) (ty := .int) (C := RX11) (T := TX11) (N := 11) (ci := 9) (k := 3) hx hb Z hw (by decide) (by omega) rfl inX11 tyX11 tyX11_ok nmX11 (by decide) wd878 rfl (by decide +kernel) rfl rfl dX11_undo_17 (fun H locs hw => ?_)
    refine lv_iconst (v := (0 : Int32)) hx hb dX11_undo_20 (by decide) ?_
    refine lv_istore_n (lv' := [(1, _), (0, _)]) hx hb dX11_undo_21 rfl hl (by decide) rfl (fun ls hl => ?_)
    obtain ⟨q22, hq22, hf⟩ := ob_some hf
    refine w_X11_undo_L22 G l hN  hx hb hr hlk hml Z FU (0 : Int32) (hset h 70 3 ((h 70 3) - (1 : Int32)))  _ _ ls H locs (lv_sub hl [1, 0] rfl) hw hq22 (fun ls H locs hl hw => ?_)
    refine lv_aload_n hx hb dX11_undo_56 rfl (lv_at hl 0 rfl) ?_
    refine z_geti (o := 70) (C := RX11) (T := TX11) (N := 11) (ci := 9) (k := 3) hx hb Z hw (by decide) (by omega) rfl inX11 (by decide) wd878 dX11_undo_57 ?_
    obtain ⟨rfl, rfl⟩ := Prod.mk.inj (Option.some.inj hf)
    exact z_iret hx hb hr hlk hw dX11_undo_60
  · have hf := (if_pos c4).symm.trans hf
    refine lv_bipush (v := (-5 : Int32)) hx hb dX11_undo_7 (by decide) ?_
    obtain ⟨rfl, rfl⟩ := Prod.mk.inj (Option.some.inj hf)
    exact z_iret hx hb hr hlk hw dX11_undo_9
set_option maxHeartbeats 4000000 in
set_option maxRecDepth 100000 in
theorem w_X11_keep_L2 (G : GM) (l : Launch) (hN : 77 ≤ gN G)  {p : Program} {e : Env} {s : State} {m : MethodId} {args : Array Value} {below : List Frame} {meth : Method} {c : Code} (hx : p.tables.exec = Jvm.exec) (hb : c.code = cX11_keep) (hr : meth.sig.returnType = (some .int)) (hlk : meth.locks = false) (hml : c.maxLocals = 2) (Z : ZK G s args m RX11) : ∀ (n : Nat) (x1 : Int32)  (h : HP)  (rv : Option Value) (hq : HP) (ls : Array Slot) (H : Heap) (locs : List Loc) {q : HP}, lv_has ls 2 [(0, .ref (ra G 70)), (1, .int x1)] → HW G h s H locs → f_X11_keep_L2 n x1 h = some q → (∀ (ls : Array Slot) (H : Heap) (locs : List Loc), lv_has ls 2 [(0, .ref (ra G 70))] → HW G q s H locs → WZ p l e 0 s m args below meth c G rv hq H locs (F0 m 27 ls [])) → WZ p l e 0 s m args below meth c G rv hq H locs (F0 m 2 ls []) := by
  intro n
  induction n with
  | zero => intro x1  h  rv hq ls H locs q hl hw hf kk; cases hf
  | succ n ih =>
    intro x1  h  rv hq ls H locs q hl hw hf kk
    rw [f_X11_keep_L2] at hf
    refine lv_iload_n hx hb dX11_keep_2 rfl (lv_at hl 1 rfl) ?_
    refine lv_sipush (v := (166 : Int32)) hx hb dX11_keep_3 (by decide) ?_
    refine lv_icmp_ge (tgt := 27) hx hb dX11_keep_6 (by decide) (fun c6 => ?_) (fun c6 => ?_)
    · have hf := (if_pos c6).symm.trans hf
      obtain rfl := Option.some.inj hf
      exact kk ls H locs (lv_sub hl [0] rfl) hw
    · have hf := (if_neg c6).symm.trans hf
      refine lv_aload_n hx hb dX11_keep_9 rfl (lv_at hl 0 rfl) ?_
      refine z_getr (o := 70) (o2 := 74) (C := RX11) (T := TX11) (N := 11) (ci := 9) (k := 4) hx hb Z hw (by decide) (by omega) rfl inX11 (by decide) rfl wd879 dX11_keep_10 ?_
      refine lv_iload_n hx hb dX11_keep_13 rfl (lv_at hl 1 rfl) ?_
      refine lv_aload_n hx hb dX11_keep_14 rfl (lv_at hl 0 rfl) ?_
      refine z_getr (o := 70) (o2 := 71) (C := RX11) (T := TX11) (N := 11) (ci := 9) (k := 0) hx hb Z hw (by decide) (by omega) rfl inX11 (by decide) rfl wd875 dX11_keep_15 ?_
      refine lv_iload_n hx hb dX11_keep_18 rfl (lv_at hl 1 rfl) ?_
      obtain ⟨h19, hf⟩ := gd_some hf
      refine y_iald (o := 71) (k := x1.toNatClampNeg) hx hb Z hw (by decide) (by omega) rfl (inB_vp h19) dX11_keep_19 ?_
      obtain ⟨h20, hf⟩ := gd_some hf
      refine y_iast (o := 74) (k := x1.toNatClampNeg) hx hb Z hw (by decide) (by omega) rfl (inB_vp h20) dX11_keep_20 (fun H locs hw => ?_)
      refine lv_iinc (v := x1 + (1 : Int32)) (lv' := [(1, _), (0, _)]) hx hb dX11_keep_21 hl (k := 1) rfl rfl (by decide) rfl (fun ls hl => ?_)
      refine lv_goto (tgt := 2) hx hb dX11_keep_24 (by decide) ?_
      exact ih (x1 + (1 : Int32)) (hset h 74 x1.toNatClampNeg (h 71 x1.toNatClampNeg))  rv hq ls H locs (lv_sub hl [1, 0] rfl) hw hf kk
set_option maxHeartbeats 4000000 in
set_option maxRecDepth 100000 in
theorem t_X11_keep (G : GM) (l : Launch) (hN : 77 ≤ gN G)  (h : HP) {r : Int32} {h' : HP} (hf : f_X11_keep  h = some (r, h')) : MC G l yX11_keep cX11_keep 2 (some .int) 0 [.ref (ra G 70)] h h' (some (.int r)) := by
  unfold f_X11_keep at hf
  refine z_start (by decide) (Nat.le_of_ble_eq_true rfl) ?_
  intro p e s m args below meth c ls hx hb hr hlk hml Z hw hl
  have Z : ZK G s args m RX11 := Z
  have hl : lv_has ls 2 [(0, .ref (ra G 70))] := hl
  obtain ⟨H, hH⟩ : ∃ H, H = s.heap := ⟨_, rfl⟩
  rw [← hH] at hw ⊢
  obtain ⟨locs, hlc⟩ : ∃ locs : List Loc, locs = [] := ⟨_, rfl⟩
  rw [← hlc] at hw ⊢
  refine lv_iconst (v := (0 : Int32)) hx hb dX11_keep_0 (by decide) ?_
  refine lv_istore_n (lv' := [(1, _), (0, _)]) hx hb dX11_keep_1 rfl hl (by decide) rfl (fun ls hl => ?_)
  obtain ⟨q2, hq2, hf⟩ := ob_some hf
  refine w_X11_keep_L2 G l hN  hx hb hr hlk hml Z FU (0 : Int32) h  _ _ ls H locs (lv_sub hl [1, 0] rfl) hw hq2 (fun ls H locs hl hw => ?_)
  refine lv_aload_n hx hb dX11_keep_27 rfl (lv_at hl 0 rfl) ?_
  refine lv_iconst (v := (1 : Int32)) hx hb dX11_keep_28 (by decide) ?_
  refine z_puti (o := 70) (v := (1 : Int32)) (ty := .boolean) (C := RX11) (T := TX11) (N := 11) (ci := 9) (k := 5) hx hb Z hw (by decide) (by omega) rfl inX11 tyX11 tyX11_ok nmX11 (by decide) wd880 rfl (by decide +kernel) rfl rfl dX11_keep_29 (fun H locs hw => ?_)
  refine lv_aload_n hx hb dX11_keep_32 rfl (lv_at hl 0 rfl) ?_
  obtain ⟨h33, hqh33, hf⟩ := tb_ex hf
  rw [hqh33] at hw
  refine z_getr (o := 70) (o2 := 71) (C := RX11) (T := TX11) (N := 11) (ci := 9) (k := 0) hx hb Z hw (by decide) (by omega) rfl inX11 (by decide) rfl wd875 dX11_keep_33 ?_
  refine lv_bipush (v := (8 : Int32)) hx hb dX11_keep_36 (by decide) ?_
  refine y_iald (o := 71) (k := 8) hx hb Z hw (by decide) (by omega) (by decide) (inB_vp (by decide)) dX11_keep_38 ?_
  obtain ⟨rfl, rfl⟩ := Prod.mk.inj (Option.some.inj hf)
  exact z_iret hx hb hr hlk hw dX11_keep_39
set_option maxHeartbeats 4000000 in
set_option maxRecDepth 100000 in
theorem w_X11_restore_L16 (G : GM) (l : Launch) (hN : 77 ≤ gN G)  {p : Program} {e : Env} {s : State} {m : MethodId} {args : Array Value} {below : List Frame} {meth : Method} {c : Code} (hx : p.tables.exec = Jvm.exec) (hb : c.code = cX11_restore) (hr : meth.sig.returnType = (some .int)) (hlk : meth.locks = false) (hml : c.maxLocals = 2) (Z : ZK G s args m RX11) : ∀ (n : Nat) (x1 : Int32)  (h : HP)  (rv : Option Value) (hq : HP) (ls : Array Slot) (H : Heap) (locs : List Loc) {q : HP}, lv_has ls 2 [(0, .ref (ra G 70)), (1, .int x1)] → HW G h s H locs → f_X11_restore_L16 n x1 h = some q → (∀ (ls : Array Slot) (H : Heap) (locs : List Loc), lv_has ls 2 [(0, .ref (ra G 70))] → HW G q s H locs → WZ p l e 2 s m args below meth c G rv hq H locs (F0 m 41 ls [])) → WZ p l e 2 s m args below meth c G rv hq H locs (F0 m 16 ls []) := by
  intro n
  induction n with
  | zero => intro x1  h  rv hq ls H locs q hl hw hf kk; cases hf
  | succ n ih =>
    intro x1  h  rv hq ls H locs q hl hw hf kk
    rw [f_X11_restore_L16] at hf
    refine lv_iload_n hx hb dX11_restore_16 rfl (lv_at hl 1 rfl) ?_
    refine lv_sipush (v := (166 : Int32)) hx hb dX11_restore_17 (by decide) ?_
    refine lv_icmp_ge (tgt := 41) hx hb dX11_restore_20 (by decide) (fun c20 => ?_) (fun c20 => ?_)
    · have hf := (if_pos c20).symm.trans hf
      obtain rfl := Option.some.inj hf
      exact kk ls H locs (lv_sub hl [0] rfl) hw
    · have hf := (if_neg c20).symm.trans hf
      refine lv_aload_n hx hb dX11_restore_23 rfl (lv_at hl 0 rfl) ?_
      refine z_getr (o := 70) (o2 := 71) (C := RX11) (T := TX11) (N := 11) (ci := 9) (k := 0) hx hb Z hw (by decide) (by omega) rfl inX11 (by decide) rfl wd875 dX11_restore_24 ?_
      refine lv_iload_n hx hb dX11_restore_27 rfl (lv_at hl 1 rfl) ?_
      refine lv_aload_n hx hb dX11_restore_28 rfl (lv_at hl 0 rfl) ?_
      refine z_getr (o := 70) (o2 := 74) (C := RX11) (T := TX11) (N := 11) (ci := 9) (k := 4) hx hb Z hw (by decide) (by omega) rfl inX11 (by decide) rfl wd879 dX11_restore_29 ?_
      refine lv_iload_n hx hb dX11_restore_32 rfl (lv_at hl 1 rfl) ?_
      obtain ⟨h33, hf⟩ := gd_some hf
      refine y_iald (o := 74) (k := x1.toNatClampNeg) hx hb Z hw (by decide) (by omega) rfl (inB_vp h33) dX11_restore_33 ?_
      obtain ⟨h34, hf⟩ := gd_some hf
      refine y_iast (o := 71) (k := x1.toNatClampNeg) hx hb Z hw (by decide) (by omega) rfl (inB_vp h34) dX11_restore_34 (fun H locs hw => ?_)
      refine lv_iinc (v := x1 + (1 : Int32)) (lv' := [(1, _), (0, _)]) hx hb dX11_restore_35 hl (k := 1) rfl rfl (by decide) rfl (fun ls hl => ?_)
      refine lv_goto (tgt := 16) hx hb dX11_restore_38 (by decide) ?_
      exact ih (x1 + (1 : Int32)) (hset h 71 x1.toNatClampNeg (h 74 x1.toNatClampNeg))  rv hq ls H locs (lv_sub hl [1, 0] rfl) hw hf kk
set_option maxHeartbeats 4000000 in
set_option maxRecDepth 100000 in
theorem t_X11_restore (G : GM) (l : Launch) (hN : 77 ≤ gN G)  (h : HP) {r : Int32} {h' : HP} (hf : f_X11_restore  h = some (r, h')) : MC G l yX11_restore cX11_restore 2 (some .int) 2 [.ref (ra G 70)] h h' (some (.int r)) := by
  unfold f_X11_restore at hf
  refine z_start (by decide) (Nat.le_of_ble_eq_true rfl) ?_
  intro p e s m args below meth c ls hx hb hr hlk hml Z hw hl
  have Z : ZK G s args m RX11 := Z
  have hl : lv_has ls 2 [(0, .ref (ra G 70))] := hl
  obtain ⟨H, hH⟩ : ∃ H, H = s.heap := ⟨_, rfl⟩
  rw [← hH] at hw ⊢
  obtain ⟨locs, hlc⟩ : ∃ locs : List Loc, locs = [] := ⟨_, rfl⟩
  rw [← hlc] at hw ⊢
  refine lv_aload_n hx hb dX11_restore_0 rfl (lv_at hl 0 rfl) ?_
  refine z_geti (o := 70) (C := RX11) (T := TX11) (N := 11) (ci := 9) (k := 5) hx hb Z hw (by decide) (by omega) rfl inX11 (by decide) wd880 dX11_restore_1 ?_
  refine lv_if_ne (tgt := 10) hx hb dX11_restore_4 (by decide) (fun c4 => ?_) (fun c4 => ?_)
  · have hf := (if_neg c4).symm.trans hf
    refine lv_aload_n hx hb dX11_restore_10 rfl (lv_at hl 0 rfl) ?_
    obtain ⟨q11, hq11, hf⟩ := ob_some hf
    refine z_callVv (o := 70) (ci := 9) (As := []) (rest := []) (t_X11_putAside G l hN  h hq11) cv_X11_putAside hx hb hml hl.1 Z hw (by decide) (by decide) (by omega) rfl rfl wd914 rfl rfl (Nat.le_of_ble_eq_true rfl) (by decide) dX11_restore_11 (fun H locs hw => ?_)
    refine lv_iconst (v := (0 : Int32)) hx hb dX11_restore_14 (by decide) ?_
    refine lv_istore_n (lv' := [(1, _), (0, _)]) hx hb dX11_restore_15 rfl hl (by decide) rfl (fun ls hl => ?_)
    obtain ⟨q16, hq16, hf⟩ := ob_some hf
    refine w_X11_restore_L16 G l hN  hx hb hr hlk hml Z FU (0 : Int32) q11  _ _ ls H locs (lv_sub hl [1, 0] rfl) hw hq16 (fun ls H locs hl hw => ?_)
    refine lv_aload_n hx hb dX11_restore_41 rfl (lv_at hl 0 rfl) ?_
    refine lv_aload_n hx hb dX11_restore_42 rfl (lv_at hl 0 rfl) ?_
    refine z_getr (o := 70) (o2 := 71) (C := RX11) (T := TX11) (N := 11) (ci := 9) (k := 0) hx hb Z hw (by decide) (by omega) rfl inX11 (by decide) rfl wd875 dX11_restore_43 ?_
    refine lv_bipush (v := (8 : Int32)) hx hb dX11_restore_46 (by decide) ?_
    refine y_iald (o := 71) (k := 8) hx hb Z hw (by decide) (by omega) (by decide) (inB_vp (by decide)) dX11_restore_48 ?_
    obtain ⟨q49, hq49, hf⟩ := ob_some hf
    refine z_callVi (o := 70) (ci := 9) (As := [.int (q16 71 8)]) (rest := []) (t_X11_act G l hN (q16 71 8) q16 hq49) cv_X11_act hx hb hml hl.1 Z hw (by decide) (by decide) (by omega) rfl rfl wd951 rfl rfl (Nat.le_of_ble_eq_true rfl) (by decide) dX11_restore_49 (fun H locs hw => ?_)
    obtain ⟨rfl, rfl⟩ := Prod.mk.inj (Option.some.inj hf)
    exact z_iret hx hb hr hlk hw dX11_restore_52
  · have hf := (if_pos c4).symm.trans hf
    refine lv_bipush (v := (-5 : Int32)) hx hb dX11_restore_7 (by decide) ?_
    obtain ⟨rfl, rfl⟩ := Prod.mk.inj (Option.some.inj hf)
    exact z_iret hx hb hr hlk hw dX11_restore_9
set_option maxHeartbeats 4000000 in
set_option maxRecDepth 100000 in
theorem t_X11_frame (G : GM) (l : Launch) (hN : 77 ≤ gN G) (x1 : Int32) (x2 : Int32) (h : HP) {r : Int32} {h' : HP} (hf : f_X11_frame x1 x2 h = some (r, h')) : MC G l yX11_frame cX11_frame 3 (some .int) 5 [.ref (ra G 70), .int x1, .int x2] h h' (some (.int r)) := by
  unfold f_X11_frame at hf
  refine z_start (by decide) (Nat.le_of_ble_eq_true rfl) ?_
  intro p e s m args below meth c ls hx hb hr hlk hml Z hw hl
  have Z : ZK G s args m RX11 := Z
  have hl : lv_has ls 3 [(0, .ref (ra G 70)), (1, .int x1), (2, .int x2)] := hl
  obtain ⟨H, hH⟩ : ∃ H, H = s.heap := ⟨_, rfl⟩
  rw [← hH] at hw ⊢
  obtain ⟨locs, hlc⟩ : ∃ locs : List Loc, locs = [] := ⟨_, rfl⟩
  rw [← hlc] at hw ⊢
  refine lv_aload_n hx hb dX11_frame_0 rfl (lv_at hl 0 rfl) ?_
  refine lv_iload_n hx hb dX11_frame_1 rfl (lv_at hl 1 rfl) ?_
  refine z_callVi (o := 70) (ci := 9) (As := [.int x1]) (rest := []) (t_X11_isFrame G l hN x1 h) cv_X11_isFrame hx hb hml hl.1 Z hw (by decide) (by decide) (by omega) rfl rfl wd922 rfl rfl (Nat.le_of_ble_eq_true rfl) (by decide) dX11_frame_2 (fun H locs hw => ?_)
  refine lv_if_ne (tgt := 10) hx hb dX11_frame_5 (by decide) (fun c5 => ?_) (fun c5 => ?_)
  · have hf := (if_neg c5).symm.trans hf
    refine lv_aload_n hx hb dX11_frame_10 rfl (lv_at hl 0 rfl) ?_
    refine lv_bipush (v := (-5 : Int32)) hx hb dX11_frame_11 (by decide) ?_
    obtain ⟨q13, hq13, hf⟩ := ob_some hf
    refine z_callVv (o := 70) (ci := 9) (As := [.int (-5 : Int32)]) (rest := []) (t_X11_lay G l hN (-5 : Int32) h hq13) cv_X11_lay hx hb hml hl.1 Z hw (by decide) (by decide) (by omega) rfl rfl wd971 rfl rfl (Nat.le_of_ble_eq_true rfl) (by decide) dX11_frame_13 (fun H locs hw => ?_)
    refine lv_iload_n hx hb dX11_frame_16 rfl (lv_at hl 2 rfl) ?_
    by_cases c17_0 : x2 = 0
    · have hf := (if_pos c17_0).symm.trans hf
      refine z_sw c17_0 ?_
      refine lv_tableIn (tgt := 68) hx hb dX11_frame_17 (by decide) (by decide) rfl (by decide) ?_
      refine lv_aload_n hx hb dX11_frame_68 rfl (lv_at hl 0 rfl) ?_
      refine lv_iload_n hx hb dX11_frame_69 rfl (lv_at hl 1 rfl) ?_
      obtain ⟨q70, hq70, hf⟩ := ob_some hf
      refine z_callVi (o := 70) (ci := 9) (As := [.int x1]) (rest := []) (t_X11_turnOf G l hN x1 q13 hq70) cv_X11_turnOf hx hb hml hl.1 Z hw (by decide) (by decide) (by omega) rfl rfl wd1009 rfl rfl (Nat.le_of_ble_eq_true rfl) (by decide) dX11_frame_70 (fun H locs hw => ?_)
      obtain ⟨rfl, rfl⟩ := Prod.mk.inj (Option.some.inj hf)
      exact z_iret hx hb hr hlk hw dX11_frame_73
    have hf := (if_neg c17_0).symm.trans hf
    by_cases c17_1 : x2 = 1
    · have hf := (if_pos c17_1).symm.trans hf
      refine z_sw c17_1 ?_
      refine lv_tableIn (tgt := 74) hx hb dX11_frame_17 (by decide) (by decide) rfl (by decide) ?_
      refine lv_iload_n hx hb dX11_frame_74 rfl (lv_at hl 1 rfl) ?_
      refine lv_aload_n hx hb dX11_frame_75 rfl (lv_at hl 0 rfl) ?_
      refine lv_aload_n hx hb dX11_frame_76 rfl (lv_at hl 0 rfl) ?_
      refine lv_iload_n hx hb dX11_frame_77 rfl (lv_at hl 1 rfl) ?_
      obtain ⟨q78, hq78, hf⟩ := ob_some hf
      refine z_callVi (o := 70) (ci := 9) (As := [.int x1]) (rest := [.ref (ra G 70), .int x1]) (t_X11_turnOf G l hN x1 q13 hq78) cv_X11_turnOf hx hb hml hl.1 Z hw (by decide) (by decide) (by omega) rfl rfl wd1009 rfl rfl (Nat.le_of_ble_eq_true rfl) (by decide) dX11_frame_78 (fun H locs hw => ?_)
      refine z_callVi (o := 70) (ci := 9) (As := [.int q78]) (rest := [.int x1]) (t_X11_start G l hN q78 q13) cv_X11_start hx hb hml hl.1 Z hw (by decide) (by decide) (by omega) rfl rfl wd930 rfl rfl (Nat.le_of_ble_eq_true rfl) (by decide) dX11_frame_81 (fun H locs hw => ?_)
      refine lv_isub hx hb dX11_frame_84 ?_
      obtain ⟨rfl, rfl⟩ := Prod.mk.inj (Option.some.inj hf)
      exact z_iret hx hb hr hlk hw dX11_frame_85
    have hf := (if_neg c17_1).symm.trans hf
    by_cases c17_2 : x2 = 2
    · have hf := (if_pos c17_2).symm.trans hf
      refine z_sw c17_2 ?_
      refine lv_tableIn (tgt := 86) hx hb dX11_frame_17 (by decide) (by decide) rfl (by decide) ?_
      refine lv_aload_n hx hb dX11_frame_86 rfl (lv_at hl 0 rfl) ?_
      refine lv_iload_n hx hb dX11_frame_87 rfl (lv_at hl 1 rfl) ?_
      refine z_callVi (o := 70) (ci := 9) (As := [.int x1]) (rest := []) (t_X11_hasGroup G l hN x1 q13) cv_X11_hasGroup hx hb hml hl.1 Z hw (by decide) (by decide) (by omega) rfl rfl wd1100 rfl rfl (Nat.le_of_ble_eq_true rfl) (by decide) dX11_frame_88 (fun H locs hw => ?_)
      refine lv_if_eq (tgt := 100) hx hb dX11_frame_91 (by decide) (fun c91 => ?_) (fun c91 => ?_)
      · have hf := (if_pos c91).symm.trans hf
        refine lv_bipush (v := (-5 : Int32)) hx hb dX11_frame_100 (by decide) ?_
        obtain ⟨rfl, rfl⟩ := Prod.mk.inj (Option.some.inj hf)
        exact z_iret hx hb hr hlk hw dX11_frame_102
      · have hf := (if_neg c91).symm.trans hf
        refine lv_iload_n hx hb dX11_frame_94 rfl (lv_at hl 1 rfl) ?_
        refine lv_iconst (v := (5 : Int32)) hx hb dX11_frame_95 (by decide) ?_
        refine lv_idiv hx hb dX11_frame_96 (by decide) ?_
        refine lv_goto (tgt := 102) hx hb dX11_frame_97 (by decide) ?_
        obtain ⟨rfl, rfl⟩ := Prod.mk.inj (Option.some.inj hf)
        exact z_iret hx hb hr hlk hw dX11_frame_102
    have hf := (if_neg c17_2).symm.trans hf
    by_cases c17_3 : x2 = 3
    · have hf := (if_pos c17_3).symm.trans hf
      refine z_sw c17_3 ?_
      refine lv_tableIn (tgt := 103) hx hb dX11_frame_17 (by decide) (by decide) rfl (by decide) ?_
      refine lv_iload_n hx hb dX11_frame_103 rfl (lv_at hl 1 rfl) ?_
      refine z_callSi (As := [.int x1]) (rest := []) (t_X11_isCheck G l hN x1 q13) cs_X11_isCheck hx hb hml hl.1 Z hw wd937 rfl rfl (Nat.le_of_ble_eq_true rfl) (by decide) dX11_frame_104 (fun H locs hw => ?_)
      refine lv_if_eq (tgt := 114) hx hb dX11_frame_107 (by decide) (fun c107 => ?_) (fun c107 => ?_)
      · have hf := (if_pos c107).symm.trans hf
        refine lv_iconst (v := (0 : Int32)) hx hb dX11_frame_114 (by decide) ?_
        obtain ⟨rfl, rfl⟩ := Prod.mk.inj (Option.some.inj hf)
        exact z_iret hx hb hr hlk hw dX11_frame_115
      · have hf := (if_neg c107).symm.trans hf
        refine lv_iconst (v := (1 : Int32)) hx hb dX11_frame_110 (by decide) ?_
        refine lv_goto (tgt := 115) hx hb dX11_frame_111 (by decide) ?_
        obtain ⟨rfl, rfl⟩ := Prod.mk.inj (Option.some.inj hf)
        exact z_iret hx hb hr hlk hw dX11_frame_115
    have hf := (if_neg c17_3).symm.trans hf
    by_cases c17_4 : x2 = 4
    · have hf := (if_pos c17_4).symm.trans hf
      refine z_sw c17_4 ?_
      refine lv_tableIn (tgt := 116) hx hb dX11_frame_17 (by decide) (by decide) rfl (by decide) ?_
      refine lv_aload_n hx hb dX11_frame_116 rfl (lv_at hl 0 rfl) ?_
      refine z_getr (o := 70) (o2 := 76) (C := RX11) (T := TX11) (N := 11) (ci := 9) (k := 8) hx hb Z hw (by decide) (by omega) rfl inX11 (by decide) rfl wd883 dX11_frame_117 ?_
      refine lv_iload_n hx hb dX11_frame_120 rfl (lv_at hl 1 rfl) ?_
      obtain ⟨h121, hf⟩ := gd_some hf
      refine y_zald (o := 76) (k := x1.toNatClampNeg) hx hb Z hw (by decide) (by omega) rfl (inB_vp h121) dX11_frame_121 ?_
      refine lv_if_eq (tgt := 129) hx hb dX11_frame_122 (by decide) (fun c122 => ?_) (fun c122 => ?_)
      · have hf := (if_pos c122).symm.trans hf
        refine lv_iconst (v := (0 : Int32)) hx hb dX11_frame_129 (by decide) ?_
        obtain ⟨rfl, rfl⟩ := Prod.mk.inj (Option.some.inj hf)
        exact z_iret hx hb hr hlk hw dX11_frame_130
      · have hf := (if_neg c122).symm.trans hf
        refine lv_iconst (v := (1 : Int32)) hx hb dX11_frame_125 (by decide) ?_
        refine lv_goto (tgt := 130) hx hb dX11_frame_126 (by decide) ?_
        obtain ⟨rfl, rfl⟩ := Prod.mk.inj (Option.some.inj hf)
        exact z_iret hx hb hr hlk hw dX11_frame_130
    have hf := (if_neg c17_4).symm.trans hf
    by_cases c17_5 : x2 = 5
    · have hf := (if_pos c17_5).symm.trans hf
      refine z_sw c17_5 ?_
      refine lv_tableIn (tgt := 131) hx hb dX11_frame_17 (by decide) (by decide) rfl (by decide) ?_
      refine lv_aload_n hx hb dX11_frame_131 rfl (lv_at hl 0 rfl) ?_
      refine lv_iload_n hx hb dX11_frame_132 rfl (lv_at hl 1 rfl) ?_
      obtain ⟨q133, hq133, hf⟩ := ob_some hf
      refine z_callVi (o := 70) (ci := 9) (As := [.int x1]) (rest := []) (t_X11_how G l hN x1 q13 hq133) cv_X11_how hx hb hml hl.1 Z hw (by decide) (by decide) (by omega) rfl rfl wd1104 rfl rfl (Nat.le_of_ble_eq_true rfl) (by decide) dX11_frame_133 (fun H locs hw => ?_)
      obtain ⟨rfl, rfl⟩ := Prod.mk.inj (Option.some.inj hf)
      exact z_iret hx hb hr hlk hw dX11_frame_136
    have hf := (if_neg c17_5).symm.trans hf
    by_cases c17_6 : x2 = 6
    · have hf := (if_pos c17_6).symm.trans hf
      refine z_sw c17_6 ?_
      refine lv_tableIn (tgt := 137) hx hb dX11_frame_17 (by decide) (by decide) rfl (by decide) ?_
      refine lv_aload_n hx hb dX11_frame_137 rfl (lv_at hl 0 rfl) ?_
      refine lv_iload_n hx hb dX11_frame_138 rfl (lv_at hl 1 rfl) ?_
      obtain ⟨q139, hq139, hf⟩ := ob_some hf
      refine z_callVi (o := 70) (ci := 9) (As := [.int x1]) (rest := []) (t_X11_pits G l hN x1 q13 hq139) cv_X11_pits hx hb hml hl.1 Z hw (by decide) (by decide) (by omega) rfl rfl wd1115 rfl rfl (Nat.le_of_ble_eq_true rfl) (by decide) dX11_frame_139 (fun H locs hw => ?_)
      refine lv_aload_n hx hb dX11_frame_142 rfl (lv_at hl 0 rfl) ?_
      refine lv_iload_n hx hb dX11_frame_143 rfl (lv_at hl 1 rfl) ?_
      obtain ⟨q144, hq144, hf⟩ := ob_some hf
      refine z_callVi (o := 70) (ci := 9) (As := [.int x1]) (rest := [.int q139]) (t_X11_flats G l hN x1 q13 hq144) cv_X11_flats hx hb hml hl.1 Z hw (by decide) (by decide) (by omega) rfl rfl wd1126 rfl rfl (Nat.le_of_ble_eq_true rfl) (by decide) dX11_frame_144 (fun H locs hw => ?_)
      refine lv_iadd hx hb dX11_frame_147 ?_
      obtain ⟨rfl, rfl⟩ := Prod.mk.inj (Option.some.inj hf)
      exact z_iret hx hb hr hlk hw dX11_frame_148
    have hf := (if_neg c17_6).symm.trans hf
    by_cases c17_7 : x2 = 7
    · have hf := (if_pos c17_7).symm.trans hf
      refine z_sw c17_7 ?_
      refine lv_tableIn (tgt := 149) hx hb dX11_frame_17 (by decide) (by decide) rfl (by decide) ?_
      refine lv_aload_n hx hb dX11_frame_149 rfl (lv_at hl 0 rfl) ?_
      refine lv_iload_n hx hb dX11_frame_150 rfl (lv_at hl 1 rfl) ?_
      obtain ⟨q151, hq151, hf⟩ := ob_some hf
      refine z_callVi (o := 70) (ci := 9) (As := [.int x1]) (rest := []) (t_X11_pits G l hN x1 q13 hq151) cv_X11_pits hx hb hml hl.1 Z hw (by decide) (by decide) (by omega) rfl rfl wd1115 rfl rfl (Nat.le_of_ble_eq_true rfl) (by decide) dX11_frame_151 (fun H locs hw => ?_)
      refine lv_aload_n hx hb dX11_frame_154 rfl (lv_at hl 0 rfl) ?_
      refine lv_iload_n hx hb dX11_frame_155 rfl (lv_at hl 1 rfl) ?_
      obtain ⟨q156, hq156, hf⟩ := ob_some hf
      refine z_callVi (o := 70) (ci := 9) (As := [.int x1]) (rest := [.int q151]) (t_X11_flats G l hN x1 q13 hq156) cv_X11_flats hx hb hml hl.1 Z hw (by decide) (by decide) (by omega) rfl rfl wd1126 rfl rfl (Nat.le_of_ble_eq_true rfl) (by decide) dX11_frame_156 (fun H locs hw => ?_)
      refine lv_isub hx hb dX11_frame_159 ?_
      refine lv_bipush (v := (100 : Int32)) hx hb dX11_frame_160 (by decide) ?_
      refine lv_iadd hx hb dX11_frame_162 ?_
      obtain ⟨rfl, rfl⟩ := Prod.mk.inj (Option.some.inj hf)
      exact z_iret hx hb hr hlk hw dX11_frame_163
    have hf := (if_neg c17_7).symm.trans hf
    by_cases c17_8 : x2 = 8
    · have hf := (if_pos c17_8).symm.trans hf
      refine z_sw c17_8 ?_
      refine lv_tableIn (tgt := 164) hx hb dX11_frame_17 (by decide) (by decide) rfl (by decide) ?_
      refine lv_aload_n hx hb dX11_frame_164 rfl (lv_at hl 0 rfl) ?_
      refine lv_iload_n hx hb dX11_frame_165 rfl (lv_at hl 1 rfl) ?_
      obtain ⟨q166, hq166, hf⟩ := ob_some hf
      refine z_callVi (o := 70) (ci := 9) (As := [.int x1]) (rest := []) (t_X11_longestRun G l hN x1 q13 hq166) cv_X11_longestRun hx hb hml hl.1 Z hw (by decide) (by decide) (by omega) rfl rfl wd1133 rfl rfl (Nat.le_of_ble_eq_true rfl) (by decide) dX11_frame_166 (fun H locs hw => ?_)
      obtain ⟨rfl, rfl⟩ := Prod.mk.inj (Option.some.inj hf)
      exact z_iret hx hb hr hlk hw dX11_frame_169
    have hf := (if_neg c17_8).symm.trans hf
    refine lv_tableOut (tgt := 170) hx hb dX11_frame_17 (by have := [0]; have e0 := sw_ne (k := 0) (by decide) c17_0; have e1 := sw_ne (k := 1) (by decide) c17_1; have e2 := sw_ne (k := 2) (by decide) c17_2; have e3 := sw_ne (k := 3) (by decide) c17_3; have e4 := sw_ne (k := 4) (by decide) c17_4; have e5 := sw_ne (k := 5) (by decide) c17_5; have e6 := sw_ne (k := 6) (by decide) c17_6; have e7 := sw_ne (k := 7) (by decide) c17_7; have e8 := sw_ne (k := 8) (by decide) c17_8; omega) (by decide) ?_
    refine lv_bipush (v := (-2 : Int32)) hx hb dX11_frame_170 (by decide) ?_
    obtain ⟨rfl, rfl⟩ := Prod.mk.inj (Option.some.inj hf)
    exact z_iret hx hb hr hlk hw dX11_frame_172
  · have hf := (if_pos c5).symm.trans hf
    refine lv_iconst (v := (-1 : Int32)) hx hb dX11_frame_8 (by decide) ?_
    obtain ⟨rfl, rfl⟩ := Prod.mk.inj (Option.some.inj hf)
    exact z_iret hx hb hr hlk hw dX11_frame_9
set_option maxHeartbeats 4000000 in
set_option maxRecDepth 100000 in
theorem t_X11_symbol (G : GM) (l : Launch) (hN : 77 ≤ gN G) (x1 : Int32) (x2 : Int32) (x3 : Int32) (h : HP) {r : Int32} {h' : HP} (hf : f_X11_symbol x1 x2 x3 h = some (r, h')) : MC G l yX11_symbol cX11_symbol 4 (some .int) 6 [.ref (ra G 70), .int x1, .int x2, .int x3] h h' (some (.int r)) := by
  unfold f_X11_symbol at hf
  refine z_start (by decide) (Nat.le_of_ble_eq_true rfl) ?_
  intro p e s m args below meth c ls hx hb hr hlk hml Z hw hl
  have Z : ZK G s args m RX11 := Z
  have hl : lv_has ls 4 [(0, .ref (ra G 70)), (1, .int x1), (2, .int x2), (3, .int x3)] := hl
  obtain ⟨H, hH⟩ : ∃ H, H = s.heap := ⟨_, rfl⟩
  rw [← hH] at hw ⊢
  obtain ⟨locs, hlc⟩ : ∃ locs : List Loc, locs = [] := ⟨_, rfl⟩
  rw [← hlc] at hw ⊢
  refine lv_aload_n hx hb dX11_symbol_0 rfl (lv_at hl 0 rfl) ?_
  refine lv_iload_n hx hb dX11_symbol_1 rfl (lv_at hl 1 rfl) ?_
  refine z_callVi (o := 70) (ci := 9) (As := [.int x1]) (rest := []) (t_X11_isFrame G l hN x1 h) cv_X11_isFrame hx hb hml hl.1 Z hw (by decide) (by decide) (by omega) rfl rfl wd922 rfl rfl (Nat.le_of_ble_eq_true rfl) (by decide) dX11_symbol_2 (fun H locs hw => ?_)
  refine lv_if_ne (tgt := 10) hx hb dX11_symbol_5 (by decide) (fun c5 => ?_) (fun c5 => ?_)
  · have hf := (if_neg c5).symm.trans hf
    refine lv_iload_n hx hb dX11_symbol_10 rfl (lv_at hl 2 rfl) ?_
    refine lv_iconst (v := (0 : Int32)) hx hb dX11_symbol_11 (by decide) ?_
    refine lv_iconst (v := (3 : Int32)) hx hb dX11_symbol_12 (by decide) ?_
    refine z_callSi (As := [.int x2, .int (0 : Int32), .int (3 : Int32)]) (rest := []) (t_X11_in G l hN x2 (0 : Int32) (3 : Int32) h) cs_X11_in hx hb hml hl.1 Z hw wd934 rfl rfl (Nat.le_of_ble_eq_true rfl) (by decide) dX11_symbol_13 (fun H locs hw => ?_)
    refine lv_if_ne (tgt := 22) hx hb dX11_symbol_16 (by decide) (fun c16 => ?_) (fun c16 => ?_)
    · have hf := (if_neg c16).symm.trans hf
      refine lv_aload_n hx hb dX11_symbol_22 rfl (lv_at hl 0 rfl) ?_
      refine lv_bipush (v := (-5 : Int32)) hx hb dX11_symbol_23 (by decide) ?_
      obtain ⟨q25, hq25, hf⟩ := ob_some hf
      refine z_callVv (o := 70) (ci := 9) (As := [.int (-5 : Int32)]) (rest := []) (t_X11_lay G l hN (-5 : Int32) h hq25) cv_X11_lay hx hb hml hl.1 Z hw (by decide) (by decide) (by omega) rfl rfl wd971 rfl rfl (Nat.le_of_ble_eq_true rfl) (by decide) dX11_symbol_25 (fun H locs hw => ?_)
      refine lv_iload_n hx hb dX11_symbol_28 rfl (lv_at hl 3 rfl) ?_
      refine lv_if_ne (tgt := 41) hx hb dX11_symbol_29 (by decide) (fun c29 => ?_) (fun c29 => ?_)
      · have hf := (if_neg c29).symm.trans hf
        refine lv_aload_n hx hb dX11_symbol_41 rfl (lv_at hl 0 rfl) ?_
        refine lv_iload_n hx hb dX11_symbol_42 rfl (lv_at hl 1 rfl) ?_
        obtain ⟨q43, hq43, hf⟩ := ob_some hf
        refine z_callVi (o := 70) (ci := 9) (As := [.int x1]) (rest := []) (t_X11_how G l hN x1 q25 hq43) cv_X11_how hx hb hml hl.1 Z hw (by decide) (by decide) (by omega) rfl rfl wd1104 rfl rfl (Nat.le_of_ble_eq_true rfl) (by decide) dX11_symbol_43 (fun H locs hw => ?_)
        refine lv_iconst (v := (3 : Int32)) hx hb dX11_symbol_46 (by decide) ?_
        refine lv_icmp_ne (tgt := 55) hx hb dX11_symbol_47 (by decide) (fun c47 => ?_) (fun c47 => ?_)
        · have hf := (if_neg c47).symm.trans hf
          refine lv_aload_n hx hb dX11_symbol_55 rfl (lv_at hl 0 rfl) ?_
          refine lv_iload_n hx hb dX11_symbol_56 rfl (lv_at hl 1 rfl) ?_
          refine lv_iload_n hx hb dX11_symbol_57 rfl (lv_at hl 2 rfl) ?_
          obtain ⟨q58, hq58, hf⟩ := ob_some hf
          refine z_callVi (o := 70) (ci := 9) (As := [.int x1, .int x2]) (rest := []) (t_X11_toldSymbol G l hN x1 x2 q25 hq58) cv_X11_toldSymbol hx hb hml hl.1 Z hw (by decide) (by decide) (by omega) rfl rfl wd1141 rfl rfl (Nat.le_of_ble_eq_true rfl) (by decide) dX11_symbol_58 (fun H locs hw => ?_)
          obtain ⟨rfl, rfl⟩ := Prod.mk.inj (Option.some.inj hf)
          exact z_iret hx hb hr hlk hw dX11_symbol_61
        · have hf := (if_pos c47).symm.trans hf
          refine lv_bipush (v := (-5 : Int32)) hx hb dX11_symbol_50 (by decide) ?_
          refine lv_goto (tgt := 61) hx hb dX11_symbol_52 (by decide) ?_
          obtain ⟨rfl, rfl⟩ := Prod.mk.inj (Option.some.inj hf)
          exact z_iret hx hb hr hlk hw dX11_symbol_61
      · have hf := (if_pos c29).symm.trans hf
        refine lv_aload_n hx hb dX11_symbol_32 rfl (lv_at hl 0 rfl) ?_
        refine lv_iload_n hx hb dX11_symbol_33 rfl (lv_at hl 1 rfl) ?_
        refine lv_iload_n hx hb dX11_symbol_34 rfl (lv_at hl 2 rfl) ?_
        obtain ⟨q35, hq35, hf⟩ := ob_some hf
        refine z_callVi (o := 70) (ci := 9) (As := [.int x1, .int x2]) (rest := []) (t_X11_symbolOf G l hN x1 x2 q25 hq35) cv_X11_symbolOf hx hb hml hl.1 Z hw (by decide) (by decide) (by omega) rfl rfl wd1119 rfl rfl (Nat.le_of_ble_eq_true rfl) (by decide) dX11_symbol_35 (fun H locs hw => ?_)
        refine lv_goto (tgt := 61) hx hb dX11_symbol_38 (by decide) ?_
        obtain ⟨rfl, rfl⟩ := Prod.mk.inj (Option.some.inj hf)
        exact z_iret hx hb hr hlk hw dX11_symbol_61
    · have hf := (if_pos c16).symm.trans hf
      refine lv_bipush (v := (-2 : Int32)) hx hb dX11_symbol_19 (by decide) ?_
      obtain ⟨rfl, rfl⟩ := Prod.mk.inj (Option.some.inj hf)
      exact z_iret hx hb hr hlk hw dX11_symbol_21
  · have hf := (if_pos c5).symm.trans hf
    refine lv_iconst (v := (-1 : Int32)) hx hb dX11_symbol_8 (by decide) ?_
    obtain ⟨rfl, rfl⟩ := Prod.mk.inj (Option.some.inj hf)
    exact z_iret hx hb hr hlk hw dX11_symbol_9
set_option maxHeartbeats 4000000 in
set_option maxRecDepth 100000 in
theorem w_X11_turn_L42 (G : GM) (l : Launch) (hN : 77 ≤ gN G)  {p : Program} {e : Env} {s : State} {m : MethodId} {args : Array Value} {below : List Frame} {meth : Method} {c : Code} (hx : p.tables.exec = Jvm.exec) (hb : c.code = cX11_turn) (hr : meth.sig.returnType = (some .int)) (hlk : meth.locks = false) (hml : c.maxLocals = 6) (Z : ZK G s args m RX11) : ∀ (n : Nat) (x1 : Int32) (x2 : Int32) (x3 : Int32) (x4 : Int32) (x5 : Int32)  (h : HP)  (rv : Option Value) (hq : HP) (ls : Array Slot) (H : Heap) (locs : List Loc) {q : Int32 × Int32}, lv_has ls 6 [(0, .ref (ra G 70)), (1, .int x1), (2, .int x2), (3, .int x3), (4, .int x4), (5, .int x5)] → HW G h s H locs → f_X11_turn_L42 n x1 x2 x3 x4 x5 h = some q → (∀ (ls : Array Slot) (H : Heap) (locs : List Loc), lv_has ls 6 [(0, .ref (ra G 70)), (1, .int x1), (2, .int x2), (3, .int q.1), (4, .int q.2)] → HW G h s H locs → WZ p l e 4 s m args below meth c G rv hq H locs (F0 m 110 ls [])) → WZ p l e 4 s m args below meth c G rv hq H locs (F0 m 42 ls []) := by
  intro n
  induction n with
  | zero => intro x1 x2 x3 x4 x5  h  rv hq ls H locs q hl hw hf kk; cases hf
  | succ n ih =>
    intro x1 x2 x3 x4 x5  h  rv hq ls H locs q hl hw hf kk
    rw [f_X11_turn_L42] at hf
    refine lv_iload hx hb dX11_turn_42 (lv_at hl 5 rfl) ?_
    refine lv_aload_n hx hb dX11_turn_44 rfl (lv_at hl 0 rfl) ?_
    refine lv_iload_n hx hb dX11_turn_45 rfl (lv_at hl 1 rfl) ?_
    refine lv_iconst (v := (1 : Int32)) hx hb dX11_turn_46 (by decide) ?_
    refine lv_iadd hx hb dX11_turn_47 ?_
    refine z_callVi (o := 70) (ci := 9) (As := [.int (x1 + (1 : Int32))]) (rest := [.int x5]) (t_X11_start G l hN (x1 + (1 : Int32)) h) cv_X11_start hx hb hml hl.1 Z hw (by decide) (by decide) (by omega) rfl rfl wd930 rfl rfl (Nat.le_of_ble_eq_true rfl) (by decide) dX11_turn_48 (fun H locs hw => ?_)
    refine lv_icmp_ge (tgt := 110) hx hb dX11_turn_51 (by decide) (fun c51 => ?_) (fun c51 => ?_)
    · have hf := (if_pos c51).symm.trans hf
      obtain rfl := Option.some.inj hf
      exact kk ls H locs (lv_sub hl [0, 1, 2, 3, 4] rfl) hw
    · have hf := (if_neg c51).symm.trans hf
      refine lv_iload_n hx hb dX11_turn_54 rfl (lv_at hl 2 rfl) ?_
      refine lv_iconst (v := (1 : Int32)) hx hb dX11_turn_55 (by decide) ?_
      refine lv_icmp_le (tgt := 110) hx hb dX11_turn_56 (by decide) (fun c56 => ?_) (fun c56 => ?_)
      · have hf := (if_pos c56).symm.trans hf
        obtain rfl := Option.some.inj hf
        exact kk ls H locs (lv_sub hl [0, 1, 2, 3, 4] rfl) hw
      · have hf := (if_neg c56).symm.trans hf
        refine lv_iload_n hx hb dX11_turn_59 rfl (lv_at hl 3 rfl) ?_
        refine lv_aload_n hx hb dX11_turn_60 rfl (lv_at hl 0 rfl) ?_
        refine z_getr (o := 70) (o2 := 76) (C := RX11) (T := TX11) (N := 11) (ci := 9) (k := 8) hx hb Z hw (by decide) (by omega) rfl inX11 (by decide) rfl wd883 dX11_turn_61 ?_
        refine lv_iload hx hb dX11_turn_64 (lv_at hl 5 rfl) ?_
        obtain ⟨h66, hf⟩ := gd_some hf
        refine y_zald (o := 76) (k := x5.toNatClampNeg) hx hb Z hw (by decide) (by omega) rfl (inB_vp h66) dX11_turn_66 ?_
        have HJ75 : ∀ (ls : Array Slot) (H : Heap) (locs : List Loc), lv_has ls 6 [(0, .ref (ra G 70)), (1, .int x1), (2, .int x2), (4, .int x4), (5, .int x5)] → HW G h s H locs → WZ p l e 4 s m args below meth c G rv hq H locs (F0 m 75 ls [.int (if (h 76 x5.toNatClampNeg) = 0 then (0 : Int32) else (1 : Int32)), .int x3]) := by
          intro ls H locs hl hw
          refine lv_iadd hx hb dX11_turn_75 ?_
          obtain ⟨v76, hqv76, hf⟩ := tb_ex hf
          refine z_top hqv76 ?_
          refine lv_istore_n (lv' := [(3, _), (0, _), (1, _), (2, _), (4, _), (5, _)]) hx hb dX11_turn_76 rfl hl (by decide) rfl (fun ls hl => ?_)
          refine lv_iload hx hb dX11_turn_77 (lv_at hl 4 rfl) ?_
          refine lv_iload_n hx hb dX11_turn_79 rfl (lv_at hl 3 rfl) ?_
          refine lv_iconst (v := (3 : Int32)) hx hb dX11_turn_80 (by decide) ?_
          obtain ⟨j81, hqj81, hf⟩ := ob_some hf
          have HJ101 : ∀ (ls : Array Slot) (H : Heap) (locs : List Loc), lv_has ls 6 [(0, .ref (ra G 70)), (1, .int x1), (2, .int x2), (3, .int v76), (5, .int x5)] → HW G h s H locs → WZ p l e 4 s m args below meth c G rv hq H locs (F0 m 101 ls [.int j81, .int x4]) := by
            intro ls H locs hl hw
            refine lv_iadd hx hb dX11_turn_101 ?_
            refine lv_istore (lv' := [(4, _), (0, _), (1, _), (2, _), (3, _), (5, _)]) hx hb dX11_turn_102 hl (by decide) rfl (fun ls hl => ?_)
            refine lv_iinc (v := x5 + (1 : Int32)) (lv' := [(5, _), (4, _), (0, _), (1, _), (2, _), (3, _)]) hx hb dX11_turn_104 hl (k := 5) rfl rfl (by decide) rfl (fun ls hl => ?_)
            refine lv_goto (tgt := 42) hx hb dX11_turn_107 (by decide) ?_
            exact ih x1 x2 v76 (x4 + j81) (x5 + (1 : Int32)) h  rv hq ls H locs (lv_sub hl [2, 3, 4, 5, 1, 0] rfl) hw hf kk
          have hf := hqj81
          refine lv_icmp_ne (tgt := 100) hx hb dX11_turn_81 (by decide) (fun c81 => ?_) (fun c81 => ?_)
          · have hf := (if_neg c81).symm.trans hf
            refine lv_iconst (v := (0 : Int32)) hx hb dX11_turn_100 (by decide) ?_
            obtain rfl := Option.some.inj hf
            exact HJ101 ls H locs (lv_sub hl [1, 2, 3, 0, 5] rfl) hw
          · have hf := (if_pos c81).symm.trans hf
            refine lv_aload_n hx hb dX11_turn_84 rfl (lv_at hl 1 rfl) ?_
            refine lv_iload hx hb dX11_turn_85 (lv_at hl 5 rfl) ?_
            obtain ⟨q87, hq87, hf⟩ := ob_some hf
            refine z_callVi (o := 70) (ci := 9) (As := [.int x5]) (rest := [.int x4]) (t_X11_pits G l hN x5 h hq87) cv_X11_pits hx hb hml hl.1 Z hw (by decide) (by decide) (by omega) rfl rfl wd1115 rfl rfl (Nat.le_of_ble_eq_true rfl) (by decide) dX11_turn_87 (fun H locs hw => ?_)
            refine lv_aload_n hx hb dX11_turn_90 rfl (lv_at hl 1 rfl) ?_
            refine lv_iload hx hb dX11_turn_91 (lv_at hl 5 rfl) ?_
            obtain ⟨q93, hq93, hf⟩ := ob_some hf
            refine z_callVi (o := 70) (ci := 9) (As := [.int x5]) (rest := [.int q87, .int x4]) (t_X11_flats G l hN x5 h hq93) cv_X11_flats hx hb hml hl.1 Z hw (by decide) (by decide) (by omega) rfl rfl wd1126 rfl rfl (Nat.le_of_ble_eq_true rfl) (by decide) dX11_turn_93 (fun H locs hw => ?_)
            refine lv_iadd hx hb dX11_turn_96 ?_
            refine lv_goto (tgt := 101) hx hb dX11_turn_97 (by decide) ?_
            obtain rfl := Option.some.inj hf
            exact HJ101 ls H locs (lv_sub hl [1, 2, 3, 0, 5] rfl) hw
        refine lv_if_eq (tgt := 74) hx hb dX11_turn_67 (by decide) (fun c67 => ?_) (fun c67 => ?_)
        · skip
          refine lv_iconst (v := (0 : Int32)) hx hb dX11_turn_74 (by decide) ?_
          refine W.eq (g2 := F0 m 75 ls [.int (if (h 76 x5.toNatClampNeg) = 0 then (0 : Int32) else (1 : Int32)), .int x3]) ?_ (HJ75 ls H locs (lv_sub hl [0, 1, 2, 4, 5] rfl) hw)
          simp only [if_pos c67]
        · skip
          refine lv_iconst (v := (1 : Int32)) hx hb dX11_turn_70 (by decide) ?_
          refine lv_goto (tgt := 75) hx hb dX11_turn_71 (by decide) ?_
          refine W.eq (g2 := F0 m 75 ls [.int (if (h 76 x5.toNatClampNeg) = 0 then (0 : Int32) else (1 : Int32)), .int x3]) ?_ (HJ75 ls H locs (lv_sub hl [0, 1, 2, 4, 5] rfl) hw)
          simp only [if_neg c67]
set_option maxHeartbeats 4000000 in
set_option maxRecDepth 100000 in
theorem t_X11_turn (G : GM) (l : Launch) (hN : 77 ≤ gN G) (x1 : Int32) (x2 : Int32) (h : HP) {r : Int32} {h' : HP} (hf : f_X11_turn x1 x2 h = some (r, h')) : MC G l yX11_turn cX11_turn 6 (some .int) 4 [.ref (ra G 70), .int x1, .int x2] h h' (some (.int r)) := by
  unfold f_X11_turn at hf
  refine z_start (by decide) (Nat.le_of_ble_eq_true rfl) ?_
  intro p e s m args below meth c ls hx hb hr hlk hml Z hw hl
  have Z : ZK G s args m RX11 := Z
  have hl : lv_has ls 6 [(0, .ref (ra G 70)), (1, .int x1), (2, .int x2)] := hl
  obtain ⟨H, hH⟩ : ∃ H, H = s.heap := ⟨_, rfl⟩
  rw [← hH] at hw ⊢
  obtain ⟨locs, hlc⟩ : ∃ locs : List Loc, locs = [] := ⟨_, rfl⟩
  rw [← hlc] at hw ⊢
  refine lv_iload_n hx hb dX11_turn_0 rfl (lv_at hl 1 rfl) ?_
  refine lv_iconst (v := (0 : Int32)) hx hb dX11_turn_1 (by decide) ?_
  refine lv_bipush (v := (29 : Int32)) hx hb dX11_turn_2 (by decide) ?_
  refine z_callSi (As := [.int x1, .int (0 : Int32), .int (29 : Int32)]) (rest := []) (t_X11_in G l hN x1 (0 : Int32) (29 : Int32) h) cs_X11_in hx hb hml hl.1 Z hw wd934 rfl rfl (Nat.le_of_ble_eq_true rfl) (by decide) dX11_turn_4 (fun H locs hw => ?_)
  refine lv_if_ne (tgt := 12) hx hb dX11_turn_7 (by decide) (fun c7 => ?_) (fun c7 => ?_)
  · have hf := (if_neg c7).symm.trans hf
    refine lv_iload_n hx hb dX11_turn_12 rfl (lv_at hl 2 rfl) ?_
    refine lv_iconst (v := (0 : Int32)) hx hb dX11_turn_13 (by decide) ?_
    refine lv_iconst (v := (3 : Int32)) hx hb dX11_turn_14 (by decide) ?_
    refine z_callSi (As := [.int x2, .int (0 : Int32), .int (3 : Int32)]) (rest := []) (t_X11_in G l hN x2 (0 : Int32) (3 : Int32) h) cs_X11_in hx hb hml hl.1 Z hw wd934 rfl rfl (Nat.le_of_ble_eq_true rfl) (by decide) dX11_turn_15 (fun H locs hw => ?_)
    refine lv_if_ne (tgt := 24) hx hb dX11_turn_18 (by decide) (fun c18 => ?_) (fun c18 => ?_)
    · have hf := (if_neg c18).symm.trans hf
      refine lv_aload_n hx hb dX11_turn_24 rfl (lv_at hl 0 rfl) ?_
      refine lv_bipush (v := (-5 : Int32)) hx hb dX11_turn_25 (by decide) ?_
      obtain ⟨q27, hq27, hf⟩ := ob_some hf
      refine z_callVv (o := 70) (ci := 9) (As := [.int (-5 : Int32)]) (rest := []) (t_X11_lay G l hN (-5 : Int32) h hq27) cv_X11_lay hx hb hml hl.1 Z hw (by decide) (by decide) (by omega) rfl rfl wd971 rfl rfl (Nat.le_of_ble_eq_true rfl) (by decide) dX11_turn_27 (fun H locs hw => ?_)
      refine lv_iconst (v := (0 : Int32)) hx hb dX11_turn_30 (by decide) ?_
      refine lv_istore_n (lv' := [(3, _), (0, _), (1, _), (2, _)]) hx hb dX11_turn_31 rfl hl (by decide) rfl (fun ls hl => ?_)
      refine lv_iconst (v := (0 : Int32)) hx hb dX11_turn_32 (by decide) ?_
      refine lv_istore (lv' := [(4, _), (3, _), (0, _), (1, _), (2, _)]) hx hb dX11_turn_33 hl (by decide) rfl (fun ls hl => ?_)
      refine lv_aload_n hx hb dX11_turn_35 rfl (lv_at hl 2 rfl) ?_
      refine lv_iload_n hx hb dX11_turn_36 rfl (lv_at hl 3 rfl) ?_
      refine z_callVi (o := 70) (ci := 9) (As := [.int x1]) (rest := []) (t_X11_start G l hN x1 q27) cv_X11_start hx hb hml hl.1 Z hw (by decide) (by decide) (by omega) rfl rfl wd930 rfl rfl (Nat.le_of_ble_eq_true rfl) (by decide) dX11_turn_37 (fun H locs hw => ?_)
      refine lv_istore (lv' := [(5, _), (4, _), (3, _), (0, _), (1, _), (2, _)]) hx hb dX11_turn_40 hl (by decide) rfl (fun ls hl => ?_)
      obtain ⟨q42, hq42, hf⟩ := ob_some hf
      refine w_X11_turn_L42 G l hN  hx hb hr hlk hml Z FU x1 x2 (0 : Int32) (0 : Int32) (f_X11_start x1 q27) q27  _ _ ls H locs (lv_sub hl [3, 4, 5, 2, 1, 0] rfl) hw hq42 (fun ls H locs hl hw => ?_)
      refine lv_iload_n hx hb dX11_turn_110 rfl (lv_at hl 2 rfl) ?_
      refine lv_if_ne (tgt := 122) hx hb dX11_turn_111 (by decide) (fun c111 => ?_) (fun c111 => ?_)
      · have hf := (if_neg c111).symm.trans hf
        refine lv_iload_n hx hb dX11_turn_122 rfl (lv_at hl 2 rfl) ?_
        refine lv_iconst (v := (1 : Int32)) hx hb dX11_turn_123 (by decide) ?_
        refine lv_icmp_ne (tgt := 135) hx hb dX11_turn_124 (by decide) (fun c124 => ?_) (fun c124 => ?_)
        · have hf := (if_neg c124).symm.trans hf
          refine lv_iload_n hx hb dX11_turn_135 rfl (lv_at hl 2 rfl) ?_
          refine lv_iconst (v := (2 : Int32)) hx hb dX11_turn_136 (by decide) ?_
          refine lv_icmp_ne (tgt := 144) hx hb dX11_turn_137 (by decide) (fun c137 => ?_) (fun c137 => ?_)
          · have hf := (if_neg c137).symm.trans hf
            refine lv_iload hx hb dX11_turn_144 (lv_at hl 4 rfl) ?_
            obtain ⟨rfl, rfl⟩ := Prod.mk.inj (Option.some.inj hf)
            exact z_iret hx hb hr hlk hw dX11_turn_146
          · have hf := (if_pos c137).symm.trans hf
            refine lv_iload_n hx hb dX11_turn_140 rfl (lv_at hl 3 rfl) ?_
            refine lv_goto (tgt := 146) hx hb dX11_turn_141 (by decide) ?_
            obtain ⟨rfl, rfl⟩ := Prod.mk.inj (Option.some.inj hf)
            exact z_iret hx hb hr hlk hw dX11_turn_146
        · have hf := (if_pos c124).symm.trans hf
          refine lv_aload_n hx hb dX11_turn_127 rfl (lv_at hl 0 rfl) ?_
          refine lv_iload_n hx hb dX11_turn_128 rfl (lv_at hl 1 rfl) ?_
          refine z_callVi (o := 70) (ci := 9) (As := [.int x1]) (rest := []) (t_X11_start G l hN x1 q27) cv_X11_start hx hb hml hl.1 Z hw (by decide) (by decide) (by omega) rfl rfl wd930 rfl rfl (Nat.le_of_ble_eq_true rfl) (by decide) dX11_turn_129 (fun H locs hw => ?_)
          refine lv_goto (tgt := 146) hx hb dX11_turn_132 (by decide) ?_
          obtain ⟨rfl, rfl⟩ := Prod.mk.inj (Option.some.inj hf)
          exact z_iret hx hb hr hlk hw dX11_turn_146
      · have hf := (if_pos c111).symm.trans hf
        refine lv_aload_n hx hb dX11_turn_114 rfl (lv_at hl 0 rfl) ?_
        refine lv_iload_n hx hb dX11_turn_115 rfl (lv_at hl 1 rfl) ?_
        refine z_callVi (o := 70) (ci := 9) (As := [.int x1]) (rest := []) (t_X11_framesOf G l hN x1 q27) cv_X11_framesOf hx hb hml hl.1 Z hw (by decide) (by decide) (by omega) rfl rfl wd975 rfl rfl (Nat.le_of_ble_eq_true rfl) (by decide) dX11_turn_116 (fun H locs hw => ?_)
        refine lv_goto (tgt := 146) hx hb dX11_turn_119 (by decide) ?_
        obtain ⟨rfl, rfl⟩ := Prod.mk.inj (Option.some.inj hf)
        exact z_iret hx hb hr hlk hw dX11_turn_146
    · have hf := (if_pos c18).symm.trans hf
      refine lv_bipush (v := (-2 : Int32)) hx hb dX11_turn_21 (by decide) ?_
      obtain ⟨rfl, rfl⟩ := Prod.mk.inj (Option.some.inj hf)
      exact z_iret hx hb hr hlk hw dX11_turn_23
  · have hf := (if_pos c7).symm.trans hf
    refine lv_iconst (v := (-1 : Int32)) hx hb dX11_turn_10 (by decide) ?_
    obtain ⟨rfl, rfl⟩ := Prod.mk.inj (Option.some.inj hf)
    exact z_iret hx hb hr hlk hw dX11_turn_11
set_option maxHeartbeats 4000000 in
set_option maxRecDepth 100000 in
theorem w_X11_scratchOf_L51 (G : GM) (l : Launch) (hN : 77 ≤ gN G)  {p : Program} {e : Env} {s : State} {m : MethodId} {args : Array Value} {below : List Frame} {meth : Method} {c : Code} (hx : p.tables.exec = Jvm.exec) (hb : c.code = cX11_scratchOf) (hr : meth.sig.returnType = (some .int)) (hlk : meth.locks = false) (hml : c.maxLocals = 6) (Z : ZK G s args m RX11) : ∀ (n : Nat) (x1 : Int32) (x3 : Int32) (x4 : Int32) (x5 : Int32)  (h : HP) (v2 : Int32) (rv : Option Value) (hq : HP) (ls : Array Slot) (H : Heap) (locs : List Loc) {q : Int32}, lv_has ls 6 [(0, .ref (ra G 70)), (1, .int x1), (2, .int v2), (3, .int x3), (4, .int x4), (5, .int x5)] → HW G h s H locs → f_X11_scratchOf_L51 n x1 x3 x4 x5 h = some q → (∀ (ls : Array Slot) (H : Heap) (locs : List Loc), lv_has ls 6 [(0, .ref (ra G 70)), (1, .int x1), (2, .int v2), (3, .int q), (4, .int x4)] → HW G h s H locs → WZ p l e 2 s m args below meth c G rv hq H locs (F0 m 88 ls [])) → WZ p l e 2 s m args below meth c G rv hq H locs (F0 m 51 ls []) := by
  intro n
  induction n with
  | zero => intro x1 x3 x4 x5  h v2 rv hq ls H locs q hl hw hf kk; cases hf
  | succ n ih =>
    intro x1 x3 x4 x5  h v2 rv hq ls H locs q hl hw hf kk
    rw [f_X11_scratchOf_L51] at hf
    refine lv_iload hx hb dX11_scratchOf_51 (lv_at hl 5 rfl) ?_
    refine lv_aload_n hx hb dX11_scratchOf_53 rfl (lv_at hl 0 rfl) ?_
    refine lv_iload hx hb dX11_scratchOf_54 (lv_at hl 4 rfl) ?_
    refine z_callVi (o := 70) (ci := 9) (As := [.int x4]) (rest := [.int x5]) (t_X11_framesOf G l hN x4 h) cv_X11_framesOf hx hb hml hl.1 Z hw (by decide) (by decide) (by omega) rfl rfl wd975 rfl rfl (Nat.le_of_ble_eq_true rfl) (by decide) dX11_scratchOf_56 (fun H locs hw => ?_)
    refine lv_icmp_ge (tgt := 88) hx hb dX11_scratchOf_59 (by decide) (fun c59 => ?_) (fun c59 => ?_)
    · have hf := (if_pos c59).symm.trans hf
      obtain rfl := Option.some.inj hf
      exact kk ls H locs (lv_sub hl [0, 1, 2, 3, 4] rfl) hw
    · have hf := (if_neg c59).symm.trans hf
      refine lv_iload_n hx hb dX11_scratchOf_62 rfl (lv_at hl 3 rfl) ?_
      refine lv_aload_n hx hb dX11_scratchOf_63 rfl (lv_at hl 0 rfl) ?_
      refine lv_iload_n hx hb dX11_scratchOf_64 rfl (lv_at hl 1 rfl) ?_
      refine lv_iload hx hb dX11_scratchOf_65 (lv_at hl 4 rfl) ?_
      refine lv_iload hx hb dX11_scratchOf_67 (lv_at hl 5 rfl) ?_
      obtain ⟨q69, hq69, hf⟩ := ob_some hf
      refine z_callVi (o := 70) (ci := 9) (As := [.int x1, .int x4, .int x5]) (rest := [.int x3]) (t_X11_damages G l hN x1 x4 x5 h hq69) cv_X11_damages hx hb hml hl.1 Z hw (by decide) (by decide) (by omega) rfl rfl wd979 rfl rfl (Nat.le_of_ble_eq_true rfl) (by decide) dX11_scratchOf_69 (fun H locs hw => ?_)
      have HJ80 : ∀ (ls : Array Slot) (H : Heap) (locs : List Loc), lv_has ls 6 [(0, .ref (ra G 70)), (1, .int x1), (2, .int v2), (4, .int x4), (5, .int x5)] → HW G h s H locs → WZ p l e 2 s m args below meth c G rv hq H locs (F0 m 80 ls [.int (if q69 = 0 then (0 : Int32) else (1 : Int32)), .int x3]) := by
        intro ls H locs hl hw
        refine lv_iadd hx hb dX11_scratchOf_80 ?_
        obtain ⟨v81, hqv81, hf⟩ := tb_ex hf
        refine z_top hqv81 ?_
        refine lv_istore_n (lv' := [(3, _), (0, _), (1, _), (2, _), (4, _), (5, _)]) hx hb dX11_scratchOf_81 rfl hl (by decide) rfl (fun ls hl => ?_)
        refine lv_iinc (v := x5 + (1 : Int32)) (lv' := [(5, _), (3, _), (0, _), (1, _), (2, _), (4, _)]) hx hb dX11_scratchOf_82 hl (k := 5) rfl rfl (by decide) rfl (fun ls hl => ?_)
        refine lv_goto (tgt := 51) hx hb dX11_scratchOf_85 (by decide) ?_
        exact ih x1 v81 x4 (x5 + (1 : Int32)) h v2 rv hq ls H locs (lv_sub hl [2, 3, 4, 1, 5, 0] rfl) hw hf kk
      refine lv_if_eq (tgt := 79) hx hb dX11_scratchOf_72 (by decide) (fun c72 => ?_) (fun c72 => ?_)
      · skip
        refine lv_iconst (v := (0 : Int32)) hx hb dX11_scratchOf_79 (by decide) ?_
        refine W.eq (g2 := F0 m 80 ls [.int (if q69 = 0 then (0 : Int32) else (1 : Int32)), .int x3]) ?_ (HJ80 ls H locs (lv_sub hl [0, 1, 2, 4, 5] rfl) hw)
        simp only [if_pos c72]
      · skip
        refine lv_iconst (v := (1 : Int32)) hx hb dX11_scratchOf_75 (by decide) ?_
        refine lv_goto (tgt := 80) hx hb dX11_scratchOf_76 (by decide) ?_
        refine W.eq (g2 := F0 m 80 ls [.int (if q69 = 0 then (0 : Int32) else (1 : Int32)), .int x3]) ?_ (HJ80 ls H locs (lv_sub hl [0, 1, 2, 4, 5] rfl) hw)
        simp only [if_neg c72]
set_option maxHeartbeats 4000000 in
set_option maxRecDepth 100000 in
theorem w_X11_scratchOf_L36 (G : GM) (l : Launch) (hN : 77 ≤ gN G)  {p : Program} {e : Env} {s : State} {m : MethodId} {args : Array Value} {below : List Frame} {meth : Method} {c : Code} (hx : p.tables.exec = Jvm.exec) (hb : c.code = cX11_scratchOf) (hr : meth.sig.returnType = (some .int)) (hlk : meth.locks = false) (hml : c.maxLocals = 6) (Z : ZK G s args m RX11) : ∀ (n : Nat) (x1 : Int32) (x2 : Int32) (x3 : Int32) (x4 : Int32)  (h : HP)  (rv : Option Value) (hq : HP) (ls : Array Slot) (H : Heap) (locs : List Loc) {q : Int32}, lv_has ls 6 [(0, .ref (ra G 70)), (1, .int x1), (2, .int x2), (3, .int x3), (4, .int x4)] → HW G h s H locs → f_X11_scratchOf_L36 n x1 x2 x3 x4 h = some q → (∀ (ls : Array Slot) (H : Heap) (locs : List Loc), lv_has ls 6 [(0, .ref (ra G 70)), (1, .int x1), (2, .int x2), (3, .int q)] → HW G h s H locs → WZ p l e 2 s m args below meth c G rv hq H locs (F0 m 94 ls [])) → WZ p l e 2 s m args below meth c G rv hq H locs (F0 m 36 ls []) := by
  intro n
  induction n with
  | zero => intro x1 x2 x3 x4  h  rv hq ls H locs q hl hw hf kk; cases hf
  | succ n ih =>
    intro x1 x2 x3 x4  h  rv hq ls H locs q hl hw hf kk
    rw [f_X11_scratchOf_L36] at hf
    refine lv_iload hx hb dX11_scratchOf_36 (lv_at hl 4 rfl) ?_
    refine lv_bipush (v := (30 : Int32)) hx hb dX11_scratchOf_38 (by decide) ?_
    refine lv_icmp_ge (tgt := 94) hx hb dX11_scratchOf_40 (by decide) (fun c40 => ?_) (fun c40 => ?_)
    · have hf := (if_pos c40).symm.trans hf
      obtain rfl := Option.some.inj hf
      exact kk ls H locs (lv_sub hl [0, 1, 2, 3] rfl) hw
    · have hf := (if_neg c40).symm.trans hf
      refine lv_iload_n hx hb dX11_scratchOf_43 rfl (lv_at hl 2 rfl) ?_
      refine lv_iconst (v := (4 : Int32)) hx hb dX11_scratchOf_44 (by decide) ?_
      refine lv_icmp_ne (tgt := 94) hx hb dX11_scratchOf_45 (by decide) (fun c45 => ?_) (fun c45 => ?_)
      · have hf := (if_neg c45).symm.trans hf
        obtain rfl := Option.some.inj hf
        exact kk ls H locs (lv_sub hl [0, 1, 2, 3] rfl) hw
      · have hf := (if_pos c45).symm.trans hf
        refine lv_iconst (v := (0 : Int32)) hx hb dX11_scratchOf_48 (by decide) ?_
        refine lv_istore (lv' := [(5, _), (0, _), (1, _), (2, _), (3, _), (4, _)]) hx hb dX11_scratchOf_49 hl (by decide) rfl (fun ls hl => ?_)
        obtain ⟨q51, hq51, hf⟩ := ob_some hf
        refine w_X11_scratchOf_L51 G l hN  hx hb hr hlk hml Z FU x1 x3 x4 (0 : Int32) h x2 _ _ ls H locs (lv_sub hl [1, 2, 3, 4, 5, 0] rfl) hw hq51 (fun ls H locs hl hw => ?_)
        refine lv_iinc (v := x4 + (1 : Int32)) (lv' := [(4, _), (0, _), (1, _), (2, _), (3, _)]) hx hb dX11_scratchOf_88 hl (k := 4) rfl rfl (by decide) rfl (fun ls hl => ?_)
        refine lv_goto (tgt := 36) hx hb dX11_scratchOf_91 (by decide) ?_
        exact ih x1 x2 q51 (x4 + (1 : Int32)) h  rv hq ls H locs (lv_sub hl [1, 2, 3, 4, 0] rfl) hw hf kk
set_option maxHeartbeats 4000000 in
set_option maxRecDepth 100000 in
theorem t_X11_scratchOf (G : GM) (l : Launch) (hN : 77 ≤ gN G) (x1 : Int32) (x2 : Int32) (h : HP) {r : Int32} (hf : f_X11_scratchOf x1 x2 h = some r) : MC G l yX11_scratchOf cX11_scratchOf 6 (some .int) 2 [.ref (ra G 70), .int x1, .int x2] h h (some (.int r)) := by
  unfold f_X11_scratchOf at hf
  refine z_start (by decide) (Nat.le_of_ble_eq_true rfl) ?_
  intro p e s m args below meth c ls hx hb hr hlk hml Z hw hl
  have Z : ZK G s args m RX11 := Z
  have hl : lv_has ls 6 [(0, .ref (ra G 70)), (1, .int x1), (2, .int x2)] := hl
  obtain ⟨H, hH⟩ : ∃ H, H = s.heap := ⟨_, rfl⟩
  rw [← hH] at hw ⊢
  obtain ⟨locs, hlc⟩ : ∃ locs : List Loc, locs = [] := ⟨_, rfl⟩
  rw [← hlc] at hw ⊢
  refine lv_iload_n hx hb dX11_scratchOf_0 rfl (lv_at hl 1 rfl) ?_
  refine lv_iconst (v := (0 : Int32)) hx hb dX11_scratchOf_1 (by decide) ?_
  refine lv_aload_n hx hb dX11_scratchOf_2 rfl (lv_at hl 0 rfl) ?_
  refine z_getr (o := 70) (o2 := 71) (C := RX11) (T := TX11) (N := 11) (ci := 9) (k := 0) hx hb Z hw (by decide) (by omega) rfl inX11 (by decide) rfl wd875 dX11_scratchOf_3 ?_
  refine lv_bipush (v := (12 : Int32)) hx hb dX11_scratchOf_6 (by decide) ?_
  refine y_iald (o := 71) (k := 12) hx hb Z hw (by decide) (by omega) (by decide) (inB_vp (by decide)) dX11_scratchOf_8 ?_
  refine lv_iconst (v := (1 : Int32)) hx hb dX11_scratchOf_9 (by decide) ?_
  refine lv_isub hx hb dX11_scratchOf_10 ?_
  refine z_callSi (As := [.int x1, .int (0 : Int32), .int ((h 71 12) - (1 : Int32))]) (rest := []) (t_X11_in G l hN x1 (0 : Int32) ((h 71 12) - (1 : Int32)) h) cs_X11_in hx hb hml hl.1 Z hw wd934 rfl rfl (Nat.le_of_ble_eq_true rfl) (by decide) dX11_scratchOf_11 (fun H locs hw => ?_)
  refine lv_if_ne (tgt := 19) hx hb dX11_scratchOf_14 (by decide) (fun c14 => ?_) (fun c14 => ?_)
  · have hf := (if_neg c14).symm.trans hf
    refine lv_iload_n hx hb dX11_scratchOf_19 rfl (lv_at hl 2 rfl) ?_
    refine lv_iconst (v := (0 : Int32)) hx hb dX11_scratchOf_20 (by decide) ?_
    refine lv_iconst (v := (4 : Int32)) hx hb dX11_scratchOf_21 (by decide) ?_
    refine z_callSi (As := [.int x2, .int (0 : Int32), .int (4 : Int32)]) (rest := []) (t_X11_in G l hN x2 (0 : Int32) (4 : Int32) h) cs_X11_in hx hb hml hl.1 Z hw wd934 rfl rfl (Nat.le_of_ble_eq_true rfl) (by decide) dX11_scratchOf_22 (fun H locs hw => ?_)
    refine lv_if_ne (tgt := 31) hx hb dX11_scratchOf_25 (by decide) (fun c25 => ?_) (fun c25 => ?_)
    · have hf := (if_neg c25).symm.trans hf
      refine lv_iconst (v := (0 : Int32)) hx hb dX11_scratchOf_31 (by decide) ?_
      refine lv_istore_n (lv' := [(3, _), (0, _), (1, _), (2, _)]) hx hb dX11_scratchOf_32 rfl hl (by decide) rfl (fun ls hl => ?_)
      refine lv_iconst (v := (0 : Int32)) hx hb dX11_scratchOf_33 (by decide) ?_
      refine lv_istore (lv' := [(4, _), (3, _), (0, _), (1, _), (2, _)]) hx hb dX11_scratchOf_34 hl (by decide) rfl (fun ls hl => ?_)
      obtain ⟨q36, hq36, hf⟩ := ob_some hf
      refine w_X11_scratchOf_L36 G l hN  hx hb hr hlk hml Z FU x1 x2 (0 : Int32) (0 : Int32) h  _ _ ls H locs (lv_sub hl [2, 3, 4, 1, 0] rfl) hw hq36 (fun ls H locs hl hw => ?_)
      refine lv_iload_n hx hb dX11_scratchOf_94 rfl (lv_at hl 2 rfl) ?_
      refine lv_iconst (v := (4 : Int32)) hx hb dX11_scratchOf_95 (by decide) ?_
      refine lv_icmp_ne (tgt := 103) hx hb dX11_scratchOf_96 (by decide) (fun c96 => ?_) (fun c96 => ?_)
      · have hf := (if_neg c96).symm.trans hf
        refine lv_aload_n hx hb dX11_scratchOf_103 rfl (lv_at hl 0 rfl) ?_
        refine z_getr (o := 70) (o2 := 71) (C := RX11) (T := TX11) (N := 11) (ci := 9) (k := 0) hx hb Z hw (by decide) (by omega) rfl inX11 (by decide) rfl wd875 dX11_scratchOf_104 ?_
        refine lv_bipush (v := (13 : Int32)) hx hb dX11_scratchOf_107 (by decide) ?_
        refine lv_iconst (v := (4 : Int32)) hx hb dX11_scratchOf_109 (by decide) ?_
        refine lv_iload_n hx hb dX11_scratchOf_110 rfl (lv_at hl 1 rfl) ?_
        refine lv_imul hx hb dX11_scratchOf_111 ?_
        refine lv_iadd hx hb dX11_scratchOf_112 ?_
        refine lv_iload_n hx hb dX11_scratchOf_113 rfl (lv_at hl 2 rfl) ?_
        refine lv_iadd hx hb dX11_scratchOf_114 ?_
        obtain ⟨h115, hf⟩ := gd_some hf
        refine y_iald (o := 71) (k := (((13 : Int32) + ((4 : Int32) * x1)) + x2).toNatClampNeg) hx hb Z hw (by decide) (by omega) rfl (inB_vp h115) dX11_scratchOf_115 ?_
        obtain rfl := Option.some.inj hf
        exact z_iret hx hb hr hlk hw dX11_scratchOf_116
      · have hf := (if_pos c96).symm.trans hf
        refine lv_iload_n hx hb dX11_scratchOf_99 rfl (lv_at hl 3 rfl) ?_
        refine lv_goto (tgt := 116) hx hb dX11_scratchOf_100 (by decide) ?_
        obtain rfl := Option.some.inj hf
        exact z_iret hx hb hr hlk hw dX11_scratchOf_116
    · have hf := (if_pos c25).symm.trans hf
      refine lv_bipush (v := (-2 : Int32)) hx hb dX11_scratchOf_28 (by decide) ?_
      obtain rfl := Option.some.inj hf
      exact z_iret hx hb hr hlk hw dX11_scratchOf_30
  · have hf := (if_pos c14).symm.trans hf
    refine lv_iconst (v := (-1 : Int32)) hx hb dX11_scratchOf_17 (by decide) ?_
    obtain rfl := Option.some.inj hf
    exact z_iret hx hb hr hlk hw dX11_scratchOf_18
set_option maxHeartbeats 4000000 in
set_option maxRecDepth 100000 in
theorem t_X11_count (G : GM) (l : Launch) (hN : 77 ≤ gN G) (x1 : Int32) (h : HP) {r : Int32} {h' : HP} (hf : f_X11_count x1 h = some (r, h')) : MC G l yX11_count cX11_count 2 (some .int) 6 [.ref (ra G 70), .int x1] h h' (some (.int r)) := by
  unfold f_X11_count at hf
  refine z_start (by decide) (Nat.le_of_ble_eq_true rfl) ?_
  intro p e s m args below meth c ls hx hb hr hlk hml Z hw hl
  have Z : ZK G s args m RX11 := Z
  have hl : lv_has ls 2 [(0, .ref (ra G 70)), (1, .int x1)] := hl
  obtain ⟨H, hH⟩ : ∃ H, H = s.heap := ⟨_, rfl⟩
  rw [← hH] at hw ⊢
  obtain ⟨locs, hlc⟩ : ∃ locs : List Loc, locs = [] := ⟨_, rfl⟩
  rw [← hlc] at hw ⊢
  refine lv_aload_n hx hb dX11_count_0 rfl (lv_at hl 0 rfl) ?_
  refine lv_bipush (v := (-5 : Int32)) hx hb dX11_count_1 (by decide) ?_
  obtain ⟨q3, hq3, hf⟩ := ob_some hf
  refine z_callVv (o := 70) (ci := 9) (As := [.int (-5 : Int32)]) (rest := []) (t_X11_lay G l hN (-5 : Int32) h hq3) cv_X11_lay hx hb hml hl.1 Z hw (by decide) (by decide) (by omega) rfl rfl wd971 rfl rfl (Nat.le_of_ble_eq_true rfl) (by decide) dX11_count_3 (fun H locs hw => ?_)
  refine lv_iload_n hx hb dX11_count_6 rfl (lv_at hl 1 rfl) ?_
  by_cases c7_0 : x1 = 0
  · have hf := (if_pos c7_0).symm.trans hf
    refine z_sw c7_0 ?_
    refine lv_tableIn (tgt := 112) hx hb dX11_count_7 (by decide) (by decide) rfl (by decide) ?_
    refine lv_aload_n hx hb dX11_count_112 rfl (lv_at hl 0 rfl) ?_
    refine z_callVi (o := 70) (ci := 9) (As := []) (rest := []) (t_X11_frames G l hN  q3) cv_X11_frames hx hb hml hl.1 Z hw (by decide) (by decide) (by omega) rfl rfl wd926 rfl rfl (Nat.le_of_ble_eq_true rfl) (by decide) dX11_count_113 (fun H locs hw => ?_)
    obtain ⟨rfl, rfl⟩ := Prod.mk.inj (Option.some.inj hf)
    exact z_iret hx hb hr hlk hw dX11_count_116
  have hf := (if_neg c7_0).symm.trans hf
  by_cases c7_1 : x1 = 1
  · have hf := (if_pos c7_1).symm.trans hf
    refine z_sw c7_1 ?_
    refine lv_tableIn (tgt := 117) hx hb dX11_count_7 (by decide) (by decide) rfl (by decide) ?_
    refine lv_aload_n hx hb dX11_count_117 rfl (lv_at hl 0 rfl) ?_
    refine z_callVi (o := 70) (ci := 9) (As := []) (rest := []) (t_X11_frames G l hN  q3) cv_X11_frames hx hb hml hl.1 Z hw (by decide) (by decide) (by omega) rfl rfl wd926 rfl rfl (Nat.le_of_ble_eq_true rfl) (by decide) dX11_count_118 (fun H locs hw => ?_)
    refine lv_iconst (v := (5 : Int32)) hx hb dX11_count_121 (by decide) ?_
    refine lv_idiv hx hb dX11_count_122 (by decide) ?_
    obtain ⟨rfl, rfl⟩ := Prod.mk.inj (Option.some.inj hf)
    exact z_iret hx hb hr hlk hw dX11_count_123
  have hf := (if_neg c7_1).symm.trans hf
  by_cases c7_2 : x1 = 2
  · have hf := (if_pos c7_2).symm.trans hf
    refine z_sw c7_2 ?_
    refine lv_tableIn (tgt := 124) hx hb dX11_count_7 (by decide) (by decide) rfl (by decide) ?_
    refine lv_aload_n hx hb dX11_count_124 rfl (lv_at hl 0 rfl) ?_
    refine z_getr (o := 70) (o2 := 71) (C := RX11) (T := TX11) (N := 11) (ci := 9) (k := 0) hx hb Z hw (by decide) (by omega) rfl inX11 (by decide) rfl wd875 dX11_count_125 ?_
    refine lv_bipush (v := (12 : Int32)) hx hb dX11_count_128 (by decide) ?_
    refine y_iald (o := 71) (k := 12) hx hb Z hw (by decide) (by omega) (by decide) (inB_vp (by decide)) dX11_count_130 ?_
    obtain ⟨rfl, rfl⟩ := Prod.mk.inj (Option.some.inj hf)
    exact z_iret hx hb hr hlk hw dX11_count_131
  have hf := (if_neg c7_2).symm.trans hf
  by_cases c7_3 : x1 = 3
  · have hf := (if_pos c7_3).symm.trans hf
    refine z_sw c7_3 ?_
    refine lv_tableIn (tgt := 132) hx hb dX11_count_7 (by decide) (by decide) rfl (by decide) ?_
    refine lv_aload_n hx hb dX11_count_132 rfl (lv_at hl 0 rfl) ?_
    refine z_getr (o := 70) (o2 := 71) (C := RX11) (T := TX11) (N := 11) (ci := 9) (k := 0) hx hb Z hw (by decide) (by omega) rfl inX11 (by decide) rfl wd875 dX11_count_133 ?_
    refine lv_bipush (v := (6 : Int32)) hx hb dX11_count_136 (by decide) ?_
    refine y_iald (o := 71) (k := 6) hx hb Z hw (by decide) (by omega) (by decide) (inB_vp (by decide)) dX11_count_138 ?_
    obtain ⟨rfl, rfl⟩ := Prod.mk.inj (Option.some.inj hf)
    exact z_iret hx hb hr hlk hw dX11_count_139
  have hf := (if_neg c7_3).symm.trans hf
  by_cases c7_4 : x1 = 4
  · have hf := (if_pos c7_4).symm.trans hf
    refine z_sw c7_4 ?_
    refine lv_tableIn (tgt := 140) hx hb dX11_count_7 (by decide) (by decide) rfl (by decide) ?_
    refine lv_aload_n hx hb dX11_count_140 rfl (lv_at hl 0 rfl) ?_
    refine lv_aload_n hx hb dX11_count_141 rfl (lv_at hl 0 rfl) ?_
    refine z_getr (o := 70) (o2 := 71) (C := RX11) (T := TX11) (N := 11) (ci := 9) (k := 0) hx hb Z hw (by decide) (by omega) rfl inX11 (by decide) rfl wd875 dX11_count_142 ?_
    refine lv_bipush (v := (6 : Int32)) hx hb dX11_count_145 (by decide) ?_
    refine y_iald (o := 71) (k := 6) hx hb Z hw (by decide) (by omega) (by decide) (inB_vp (by decide)) dX11_count_147 ?_
    obtain ⟨q148, hq148, hf⟩ := ob_some hf
    refine z_callVi (o := 70) (ci := 9) (As := [.int (q3 71 6)]) (rest := []) (t_X11_turnOf G l hN (q3 71 6) q3 hq148) cv_X11_turnOf hx hb hml hl.1 Z hw (by decide) (by decide) (by omega) rfl rfl wd1009 rfl rfl (Nat.le_of_ble_eq_true rfl) (by decide) dX11_count_148 (fun H locs hw => ?_)
    obtain ⟨rfl, rfl⟩ := Prod.mk.inj (Option.some.inj hf)
    exact z_iret hx hb hr hlk hw dX11_count_151
  have hf := (if_neg c7_4).symm.trans hf
  by_cases c7_5 : x1 = 5
  · have hf := (if_pos c7_5).symm.trans hf
    refine z_sw c7_5 ?_
    refine lv_tableIn (tgt := 152) hx hb dX11_count_7 (by decide) (by decide) rfl (by decide) ?_
    refine lv_aload_n hx hb dX11_count_152 rfl (lv_at hl 0 rfl) ?_
    refine z_getr (o := 70) (o2 := 71) (C := RX11) (T := TX11) (N := 11) (ci := 9) (k := 0) hx hb Z hw (by decide) (by omega) rfl inX11 (by decide) rfl wd875 dX11_count_153 ?_
    refine lv_bipush (v := (7 : Int32)) hx hb dX11_count_156 (by decide) ?_
    refine lv_iload_n hx hb dX11_count_158 rfl (lv_at hl 1 rfl) ?_
    refine lv_iadd hx hb dX11_count_159 ?_
    refine lv_iconst (v := (5 : Int32)) hx hb dX11_count_160 (by decide) ?_
    refine lv_isub hx hb dX11_count_161 ?_
    obtain ⟨h162, hf⟩ := gd_some hf
    refine y_iald (o := 71) (k := (((7 : Int32) + x1) - (5 : Int32)).toNatClampNeg) hx hb Z hw (by decide) (by omega) rfl (inB_vp h162) dX11_count_162 ?_
    obtain ⟨rfl, rfl⟩ := Prod.mk.inj (Option.some.inj hf)
    exact z_iret hx hb hr hlk hw dX11_count_163
  have hf := (if_neg c7_5).symm.trans hf
  by_cases c7_6 : x1 = 6
  · have hf := (if_pos c7_6).symm.trans hf
    refine z_sw c7_6 ?_
    refine lv_tableIn (tgt := 152) hx hb dX11_count_7 (by decide) (by decide) rfl (by decide) ?_
    refine lv_aload_n hx hb dX11_count_152 rfl (lv_at hl 0 rfl) ?_
    refine z_getr (o := 70) (o2 := 71) (C := RX11) (T := TX11) (N := 11) (ci := 9) (k := 0) hx hb Z hw (by decide) (by omega) rfl inX11 (by decide) rfl wd875 dX11_count_153 ?_
    refine lv_bipush (v := (7 : Int32)) hx hb dX11_count_156 (by decide) ?_
    refine lv_iload_n hx hb dX11_count_158 rfl (lv_at hl 1 rfl) ?_
    refine lv_iadd hx hb dX11_count_159 ?_
    refine lv_iconst (v := (5 : Int32)) hx hb dX11_count_160 (by decide) ?_
    refine lv_isub hx hb dX11_count_161 ?_
    obtain ⟨h162, hf⟩ := gd_some hf
    refine y_iald (o := 71) (k := (((7 : Int32) + x1) - (5 : Int32)).toNatClampNeg) hx hb Z hw (by decide) (by omega) rfl (inB_vp h162) dX11_count_162 ?_
    obtain ⟨rfl, rfl⟩ := Prod.mk.inj (Option.some.inj hf)
    exact z_iret hx hb hr hlk hw dX11_count_163
  have hf := (if_neg c7_6).symm.trans hf
  by_cases c7_7 : x1 = 7
  · have hf := (if_pos c7_7).symm.trans hf
    refine z_sw c7_7 ?_
    refine lv_tableIn (tgt := 152) hx hb dX11_count_7 (by decide) (by decide) rfl (by decide) ?_
    refine lv_aload_n hx hb dX11_count_152 rfl (lv_at hl 0 rfl) ?_
    refine z_getr (o := 70) (o2 := 71) (C := RX11) (T := TX11) (N := 11) (ci := 9) (k := 0) hx hb Z hw (by decide) (by omega) rfl inX11 (by decide) rfl wd875 dX11_count_153 ?_
    refine lv_bipush (v := (7 : Int32)) hx hb dX11_count_156 (by decide) ?_
    refine lv_iload_n hx hb dX11_count_158 rfl (lv_at hl 1 rfl) ?_
    refine lv_iadd hx hb dX11_count_159 ?_
    refine lv_iconst (v := (5 : Int32)) hx hb dX11_count_160 (by decide) ?_
    refine lv_isub hx hb dX11_count_161 ?_
    obtain ⟨h162, hf⟩ := gd_some hf
    refine y_iald (o := 71) (k := (((7 : Int32) + x1) - (5 : Int32)).toNatClampNeg) hx hb Z hw (by decide) (by omega) rfl (inB_vp h162) dX11_count_162 ?_
    obtain ⟨rfl, rfl⟩ := Prod.mk.inj (Option.some.inj hf)
    exact z_iret hx hb hr hlk hw dX11_count_163
  have hf := (if_neg c7_7).symm.trans hf
  by_cases c7_8 : x1 = 8
  · have hf := (if_pos c7_8).symm.trans hf
    refine z_sw c7_8 ?_
    refine lv_tableIn (tgt := 152) hx hb dX11_count_7 (by decide) (by decide) rfl (by decide) ?_
    refine lv_aload_n hx hb dX11_count_152 rfl (lv_at hl 0 rfl) ?_
    refine z_getr (o := 70) (o2 := 71) (C := RX11) (T := TX11) (N := 11) (ci := 9) (k := 0) hx hb Z hw (by decide) (by omega) rfl inX11 (by decide) rfl wd875 dX11_count_153 ?_
    refine lv_bipush (v := (7 : Int32)) hx hb dX11_count_156 (by decide) ?_
    refine lv_iload_n hx hb dX11_count_158 rfl (lv_at hl 1 rfl) ?_
    refine lv_iadd hx hb dX11_count_159 ?_
    refine lv_iconst (v := (5 : Int32)) hx hb dX11_count_160 (by decide) ?_
    refine lv_isub hx hb dX11_count_161 ?_
    obtain ⟨h162, hf⟩ := gd_some hf
    refine y_iald (o := 71) (k := (((7 : Int32) + x1) - (5 : Int32)).toNatClampNeg) hx hb Z hw (by decide) (by omega) rfl (inB_vp h162) dX11_count_162 ?_
    obtain ⟨rfl, rfl⟩ := Prod.mk.inj (Option.some.inj hf)
    exact z_iret hx hb hr hlk hw dX11_count_163
  have hf := (if_neg c7_8).symm.trans hf
  by_cases c7_9 : x1 = 9
  · have hf := (if_pos c7_9).symm.trans hf
    refine z_sw c7_9 ?_
    refine lv_tableIn (tgt := 152) hx hb dX11_count_7 (by decide) (by decide) rfl (by decide) ?_
    refine lv_aload_n hx hb dX11_count_152 rfl (lv_at hl 0 rfl) ?_
    refine z_getr (o := 70) (o2 := 71) (C := RX11) (T := TX11) (N := 11) (ci := 9) (k := 0) hx hb Z hw (by decide) (by omega) rfl inX11 (by decide) rfl wd875 dX11_count_153 ?_
    refine lv_bipush (v := (7 : Int32)) hx hb dX11_count_156 (by decide) ?_
    refine lv_iload_n hx hb dX11_count_158 rfl (lv_at hl 1 rfl) ?_
    refine lv_iadd hx hb dX11_count_159 ?_
    refine lv_iconst (v := (5 : Int32)) hx hb dX11_count_160 (by decide) ?_
    refine lv_isub hx hb dX11_count_161 ?_
    obtain ⟨h162, hf⟩ := gd_some hf
    refine y_iald (o := 71) (k := (((7 : Int32) + x1) - (5 : Int32)).toNatClampNeg) hx hb Z hw (by decide) (by omega) rfl (inB_vp h162) dX11_count_162 ?_
    obtain ⟨rfl, rfl⟩ := Prod.mk.inj (Option.some.inj hf)
    exact z_iret hx hb hr hlk hw dX11_count_163
  have hf := (if_neg c7_9).symm.trans hf
  by_cases c7_10 : x1 = 10
  · have hf := (if_pos c7_10).symm.trans hf
    refine z_sw c7_10 ?_
    refine lv_tableIn (tgt := 164) hx hb dX11_count_7 (by decide) (by decide) rfl (by decide) ?_
    refine lv_aload_n hx hb dX11_count_164 rfl (lv_at hl 0 rfl) ?_
    refine lv_iload_n hx hb dX11_count_165 rfl (lv_at hl 1 rfl) ?_
    refine lv_bipush (v := (10 : Int32)) hx hb dX11_count_166 (by decide) ?_
    refine lv_isub hx hb dX11_count_168 ?_
    obtain ⟨q169, hq169, hf⟩ := ob_some hf
    refine z_callVi (o := 70) (ci := 9) (As := [.int (x1 - (10 : Int32))]) (rest := []) (t_X11_framesThat G l hN (x1 - (10 : Int32)) q3 hq169) cv_X11_framesThat hx hb hml hl.1 Z hw (by decide) (by decide) (by omega) rfl rfl wd1157 rfl rfl (Nat.le_of_ble_eq_true rfl) (by decide) dX11_count_169 (fun H locs hw => ?_)
    obtain ⟨rfl, rfl⟩ := Prod.mk.inj (Option.some.inj hf)
    exact z_iret hx hb hr hlk hw dX11_count_172
  have hf := (if_neg c7_10).symm.trans hf
  by_cases c7_11 : x1 = 11
  · have hf := (if_pos c7_11).symm.trans hf
    refine z_sw c7_11 ?_
    refine lv_tableIn (tgt := 164) hx hb dX11_count_7 (by decide) (by decide) rfl (by decide) ?_
    refine lv_aload_n hx hb dX11_count_164 rfl (lv_at hl 0 rfl) ?_
    refine lv_iload_n hx hb dX11_count_165 rfl (lv_at hl 1 rfl) ?_
    refine lv_bipush (v := (10 : Int32)) hx hb dX11_count_166 (by decide) ?_
    refine lv_isub hx hb dX11_count_168 ?_
    obtain ⟨q169, hq169, hf⟩ := ob_some hf
    refine z_callVi (o := 70) (ci := 9) (As := [.int (x1 - (10 : Int32))]) (rest := []) (t_X11_framesThat G l hN (x1 - (10 : Int32)) q3 hq169) cv_X11_framesThat hx hb hml hl.1 Z hw (by decide) (by decide) (by omega) rfl rfl wd1157 rfl rfl (Nat.le_of_ble_eq_true rfl) (by decide) dX11_count_169 (fun H locs hw => ?_)
    obtain ⟨rfl, rfl⟩ := Prod.mk.inj (Option.some.inj hf)
    exact z_iret hx hb hr hlk hw dX11_count_172
  have hf := (if_neg c7_11).symm.trans hf
  by_cases c7_12 : x1 = 12
  · have hf := (if_pos c7_12).symm.trans hf
    refine z_sw c7_12 ?_
    refine lv_tableIn (tgt := 164) hx hb dX11_count_7 (by decide) (by decide) rfl (by decide) ?_
    refine lv_aload_n hx hb dX11_count_164 rfl (lv_at hl 0 rfl) ?_
    refine lv_iload_n hx hb dX11_count_165 rfl (lv_at hl 1 rfl) ?_
    refine lv_bipush (v := (10 : Int32)) hx hb dX11_count_166 (by decide) ?_
    refine lv_isub hx hb dX11_count_168 ?_
    obtain ⟨q169, hq169, hf⟩ := ob_some hf
    refine z_callVi (o := 70) (ci := 9) (As := [.int (x1 - (10 : Int32))]) (rest := []) (t_X11_framesThat G l hN (x1 - (10 : Int32)) q3 hq169) cv_X11_framesThat hx hb hml hl.1 Z hw (by decide) (by decide) (by omega) rfl rfl wd1157 rfl rfl (Nat.le_of_ble_eq_true rfl) (by decide) dX11_count_169 (fun H locs hw => ?_)
    obtain ⟨rfl, rfl⟩ := Prod.mk.inj (Option.some.inj hf)
    exact z_iret hx hb hr hlk hw dX11_count_172
  have hf := (if_neg c7_12).symm.trans hf
  by_cases c7_13 : x1 = 13
  · have hf := (if_pos c7_13).symm.trans hf
    refine z_sw c7_13 ?_
    refine lv_tableIn (tgt := 164) hx hb dX11_count_7 (by decide) (by decide) rfl (by decide) ?_
    refine lv_aload_n hx hb dX11_count_164 rfl (lv_at hl 0 rfl) ?_
    refine lv_iload_n hx hb dX11_count_165 rfl (lv_at hl 1 rfl) ?_
    refine lv_bipush (v := (10 : Int32)) hx hb dX11_count_166 (by decide) ?_
    refine lv_isub hx hb dX11_count_168 ?_
    obtain ⟨q169, hq169, hf⟩ := ob_some hf
    refine z_callVi (o := 70) (ci := 9) (As := [.int (x1 - (10 : Int32))]) (rest := []) (t_X11_framesThat G l hN (x1 - (10 : Int32)) q3 hq169) cv_X11_framesThat hx hb hml hl.1 Z hw (by decide) (by decide) (by omega) rfl rfl wd1157 rfl rfl (Nat.le_of_ble_eq_true rfl) (by decide) dX11_count_169 (fun H locs hw => ?_)
    obtain ⟨rfl, rfl⟩ := Prod.mk.inj (Option.some.inj hf)
    exact z_iret hx hb hr hlk hw dX11_count_172
  have hf := (if_neg c7_13).symm.trans hf
  by_cases c7_14 : x1 = 14
  · have hf := (if_pos c7_14).symm.trans hf
    refine z_sw c7_14 ?_
    refine lv_tableIn (tgt := 173) hx hb dX11_count_7 (by decide) (by decide) rfl (by decide) ?_
    refine lv_aload_n hx hb dX11_count_173 rfl (lv_at hl 0 rfl) ?_
    refine z_getr (o := 70) (o2 := 71) (C := RX11) (T := TX11) (N := 11) (ci := 9) (k := 0) hx hb Z hw (by decide) (by omega) rfl inX11 (by decide) rfl wd875 dX11_count_174 ?_
    refine lv_bipush (v := (45 : Int32)) hx hb dX11_count_177 (by decide) ?_
    refine y_iald (o := 71) (k := 45) hx hb Z hw (by decide) (by omega) (by decide) (inB_vp (by decide)) dX11_count_179 ?_
    obtain ⟨rfl, rfl⟩ := Prod.mk.inj (Option.some.inj hf)
    exact z_iret hx hb hr hlk hw dX11_count_180
  have hf := (if_neg c7_14).symm.trans hf
  by_cases c7_15 : x1 = 15
  · have hf := (if_pos c7_15).symm.trans hf
    refine z_sw c7_15 ?_
    refine lv_tableIn (tgt := 181) hx hb dX11_count_7 (by decide) (by decide) rfl (by decide) ?_
    refine lv_aload_n hx hb dX11_count_181 rfl (lv_at hl 0 rfl) ?_
    refine z_geti (o := 70) (C := RX11) (T := TX11) (N := 11) (ci := 9) (k := 3) hx hb Z hw (by decide) (by omega) rfl inX11 (by decide) wd878 dX11_count_182 ?_
    obtain ⟨rfl, rfl⟩ := Prod.mk.inj (Option.some.inj hf)
    exact z_iret hx hb hr hlk hw dX11_count_185
  have hf := (if_neg c7_15).symm.trans hf
  by_cases c7_16 : x1 = 16
  · have hf := (if_pos c7_16).symm.trans hf
    refine z_sw c7_16 ?_
    refine lv_tableIn (tgt := 186) hx hb dX11_count_7 (by decide) (by decide) rfl (by decide) ?_
    refine lv_aload_n hx hb dX11_count_186 rfl (lv_at hl 0 rfl) ?_
    refine z_geti (o := 70) (C := RX11) (T := TX11) (N := 11) (ci := 9) (k := 7) hx hb Z hw (by decide) (by omega) rfl inX11 (by decide) wd882 dX11_count_187 ?_
    obtain ⟨rfl, rfl⟩ := Prod.mk.inj (Option.some.inj hf)
    exact z_iret hx hb hr hlk hw dX11_count_190
  have hf := (if_neg c7_16).symm.trans hf
  by_cases c7_17 : x1 = 17
  · have hf := (if_pos c7_17).symm.trans hf
    refine z_sw c7_17 ?_
    refine lv_tableIn (tgt := 191) hx hb dX11_count_7 (by decide) (by decide) rfl (by decide) ?_
    refine lv_aload_n hx hb dX11_count_191 rfl (lv_at hl 0 rfl) ?_
    refine z_getr (o := 70) (o2 := 71) (C := RX11) (T := TX11) (N := 11) (ci := 9) (k := 0) hx hb Z hw (by decide) (by omega) rfl inX11 (by decide) rfl wd875 dX11_count_192 ?_
    refine lv_iload_n hx hb dX11_count_195 rfl (lv_at hl 1 rfl) ?_
    refine lv_bipush (v := (17 : Int32)) hx hb dX11_count_196 (by decide) ?_
    refine lv_isub hx hb dX11_count_198 ?_
    obtain ⟨h199, hf⟩ := gd_some hf
    refine y_iald (o := 71) (k := (x1 - (17 : Int32)).toNatClampNeg) hx hb Z hw (by decide) (by omega) rfl (inB_vp h199) dX11_count_199 ?_
    obtain ⟨rfl, rfl⟩ := Prod.mk.inj (Option.some.inj hf)
    exact z_iret hx hb hr hlk hw dX11_count_200
  have hf := (if_neg c7_17).symm.trans hf
  by_cases c7_18 : x1 = 18
  · have hf := (if_pos c7_18).symm.trans hf
    refine z_sw c7_18 ?_
    refine lv_tableIn (tgt := 191) hx hb dX11_count_7 (by decide) (by decide) rfl (by decide) ?_
    refine lv_aload_n hx hb dX11_count_191 rfl (lv_at hl 0 rfl) ?_
    refine z_getr (o := 70) (o2 := 71) (C := RX11) (T := TX11) (N := 11) (ci := 9) (k := 0) hx hb Z hw (by decide) (by omega) rfl inX11 (by decide) rfl wd875 dX11_count_192 ?_
    refine lv_iload_n hx hb dX11_count_195 rfl (lv_at hl 1 rfl) ?_
    refine lv_bipush (v := (17 : Int32)) hx hb dX11_count_196 (by decide) ?_
    refine lv_isub hx hb dX11_count_198 ?_
    obtain ⟨h199, hf⟩ := gd_some hf
    refine y_iald (o := 71) (k := (x1 - (17 : Int32)).toNatClampNeg) hx hb Z hw (by decide) (by omega) rfl (inB_vp h199) dX11_count_199 ?_
    obtain ⟨rfl, rfl⟩ := Prod.mk.inj (Option.some.inj hf)
    exact z_iret hx hb hr hlk hw dX11_count_200
  have hf := (if_neg c7_18).symm.trans hf
  by_cases c7_19 : x1 = 19
  · have hf := (if_pos c7_19).symm.trans hf
    refine z_sw c7_19 ?_
    refine lv_tableIn (tgt := 191) hx hb dX11_count_7 (by decide) (by decide) rfl (by decide) ?_
    refine lv_aload_n hx hb dX11_count_191 rfl (lv_at hl 0 rfl) ?_
    refine z_getr (o := 70) (o2 := 71) (C := RX11) (T := TX11) (N := 11) (ci := 9) (k := 0) hx hb Z hw (by decide) (by omega) rfl inX11 (by decide) rfl wd875 dX11_count_192 ?_
    refine lv_iload_n hx hb dX11_count_195 rfl (lv_at hl 1 rfl) ?_
    refine lv_bipush (v := (17 : Int32)) hx hb dX11_count_196 (by decide) ?_
    refine lv_isub hx hb dX11_count_198 ?_
    obtain ⟨h199, hf⟩ := gd_some hf
    refine y_iald (o := 71) (k := (x1 - (17 : Int32)).toNatClampNeg) hx hb Z hw (by decide) (by omega) rfl (inB_vp h199) dX11_count_199 ?_
    obtain ⟨rfl, rfl⟩ := Prod.mk.inj (Option.some.inj hf)
    exact z_iret hx hb hr hlk hw dX11_count_200
  have hf := (if_neg c7_19).symm.trans hf
  by_cases c7_20 : x1 = 20
  · have hf := (if_pos c7_20).symm.trans hf
    refine z_sw c7_20 ?_
    refine lv_tableIn (tgt := 191) hx hb dX11_count_7 (by decide) (by decide) rfl (by decide) ?_
    refine lv_aload_n hx hb dX11_count_191 rfl (lv_at hl 0 rfl) ?_
    refine z_getr (o := 70) (o2 := 71) (C := RX11) (T := TX11) (N := 11) (ci := 9) (k := 0) hx hb Z hw (by decide) (by omega) rfl inX11 (by decide) rfl wd875 dX11_count_192 ?_
    refine lv_iload_n hx hb dX11_count_195 rfl (lv_at hl 1 rfl) ?_
    refine lv_bipush (v := (17 : Int32)) hx hb dX11_count_196 (by decide) ?_
    refine lv_isub hx hb dX11_count_198 ?_
    obtain ⟨h199, hf⟩ := gd_some hf
    refine y_iald (o := 71) (k := (x1 - (17 : Int32)).toNatClampNeg) hx hb Z hw (by decide) (by omega) rfl (inB_vp h199) dX11_count_199 ?_
    obtain ⟨rfl, rfl⟩ := Prod.mk.inj (Option.some.inj hf)
    exact z_iret hx hb hr hlk hw dX11_count_200
  have hf := (if_neg c7_20).symm.trans hf
  by_cases c7_21 : x1 = 21
  · have hf := (if_pos c7_21).symm.trans hf
    refine z_sw c7_21 ?_
    refine lv_tableIn (tgt := 191) hx hb dX11_count_7 (by decide) (by decide) rfl (by decide) ?_
    refine lv_aload_n hx hb dX11_count_191 rfl (lv_at hl 0 rfl) ?_
    refine z_getr (o := 70) (o2 := 71) (C := RX11) (T := TX11) (N := 11) (ci := 9) (k := 0) hx hb Z hw (by decide) (by omega) rfl inX11 (by decide) rfl wd875 dX11_count_192 ?_
    refine lv_iload_n hx hb dX11_count_195 rfl (lv_at hl 1 rfl) ?_
    refine lv_bipush (v := (17 : Int32)) hx hb dX11_count_196 (by decide) ?_
    refine lv_isub hx hb dX11_count_198 ?_
    obtain ⟨h199, hf⟩ := gd_some hf
    refine y_iald (o := 71) (k := (x1 - (17 : Int32)).toNatClampNeg) hx hb Z hw (by decide) (by omega) rfl (inB_vp h199) dX11_count_199 ?_
    obtain ⟨rfl, rfl⟩ := Prod.mk.inj (Option.some.inj hf)
    exact z_iret hx hb hr hlk hw dX11_count_200
  have hf := (if_neg c7_21).symm.trans hf
  by_cases c7_22 : x1 = 22
  · have hf := (if_pos c7_22).symm.trans hf
    refine z_sw c7_22 ?_
    refine lv_tableIn (tgt := 191) hx hb dX11_count_7 (by decide) (by decide) rfl (by decide) ?_
    refine lv_aload_n hx hb dX11_count_191 rfl (lv_at hl 0 rfl) ?_
    refine z_getr (o := 70) (o2 := 71) (C := RX11) (T := TX11) (N := 11) (ci := 9) (k := 0) hx hb Z hw (by decide) (by omega) rfl inX11 (by decide) rfl wd875 dX11_count_192 ?_
    refine lv_iload_n hx hb dX11_count_195 rfl (lv_at hl 1 rfl) ?_
    refine lv_bipush (v := (17 : Int32)) hx hb dX11_count_196 (by decide) ?_
    refine lv_isub hx hb dX11_count_198 ?_
    obtain ⟨h199, hf⟩ := gd_some hf
    refine y_iald (o := 71) (k := (x1 - (17 : Int32)).toNatClampNeg) hx hb Z hw (by decide) (by omega) rfl (inB_vp h199) dX11_count_199 ?_
    obtain ⟨rfl, rfl⟩ := Prod.mk.inj (Option.some.inj hf)
    exact z_iret hx hb hr hlk hw dX11_count_200
  have hf := (if_neg c7_22).symm.trans hf
  refine lv_tableOut (tgt := 201) hx hb dX11_count_7 (by have := [0]; have e0 := sw_ne (k := 0) (by decide) c7_0; have e1 := sw_ne (k := 1) (by decide) c7_1; have e2 := sw_ne (k := 2) (by decide) c7_2; have e3 := sw_ne (k := 3) (by decide) c7_3; have e4 := sw_ne (k := 4) (by decide) c7_4; have e5 := sw_ne (k := 5) (by decide) c7_5; have e6 := sw_ne (k := 6) (by decide) c7_6; have e7 := sw_ne (k := 7) (by decide) c7_7; have e8 := sw_ne (k := 8) (by decide) c7_8; have e9 := sw_ne (k := 9) (by decide) c7_9; have e10 := sw_ne (k := 10) (by decide) c7_10; have e11 := sw_ne (k := 11) (by decide) c7_11; have e12 := sw_ne (k := 12) (by decide) c7_12; have e13 := sw_ne (k := 13) (by decide) c7_13; have e14 := sw_ne (k := 14) (by decide) c7_14; have e15 := sw_ne (k := 15) (by decide) c7_15; have e16 := sw_ne (k := 16) (by decide) c7_16; have e17 := sw_ne (k := 17) (by decide) c7_17; have e18 := sw_ne (k := 18) (by decide) c7_18; have e19 := sw_ne (k := 19) (by decide) c7_19; have e20 := sw_ne (k := 20) (by decide) c7_20; have e21 := sw_ne (k := 21) (by decide) c7_21; have e22 := sw_ne (k := 22) (by decide) c7_22; omega) (by decide) ?_
  refine lv_bipush (v := (-2 : Int32)) hx hb dX11_count_201 (by decide) ?_
  obtain ⟨rfl, rfl⟩ := Prod.mk.inj (Option.some.inj hf)
  exact z_iret hx hb hr hlk hw dX11_count_203
set_option maxHeartbeats 4000000 in
set_option maxRecDepth 100000 in
theorem w_X11_right_L39 (G : GM) (l : Launch) (hN : 77 ≤ gN G)  {p : Program} {e : Env} {s : State} {m : MethodId} {args : Array Value} {below : List Frame} {meth : Method} {c : Code} (hx : p.tables.exec = Jvm.exec) (hb : c.code = cX11_right) (hr : meth.sig.returnType = (some .double)) (hlk : meth.locks = false) (hml : c.maxLocals = 6) (Z : ZK G s args m RX11) : ∀ (n : Nat) (x3 : Int32) (x4 : Int32) (x5 : Int32)  (h : HP) (v1 : Int32) (v2 : Int32) (rv : Option Value) (hq : HP) (ls : Array Slot) (H : Heap) (locs : List Loc) {q : Int32}, lv_has ls 6 [(0, .ref (ra G 70)), (1, .int v1), (2, .int v2), (3, .int x3), (4, .int x4), (5, .int x5)] → HW G h s H locs → f_X11_right_L39 n x3 x4 x5 h = some q → (∀ (ls : Array Slot) (H : Heap) (locs : List Loc), lv_has ls 6 [(0, .ref (ra G 70)), (1, .int v1), (2, .int v2), (3, .int x3), (4, .int q)] → HW G h s H locs → WZ p l e 6 s m args below meth c G rv hq H locs (F0 m 80 ls [])) → WZ p l e 6 s m args below meth c G rv hq H locs (F0 m 39 ls []) := by
  intro n
  induction n with
  | zero => intro x3 x4 x5  h v1 v2 rv hq ls H locs q hl hw hf kk; cases hf
  | succ n ih =>
    intro x3 x4 x5  h v1 v2 rv hq ls H locs q hl hw hf kk
    rw [f_X11_right_L39] at hf
    refine lv_iload hx hb dX11_right_39 (lv_at hl 5 rfl) ?_
    refine lv_iconst (v := (4 : Int32)) hx hb dX11_right_41 (by decide) ?_
    refine lv_icmp_ge (tgt := 80) hx hb dX11_right_42 (by decide) (fun c42 => ?_) (fun c42 => ?_)
    · have hf := (if_pos c42).symm.trans hf
      obtain rfl := Option.some.inj hf
      exact kk ls H locs (lv_sub hl [0, 1, 2, 3, 4] rfl) hw
    · have hf := (if_neg c42).symm.trans hf
      refine lv_iload hx hb dX11_right_45 (lv_at hl 4 rfl) ?_
      refine lv_if_eq (tgt := 80) hx hb dX11_right_47 (by decide) (fun c47 => ?_) (fun c47 => ?_)
      · have hf := (if_pos c47).symm.trans hf
        obtain rfl := Option.some.inj hf
        exact kk ls H locs (lv_sub hl [0, 1, 2, 3, 4] rfl) hw
      · have hf := (if_neg c47).symm.trans hf
        refine lv_aload_n hx hb dX11_right_50 rfl (lv_at hl 0 rfl) ?_
        refine lv_iload_n hx hb dX11_right_51 rfl (lv_at hl 3 rfl) ?_
        refine lv_iload hx hb dX11_right_52 (lv_at hl 5 rfl) ?_
        obtain ⟨q54, hq54, hf⟩ := ob_some hf
        refine z_callVi (o := 70) (ci := 9) (As := [.int x3, .int x5]) (rest := []) (t_X11_toldSymbol G l hN x3 x5 h hq54) cv_X11_toldSymbol hx hb hml hl.1 Z hw (by decide) (by decide) (by omega) rfl rfl wd1141 rfl rfl (Nat.le_of_ble_eq_true rfl) (by decide) dX11_right_54 (fun H locs hw => ?_)
        refine lv_aload_n hx hb dX11_right_57 rfl (lv_at hl 0 rfl) ?_
        refine lv_iload_n hx hb dX11_right_58 rfl (lv_at hl 3 rfl) ?_
        refine lv_iload hx hb dX11_right_59 (lv_at hl 5 rfl) ?_
        obtain ⟨q61, hq61, hf⟩ := ob_some hf
        refine z_callVi (o := 70) (ci := 9) (As := [.int x3, .int x5]) (rest := [.int q54]) (t_X11_symbolOf G l hN x3 x5 h hq61) cv_X11_symbolOf hx hb hml hl.1 Z hw (by decide) (by decide) (by omega) rfl rfl wd1119 rfl rfl (Nat.le_of_ble_eq_true rfl) (by decide) dX11_right_61 (fun H locs hw => ?_)
        have HJ72 : ∀ (ls : Array Slot) (H : Heap) (locs : List Loc), lv_has ls 6 [(0, .ref (ra G 70)), (1, .int v1), (2, .int v2), (3, .int x3), (5, .int x5)] → HW G h s H locs → WZ p l e 6 s m args below meth c G rv hq H locs (F0 m 72 ls [.int (if q54 = q61 then (1 : Int32) else (0 : Int32))]) := by
          intro ls H locs hl hw
          obtain ⟨v72, hqv72, hf⟩ := tb_ex hf
          refine z_top hqv72 ?_
          refine lv_istore (lv' := [(4, _), (0, _), (1, _), (2, _), (3, _), (5, _)]) hx hb dX11_right_72 hl (by decide) rfl (fun ls hl => ?_)
          refine lv_iinc (v := x5 + (1 : Int32)) (lv' := [(5, _), (4, _), (0, _), (1, _), (2, _), (3, _)]) hx hb dX11_right_74 hl (k := 5) rfl rfl (by decide) rfl (fun ls hl => ?_)
          refine lv_goto (tgt := 39) hx hb dX11_right_77 (by decide) ?_
          exact ih x3 v72 (x5 + (1 : Int32)) h v1 v2 rv hq ls H locs (lv_sub hl [2, 3, 4, 5, 1, 0] rfl) hw hf kk
        refine lv_icmp_ne (tgt := 71) hx hb dX11_right_64 (by decide) (fun c64 => ?_) (fun c64 => ?_)
        · skip
          refine lv_iconst (v := (0 : Int32)) hx hb dX11_right_71 (by decide) ?_
          refine W.eq (g2 := F0 m 72 ls [.int (if q54 = q61 then (1 : Int32) else (0 : Int32))]) ?_ (HJ72 ls H locs (lv_sub hl [0, 1, 2, 3, 5] rfl) hw)
          simp only [if_neg c64]
        · skip
          refine lv_iconst (v := (1 : Int32)) hx hb dX11_right_67 (by decide) ?_
          refine lv_goto (tgt := 72) hx hb dX11_right_68 (by decide) ?_
          refine W.eq (g2 := F0 m 72 ls [.int (if q54 = q61 then (1 : Int32) else (0 : Int32))]) ?_ (HJ72 ls H locs (lv_sub hl [0, 1, 2, 3, 5] rfl) hw)
          simp only [if_pos c64]
set_option maxHeartbeats 4000000 in
set_option maxRecDepth 100000 in
theorem w_X11_right_L12 (G : GM) (l : Launch) (hN : 77 ≤ gN G)  {p : Program} {e : Env} {s : State} {m : MethodId} {args : Array Value} {below : List Frame} {meth : Method} {c : Code} (hx : p.tables.exec = Jvm.exec) (hb : c.code = cX11_right) (hr : meth.sig.returnType = (some .double)) (hlk : meth.locks = false) (hml : c.maxLocals = 6) (Z : ZK G s args m RX11) : ∀ (n : Nat) (x1 : Int32) (x2 : Int32) (x3 : Int32)  (h : HP)  (rv : Option Value) (hq : HP) (ls : Array Slot) (H : Heap) (locs : List Loc) {q : Int32 × Int32}, lv_has ls 6 [(0, .ref (ra G 70)), (1, .int x1), (2, .int x2), (3, .int x3)] → HW G h s H locs → f_X11_right_L12 n x1 x2 x3 h = some q → (∀ (ls : Array Slot) (H : Heap) (locs : List Loc), lv_has ls 6 [(1, .int q.1), (2, .int q.2)] → HW G h s H locs → WZ p l e 6 s m args below meth c G rv hq H locs (F0 m 121 ls [])) → WZ p l e 6 s m args below meth c G rv hq H locs (F0 m 12 ls []) := by
  intro n
  induction n with
  | zero => intro x1 x2 x3  h  rv hq ls H locs q hl hw hf kk; cases hf
  | succ n ih =>
    intro x1 x2 x3  h  rv hq ls H locs q hl hw hf kk
    rw [f_X11_right_L12] at hf
    refine lv_iload_n hx hb dX11_right_12 rfl (lv_at hl 3 rfl) ?_
    refine lv_aload_n hx hb dX11_right_13 rfl (lv_at hl 0 rfl) ?_
    refine z_callVi (o := 70) (ci := 9) (As := []) (rest := [.int x3]) (t_X11_frames G l hN  h) cv_X11_frames hx hb hml hl.1 Z hw (by decide) (by decide) (by omega) rfl rfl wd926 rfl rfl (Nat.le_of_ble_eq_true rfl) (by decide) dX11_right_14 (fun H locs hw => ?_)
    refine lv_icmp_ge (tgt := 121) hx hb dX11_right_17 (by decide) (fun c17 => ?_) (fun c17 => ?_)
    · have hf := (if_pos c17).symm.trans hf
      obtain rfl := Option.some.inj hf
      exact kk ls H locs (lv_sub hl [1, 2] rfl) hw
    · have hf := (if_neg c17).symm.trans hf
      refine lv_aload_n hx hb dX11_right_20 rfl (lv_at hl 0 rfl) ?_
      refine lv_iload_n hx hb dX11_right_21 rfl (lv_at hl 3 rfl) ?_
      obtain ⟨q22, hq22, hf⟩ := ob_some hf
      refine z_callVi (o := 70) (ci := 9) (As := [.int x3]) (rest := []) (t_X11_how G l hN x3 h hq22) cv_X11_how hx hb hml hl.1 Z hw (by decide) (by decide) (by omega) rfl rfl wd1104 rfl rfl (Nat.le_of_ble_eq_true rfl) (by decide) dX11_right_22 (fun H locs hw => ?_)
      refine lv_iconst (v := (3 : Int32)) hx hb dX11_right_25 (by decide) ?_
      have HJ34 : ∀ (ls : Array Slot) (H : Heap) (locs : List Loc), lv_has ls 6 [(0, .ref (ra G 70)), (1, .int x1), (2, .int x2), (3, .int x3)] → HW G h s H locs → WZ p l e 6 s m args below meth c G rv hq H locs (F0 m 34 ls [.int (if (3 : Int32) ≤ q22 then (0 : Int32) else (1 : Int32))]) := by
        intro ls H locs hl hw
        obtain ⟨v34, hqv34, hf⟩ := tb_ex hf
        refine z_top hqv34 ?_
        refine lv_istore (lv' := [(4, _), (0, _), (1, _), (2, _), (3, _)]) hx hb dX11_right_34 hl (by decide) rfl (fun ls hl => ?_)
        refine lv_iconst (v := (0 : Int32)) hx hb dX11_right_36 (by decide) ?_
        refine lv_istore (lv' := [(5, _), (4, _), (0, _), (1, _), (2, _), (3, _)]) hx hb dX11_right_37 hl (by decide) rfl (fun ls hl => ?_)
        obtain ⟨q39, hq39, hf⟩ := ob_some hf
        refine w_X11_right_L39 G l hN  hx hb hr hlk hml Z FU x3 v34 (0 : Int32) h x1 x2 _ _ ls H locs (lv_sub hl [2, 3, 4, 5, 1, 0] rfl) hw hq39 (fun ls H locs hl hw => ?_)
        refine lv_iload_n hx hb dX11_right_80 rfl (lv_at hl 1 rfl) ?_
        refine lv_iload_n hx hb dX11_right_81 rfl (lv_at hl 3 rfl) ?_
        refine z_callSi (As := [.int x3]) (rest := [.int x1]) (t_X11_isCheck G l hN x3 h) cs_X11_isCheck hx hb hml hl.1 Z hw wd937 rfl rfl (Nat.le_of_ble_eq_true rfl) (by decide) dX11_right_82 (fun H locs hw => ?_)
        have HJ93 : ∀ (ls : Array Slot) (H : Heap) (locs : List Loc), lv_has ls 6 [(0, .ref (ra G 70)), (2, .int x2), (3, .int x3), (4, .int q39)] → HW G h s H locs → WZ p l e 6 s m args below meth c G rv hq H locs (F0 m 93 ls [.int (if (f_X11_isCheck x3 h) = 0 then (1 : Int32) else (0 : Int32)), .int x1]) := by
          intro ls H locs hl hw
          refine lv_iadd hx hb dX11_right_93 ?_
          obtain ⟨v94, hqv94, hf⟩ := tb_ex hf
          refine z_top hqv94 ?_
          refine lv_istore_n (lv' := [(1, _), (0, _), (2, _), (3, _), (4, _)]) hx hb dX11_right_94 rfl hl (by decide) rfl (fun ls hl => ?_)
          refine lv_iload_n hx hb dX11_right_95 rfl (lv_at hl 2 rfl) ?_
          refine lv_iload hx hb dX11_right_96 (lv_at hl 4 rfl) ?_
          have HJ113 : ∀ (ls : Array Slot) (H : Heap) (locs : List Loc), lv_has ls 6 [(0, .ref (ra G 70)), (1, .int v94), (3, .int x3)] → HW G h s H locs → WZ p l e 6 s m args below meth c G rv hq H locs (F0 m 113 ls [.int (if q39 = 0 then (0 : Int32) else (if (f_X11_isCheck x3 h) = 0 then (1 : Int32) else (0 : Int32))), .int x2]) := by
            intro ls H locs hl hw
            refine lv_iadd hx hb dX11_right_113 ?_
            obtain ⟨v114, hqv114, hf⟩ := tb_ex hf
            refine z_top hqv114 ?_
            refine lv_istore_n (lv' := [(2, _), (0, _), (1, _), (3, _)]) hx hb dX11_right_114 rfl hl (by decide) rfl (fun ls hl => ?_)
            refine lv_iinc (v := x3 + (1 : Int32)) (lv' := [(3, _), (2, _), (0, _), (1, _)]) hx hb dX11_right_115 hl (k := 3) rfl rfl (by decide) rfl (fun ls hl => ?_)
            refine lv_goto (tgt := 12) hx hb dX11_right_118 (by decide) ?_
            exact ih v94 v114 (x3 + (1 : Int32)) h  rv hq ls H locs (lv_sub hl [2, 3, 1, 0] rfl) hw hf kk
          refine lv_if_eq (tgt := 112) hx hb dX11_right_98 (by decide) (fun c98 => ?_) (fun c98 => ?_)
          · skip
            refine lv_iconst (v := (0 : Int32)) hx hb dX11_right_112 (by decide) ?_
            refine W.eq (g2 := F0 m 113 ls [.int (if q39 = 0 then (0 : Int32) else (if (f_X11_isCheck x3 h) = 0 then (1 : Int32) else (0 : Int32))), .int x2]) ?_ (HJ113 ls H locs (lv_sub hl [1, 0, 3] rfl) hw)
            simp only [if_pos c98]
          · skip
            refine lv_iload_n hx hb dX11_right_101 rfl (lv_at hl 3 rfl) ?_
            refine z_callSi (As := [.int x3]) (rest := [.int x2]) (t_X11_isCheck G l hN x3 h) cs_X11_isCheck hx hb hml hl.1 Z hw wd937 rfl rfl (Nat.le_of_ble_eq_true rfl) (by decide) dX11_right_102 (fun H locs hw => ?_)
            refine lv_if_ne (tgt := 112) hx hb dX11_right_105 (by decide) (fun c105 => ?_) (fun c105 => ?_)
            · skip
              refine lv_iconst (v := (0 : Int32)) hx hb dX11_right_112 (by decide) ?_
              refine W.eq (g2 := F0 m 113 ls [.int (if q39 = 0 then (0 : Int32) else (if (f_X11_isCheck x3 h) = 0 then (1 : Int32) else (0 : Int32))), .int x2]) ?_ (HJ113 ls H locs (lv_sub hl [1, 0, 3] rfl) hw)
              simp only [if_neg c98, if_neg c105]
            · skip
              refine lv_iconst (v := (1 : Int32)) hx hb dX11_right_108 (by decide) ?_
              refine lv_goto (tgt := 113) hx hb dX11_right_109 (by decide) ?_
              refine W.eq (g2 := F0 m 113 ls [.int (if q39 = 0 then (0 : Int32) else (if (f_X11_isCheck x3 h) = 0 then (1 : Int32) else (0 : Int32))), .int x2]) ?_ (HJ113 ls H locs (lv_sub hl [1, 0, 3] rfl) hw)
              simp only [if_neg c98, if_pos c105]
        refine lv_if_eq (tgt := 92) hx hb dX11_right_85 (by decide) (fun c85 => ?_) (fun c85 => ?_)
        · skip
          refine lv_iconst (v := (1 : Int32)) hx hb dX11_right_92 (by decide) ?_
          refine W.eq (g2 := F0 m 93 ls [.int (if (f_X11_isCheck x3 h) = 0 then (1 : Int32) else (0 : Int32)), .int x1]) ?_ (HJ93 ls H locs (lv_sub hl [0, 2, 3, 4] rfl) hw)
          simp only [if_pos c85]
        · skip
          refine lv_iconst (v := (0 : Int32)) hx hb dX11_right_88 (by decide) ?_
          refine lv_goto (tgt := 93) hx hb dX11_right_89 (by decide) ?_
          refine W.eq (g2 := F0 m 93 ls [.int (if (f_X11_isCheck x3 h) = 0 then (1 : Int32) else (0 : Int32)), .int x1]) ?_ (HJ93 ls H locs (lv_sub hl [0, 2, 3, 4] rfl) hw)
          simp only [if_neg c85]
      refine lv_icmp_ge (tgt := 33) hx hb dX11_right_26 (by decide) (fun c26 => ?_) (fun c26 => ?_)
      · skip
        refine lv_iconst (v := (0 : Int32)) hx hb dX11_right_33 (by decide) ?_
        refine W.eq (g2 := F0 m 34 ls [.int (if (3 : Int32) ≤ q22 then (0 : Int32) else (1 : Int32))]) ?_ (HJ34 ls H locs (lv_sub hl [0, 1, 2, 3] rfl) hw)
        simp only [if_pos c26]
      · skip
        refine lv_iconst (v := (1 : Int32)) hx hb dX11_right_29 (by decide) ?_
        refine lv_goto (tgt := 34) hx hb dX11_right_30 (by decide) ?_
        refine W.eq (g2 := F0 m 34 ls [.int (if (3 : Int32) ≤ q22 then (0 : Int32) else (1 : Int32))]) ?_ (HJ34 ls H locs (lv_sub hl [0, 1, 2, 3] rfl) hw)
        simp only [if_neg c26]
set_option maxHeartbeats 4000000 in
set_option maxRecDepth 100000 in
theorem t_X11_right (G : GM) (l : Launch) (hN : 77 ≤ gN G)  (h : HP) {r : UInt64} {h' : HP} (hf : f_X11_right  h = some (r, h')) : MC G l yX11_right cX11_right 6 (some .double) 6 [.ref (ra G 70)] h h' (some (.double r)) := by
  unfold f_X11_right at hf
  refine z_start (by decide) (Nat.le_of_ble_eq_true rfl) ?_
  intro p e s m args below meth c ls hx hb hr hlk hml Z hw hl
  have Z : ZK G s args m RX11 := Z
  have hl : lv_has ls 6 [(0, .ref (ra G 70))] := hl
  obtain ⟨H, hH⟩ : ∃ H, H = s.heap := ⟨_, rfl⟩
  rw [← hH] at hw ⊢
  obtain ⟨locs, hlc⟩ : ∃ locs : List Loc, locs = [] := ⟨_, rfl⟩
  rw [← hlc] at hw ⊢
  refine lv_aload_n hx hb dX11_right_0 rfl (lv_at hl 0 rfl) ?_
  refine lv_bipush (v := (-5 : Int32)) hx hb dX11_right_1 (by decide) ?_
  obtain ⟨q3, hq3, hf⟩ := ob_some hf
  refine z_callVv (o := 70) (ci := 9) (As := [.int (-5 : Int32)]) (rest := []) (t_X11_lay G l hN (-5 : Int32) h hq3) cv_X11_lay hx hb hml hl.1 Z hw (by decide) (by decide) (by omega) rfl rfl wd971 rfl rfl (Nat.le_of_ble_eq_true rfl) (by decide) dX11_right_3 (fun H locs hw => ?_)
  refine lv_iconst (v := (0 : Int32)) hx hb dX11_right_6 (by decide) ?_
  refine lv_istore_n (lv' := [(1, _), (0, _)]) hx hb dX11_right_7 rfl hl (by decide) rfl (fun ls hl => ?_)
  refine lv_iconst (v := (0 : Int32)) hx hb dX11_right_8 (by decide) ?_
  refine lv_istore_n (lv' := [(2, _), (1, _), (0, _)]) hx hb dX11_right_9 rfl hl (by decide) rfl (fun ls hl => ?_)
  refine lv_iconst (v := (0 : Int32)) hx hb dX11_right_10 (by decide) ?_
  refine lv_istore_n (lv' := [(3, _), (2, _), (1, _), (0, _)]) hx hb dX11_right_11 rfl hl (by decide) rfl (fun ls hl => ?_)
  obtain ⟨q12, hq12, hf⟩ := ob_some hf
  refine w_X11_right_L12 G l hN  hx hb hr hlk hml Z FU (0 : Int32) (0 : Int32) (0 : Int32) q3  _ _ ls H locs (lv_sub hl [3, 2, 1, 0] rfl) hw hq12 (fun ls H locs hl hw => ?_)
  refine lv_iload_n hx hb dX11_right_121 rfl (lv_at hl 1 rfl) ?_
  refine lv_i2d hx hb dX11_right_122 ?_
  refine lv_iload_n hx hb dX11_right_123 rfl (lv_at hl 0 rfl) ?_
  refine lv_i2d hx hb dX11_right_124 ?_
  obtain ⟨h125, hf⟩ := gd_some hf
  refine lv_ddiv hx hb dX11_right_125 (dok_n h125) ?_
  obtain ⟨rfl, rfl⟩ := Prod.mk.inj (Option.some.inj hf)
  exact z_dret hx hb hr hlk hw dX11_right_126
set_option maxHeartbeats 4000000 in
set_option maxRecDepth 100000 in
theorem t_X11_ifSought (G : GM) (l : Launch) (hN : 77 ≤ gN G) (x1 : Int32) (x2 : Int32) (h : HP) {r : Int32} {h' : HP} (hf : f_X11_ifSought x1 x2 h = some (r, h')) : MC G l yX11_ifSought cX11_ifSought 5 (some .int) 4 [.ref (ra G 70), .int x1, .int x2] h h' (some (.int r)) := by
  unfold f_X11_ifSought at hf
  refine z_start (by decide) (Nat.le_of_ble_eq_true rfl) ?_
  intro p e s m args below meth c ls hx hb hr hlk hml Z hw hl
  have Z : ZK G s args m RX11 := Z
  have hl : lv_has ls 5 [(0, .ref (ra G 70)), (1, .int x1), (2, .int x2)] := hl
  obtain ⟨H, hH⟩ : ∃ H, H = s.heap := ⟨_, rfl⟩
  rw [← hH] at hw ⊢
  obtain ⟨locs, hlc⟩ : ∃ locs : List Loc, locs = [] := ⟨_, rfl⟩
  rw [← hlc] at hw ⊢
  refine lv_aload_n hx hb dX11_ifSought_0 rfl (lv_at hl 0 rfl) ?_
  refine lv_iload_n hx hb dX11_ifSought_1 rfl (lv_at hl 1 rfl) ?_
  refine z_callVi (o := 70) (ci := 9) (As := [.int x1]) (rest := []) (t_X11_isFrame G l hN x1 h) cv_X11_isFrame hx hb hml hl.1 Z hw (by decide) (by decide) (by omega) rfl rfl wd922 rfl rfl (Nat.le_of_ble_eq_true rfl) (by decide) dX11_ifSought_2 (fun H locs hw => ?_)
  refine lv_if_ne (tgt := 10) hx hb dX11_ifSought_5 (by decide) (fun c5 => ?_) (fun c5 => ?_)
  · have hf := (if_neg c5).symm.trans hf
    refine lv_iload_n hx hb dX11_ifSought_10 rfl (lv_at hl 2 rfl) ?_
    refine lv_iconst (v := (0 : Int32)) hx hb dX11_ifSought_11 (by decide) ?_
    refine lv_iconst (v := (1 : Int32)) hx hb dX11_ifSought_12 (by decide) ?_
    refine z_callSi (As := [.int x2, .int (0 : Int32), .int (1 : Int32)]) (rest := []) (t_X11_in G l hN x2 (0 : Int32) (1 : Int32) h) cs_X11_in hx hb hml hl.1 Z hw wd934 rfl rfl (Nat.le_of_ble_eq_true rfl) (by decide) dX11_ifSought_13 (fun H locs hw => ?_)
    refine lv_if_ne (tgt := 22) hx hb dX11_ifSought_16 (by decide) (fun c16 => ?_) (fun c16 => ?_)
    · have hf := (if_neg c16).symm.trans hf
      refine lv_aload_n hx hb dX11_ifSought_22 rfl (lv_at hl 0 rfl) ?_
      obtain ⟨q23, hq23, hf⟩ := ob_some hf
      refine z_callVv (o := 70) (ci := 9) (As := []) (rest := []) (t_X11_putAside G l hN  h hq23) cv_X11_putAside hx hb hml hl.1 Z hw (by decide) (by decide) (by omega) rfl rfl wd914 rfl rfl (Nat.le_of_ble_eq_true rfl) (by decide) dX11_ifSought_23 (fun H locs hw => ?_)
      refine lv_aload_n hx hb dX11_ifSought_26 rfl (lv_at hl 0 rfl) ?_
      refine lv_iload_n hx hb dX11_ifSought_27 rfl (lv_at hl 1 rfl) ?_
      obtain ⟨q28, hq28, hf⟩ := ob_some hf
      refine z_callVi (o := 70) (ci := 9) (As := [.int x1]) (rest := []) (t_X11_seeks G l hN x1 q23 hq28) cv_X11_seeks hx hb hml hl.1 Z hw (by decide) (by decide) (by omega) rfl rfl wd1028 rfl rfl (Nat.le_of_ble_eq_true rfl) (by decide) dX11_ifSought_28 (fun H locs hw => ?_)
      refine lv_istore_n (lv' := [(3, _), (0, _), (1, _), (2, _)]) hx hb dX11_ifSought_31 rfl hl (by decide) rfl (fun ls hl => ?_)
      refine lv_aload_n hx hb dX11_ifSought_32 rfl (lv_at hl 1 rfl) ?_
      refine z_getr (o := 70) (o2 := 71) (C := RX11) (T := TX11) (N := 11) (ci := 9) (k := 0) hx hb Z hw (by decide) (by omega) rfl inX11 (by decide) rfl wd875 dX11_ifSought_33 ?_
      refine lv_bipush (v := (11 : Int32)) hx hb dX11_ifSought_36 (by decide) ?_
      refine y_iald (o := 71) (k := 11) hx hb Z hw (by decide) (by omega) (by decide) (inB_vp (by decide)) dX11_ifSought_38 ?_
      refine lv_aload_n hx hb dX11_ifSought_39 rfl (lv_at hl 1 rfl) ?_
      refine z_getr (o := 70) (o2 := 72) (C := RX11) (T := TX11) (N := 11) (ci := 9) (k := 1) hx hb Z hw (by decide) (by omega) rfl inX11 (by decide) rfl wd876 dX11_ifSought_40 ?_
      refine lv_bipush (v := (11 : Int32)) hx hb dX11_ifSought_43 (by decide) ?_
      refine y_iald (o := 72) (k := 11) hx hb Z hw (by decide) (by omega) (by decide) (inB_vp (by decide)) dX11_ifSought_45 ?_
      refine lv_isub hx hb dX11_ifSought_46 ?_
      refine lv_istore (lv' := [(4, _), (3, _), (0, _), (1, _), (2, _)]) hx hb dX11_ifSought_47 hl (by decide) rfl (fun ls hl => ?_)
      refine lv_aload_n hx hb dX11_ifSought_49 rfl (lv_at hl 2 rfl) ?_
      obtain ⟨q50, hq50, hf⟩ := ob_some hf
      refine z_callVv (o := 70) (ci := 9) (As := []) (rest := []) (t_X11_putBack G l hN  q28.2 hq50) cv_X11_putBack hx hb hml hl.1 Z hw (by decide) (by decide) (by omega) rfl rfl wd955 rfl rfl (Nat.le_of_ble_eq_true rfl) (by decide) dX11_ifSought_50 (fun H locs hw => ?_)
      refine lv_iload_n hx hb dX11_ifSought_53 rfl (lv_at hl 4 rfl) ?_
      refine lv_if_ne (tgt := 61) hx hb dX11_ifSought_54 (by decide) (fun c54 => ?_) (fun c54 => ?_)
      · have hf := (if_neg c54).symm.trans hf
        refine lv_iload hx hb dX11_ifSought_61 (lv_at hl 0 rfl) ?_
        obtain ⟨rfl, rfl⟩ := Prod.mk.inj (Option.some.inj hf)
        exact z_iret hx hb hr hlk hw dX11_ifSought_63
      · have hf := (if_pos c54).symm.trans hf
        refine lv_iload_n hx hb dX11_ifSought_57 rfl (lv_at hl 1 rfl) ?_
        refine lv_goto (tgt := 63) hx hb dX11_ifSought_58 (by decide) ?_
        obtain ⟨rfl, rfl⟩ := Prod.mk.inj (Option.some.inj hf)
        exact z_iret hx hb hr hlk hw dX11_ifSought_63
    · have hf := (if_pos c16).symm.trans hf
      refine lv_bipush (v := (-2 : Int32)) hx hb dX11_ifSought_19 (by decide) ?_
      obtain ⟨rfl, rfl⟩ := Prod.mk.inj (Option.some.inj hf)
      exact z_iret hx hb hr hlk hw dX11_ifSought_21
  · have hf := (if_pos c5).symm.trans hf
    refine lv_iconst (v := (-1 : Int32)) hx hb dX11_ifSought_8 (by decide) ?_
    obtain ⟨rfl, rfl⟩ := Prod.mk.inj (Option.some.inj hf)
    exact z_iret hx hb hr hlk hw dX11_ifSought_9
