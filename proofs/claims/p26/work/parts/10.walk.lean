/-! walks (by program) -/
set_option maxHeartbeats 4000000 in
set_option maxRecDepth 100000 in
theorem t_X10_isPlace (G : GM) (l : Launch) (hN : 70 ≤ gN G) (x0 : Int32) (h : HP) : MC G l yX10_isPlace cX10_isPlace 1 (some .boolean) 0 [.int x0] h h (some (.int (f_X10_isPlace x0 h))) := by
  generalize hf : f_X10_isPlace x0 h = r
  unfold f_X10_isPlace at hf
  refine z_start (by decide) (Nat.le_of_ble_eq_true rfl) ?_
  intro p e s m args below meth c ls hx hb hr hlk hml Z hw hl
  have Z : ZK G s args m RX10 := Z
  have hl : lv_has ls 1 [(0, .int x0)] := hl
  obtain ⟨H, hH⟩ : ∃ H, H = s.heap := ⟨_, rfl⟩
  rw [← hH] at hw ⊢
  obtain ⟨locs, hlc⟩ : ∃ locs : List Loc, locs = [] := ⟨_, rfl⟩
  rw [← hlc] at hw ⊢
  refine lv_iload_n hx hb dX10_isPlace_0 rfl (lv_at hl 0 rfl) ?_
  refine lv_if_lt (tgt := 13) hx hb dX10_isPlace_1 (by decide) (fun c1 => ?_) (fun c1 => ?_)
  · have hf := (if_pos c1).symm.trans hf
    refine lv_iconst (v := (0 : Int32)) hx hb dX10_isPlace_13 (by decide) ?_
    obtain rfl := hf
    exact z_zret hx hb hr rfl hlk hw dX10_isPlace_14
  · have hf := (if_neg c1).symm.trans hf
    refine lv_iload_n hx hb dX10_isPlace_4 rfl (lv_at hl 0 rfl) ?_
    refine lv_iconst (v := (4 : Int32)) hx hb dX10_isPlace_5 (by decide) ?_
    refine lv_icmp_ge (tgt := 13) hx hb dX10_isPlace_6 (by decide) (fun c6 => ?_) (fun c6 => ?_)
    · have hf := (if_pos c6).symm.trans hf
      refine lv_iconst (v := (0 : Int32)) hx hb dX10_isPlace_13 (by decide) ?_
      obtain rfl := hf
      exact z_zret hx hb hr rfl hlk hw dX10_isPlace_14
    · have hf := (if_neg c6).symm.trans hf
      refine lv_iconst (v := (1 : Int32)) hx hb dX10_isPlace_9 (by decide) ?_
      refine lv_goto (tgt := 14) hx hb dX10_isPlace_10 (by decide) ?_
      obtain rfl := hf
      exact z_zret hx hb hr rfl hlk hw dX10_isPlace_14
set_option maxHeartbeats 4000000 in
set_option maxRecDepth 100000 in
theorem t_X5_firstOf (G : GM) (l : Launch) (hN : 70 ≤ gN G) (o0 : Nat) (k_o0 : kd o0 = 4) (n_o0 : o0 < gN G) (x1 : Int32) (h : HP) : MC G l yX5_firstOf cX5_firstOf 2 (some .int) 0 [.ref (ra G o0), .int x1] h h (some (.int (f_X5_firstOf o0 x1 h))) := by
  generalize hf : f_X5_firstOf o0 x1 h = r
  unfold f_X5_firstOf at hf
  refine z_start (by decide) (Nat.le_of_ble_eq_true rfl) ?_
  intro p e s m args below meth c ls hx hb hr hlk hml Z hw hl
  have Z : ZK G s args m RX5 := Z
  have hl : lv_has ls 2 [(0, .ref (ra G o0)), (1, .int x1)] := hl
  obtain ⟨H, hH⟩ : ∃ H, H = s.heap := ⟨_, rfl⟩
  rw [← hH] at hw ⊢
  obtain ⟨locs, hlc⟩ : ∃ locs : List Loc, locs = [] := ⟨_, rfl⟩
  rw [← hlc] at hw ⊢
  refine lv_aload_n hx hb dX5_firstOf_0 rfl (lv_at hl 0 rfl) ?_
  refine z_geti (o := o0) (C := RX5) (T := TX5) (N := 6) (ci := 4) (k := 0) hx hb Z hw k_o0 n_o0 rfl inX5 (by decide) wd56 dX5_firstOf_1 ?_
  refine lv_iload_n hx hb dX5_firstOf_4 rfl (lv_at hl 1 rfl) ?_
  refine lv_imul hx hb dX5_firstOf_5 ?_
  refine lv_aload_n hx hb dX5_firstOf_6 rfl (lv_at hl 0 rfl) ?_
  refine z_geti (o := o0) (C := RX5) (T := TX5) (N := 6) (ci := 4) (k := 1) hx hb Z hw k_o0 n_o0 rfl inX5 (by decide) wd57 dX5_firstOf_7 ?_
  refine lv_iload_n hx hb dX5_firstOf_10 rfl (lv_at hl 1 rfl) ?_
  refine lv_iload_n hx hb dX5_firstOf_11 rfl (lv_at hl 1 rfl) ?_
  refine lv_iconst (v := (1 : Int32)) hx hb dX5_firstOf_12 (by decide) ?_
  refine lv_isub hx hb dX5_firstOf_13 ?_
  refine lv_imul hx hb dX5_firstOf_14 ?_
  refine lv_iconst (v := (2 : Int32)) hx hb dX5_firstOf_15 (by decide) ?_
  refine lv_idiv hx hb dX5_firstOf_16 (by decide) ?_
  refine lv_imul hx hb dX5_firstOf_17 ?_
  refine lv_iadd hx hb dX5_firstOf_18 ?_
  obtain rfl := hf
  exact z_iret hx hb hr hlk hw dX5_firstOf_19
set_option maxHeartbeats 4000000 in
set_option maxRecDepth 100000 in
theorem t_X5_allFrames (G : GM) (l : Launch) (hN : 70 ≤ gN G) (o0 : Nat) (k_o0 : kd o0 = 4) (n_o0 : o0 < gN G) (h : HP) : MC G l yX5_allFrames cX5_allFrames 1 (some .int) 1 [.ref (ra G o0)] h h (some (.int (f_X5_allFrames o0 h))) := by
  generalize hf : f_X5_allFrames o0 h = r
  unfold f_X5_allFrames at hf
  refine z_start (by decide) (Nat.le_of_ble_eq_true rfl) ?_
  intro p e s m args below meth c ls hx hb hr hlk hml Z hw hl
  have Z : ZK G s args m RX5 := Z
  have hl : lv_has ls 1 [(0, .ref (ra G o0))] := hl
  obtain ⟨H, hH⟩ : ∃ H, H = s.heap := ⟨_, rfl⟩
  rw [← hH] at hw ⊢
  obtain ⟨locs, hlc⟩ : ∃ locs : List Loc, locs = [] := ⟨_, rfl⟩
  rw [← hlc] at hw ⊢
  refine lv_aload_n hx hb dX5_allFrames_0 rfl (lv_at hl 0 rfl) ?_
  refine lv_bipush (v := (30 : Int32)) hx hb dX5_allFrames_1 (by decide) ?_
  refine z_callVi (o := o0) (ci := 4) (As := [.int (30 : Int32)]) (rest := []) (t_X5_firstOf G l hN o0 k_o0 n_o0 (30 : Int32) h) cv_X5_firstOf hx hb hml hl.1 Z hw k_o0 (by decide) n_o0 rfl rfl wd330 rfl rfl (Nat.le_of_ble_eq_true rfl) (by decide) dX5_allFrames_3 (fun H locs hw => ?_)
  obtain rfl := hf
  exact z_iret hx hb hr hlk hw dX5_allFrames_6
set_option maxHeartbeats 4000000 in
set_option maxRecDepth 100000 in
theorem t_X5_hasFrame (G : GM) (l : Launch) (hN : 70 ≤ gN G) (o0 : Nat) (k_o0 : kd o0 = 4) (n_o0 : o0 < gN G) (x1 : Int32) (h : HP) : MC G l yX5_hasFrame cX5_hasFrame 2 (some .boolean) 2 [.ref (ra G o0), .int x1] h h (some (.int (f_X5_hasFrame o0 x1 h))) := by
  generalize hf : f_X5_hasFrame o0 x1 h = r
  unfold f_X5_hasFrame at hf
  refine z_start (by decide) (Nat.le_of_ble_eq_true rfl) ?_
  intro p e s m args below meth c ls hx hb hr hlk hml Z hw hl
  have Z : ZK G s args m RX5 := Z
  have hl : lv_has ls 2 [(0, .ref (ra G o0)), (1, .int x1)] := hl
  obtain ⟨H, hH⟩ : ∃ H, H = s.heap := ⟨_, rfl⟩
  rw [← hH] at hw ⊢
  obtain ⟨locs, hlc⟩ : ∃ locs : List Loc, locs = [] := ⟨_, rfl⟩
  rw [← hlc] at hw ⊢
  refine lv_iload_n hx hb dX5_hasFrame_0 rfl (lv_at hl 1 rfl) ?_
  refine lv_if_lt (tgt := 16) hx hb dX5_hasFrame_1 (by decide) (fun c1 => ?_) (fun c1 => ?_)
  · have hf := (if_pos c1).symm.trans hf
    refine lv_iconst (v := (0 : Int32)) hx hb dX5_hasFrame_16 (by decide) ?_
    obtain rfl := hf
    exact z_zret hx hb hr rfl hlk hw dX5_hasFrame_17
  · have hf := (if_neg c1).symm.trans hf
    refine lv_iload_n hx hb dX5_hasFrame_4 rfl (lv_at hl 1 rfl) ?_
    refine lv_aload_n hx hb dX5_hasFrame_5 rfl (lv_at hl 0 rfl) ?_
    refine z_callVi (o := o0) (ci := 4) (As := []) (rest := [.int x1]) (t_X5_allFrames G l hN o0 k_o0 n_o0 h) cv_X5_allFrames hx hb hml hl.1 Z hw k_o0 (by decide) n_o0 rfl rfl wd338 rfl rfl (Nat.le_of_ble_eq_true rfl) (by decide) dX5_hasFrame_6 (fun H locs hw => ?_)
    refine lv_icmp_ge (tgt := 16) hx hb dX5_hasFrame_9 (by decide) (fun c9 => ?_) (fun c9 => ?_)
    · have hf := (if_pos c9).symm.trans hf
      refine lv_iconst (v := (0 : Int32)) hx hb dX5_hasFrame_16 (by decide) ?_
      obtain rfl := hf
      exact z_zret hx hb hr rfl hlk hw dX5_hasFrame_17
    · have hf := (if_neg c9).symm.trans hf
      refine lv_iconst (v := (1 : Int32)) hx hb dX5_hasFrame_12 (by decide) ?_
      refine lv_goto (tgt := 17) hx hb dX5_hasFrame_13 (by decide) ?_
      obtain rfl := hf
      exact z_zret hx hb hr rfl hlk hw dX5_hasFrame_17
set_option maxHeartbeats 4000000 in
set_option maxRecDepth 100000 in
theorem t_X5_isCheck (G : GM) (l : Launch) (hN : 70 ≤ gN G) (x0 : Int32) (h : HP) : MC G l yX5_isCheck cX5_isCheck 1 (some .boolean) 0 [.int x0] h h (some (.int (f_X5_isCheck x0 h))) := by
  generalize hf : f_X5_isCheck x0 h = r
  unfold f_X5_isCheck at hf
  refine z_start (by decide) (Nat.le_of_ble_eq_true rfl) ?_
  intro p e s m args below meth c ls hx hb hr hlk hml Z hw hl
  have Z : ZK G s args m RX5 := Z
  have hl : lv_has ls 1 [(0, .int x0)] := hl
  obtain ⟨H, hH⟩ : ∃ H, H = s.heap := ⟨_, rfl⟩
  rw [← hH] at hw ⊢
  obtain ⟨locs, hlc⟩ : ∃ locs : List Loc, locs = [] := ⟨_, rfl⟩
  rw [← hlc] at hw ⊢
  refine lv_iload_n hx hb dX5_isCheck_0 rfl (lv_at hl 0 rfl) ?_
  refine lv_iconst (v := (5 : Int32)) hx hb dX5_isCheck_1 (by decide) ?_
  refine z_irem hx hb dX5_isCheck_2 (by decide) ?_
  refine lv_iconst (v := (4 : Int32)) hx hb dX5_isCheck_3 (by decide) ?_
  refine lv_icmp_ne (tgt := 11) hx hb dX5_isCheck_4 (by decide) (fun c4 => ?_) (fun c4 => ?_)
  · have hf := (if_neg c4).symm.trans hf
    refine lv_iconst (v := (0 : Int32)) hx hb dX5_isCheck_11 (by decide) ?_
    obtain rfl := hf
    exact z_zret hx hb hr rfl hlk hw dX5_isCheck_12
  · have hf := (if_pos c4).symm.trans hf
    refine lv_iconst (v := (1 : Int32)) hx hb dX5_isCheck_7 (by decide) ?_
    refine lv_goto (tgt := 12) hx hb dX5_isCheck_8 (by decide) ?_
    obtain rfl := hf
    exact z_zret hx hb hr rfl hlk hw dX5_isCheck_12
set_option maxHeartbeats 4000000 in
set_option maxRecDepth 100000 in
theorem t_X8_atFirst (G : GM) (l : Launch) (hN : 70 ≤ gN G) (x0 : Int32) (x1 : Int32) (h : HP) : MC G l yX8_atFirst cX8_atFirst 2 (some .int) 0 [.int x0, .int x1] h h (some (.int (f_X8_atFirst x0 x1 h))) := by
  generalize hf : f_X8_atFirst x0 x1 h = r
  unfold f_X8_atFirst at hf
  refine z_start (by decide) (Nat.le_of_ble_eq_true rfl) ?_
  intro p e s m args below meth c ls hx hb hr hlk hml Z hw hl
  have Z : ZK G s args m RX8 := Z
  have hl : lv_has ls 2 [(0, .int x0), (1, .int x1)] := hl
  obtain ⟨H, hH⟩ : ∃ H, H = s.heap := ⟨_, rfl⟩
  rw [← hH] at hw ⊢
  obtain ⟨locs, hlc⟩ : ∃ locs : List Loc, locs = [] := ⟨_, rfl⟩
  rw [← hlc] at hw ⊢
  refine lv_bipush (v := (7 : Int32)) hx hb dX8_atFirst_0 (by decide) ?_
  refine lv_iload_n hx hb dX8_atFirst_2 rfl (lv_at hl 0 rfl) ?_
  refine lv_imul hx hb dX8_atFirst_3 ?_
  refine lv_iconst (v := (3 : Int32)) hx hb dX8_atFirst_4 (by decide) ?_
  refine lv_iload_n hx hb dX8_atFirst_5 rfl (lv_at hl 1 rfl) ?_
  refine lv_imul hx hb dX8_atFirst_6 ?_
  refine lv_iadd hx hb dX8_atFirst_7 ?_
  refine lv_bipush (v := (16 : Int32)) hx hb dX8_atFirst_8 (by decide) ?_
  refine z_irem hx hb dX8_atFirst_10 (by decide) ?_
  obtain rfl := hf
  exact z_iret hx hb hr hlk hw dX8_atFirst_11
set_option maxHeartbeats 4000000 in
set_option maxRecDepth 100000 in
theorem w_X8_indexOf_L2 (G : GM) (l : Launch) (hN : 70 ≤ gN G) (o0 : Nat) (k_o0 : kd o0 = 7) (n_o0 : o0 < gN G) {p : Program} {e : Env} {s : State} {m : MethodId} {args : Array Value} {below : List Frame} {meth : Method} {c : Code} (hx : p.tables.exec = Jvm.exec) (hb : c.code = cX8_indexOf) (hr : meth.sig.returnType = (some .int)) (hlk : meth.locks = false) (hml : c.maxLocals = 3) (Z : ZK G s args m RX8) : ∀ (n : Nat) (x1 : Int32) (x2 : Int32)  (h : HP) (r : Int32) (ls : Array Slot) (H : Heap) (locs : List Loc), lv_has ls 3 [(0, .ref (ra G o0)), (1, .int x1), (2, .int x2)] → HW G h s H locs → f_X8_indexOf_L2 n o0 x1 x2 h = some r → WZ p l e 0 s m args below meth c G (some (.int r)) h H locs (F0 m 2 ls []) := by
  intro n
  induction n with
  | zero => intro x1 x2  h r ls H locs hl hw hf; cases hf
  | succ n ih =>
    intro x1 x2  h r ls H locs hl hw hf
    rw [f_X8_indexOf_L2] at hf
    refine lv_iload_n hx hb dX8_indexOf_2 rfl (lv_at hl 2 rfl) ?_
    refine lv_aload_n hx hb dX8_indexOf_3 rfl (lv_at hl 0 rfl) ?_
    refine z_geti (o := o0) (C := RX8) (T := TX8) (N := 3) (ci := 7) (k := 2) hx hb Z hw k_o0 n_o0 rfl inX8 (by decide) wd103 dX8_indexOf_4 ?_
    refine lv_icmp_ge (tgt := 37) hx hb dX8_indexOf_7 (by decide) (fun c7 => ?_) (fun c7 => ?_)
    · have hf := (if_pos c7).symm.trans hf
      refine lv_iconst (v := (-1 : Int32)) hx hb dX8_indexOf_37 (by decide) ?_
      obtain rfl := Option.some.inj hf
      exact z_iret hx hb hr hlk hw dX8_indexOf_38
    · have hf := (if_neg c7).symm.trans hf
      refine lv_iload_n hx hb dX8_indexOf_10 rfl (lv_at hl 2 rfl) ?_
      refine lv_aload_n hx hb dX8_indexOf_11 rfl (lv_at hl 0 rfl) ?_
      refine z_getr (o := o0) (o2 := o0 + 1) (C := RX8) (T := TX8) (N := 3) (ci := 7) (k := 0) hx hb Z hw k_o0 n_o0 rfl inX8 (by decide) rfl wd101 dX8_indexOf_12 ?_
      refine z_alen (o := o0 + 1) (v := (40 : Int32)) hx hb Z hw (by rw [kd_Y_1 k_o0]; decide) (by have := kd_Y_n k_o0; omega) (by rw [ln_Y_1 k_o0]; decide) dX8_indexOf_15 ?_
      refine lv_icmp_ge (tgt := 37) hx hb dX8_indexOf_16 (by decide) (fun c16 => ?_) (fun c16 => ?_)
      · have hf := (if_pos c16).symm.trans hf
        refine lv_iconst (v := (-1 : Int32)) hx hb dX8_indexOf_37 (by decide) ?_
        obtain rfl := Option.some.inj hf
        exact z_iret hx hb hr hlk hw dX8_indexOf_38
      · have hf := (if_neg c16).symm.trans hf
        refine lv_aload_n hx hb dX8_indexOf_19 rfl (lv_at hl 0 rfl) ?_
        refine z_getr (o := o0) (o2 := o0 + 1) (C := RX8) (T := TX8) (N := 3) (ci := 7) (k := 0) hx hb Z hw k_o0 n_o0 rfl inX8 (by decide) rfl wd101 dX8_indexOf_20 ?_
        refine lv_iload_n hx hb dX8_indexOf_23 rfl (lv_at hl 2 rfl) ?_
        obtain ⟨h24, hf⟩ := gd_some hf
        refine y_iald (o := o0 + 1) (k := x2.toNatClampNeg) hx hb Z hw (kd_Y_1 k_o0) (by have := kd_Y_n k_o0; omega) rfl (by rw [ln_Y_1 k_o0]; exact (inB_vp h24)) dX8_indexOf_24 ?_
        refine lv_iload_n hx hb dX8_indexOf_25 rfl (lv_at hl 1 rfl) ?_
        refine lv_icmp_ne (tgt := 31) hx hb dX8_indexOf_26 (by decide) (fun c26 => ?_) (fun c26 => ?_)
        · have hf := (if_neg c26).symm.trans hf
          refine lv_iinc (v := x2 + (1 : Int32)) (lv' := [(2, _), (0, _), (1, _)]) hx hb dX8_indexOf_31 hl (k := 2) rfl rfl (by decide) rfl (fun ls hl => ?_)
          refine lv_goto (tgt := 2) hx hb dX8_indexOf_34 (by decide) ?_
          exact ih x1 (x2 + (1 : Int32)) h r ls H locs (lv_sub hl [1, 2, 0] rfl) hw hf
        · have hf := (if_pos c26).symm.trans hf
          refine lv_iload_n hx hb dX8_indexOf_29 rfl (lv_at hl 2 rfl) ?_
          obtain rfl := Option.some.inj hf
          exact z_iret hx hb hr hlk hw dX8_indexOf_30
set_option maxHeartbeats 4000000 in
set_option maxRecDepth 100000 in
theorem t_X8_indexOf (G : GM) (l : Launch) (hN : 70 ≤ gN G) (o0 : Nat) (k_o0 : kd o0 = 7) (n_o0 : o0 < gN G) (x1 : Int32) (h : HP) {r : Int32} (hf : f_X8_indexOf o0 x1 h = some r) : MC G l yX8_indexOf cX8_indexOf 3 (some .int) 0 [.ref (ra G o0), .int x1] h h (some (.int r)) := by
  unfold f_X8_indexOf at hf
  refine z_start (by decide) (Nat.le_of_ble_eq_true rfl) ?_
  intro p e s m args below meth c ls hx hb hr hlk hml Z hw hl
  have Z : ZK G s args m RX8 := Z
  have hl : lv_has ls 3 [(0, .ref (ra G o0)), (1, .int x1)] := hl
  obtain ⟨H, hH⟩ : ∃ H, H = s.heap := ⟨_, rfl⟩
  rw [← hH] at hw ⊢
  obtain ⟨locs, hlc⟩ : ∃ locs : List Loc, locs = [] := ⟨_, rfl⟩
  rw [← hlc] at hw ⊢
  refine lv_iconst (v := (0 : Int32)) hx hb dX8_indexOf_0 (by decide) ?_
  refine lv_istore_n (lv' := [(2, _), (0, _), (1, _)]) hx hb dX8_indexOf_1 rfl hl (by decide) rfl (fun ls hl => ?_)
  exact w_X8_indexOf_L2 G l hN o0 k_o0 n_o0 hx hb hr hlk hml Z FU x1 (0 : Int32) h _ ls H locs (lv_sub hl [1, 2, 0] rfl) hw hf
set_option maxHeartbeats 4000000 in
set_option maxRecDepth 100000 in
theorem t_X8_dataAt (G : GM) (l : Launch) (hN : 70 ≤ gN G) (o0 : Nat) (k_o0 : kd o0 = 7) (n_o0 : o0 < gN G) (x1 : Int32) (x2 : Int32) (h : HP) {r : Int32} (hf : f_X8_dataAt o0 x1 x2 h = some r) : MC G l yX8_dataAt cX8_dataAt 4 (some .int) 1 [.ref (ra G o0), .int x1, .int x2] h h (some (.int r)) := by
  unfold f_X8_dataAt at hf
  refine z_start (by decide) (Nat.le_of_ble_eq_true rfl) ?_
  intro p e s m args below meth c ls hx hb hr hlk hml Z hw hl
  have Z : ZK G s args m RX8 := Z
  have hl : lv_has ls 4 [(0, .ref (ra G o0)), (1, .int x1), (2, .int x2)] := hl
  obtain ⟨H, hH⟩ : ∃ H, H = s.heap := ⟨_, rfl⟩
  rw [← hH] at hw ⊢
  obtain ⟨locs, hlc⟩ : ∃ locs : List Loc, locs = [] := ⟨_, rfl⟩
  rw [← hlc] at hw ⊢
  refine lv_aload_n hx hb dX8_dataAt_0 rfl (lv_at hl 0 rfl) ?_
  refine lv_iload_n hx hb dX8_dataAt_1 rfl (lv_at hl 1 rfl) ?_
  refine lv_iconst (v := (4 : Int32)) hx hb dX8_dataAt_2 (by decide) ?_
  refine lv_imul hx hb dX8_dataAt_3 ?_
  refine lv_iload_n hx hb dX8_dataAt_4 rfl (lv_at hl 2 rfl) ?_
  refine lv_iadd hx hb dX8_dataAt_5 ?_
  obtain ⟨q6, hq6, hf⟩ := ob_some hf
  refine z_callVi (o := o0) (ci := 7) (As := [.int ((x1 * (4 : Int32)) + x2)]) (rest := []) (t_X8_indexOf G l hN o0 k_o0 n_o0 ((x1 * (4 : Int32)) + x2) h hq6) cv_X8_indexOf hx hb hml hl.1 Z hw k_o0 (by decide) n_o0 rfl rfl wd502 rfl rfl (Nat.le_of_ble_eq_true rfl) (by decide) dX8_dataAt_6 (fun H locs hw => ?_)
  refine lv_istore_n (lv' := [(3, _), (0, _), (1, _), (2, _)]) hx hb dX8_dataAt_9 rfl hl (by decide) rfl (fun ls hl => ?_)
  refine lv_iload_n hx hb dX8_dataAt_10 rfl (lv_at hl 0 rfl) ?_
  refine lv_if_ge (tgt := 22) hx hb dX8_dataAt_11 (by decide) (fun c11 => ?_) (fun c11 => ?_)
  · have hf := (if_pos c11).symm.trans hf
    refine lv_aload_n hx hb dX8_dataAt_22 rfl (lv_at hl 1 rfl) ?_
    refine z_getr (o := o0) (o2 := o0 + 2) (C := RX8) (T := TX8) (N := 3) (ci := 7) (k := 1) hx hb Z hw k_o0 n_o0 rfl inX8 (by decide) rfl wd102 dX8_dataAt_23 ?_
    refine lv_iload_n hx hb dX8_dataAt_26 rfl (lv_at hl 0 rfl) ?_
    refine z_callNi (As := [.ref (ra G (o0 + 2)), .int q6]) (rest := []) (t_X10_at G l hN (o0 + 2) (kd_Y_2 k_o0) (by have := kd_Y_n k_o0; omega) q6 h) cs_X10_at hx hb hml hl.1 Z hw wd509 rfl rfl (Nat.le_of_ble_eq_true rfl) (by decide) dX8_dataAt_27 (fun H locs hw => ?_)
    obtain rfl := Option.some.inj hf
    exact z_iret hx hb hr hlk hw dX8_dataAt_30
  · have hf := (if_neg c11).symm.trans hf
    refine lv_iload_n hx hb dX8_dataAt_14 rfl (lv_at hl 2 rfl) ?_
    refine lv_iload_n hx hb dX8_dataAt_15 rfl (lv_at hl 3 rfl) ?_
    refine z_callSi (As := [.int x1, .int x2]) (rest := []) (t_X8_atFirst G l hN x1 x2 h) cs_X8_atFirst hx hb hml hl.1 Z hw wd506 rfl rfl (Nat.le_of_ble_eq_true rfl) (by decide) dX8_dataAt_16 (fun H locs hw => ?_)
    refine lv_goto (tgt := 30) hx hb dX8_dataAt_19 (by decide) ?_
    obtain rfl := Option.some.inj hf
    exact z_iret hx hb hr hlk hw dX8_dataAt_30
set_option maxHeartbeats 4000000 in
set_option maxRecDepth 100000 in
theorem w_X8_standsAt_L23 (G : GM) (l : Launch) (hN : 70 ≤ gN G) (o0 : Nat) (k_o0 : kd o0 = 7) (n_o0 : o0 < gN G) {p : Program} {e : Env} {s : State} {m : MethodId} {args : Array Value} {below : List Frame} {meth : Method} {c : Code} (hx : p.tables.exec = Jvm.exec) (hb : c.code = cX8_standsAt) (hr : meth.sig.returnType = (some .int)) (hlk : meth.locks = false) (hml : c.maxLocals = 5) (Z : ZK G s args m RX8) : ∀ (n : Nat) (x1 : Int32) (x2 : Int32) (x3 : Int32) (x4 : Int32)  (h : HP)  (rv : Option Value) (hq : HP) (ls : Array Slot) (H : Heap) (locs : List Loc) {q : Int32}, lv_has ls 5 [(0, .ref (ra G o0)), (1, .int x1), (2, .int x2), (3, .int x3), (4, .int x4)] → HW G h s H locs → f_X8_standsAt_L23 n o0 x1 x2 x3 x4 h = some q → (∀ (ls : Array Slot) (H : Heap) (locs : List Loc), lv_has ls 5 [(3, .int q)] → HW G h s H locs → WZ p l e 2 s m args below meth c G rv hq H locs (F0 m 45 ls [])) → WZ p l e 2 s m args below meth c G rv hq H locs (F0 m 23 ls []) := by
  intro n
  induction n with
  | zero => intro x1 x2 x3 x4  h  rv hq ls H locs q hl hw hf kk; cases hf
  | succ n ih =>
    intro x1 x2 x3 x4  h  rv hq ls H locs q hl hw hf kk
    rw [f_X8_standsAt_L23] at hf
    refine lv_iload hx hb dX8_standsAt_23 (lv_at hl 4 rfl) ?_
    refine lv_iload_n hx hb dX8_standsAt_25 rfl (lv_at hl 1 rfl) ?_
    refine lv_icmp_ge (tgt := 45) hx hb dX8_standsAt_26 (by decide) (fun c26 => ?_) (fun c26 => ?_)
    · have hf := (if_pos c26).symm.trans hf
      obtain rfl := Option.some.inj hf
      exact kk ls H locs (lv_sub hl [3] rfl) hw
    · have hf := (if_neg c26).symm.trans hf
      refine lv_iload_n hx hb dX8_standsAt_29 rfl (lv_at hl 3 rfl) ?_
      refine lv_aload_n hx hb dX8_standsAt_30 rfl (lv_at hl 0 rfl) ?_
      refine lv_iload hx hb dX8_standsAt_31 (lv_at hl 4 rfl) ?_
      refine lv_iload_n hx hb dX8_standsAt_33 rfl (lv_at hl 2 rfl) ?_
      obtain ⟨q34, hq34, hf⟩ := ob_some hf
      refine z_callVi (o := o0) (ci := 7) (As := [.int x4, .int x2]) (rest := [.int x3]) (t_X8_dataAt G l hN o0 k_o0 n_o0 x4 x2 h hq34) cv_X8_dataAt hx hb hml hl.1 Z hw k_o0 (by decide) n_o0 rfl rfl wd498 rfl rfl (Nat.le_of_ble_eq_true rfl) (by decide) dX8_standsAt_34 (fun H locs hw => ?_)
      refine lv_iadd hx hb dX8_standsAt_37 ?_
      refine lv_istore_n (lv' := [(3, _), (0, _), (1, _), (2, _), (4, _)]) hx hb dX8_standsAt_38 rfl hl (by decide) rfl (fun ls hl => ?_)
      refine lv_iinc (v := x4 + (1 : Int32)) (lv' := [(4, _), (3, _), (0, _), (1, _), (2, _)]) hx hb dX8_standsAt_39 hl (k := 4) rfl rfl (by decide) rfl (fun ls hl => ?_)
      refine lv_goto (tgt := 23) hx hb dX8_standsAt_42 (by decide) ?_
      exact ih x1 x2 (x3 + q34) (x4 + (1 : Int32)) h  rv hq ls H locs (lv_sub hl [2, 3, 4, 1, 0] rfl) hw hf kk
set_option maxHeartbeats 4000000 in
set_option maxRecDepth 100000 in
theorem t_X8_standsAt (G : GM) (l : Launch) (hN : 70 ≤ gN G) (o0 : Nat) (k_o0 : kd o0 = 7) (n_o0 : o0 < gN G) (x1 : Int32) (x2 : Int32) (h : HP) {r : Int32} (hf : f_X8_standsAt o0 x1 x2 h = some r) : MC G l yX8_standsAt cX8_standsAt 5 (some .int) 2 [.ref (ra G o0), .int x1, .int x2] h h (some (.int r)) := by
  unfold f_X8_standsAt at hf
  refine z_start (by decide) (Nat.le_of_ble_eq_true rfl) ?_
  intro p e s m args below meth c ls hx hb hr hlk hml Z hw hl
  have Z : ZK G s args m RX8 := Z
  have hl : lv_has ls 5 [(0, .ref (ra G o0)), (1, .int x1), (2, .int x2)] := hl
  obtain ⟨H, hH⟩ : ∃ H, H = s.heap := ⟨_, rfl⟩
  rw [← hH] at hw ⊢
  obtain ⟨locs, hlc⟩ : ∃ locs : List Loc, locs = [] := ⟨_, rfl⟩
  rw [← hlc] at hw ⊢
  refine lv_iload_n hx hb dX8_standsAt_0 rfl (lv_at hl 1 rfl) ?_
  refine z_callSi (As := [.int x1]) (rest := []) (t_X5_isCheck G l hN x1 h) cs_X5_isCheck hx hb hml hl.1 Z hw wd497 rfl rfl (Nat.le_of_ble_eq_true rfl) (by decide) dX8_standsAt_1 (fun H locs hw => ?_)
  refine lv_if_ne (tgt := 14) hx hb dX8_standsAt_4 (by decide) (fun c4 => ?_) (fun c4 => ?_)
  · have hf := (if_neg c4).symm.trans hf
    refine lv_iconst (v := (0 : Int32)) hx hb dX8_standsAt_14 (by decide) ?_
    refine lv_istore_n (lv' := [(3, _), (0, _), (1, _), (2, _)]) hx hb dX8_standsAt_15 rfl hl (by decide) rfl (fun ls hl => ?_)
    refine lv_iload_n hx hb dX8_standsAt_16 rfl (lv_at hl 2 rfl) ?_
    refine lv_iconst (v := (5 : Int32)) hx hb dX8_standsAt_17 (by decide) ?_
    refine lv_isub hx hb dX8_standsAt_18 ?_
    refine lv_iconst (v := (1 : Int32)) hx hb dX8_standsAt_19 (by decide) ?_
    refine lv_iadd hx hb dX8_standsAt_20 ?_
    refine lv_istore (lv' := [(4, _), (3, _), (0, _), (1, _), (2, _)]) hx hb dX8_standsAt_21 hl (by decide) rfl (fun ls hl => ?_)
    obtain ⟨q23, hq23, hf⟩ := ob_some hf
    refine w_X8_standsAt_L23 G l hN o0 k_o0 n_o0 hx hb hr hlk hml Z FU x1 x2 (0 : Int32) ((x1 - (5 : Int32)) + (1 : Int32)) h  _ _ ls H locs (lv_sub hl [2, 3, 4, 1, 0] rfl) hw hq23 (fun ls H locs hl hw => ?_)
    refine lv_iload_n hx hb dX8_standsAt_45 rfl (lv_at hl 0 rfl) ?_
    refine lv_bipush (v := (16 : Int32)) hx hb dX8_standsAt_46 (by decide) ?_
    refine z_irem hx hb dX8_standsAt_48 (by decide) ?_
    obtain rfl := Option.some.inj hf
    exact z_iret hx hb hr hlk hw dX8_standsAt_49
  · have hf := (if_pos c4).symm.trans hf
    refine lv_aload_n hx hb dX8_standsAt_7 rfl (lv_at hl 0 rfl) ?_
    refine lv_iload_n hx hb dX8_standsAt_8 rfl (lv_at hl 1 rfl) ?_
    refine lv_iload_n hx hb dX8_standsAt_9 rfl (lv_at hl 2 rfl) ?_
    obtain ⟨q10, hq10, hf⟩ := ob_some hf
    refine z_callVi (o := o0) (ci := 7) (As := [.int x1, .int x2]) (rest := []) (t_X8_dataAt G l hN o0 k_o0 n_o0 x1 x2 h hq10) cv_X8_dataAt hx hb hml hl.1 Z hw k_o0 (by decide) n_o0 rfl rfl wd498 rfl rfl (Nat.le_of_ble_eq_true rfl) (by decide) dX8_standsAt_10 (fun H locs hw => ?_)
    obtain rfl := Option.some.inj hf
    exact z_iret hx hb hr hlk hw dX8_standsAt_13
set_option maxHeartbeats 4000000 in
set_option maxRecDepth 100000 in
theorem t_X8_drop (G : GM) (l : Launch) (hN : 70 ≤ gN G) (o0 : Nat) (k_o0 : kd o0 = 7) (n_o0 : o0 < gN G) (x1 : Int32) (h : HP) {h' : HP} (hf : f_X8_drop o0 x1 h = h') : MC G l yX8_drop cX8_drop 2 none 1 [.ref (ra G o0), .int x1] h h' none := by
  unfold f_X8_drop at hf
  refine z_start (by decide) (Nat.le_of_ble_eq_true rfl) ?_
  intro p e s m args below meth c ls hx hb hr hlk hml Z hw hl
  have Z : ZK G s args m RX8 := Z
  have hl : lv_has ls 2 [(0, .ref (ra G o0)), (1, .int x1)] := hl
  obtain ⟨H, hH⟩ : ∃ H, H = s.heap := ⟨_, rfl⟩
  rw [← hH] at hw ⊢
  obtain ⟨locs, hlc⟩ : ∃ locs : List Loc, locs = [] := ⟨_, rfl⟩
  rw [← hlc] at hw ⊢
  refine lv_iload_n hx hb dX8_drop_0 rfl (lv_at hl 1 rfl) ?_
  refine lv_if_lt (tgt := 12) hx hb dX8_drop_1 (by decide) (fun c1 => ?_) (fun c1 => ?_)
  · have hf := (if_pos c1).symm.trans hf
    obtain rfl := hf
    exact z_vret hx hb hr hlk hw dX8_drop_12
  · have hf := (if_neg c1).symm.trans hf
    refine lv_iload_n hx hb dX8_drop_4 rfl (lv_at hl 1 rfl) ?_
    refine lv_aload_n hx hb dX8_drop_5 rfl (lv_at hl 0 rfl) ?_
    refine z_geti (o := o0) (C := RX8) (T := TX8) (N := 3) (ci := 7) (k := 2) hx hb Z hw k_o0 n_o0 rfl inX8 (by decide) wd103 dX8_drop_6 ?_
    refine lv_icmp_lt (tgt := 13) hx hb dX8_drop_9 (by decide) (fun c9 => ?_) (fun c9 => ?_)
    · have hf := (if_pos c9).symm.trans hf
      refine lv_aload_n hx hb dX8_drop_13 rfl (lv_at hl 0 rfl) ?_
      refine lv_dup hx hb dX8_drop_14 rfl ?_
      refine z_geti (o := o0) (C := RX8) (T := TX8) (N := 3) (ci := 7) (k := 2) hx hb Z hw k_o0 n_o0 rfl inX8 (by decide) wd103 dX8_drop_15 ?_
      refine lv_iconst (v := (1 : Int32)) hx hb dX8_drop_18 (by decide) ?_
      refine lv_isub hx hb dX8_drop_19 ?_
      refine z_puti (o := o0) (v := (h o0 2) - (1 : Int32)) (ty := .int) (C := RX8) (T := TX8) (N := 3) (ci := 7) (k := 2) hx hb Z hw k_o0 n_o0 rfl inX8 tyX8 tyX8_ok nmX8 (by decide) wd103 rfl (by decide +kernel) rfl rfl dX8_drop_20 (fun H locs hw => ?_)
      refine lv_aload_n hx hb dX8_drop_23 rfl (lv_at hl 0 rfl) ?_
      obtain ⟨h24, hqh24, hf⟩ := tb_ex hf
      rw [hqh24] at hw
      refine z_getr (o := o0) (o2 := o0 + 1) (C := RX8) (T := TX8) (N := 3) (ci := 7) (k := 0) hx hb Z hw k_o0 n_o0 rfl inX8 (by decide) rfl wd101 dX8_drop_24 ?_
      refine lv_iload_n hx hb dX8_drop_27 rfl (lv_at hl 1 rfl) ?_
      refine lv_aload_n hx hb dX8_drop_28 rfl (lv_at hl 0 rfl) ?_
      refine z_getr (o := o0) (o2 := o0 + 1) (C := RX8) (T := TX8) (N := 3) (ci := 7) (k := 0) hx hb Z hw k_o0 n_o0 rfl inX8 (by decide) rfl wd101 dX8_drop_29 ?_
      refine lv_aload_n hx hb dX8_drop_32 rfl (lv_at hl 0 rfl) ?_
      refine z_geti (o := o0) (C := RX8) (T := TX8) (N := 3) (ci := 7) (k := 2) hx hb Z hw k_o0 n_o0 rfl inX8 (by decide) wd103 dX8_drop_33 ?_
      refine z_callNi (As := [.ref (ra G (o0 + 1)), .int (h24 o0 2)]) (rest := [.int x1, .ref (ra G (o0 + 1))]) (t_X10_at G l hN (o0 + 1) (kd_Y_1 k_o0) (by have := kd_Y_n k_o0; omega) (h24 o0 2) h24) cs_X10_at hx hb hml hl.1 Z hw wd509 rfl rfl (Nat.le_of_ble_eq_true rfl) (by decide) dX8_drop_36 (fun H locs hw => ?_)
      obtain ⟨q39, hq39, hf⟩ := tb_ex hf
      refine z_callNv (As := [.ref (ra G (o0 + 1)), .int x1, .int (f_X10_at (o0 + 1) (h24 o0 2) h24)]) (rest := []) (t_X10_put G l hN (o0 + 1) (kd_Y_1 k_o0) (by have := kd_Y_n k_o0; omega) x1 (f_X10_at (o0 + 1) (h24 o0 2) h24) h24 hq39) cs_X10_put hx hb hml hl.1 Z hw wd518 rfl rfl (Nat.le_of_ble_eq_true rfl) (by decide) dX8_drop_39 (fun H locs hw => ?_)
      refine lv_aload_n hx hb dX8_drop_42 rfl (lv_at hl 0 rfl) ?_
      refine z_getr (o := o0) (o2 := o0 + 2) (C := RX8) (T := TX8) (N := 3) (ci := 7) (k := 1) hx hb Z hw k_o0 n_o0 rfl inX8 (by decide) rfl wd102 dX8_drop_43 ?_
      refine lv_iload_n hx hb dX8_drop_46 rfl (lv_at hl 1 rfl) ?_
      refine lv_aload_n hx hb dX8_drop_47 rfl (lv_at hl 0 rfl) ?_
      refine z_getr (o := o0) (o2 := o0 + 2) (C := RX8) (T := TX8) (N := 3) (ci := 7) (k := 1) hx hb Z hw k_o0 n_o0 rfl inX8 (by decide) rfl wd102 dX8_drop_48 ?_
      refine lv_aload_n hx hb dX8_drop_51 rfl (lv_at hl 0 rfl) ?_
      refine z_geti (o := o0) (C := RX8) (T := TX8) (N := 3) (ci := 7) (k := 2) hx hb Z hw k_o0 n_o0 rfl inX8 (by decide) wd103 dX8_drop_52 ?_
      refine z_callNi (As := [.ref (ra G (o0 + 2)), .int (q39 o0 2)]) (rest := [.int x1, .ref (ra G (o0 + 2))]) (t_X10_at G l hN (o0 + 2) (kd_Y_2 k_o0) (by have := kd_Y_n k_o0; omega) (q39 o0 2) q39) cs_X10_at hx hb hml hl.1 Z hw wd509 rfl rfl (Nat.le_of_ble_eq_true rfl) (by decide) dX8_drop_55 (fun H locs hw => ?_)
      obtain ⟨q58, hq58, hf⟩ := tb_ex hf
      refine z_callNv (As := [.ref (ra G (o0 + 2)), .int x1, .int (f_X10_at (o0 + 2) (q39 o0 2) q39)]) (rest := []) (t_X10_put G l hN (o0 + 2) (kd_Y_2 k_o0) (by have := kd_Y_n k_o0; omega) x1 (f_X10_at (o0 + 2) (q39 o0 2) q39) q39 hq58) cs_X10_put hx hb hml hl.1 Z hw wd518 rfl rfl (Nat.le_of_ble_eq_true rfl) (by decide) dX8_drop_58 (fun H locs hw => ?_)
      obtain rfl := hf
      exact z_vret hx hb hr hlk hw dX8_drop_61
    · have hf := (if_neg c9).symm.trans hf
      obtain rfl := hf
      exact z_vret hx hb hr hlk hw dX8_drop_12
set_option maxHeartbeats 4000000 in
set_option maxRecDepth 100000 in
theorem t_X8_write (G : GM) (l : Launch) (hN : 70 ≤ gN G) (o0 : Nat) (k_o0 : kd o0 = 7) (n_o0 : o0 < gN G) (x1 : Int32) (x2 : Int32) (x3 : Int32) (h : HP) {r : Int32} {h' : HP} (hf : f_X8_write o0 x1 x2 x3 h = some (r, h')) : MC G l yX8_write cX8_write 6 (some .boolean) 2 [.ref (ra G o0), .int x1, .int x2, .int x3] h h' (some (.int r)) := by
  unfold f_X8_write at hf
  refine z_start (by decide) (Nat.le_of_ble_eq_true rfl) ?_
  intro p e s m args below meth c ls hx hb hr hlk hml Z hw hl
  have Z : ZK G s args m RX8 := Z
  have hl : lv_has ls 6 [(0, .ref (ra G o0)), (1, .int x1), (2, .int x2), (3, .int x3)] := hl
  obtain ⟨H, hH⟩ : ∃ H, H = s.heap := ⟨_, rfl⟩
  rw [← hH] at hw ⊢
  obtain ⟨locs, hlc⟩ : ∃ locs : List Loc, locs = [] := ⟨_, rfl⟩
  rw [← hlc] at hw ⊢
  refine lv_iload_n hx hb dX8_write_0 rfl (lv_at hl 1 rfl) ?_
  refine lv_iconst (v := (4 : Int32)) hx hb dX8_write_1 (by decide) ?_
  refine lv_imul hx hb dX8_write_2 ?_
  refine lv_iload_n hx hb dX8_write_3 rfl (lv_at hl 2 rfl) ?_
  refine lv_iadd hx hb dX8_write_4 ?_
  refine lv_istore (lv' := [(4, _), (0, _), (1, _), (2, _), (3, _)]) hx hb dX8_write_5 hl (by decide) rfl (fun ls hl => ?_)
  refine lv_aload_n hx hb dX8_write_7 rfl (lv_at hl 1 rfl) ?_
  refine lv_iload hx hb dX8_write_8 (lv_at hl 0 rfl) ?_
  obtain ⟨q10, hq10, hf⟩ := ob_some hf
  refine z_callVi (o := o0) (ci := 7) (As := [.int ((x1 * (4 : Int32)) + x2)]) (rest := []) (t_X8_indexOf G l hN o0 k_o0 n_o0 ((x1 * (4 : Int32)) + x2) h hq10) cv_X8_indexOf hx hb hml hl.1 Z hw k_o0 (by decide) n_o0 rfl rfl wd502 rfl rfl (Nat.le_of_ble_eq_true rfl) (by decide) dX8_write_10 (fun H locs hw => ?_)
  refine lv_istore (lv' := [(5, _), (4, _), (0, _), (1, _), (2, _), (3, _)]) hx hb dX8_write_13 hl (by decide) rfl (fun ls hl => ?_)
  refine lv_iload_n hx hb dX8_write_15 rfl (lv_at hl 5 rfl) ?_
  refine lv_iload_n hx hb dX8_write_16 rfl (lv_at hl 3 rfl) ?_
  refine lv_iload_n hx hb dX8_write_17 rfl (lv_at hl 4 rfl) ?_
  refine z_callSi (As := [.int x1, .int x2]) (rest := [.int x3]) (t_X8_atFirst G l hN x1 x2 h) cs_X8_atFirst hx hb hml hl.1 Z hw wd506 rfl rfl (Nat.le_of_ble_eq_true rfl) (by decide) dX8_write_18 (fun H locs hw => ?_)
  refine lv_icmp_ne (tgt := 32) hx hb dX8_write_21 (by decide) (fun c21 => ?_) (fun c21 => ?_)
  · have hf := (if_neg c21).symm.trans hf
    refine lv_iload hx hb dX8_write_32 (lv_at hl 0 rfl) ?_
    refine lv_if_ge (tgt := 48) hx hb dX8_write_34 (by decide) (fun c34 => ?_) (fun c34 => ?_)
    · have hf := (if_pos c34).symm.trans hf
      refine lv_iload hx hb dX8_write_48 (lv_at hl 0 rfl) ?_
      obtain ⟨j50, hqj50, hf⟩ := tb_ex hf
      have HJ69 : ∀ (ls : Array Slot) (H : Heap) (locs : List Loc), lv_has ls 6 [(0, .ref (ra G o0)), (3, .int x3), (4, .int ((x1 * (4 : Int32)) + x2)), (5, .int j50.1)] → HW G j50.2 s H locs → WZ p l e 2 s m args below meth c G (some (.int r)) h' H locs (F0 m 69 ls []) := by
        intro ls H locs hl hw
        refine lv_aload_n hx hb dX8_write_69 rfl (lv_at hl 0 rfl) ?_
        refine z_getr (o := o0) (o2 := o0 + 1) (C := RX8) (T := TX8) (N := 3) (ci := 7) (k := 0) hx hb Z hw k_o0 n_o0 rfl inX8 (by decide) rfl wd101 dX8_write_70 ?_
        refine lv_iload hx hb dX8_write_73 (lv_at hl 3 rfl) ?_
        refine lv_iload hx hb dX8_write_75 (lv_at hl 2 rfl) ?_
        obtain ⟨q77, hq77, hf⟩ := tb_ex hf
        refine z_callNv (As := [.ref (ra G (o0 + 1)), .int j50.1, .int ((x1 * (4 : Int32)) + x2)]) (rest := []) (t_X10_put G l hN (o0 + 1) (kd_Y_1 k_o0) (by have := kd_Y_n k_o0; omega) j50.1 ((x1 * (4 : Int32)) + x2) j50.2 hq77) cs_X10_put hx hb hml hl.1 Z hw wd518 rfl rfl (Nat.le_of_ble_eq_true rfl) (by decide) dX8_write_77 (fun H locs hw => ?_)
        refine lv_aload_n hx hb dX8_write_80 rfl (lv_at hl 0 rfl) ?_
        refine z_getr (o := o0) (o2 := o0 + 2) (C := RX8) (T := TX8) (N := 3) (ci := 7) (k := 1) hx hb Z hw k_o0 n_o0 rfl inX8 (by decide) rfl wd102 dX8_write_81 ?_
        refine lv_iload hx hb dX8_write_84 (lv_at hl 3 rfl) ?_
        refine lv_iload_n hx hb dX8_write_86 rfl (lv_at hl 1 rfl) ?_
        obtain ⟨q87, hq87, hf⟩ := tb_ex hf
        refine z_callNv (As := [.ref (ra G (o0 + 2)), .int j50.1, .int x3]) (rest := []) (t_X10_put G l hN (o0 + 2) (kd_Y_2 k_o0) (by have := kd_Y_n k_o0; omega) j50.1 x3 q77 hq87) cs_X10_put hx hb hml hl.1 Z hw wd518 rfl rfl (Nat.le_of_ble_eq_true rfl) (by decide) dX8_write_87 (fun H locs hw => ?_)
        refine lv_iconst (v := (1 : Int32)) hx hb dX8_write_90 (by decide) ?_
        obtain ⟨rfl, rfl⟩ := Prod.mk.inj (Option.some.inj hf)
        exact z_zret hx hb hr rfl hlk hw dX8_write_91
      have hf := hqj50
      refine lv_if_ge (tgt := 69) hx hb dX8_write_50 (by decide) (fun c50 => ?_) (fun c50 => ?_)
      · have hf := (if_pos c50).symm.trans hf
        subst hf
        exact HJ69 ls H locs (lv_sub hl [2, 5, 1, 0] rfl) hw
      · have hf := (if_neg c50).symm.trans hf
        refine lv_aload_n hx hb dX8_write_53 rfl (lv_at hl 2 rfl) ?_
        refine z_geti (o := o0) (C := RX8) (T := TX8) (N := 3) (ci := 7) (k := 2) hx hb Z hw k_o0 n_o0 rfl inX8 (by decide) wd103 dX8_write_54 ?_
        refine lv_istore (lv' := [(5, _), (4, _), (0, _), (1, _), (2, _), (3, _)]) hx hb dX8_write_57 hl (by decide) rfl (fun ls hl => ?_)
        refine lv_aload_n hx hb dX8_write_59 rfl (lv_at hl 2 rfl) ?_
        refine lv_dup hx hb dX8_write_60 rfl ?_
        refine z_geti (o := o0) (C := RX8) (T := TX8) (N := 3) (ci := 7) (k := 2) hx hb Z hw k_o0 n_o0 rfl inX8 (by decide) wd103 dX8_write_61 ?_
        refine lv_iconst (v := (1 : Int32)) hx hb dX8_write_64 (by decide) ?_
        refine lv_iadd hx hb dX8_write_65 ?_
        refine z_puti (o := o0) (v := (h o0 2) + (1 : Int32)) (ty := .int) (C := RX8) (T := TX8) (N := 3) (ci := 7) (k := 2) hx hb Z hw k_o0 n_o0 rfl inX8 tyX8 tyX8_ok nmX8 (by decide) wd103 rfl (by decide +kernel) rfl rfl dX8_write_66 (fun H locs hw => ?_)
        subst hf
        exact HJ69 ls H locs (lv_sub hl [2, 5, 1, 0] rfl) hw
    · have hf := (if_neg c34).symm.trans hf
      refine lv_aload_n hx hb dX8_write_37 rfl (lv_at hl 2 rfl) ?_
      refine z_geti (o := o0) (C := RX8) (T := TX8) (N := 3) (ci := 7) (k := 2) hx hb Z hw k_o0 n_o0 rfl inX8 (by decide) wd103 dX8_write_38 ?_
      refine lv_bipush (v := (40 : Int32)) hx hb dX8_write_41 (by decide) ?_
      refine lv_icmp_lt (tgt := 48) hx hb dX8_write_43 (by decide) (fun c43 => ?_) (fun c43 => ?_)
      · have hf := (if_pos c43).symm.trans hf
        refine lv_iload hx hb dX8_write_48 (lv_at hl 0 rfl) ?_
        obtain ⟨j50, hqj50, hf⟩ := tb_ex hf
        have HJ69 : ∀ (ls : Array Slot) (H : Heap) (locs : List Loc), lv_has ls 6 [(0, .ref (ra G o0)), (3, .int x3), (4, .int ((x1 * (4 : Int32)) + x2)), (5, .int j50.1)] → HW G j50.2 s H locs → WZ p l e 2 s m args below meth c G (some (.int r)) h' H locs (F0 m 69 ls []) := by
          intro ls H locs hl hw
          refine lv_aload_n hx hb dX8_write_69 rfl (lv_at hl 0 rfl) ?_
          refine z_getr (o := o0) (o2 := o0 + 1) (C := RX8) (T := TX8) (N := 3) (ci := 7) (k := 0) hx hb Z hw k_o0 n_o0 rfl inX8 (by decide) rfl wd101 dX8_write_70 ?_
          refine lv_iload hx hb dX8_write_73 (lv_at hl 3 rfl) ?_
          refine lv_iload hx hb dX8_write_75 (lv_at hl 2 rfl) ?_
          obtain ⟨q77, hq77, hf⟩ := tb_ex hf
          refine z_callNv (As := [.ref (ra G (o0 + 1)), .int j50.1, .int ((x1 * (4 : Int32)) + x2)]) (rest := []) (t_X10_put G l hN (o0 + 1) (kd_Y_1 k_o0) (by have := kd_Y_n k_o0; omega) j50.1 ((x1 * (4 : Int32)) + x2) j50.2 hq77) cs_X10_put hx hb hml hl.1 Z hw wd518 rfl rfl (Nat.le_of_ble_eq_true rfl) (by decide) dX8_write_77 (fun H locs hw => ?_)
          refine lv_aload_n hx hb dX8_write_80 rfl (lv_at hl 0 rfl) ?_
          refine z_getr (o := o0) (o2 := o0 + 2) (C := RX8) (T := TX8) (N := 3) (ci := 7) (k := 1) hx hb Z hw k_o0 n_o0 rfl inX8 (by decide) rfl wd102 dX8_write_81 ?_
          refine lv_iload hx hb dX8_write_84 (lv_at hl 3 rfl) ?_
          refine lv_iload_n hx hb dX8_write_86 rfl (lv_at hl 1 rfl) ?_
          obtain ⟨q87, hq87, hf⟩ := tb_ex hf
          refine z_callNv (As := [.ref (ra G (o0 + 2)), .int j50.1, .int x3]) (rest := []) (t_X10_put G l hN (o0 + 2) (kd_Y_2 k_o0) (by have := kd_Y_n k_o0; omega) j50.1 x3 q77 hq87) cs_X10_put hx hb hml hl.1 Z hw wd518 rfl rfl (Nat.le_of_ble_eq_true rfl) (by decide) dX8_write_87 (fun H locs hw => ?_)
          refine lv_iconst (v := (1 : Int32)) hx hb dX8_write_90 (by decide) ?_
          obtain ⟨rfl, rfl⟩ := Prod.mk.inj (Option.some.inj hf)
          exact z_zret hx hb hr rfl hlk hw dX8_write_91
        have hf := hqj50
        refine lv_if_ge (tgt := 69) hx hb dX8_write_50 (by decide) (fun c50 => ?_) (fun c50 => ?_)
        · have hf := (if_pos c50).symm.trans hf
          subst hf
          exact HJ69 ls H locs (lv_sub hl [2, 5, 1, 0] rfl) hw
        · have hf := (if_neg c50).symm.trans hf
          refine lv_aload_n hx hb dX8_write_53 rfl (lv_at hl 2 rfl) ?_
          refine z_geti (o := o0) (C := RX8) (T := TX8) (N := 3) (ci := 7) (k := 2) hx hb Z hw k_o0 n_o0 rfl inX8 (by decide) wd103 dX8_write_54 ?_
          refine lv_istore (lv' := [(5, _), (4, _), (0, _), (1, _), (2, _), (3, _)]) hx hb dX8_write_57 hl (by decide) rfl (fun ls hl => ?_)
          refine lv_aload_n hx hb dX8_write_59 rfl (lv_at hl 2 rfl) ?_
          refine lv_dup hx hb dX8_write_60 rfl ?_
          refine z_geti (o := o0) (C := RX8) (T := TX8) (N := 3) (ci := 7) (k := 2) hx hb Z hw k_o0 n_o0 rfl inX8 (by decide) wd103 dX8_write_61 ?_
          refine lv_iconst (v := (1 : Int32)) hx hb dX8_write_64 (by decide) ?_
          refine lv_iadd hx hb dX8_write_65 ?_
          refine z_puti (o := o0) (v := (h o0 2) + (1 : Int32)) (ty := .int) (C := RX8) (T := TX8) (N := 3) (ci := 7) (k := 2) hx hb Z hw k_o0 n_o0 rfl inX8 tyX8 tyX8_ok nmX8 (by decide) wd103 rfl (by decide +kernel) rfl rfl dX8_write_66 (fun H locs hw => ?_)
          subst hf
          exact HJ69 ls H locs (lv_sub hl [2, 5, 1, 0] rfl) hw
      · have hf := (if_neg c43).symm.trans hf
        refine lv_iconst (v := (0 : Int32)) hx hb dX8_write_46 (by decide) ?_
        obtain ⟨rfl, rfl⟩ := Prod.mk.inj (Option.some.inj hf)
        exact z_zret hx hb hr rfl hlk hw dX8_write_47
  · have hf := (if_pos c21).symm.trans hf
    refine lv_aload_n hx hb dX8_write_24 rfl (lv_at hl 2 rfl) ?_
    refine lv_iload hx hb dX8_write_25 (lv_at hl 0 rfl) ?_
    obtain ⟨q27, hq27, hf⟩ := tb_ex hf
    refine z_callVv (o := o0) (ci := 7) (As := [.int q10]) (rest := []) (t_X8_drop G l hN o0 k_o0 n_o0 q10 h hq27) cv_X8_drop hx hb hml hl.1 Z hw k_o0 (by decide) n_o0 rfl rfl wd514 rfl rfl (Nat.le_of_ble_eq_true rfl) (by decide) dX8_write_27 (fun H locs hw => ?_)
    refine lv_iconst (v := (1 : Int32)) hx hb dX8_write_30 (by decide) ?_
    obtain ⟨rfl, rfl⟩ := Prod.mk.inj (Option.some.inj hf)
    exact z_zret hx hb hr rfl hlk hw dX8_write_31
set_option maxHeartbeats 4000000 in
set_option maxRecDepth 100000 in
theorem t_X10_pressSymbol (G : GM) (l : Launch) (hN : 70 ≤ gN G) (x1 : Int32) (x2 : Int32) (x3 : Int32) (h : HP) {r : Int32} {h' : HP} (hf : f_X10_pressSymbol x1 x2 x3 h = some (r, h')) : MC G l yX10_pressSymbol cX10_pressSymbol 5 (some .int) 3 [.ref (ra G 0), .int x1, .int x2, .int x3] h h' (some (.int r)) := by
  unfold f_X10_pressSymbol at hf
  refine z_start (by decide) (Nat.le_of_ble_eq_true rfl) ?_
  intro p e s m args below meth c ls hx hb hr hlk hml Z hw hl
  have Z : ZK G s args m RX10 := Z
  have hl : lv_has ls 5 [(0, .ref (ra G 0)), (1, .int x1), (2, .int x2), (3, .int x3)] := hl
  obtain ⟨H, hH⟩ : ∃ H, H = s.heap := ⟨_, rfl⟩
  rw [← hH] at hw ⊢
  obtain ⟨locs, hlc⟩ : ∃ locs : List Loc, locs = [] := ⟨_, rfl⟩
  rw [← hlc] at hw ⊢
  refine lv_aload_n hx hb dX10_pressSymbol_0 rfl (lv_at hl 0 rfl) ?_
  refine z_getr (o := 0) (o2 := 1) (C := RX10) (T := TX10) (N := 8) (ci := 8) (k := 0) hx hb Z hw (by decide) (by omega) rfl inX10 (by decide) rfl wd233 dX10_pressSymbol_1 ?_
  refine z_getr (o := 1) (o2 := 2) (C := RX6) (T := TX6) (N := 4) (ci := 5) (k := 0) hx hb Z hw (by decide) (by omega) rfl inX6 (by decide) rfl wd145 dX10_pressSymbol_4 ?_
  refine lv_iload_n hx hb dX10_pressSymbol_7 rfl (lv_at hl 1 rfl) ?_
  refine z_callVi (o := 2) (ci := 4) (As := [.int x1]) (rest := []) (t_X5_hasFrame G l hN 2 (by decide) (by omega) x1 h) cv_X5_hasFrame hx hb hml hl.1 Z hw (by decide) (by decide) (by omega) rfl rfl wd485 rfl rfl (Nat.le_of_ble_eq_true rfl) (by decide) dX10_pressSymbol_8 (fun H locs hw => ?_)
  refine lv_if_ne (tgt := 16) hx hb dX10_pressSymbol_11 (by decide) (fun c11 => ?_) (fun c11 => ?_)
  · have hf := (if_neg c11).symm.trans hf
    refine lv_iload_n hx hb dX10_pressSymbol_16 rfl (lv_at hl 2 rfl) ?_
    refine z_callSi (As := [.int x2]) (rest := []) (t_X10_isPlace G l hN x2 h) cs_X10_isPlace hx hb hml hl.1 Z hw wd489 rfl rfl (Nat.le_of_ble_eq_true rfl) (by decide) dX10_pressSymbol_17 (fun H locs hw => ?_)
    refine lv_if_eq (tgt := 33) hx hb dX10_pressSymbol_20 (by decide) (fun c20 => ?_) (fun c20 => ?_)
    · have hf := (if_pos c20).symm.trans hf
      refine lv_bipush (v := (-2 : Int32)) hx hb dX10_pressSymbol_33 (by decide) ?_
      obtain ⟨rfl, rfl⟩ := Prod.mk.inj (Option.some.inj hf)
      exact z_iret hx hb hr hlk hw dX10_pressSymbol_35
    · have hf := (if_neg c20).symm.trans hf
      refine lv_iload_n hx hb dX10_pressSymbol_23 rfl (lv_at hl 3 rfl) ?_
      refine lv_if_lt (tgt := 33) hx hb dX10_pressSymbol_24 (by decide) (fun c24 => ?_) (fun c24 => ?_)
      · have hf := (if_pos c24).symm.trans hf
        refine lv_bipush (v := (-2 : Int32)) hx hb dX10_pressSymbol_33 (by decide) ?_
        obtain ⟨rfl, rfl⟩ := Prod.mk.inj (Option.some.inj hf)
        exact z_iret hx hb hr hlk hw dX10_pressSymbol_35
      · have hf := (if_neg c24).symm.trans hf
        refine lv_iload_n hx hb dX10_pressSymbol_27 rfl (lv_at hl 3 rfl) ?_
        refine lv_bipush (v := (16 : Int32)) hx hb dX10_pressSymbol_28 (by decide) ?_
        refine lv_icmp_lt (tgt := 36) hx hb dX10_pressSymbol_30 (by decide) (fun c30 => ?_) (fun c30 => ?_)
        · have hf := (if_pos c30).symm.trans hf
          refine lv_iload_n hx hb dX10_pressSymbol_36 rfl (lv_at hl 1 rfl) ?_
          refine z_callSi (As := [.int x1]) (rest := []) (t_X5_isCheck G l hN x1 h) cs_X5_isCheck hx hb hml hl.1 Z hw wd492 rfl rfl (Nat.le_of_ble_eq_true rfl) (by decide) dX10_pressSymbol_37 (fun H locs hw => ?_)
          refine lv_if_eq (tgt := 46) hx hb dX10_pressSymbol_40 (by decide) (fun c40 => ?_) (fun c40 => ?_)
          · have hf := (if_pos c40).symm.trans hf
            refine lv_aload_n hx hb dX10_pressSymbol_46 rfl (lv_at hl 0 rfl) ?_
            refine z_getr (o := 0) (o2 := 1) (C := RX10) (T := TX10) (N := 8) (ci := 8) (k := 0) hx hb Z hw (by decide) (by omega) rfl inX10 (by decide) rfl wd233 dX10_pressSymbol_47 ?_
            refine z_getr (o := 1) (o2 := 5) (C := RX6) (T := TX6) (N := 4) (ci := 5) (k := 2) hx hb Z hw (by decide) (by omega) rfl inX6 (by decide) rfl wd150 dX10_pressSymbol_50 ?_
            refine lv_iload_n hx hb dX10_pressSymbol_53 rfl (lv_at hl 1 rfl) ?_
            refine lv_iload_n hx hb dX10_pressSymbol_54 rfl (lv_at hl 2 rfl) ?_
            obtain ⟨q55, hq55, hf⟩ := ob_some hf
            refine z_callVi (o := 5) (ci := 7) (As := [.int x1, .int x2]) (rest := []) (t_X8_standsAt G l hN 5 (by decide) (by omega) x1 x2 h hq55) cv_X8_standsAt hx hb hml hl.1 Z hw (by decide) (by decide) (by omega) rfl rfl wd493 rfl rfl (Nat.le_of_ble_eq_true rfl) (by decide) dX10_pressSymbol_55 (fun H locs hw => ?_)
            refine lv_istore (lv' := [(4, _), (0, _), (1, _), (2, _), (3, _)]) hx hb dX10_pressSymbol_58 hl (by decide) rfl (fun ls hl => ?_)
            refine lv_iload hx hb dX10_pressSymbol_60 (lv_at hl 0 rfl) ?_
            refine lv_iload_n hx hb dX10_pressSymbol_62 rfl (lv_at hl 4 rfl) ?_
            refine lv_icmp_ne (tgt := 69) hx hb dX10_pressSymbol_63 (by decide) (fun c63 => ?_) (fun c63 => ?_)
            · have hf := (if_neg c63).symm.trans hf
              refine lv_aload_n hx hb dX10_pressSymbol_69 rfl (lv_at hl 1 rfl) ?_
              refine z_getr (o := 0) (o2 := 1) (C := RX10) (T := TX10) (N := 8) (ci := 8) (k := 0) hx hb Z hw (by decide) (by omega) rfl inX10 (by decide) rfl wd233 dX10_pressSymbol_70 ?_
              refine z_getr (o := 1) (o2 := 5) (C := RX6) (T := TX6) (N := 4) (ci := 5) (k := 2) hx hb Z hw (by decide) (by omega) rfl inX6 (by decide) rfl wd150 dX10_pressSymbol_73 ?_
              refine lv_iload_n hx hb dX10_pressSymbol_76 rfl (lv_at hl 2 rfl) ?_
              refine lv_iload_n hx hb dX10_pressSymbol_77 rfl (lv_at hl 3 rfl) ?_
              refine lv_iload_n hx hb dX10_pressSymbol_78 rfl (lv_at hl 4 rfl) ?_
              obtain ⟨q79, hq79, hf⟩ := ob_some hf
              refine z_callVi (o := 5) (ci := 7) (As := [.int x1, .int x2, .int x3]) (rest := []) (t_X8_write G l hN 5 (by decide) (by omega) x1 x2 x3 h hq79) cv_X8_write hx hb hml hl.1 Z hw (by decide) (by decide) (by omega) rfl rfl wd510 rfl rfl (Nat.le_of_ble_eq_true rfl) (by decide) dX10_pressSymbol_79 (fun H locs hw => ?_)
              refine lv_if_eq (tgt := 90) hx hb dX10_pressSymbol_82 (by decide) (fun c82 => ?_) (fun c82 => ?_)
              · have hf := (if_pos c82).symm.trans hf
                refine lv_bipush (v := (-3 : Int32)) hx hb dX10_pressSymbol_90 (by decide) ?_
                obtain ⟨rfl, rfl⟩ := Prod.mk.inj (Option.some.inj hf)
                exact z_iret hx hb hr hlk hw dX10_pressSymbol_92
              · have hf := (if_neg c82).symm.trans hf
                refine lv_iload hx hb dX10_pressSymbol_85 (lv_at hl 0 rfl) ?_
                refine lv_goto (tgt := 92) hx hb dX10_pressSymbol_87 (by decide) ?_
                obtain ⟨rfl, rfl⟩ := Prod.mk.inj (Option.some.inj hf)
                exact z_iret hx hb hr hlk hw dX10_pressSymbol_92
            · have hf := (if_pos c63).symm.trans hf
              refine lv_bipush (v := (-5 : Int32)) hx hb dX10_pressSymbol_66 (by decide) ?_
              obtain ⟨rfl, rfl⟩ := Prod.mk.inj (Option.some.inj hf)
              exact z_iret hx hb hr hlk hw dX10_pressSymbol_68
          · have hf := (if_neg c40).symm.trans hf
            refine lv_bipush (v := (-4 : Int32)) hx hb dX10_pressSymbol_43 (by decide) ?_
            obtain ⟨rfl, rfl⟩ := Prod.mk.inj (Option.some.inj hf)
            exact z_iret hx hb hr hlk hw dX10_pressSymbol_45
        · have hf := (if_neg c30).symm.trans hf
          refine lv_bipush (v := (-2 : Int32)) hx hb dX10_pressSymbol_33 (by decide) ?_
          obtain ⟨rfl, rfl⟩ := Prod.mk.inj (Option.some.inj hf)
          exact z_iret hx hb hr hlk hw dX10_pressSymbol_35
  · have hf := (if_pos c11).symm.trans hf
    refine lv_iconst (v := (-1 : Int32)) hx hb dX10_pressSymbol_14 (by decide) ?_
    obtain ⟨rfl, rfl⟩ := Prod.mk.inj (Option.some.inj hf)
    exact z_iret hx hb hr hlk hw dX10_pressSymbol_15
set_option maxHeartbeats 4000000 in
set_option maxRecDepth 100000 in
theorem t_X2_stateAt (G : GM) (l : Launch) (hN : 70 ≤ gN G) (x1 : Int32) (h : HP) : MC G l yX2_stateAt cX2_stateAt 2 (some (.object "LineDisc$State")) 0 [.ref (ra G 25), .int x1] h h (some (va_rf (srf G (f_X2_stateAt x1 h)))) := by
  generalize hf : f_X2_stateAt x1 h = r
  unfold f_X2_stateAt at hf
  refine z_start (by decide) (Nat.le_of_ble_eq_true rfl) ?_
  intro p e s m args below meth c ls hx hb hr hlk hml Z hw hl
  have Z : ZK G s args m RX2 := Z
  have hl : lv_has ls 2 [(0, .ref (ra G 25)), (1, .int x1)] := hl
  obtain ⟨H, hH⟩ : ∃ H, H = s.heap := ⟨_, rfl⟩
  rw [← hH] at hw ⊢
  obtain ⟨locs, hlc⟩ : ∃ locs : List Loc, locs = [] := ⟨_, rfl⟩
  rw [← hlc] at hw ⊢
  refine lv_iload_n hx hb dX2_stateAt_0 rfl (lv_at hl 1 rfl) ?_
  refine lv_if_lt (tgt := 22) hx hb dX2_stateAt_1 (by decide) (fun c1 => ?_) (fun c1 => ?_)
  · have hf := (if_pos c1).symm.trans hf
    refine lv_null hx hb dX2_stateAt_22 ?_
    rw [← srf_0 (G := G)]
    obtain rfl := hf
    exact z_aret hx hb hr (Or.inl ⟨_, rfl⟩) (va_rf_or _) hlk hw dX2_stateAt_23
  · have hf := (if_neg c1).symm.trans hf
    refine lv_iload_n hx hb dX2_stateAt_4 rfl (lv_at hl 1 rfl) ?_
    refine lv_aload_n hx hb dX2_stateAt_5 rfl (lv_at hl 0 rfl) ?_
    refine z_getr (o := 25) (o2 := 26) (C := RX2) (T := TX2) (N := 2) (ci := 1) (k := 0) hx hb Z hw (by decide) (by omega) rfl inX2 (by decide) rfl wd171 dX2_stateAt_6 ?_
    refine z_alen (o := 26) (v := (4 : Int32)) hx hb Z hw (by decide) (by omega) (by decide) dX2_stateAt_9 ?_
    refine lv_icmp_ge (tgt := 22) hx hb dX2_stateAt_10 (by decide) (fun c10 => ?_) (fun c10 => ?_)
    · have hf := (if_pos c10).symm.trans hf
      refine lv_null hx hb dX2_stateAt_22 ?_
      rw [← srf_0 (G := G)]
      obtain rfl := hf
      exact z_aret hx hb hr (Or.inl ⟨_, rfl⟩) (va_rf_or _) hlk hw dX2_stateAt_23
    · have hf := (if_neg c10).symm.trans hf
      refine lv_aload_n hx hb dX2_stateAt_13 rfl (lv_at hl 0 rfl) ?_
      refine z_getr (o := 25) (o2 := 26) (C := RX2) (T := TX2) (N := 2) (ci := 1) (k := 0) hx hb Z hw (by decide) (by omega) rfl inX2 (by decide) rfl wd171 dX2_stateAt_14 ?_
      refine lv_iload_n hx hb dX2_stateAt_17 rfl (lv_at hl 1 rfl) ?_
      refine z_sald (o := 26) hx hb Z hw (by decide) (by omega) (inB_nn c1 c10 (by decide)) dX2_stateAt_18 ?_
      refine lv_goto (tgt := 23) hx hb dX2_stateAt_19 (by decide) ?_
      obtain rfl := hf
      exact z_aret hx hb hr (Or.inl ⟨_, rfl⟩) (va_rf_or _) hlk hw dX2_stateAt_23
set_option maxHeartbeats 4000000 in
set_option maxRecDepth 100000 in
theorem w_X2_dropOldest_L8 (G : GM) (l : Launch) (hN : 70 ≤ gN G)  {p : Program} {e : Env} {s : State} {m : MethodId} {args : Array Value} {below : List Frame} {meth : Method} {c : Code} (hx : p.tables.exec = Jvm.exec) (hb : c.code = cX2_dropOldest) (hr : meth.sig.returnType = none) (hlk : meth.locks = false) (hml : c.maxLocals = 3) (Z : ZK G s args m RX2) : ∀ (n : Nat) (x2 : Int32)  (h : HP) (v1 : Nat) (rv : Option Value) (hq : HP) (ls : Array Slot) (H : Heap) (locs : List Loc) {q : HP}, lv_has ls 3 [(0, .ref (ra G 25)), (1, .ref v1), (2, .int x2)] → HW G h s H locs → f_X2_dropOldest_L8 n x2 h = some q → (∀ (ls : Array Slot) (H : Heap) (locs : List Loc), lv_has ls 3 [(0, .ref (ra G 25)), (1, .ref v1)] → HW G q s H locs → WZ p l e 1 s m args below meth c G rv hq H locs (F0 m 37 ls [])) → WZ p l e 1 s m args below meth c G rv hq H locs (F0 m 8 ls []) := by
  intro n
  induction n with
  | zero => intro x2  h v1 rv hq ls H locs q hl hw hf kk; cases hf
  | succ n ih =>
    intro x2  h v1 rv hq ls H locs q hl hw hf kk
    rw [f_X2_dropOldest_L8] at hf
    refine lv_iload_n hx hb dX2_dropOldest_8 rfl (lv_at hl 2 rfl) ?_
    refine lv_aload_n hx hb dX2_dropOldest_9 rfl (lv_at hl 0 rfl) ?_
    refine z_getr (o := 25) (o2 := 26) (C := RX2) (T := TX2) (N := 2) (ci := 1) (k := 0) hx hb Z hw (by decide) (by omega) rfl inX2 (by decide) rfl wd171 dX2_dropOldest_10 ?_
    refine z_alen (o := 26) (v := (4 : Int32)) hx hb Z hw (by decide) (by omega) (by decide) dX2_dropOldest_13 ?_
    refine lv_icmp_ge (tgt := 37) hx hb dX2_dropOldest_14 (by decide) (fun c14 => ?_) (fun c14 => ?_)
    · have hf := (if_pos c14).symm.trans hf
      obtain rfl := Option.some.inj hf
      exact kk ls H locs (lv_sub hl [0, 1] rfl) hw
    · have hf := (if_neg c14).symm.trans hf
      refine lv_aload_n hx hb dX2_dropOldest_17 rfl (lv_at hl 0 rfl) ?_
      refine z_getr (o := 25) (o2 := 26) (C := RX2) (T := TX2) (N := 2) (ci := 1) (k := 0) hx hb Z hw (by decide) (by omega) rfl inX2 (by decide) rfl wd171 dX2_dropOldest_18 ?_
      refine lv_iload_n hx hb dX2_dropOldest_21 rfl (lv_at hl 2 rfl) ?_
      refine lv_iconst (v := (1 : Int32)) hx hb dX2_dropOldest_22 (by decide) ?_
      refine lv_isub hx hb dX2_dropOldest_23 ?_
      refine lv_aload_n hx hb dX2_dropOldest_24 rfl (lv_at hl 0 rfl) ?_
      refine z_getr (o := 25) (o2 := 26) (C := RX2) (T := TX2) (N := 2) (ci := 1) (k := 0) hx hb Z hw (by decide) (by omega) rfl inX2 (by decide) rfl wd171 dX2_dropOldest_25 ?_
      refine lv_iload_n hx hb dX2_dropOldest_28 rfl (lv_at hl 2 rfl) ?_
      obtain ⟨h29, hf⟩ := gd_some hf
      refine z_sald (o := 26) hx hb Z hw (by decide) (by omega) (inB_vp h29) dX2_dropOldest_29 ?_
      obtain ⟨h30, hf⟩ := gd_some hf
      obtain ⟨hs30, hf⟩ := gd_some hf
      refine y_sast (o := 26) (x := h 26 x2.toNatClampNeg) hx hb Z hw (by decide) (by omega) hN (inB_vp h30) hs30 dX2_dropOldest_30 (fun H locs hw => ?_)
      refine lv_iinc (v := x2 + (1 : Int32)) (lv' := [(2, _), (0, _), (1, _)]) hx hb dX2_dropOldest_31 hl (k := 2) rfl rfl (by decide) rfl (fun ls hl => ?_)
      refine lv_goto (tgt := 8) hx hb dX2_dropOldest_34 (by decide) ?_
      exact ih (x2 + (1 : Int32)) (hset h 26 (x2 - (1 : Int32)).toNatClampNeg (h 26 x2.toNatClampNeg)) v1 rv hq ls H locs (lv_sub hl [1, 2, 0] rfl) hw hf kk
set_option maxHeartbeats 4000000 in
set_option maxRecDepth 100000 in
theorem t_X2_dropOldest (G : GM) (l : Launch) (hN : 70 ≤ gN G)  (h : HP) {h' : HP} (hf : f_X2_dropOldest  h = some h') : MC G l yX2_dropOldest cX2_dropOldest 3 none 1 [.ref (ra G 25)] h h' none := by
  unfold f_X2_dropOldest at hf
  refine z_start (by decide) (Nat.le_of_ble_eq_true rfl) ?_
  intro p e s m args below meth c ls hx hb hr hlk hml Z hw hl
  have Z : ZK G s args m RX2 := Z
  have hl : lv_has ls 3 [(0, .ref (ra G 25))] := hl
  obtain ⟨H, hH⟩ : ∃ H, H = s.heap := ⟨_, rfl⟩
  rw [← hH] at hw ⊢
  obtain ⟨locs, hlc⟩ : ∃ locs : List Loc, locs = [] := ⟨_, rfl⟩
  rw [← hlc] at hw ⊢
  refine lv_aload_n hx hb dX2_dropOldest_0 rfl (lv_at hl 0 rfl) ?_
  refine lv_iconst (v := (0 : Int32)) hx hb dX2_dropOldest_1 (by decide) ?_
  refine z_callVi (o := 25) (ci := 1) (As := [.int (0 : Int32)]) (rest := []) (t_X2_stateAt G l hN (0 : Int32) h) cv_X2_stateAt hx hb hml hl.1 Z hw (by decide) (by decide) (by omega) rfl rfl wd317 rfl rfl (Nat.le_of_ble_eq_true rfl) (by decide) dX2_dropOldest_2 (fun H locs hw => ?_)
  by_cases c2 : f_X2_stateAt (0 : Int32) h = 0
  · have hf := (if_pos c2).symm.trans hf
    rw [srf_z c2]
    cases hf
  · have hf := (if_neg c2).symm.trans hf
    obtain ⟨hs2, hf⟩ := gd_some hf
    rw [srf_nz c2]
    refine lv_astore_n (lv' := [(1, _), (0, _)]) hx hb dX2_dropOldest_5 rfl hl (by decide) rfl (fun ls hl => ?_)
    refine lv_iconst (v := (1 : Int32)) hx hb dX2_dropOldest_6 (by decide) ?_
    refine lv_istore_n (lv' := [(2, _), (1, _), (0, _)]) hx hb dX2_dropOldest_7 rfl hl (by decide) rfl (fun ls hl => ?_)
    obtain ⟨q8, hq8, hf⟩ := ob_some hf
    refine w_X2_dropOldest_L8 G l hN  hx hb hr hlk hml Z FU (1 : Int32) h (ra G ((f_X2_stateAt (0 : Int32) h).toNatClampNeg)) _ _ ls H locs (lv_sub hl [2, 1, 0] rfl) hw hq8 (fun ls H locs hl hw => ?_)
    refine lv_aload_n hx hb dX2_dropOldest_37 rfl (lv_at hl 0 rfl) ?_
    refine z_getr (o := 25) (o2 := 26) (C := RX2) (T := TX2) (N := 2) (ci := 1) (k := 0) hx hb Z hw (by decide) (by omega) rfl inX2 (by decide) rfl wd171 dX2_dropOldest_38 ?_
    refine z_alen (o := 26) (v := (4 : Int32)) hx hb Z hw (by decide) (by omega) (by decide) dX2_dropOldest_41 ?_
    obtain ⟨j42, hqj42, hf⟩ := ob_some hf
    have HJ58 : ∀ (ls : Array Slot) (H : Heap) (locs : List Loc), lv_has ls 3 [(0, .ref (ra G 25))] → HW G j42 s H locs → WZ p l e 1 s m args below meth c G none h' H locs (F0 m 58 ls []) := by
      intro ls H locs hl hw
      refine lv_aload_n hx hb dX2_dropOldest_58 rfl (lv_at hl 0 rfl) ?_
      refine lv_dup hx hb dX2_dropOldest_59 rfl ?_
      refine z_geti (o := 25) (C := RX2) (T := TX2) (N := 2) (ci := 1) (k := 1) hx hb Z hw (by decide) (by omega) rfl inX2 (by decide) wd172 dX2_dropOldest_60 ?_
      refine lv_iconst (v := (1 : Int32)) hx hb dX2_dropOldest_63 (by decide) ?_
      refine lv_isub hx hb dX2_dropOldest_64 ?_
      refine z_puti (o := 25) (v := (j42 25 1) - (1 : Int32)) (ty := .int) (C := RX2) (T := TX2) (N := 2) (ci := 1) (k := 1) hx hb Z hw (by decide) (by omega) rfl inX2 tyX2 tyX2_ok nmX2 (by decide) wd172 rfl (by decide +kernel) rfl rfl dX2_dropOldest_65 (fun H locs hw => ?_)
      obtain rfl := Option.some.inj hf
      exact z_vret hx hb hr hlk hw dX2_dropOldest_68
    have hf := hqj42
    refine lv_if_le (tgt := 58) hx hb dX2_dropOldest_42 (by decide) (fun c42 => ?_) (fun c42 => ?_)
    · have hf := (if_pos c42).symm.trans hf
      obtain rfl := Option.some.inj hf
      exact HJ58 ls H locs (lv_sub hl [0] rfl) hw
    · have hf := (if_neg c42).symm.trans hf
      refine lv_aload_n hx hb dX2_dropOldest_45 rfl (lv_at hl 0 rfl) ?_
      refine z_getr (o := 25) (o2 := 26) (C := RX2) (T := TX2) (N := 2) (ci := 1) (k := 0) hx hb Z hw (by decide) (by omega) rfl inX2 (by decide) rfl wd171 dX2_dropOldest_46 ?_
      refine lv_aload_n hx hb dX2_dropOldest_49 rfl (lv_at hl 0 rfl) ?_
      refine z_getr (o := 25) (o2 := 26) (C := RX2) (T := TX2) (N := 2) (ci := 1) (k := 0) hx hb Z hw (by decide) (by omega) rfl inX2 (by decide) rfl wd171 dX2_dropOldest_50 ?_
      refine z_alen (o := 26) (v := (4 : Int32)) hx hb Z hw (by decide) (by omega) (by decide) dX2_dropOldest_53 ?_
      refine lv_iconst (v := (1 : Int32)) hx hb dX2_dropOldest_54 (by decide) ?_
      refine lv_isub hx hb dX2_dropOldest_55 ?_
      refine lv_aload_n hx hb dX2_dropOldest_56 rfl (lv_at hl 1 rfl) ?_
      obtain ⟨h57, hf⟩ := gd_some hf
      refine z_sast (o := 26) (x := f_X2_stateAt (0 : Int32) h) hx hb Z hw (by decide) (by omega) hN (inB_vp h57) hs2 dX2_dropOldest_57 (fun H locs hw => ?_)
      obtain rfl := Option.some.inj hf
      exact HJ58 ls H locs (lv_sub hl [0] rfl) hw
set_option maxHeartbeats 4000000 in
set_option maxRecDepth 100000 in
theorem t_X1_copyFrom (G : GM) (l : Launch) (hN : 70 ≤ gN G) (o0 : Nat) (k_o0 : kd o0 = 0) (n_o0 : o0 < gN G) (o1 : Nat) (k_o1 : kd o1 = 0) (n_o1 : o1 < gN G) (h : HP) {h' : HP} (hf : f_X1_copyFrom o0 o1 h = h') : MC G l yX1_copyFrom cX1_copyFrom 2 none 0 [.ref (ra G o0), .ref (ra G o1)] h h' none := by
  unfold f_X1_copyFrom at hf
  refine z_start (by decide) (Nat.le_of_ble_eq_true rfl) ?_
  intro p e s m args below meth c ls hx hb hr hlk hml Z hw hl
  have Z : ZK G s args m RX1 := Z
  have hl : lv_has ls 2 [(0, .ref (ra G o0)), (1, .ref (ra G o1))] := hl
  obtain ⟨H, hH⟩ : ∃ H, H = s.heap := ⟨_, rfl⟩
  rw [← hH] at hw ⊢
  obtain ⟨locs, hlc⟩ : ∃ locs : List Loc, locs = [] := ⟨_, rfl⟩
  rw [← hlc] at hw ⊢
  refine lv_aload_n hx hb dX1_copyFrom_0 rfl (lv_at hl 0 rfl) ?_
  refine lv_aload_n hx hb dX1_copyFrom_1 rfl (lv_at hl 1 rfl) ?_
  refine z_geti (o := o1) (C := RX1) (T := TX1) (N := 6) (ci := 0) (k := 0) hx hb Z hw k_o1 n_o1 rfl inX1 (by decide) wd118 dX1_copyFrom_2 ?_
  refine z_puti (o := o0) (v := h o1 0) (ty := .int) (C := RX1) (T := TX1) (N := 6) (ci := 0) (k := 0) hx hb Z hw k_o0 n_o0 rfl inX1 tyX1 tyX1_ok nmX1 (by decide) wd118 rfl (by decide +kernel) rfl rfl dX1_copyFrom_5 (fun H locs hw => ?_)
  refine lv_aload_n hx hb dX1_copyFrom_8 rfl (lv_at hl 0 rfl) ?_
  refine lv_aload_n hx hb dX1_copyFrom_9 rfl (lv_at hl 1 rfl) ?_
  obtain ⟨h10, hqh10, hf⟩ := tb_ex hf
  rw [hqh10] at hw
  refine z_geti (o := o1) (C := RX1) (T := TX1) (N := 6) (ci := 0) (k := 1) hx hb Z hw k_o1 n_o1 rfl inX1 (by decide) wd120 dX1_copyFrom_10 ?_
  refine z_puti (o := o0) (v := h10 o1 1) (ty := .int) (C := RX1) (T := TX1) (N := 6) (ci := 0) (k := 1) hx hb Z hw k_o0 n_o0 rfl inX1 tyX1 tyX1_ok nmX1 (by decide) wd120 rfl (by decide +kernel) rfl rfl dX1_copyFrom_13 (fun H locs hw => ?_)
  refine lv_aload_n hx hb dX1_copyFrom_16 rfl (lv_at hl 0 rfl) ?_
  refine lv_aload_n hx hb dX1_copyFrom_17 rfl (lv_at hl 1 rfl) ?_
  obtain ⟨h18, hqh18, hf⟩ := tb_ex hf
  rw [hqh18] at hw
  refine z_geti (o := o1) (C := RX1) (T := TX1) (N := 6) (ci := 0) (k := 2) hx hb Z hw k_o1 n_o1 rfl inX1 (by decide) wd122 dX1_copyFrom_18 ?_
  refine z_puti (o := o0) (v := h18 o1 2) (ty := .int) (C := RX1) (T := TX1) (N := 6) (ci := 0) (k := 2) hx hb Z hw k_o0 n_o0 rfl inX1 tyX1 tyX1_ok nmX1 (by decide) wd122 rfl (by decide +kernel) rfl rfl dX1_copyFrom_21 (fun H locs hw => ?_)
  refine lv_aload_n hx hb dX1_copyFrom_24 rfl (lv_at hl 0 rfl) ?_
  refine lv_aload_n hx hb dX1_copyFrom_25 rfl (lv_at hl 1 rfl) ?_
  obtain ⟨h26, hqh26, hf⟩ := tb_ex hf
  rw [hqh26] at hw
  refine z_geti (o := o1) (C := RX1) (T := TX1) (N := 6) (ci := 0) (k := 3) hx hb Z hw k_o1 n_o1 rfl inX1 (by decide) wd124 dX1_copyFrom_26 ?_
  refine z_puti (o := o0) (v := h26 o1 3) (ty := .int) (C := RX1) (T := TX1) (N := 6) (ci := 0) (k := 3) hx hb Z hw k_o0 n_o0 rfl inX1 tyX1 tyX1_ok nmX1 (by decide) wd124 rfl (by decide +kernel) rfl rfl dX1_copyFrom_29 (fun H locs hw => ?_)
  refine lv_aload_n hx hb dX1_copyFrom_32 rfl (lv_at hl 0 rfl) ?_
  refine lv_aload_n hx hb dX1_copyFrom_33 rfl (lv_at hl 1 rfl) ?_
  obtain ⟨h34, hqh34, hf⟩ := tb_ex hf
  rw [hqh34] at hw
  refine z_geti (o := o1) (C := RX1) (T := TX1) (N := 6) (ci := 0) (k := 4) hx hb Z hw k_o1 n_o1 rfl inX1 (by decide) wd126 dX1_copyFrom_34 ?_
  refine z_puti (o := o0) (v := h34 o1 4) (ty := .int) (C := RX1) (T := TX1) (N := 6) (ci := 0) (k := 4) hx hb Z hw k_o0 n_o0 rfl inX1 tyX1 tyX1_ok nmX1 (by decide) wd126 rfl (by decide +kernel) rfl rfl dX1_copyFrom_37 (fun H locs hw => ?_)
  refine lv_aload_n hx hb dX1_copyFrom_40 rfl (lv_at hl 0 rfl) ?_
  refine lv_aload_n hx hb dX1_copyFrom_41 rfl (lv_at hl 1 rfl) ?_
  obtain ⟨h42, hqh42, hf⟩ := tb_ex hf
  rw [hqh42] at hw
  refine z_geti (o := o1) (C := RX1) (T := TX1) (N := 6) (ci := 0) (k := 5) hx hb Z hw k_o1 n_o1 rfl inX1 (by decide) wd128 dX1_copyFrom_42 ?_
  refine z_puti (o := o0) (v := h42 o1 5) (ty := .int) (C := RX1) (T := TX1) (N := 6) (ci := 0) (k := 5) hx hb Z hw k_o0 n_o0 rfl inX1 tyX1 tyX1_ok nmX1 (by decide) wd128 rfl (by decide +kernel) rfl rfl dX1_copyFrom_45 (fun H locs hw => ?_)
  obtain rfl := hf
  exact z_vret hx hb hr hlk hw dX1_copyFrom_48
set_option maxHeartbeats 4000000 in
set_option maxRecDepth 100000 in
theorem t_X4_copyFrom (G : GM) (l : Launch) (hN : 70 ≤ gN G) (o0 : Nat) (k_o0 : kd o0 = 3) (n_o0 : o0 < gN G) (o1 : Nat) (k_o1 : kd o1 = 3) (n_o1 : o1 < gN G) (h : HP) {h' : HP} (hf : f_X4_copyFrom o0 o1 h = h') : MC G l yX4_copyFrom cX4_copyFrom 2 none 0 [.ref (ra G o0), .ref (ra G o1)] h h' none := by
  unfold f_X4_copyFrom at hf
  refine z_start (by decide) (Nat.le_of_ble_eq_true rfl) ?_
  intro p e s m args below meth c ls hx hb hr hlk hml Z hw hl
  have Z : ZK G s args m RX4 := Z
  have hl : lv_has ls 2 [(0, .ref (ra G o0)), (1, .ref (ra G o1))] := hl
  obtain ⟨H, hH⟩ : ∃ H, H = s.heap := ⟨_, rfl⟩
  rw [← hH] at hw ⊢
  obtain ⟨locs, hlc⟩ : ∃ locs : List Loc, locs = [] := ⟨_, rfl⟩
  rw [← hlc] at hw ⊢
  refine lv_aload_n hx hb dX4_copyFrom_0 rfl (lv_at hl 1 rfl) ?_
  refine z_getr (o := o1) (o2 := o1 + 1) (C := RX4) (T := TX4) (N := 2) (ci := 3) (k := 0) hx hb Z hw k_o1 n_o1 rfl inX4 (by decide) rfl wd85 dX4_copyFrom_1 ?_
  refine lv_iconst (v := (0 : Int32)) hx hb dX4_copyFrom_4 (by decide) ?_
  refine lv_aload_n hx hb dX4_copyFrom_5 rfl (lv_at hl 0 rfl) ?_
  refine z_getr (o := o0) (o2 := o0 + 1) (C := RX4) (T := TX4) (N := 2) (ci := 3) (k := 0) hx hb Z hw k_o0 n_o0 rfl inX4 (by decide) rfl wd85 dX4_copyFrom_6 ?_
  refine lv_iconst (v := (0 : Int32)) hx hb dX4_copyFrom_9 (by decide) ?_
  refine lv_bipush (v := (32 : Int32)) hx hb dX4_copyFrom_10 (by decide) ?_
  refine z_copy (src := o1 + 1) (dst := o0 + 1) (n := 32) hx hb hml hl.1 Z hw (kd_C_1 k_o1) (by have := kd_C_n k_o1; omega) (kd_C_1 k_o0) (by have := kd_C_n k_o0; omega) wd281 ⟨wd283, wd282, wd33⟩ ⟨by decide, by decide, (by rw [ln_C_1 k_o1]; decide), (by rw [ln_C_1 k_o0]; decide)⟩ (Nat.le_of_ble_eq_true rfl) dX4_copyFrom_12 (fun H locs hw => ?_)
  refine lv_aload_n hx hb dX4_copyFrom_15 rfl (lv_at hl 0 rfl) ?_
  refine lv_aload_n hx hb dX4_copyFrom_16 rfl (lv_at hl 1 rfl) ?_
  obtain ⟨h17, hqh17, hf⟩ := tb_ex hf
  rw [hqh17] at hw
  refine z_geti (o := o1) (C := RX4) (T := TX4) (N := 2) (ci := 3) (k := 1) hx hb Z hw k_o1 n_o1 rfl inX4 (by decide) wd86 dX4_copyFrom_17 ?_
  refine z_puti (o := o0) (v := h17 o1 1) (ty := .int) (C := RX4) (T := TX4) (N := 2) (ci := 3) (k := 1) hx hb Z hw k_o0 n_o0 rfl inX4 tyX4 tyX4_ok nmX4 (by decide) wd86 rfl (by decide +kernel) rfl rfl dX4_copyFrom_20 (fun H locs hw => ?_)
  obtain rfl := hf
  exact z_vret hx hb hr hlk hw dX4_copyFrom_23
set_option maxHeartbeats 4000000 in
set_option maxRecDepth 100000 in
theorem t_X5_copyFrom (G : GM) (l : Launch) (hN : 70 ≤ gN G) (o0 : Nat) (k_o0 : kd o0 = 4) (n_o0 : o0 < gN G) (o1 : Nat) (k_o1 : kd o1 = 4) (n_o1 : o1 < gN G) (h : HP) {h' : HP} (hf : f_X5_copyFrom o0 o1 h = h') : MC G l yX5_copyFrom cX5_copyFrom 2 none 0 [.ref (ra G o0), .ref (ra G o1)] h h' none := by
  unfold f_X5_copyFrom at hf
  refine z_start (by decide) (Nat.le_of_ble_eq_true rfl) ?_
  intro p e s m args below meth c ls hx hb hr hlk hml Z hw hl
  have Z : ZK G s args m RX5 := Z
  have hl : lv_has ls 2 [(0, .ref (ra G o0)), (1, .ref (ra G o1))] := hl
  obtain ⟨H, hH⟩ : ∃ H, H = s.heap := ⟨_, rfl⟩
  rw [← hH] at hw ⊢
  obtain ⟨locs, hlc⟩ : ∃ locs : List Loc, locs = [] := ⟨_, rfl⟩
  rw [← hlc] at hw ⊢
  refine lv_aload_n hx hb dX5_copyFrom_0 rfl (lv_at hl 0 rfl) ?_
  refine lv_aload_n hx hb dX5_copyFrom_1 rfl (lv_at hl 1 rfl) ?_
  refine z_geti (o := o1) (C := RX5) (T := TX5) (N := 6) (ci := 4) (k := 0) hx hb Z hw k_o1 n_o1 rfl inX5 (by decide) wd56 dX5_copyFrom_2 ?_
  refine z_puti (o := o0) (v := h o1 0) (ty := .int) (C := RX5) (T := TX5) (N := 6) (ci := 4) (k := 0) hx hb Z hw k_o0 n_o0 rfl inX5 tyX5 tyX5_ok nmX5 (by decide) wd56 rfl (by decide +kernel) rfl rfl dX5_copyFrom_5 (fun H locs hw => ?_)
  refine lv_aload_n hx hb dX5_copyFrom_8 rfl (lv_at hl 0 rfl) ?_
  refine lv_aload_n hx hb dX5_copyFrom_9 rfl (lv_at hl 1 rfl) ?_
  obtain ⟨h10, hqh10, hf⟩ := tb_ex hf
  rw [hqh10] at hw
  refine z_geti (o := o1) (C := RX5) (T := TX5) (N := 6) (ci := 4) (k := 1) hx hb Z hw k_o1 n_o1 rfl inX5 (by decide) wd57 dX5_copyFrom_10 ?_
  refine z_puti (o := o0) (v := h10 o1 1) (ty := .int) (C := RX5) (T := TX5) (N := 6) (ci := 4) (k := 1) hx hb Z hw k_o0 n_o0 rfl inX5 tyX5 tyX5_ok nmX5 (by decide) wd57 rfl (by decide +kernel) rfl rfl dX5_copyFrom_13 (fun H locs hw => ?_)
  refine lv_aload_n hx hb dX5_copyFrom_16 rfl (lv_at hl 0 rfl) ?_
  refine lv_aload_n hx hb dX5_copyFrom_17 rfl (lv_at hl 1 rfl) ?_
  obtain ⟨h18, hqh18, hf⟩ := tb_ex hf
  rw [hqh18] at hw
  refine z_geti (o := o1) (C := RX5) (T := TX5) (N := 6) (ci := 4) (k := 2) hx hb Z hw k_o1 n_o1 rfl inX5 (by decide) wd58 dX5_copyFrom_18 ?_
  refine z_puti (o := o0) (v := h18 o1 2) (ty := .int) (C := RX5) (T := TX5) (N := 6) (ci := 4) (k := 2) hx hb Z hw k_o0 n_o0 rfl inX5 tyX5 tyX5_ok nmX5 (by decide) wd58 rfl (by decide +kernel) rfl rfl dX5_copyFrom_21 (fun H locs hw => ?_)
  refine lv_aload_n hx hb dX5_copyFrom_24 rfl (lv_at hl 0 rfl) ?_
  refine lv_aload_n hx hb dX5_copyFrom_25 rfl (lv_at hl 1 rfl) ?_
  obtain ⟨h26, hqh26, hf⟩ := tb_ex hf
  rw [hqh26] at hw
  refine z_geti (o := o1) (C := RX5) (T := TX5) (N := 6) (ci := 4) (k := 3) hx hb Z hw k_o1 n_o1 rfl inX5 (by decide) wd60 dX5_copyFrom_26 ?_
  refine z_puti (o := o0) (v := h26 o1 3) (ty := .int) (C := RX5) (T := TX5) (N := 6) (ci := 4) (k := 3) hx hb Z hw k_o0 n_o0 rfl inX5 tyX5 tyX5_ok nmX5 (by decide) wd60 rfl (by decide +kernel) rfl rfl dX5_copyFrom_29 (fun H locs hw => ?_)
  refine lv_aload_n hx hb dX5_copyFrom_32 rfl (lv_at hl 0 rfl) ?_
  refine lv_aload_n hx hb dX5_copyFrom_33 rfl (lv_at hl 1 rfl) ?_
  obtain ⟨h34, hqh34, hf⟩ := tb_ex hf
  rw [hqh34] at hw
  refine z_geti (o := o1) (C := RX5) (T := TX5) (N := 6) (ci := 4) (k := 4) hx hb Z hw k_o1 n_o1 rfl inX5 (by decide) wd62 dX5_copyFrom_34 ?_
  refine z_puti (o := o0) (v := h34 o1 4) (ty := .int) (C := RX5) (T := TX5) (N := 6) (ci := 4) (k := 4) hx hb Z hw k_o0 n_o0 rfl inX5 tyX5 tyX5_ok nmX5 (by decide) wd62 rfl (by decide +kernel) rfl rfl dX5_copyFrom_37 (fun H locs hw => ?_)
  refine lv_aload_n hx hb dX5_copyFrom_40 rfl (lv_at hl 0 rfl) ?_
  refine lv_aload_n hx hb dX5_copyFrom_41 rfl (lv_at hl 1 rfl) ?_
  obtain ⟨h42, hqh42, hf⟩ := tb_ex hf
  rw [hqh42] at hw
  refine z_geti (o := o1) (C := RX5) (T := TX5) (N := 6) (ci := 4) (k := 5) hx hb Z hw k_o1 n_o1 rfl inX5 (by decide) wd64 dX5_copyFrom_42 ?_
  refine z_puti (o := o0) (v := h42 o1 5) (ty := .int) (C := RX5) (T := TX5) (N := 6) (ci := 4) (k := 5) hx hb Z hw k_o0 n_o0 rfl inX5 tyX5 tyX5_ok nmX5 (by decide) wd64 rfl (by decide +kernel) rfl rfl dX5_copyFrom_45 (fun H locs hw => ?_)
  obtain rfl := hf
  exact z_vret hx hb hr hlk hw dX5_copyFrom_48
set_option maxHeartbeats 4000000 in
set_option maxRecDepth 100000 in
theorem t_X8_copyFrom (G : GM) (l : Launch) (hN : 70 ≤ gN G) (o0 : Nat) (k_o0 : kd o0 = 7) (n_o0 : o0 < gN G) (o1 : Nat) (k_o1 : kd o1 = 7) (n_o1 : o1 < gN G) (h : HP) {h' : HP} (hf : f_X8_copyFrom o0 o1 h = h') : MC G l yX8_copyFrom cX8_copyFrom 2 none 0 [.ref (ra G o0), .ref (ra G o1)] h h' none := by
  unfold f_X8_copyFrom at hf
  refine z_start (by decide) (Nat.le_of_ble_eq_true rfl) ?_
  intro p e s m args below meth c ls hx hb hr hlk hml Z hw hl
  have Z : ZK G s args m RX8 := Z
  have hl : lv_has ls 2 [(0, .ref (ra G o0)), (1, .ref (ra G o1))] := hl
  obtain ⟨H, hH⟩ : ∃ H, H = s.heap := ⟨_, rfl⟩
  rw [← hH] at hw ⊢
  obtain ⟨locs, hlc⟩ : ∃ locs : List Loc, locs = [] := ⟨_, rfl⟩
  rw [← hlc] at hw ⊢
  refine lv_aload_n hx hb dX8_copyFrom_0 rfl (lv_at hl 1 rfl) ?_
  refine z_getr (o := o1) (o2 := o1 + 1) (C := RX8) (T := TX8) (N := 3) (ci := 7) (k := 0) hx hb Z hw k_o1 n_o1 rfl inX8 (by decide) rfl wd101 dX8_copyFrom_1 ?_
  refine lv_iconst (v := (0 : Int32)) hx hb dX8_copyFrom_4 (by decide) ?_
  refine lv_aload_n hx hb dX8_copyFrom_5 rfl (lv_at hl 0 rfl) ?_
  refine z_getr (o := o0) (o2 := o0 + 1) (C := RX8) (T := TX8) (N := 3) (ci := 7) (k := 0) hx hb Z hw k_o0 n_o0 rfl inX8 (by decide) rfl wd101 dX8_copyFrom_6 ?_
  refine lv_iconst (v := (0 : Int32)) hx hb dX8_copyFrom_9 (by decide) ?_
  refine lv_bipush (v := (40 : Int32)) hx hb dX8_copyFrom_10 (by decide) ?_
  refine z_copy (src := o1 + 1) (dst := o0 + 1) (n := 40) hx hb hml hl.1 Z hw (kd_Y_1 k_o1) (by have := kd_Y_n k_o1; omega) (kd_Y_1 k_o0) (by have := kd_Y_n k_o0; omega) wd288 ⟨wd283, wd282, wd33⟩ ⟨by decide, by decide, (by rw [ln_Y_1 k_o1]; decide), (by rw [ln_Y_1 k_o0]; decide)⟩ (Nat.le_of_ble_eq_true rfl) dX8_copyFrom_12 (fun H locs hw => ?_)
  refine lv_aload_n hx hb dX8_copyFrom_15 rfl (lv_at hl 1 rfl) ?_
  obtain ⟨h16, hqh16, hf⟩ := tb_ex hf
  rw [hqh16] at hw
  refine z_getr (o := o1) (o2 := o1 + 2) (C := RX8) (T := TX8) (N := 3) (ci := 7) (k := 1) hx hb Z hw k_o1 n_o1 rfl inX8 (by decide) rfl wd102 dX8_copyFrom_16 ?_
  refine lv_iconst (v := (0 : Int32)) hx hb dX8_copyFrom_19 (by decide) ?_
  refine lv_aload_n hx hb dX8_copyFrom_20 rfl (lv_at hl 0 rfl) ?_
  refine z_getr (o := o0) (o2 := o0 + 2) (C := RX8) (T := TX8) (N := 3) (ci := 7) (k := 1) hx hb Z hw k_o0 n_o0 rfl inX8 (by decide) rfl wd102 dX8_copyFrom_21 ?_
  refine lv_iconst (v := (0 : Int32)) hx hb dX8_copyFrom_24 (by decide) ?_
  refine lv_bipush (v := (40 : Int32)) hx hb dX8_copyFrom_25 (by decide) ?_
  refine z_copy (src := o1 + 2) (dst := o0 + 2) (n := 40) hx hb hml hl.1 Z hw (kd_Y_2 k_o1) (by have := kd_Y_n k_o1; omega) (kd_Y_2 k_o0) (by have := kd_Y_n k_o0; omega) wd288 ⟨wd283, wd282, wd33⟩ ⟨by decide, by decide, (by rw [ln_Y_2 k_o1]; decide), (by rw [ln_Y_2 k_o0]; decide)⟩ (Nat.le_of_ble_eq_true rfl) dX8_copyFrom_27 (fun H locs hw => ?_)
  refine lv_aload_n hx hb dX8_copyFrom_30 rfl (lv_at hl 0 rfl) ?_
  refine lv_aload_n hx hb dX8_copyFrom_31 rfl (lv_at hl 1 rfl) ?_
  obtain ⟨h32, hqh32, hf⟩ := tb_ex hf
  rw [hqh32] at hw
  refine z_geti (o := o1) (C := RX8) (T := TX8) (N := 3) (ci := 7) (k := 2) hx hb Z hw k_o1 n_o1 rfl inX8 (by decide) wd103 dX8_copyFrom_32 ?_
  refine z_puti (o := o0) (v := h32 o1 2) (ty := .int) (C := RX8) (T := TX8) (N := 3) (ci := 7) (k := 2) hx hb Z hw k_o0 n_o0 rfl inX8 tyX8 tyX8_ok nmX8 (by decide) wd103 rfl (by decide +kernel) rfl rfl dX8_copyFrom_35 (fun H locs hw => ?_)
  obtain rfl := hf
  exact z_vret hx hb hr hlk hw dX8_copyFrom_38
set_option maxHeartbeats 4000000 in
set_option maxRecDepth 100000 in
theorem t_X6_copyFrom (G : GM) (l : Launch) (hN : 70 ≤ gN G) (o0 : Nat) (k_o0 : kd o0 = 5) (n_o0 : o0 < gN G) (o1 : Nat) (k_o1 : kd o1 = 5) (n_o1 : o1 < gN G) (h : HP) {h' : HP} (hf : f_X6_copyFrom o0 o1 h = h') : MC G l yX6_copyFrom cX6_copyFrom 2 none 1 [.ref (ra G o0), .ref (ra G o1)] h h' none := by
  unfold f_X6_copyFrom at hf
  refine z_start (by decide) (Nat.le_of_ble_eq_true rfl) ?_
  intro p e s m args below meth c ls hx hb hr hlk hml Z hw hl
  have Z : ZK G s args m RX6 := Z
  have hl : lv_has ls 2 [(0, .ref (ra G o0)), (1, .ref (ra G o1))] := hl
  obtain ⟨H, hH⟩ : ∃ H, H = s.heap := ⟨_, rfl⟩
  rw [← hH] at hw ⊢
  obtain ⟨locs, hlc⟩ : ∃ locs : List Loc, locs = [] := ⟨_, rfl⟩
  rw [← hlc] at hw ⊢
  refine lv_aload_n hx hb dX6_copyFrom_0 rfl (lv_at hl 0 rfl) ?_
  refine z_getr (o := o0) (o2 := o0 + 1) (C := RX6) (T := TX6) (N := 4) (ci := 5) (k := 0) hx hb Z hw k_o0 n_o0 rfl inX6 (by decide) rfl wd143 dX6_copyFrom_1 ?_
  refine lv_aload_n hx hb dX6_copyFrom_4 rfl (lv_at hl 1 rfl) ?_
  refine z_getr (o := o1) (o2 := o1 + 1) (C := RX6) (T := TX6) (N := 4) (ci := 5) (k := 0) hx hb Z hw k_o1 n_o1 rfl inX6 (by decide) rfl wd143 dX6_copyFrom_5 ?_
  obtain ⟨q8, hq8, hf⟩ := tb_ex hf
  refine z_callVv (o := o0 + 1) (ci := 4) (As := [.ref (ra G (o1 + 1))]) (rest := []) (t_X5_copyFrom G l hN (o0 + 1) (kd_S_1 k_o0) (by have := kd_S_n k_o0; omega) (o1 + 1) (kd_S_1 k_o1) (by have := kd_S_n k_o1; omega) h hq8) cv_X5_copyFrom hx hb hml hl.1 Z hw (kd_S_1 k_o0) (by decide) (by have := kd_S_n k_o0; omega) rfl rfl wd273 rfl rfl (Nat.le_of_ble_eq_true rfl) (by decide) dX6_copyFrom_8 (fun H locs hw => ?_)
  refine lv_aload_n hx hb dX6_copyFrom_11 rfl (lv_at hl 0 rfl) ?_
  refine z_getr (o := o0) (o2 := o0 + 2) (C := RX6) (T := TX6) (N := 4) (ci := 5) (k := 1) hx hb Z hw k_o0 n_o0 rfl inX6 (by decide) rfl wd146 dX6_copyFrom_12 ?_
  refine lv_aload_n hx hb dX6_copyFrom_15 rfl (lv_at hl 1 rfl) ?_
  refine z_getr (o := o1) (o2 := o1 + 2) (C := RX6) (T := TX6) (N := 4) (ci := 5) (k := 1) hx hb Z hw k_o1 n_o1 rfl inX6 (by decide) rfl wd146 dX6_copyFrom_16 ?_
  obtain ⟨q19, hq19, hf⟩ := tb_ex hf
  refine z_callVv (o := o0 + 2) (ci := 3) (As := [.ref (ra G (o1 + 2))]) (rest := []) (t_X4_copyFrom G l hN (o0 + 2) (kd_S_2 k_o0) (by have := kd_S_n k_o0; omega) (o1 + 2) (kd_S_2 k_o1) (by have := kd_S_n k_o1; omega) q8 hq19) cv_X4_copyFrom hx hb hml hl.1 Z hw (kd_S_2 k_o0) (by decide) (by have := kd_S_n k_o0; omega) rfl rfl wd277 rfl rfl (Nat.le_of_ble_eq_true rfl) (by decide) dX6_copyFrom_19 (fun H locs hw => ?_)
  refine lv_aload_n hx hb dX6_copyFrom_22 rfl (lv_at hl 0 rfl) ?_
  refine z_getr (o := o0) (o2 := o0 + 4) (C := RX6) (T := TX6) (N := 4) (ci := 5) (k := 2) hx hb Z hw k_o0 n_o0 rfl inX6 (by decide) rfl wd149 dX6_copyFrom_23 ?_
  refine lv_aload_n hx hb dX6_copyFrom_26 rfl (lv_at hl 1 rfl) ?_
  refine z_getr (o := o1) (o2 := o1 + 4) (C := RX6) (T := TX6) (N := 4) (ci := 5) (k := 2) hx hb Z hw k_o1 n_o1 rfl inX6 (by decide) rfl wd149 dX6_copyFrom_27 ?_
  obtain ⟨q30, hq30, hf⟩ := tb_ex hf
  refine z_callVv (o := o0 + 4) (ci := 7) (As := [.ref (ra G (o1 + 4))]) (rest := []) (t_X8_copyFrom G l hN (o0 + 4) (kd_S_4 k_o0) (by have := kd_S_n k_o0; omega) (o1 + 4) (kd_S_4 k_o1) (by have := kd_S_n k_o1; omega) q19 hq30) cv_X8_copyFrom hx hb hml hl.1 Z hw (kd_S_4 k_o0) (by decide) (by have := kd_S_n k_o0; omega) rfl rfl wd284 rfl rfl (Nat.le_of_ble_eq_true rfl) (by decide) dX6_copyFrom_30 (fun H locs hw => ?_)
  refine lv_aload_n hx hb dX6_copyFrom_33 rfl (lv_at hl 0 rfl) ?_
  refine z_getr (o := o0) (o2 := o0 + 7) (C := RX6) (T := TX6) (N := 4) (ci := 5) (k := 3) hx hb Z hw k_o0 n_o0 rfl inX6 (by decide) rfl wd151 dX6_copyFrom_34 ?_
  refine lv_aload_n hx hb dX6_copyFrom_37 rfl (lv_at hl 1 rfl) ?_
  refine z_getr (o := o1) (o2 := o1 + 7) (C := RX6) (T := TX6) (N := 4) (ci := 5) (k := 3) hx hb Z hw k_o1 n_o1 rfl inX6 (by decide) rfl wd151 dX6_copyFrom_38 ?_
  obtain ⟨q41, hq41, hf⟩ := tb_ex hf
  refine z_callVv (o := o0 + 7) (ci := 0) (As := [.ref (ra G (o1 + 7))]) (rest := []) (t_X1_copyFrom G l hN (o0 + 7) (kd_S_7 k_o0) (by have := kd_S_n k_o0; omega) (o1 + 7) (kd_S_7 k_o1) (by have := kd_S_n k_o1; omega) q30 hq41) cv_X1_copyFrom hx hb hml hl.1 Z hw (kd_S_7 k_o0) (by decide) (by have := kd_S_n k_o0; omega) rfl rfl wd289 rfl rfl (Nat.le_of_ble_eq_true rfl) (by decide) dX6_copyFrom_41 (fun H locs hw => ?_)
  obtain rfl := hf
  exact z_vret hx hb hr hlk hw dX6_copyFrom_44
set_option maxHeartbeats 4000000 in
set_option maxRecDepth 100000 in
theorem t_X2_add (G : GM) (l : Launch) (hN : 70 ≤ gN G) (o1 : Nat) (k_o1 : kd o1 = 5) (n_o1 : o1 < gN G) (h : HP) {h' : HP} (hf : f_X2_add o1 h = some h') : MC G l yX2_add cX2_add 3 none 2 [.ref (ra G 25), .ref (ra G o1)] h h' none := by
  unfold f_X2_add at hf
  refine z_start (by decide) (Nat.le_of_ble_eq_true rfl) ?_
  intro p e s m args below meth c ls hx hb hr hlk hml Z hw hl
  have Z : ZK G s args m RX2 := Z
  have hl : lv_has ls 3 [(0, .ref (ra G 25)), (1, .ref (ra G o1))] := hl
  obtain ⟨H, hH⟩ : ∃ H, H = s.heap := ⟨_, rfl⟩
  rw [← hH] at hw ⊢
  obtain ⟨locs, hlc⟩ : ∃ locs : List Loc, locs = [] := ⟨_, rfl⟩
  rw [← hlc] at hw ⊢
  refine lv_aload_n hx hb dX2_add_0 rfl (lv_at hl 0 rfl) ?_
  refine z_geti (o := 25) (C := RX2) (T := TX2) (N := 2) (ci := 1) (k := 1) hx hb Z hw (by decide) (by omega) rfl inX2 (by decide) wd172 dX2_add_1 ?_
  refine lv_iconst (v := (4 : Int32)) hx hb dX2_add_4 (by decide) ?_
  obtain ⟨j5, hqj5, hf⟩ := ob_some hf
  have HJ12 : ∀ (ls : Array Slot) (H : Heap) (locs : List Loc), lv_has ls 3 [(0, .ref (ra G 25)), (1, .ref (ra G o1))] → HW G j5 s H locs → WZ p l e 2 s m args below meth c G none h' H locs (F0 m 12 ls []) := by
    intro ls H locs hl hw
    refine lv_aload_n hx hb dX2_add_12 rfl (lv_at hl 0 rfl) ?_
    refine lv_aload_n hx hb dX2_add_13 rfl (lv_at hl 0 rfl) ?_
    refine z_geti (o := 25) (C := RX2) (T := TX2) (N := 2) (ci := 1) (k := 1) hx hb Z hw (by decide) (by omega) rfl inX2 (by decide) wd172 dX2_add_14 ?_
    refine z_callVi (o := 25) (ci := 1) (As := [.int (j5 25 1)]) (rest := []) (t_X2_stateAt G l hN (j5 25 1) j5) cv_X2_stateAt hx hb hml hl.1 Z hw (by decide) (by decide) (by omega) rfl rfl wd317 rfl rfl (Nat.le_of_ble_eq_true rfl) (by decide) dX2_add_17 (fun H locs hw => ?_)
    by_cases c17 : f_X2_stateAt (j5 25 1) j5 = 0
    · have hf := (if_pos c17).symm.trans hf
      rw [srf_z c17]
      refine lv_astore_nN (lv' := [(2, _), (0, _), (1, _)]) hx hb dX2_add_20 rfl hl (by decide) rfl (fun ls hl => ?_)
      refine lv_aload_nN hx hb dX2_add_21 rfl (lv_at hl 0 rfl) ?_
      refine lv_ifnullN (tgt := 40) hx hb dX2_add_22 (by decide) ?_
      obtain rfl := Option.some.inj hf
      exact z_vret hx hb hr hlk hw dX2_add_40
    · have hf := (if_neg c17).symm.trans hf
      obtain ⟨hs17, hf⟩ := gd_some hf
      rw [srf_nz c17]
      refine lv_astore_n (lv' := [(2, _), (0, _), (1, _)]) hx hb dX2_add_20 rfl hl (by decide) rfl (fun ls hl => ?_)
      refine lv_aload_n hx hb dX2_add_21 rfl (lv_at hl 0 rfl) ?_
      refine lv_ifnull hx hb dX2_add_22 ?_
      refine lv_aload_n hx hb dX2_add_25 rfl (lv_at hl 0 rfl) ?_
      refine lv_aload_n hx hb dX2_add_26 rfl (lv_at hl 2 rfl) ?_
      obtain ⟨q27, hq27, hf⟩ := tb_ex hf
      refine z_callVv (o := (f_X2_stateAt (j5 25 1) j5).toNatClampNeg) (ci := 5) (As := [.ref (ra G o1)]) (rest := []) (t_X6_copyFrom G l hN ((f_X2_stateAt (j5 25 1) j5).toNatClampNeg) (isSt_kd hs17) (isSt_n hs17 hN) o1 k_o1 n_o1 j5 hq27) cv_X6_copyFrom hx hb hml hl.1 Z hw (isSt_kd hs17) (by decide) (isSt_n hs17 hN) rfl rfl wd321 rfl rfl (Nat.le_of_ble_eq_true rfl) (by decide) dX2_add_27 (fun H locs hw => ?_)
      refine lv_aload_n hx hb dX2_add_30 rfl (lv_at hl 1 rfl) ?_
      refine lv_dup hx hb dX2_add_31 rfl ?_
      refine z_geti (o := 25) (C := RX2) (T := TX2) (N := 2) (ci := 1) (k := 1) hx hb Z hw (by decide) (by omega) rfl inX2 (by decide) wd172 dX2_add_32 ?_
      refine lv_iconst (v := (1 : Int32)) hx hb dX2_add_35 (by decide) ?_
      refine lv_iadd hx hb dX2_add_36 ?_
      refine z_puti (o := 25) (v := (q27 25 1) + (1 : Int32)) (ty := .int) (C := RX2) (T := TX2) (N := 2) (ci := 1) (k := 1) hx hb Z hw (by decide) (by omega) rfl inX2 tyX2 tyX2_ok nmX2 (by decide) wd172 rfl (by decide +kernel) rfl rfl dX2_add_37 (fun H locs hw => ?_)
      obtain rfl := Option.some.inj hf
      exact z_vret hx hb hr hlk hw dX2_add_40
  have hf := hqj5
  refine lv_icmp_lt (tgt := 12) hx hb dX2_add_5 (by decide) (fun c5 => ?_) (fun c5 => ?_)
  · have hf := (if_pos c5).symm.trans hf
    obtain rfl := Option.some.inj hf
    exact HJ12 ls H locs (lv_sub hl [0, 1] rfl) hw
  · have hf := (if_neg c5).symm.trans hf
    refine lv_aload_n hx hb dX2_add_8 rfl (lv_at hl 0 rfl) ?_
    obtain ⟨q9, hq9, hf⟩ := ob_some hf
    refine z_callVv (o := 25) (ci := 1) (As := []) (rest := []) (t_X2_dropOldest G l hN  h hq9) cv_X2_dropOldest hx hb hml hl.1 Z hw (by decide) (by decide) (by omega) rfl rfl wd313 rfl rfl (Nat.le_of_ble_eq_true rfl) (by decide) dX2_add_9 (fun H locs hw => ?_)
    obtain rfl := Option.some.inj hf
    exact HJ12 ls H locs (lv_sub hl [0, 1] rfl) hw
set_option maxHeartbeats 4000000 in
set_option maxRecDepth 100000 in
theorem t_X10_recorded (G : GM) (l : Launch) (hN : 70 ≤ gN G) (x1 : Int32) (h : HP) {r : Int32} {h' : HP} (hf : f_X10_recorded x1 h = some (r, h')) : MC G l yX10_recorded cX10_recorded 2 (some .int) 3 [.ref (ra G 0), .int x1] h h' (some (.int r)) := by
  unfold f_X10_recorded at hf
  refine z_start (by decide) (Nat.le_of_ble_eq_true rfl) ?_
  intro p e s m args below meth c ls hx hb hr hlk hml Z hw hl
  have Z : ZK G s args m RX10 := Z
  have hl : lv_has ls 2 [(0, .ref (ra G 0)), (1, .int x1)] := hl
  obtain ⟨H, hH⟩ : ∃ H, H = s.heap := ⟨_, rfl⟩
  rw [← hH] at hw ⊢
  obtain ⟨locs, hlc⟩ : ∃ locs : List Loc, locs = [] := ⟨_, rfl⟩
  rw [← hlc] at hw ⊢
  refine lv_iload_n hx hb dX10_recorded_0 rfl (lv_at hl 1 rfl) ?_
  refine lv_if_lt (tgt := 15) hx hb dX10_recorded_1 (by decide) (fun c1 => ?_) (fun c1 => ?_)
  · have hf := (if_pos c1).symm.trans hf
    refine lv_iload_n hx hb dX10_recorded_15 rfl (lv_at hl 1 rfl) ?_
    obtain ⟨rfl, rfl⟩ := Prod.mk.inj (Option.some.inj hf)
    exact z_iret hx hb hr hlk hw dX10_recorded_16
  · have hf := (if_neg c1).symm.trans hf
    refine lv_aload_n hx hb dX10_recorded_4 rfl (lv_at hl 0 rfl) ?_
    refine z_getr (o := 0) (o2 := 25) (C := RX10) (T := TX10) (N := 8) (ci := 8) (k := 4) hx hb Z hw (by decide) (by omega) rfl inX10 (by decide) rfl wd237 dX10_recorded_5 ?_
    refine lv_aload_n hx hb dX10_recorded_8 rfl (lv_at hl 0 rfl) ?_
    refine z_getr (o := 0) (o2 := 9) (C := RX10) (T := TX10) (N := 8) (ci := 8) (k := 1) hx hb Z hw (by decide) (by omega) rfl inX10 (by decide) rfl wd234 dX10_recorded_9 ?_
    obtain ⟨q12, hq12, hf⟩ := ob_some hf
    refine z_callVv (o := 25) (ci := 1) (As := [.ref (ra G 9)]) (rest := []) (t_X2_add G l hN 9 (by decide) (by omega) h hq12) cv_X2_add hx hb hml hl.1 Z hw (by decide) (by decide) (by omega) rfl rfl wd309 rfl rfl (Nat.le_of_ble_eq_true rfl) (by decide) dX10_recorded_12 (fun H locs hw => ?_)
    refine lv_iload_n hx hb dX10_recorded_15 rfl (lv_at hl 1 rfl) ?_
    obtain ⟨rfl, rfl⟩ := Prod.mk.inj (Option.some.inj hf)
    exact z_iret hx hb hr hlk hw dX10_recorded_16
set_option maxHeartbeats 4000000 in
set_option maxRecDepth 100000 in
theorem t_X10_press (G : GM) (l : Launch) (hN : 70 ≤ gN G) (x1 : Int32) (x2 : Int32) (x3 : Int32) (h : HP) {r : Int32} {h' : HP} (hf : f_X10_press x1 x2 x3 h = some (r, h')) : MC G l yX10_press cX10_press 4 (some .int) 4 [.ref (ra G 0), .int x1, .int x2, .int x3] h h' (some (.int r)) := by
  unfold f_X10_press at hf
  refine z_start (by decide) (Nat.le_of_ble_eq_true rfl) ?_
  intro p e s m args below meth c ls hx hb hr hlk hml Z hw hl
  have Z : ZK G s args m RX10 := Z
  have hl : lv_has ls 4 [(0, .ref (ra G 0)), (1, .int x1), (2, .int x2), (3, .int x3)] := hl
  obtain ⟨H, hH⟩ : ∃ H, H = s.heap := ⟨_, rfl⟩
  rw [← hH] at hw ⊢
  obtain ⟨locs, hlc⟩ : ∃ locs : List Loc, locs = [] := ⟨_, rfl⟩
  rw [← hlc] at hw ⊢
  refine lv_aload_n hx hb dX10_press_0 rfl (lv_at hl 0 rfl) ?_
  refine z_getr (o := 0) (o2 := 9) (C := RX10) (T := TX10) (N := 8) (ci := 8) (k := 1) hx hb Z hw (by decide) (by omega) rfl inX10 (by decide) rfl wd234 dX10_press_1 ?_
  refine lv_aload_n hx hb dX10_press_4 rfl (lv_at hl 0 rfl) ?_
  refine z_getr (o := 0) (o2 := 1) (C := RX10) (T := TX10) (N := 8) (ci := 8) (k := 0) hx hb Z hw (by decide) (by omega) rfl inX10 (by decide) rfl wd233 dX10_press_5 ?_
  obtain ⟨q8, hq8, hf⟩ := tb_ex hf
  refine z_callVv (o := 9) (ci := 5) (As := [.ref (ra G 1)]) (rest := []) (t_X6_copyFrom G l hN 9 (by decide) (by omega) 1 (by decide) (by omega) h hq8) cv_X6_copyFrom hx hb hml hl.1 Z hw (by decide) (by decide) (by omega) rfl rfl wd269 rfl rfl (Nat.le_of_ble_eq_true rfl) (by decide) dX10_press_8 (fun H locs hw => ?_)
  refine lv_aload_n hx hb dX10_press_11 rfl (lv_at hl 0 rfl) ?_
  refine lv_aload_n hx hb dX10_press_12 rfl (lv_at hl 0 rfl) ?_
  refine lv_iload_n hx hb dX10_press_13 rfl (lv_at hl 1 rfl) ?_
  refine lv_iload_n hx hb dX10_press_14 rfl (lv_at hl 2 rfl) ?_
  refine lv_iload_n hx hb dX10_press_15 rfl (lv_at hl 3 rfl) ?_
  obtain ⟨q16, hq16, hf⟩ := ob_some hf
  refine z_callVi (o := 0) (ci := 8) (As := [.int x1, .int x2, .int x3]) (rest := [.ref (ra G 0)]) (t_X10_pressSymbol G l hN x1 x2 x3 q8 hq16) cv_X10_pressSymbol hx hb hml hl.1 Z hw (by decide) (by decide) (by omega) rfl rfl wd481 rfl rfl (Nat.le_of_ble_eq_true rfl) (by decide) dX10_press_16 (fun H locs hw => ?_)
  obtain ⟨q19, hq19, hf⟩ := ob_some hf
  refine z_callVi (o := 0) (ci := 8) (As := [.int q16.1]) (rest := []) (t_X10_recorded G l hN q16.1 q16.2 hq19) cv_X10_recorded hx hb hml hl.1 Z hw (by decide) (by decide) (by omega) rfl rfl wd305 rfl rfl (Nat.le_of_ble_eq_true rfl) (by decide) dX10_press_19 (fun H locs hw => ?_)
  obtain ⟨rfl, rfl⟩ := Prod.mk.inj (Option.some.inj hf)
  exact z_iret hx hb hr hlk hw dX10_press_22
set_option maxHeartbeats 4000000 in
set_option maxRecDepth 100000 in
theorem t_X4_add (G : GM) (l : Launch) (hN : 70 ≤ gN G) (o0 : Nat) (k_o0 : kd o0 = 3) (n_o0 : o0 < gN G) (x1 : Int32) (x2 : Int32) (x3 : Int32) (x4 : Int32) (h : HP) {r : Int32} {h' : HP} (hf : f_X4_add o0 x1 x2 x3 x4 h = (r, h')) : MC G l yX4_add cX4_add 5 (some .boolean) 1 [.ref (ra G o0), .int x1, .int x2, .int x3, .int x4] h h' (some (.int r)) := by
  unfold f_X4_add at hf
  refine z_start (by decide) (Nat.le_of_ble_eq_true rfl) ?_
  intro p e s m args below meth c ls hx hb hr hlk hml Z hw hl
  have Z : ZK G s args m RX4 := Z
  have hl : lv_has ls 5 [(0, .ref (ra G o0)), (1, .int x1), (2, .int x2), (3, .int x3), (4, .int x4)] := hl
  obtain ⟨H, hH⟩ : ∃ H, H = s.heap := ⟨_, rfl⟩
  rw [← hH] at hw ⊢
  obtain ⟨locs, hlc⟩ : ∃ locs : List Loc, locs = [] := ⟨_, rfl⟩
  rw [← hlc] at hw ⊢
  refine lv_aload_n hx hb dX4_add_0 rfl (lv_at hl 0 rfl) ?_
  refine z_geti (o := o0) (C := RX4) (T := TX4) (N := 2) (ci := 3) (k := 1) hx hb Z hw k_o0 n_o0 rfl inX4 (by decide) wd86 dX4_add_1 ?_
  refine lv_bipush (v := (8 : Int32)) hx hb dX4_add_4 (by decide) ?_
  refine lv_icmp_lt (tgt := 11) hx hb dX4_add_6 (by decide) (fun c6 => ?_) (fun c6 => ?_)
  · have hf := (if_pos c6).symm.trans hf
    refine lv_aload_n hx hb dX4_add_11 rfl (lv_at hl 0 rfl) ?_
    refine z_getr (o := o0) (o2 := o0 + 1) (C := RX4) (T := TX4) (N := 2) (ci := 3) (k := 0) hx hb Z hw k_o0 n_o0 rfl inX4 (by decide) rfl wd85 dX4_add_12 ?_
    refine lv_aload_n hx hb dX4_add_15 rfl (lv_at hl 0 rfl) ?_
    refine z_geti (o := o0) (C := RX4) (T := TX4) (N := 2) (ci := 3) (k := 1) hx hb Z hw k_o0 n_o0 rfl inX4 (by decide) wd86 dX4_add_16 ?_
    refine lv_iconst (v := (4 : Int32)) hx hb dX4_add_19 (by decide) ?_
    refine lv_imul hx hb dX4_add_20 ?_
    refine lv_iload_n hx hb dX4_add_21 rfl (lv_at hl 1 rfl) ?_
    obtain ⟨q22, hq22, hf⟩ := tb_ex hf
    refine z_callNv (As := [.ref (ra G (o0 + 1)), .int ((h o0 1) * (4 : Int32)), .int x1]) (rest := []) (t_X10_put G l hN (o0 + 1) (kd_C_1 k_o0) (by have := kd_C_n k_o0; omega) ((h o0 1) * (4 : Int32)) x1 h hq22) cs_X10_put hx hb hml hl.1 Z hw wd458 rfl rfl (Nat.le_of_ble_eq_true rfl) (by decide) dX4_add_22 (fun H locs hw => ?_)
    refine lv_aload_n hx hb dX4_add_25 rfl (lv_at hl 0 rfl) ?_
    refine z_getr (o := o0) (o2 := o0 + 1) (C := RX4) (T := TX4) (N := 2) (ci := 3) (k := 0) hx hb Z hw k_o0 n_o0 rfl inX4 (by decide) rfl wd85 dX4_add_26 ?_
    refine lv_aload_n hx hb dX4_add_29 rfl (lv_at hl 0 rfl) ?_
    refine z_geti (o := o0) (C := RX4) (T := TX4) (N := 2) (ci := 3) (k := 1) hx hb Z hw k_o0 n_o0 rfl inX4 (by decide) wd86 dX4_add_30 ?_
    refine lv_iconst (v := (4 : Int32)) hx hb dX4_add_33 (by decide) ?_
    refine lv_imul hx hb dX4_add_34 ?_
    refine lv_iconst (v := (1 : Int32)) hx hb dX4_add_35 (by decide) ?_
    refine lv_iadd hx hb dX4_add_36 ?_
    refine lv_iload_n hx hb dX4_add_37 rfl (lv_at hl 2 rfl) ?_
    obtain ⟨q38, hq38, hf⟩ := tb_ex hf
    refine z_callNv (As := [.ref (ra G (o0 + 1)), .int (((q22 o0 1) * (4 : Int32)) + (1 : Int32)), .int x2]) (rest := []) (t_X10_put G l hN (o0 + 1) (kd_C_1 k_o0) (by have := kd_C_n k_o0; omega) (((q22 o0 1) * (4 : Int32)) + (1 : Int32)) x2 q22 hq38) cs_X10_put hx hb hml hl.1 Z hw wd458 rfl rfl (Nat.le_of_ble_eq_true rfl) (by decide) dX4_add_38 (fun H locs hw => ?_)
    refine lv_aload_n hx hb dX4_add_41 rfl (lv_at hl 0 rfl) ?_
    refine z_getr (o := o0) (o2 := o0 + 1) (C := RX4) (T := TX4) (N := 2) (ci := 3) (k := 0) hx hb Z hw k_o0 n_o0 rfl inX4 (by decide) rfl wd85 dX4_add_42 ?_
    refine lv_aload_n hx hb dX4_add_45 rfl (lv_at hl 0 rfl) ?_
    refine z_geti (o := o0) (C := RX4) (T := TX4) (N := 2) (ci := 3) (k := 1) hx hb Z hw k_o0 n_o0 rfl inX4 (by decide) wd86 dX4_add_46 ?_
    refine lv_iconst (v := (4 : Int32)) hx hb dX4_add_49 (by decide) ?_
    refine lv_imul hx hb dX4_add_50 ?_
    refine lv_iconst (v := (2 : Int32)) hx hb dX4_add_51 (by decide) ?_
    refine lv_iadd hx hb dX4_add_52 ?_
    refine lv_iload_n hx hb dX4_add_53 rfl (lv_at hl 3 rfl) ?_
    obtain ⟨q54, hq54, hf⟩ := tb_ex hf
    refine z_callNv (As := [.ref (ra G (o0 + 1)), .int (((q38 o0 1) * (4 : Int32)) + (2 : Int32)), .int x3]) (rest := []) (t_X10_put G l hN (o0 + 1) (kd_C_1 k_o0) (by have := kd_C_n k_o0; omega) (((q38 o0 1) * (4 : Int32)) + (2 : Int32)) x3 q38 hq54) cs_X10_put hx hb hml hl.1 Z hw wd458 rfl rfl (Nat.le_of_ble_eq_true rfl) (by decide) dX4_add_54 (fun H locs hw => ?_)
    refine lv_aload_n hx hb dX4_add_57 rfl (lv_at hl 0 rfl) ?_
    refine z_getr (o := o0) (o2 := o0 + 1) (C := RX4) (T := TX4) (N := 2) (ci := 3) (k := 0) hx hb Z hw k_o0 n_o0 rfl inX4 (by decide) rfl wd85 dX4_add_58 ?_
    refine lv_aload_n hx hb dX4_add_61 rfl (lv_at hl 0 rfl) ?_
    refine z_geti (o := o0) (C := RX4) (T := TX4) (N := 2) (ci := 3) (k := 1) hx hb Z hw k_o0 n_o0 rfl inX4 (by decide) wd86 dX4_add_62 ?_
    refine lv_iconst (v := (4 : Int32)) hx hb dX4_add_65 (by decide) ?_
    refine lv_imul hx hb dX4_add_66 ?_
    refine lv_iconst (v := (3 : Int32)) hx hb dX4_add_67 (by decide) ?_
    refine lv_iadd hx hb dX4_add_68 ?_
    refine lv_iload hx hb dX4_add_69 (lv_at hl 4 rfl) ?_
    obtain ⟨q71, hq71, hf⟩ := tb_ex hf
    refine z_callNv (As := [.ref (ra G (o0 + 1)), .int (((q54 o0 1) * (4 : Int32)) + (3 : Int32)), .int x4]) (rest := []) (t_X10_put G l hN (o0 + 1) (kd_C_1 k_o0) (by have := kd_C_n k_o0; omega) (((q54 o0 1) * (4 : Int32)) + (3 : Int32)) x4 q54 hq71) cs_X10_put hx hb hml hl.1 Z hw wd458 rfl rfl (Nat.le_of_ble_eq_true rfl) (by decide) dX4_add_71 (fun H locs hw => ?_)
    refine lv_aload_n hx hb dX4_add_74 rfl (lv_at hl 0 rfl) ?_
    refine lv_dup hx hb dX4_add_75 rfl ?_
    refine z_geti (o := o0) (C := RX4) (T := TX4) (N := 2) (ci := 3) (k := 1) hx hb Z hw k_o0 n_o0 rfl inX4 (by decide) wd86 dX4_add_76 ?_
    refine lv_iconst (v := (1 : Int32)) hx hb dX4_add_79 (by decide) ?_
    refine lv_iadd hx hb dX4_add_80 ?_
    refine z_puti (o := o0) (v := (q71 o0 1) + (1 : Int32)) (ty := .int) (C := RX4) (T := TX4) (N := 2) (ci := 3) (k := 1) hx hb Z hw k_o0 n_o0 rfl inX4 tyX4 tyX4_ok nmX4 (by decide) wd86 rfl (by decide +kernel) rfl rfl dX4_add_81 (fun H locs hw => ?_)
    refine lv_iconst (v := (1 : Int32)) hx hb dX4_add_84 (by decide) ?_
    obtain ⟨rfl, rfl⟩ := Prod.mk.inj hf
    exact z_zret hx hb hr rfl hlk hw dX4_add_85
  · have hf := (if_neg c6).symm.trans hf
    refine lv_iconst (v := (0 : Int32)) hx hb dX4_add_9 (by decide) ?_
    obtain ⟨rfl, rfl⟩ := Prod.mk.inj hf
    exact z_zret hx hb hr rfl hlk hw dX4_add_10
set_option maxHeartbeats 4000000 in
set_option maxRecDepth 100000 in
theorem w_X7_damagedIn_L10 (G : GM) (l : Launch) (hN : 70 ≤ gN G)  {p : Program} {e : Env} {s : State} {m : MethodId} {args : Array Value} {below : List Frame} {meth : Method} {c : Code} (hx : p.tables.exec = Jvm.exec) (hb : c.code = cX7_damagedIn) (hr : meth.sig.returnType = (some .int)) (hlk : meth.locks = false) (hml : c.maxLocals = 6) (Z : ZK G s args m RX7) : ∀ (n : Nat) (x2 : Int32) (x3 : Int32) (x4 : Int32) (x5 : Int32)  (h : HP)  (rv : Option Value) (hq : HP) (ls : Array Slot) (H : Heap) (locs : List Loc) {q : Int32}, lv_has ls 6 [(0, .ref (ra G 63)), (2, .int x2), (3, .int x3), (4, .int x4), (5, .int x5)] → HW G h s H locs → f_X7_damagedIn_L10 n x2 x3 x4 x5 h = some q → (∀ (ls : Array Slot) (H : Heap) (locs : List Loc), lv_has ls 6 [(4, .int q)] → HW G h s H locs → WZ p l e 0 s m args below meth c G rv hq H locs (F0 m 47 ls [])) → WZ p l e 0 s m args below meth c G rv hq H locs (F0 m 10 ls []) := by
  intro n
  induction n with
  | zero => intro x2 x3 x4 x5  h  rv hq ls H locs q hl hw hf kk; cases hf
  | succ n ih =>
    intro x2 x3 x4 x5  h  rv hq ls H locs q hl hw hf kk
    rw [f_X7_damagedIn_L10] at hf
    refine lv_iload hx hb dX7_damagedIn_10 (lv_at hl 4 rfl) ?_
    refine lv_iload_n hx hb dX7_damagedIn_12 rfl (lv_at hl 1 rfl) ?_
    refine lv_icmp_ge (tgt := 47) hx hb dX7_damagedIn_13 (by decide) (fun c13 => ?_) (fun c13 => ?_)
    · have hf := (if_pos c13).symm.trans hf
      obtain rfl := Option.some.inj hf
      exact kk ls H locs (lv_sub hl [3] rfl) hw
    · have hf := (if_neg c13).symm.trans hf
      refine lv_iload hx hb dX7_damagedIn_16 (lv_at hl 4 rfl) ?_
      refine lv_aload_n hx hb dX7_damagedIn_18 rfl (lv_at hl 0 rfl) ?_
      refine z_getr (o := 63) (o2 := 67) (C := RX7) (T := TX7) (N := 4) (ci := 6) (k := 2) hx hb Z hw (by decide) (by omega) rfl inX7 (by decide) rfl wd220 dX7_damagedIn_19 ?_
      refine z_alen (o := 67) (v := (3810 : Int32)) hx hb Z hw (by decide) (by omega) (by decide) dX7_damagedIn_22 ?_
      refine lv_icmp_ge (tgt := 47) hx hb dX7_damagedIn_23 (by decide) (fun c23 => ?_) (fun c23 => ?_)
      · have hf := (if_pos c23).symm.trans hf
        obtain rfl := Option.some.inj hf
        exact kk ls H locs (lv_sub hl [3] rfl) hw
      · have hf := (if_neg c23).symm.trans hf
        refine lv_aload_n hx hb dX7_damagedIn_26 rfl (lv_at hl 0 rfl) ?_
        refine z_getr (o := 63) (o2 := 67) (C := RX7) (T := TX7) (N := 4) (ci := 6) (k := 2) hx hb Z hw (by decide) (by omega) rfl inX7 (by decide) rfl wd220 dX7_damagedIn_27 ?_
        refine lv_iload hx hb dX7_damagedIn_30 (lv_at hl 4 rfl) ?_
        obtain ⟨h32, hf⟩ := gd_some hf
        refine y_iald (o := 67) (k := x5.toNatClampNeg) hx hb Z hw (by decide) (by omega) rfl (inB_vp h32) dX7_damagedIn_32 ?_
        refine lv_iload_n hx hb dX7_damagedIn_33 rfl (lv_at hl 2 rfl) ?_
        refine lv_iand hx hb dX7_damagedIn_34 ?_
        have HJ41 : ∀ (ls : Array Slot) (H : Heap) (locs : List Loc), lv_has ls 6 [(0, .ref (ra G 63)), (2, .int x2), (3, .int x3), (4, .int (if ((h 67 x5.toNatClampNeg) &&& x3) = 0 then x4 else (x4 + (1 : Int32)))), (5, .int x5)] → HW G h s H locs → WZ p l e 0 s m args below meth c G rv hq H locs (F0 m 41 ls []) := by
          intro ls H locs hl hw
          refine lv_iinc (v := x5 + (1 : Int32)) (lv' := [(5, _), (0, _), (2, _), (3, _), (4, _)]) hx hb dX7_damagedIn_41 hl (k := 4) rfl rfl (by decide) rfl (fun ls hl => ?_)
          refine lv_goto (tgt := 10) hx hb dX7_damagedIn_44 (by decide) ?_
          exact ih x2 x3 (if ((h 67 x5.toNatClampNeg) &&& x3) = 0 then x4 else (x4 + (1 : Int32))) (x5 + (1 : Int32)) h  rv hq ls H locs (lv_sub hl [1, 2, 3, 4, 0] rfl) hw hf kk
        refine lv_if_eq (tgt := 41) hx hb dX7_damagedIn_35 (by decide) (fun c35 => ?_) (fun c35 => ?_)
        · skip
          exact HJ41 ls H locs (by simp only [if_pos c35]; exact lv_sub hl [0, 1, 2, 3, 4] rfl) hw
        · skip
          refine lv_iinc (v := x4 + (1 : Int32)) (lv' := [(4, _), (0, _), (2, _), (3, _), (5, _)]) hx hb dX7_damagedIn_38 hl (k := 3) rfl rfl (by decide) rfl (fun ls hl => ?_)
          exact HJ41 ls H locs (by simp only [if_neg c35]; exact lv_sub hl [1, 2, 3, 0, 4] rfl) hw
set_option maxHeartbeats 4000000 in
set_option maxRecDepth 100000 in
theorem t_X7_damagedIn (G : GM) (l : Launch) (hN : 70 ≤ gN G) (x1 : Int32) (x2 : Int32) (x3 : Int32) (h : HP) {r : Int32} (hf : f_X7_damagedIn x1 x2 x3 h = some r) : MC G l yX7_damagedIn cX7_damagedIn 6 (some .int) 0 [.ref (ra G 63), .int x1, .int x2, .int x3] h h (some (.int r)) := by
  unfold f_X7_damagedIn at hf
  refine z_start (by decide) (Nat.le_of_ble_eq_true rfl) ?_
  intro p e s m args below meth c ls hx hb hr hlk hml Z hw hl
  have Z : ZK G s args m RX7 := Z
  have hl : lv_has ls 6 [(0, .ref (ra G 63)), (1, .int x1), (2, .int x2), (3, .int x3)] := hl
  obtain ⟨H, hH⟩ : ∃ H, H = s.heap := ⟨_, rfl⟩
  rw [← hH] at hw ⊢
  obtain ⟨locs, hlc⟩ : ∃ locs : List Loc, locs = [] := ⟨_, rfl⟩
  rw [← hlc] at hw ⊢
  refine lv_iconst (v := (0 : Int32)) hx hb dX7_damagedIn_0 (by decide) ?_
  refine lv_istore (lv' := [(4, _), (0, _), (1, _), (2, _), (3, _)]) hx hb dX7_damagedIn_1 hl (by decide) rfl (fun ls hl => ?_)
  refine lv_iload_n hx hb dX7_damagedIn_3 rfl (lv_at hl 2 rfl) ?_
  refine lv_iconst (v := (0 : Int32)) hx hb dX7_damagedIn_4 (by decide) ?_
  refine z_mmax hx hb (hml.trans hl.1.symm) Z wd386 wd387 wd35 wd388 (Nat.le_of_ble_eq_true rfl) dX7_damagedIn_5 ?_
  refine lv_istore (lv' := [(5, _), (4, _), (0, _), (1, _), (2, _), (3, _)]) hx hb dX7_damagedIn_8 hl (by decide) rfl (fun ls hl => ?_)
  obtain ⟨q10, hq10, hf⟩ := ob_some hf
  refine w_X7_damagedIn_L10 G l hN  hx hb hr hlk hml Z FU x2 x3 (0 : Int32) (jmax x1 (0 : Int32)) h  _ _ ls H locs (lv_sub hl [2, 4, 5, 1, 0] rfl) hw hq10 (fun ls H locs hl hw => ?_)
  refine lv_iload hx hb dX7_damagedIn_47 (lv_at hl 0 rfl) ?_
  obtain rfl := Option.some.inj hf
  exact z_iret hx hb hr hlk hw dX7_damagedIn_49
set_option maxHeartbeats 4000000 in
set_option maxRecDepth 100000 in
theorem w_X4_isLike_L19 (G : GM) (l : Launch) (hN : 70 ≤ gN G) (o0 : Nat) (k_o0 : kd o0 = 3) (n_o0 : o0 < gN G) (o1 : Nat) (k_o1 : kd o1 = 3) (n_o1 : o1 < gN G) {p : Program} {e : Env} {s : State} {m : MethodId} {args : Array Value} {below : List Frame} {meth : Method} {c : Code} (hx : p.tables.exec = Jvm.exec) (hb : c.code = cX4_isLike) (hr : meth.sig.returnType = (some .boolean)) (hlk : meth.locks = false) (hml : c.maxLocals = 4) (Z : ZK G s args m RX4) : ∀ (n : Nat) (x2 : Int32) (x3 : Int32)  (h : HP)  (rv : Option Value) (hq : HP) (ls : Array Slot) (H : Heap) (locs : List Loc) {q : Int32}, lv_has ls 4 [(0, .ref (ra G o0)), (1, .ref (ra G o1)), (2, .int x2), (3, .int x3)] → HW G h s H locs → f_X4_isLike_L19 n o0 o1 x2 x3 h = some q → (∀ (ls : Array Slot) (H : Heap) (locs : List Loc), lv_has ls 4 [(2, .int q)] → HW G h s H locs → WZ p l e 1 s m args below meth c G rv hq H locs (F0 m 64 ls [])) → WZ p l e 1 s m args below meth c G rv hq H locs (F0 m 19 ls []) := by
  intro n
  induction n with
  | zero => intro x2 x3  h  rv hq ls H locs q hl hw hf kk; cases hf
  | succ n ih =>
    intro x2 x3  h  rv hq ls H locs q hl hw hf kk
    rw [f_X4_isLike_L19] at hf
    refine lv_iload_n hx hb dX4_isLike_19 rfl (lv_at hl 2 rfl) ?_
    refine lv_if_eq (tgt := 64) hx hb dX4_isLike_20 (by decide) (fun c20 => ?_) (fun c20 => ?_)
    · have hf := (if_pos c20).symm.trans hf
      obtain rfl := Option.some.inj hf
      exact kk ls H locs (lv_sub hl [2] rfl) hw
    · have hf := (if_neg c20).symm.trans hf
      refine lv_iload_n hx hb dX4_isLike_23 rfl (lv_at hl 3 rfl) ?_
      refine lv_aload_n hx hb dX4_isLike_24 rfl (lv_at hl 0 rfl) ?_
      refine z_geti (o := o0) (C := RX4) (T := TX4) (N := 2) (ci := 3) (k := 1) hx hb Z hw k_o0 n_o0 rfl inX4 (by decide) wd86 dX4_isLike_25 ?_
      refine lv_iconst (v := (4 : Int32)) hx hb dX4_isLike_28 (by decide) ?_
      refine lv_imul hx hb dX4_isLike_29 ?_
      refine lv_icmp_ge (tgt := 64) hx hb dX4_isLike_30 (by decide) (fun c30 => ?_) (fun c30 => ?_)
      · have hf := (if_pos c30).symm.trans hf
        obtain rfl := Option.some.inj hf
        exact kk ls H locs (lv_sub hl [2] rfl) hw
      · have hf := (if_neg c30).symm.trans hf
        refine lv_aload_n hx hb dX4_isLike_33 rfl (lv_at hl 0 rfl) ?_
        refine z_getr (o := o0) (o2 := o0 + 1) (C := RX4) (T := TX4) (N := 2) (ci := 3) (k := 0) hx hb Z hw k_o0 n_o0 rfl inX4 (by decide) rfl wd85 dX4_isLike_34 ?_
        refine lv_iload_n hx hb dX4_isLike_37 rfl (lv_at hl 3 rfl) ?_
        refine z_callNi (As := [.ref (ra G (o0 + 1)), .int x3]) (rest := []) (t_X10_at G l hN (o0 + 1) (kd_C_1 k_o0) (by have := kd_C_n k_o0; omega) x3 h) cs_X10_at hx hb hml hl.1 Z hw wd355 rfl rfl (Nat.le_of_ble_eq_true rfl) (by decide) dX4_isLike_38 (fun H locs hw => ?_)
        refine lv_aload_n hx hb dX4_isLike_41 rfl (lv_at hl 1 rfl) ?_
        refine z_getr (o := o1) (o2 := o1 + 1) (C := RX4) (T := TX4) (N := 2) (ci := 3) (k := 0) hx hb Z hw k_o1 n_o1 rfl inX4 (by decide) rfl wd85 dX4_isLike_42 ?_
        refine lv_iload_n hx hb dX4_isLike_45 rfl (lv_at hl 3 rfl) ?_
        refine z_callNi (As := [.ref (ra G (o1 + 1)), .int x3]) (rest := [.int (f_X10_at (o0 + 1) x3 h)]) (t_X10_at G l hN (o1 + 1) (kd_C_1 k_o1) (by have := kd_C_n k_o1; omega) x3 h) cs_X10_at hx hb hml hl.1 Z hw wd355 rfl rfl (Nat.le_of_ble_eq_true rfl) (by decide) dX4_isLike_46 (fun H locs hw => ?_)
        have HJ57 : ∀ (ls : Array Slot) (H : Heap) (locs : List Loc), lv_has ls 4 [(0, .ref (ra G o0)), (1, .ref (ra G o1)), (3, .int x3)] → HW G h s H locs → WZ p l e 1 s m args below meth c G rv hq H locs (F0 m 57 ls [.int (if (f_X10_at (o0 + 1) x3 h) = (f_X10_at (o1 + 1) x3 h) then (1 : Int32) else (0 : Int32))]) := by
          intro ls H locs hl hw
          obtain ⟨v57, hqv57, hf⟩ := tb_ex hf
          refine z_top hqv57 ?_
          refine lv_istore_n (lv' := [(2, _), (0, _), (1, _), (3, _)]) hx hb dX4_isLike_57 rfl hl (by decide) rfl (fun ls hl => ?_)
          refine lv_iinc (v := x3 + (1 : Int32)) (lv' := [(3, _), (2, _), (0, _), (1, _)]) hx hb dX4_isLike_58 hl (k := 3) rfl rfl (by decide) rfl (fun ls hl => ?_)
          refine lv_goto (tgt := 19) hx hb dX4_isLike_61 (by decide) ?_
          exact ih v57 (x3 + (1 : Int32)) h  rv hq ls H locs (lv_sub hl [2, 3, 1, 0] rfl) hw hf kk
        refine lv_icmp_ne (tgt := 56) hx hb dX4_isLike_49 (by decide) (fun c49 => ?_) (fun c49 => ?_)
        · skip
          refine lv_iconst (v := (0 : Int32)) hx hb dX4_isLike_56 (by decide) ?_
          refine W.eq (g2 := F0 m 57 ls [.int (if (f_X10_at (o0 + 1) x3 h) = (f_X10_at (o1 + 1) x3 h) then (1 : Int32) else (0 : Int32))]) ?_ (HJ57 ls H locs (lv_sub hl [0, 1, 3] rfl) hw)
          simp only [if_neg c49]
        · skip
          refine lv_iconst (v := (1 : Int32)) hx hb dX4_isLike_52 (by decide) ?_
          refine lv_goto (tgt := 57) hx hb dX4_isLike_53 (by decide) ?_
          refine W.eq (g2 := F0 m 57 ls [.int (if (f_X10_at (o0 + 1) x3 h) = (f_X10_at (o1 + 1) x3 h) then (1 : Int32) else (0 : Int32))]) ?_ (HJ57 ls H locs (lv_sub hl [0, 1, 3] rfl) hw)
          simp only [if_pos c49]
set_option maxHeartbeats 4000000 in
set_option maxRecDepth 100000 in
theorem t_X4_isLike (G : GM) (l : Launch) (hN : 70 ≤ gN G) (o0 : Nat) (k_o0 : kd o0 = 3) (n_o0 : o0 < gN G) (o1 : Nat) (k_o1 : kd o1 = 3) (n_o1 : o1 < gN G) (h : HP) {r : Int32} (hf : f_X4_isLike o0 o1 h = some r) : MC G l yX4_isLike cX4_isLike 4 (some .boolean) 1 [.ref (ra G o0), .ref (ra G o1)] h h (some (.int r)) := by
  unfold f_X4_isLike at hf
  refine z_start (by decide) (Nat.le_of_ble_eq_true rfl) ?_
  intro p e s m args below meth c ls hx hb hr hlk hml Z hw hl
  have Z : ZK G s args m RX4 := Z
  have hl : lv_has ls 4 [(0, .ref (ra G o0)), (1, .ref (ra G o1))] := hl
  obtain ⟨H, hH⟩ : ∃ H, H = s.heap := ⟨_, rfl⟩
  rw [← hH] at hw ⊢
  obtain ⟨locs, hlc⟩ : ∃ locs : List Loc, locs = [] := ⟨_, rfl⟩
  rw [← hlc] at hw ⊢
  refine lv_aload_n hx hb dX4_isLike_0 rfl (lv_at hl 0 rfl) ?_
  refine z_geti (o := o0) (C := RX4) (T := TX4) (N := 2) (ci := 3) (k := 1) hx hb Z hw k_o0 n_o0 rfl inX4 (by decide) wd86 dX4_isLike_1 ?_
  refine lv_aload_n hx hb dX4_isLike_4 rfl (lv_at hl 1 rfl) ?_
  refine z_geti (o := o1) (C := RX4) (T := TX4) (N := 2) (ci := 3) (k := 1) hx hb Z hw k_o1 n_o1 rfl inX4 (by decide) wd86 dX4_isLike_5 ?_
  have HJ16 : ∀ (ls : Array Slot) (H : Heap) (locs : List Loc), lv_has ls 4 [(0, .ref (ra G o0)), (1, .ref (ra G o1))] → HW G h s H locs → WZ p l e 1 s m args below meth c G (some (.int r)) h H locs (F0 m 16 ls [.int (if (h o0 1) = (h o1 1) then (1 : Int32) else (0 : Int32))]) := by
    intro ls H locs hl hw
    obtain ⟨v16, hqv16, hf⟩ := tb_ex hf
    refine z_top hqv16 ?_
    refine lv_istore_n (lv' := [(2, _), (0, _), (1, _)]) hx hb dX4_isLike_16 rfl hl (by decide) rfl (fun ls hl => ?_)
    refine lv_iconst (v := (0 : Int32)) hx hb dX4_isLike_17 (by decide) ?_
    refine lv_istore_n (lv' := [(3, _), (2, _), (0, _), (1, _)]) hx hb dX4_isLike_18 rfl hl (by decide) rfl (fun ls hl => ?_)
    obtain ⟨q19, hq19, hf⟩ := ob_some hf
    refine w_X4_isLike_L19 G l hN o0 k_o0 n_o0 o1 k_o1 n_o1 hx hb hr hlk hml Z FU v16 (0 : Int32) h  _ _ ls H locs (lv_sub hl [2, 3, 1, 0] rfl) hw hq19 (fun ls H locs hl hw => ?_)
    refine lv_iload_n hx hb dX4_isLike_64 rfl (lv_at hl 0 rfl) ?_
    obtain ⟨hz65, hf⟩ := gd_some hf
    obtain rfl := Option.some.inj hf
    exact z_zret hx hb hr (nar_b (is01_or hz65)) hlk hw dX4_isLike_65
  refine lv_icmp_ne (tgt := 15) hx hb dX4_isLike_8 (by decide) (fun c8 => ?_) (fun c8 => ?_)
  · skip
    refine lv_iconst (v := (0 : Int32)) hx hb dX4_isLike_15 (by decide) ?_
    refine W.eq (g2 := F0 m 16 ls [.int (if (h o0 1) = (h o1 1) then (1 : Int32) else (0 : Int32))]) ?_ (HJ16 ls H locs (lv_sub hl [0, 1] rfl) hw)
    simp only [if_neg c8]
  · skip
    refine lv_iconst (v := (1 : Int32)) hx hb dX4_isLike_11 (by decide) ?_
    refine lv_goto (tgt := 16) hx hb dX4_isLike_12 (by decide) ?_
    refine W.eq (g2 := F0 m 16 ls [.int (if (h o0 1) = (h o1 1) then (1 : Int32) else (0 : Int32))]) ?_ (HJ16 ls H locs (lv_sub hl [0, 1] rfl) hw)
    simp only [if_pos c8]
set_option maxHeartbeats 4000000 in
set_option maxRecDepth 100000 in
theorem t_X5_hasSpiralOf (G : GM) (l : Launch) (hN : 70 ≤ gN G) (o0 : Nat) (k_o0 : kd o0 = 4) (n_o0 : o0 < gN G) (o1 : Nat) (k_o1 : kd o1 = 4) (n_o1 : o1 < gN G) (h : HP) : MC G l yX5_hasSpiralOf cX5_hasSpiralOf 2 (some .boolean) 0 [.ref (ra G o0), .ref (ra G o1)] h h (some (.int (f_X5_hasSpiralOf o0 o1 h))) := by
  generalize hf : f_X5_hasSpiralOf o0 o1 h = r
  unfold f_X5_hasSpiralOf at hf
  refine z_start (by decide) (Nat.le_of_ble_eq_true rfl) ?_
  intro p e s m args below meth c ls hx hb hr hlk hml Z hw hl
  have Z : ZK G s args m RX5 := Z
  have hl : lv_has ls 2 [(0, .ref (ra G o0)), (1, .ref (ra G o1))] := hl
  obtain ⟨H, hH⟩ : ∃ H, H = s.heap := ⟨_, rfl⟩
  rw [← hH] at hw ⊢
  obtain ⟨locs, hlc⟩ : ∃ locs : List Loc, locs = [] := ⟨_, rfl⟩
  rw [← hlc] at hw ⊢
  refine lv_aload_n hx hb dX5_hasSpiralOf_0 rfl (lv_at hl 0 rfl) ?_
  refine z_geti (o := o0) (C := RX5) (T := TX5) (N := 6) (ci := 4) (k := 0) hx hb Z hw k_o0 n_o0 rfl inX5 (by decide) wd56 dX5_hasSpiralOf_1 ?_
  refine lv_aload_n hx hb dX5_hasSpiralOf_4 rfl (lv_at hl 1 rfl) ?_
  refine z_geti (o := o1) (C := RX5) (T := TX5) (N := 6) (ci := 4) (k := 0) hx hb Z hw k_o1 n_o1 rfl inX5 (by decide) wd56 dX5_hasSpiralOf_5 ?_
  refine lv_icmp_ne (tgt := 26) hx hb dX5_hasSpiralOf_8 (by decide) (fun c8 => ?_) (fun c8 => ?_)
  · have hf := (if_neg c8).symm.trans hf
    refine lv_iconst (v := (0 : Int32)) hx hb dX5_hasSpiralOf_26 (by decide) ?_
    obtain rfl := hf
    exact z_zret hx hb hr rfl hlk hw dX5_hasSpiralOf_27
  · have hf := (if_pos c8).symm.trans hf
    refine lv_aload_n hx hb dX5_hasSpiralOf_11 rfl (lv_at hl 0 rfl) ?_
    refine z_geti (o := o0) (C := RX5) (T := TX5) (N := 6) (ci := 4) (k := 1) hx hb Z hw k_o0 n_o0 rfl inX5 (by decide) wd57 dX5_hasSpiralOf_12 ?_
    refine lv_aload_n hx hb dX5_hasSpiralOf_15 rfl (lv_at hl 1 rfl) ?_
    refine z_geti (o := o1) (C := RX5) (T := TX5) (N := 6) (ci := 4) (k := 1) hx hb Z hw k_o1 n_o1 rfl inX5 (by decide) wd57 dX5_hasSpiralOf_16 ?_
    refine lv_icmp_ne (tgt := 26) hx hb dX5_hasSpiralOf_19 (by decide) (fun c19 => ?_) (fun c19 => ?_)
    · have hf := (if_neg c19).symm.trans hf
      refine lv_iconst (v := (0 : Int32)) hx hb dX5_hasSpiralOf_26 (by decide) ?_
      obtain rfl := hf
      exact z_zret hx hb hr rfl hlk hw dX5_hasSpiralOf_27
    · have hf := (if_pos c19).symm.trans hf
      refine lv_iconst (v := (1 : Int32)) hx hb dX5_hasSpiralOf_22 (by decide) ?_
      refine lv_goto (tgt := 27) hx hb dX5_hasSpiralOf_23 (by decide) ?_
      obtain rfl := hf
      exact z_zret hx hb hr rfl hlk hw dX5_hasSpiralOf_27
set_option maxHeartbeats 4000000 in
set_option maxRecDepth 100000 in
theorem t_X5_dataAhead (G : GM) (l : Launch) (hN : 70 ≤ gN G) (x0 : Int32) (h : HP) : MC G l yX5_dataAhead cX5_dataAhead 1 (some .int) 0 [.int x0] h h (some (.int (f_X5_dataAhead x0 h))) := by
  generalize hf : f_X5_dataAhead x0 h = r
  unfold f_X5_dataAhead at hf
  refine z_start (by decide) (Nat.le_of_ble_eq_true rfl) ?_
  intro p e s m args below meth c ls hx hb hr hlk hml Z hw hl
  have Z : ZK G s args m RX5 := Z
  have hl : lv_has ls 1 [(0, .int x0)] := hl
  obtain ⟨H, hH⟩ : ∃ H, H = s.heap := ⟨_, rfl⟩
  rw [← hH] at hw ⊢
  obtain ⟨locs, hlc⟩ : ∃ locs : List Loc, locs = [] := ⟨_, rfl⟩
  rw [← hlc] at hw ⊢
  refine lv_iload_n hx hb dX5_dataAhead_0 rfl (lv_at hl 0 rfl) ?_
  refine lv_iconst (v := (5 : Int32)) hx hb dX5_dataAhead_1 (by decide) ?_
  refine z_irem hx hb dX5_dataAhead_2 (by decide) ?_
  refine lv_if_ne (tgt := 12) hx hb dX5_dataAhead_3 (by decide) (fun c3 => ?_) (fun c3 => ?_)
  · have hf := (if_neg c3).symm.trans hf
    refine lv_iload_n hx hb dX5_dataAhead_12 rfl (lv_at hl 0 rfl) ?_
    refine lv_iconst (v := (1 : Int32)) hx hb dX5_dataAhead_13 (by decide) ?_
    refine lv_isub hx hb dX5_dataAhead_14 ?_
    obtain rfl := hf
    exact z_iret hx hb hr hlk hw dX5_dataAhead_15
  · have hf := (if_pos c3).symm.trans hf
    refine lv_iload_n hx hb dX5_dataAhead_6 rfl (lv_at hl 0 rfl) ?_
    refine lv_iconst (v := (2 : Int32)) hx hb dX5_dataAhead_7 (by decide) ?_
    refine lv_isub hx hb dX5_dataAhead_8 ?_
    refine lv_goto (tgt := 15) hx hb dX5_dataAhead_9 (by decide) ?_
    obtain rfl := hf
    exact z_iret hx hb hr hlk hw dX5_dataAhead_15
