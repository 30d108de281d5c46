/-! walks (by program) -/
set_option maxHeartbeats 4000000 in
set_option maxRecDepth 100000 in
theorem t_X10_filledSymbol (G : GM) (l : Launch) (hN : 70 ≤ gN G) (x1 : Int32) (x2 : Int32) (h : HP) {r : Int32} (hf : f_X10_filledSymbol x1 x2 h = some r) : MC G l yX10_filledSymbol cX10_filledSymbol 5 (some .int) 3 [.ref (ra G 0), .int x1, .int x2] h h (some (.int r)) := by
  unfold f_X10_filledSymbol at hf
  refine z_start (by decide) (Nat.le_of_ble_eq_true rfl) ?_
  intro p e s m args below meth c ls hx hb hr hlk hml Z hw hl
  have Z : ZK G s args m RX10 := Z
  have hl : lv_has ls 5 [(0, .ref (ra G 0)), (1, .int x1), (2, .int x2)] := hl
  obtain ⟨H, hH⟩ : ∃ H, H = s.heap := ⟨_, rfl⟩
  rw [← hH] at hw ⊢
  obtain ⟨locs, hlc⟩ : ∃ locs : List Loc, locs = [] := ⟨_, rfl⟩
  rw [← hlc] at hw ⊢
  refine lv_aload_n hx hb dX10_filledSymbol_0 rfl (lv_at hl 0 rfl) ?_
  refine z_getr (o := 0) (o2 := 1) (C := RX10) (T := TX10) (N := 8) (ci := 8) (k := 0) hx hb Z hw (by decide) (by omega) rfl inX10 (by decide) rfl wd233 dX10_filledSymbol_1 ?_
  refine z_getr (o := 1) (o2 := 5) (C := RX6) (T := TX6) (N := 4) (ci := 5) (k := 2) hx hb Z hw (by decide) (by omega) rfl inX6 (by decide) rfl wd150 dX10_filledSymbol_4 ?_
  refine lv_iload_n hx hb dX10_filledSymbol_7 rfl (lv_at hl 1 rfl) ?_
  refine z_callSi (As := [.int x1]) (rest := [.ref (ra G 5)]) (t_X5_dataAhead G l hN x1 h) cs_X5_dataAhead hx hb hml hl.1 Z hw wd628 rfl rfl (Nat.le_of_ble_eq_true rfl) (by decide) dX10_filledSymbol_8 (fun H locs hw => ?_)
  refine lv_iload_n hx hb dX10_filledSymbol_11 rfl (lv_at hl 2 rfl) ?_
  obtain ⟨q12, hq12, hf⟩ := ob_some hf
  refine z_callVi (o := 5) (ci := 7) (As := [.int (f_X5_dataAhead x1 h), .int x2]) (rest := []) (t_X8_standsAt G l hN 5 (by decide) (by omega) (f_X5_dataAhead x1 h) x2 h hq12) cv_X8_standsAt hx hb hml hl.1 Z hw (by decide) (by decide) (by omega) rfl rfl wd493 rfl rfl (Nat.le_of_ble_eq_true rfl) (by decide) dX10_filledSymbol_12 (fun H locs hw => ?_)
  refine lv_istore_n (lv' := [(3, _), (0, _), (1, _), (2, _)]) hx hb dX10_filledSymbol_15 rfl hl (by decide) rfl (fun ls hl => ?_)
  refine lv_aload_n hx hb dX10_filledSymbol_16 rfl (lv_at hl 1 rfl) ?_
  refine z_getr (o := 0) (o2 := 1) (C := RX10) (T := TX10) (N := 8) (ci := 8) (k := 0) hx hb Z hw (by decide) (by omega) rfl inX10 (by decide) rfl wd233 dX10_filledSymbol_17 ?_
  refine z_getr (o := 1) (o2 := 5) (C := RX6) (T := TX6) (N := 4) (ci := 5) (k := 2) hx hb Z hw (by decide) (by omega) rfl inX6 (by decide) rfl wd150 dX10_filledSymbol_20 ?_
  refine lv_iload_n hx hb dX10_filledSymbol_23 rfl (lv_at hl 2 rfl) ?_
  refine z_callSi (As := [.int x1]) (rest := [.ref (ra G 5)]) (t_X5_dataBehind G l hN x1 h) cs_X5_dataBehind hx hb hml hl.1 Z hw wd629 rfl rfl (Nat.le_of_ble_eq_true rfl) (by decide) dX10_filledSymbol_24 (fun H locs hw => ?_)
  refine lv_iload_n hx hb dX10_filledSymbol_27 rfl (lv_at hl 3 rfl) ?_
  obtain ⟨q28, hq28, hf⟩ := ob_some hf
  refine z_callVi (o := 5) (ci := 7) (As := [.int (f_X5_dataBehind x1 h), .int x2]) (rest := []) (t_X8_standsAt G l hN 5 (by decide) (by omega) (f_X5_dataBehind x1 h) x2 h hq28) cv_X8_standsAt hx hb hml hl.1 Z hw (by decide) (by decide) (by omega) rfl rfl wd493 rfl rfl (Nat.le_of_ble_eq_true rfl) (by decide) dX10_filledSymbol_28 (fun H locs hw => ?_)
  refine lv_istore (lv' := [(4, _), (3, _), (0, _), (1, _), (2, _)]) hx hb dX10_filledSymbol_31 hl (by decide) rfl (fun ls hl => ?_)
  refine lv_iload_n hx hb dX10_filledSymbol_33 rfl (lv_at hl 1 rfl) ?_
  refine lv_iload hx hb dX10_filledSymbol_34 (lv_at hl 0 rfl) ?_
  refine lv_iadd hx hb dX10_filledSymbol_36 ?_
  refine lv_iconst (v := (2 : Int32)) hx hb dX10_filledSymbol_37 (by decide) ?_
  refine lv_idiv hx hb dX10_filledSymbol_38 (by decide) ?_
  obtain rfl := Option.some.inj hf
  exact z_iret hx hb hr hlk hw dX10_filledSymbol_39
set_option maxHeartbeats 4000000 in
set_option maxRecDepth 100000 in
theorem t_X10_toldSymbol (G : GM) (l : Launch) (hN : 70 ≤ gN G) (x1 : Int32) (x2 : Int32) (h : HP) {r : Int32} {h' : HP} (hf : f_X10_toldSymbol x1 x2 h = some (r, h')) : MC G l yX10_toldSymbol cX10_toldSymbol 4 (some .int) 4 [.ref (ra G 0), .int x1, .int x2] h h' (some (.int r)) := by
  unfold f_X10_toldSymbol at hf
  refine z_start (by decide) (Nat.le_of_ble_eq_true rfl) ?_
  intro p e s m args below meth c ls hx hb hr hlk hml Z hw hl
  have Z : ZK G s args m RX10 := Z
  have hl : lv_has ls 4 [(0, .ref (ra G 0)), (1, .int x1), (2, .int x2)] := hl
  obtain ⟨H, hH⟩ : ∃ H, H = s.heap := ⟨_, rfl⟩
  rw [← hH] at hw ⊢
  obtain ⟨locs, hlc⟩ : ∃ locs : List Loc, locs = [] := ⟨_, rfl⟩
  rw [← hlc] at hw ⊢
  refine lv_aload_n hx hb dX10_toldSymbol_0 rfl (lv_at hl 0 rfl) ?_
  refine z_getr (o := 0) (o2 := 63) (C := RX10) (T := TX10) (N := 8) (ci := 8) (k := 6) hx hb Z hw (by decide) (by omega) rfl inX10 (by decide) rfl wd239 dX10_toldSymbol_1 ?_
  refine lv_aload_n hx hb dX10_toldSymbol_4 rfl (lv_at hl 0 rfl) ?_
  refine z_getr (o := 0) (o2 := 1) (C := RX10) (T := TX10) (N := 8) (ci := 8) (k := 0) hx hb Z hw (by decide) (by omega) rfl inX10 (by decide) rfl wd233 dX10_toldSymbol_5 ?_
  obtain ⟨q8, hq8, hf⟩ := ob_some hf
  refine z_callVi (o := 63) (ci := 6) (As := [.ref (ra G 1)]) (rest := []) (t_X7_of G l hN 1 (by decide) (by omega) h hq8) cv_X7_of hx hb hml hl.1 Z hw (by decide) (by decide) (by omega) rfl rfl wd343 rfl rfl (Nat.le_of_ble_eq_true rfl) (by decide) dX10_toldSymbol_8 (fun H locs hw => ?_)
  refine lv_iload_n hx hb dX10_toldSymbol_11 rfl (lv_at hl 1 rfl) ?_
  refine z_callVi (o := 63) (ci := 6) (As := [.int x1]) (rest := []) (t_X7_howIs G l hN x1 q8) cv_X7_howIs hx hb hml hl.1 Z hw (by decide) (by decide) (by omega) rfl rfl wd582 rfl rfl (Nat.le_of_ble_eq_true rfl) (by decide) dX10_toldSymbol_12 (fun H locs hw => ?_)
  refine lv_istore_n (lv' := [(3, _), (0, _), (1, _), (2, _)]) hx hb dX10_toldSymbol_15 rfl hl (by decide) rfl (fun ls hl => ?_)
  refine lv_iload_n hx hb dX10_toldSymbol_16 rfl (lv_at hl 0 rfl) ?_
  refine lv_iconst (v := (3 : Int32)) hx hb dX10_toldSymbol_17 (by decide) ?_
  refine lv_icmp_ne (tgt := 24) hx hb dX10_toldSymbol_18 (by decide) (fun c18 => ?_) (fun c18 => ?_)
  · have hf := (if_neg c18).symm.trans hf
    refine lv_iload_n hx hb dX10_toldSymbol_24 rfl (lv_at hl 0 rfl) ?_
    refine lv_iconst (v := (2 : Int32)) hx hb dX10_toldSymbol_25 (by decide) ?_
    refine lv_icmp_ne (tgt := 38) hx hb dX10_toldSymbol_26 (by decide) (fun c26 => ?_) (fun c26 => ?_)
    · have hf := (if_neg c26).symm.trans hf
      refine lv_aload_n hx hb dX10_toldSymbol_38 rfl (lv_at hl 1 rfl) ?_
      refine z_getr (o := 0) (o2 := 1) (C := RX10) (T := TX10) (N := 8) (ci := 8) (k := 0) hx hb Z hw (by decide) (by omega) rfl inX10 (by decide) rfl wd233 dX10_toldSymbol_39 ?_
      refine z_getr (o := 1) (o2 := 5) (C := RX6) (T := TX6) (N := 4) (ci := 5) (k := 2) hx hb Z hw (by decide) (by omega) rfl inX6 (by decide) rfl wd150 dX10_toldSymbol_42 ?_
      refine lv_iload_n hx hb dX10_toldSymbol_45 rfl (lv_at hl 2 rfl) ?_
      refine lv_iload_n hx hb dX10_toldSymbol_46 rfl (lv_at hl 3 rfl) ?_
      obtain ⟨q47, hq47, hf⟩ := ob_some hf
      refine z_callVi (o := 5) (ci := 7) (As := [.int x1, .int x2]) (rest := []) (t_X8_standsAt G l hN 5 (by decide) (by omega) x1 x2 q8 hq47) cv_X8_standsAt hx hb hml hl.1 Z hw (by decide) (by decide) (by omega) rfl rfl wd493 rfl rfl (Nat.le_of_ble_eq_true rfl) (by decide) dX10_toldSymbol_47 (fun H locs hw => ?_)
      obtain ⟨rfl, rfl⟩ := Prod.mk.inj (Option.some.inj hf)
      exact z_iret hx hb hr hlk hw dX10_toldSymbol_50
    · have hf := (if_pos c26).symm.trans hf
      refine lv_aload_n hx hb dX10_toldSymbol_29 rfl (lv_at hl 1 rfl) ?_
      refine lv_iload_n hx hb dX10_toldSymbol_30 rfl (lv_at hl 2 rfl) ?_
      refine lv_iload_n hx hb dX10_toldSymbol_31 rfl (lv_at hl 3 rfl) ?_
      obtain ⟨q32, hq32, hf⟩ := ob_some hf
      refine z_callVi (o := 0) (ci := 8) (As := [.int x1, .int x2]) (rest := []) (t_X10_filledSymbol G l hN x1 x2 q8 hq32) cv_X10_filledSymbol hx hb hml hl.1 Z hw (by decide) (by decide) (by omega) rfl rfl wd624 rfl rfl (Nat.le_of_ble_eq_true rfl) (by decide) dX10_toldSymbol_32 (fun H locs hw => ?_)
      refine lv_goto (tgt := 50) hx hb dX10_toldSymbol_35 (by decide) ?_
      obtain ⟨rfl, rfl⟩ := Prod.mk.inj (Option.some.inj hf)
      exact z_iret hx hb hr hlk hw dX10_toldSymbol_50
  · have hf := (if_pos c18).symm.trans hf
    refine lv_bipush (v := (-5 : Int32)) hx hb dX10_toldSymbol_21 (by decide) ?_
    obtain ⟨rfl, rfl⟩ := Prod.mk.inj (Option.some.inj hf)
    exact z_iret hx hb hr hlk hw dX10_toldSymbol_23
set_option maxHeartbeats 4000000 in
set_option maxRecDepth 100000 in
theorem t_X10_symbol (G : GM) (l : Launch) (hN : 70 ≤ gN G) (x1 : Int32) (x2 : Int32) (x3 : Int32) (h : HP) {r : Int32} {h' : HP} (hf : f_X10_symbol x1 x2 x3 h = some (r, h')) : MC G l yX10_symbol cX10_symbol 4 (some .int) 5 [.ref (ra G 0), .int x1, .int x2, .int x3] h h' (some (.int r)) := by
  unfold f_X10_symbol at hf
  refine z_start (by decide) (Nat.le_of_ble_eq_true rfl) ?_
  intro p e s m args below meth c ls hx hb hr hlk hml Z hw hl
  have Z : ZK G s args m RX10 := Z
  have hl : lv_has ls 4 [(0, .ref (ra G 0)), (1, .int x1), (2, .int x2), (3, .int x3)] := hl
  obtain ⟨H, hH⟩ : ∃ H, H = s.heap := ⟨_, rfl⟩
  rw [← hH] at hw ⊢
  obtain ⟨locs, hlc⟩ : ∃ locs : List Loc, locs = [] := ⟨_, rfl⟩
  rw [← hlc] at hw ⊢
  refine lv_aload_n hx hb dX10_symbol_0 rfl (lv_at hl 0 rfl) ?_
  refine z_getr (o := 0) (o2 := 1) (C := RX10) (T := TX10) (N := 8) (ci := 8) (k := 0) hx hb Z hw (by decide) (by omega) rfl inX10 (by decide) rfl wd233 dX10_symbol_1 ?_
  refine z_getr (o := 1) (o2 := 2) (C := RX6) (T := TX6) (N := 4) (ci := 5) (k := 0) hx hb Z hw (by decide) (by omega) rfl inX6 (by decide) rfl wd145 dX10_symbol_4 ?_
  refine lv_iload_n hx hb dX10_symbol_7 rfl (lv_at hl 1 rfl) ?_
  refine z_callVi (o := 2) (ci := 4) (As := [.int x1]) (rest := []) (t_X5_hasFrame G l hN 2 (by decide) (by omega) x1 h) cv_X5_hasFrame hx hb hml hl.1 Z hw (by decide) (by decide) (by omega) rfl rfl wd485 rfl rfl (Nat.le_of_ble_eq_true rfl) (by decide) dX10_symbol_8 (fun H locs hw => ?_)
  refine lv_if_ne (tgt := 16) hx hb dX10_symbol_11 (by decide) (fun c11 => ?_) (fun c11 => ?_)
  · have hf := (if_neg c11).symm.trans hf
    refine lv_iload_n hx hb dX10_symbol_16 rfl (lv_at hl 2 rfl) ?_
    refine z_callSi (As := [.int x2]) (rest := []) (t_X10_isPlace G l hN x2 h) cs_X10_isPlace hx hb hml hl.1 Z hw wd489 rfl rfl (Nat.le_of_ble_eq_true rfl) (by decide) dX10_symbol_17 (fun H locs hw => ?_)
    refine lv_if_ne (tgt := 26) hx hb dX10_symbol_20 (by decide) (fun c20 => ?_) (fun c20 => ?_)
    · have hf := (if_neg c20).symm.trans hf
      refine lv_iload_n hx hb dX10_symbol_26 rfl (lv_at hl 3 rfl) ?_
      refine lv_if_eq (tgt := 39) hx hb dX10_symbol_27 (by decide) (fun c27 => ?_) (fun c27 => ?_)
      · have hf := (if_pos c27).symm.trans hf
        refine lv_aload_n hx hb dX10_symbol_39 rfl (lv_at hl 0 rfl) ?_
        refine z_getr (o := 0) (o2 := 1) (C := RX10) (T := TX10) (N := 8) (ci := 8) (k := 0) hx hb Z hw (by decide) (by omega) rfl inX10 (by decide) rfl wd233 dX10_symbol_40 ?_
        refine z_getr (o := 1) (o2 := 5) (C := RX6) (T := TX6) (N := 4) (ci := 5) (k := 2) hx hb Z hw (by decide) (by omega) rfl inX6 (by decide) rfl wd150 dX10_symbol_43 ?_
        refine lv_iload_n hx hb dX10_symbol_46 rfl (lv_at hl 1 rfl) ?_
        refine lv_iload_n hx hb dX10_symbol_47 rfl (lv_at hl 2 rfl) ?_
        obtain ⟨q48, hq48, hf⟩ := ob_some hf
        refine z_callVi (o := 5) (ci := 7) (As := [.int x1, .int x2]) (rest := []) (t_X8_standsAt G l hN 5 (by decide) (by omega) x1 x2 h hq48) cv_X8_standsAt hx hb hml hl.1 Z hw (by decide) (by decide) (by omega) rfl rfl wd493 rfl rfl (Nat.le_of_ble_eq_true rfl) (by decide) dX10_symbol_48 (fun H locs hw => ?_)
        obtain ⟨rfl, rfl⟩ := Prod.mk.inj (Option.some.inj hf)
        exact z_iret hx hb hr hlk hw dX10_symbol_51
      · have hf := (if_neg c27).symm.trans hf
        refine lv_aload_n hx hb dX10_symbol_30 rfl (lv_at hl 0 rfl) ?_
        refine lv_iload_n hx hb dX10_symbol_31 rfl (lv_at hl 1 rfl) ?_
        refine lv_iload_n hx hb dX10_symbol_32 rfl (lv_at hl 2 rfl) ?_
        obtain ⟨q33, hq33, hf⟩ := ob_some hf
        refine z_callVi (o := 0) (ci := 8) (As := [.int x1, .int x2]) (rest := []) (t_X10_toldSymbol G l hN x1 x2 h hq33) cv_X10_toldSymbol hx hb hml hl.1 Z hw (by decide) (by decide) (by omega) rfl rfl wd620 rfl rfl (Nat.le_of_ble_eq_true rfl) (by decide) dX10_symbol_33 (fun H locs hw => ?_)
        refine lv_goto (tgt := 51) hx hb dX10_symbol_36 (by decide) ?_
        obtain ⟨rfl, rfl⟩ := Prod.mk.inj (Option.some.inj hf)
        exact z_iret hx hb hr hlk hw dX10_symbol_51
    · have hf := (if_pos c20).symm.trans hf
      refine lv_bipush (v := (-2 : Int32)) hx hb dX10_symbol_23 (by decide) ?_
      obtain ⟨rfl, rfl⟩ := Prod.mk.inj (Option.some.inj hf)
      exact z_iret hx hb hr hlk hw dX10_symbol_25
  · have hf := (if_pos c11).symm.trans hf
    refine lv_iconst (v := (-1 : Int32)) hx hb dX10_symbol_14 (by decide) ?_
    obtain ⟨rfl, rfl⟩ := Prod.mk.inj (Option.some.inj hf)
    exact z_iret hx hb hr hlk hw dX10_symbol_15
set_option maxHeartbeats 4000000 in
set_option maxRecDepth 100000 in
theorem w_X8_lengthOfAll_L5 (G : GM) (l : Launch) (hN : 70 ≤ gN G) (o0 : Nat) (k_o0 : kd o0 = 7) (n_o0 : o0 < gN G) {p : Program} {e : Env} {s : State} {m : MethodId} {args : Array Value} {below : List Frame} {meth : Method} {c : Code} (hx : p.tables.exec = Jvm.exec) (hb : c.code = cX8_lengthOfAll) (hr : meth.sig.returnType = (some .int)) (hlk : meth.locks = false) (hml : c.maxLocals = 5) (Z : ZK G s args m RX8) : ∀ (n : Nat) (x2 : Int32) (x3 : Int32) (x4 : Int32)  (h : HP)  (rv : Option Value) (hq : HP) (ls : Array Slot) (H : Heap) (locs : List Loc) {q : Int32}, lv_has ls 5 [(0, .ref (ra G o0)), (2, .int x2), (3, .int x3), (4, .int x4)] → HW G h s H locs → f_X8_lengthOfAll_L5 n o0 x2 x3 x4 h = some q → (∀ (ls : Array Slot) (H : Heap) (locs : List Loc), lv_has ls 5 [(3, .int q)] → HW G h s H locs → WZ p l e 4 s m args below meth c G rv hq H locs (F0 m 26 ls [])) → WZ p l e 4 s m args below meth c G rv hq H locs (F0 m 5 ls []) := by
  intro n
  induction n with
  | zero => intro x2 x3 x4  h  rv hq ls H locs q hl hw hf kk; cases hf
  | succ n ih =>
    intro x2 x3 x4  h  rv hq ls H locs q hl hw hf kk
    rw [f_X8_lengthOfAll_L5] at hf
    refine lv_iload hx hb dX8_lengthOfAll_5 (lv_at hl 3 rfl) ?_
    refine lv_iload_n hx hb dX8_lengthOfAll_7 rfl (lv_at hl 1 rfl) ?_
    refine lv_icmp_ge (tgt := 26) hx hb dX8_lengthOfAll_8 (by decide) (fun c8 => ?_) (fun c8 => ?_)
    · have hf := (if_pos c8).symm.trans hf
      obtain rfl := Option.some.inj hf
      exact kk ls H locs (lv_sub hl [2] rfl) hw
    · have hf := (if_neg c8).symm.trans hf
      refine lv_iload_n hx hb dX8_lengthOfAll_11 rfl (lv_at hl 2 rfl) ?_
      refine lv_aload_n hx hb dX8_lengthOfAll_12 rfl (lv_at hl 0 rfl) ?_
      refine lv_iload hx hb dX8_lengthOfAll_13 (lv_at hl 3 rfl) ?_
      obtain ⟨q15, hq15, hf⟩ := ob_some hf
      refine z_callVi (o := o0) (ci := 7) (As := [.int x4]) (rest := [.int x3]) (t_X8_lengthOf G l hN o0 k_o0 n_o0 x4 h hq15) cv_X8_lengthOf hx hb hml hl.1 Z hw k_o0 (by decide) n_o0 rfl rfl wd615 rfl rfl (Nat.le_of_ble_eq_true rfl) (by decide) dX8_lengthOfAll_15 (fun H locs hw => ?_)
      refine lv_iadd hx hb dX8_lengthOfAll_18 ?_
      refine lv_istore_n (lv' := [(3, _), (0, _), (2, _), (4, _)]) hx hb dX8_lengthOfAll_19 rfl hl (by decide) rfl (fun ls hl => ?_)
      refine lv_iinc (v := x4 + (1 : Int32)) (lv' := [(4, _), (3, _), (0, _), (2, _)]) hx hb dX8_lengthOfAll_20 hl (k := 3) rfl rfl (by decide) rfl (fun ls hl => ?_)
      refine lv_goto (tgt := 5) hx hb dX8_lengthOfAll_23 (by decide) ?_
      exact ih x2 (x3 + q15) (x4 + (1 : Int32)) h  rv hq ls H locs (lv_sub hl [2, 3, 1, 0] rfl) hw hf kk
set_option maxHeartbeats 4000000 in
set_option maxRecDepth 100000 in
theorem t_X8_lengthOfAll (G : GM) (l : Launch) (hN : 70 ≤ gN G) (o0 : Nat) (k_o0 : kd o0 = 7) (n_o0 : o0 < gN G) (x1 : Int32) (x2 : Int32) (h : HP) {r : Int32} (hf : f_X8_lengthOfAll o0 x1 x2 h = some r) : MC G l yX8_lengthOfAll cX8_lengthOfAll 5 (some .int) 4 [.ref (ra G o0), .int x1, .int x2] h h (some (.int r)) := by
  unfold f_X8_lengthOfAll at hf
  refine z_start (by decide) (Nat.le_of_ble_eq_true rfl) ?_
  intro p e s m args below meth c ls hx hb hr hlk hml Z hw hl
  have Z : ZK G s args m RX8 := Z
  have hl : lv_has ls 5 [(0, .ref (ra G o0)), (1, .int x1), (2, .int x2)] := hl
  obtain ⟨H, hH⟩ : ∃ H, H = s.heap := ⟨_, rfl⟩
  rw [← hH] at hw ⊢
  obtain ⟨locs, hlc⟩ : ∃ locs : List Loc, locs = [] := ⟨_, rfl⟩
  rw [← hlc] at hw ⊢
  refine lv_iconst (v := (0 : Int32)) hx hb dX8_lengthOfAll_0 (by decide) ?_
  refine lv_istore_n (lv' := [(3, _), (0, _), (1, _), (2, _)]) hx hb dX8_lengthOfAll_1 rfl hl (by decide) rfl (fun ls hl => ?_)
  refine lv_iload_n hx hb dX8_lengthOfAll_2 rfl (lv_at hl 2 rfl) ?_
  refine lv_istore (lv' := [(4, _), (3, _), (0, _), (1, _), (2, _)]) hx hb dX8_lengthOfAll_3 hl (by decide) rfl (fun ls hl => ?_)
  obtain ⟨q5, hq5, hf⟩ := ob_some hf
  refine w_X8_lengthOfAll_L5 G l hN o0 k_o0 n_o0 hx hb hr hlk hml Z FU x2 (0 : Int32) x1 h  _ _ ls H locs (lv_sub hl [2, 4, 1, 0] rfl) hw hq5 (fun ls H locs hl hw => ?_)
  refine lv_iload_n hx hb dX8_lengthOfAll_26 rfl (lv_at hl 0 rfl) ?_
  obtain rfl := Option.some.inj hf
  exact z_iret hx hb hr hlk hw dX8_lengthOfAll_27
set_option maxHeartbeats 4000000 in
set_option maxRecDepth 100000 in
theorem t_X10_turn (G : GM) (l : Launch) (hN : 70 ≤ gN G) (x1 : Int32) (x2 : Int32) (h : HP) {r : Int32} {h' : HP} (hf : f_X10_turn x1 x2 h = some (r, h')) : MC G l yX10_turn cX10_turn 5 (some .int) 5 [.ref (ra G 0), .int x1, .int x2] h h' (some (.int r)) := by
  unfold f_X10_turn at hf
  refine z_start (by decide) (Nat.le_of_ble_eq_true rfl) ?_
  intro p e s m args below meth c ls hx hb hr hlk hml Z hw hl
  have Z : ZK G s args m RX10 := Z
  have hl : lv_has ls 5 [(0, .ref (ra G 0)), (1, .int x1), (2, .int x2)] := hl
  obtain ⟨H, hH⟩ : ∃ H, H = s.heap := ⟨_, rfl⟩
  rw [← hH] at hw ⊢
  obtain ⟨locs, hlc⟩ : ∃ locs : List Loc, locs = [] := ⟨_, rfl⟩
  rw [← hlc] at hw ⊢
  refine lv_iload_n hx hb dX10_turn_0 rfl (lv_at hl 1 rfl) ?_
  refine lv_if_lt (tgt := 10) hx hb dX10_turn_1 (by decide) (fun c1 => ?_) (fun c1 => ?_)
  · have hf := (if_pos c1).symm.trans hf
    refine lv_iconst (v := (-1 : Int32)) hx hb dX10_turn_10 (by decide) ?_
    obtain ⟨rfl, rfl⟩ := Prod.mk.inj (Option.some.inj hf)
    exact z_iret hx hb hr hlk hw dX10_turn_11
  · have hf := (if_neg c1).symm.trans hf
    refine lv_iload_n hx hb dX10_turn_4 rfl (lv_at hl 1 rfl) ?_
    refine lv_bipush (v := (30 : Int32)) hx hb dX10_turn_5 (by decide) ?_
    refine lv_icmp_lt (tgt := 12) hx hb dX10_turn_7 (by decide) (fun c7 => ?_) (fun c7 => ?_)
    · have hf := (if_pos c7).symm.trans hf
      refine lv_aload_n hx hb dX10_turn_12 rfl (lv_at hl 0 rfl) ?_
      refine z_getr (o := 0) (o2 := 1) (C := RX10) (T := TX10) (N := 8) (ci := 8) (k := 0) hx hb Z hw (by decide) (by omega) rfl inX10 (by decide) rfl wd233 dX10_turn_13 ?_
      refine z_getr (o := 1) (o2 := 2) (C := RX6) (T := TX6) (N := 4) (ci := 5) (k := 0) hx hb Z hw (by decide) (by omega) rfl inX6 (by decide) rfl wd145 dX10_turn_16 ?_
      refine lv_iload_n hx hb dX10_turn_19 rfl (lv_at hl 1 rfl) ?_
      refine z_callVi (o := 2) (ci := 4) (As := [.int x1]) (rest := []) (t_X5_firstOf G l hN 2 (by decide) (by omega) x1 h) cv_X5_firstOf hx hb hml hl.1 Z hw (by decide) (by decide) (by omega) rfl rfl wd575 rfl rfl (Nat.le_of_ble_eq_true rfl) (by decide) dX10_turn_20 (fun H locs hw => ?_)
      refine lv_istore_n (lv' := [(3, _), (0, _), (1, _), (2, _)]) hx hb dX10_turn_23 rfl hl (by decide) rfl (fun ls hl => ?_)
      refine lv_aload_n hx hb dX10_turn_24 rfl (lv_at hl 1 rfl) ?_
      refine z_getr (o := 0) (o2 := 1) (C := RX10) (T := TX10) (N := 8) (ci := 8) (k := 0) hx hb Z hw (by decide) (by omega) rfl inX10 (by decide) rfl wd233 dX10_turn_25 ?_
      refine z_getr (o := 1) (o2 := 2) (C := RX6) (T := TX6) (N := 4) (ci := 5) (k := 0) hx hb Z hw (by decide) (by omega) rfl inX6 (by decide) rfl wd145 dX10_turn_28 ?_
      refine lv_iload_n hx hb dX10_turn_31 rfl (lv_at hl 2 rfl) ?_
      refine z_callVi (o := 2) (ci := 4) (As := [.int x1]) (rest := []) (t_X5_framesOf G l hN 2 (by decide) (by omega) x1 h) cv_X5_framesOf hx hb hml hl.1 Z hw (by decide) (by decide) (by omega) rfl rfl wd610 rfl rfl (Nat.le_of_ble_eq_true rfl) (by decide) dX10_turn_32 (fun H locs hw => ?_)
      refine lv_istore (lv' := [(4, _), (3, _), (0, _), (1, _), (2, _)]) hx hb dX10_turn_35 hl (by decide) rfl (fun ls hl => ?_)
      refine lv_iload_n hx hb dX10_turn_37 rfl (lv_at hl 4 rfl) ?_
      by_cases c38_0 : x2 = 0
      · have hf := (if_pos c38_0).symm.trans hf
        refine z_sw c38_0 ?_
        refine lv_tableIn (tgt := 68) hx hb dX10_turn_38 (by decide) (by decide) rfl (by decide) ?_
        refine lv_iload hx hb dX10_turn_68 (lv_at hl 0 rfl) ?_
        obtain ⟨rfl, rfl⟩ := Prod.mk.inj (Option.some.inj hf)
        exact z_iret hx hb hr hlk hw dX10_turn_70
      have hf := (if_neg c38_0).symm.trans hf
      by_cases c38_1 : x2 = 1
      · have hf := (if_pos c38_1).symm.trans hf
        refine z_sw c38_1 ?_
        refine lv_tableIn (tgt := 71) hx hb dX10_turn_38 (by decide) (by decide) rfl (by decide) ?_
        refine lv_iload_n hx hb dX10_turn_71 rfl (lv_at hl 1 rfl) ?_
        obtain ⟨rfl, rfl⟩ := Prod.mk.inj (Option.some.inj hf)
        exact z_iret hx hb hr hlk hw dX10_turn_72
      have hf := (if_neg c38_1).symm.trans hf
      by_cases c38_2 : x2 = 2
      · have hf := (if_pos c38_2).symm.trans hf
        refine z_sw c38_2 ?_
        refine lv_tableIn (tgt := 73) hx hb dX10_turn_38 (by decide) (by decide) rfl (by decide) ?_
        refine lv_aload_n hx hb dX10_turn_73 rfl (lv_at hl 2 rfl) ?_
        refine z_getr (o := 0) (o2 := 63) (C := RX10) (T := TX10) (N := 8) (ci := 8) (k := 6) hx hb Z hw (by decide) (by omega) rfl inX10 (by decide) rfl wd239 dX10_turn_74 ?_
        refine lv_aload_n hx hb dX10_turn_77 rfl (lv_at hl 2 rfl) ?_
        refine z_getr (o := 0) (o2 := 1) (C := RX10) (T := TX10) (N := 8) (ci := 8) (k := 0) hx hb Z hw (by decide) (by omega) rfl inX10 (by decide) rfl wd233 dX10_turn_78 ?_
        obtain ⟨q81, hq81, hf⟩ := ob_some hf
        refine z_callVi (o := 63) (ci := 6) (As := [.ref (ra G 1)]) (rest := []) (t_X7_of G l hN 1 (by decide) (by omega) h hq81) cv_X7_of hx hb hml hl.1 Z hw (by decide) (by decide) (by omega) rfl rfl wd343 rfl rfl (Nat.le_of_ble_eq_true rfl) (by decide) dX10_turn_81 (fun H locs hw => ?_)
        refine lv_iload_n hx hb dX10_turn_84 rfl (lv_at hl 1 rfl) ?_
        refine lv_iload_n hx hb dX10_turn_85 rfl (lv_at hl 1 rfl) ?_
        refine lv_iload hx hb dX10_turn_86 (lv_at hl 0 rfl) ?_
        refine lv_iadd hx hb dX10_turn_88 ?_
        refine lv_iconst (v := (-1 : Int32)) hx hb dX10_turn_89 (by decide) ?_
        obtain ⟨q90, hq90, hf⟩ := ob_some hf
        refine z_callVi (o := 63) (ci := 6) (As := [.int (f_X5_firstOf 2 x1 h), .int ((f_X5_firstOf 2 x1 h) + (f_X5_framesOf 2 x1 h)), .int (-1 : Int32)]) (rest := []) (t_X7_damagedIn G l hN (f_X5_firstOf 2 x1 h) ((f_X5_firstOf 2 x1 h) + (f_X5_framesOf 2 x1 h)) (-1 : Int32) q81 hq90) cv_X7_damagedIn hx hb hml hl.1 Z hw (by decide) (by decide) (by omega) rfl rfl wd459 rfl rfl (Nat.le_of_ble_eq_true rfl) (by decide) dX10_turn_90 (fun H locs hw => ?_)
        obtain ⟨rfl, rfl⟩ := Prod.mk.inj (Option.some.inj hf)
        exact z_iret hx hb hr hlk hw dX10_turn_93
      have hf := (if_neg c38_2).symm.trans hf
      by_cases c38_3 : x2 = 3
      · have hf := (if_pos c38_3).symm.trans hf
        refine z_sw c38_3 ?_
        refine lv_tableIn (tgt := 94) hx hb dX10_turn_38 (by decide) (by decide) rfl (by decide) ?_
        refine lv_aload_n hx hb dX10_turn_94 rfl (lv_at hl 2 rfl) ?_
        refine z_getr (o := 0) (o2 := 1) (C := RX10) (T := TX10) (N := 8) (ci := 8) (k := 0) hx hb Z hw (by decide) (by omega) rfl inX10 (by decide) rfl wd233 dX10_turn_95 ?_
        refine z_getr (o := 1) (o2 := 5) (C := RX6) (T := TX6) (N := 4) (ci := 5) (k := 2) hx hb Z hw (by decide) (by omega) rfl inX6 (by decide) rfl wd150 dX10_turn_98 ?_
        refine lv_iload_n hx hb dX10_turn_101 rfl (lv_at hl 1 rfl) ?_
        refine lv_iload_n hx hb dX10_turn_102 rfl (lv_at hl 1 rfl) ?_
        refine lv_iload hx hb dX10_turn_103 (lv_at hl 0 rfl) ?_
        refine lv_iadd hx hb dX10_turn_105 ?_
        obtain ⟨q106, hq106, hf⟩ := ob_some hf
        refine z_callVi (o := 5) (ci := 7) (As := [.int (f_X5_firstOf 2 x1 h), .int ((f_X5_firstOf 2 x1 h) + (f_X5_framesOf 2 x1 h))]) (rest := []) (t_X8_lengthOfAll G l hN 5 (by decide) (by omega) (f_X5_firstOf 2 x1 h) ((f_X5_firstOf 2 x1 h) + (f_X5_framesOf 2 x1 h)) h hq106) cv_X8_lengthOfAll hx hb hml hl.1 Z hw (by decide) (by decide) (by omega) rfl rfl wd611 rfl rfl (Nat.le_of_ble_eq_true rfl) (by decide) dX10_turn_106 (fun H locs hw => ?_)
        obtain ⟨rfl, rfl⟩ := Prod.mk.inj (Option.some.inj hf)
        exact z_iret hx hb hr hlk hw dX10_turn_109
      have hf := (if_neg c38_3).symm.trans hf
      refine lv_tableOut (tgt := 110) hx hb dX10_turn_38 (by have := [0]; have e0 := sw_ne (k := 0) (by decide) c38_0; have e1 := sw_ne (k := 1) (by decide) c38_1; have e2 := sw_ne (k := 2) (by decide) c38_2; have e3 := sw_ne (k := 3) (by decide) c38_3; omega) (by decide) ?_
      refine lv_bipush (v := (-2 : Int32)) hx hb dX10_turn_110 (by decide) ?_
      obtain ⟨rfl, rfl⟩ := Prod.mk.inj (Option.some.inj hf)
      exact z_iret hx hb hr hlk hw dX10_turn_112
    · have hf := (if_neg c7).symm.trans hf
      refine lv_iconst (v := (-1 : Int32)) hx hb dX10_turn_10 (by decide) ?_
      obtain ⟨rfl, rfl⟩ := Prod.mk.inj (Option.some.inj hf)
      exact z_iret hx hb hr hlk hw dX10_turn_11
set_option maxHeartbeats 4000000 in
set_option maxRecDepth 100000 in
theorem t_X10_scratchOf (G : GM) (l : Launch) (hN : 70 ≤ gN G) (x1 : Int32) (x2 : Int32) (h : HP) {r : Int32} {h' : HP} (hf : f_X10_scratchOf x1 x2 h = some (r, h')) : MC G l yX10_scratchOf cX10_scratchOf 3 (some .int) 4 [.ref (ra G 0), .int x1, .int x2] h h' (some (.int r)) := by
  unfold f_X10_scratchOf at hf
  refine z_start (by decide) (Nat.le_of_ble_eq_true rfl) ?_
  intro p e s m args below meth c ls hx hb hr hlk hml Z hw hl
  have Z : ZK G s args m RX10 := Z
  have hl : lv_has ls 3 [(0, .ref (ra G 0)), (1, .int x1), (2, .int x2)] := hl
  obtain ⟨H, hH⟩ : ∃ H, H = s.heap := ⟨_, rfl⟩
  rw [← hH] at hw ⊢
  obtain ⟨locs, hlc⟩ : ∃ locs : List Loc, locs = [] := ⟨_, rfl⟩
  rw [← hlc] at hw ⊢
  refine lv_aload_n hx hb dX10_scratchOf_0 rfl (lv_at hl 0 rfl) ?_
  refine z_getr (o := 0) (o2 := 1) (C := RX10) (T := TX10) (N := 8) (ci := 8) (k := 0) hx hb Z hw (by decide) (by omega) rfl inX10 (by decide) rfl wd233 dX10_scratchOf_1 ?_
  refine z_getr (o := 1) (o2 := 3) (C := RX6) (T := TX6) (N := 4) (ci := 5) (k := 1) hx hb Z hw (by decide) (by omega) rfl inX6 (by decide) rfl wd148 dX10_scratchOf_4 ?_
  refine lv_iload_n hx hb dX10_scratchOf_7 rfl (lv_at hl 1 rfl) ?_
  refine z_callVi (o := 3) (ci := 3) (As := [.int x1]) (rest := []) (t_X4_has G l hN 3 (by decide) (by omega) x1 h) cv_X4_has hx hb hml hl.1 Z hw (by decide) (by decide) (by omega) rfl rfl wd468 rfl rfl (Nat.le_of_ble_eq_true rfl) (by decide) dX10_scratchOf_8 (fun H locs hw => ?_)
  refine lv_if_ne (tgt := 16) hx hb dX10_scratchOf_11 (by decide) (fun c11 => ?_) (fun c11 => ?_)
  · have hf := (if_neg c11).symm.trans hf
    refine lv_iload_n hx hb dX10_scratchOf_16 rfl (lv_at hl 2 rfl) ?_
    by_cases c17_0 : x2 = 0
    · have hf := (if_pos c17_0).symm.trans hf
      refine z_sw c17_0 ?_
      refine lv_tableIn (tgt := 52) hx hb dX10_scratchOf_17 (by decide) (by decide) rfl (by decide) ?_
      refine lv_aload_n hx hb dX10_scratchOf_52 rfl (lv_at hl 0 rfl) ?_
      refine z_getr (o := 0) (o2 := 1) (C := RX10) (T := TX10) (N := 8) (ci := 8) (k := 0) hx hb Z hw (by decide) (by omega) rfl inX10 (by decide) rfl wd233 dX10_scratchOf_53 ?_
      refine z_getr (o := 1) (o2 := 3) (C := RX6) (T := TX6) (N := 4) (ci := 5) (k := 1) hx hb Z hw (by decide) (by omega) rfl inX6 (by decide) rfl wd148 dX10_scratchOf_56 ?_
      refine lv_iload_n hx hb dX10_scratchOf_59 rfl (lv_at hl 1 rfl) ?_
      refine z_callVi (o := 3) (ci := 3) (As := [.int x1]) (rest := []) (t_X4_fromOf G l hN 3 (by decide) (by omega) x1 h) cv_X4_fromOf hx hb hml hl.1 Z hw (by decide) (by decide) (by omega) rfl rfl wd692 rfl rfl (Nat.le_of_ble_eq_true rfl) (by decide) dX10_scratchOf_60 (fun H locs hw => ?_)
      obtain ⟨rfl, rfl⟩ := Prod.mk.inj (Option.some.inj hf)
      exact z_iret hx hb hr hlk hw dX10_scratchOf_63
    have hf := (if_neg c17_0).symm.trans hf
    by_cases c17_1 : x2 = 1
    · have hf := (if_pos c17_1).symm.trans hf
      refine z_sw c17_1 ?_
      refine lv_tableIn (tgt := 64) hx hb dX10_scratchOf_17 (by decide) (by decide) rfl (by decide) ?_
      refine lv_aload_n hx hb dX10_scratchOf_64 rfl (lv_at hl 0 rfl) ?_
      refine z_getr (o := 0) (o2 := 1) (C := RX10) (T := TX10) (N := 8) (ci := 8) (k := 0) hx hb Z hw (by decide) (by omega) rfl inX10 (by decide) rfl wd233 dX10_scratchOf_65 ?_
      refine z_getr (o := 1) (o2 := 3) (C := RX6) (T := TX6) (N := 4) (ci := 5) (k := 1) hx hb Z hw (by decide) (by omega) rfl inX6 (by decide) rfl wd148 dX10_scratchOf_68 ?_
      refine lv_iload_n hx hb dX10_scratchOf_71 rfl (lv_at hl 1 rfl) ?_
      refine z_callVi (o := 3) (ci := 3) (As := [.int x1]) (rest := []) (t_X4_toOf G l hN 3 (by decide) (by omega) x1 h) cv_X4_toOf hx hb hml hl.1 Z hw (by decide) (by decide) (by omega) rfl rfl wd693 rfl rfl (Nat.le_of_ble_eq_true rfl) (by decide) dX10_scratchOf_72 (fun H locs hw => ?_)
      obtain ⟨rfl, rfl⟩ := Prod.mk.inj (Option.some.inj hf)
      exact z_iret hx hb hr hlk hw dX10_scratchOf_75
    have hf := (if_neg c17_1).symm.trans hf
    by_cases c17_2 : x2 = 2
    · have hf := (if_pos c17_2).symm.trans hf
      refine z_sw c17_2 ?_
      refine lv_tableIn (tgt := 76) hx hb dX10_scratchOf_17 (by decide) (by decide) rfl (by decide) ?_
      refine lv_aload_n hx hb dX10_scratchOf_76 rfl (lv_at hl 0 rfl) ?_
      refine z_getr (o := 0) (o2 := 1) (C := RX10) (T := TX10) (N := 8) (ci := 8) (k := 0) hx hb Z hw (by decide) (by omega) rfl inX10 (by decide) rfl wd233 dX10_scratchOf_77 ?_
      refine z_getr (o := 1) (o2 := 3) (C := RX6) (T := TX6) (N := 4) (ci := 5) (k := 1) hx hb Z hw (by decide) (by omega) rfl inX6 (by decide) rfl wd148 dX10_scratchOf_80 ?_
      refine lv_iload_n hx hb dX10_scratchOf_83 rfl (lv_at hl 1 rfl) ?_
      refine z_callVi (o := 3) (ci := 3) (As := [.int x1]) (rest := []) (t_X4_innerOf G l hN 3 (by decide) (by omega) x1 h) cv_X4_innerOf hx hb hml hl.1 Z hw (by decide) (by decide) (by omega) rfl rfl wd694 rfl rfl (Nat.le_of_ble_eq_true rfl) (by decide) dX10_scratchOf_84 (fun H locs hw => ?_)
      obtain ⟨rfl, rfl⟩ := Prod.mk.inj (Option.some.inj hf)
      exact z_iret hx hb hr hlk hw dX10_scratchOf_87
    have hf := (if_neg c17_2).symm.trans hf
    by_cases c17_3 : x2 = 3
    · have hf := (if_pos c17_3).symm.trans hf
      refine z_sw c17_3 ?_
      refine lv_tableIn (tgt := 88) hx hb dX10_scratchOf_17 (by decide) (by decide) rfl (by decide) ?_
      refine lv_aload_n hx hb dX10_scratchOf_88 rfl (lv_at hl 0 rfl) ?_
      refine z_getr (o := 0) (o2 := 1) (C := RX10) (T := TX10) (N := 8) (ci := 8) (k := 0) hx hb Z hw (by decide) (by omega) rfl inX10 (by decide) rfl wd233 dX10_scratchOf_89 ?_
      refine z_getr (o := 1) (o2 := 3) (C := RX6) (T := TX6) (N := 4) (ci := 5) (k := 1) hx hb Z hw (by decide) (by omega) rfl inX6 (by decide) rfl wd148 dX10_scratchOf_92 ?_
      refine lv_iload_n hx hb dX10_scratchOf_95 rfl (lv_at hl 1 rfl) ?_
      refine z_callVi (o := 3) (ci := 3) (As := [.int x1]) (rest := []) (t_X4_outerOf G l hN 3 (by decide) (by omega) x1 h) cv_X4_outerOf hx hb hml hl.1 Z hw (by decide) (by decide) (by omega) rfl rfl wd695 rfl rfl (Nat.le_of_ble_eq_true rfl) (by decide) dX10_scratchOf_96 (fun H locs hw => ?_)
      obtain ⟨rfl, rfl⟩ := Prod.mk.inj (Option.some.inj hf)
      exact z_iret hx hb hr hlk hw dX10_scratchOf_99
    have hf := (if_neg c17_3).symm.trans hf
    by_cases c17_4 : x2 = 4
    · have hf := (if_pos c17_4).symm.trans hf
      refine z_sw c17_4 ?_
      refine lv_tableIn (tgt := 100) hx hb dX10_scratchOf_17 (by decide) (by decide) rfl (by decide) ?_
      refine lv_aload_n hx hb dX10_scratchOf_100 rfl (lv_at hl 0 rfl) ?_
      refine z_getr (o := 0) (o2 := 63) (C := RX10) (T := TX10) (N := 8) (ci := 8) (k := 6) hx hb Z hw (by decide) (by omega) rfl inX10 (by decide) rfl wd239 dX10_scratchOf_101 ?_
      refine lv_aload_n hx hb dX10_scratchOf_104 rfl (lv_at hl 0 rfl) ?_
      refine z_getr (o := 0) (o2 := 1) (C := RX10) (T := TX10) (N := 8) (ci := 8) (k := 0) hx hb Z hw (by decide) (by omega) rfl inX10 (by decide) rfl wd233 dX10_scratchOf_105 ?_
      obtain ⟨q108, hq108, hf⟩ := ob_some hf
      refine z_callVi (o := 63) (ci := 6) (As := [.ref (ra G 1)]) (rest := []) (t_X7_of G l hN 1 (by decide) (by omega) h hq108) cv_X7_of hx hb hml hl.1 Z hw (by decide) (by decide) (by omega) rfl rfl wd343 rfl rfl (Nat.le_of_ble_eq_true rfl) (by decide) dX10_scratchOf_108 (fun H locs hw => ?_)
      refine lv_iconst (v := (0 : Int32)) hx hb dX10_scratchOf_111 (by decide) ?_
      refine lv_sipush (v := (3810 : Int32)) hx hb dX10_scratchOf_112 (by decide) ?_
      refine lv_iconst (v := (1 : Int32)) hx hb dX10_scratchOf_115 (by decide) ?_
      refine lv_iload_n hx hb dX10_scratchOf_116 rfl (lv_at hl 1 rfl) ?_
      refine lv_ishl hx hb dX10_scratchOf_117 ?_
      obtain ⟨q118, hq118, hf⟩ := ob_some hf
      refine z_callVi (o := 63) (ci := 6) (As := [.int (0 : Int32), .int (3810 : Int32), .int ((1 : Int32) <<< (x1 &&& 31))]) (rest := []) (t_X7_damagedIn G l hN (0 : Int32) (3810 : Int32) ((1 : Int32) <<< (x1 &&& 31)) q108 hq118) cv_X7_damagedIn hx hb hml hl.1 Z hw (by decide) (by decide) (by omega) rfl rfl wd459 rfl rfl (Nat.le_of_ble_eq_true rfl) (by decide) dX10_scratchOf_118 (fun H locs hw => ?_)
      obtain ⟨rfl, rfl⟩ := Prod.mk.inj (Option.some.inj hf)
      exact z_iret hx hb hr hlk hw dX10_scratchOf_121
    have hf := (if_neg c17_4).symm.trans hf
    refine lv_tableOut (tgt := 122) hx hb dX10_scratchOf_17 (by have := [0]; have e0 := sw_ne (k := 0) (by decide) c17_0; have e1 := sw_ne (k := 1) (by decide) c17_1; have e2 := sw_ne (k := 2) (by decide) c17_2; have e3 := sw_ne (k := 3) (by decide) c17_3; have e4 := sw_ne (k := 4) (by decide) c17_4; omega) (by decide) ?_
    refine lv_bipush (v := (-2 : Int32)) hx hb dX10_scratchOf_122 (by decide) ?_
    obtain ⟨rfl, rfl⟩ := Prod.mk.inj (Option.some.inj hf)
    exact z_iret hx hb hr hlk hw dX10_scratchOf_124
  · have hf := (if_pos c11).symm.trans hf
    refine lv_iconst (v := (-1 : Int32)) hx hb dX10_scratchOf_14 (by decide) ?_
    obtain ⟨rfl, rfl⟩ := Prod.mk.inj (Option.some.inj hf)
    exact z_iret hx hb hr hlk hw dX10_scratchOf_15
set_option maxHeartbeats 4000000 in
set_option maxRecDepth 100000 in
theorem t_X5_isSetting (G : GM) (l : Launch) (hN : 70 ≤ gN G) (x0 : Int32) (h : HP) : MC G l yX5_isSetting cX5_isSetting 1 (some .boolean) 0 [.int x0] h h (some (.int (f_X5_isSetting x0 h))) := by
  generalize hf : f_X5_isSetting x0 h = r
  unfold f_X5_isSetting at hf
  refine z_start (by decide) (Nat.le_of_ble_eq_true rfl) ?_
  intro p e s m args below meth c ls hx hb hr hlk hml Z hw hl
  have Z : ZK G s args m RX5 := Z
  have hl : lv_has ls 1 [(0, .int x0)] := hl
  obtain ⟨H, hH⟩ : ∃ H, H = s.heap := ⟨_, rfl⟩
  rw [← hH] at hw ⊢
  obtain ⟨locs, hlc⟩ : ∃ locs : List Loc, locs = [] := ⟨_, rfl⟩
  rw [← hlc] at hw ⊢
  refine lv_iload_n hx hb dX5_isSetting_0 rfl (lv_at hl 0 rfl) ?_
  refine lv_if_lt (tgt := 13) hx hb dX5_isSetting_1 (by decide) (fun c1 => ?_) (fun c1 => ?_)
  · have hf := (if_pos c1).symm.trans hf
    refine lv_iconst (v := (0 : Int32)) hx hb dX5_isSetting_13 (by decide) ?_
    obtain rfl := hf
    exact z_zret hx hb hr rfl hlk hw dX5_isSetting_14
  · have hf := (if_neg c1).symm.trans hf
    refine lv_iload_n hx hb dX5_isSetting_4 rfl (lv_at hl 0 rfl) ?_
    refine lv_iconst (v := (5 : Int32)) hx hb dX5_isSetting_5 (by decide) ?_
    refine lv_icmp_gt (tgt := 13) hx hb dX5_isSetting_6 (by decide) (fun c6 => ?_) (fun c6 => ?_)
    · have hf := (if_pos c6).symm.trans hf
      refine lv_iconst (v := (0 : Int32)) hx hb dX5_isSetting_13 (by decide) ?_
      obtain rfl := hf
      exact z_zret hx hb hr rfl hlk hw dX5_isSetting_14
    · have hf := (if_neg c6).symm.trans hf
      refine lv_iconst (v := (1 : Int32)) hx hb dX5_isSetting_9 (by decide) ?_
      refine lv_goto (tgt := 14) hx hb dX5_isSetting_10 (by decide) ?_
      obtain rfl := hf
      exact z_zret hx hb hr rfl hlk hw dX5_isSetting_14
set_option maxHeartbeats 4000000 in
set_option maxRecDepth 100000 in
theorem t_X10_countSetting (G : GM) (l : Launch) (hN : 70 ≤ gN G) (x1 : Int32) (h : HP) : MC G l yX10_countSetting cX10_countSetting 2 (some .int) 1 [.ref (ra G 0), .int x1] h h (some (.int (f_X10_countSetting x1 h))) := by
  generalize hf : f_X10_countSetting x1 h = r
  unfold f_X10_countSetting at hf
  refine z_start (by decide) (Nat.le_of_ble_eq_true rfl) ?_
  intro p e s m args below meth c ls hx hb hr hlk hml Z hw hl
  have Z : ZK G s args m RX10 := Z
  have hl : lv_has ls 2 [(0, .ref (ra G 0)), (1, .int x1)] := hl
  obtain ⟨H, hH⟩ : ∃ H, H = s.heap := ⟨_, rfl⟩
  rw [← hH] at hw ⊢
  obtain ⟨locs, hlc⟩ : ∃ locs : List Loc, locs = [] := ⟨_, rfl⟩
  rw [← hlc] at hw ⊢
  refine lv_iload_n hx hb dX10_countSetting_0 rfl (lv_at hl 1 rfl) ?_
  refine z_callSi (As := [.int x1]) (rest := []) (t_X5_isSetting G l hN x1 h) cs_X5_isSetting hx hb hml hl.1 Z hw wd433 rfl rfl (Nat.le_of_ble_eq_true rfl) (by decide) dX10_countSetting_1 (fun H locs hw => ?_)
  refine lv_if_eq (tgt := 21) hx hb dX10_countSetting_4 (by decide) (fun c4 => ?_) (fun c4 => ?_)
  · have hf := (if_pos c4).symm.trans hf
    refine lv_bipush (v := (-2 : Int32)) hx hb dX10_countSetting_21 (by decide) ?_
    obtain rfl := hf
    exact z_iret hx hb hr hlk hw dX10_countSetting_23
  · have hf := (if_neg c4).symm.trans hf
    refine lv_aload_n hx hb dX10_countSetting_7 rfl (lv_at hl 0 rfl) ?_
    refine z_getr (o := 0) (o2 := 1) (C := RX10) (T := TX10) (N := 8) (ci := 8) (k := 0) hx hb Z hw (by decide) (by omega) rfl inX10 (by decide) rfl wd233 dX10_countSetting_8 ?_
    refine z_getr (o := 1) (o2 := 2) (C := RX6) (T := TX6) (N := 4) (ci := 5) (k := 0) hx hb Z hw (by decide) (by omega) rfl inX6 (by decide) rfl wd145 dX10_countSetting_11 ?_
    refine lv_iload_n hx hb dX10_countSetting_14 rfl (lv_at hl 1 rfl) ?_
    refine z_callVi (o := 2) (ci := 4) (As := [.int x1]) (rest := []) (t_X5_settingAt G l hN 2 (by decide) (by omega) x1 h) cv_X5_settingAt hx hb hml hl.1 Z hw (by decide) (by decide) (by omega) rfl rfl wd265 rfl rfl (Nat.le_of_ble_eq_true rfl) (by decide) dX10_countSetting_15 (fun H locs hw => ?_)
    refine lv_goto (tgt := 23) hx hb dX10_countSetting_18 (by decide) ?_
    obtain rfl := hf
    exact z_iret hx hb hr hlk hw dX10_countSetting_23
set_option maxHeartbeats 4000000 in
set_option maxRecDepth 100000 in
theorem w_X7_framesThatAre_L13 (G : GM) (l : Launch) (hN : 70 ≤ gN G)  {p : Program} {e : Env} {s : State} {m : MethodId} {args : Array Value} {below : List Frame} {meth : Method} {c : Code} (hx : p.tables.exec = Jvm.exec) (hb : c.code = cX7_framesThatAre) (hr : meth.sig.returnType = (some .int)) (hlk : meth.locks = false) (hml : c.maxLocals = 5) (Z : ZK G s args m RX7) : ∀ (n : Nat) (x1 : Int32) (x2 : Int32) (x3 : Int32) (x4 : Int32)  (h : HP)  (rv : Option Value) (hq : HP) (ls : Array Slot) (H : Heap) (locs : List Loc) {q : Int32}, lv_has ls 5 [(0, .ref (ra G 63)), (1, .int x1), (2, .int x2), (3, .int x3), (4, .int x4)] → HW G h s H locs → f_X7_framesThatAre_L13 n x1 x2 x3 x4 h = some q → (∀ (ls : Array Slot) (H : Heap) (locs : List Loc), lv_has ls 5 [(2, .int q)] → HW G h s H locs → WZ p l e 2 s m args below meth c G rv hq H locs (F0 m 49 ls [])) → WZ p l e 2 s m args below meth c G rv hq H locs (F0 m 13 ls []) := by
  intro n
  induction n with
  | zero => intro x1 x2 x3 x4  h  rv hq ls H locs q hl hw hf kk; cases hf
  | succ n ih =>
    intro x1 x2 x3 x4  h  rv hq ls H locs q hl hw hf kk
    rw [f_X7_framesThatAre_L13] at hf
    refine lv_iload hx hb dX7_framesThatAre_13 (lv_at hl 4 rfl) ?_
    refine lv_iload_n hx hb dX7_framesThatAre_15 rfl (lv_at hl 3 rfl) ?_
    refine lv_icmp_ge (tgt := 49) hx hb dX7_framesThatAre_16 (by decide) (fun c16 => ?_) (fun c16 => ?_)
    · have hf := (if_pos c16).symm.trans hf
      obtain rfl := Option.some.inj hf
      exact kk ls H locs (lv_sub hl [2] rfl) hw
    · have hf := (if_neg c16).symm.trans hf
      refine lv_iload hx hb dX7_framesThatAre_19 (lv_at hl 4 rfl) ?_
      refine lv_aload_n hx hb dX7_framesThatAre_21 rfl (lv_at hl 0 rfl) ?_
      refine z_getr (o := 63) (o2 := 68) (C := RX7) (T := TX7) (N := 4) (ci := 6) (k := 3) hx hb Z hw (by decide) (by omega) rfl inX7 (by decide) rfl wd221 dX7_framesThatAre_22 ?_
      refine z_alen (o := 68) (v := (3810 : Int32)) hx hb Z hw (by decide) (by omega) (by decide) dX7_framesThatAre_25 ?_
      refine lv_icmp_ge (tgt := 49) hx hb dX7_framesThatAre_26 (by decide) (fun c26 => ?_) (fun c26 => ?_)
      · have hf := (if_pos c26).symm.trans hf
        obtain rfl := Option.some.inj hf
        exact kk ls H locs (lv_sub hl [2] rfl) hw
      · have hf := (if_neg c26).symm.trans hf
        refine lv_aload_n hx hb dX7_framesThatAre_29 rfl (lv_at hl 0 rfl) ?_
        refine z_getr (o := 63) (o2 := 68) (C := RX7) (T := TX7) (N := 4) (ci := 6) (k := 3) hx hb Z hw (by decide) (by omega) rfl inX7 (by decide) rfl wd221 dX7_framesThatAre_30 ?_
        refine lv_iload hx hb dX7_framesThatAre_33 (lv_at hl 4 rfl) ?_
        obtain ⟨h35, hf⟩ := gd_some hf
        refine y_iald (o := 68) (k := x4.toNatClampNeg) hx hb Z hw (by decide) (by omega) rfl (inB_vp h35) dX7_framesThatAre_35 ?_
        refine lv_iload_n hx hb dX7_framesThatAre_36 rfl (lv_at hl 1 rfl) ?_
        have HJ43 : ∀ (ls : Array Slot) (H : Heap) (locs : List Loc), lv_has ls 5 [(0, .ref (ra G 63)), (1, .int x1), (2, .int (if (h 68 x4.toNatClampNeg) = x1 then (x2 + (1 : Int32)) else x2)), (3, .int x3), (4, .int x4)] → HW G h s H locs → WZ p l e 2 s m args below meth c G rv hq H locs (F0 m 43 ls []) := by
          intro ls H locs hl hw
          refine lv_iinc (v := x4 + (1 : Int32)) (lv' := [(4, _), (0, _), (1, _), (2, _), (3, _)]) hx hb dX7_framesThatAre_43 hl (k := 4) rfl rfl (by decide) rfl (fun ls hl => ?_)
          refine lv_goto (tgt := 13) hx hb dX7_framesThatAre_46 (by decide) ?_
          exact ih x1 (if (h 68 x4.toNatClampNeg) = x1 then (x2 + (1 : Int32)) else x2) x3 (x4 + (1 : Int32)) h  rv hq ls H locs (lv_sub hl [1, 2, 3, 4, 0] rfl) hw hf kk
        refine lv_icmp_ne (tgt := 43) hx hb dX7_framesThatAre_37 (by decide) (fun c37 => ?_) (fun c37 => ?_)
        · skip
          exact HJ43 ls H locs (by simp only [if_neg c37]; exact lv_sub hl [0, 1, 2, 3, 4] rfl) hw
        · skip
          refine lv_iinc (v := x2 + (1 : Int32)) (lv' := [(2, _), (0, _), (1, _), (3, _), (4, _)]) hx hb dX7_framesThatAre_40 hl (k := 2) rfl rfl (by decide) rfl (fun ls hl => ?_)
          exact HJ43 ls H locs (by simp only [if_pos c37]; exact lv_sub hl [1, 2, 0, 3, 4] rfl) hw
set_option maxHeartbeats 4000000 in
set_option maxRecDepth 100000 in
theorem t_X7_framesThatAre (G : GM) (l : Launch) (hN : 70 ≤ gN G) (x1 : Int32) (h : HP) {r : Int32} (hf : f_X7_framesThatAre x1 h = some r) : MC G l yX7_framesThatAre cX7_framesThatAre 5 (some .int) 2 [.ref (ra G 63), .int x1] h h (some (.int r)) := by
  unfold f_X7_framesThatAre at hf
  refine z_start (by decide) (Nat.le_of_ble_eq_true rfl) ?_
  intro p e s m args below meth c ls hx hb hr hlk hml Z hw hl
  have Z : ZK G s args m RX7 := Z
  have hl : lv_has ls 5 [(0, .ref (ra G 63)), (1, .int x1)] := hl
  obtain ⟨H, hH⟩ : ∃ H, H = s.heap := ⟨_, rfl⟩
  rw [← hH] at hw ⊢
  obtain ⟨locs, hlc⟩ : ∃ locs : List Loc, locs = [] := ⟨_, rfl⟩
  rw [← hlc] at hw ⊢
  refine lv_iconst (v := (0 : Int32)) hx hb dX7_framesThatAre_0 (by decide) ?_
  refine lv_istore_n (lv' := [(2, _), (0, _), (1, _)]) hx hb dX7_framesThatAre_1 rfl hl (by decide) rfl (fun ls hl => ?_)
  refine lv_aload_n hx hb dX7_framesThatAre_2 rfl (lv_at hl 1 rfl) ?_
  refine z_getr (o := 63) (o2 := 64) (C := RX7) (T := TX7) (N := 4) (ci := 6) (k := 0) hx hb Z hw (by decide) (by omega) rfl inX7 (by decide) rfl wd218 dX7_framesThatAre_3 ?_
  refine z_callVi (o := 64) (ci := 4) (As := []) (rest := []) (t_X5_allFrames G l hN 64 (by decide) (by omega) h) cv_X5_allFrames hx hb hml hl.1 Z hw (by decide) (by decide) (by omega) rfl rfl wd399 rfl rfl (Nat.le_of_ble_eq_true rfl) (by decide) dX7_framesThatAre_6 (fun H locs hw => ?_)
  refine lv_istore_n (lv' := [(3, _), (2, _), (0, _), (1, _)]) hx hb dX7_framesThatAre_9 rfl hl (by decide) rfl (fun ls hl => ?_)
  refine lv_iconst (v := (0 : Int32)) hx hb dX7_framesThatAre_10 (by decide) ?_
  refine lv_istore (lv' := [(4, _), (3, _), (2, _), (0, _), (1, _)]) hx hb dX7_framesThatAre_11 hl (by decide) rfl (fun ls hl => ?_)
  obtain ⟨q13, hq13, hf⟩ := ob_some hf
  refine w_X7_framesThatAre_L13 G l hN  hx hb hr hlk hml Z FU x1 (0 : Int32) (f_X5_allFrames 64 h) (0 : Int32) h  _ _ ls H locs (lv_sub hl [3, 4, 2, 1, 0] rfl) hw hq13 (fun ls H locs hl hw => ?_)
  refine lv_iload_n hx hb dX7_framesThatAre_49 rfl (lv_at hl 0 rfl) ?_
  obtain rfl := Option.some.inj hf
  exact z_iret hx hb hr hlk hw dX7_framesThatAre_50
set_option maxHeartbeats 4000000 in
set_option maxRecDepth 100000 in
theorem t_X10_count (G : GM) (l : Launch) (hN : 70 ≤ gN G) (x1 : Int32) (h : HP) {r : Int32} {h' : HP} (hf : f_X10_count x1 h = some (r, h')) : MC G l yX10_count cX10_count 2 (some .int) 4 [.ref (ra G 0), .int x1] h h' (some (.int r)) := by
  unfold f_X10_count at hf
  refine z_start (by decide) (Nat.le_of_ble_eq_true rfl) ?_
  intro p e s m args below meth c ls hx hb hr hlk hml Z hw hl
  have Z : ZK G s args m RX10 := Z
  have hl : lv_has ls 2 [(0, .ref (ra G 0)), (1, .int x1)] := hl
  obtain ⟨H, hH⟩ : ∃ H, H = s.heap := ⟨_, rfl⟩
  rw [← hH] at hw ⊢
  obtain ⟨locs, hlc⟩ : ∃ locs : List Loc, locs = [] := ⟨_, rfl⟩
  rw [← hlc] at hw ⊢
  refine lv_iload_n hx hb dX10_count_0 rfl (lv_at hl 1 rfl) ?_
  by_cases c1_0 : x1 = 0
  · have hf := (if_pos c1_0).symm.trans hf
    refine z_sw c1_0 ?_
    refine lv_tableIn (tgt := 84) hx hb dX10_count_1 (by decide) (by decide) rfl (by decide) ?_
    refine lv_aload_n hx hb dX10_count_84 rfl (lv_at hl 0 rfl) ?_
    refine z_getr (o := 0) (o2 := 1) (C := RX10) (T := TX10) (N := 8) (ci := 8) (k := 0) hx hb Z hw (by decide) (by omega) rfl inX10 (by decide) rfl wd233 dX10_count_85 ?_
    refine z_getr (o := 1) (o2 := 2) (C := RX6) (T := TX6) (N := 4) (ci := 5) (k := 0) hx hb Z hw (by decide) (by omega) rfl inX6 (by decide) rfl wd145 dX10_count_88 ?_
    refine z_callVi (o := 2) (ci := 4) (As := []) (rest := []) (t_X5_allFrames G l hN 2 (by decide) (by omega) h) cv_X5_allFrames hx hb hml hl.1 Z hw (by decide) (by decide) (by omega) rfl rfl wd326 rfl rfl (Nat.le_of_ble_eq_true rfl) (by decide) dX10_count_91 (fun H locs hw => ?_)
    obtain ⟨rfl, rfl⟩ := Prod.mk.inj (Option.some.inj hf)
    exact z_iret hx hb hr hlk hw dX10_count_94
  have hf := (if_neg c1_0).symm.trans hf
  by_cases c1_1 : x1 = 1
  · have hf := (if_pos c1_1).symm.trans hf
    refine z_sw c1_1 ?_
    refine lv_tableIn (tgt := 95) hx hb dX10_count_1 (by decide) (by decide) rfl (by decide) ?_
    refine lv_aload_n hx hb dX10_count_95 rfl (lv_at hl 0 rfl) ?_
    refine z_getr (o := 0) (o2 := 1) (C := RX10) (T := TX10) (N := 8) (ci := 8) (k := 0) hx hb Z hw (by decide) (by omega) rfl inX10 (by decide) rfl wd233 dX10_count_96 ?_
    refine z_getr (o := 1) (o2 := 2) (C := RX6) (T := TX6) (N := 4) (ci := 5) (k := 0) hx hb Z hw (by decide) (by omega) rfl inX6 (by decide) rfl wd145 dX10_count_99 ?_
    refine z_callVi (o := 2) (ci := 4) (As := []) (rest := []) (t_X5_groups G l hN 2 (by decide) (by omega) h) cv_X5_groups hx hb hml hl.1 Z hw (by decide) (by decide) (by omega) rfl rfl wd334 rfl rfl (Nat.le_of_ble_eq_true rfl) (by decide) dX10_count_102 (fun H locs hw => ?_)
    obtain ⟨rfl, rfl⟩ := Prod.mk.inj (Option.some.inj hf)
    exact z_iret hx hb hr hlk hw dX10_count_105
  have hf := (if_neg c1_1).symm.trans hf
  by_cases c1_2 : x1 = 2
  · have hf := (if_pos c1_2).symm.trans hf
    refine z_sw c1_2 ?_
    refine lv_tableIn (tgt := 106) hx hb dX10_count_1 (by decide) (by decide) rfl (by decide) ?_
    refine lv_aload_n hx hb dX10_count_106 rfl (lv_at hl 0 rfl) ?_
    refine z_getr (o := 0) (o2 := 1) (C := RX10) (T := TX10) (N := 8) (ci := 8) (k := 0) hx hb Z hw (by decide) (by omega) rfl inX10 (by decide) rfl wd233 dX10_count_107 ?_
    refine z_getr (o := 1) (o2 := 3) (C := RX6) (T := TX6) (N := 4) (ci := 5) (k := 1) hx hb Z hw (by decide) (by omega) rfl inX6 (by decide) rfl wd148 dX10_count_110 ?_
    refine z_geti (o := 3) (C := RX4) (T := TX4) (N := 2) (ci := 3) (k := 1) hx hb Z hw (by decide) (by omega) rfl inX4 (by decide) wd88 dX10_count_113 ?_
    obtain ⟨rfl, rfl⟩ := Prod.mk.inj (Option.some.inj hf)
    exact z_iret hx hb hr hlk hw dX10_count_116
  have hf := (if_neg c1_2).symm.trans hf
  by_cases c1_3 : x1 = 3
  · have hf := (if_pos c1_3).symm.trans hf
    refine z_sw c1_3 ?_
    refine lv_tableIn (tgt := 117) hx hb dX10_count_1 (by decide) (by decide) rfl (by decide) ?_
    refine lv_aload_n hx hb dX10_count_117 rfl (lv_at hl 0 rfl) ?_
    refine z_getr (o := 0) (o2 := 1) (C := RX10) (T := TX10) (N := 8) (ci := 8) (k := 0) hx hb Z hw (by decide) (by omega) rfl inX10 (by decide) rfl wd233 dX10_count_118 ?_
    refine z_getr (o := 1) (o2 := 8) (C := RX6) (T := TX6) (N := 4) (ci := 5) (k := 3) hx hb Z hw (by decide) (by omega) rfl inX6 (by decide) rfl wd152 dX10_count_121 ?_
    refine z_geti (o := 8) (C := RX1) (T := TX1) (N := 6) (ci := 0) (k := 0) hx hb Z hw (by decide) (by omega) rfl inX1 (by decide) wd119 dX10_count_124 ?_
    obtain ⟨rfl, rfl⟩ := Prod.mk.inj (Option.some.inj hf)
    exact z_iret hx hb hr hlk hw dX10_count_127
  have hf := (if_neg c1_3).symm.trans hf
  by_cases c1_4 : x1 = 4
  · have hf := (if_pos c1_4).symm.trans hf
    refine z_sw c1_4 ?_
    refine lv_tableIn (tgt := 128) hx hb dX10_count_1 (by decide) (by decide) rfl (by decide) ?_
    refine lv_aload_n hx hb dX10_count_128 rfl (lv_at hl 0 rfl) ?_
    refine z_getr (o := 0) (o2 := 1) (C := RX10) (T := TX10) (N := 8) (ci := 8) (k := 0) hx hb Z hw (by decide) (by omega) rfl inX10 (by decide) rfl wd233 dX10_count_129 ?_
    refine z_getr (o := 1) (o2 := 2) (C := RX6) (T := TX6) (N := 4) (ci := 5) (k := 0) hx hb Z hw (by decide) (by omega) rfl inX6 (by decide) rfl wd145 dX10_count_132 ?_
    refine lv_aload_n hx hb dX10_count_135 rfl (lv_at hl 0 rfl) ?_
    refine z_getr (o := 0) (o2 := 1) (C := RX10) (T := TX10) (N := 8) (ci := 8) (k := 0) hx hb Z hw (by decide) (by omega) rfl inX10 (by decide) rfl wd233 dX10_count_136 ?_
    refine z_getr (o := 1) (o2 := 8) (C := RX6) (T := TX6) (N := 4) (ci := 5) (k := 3) hx hb Z hw (by decide) (by omega) rfl inX6 (by decide) rfl wd152 dX10_count_139 ?_
    refine z_geti (o := 8) (C := RX1) (T := TX1) (N := 6) (ci := 0) (k := 0) hx hb Z hw (by decide) (by omega) rfl inX1 (by decide) wd119 dX10_count_142 ?_
    obtain ⟨q145, hq145, hf⟩ := ob_some hf
    refine z_callVi (o := 2) (ci := 4) (As := [.int (h 8 0)]) (rest := []) (t_X5_turnOf G l hN 2 (by decide) (by omega) (h 8 0) h hq145) cv_X5_turnOf hx hb hml hl.1 Z hw (by decide) (by decide) (by omega) rfl rfl wd339 rfl rfl (Nat.le_of_ble_eq_true rfl) (by decide) dX10_count_145 (fun H locs hw => ?_)
    obtain ⟨rfl, rfl⟩ := Prod.mk.inj (Option.some.inj hf)
    exact z_iret hx hb hr hlk hw dX10_count_148
  have hf := (if_neg c1_4).symm.trans hf
  by_cases c1_5 : x1 = 5
  · have hf := (if_pos c1_5).symm.trans hf
    refine z_sw c1_5 ?_
    refine lv_tableIn (tgt := 149) hx hb dX10_count_1 (by decide) (by decide) rfl (by decide) ?_
    refine lv_aload_n hx hb dX10_count_149 rfl (lv_at hl 0 rfl) ?_
    refine z_getr (o := 0) (o2 := 1) (C := RX10) (T := TX10) (N := 8) (ci := 8) (k := 0) hx hb Z hw (by decide) (by omega) rfl inX10 (by decide) rfl wd233 dX10_count_150 ?_
    refine z_getr (o := 1) (o2 := 8) (C := RX6) (T := TX6) (N := 4) (ci := 5) (k := 3) hx hb Z hw (by decide) (by omega) rfl inX6 (by decide) rfl wd152 dX10_count_153 ?_
    refine z_geti (o := 8) (C := RX1) (T := TX1) (N := 6) (ci := 0) (k := 1) hx hb Z hw (by decide) (by omega) rfl inX1 (by decide) wd121 dX10_count_156 ?_
    obtain ⟨rfl, rfl⟩ := Prod.mk.inj (Option.some.inj hf)
    exact z_iret hx hb hr hlk hw dX10_count_159
  have hf := (if_neg c1_5).symm.trans hf
  by_cases c1_6 : x1 = 6
  · have hf := (if_pos c1_6).symm.trans hf
    refine z_sw c1_6 ?_
    refine lv_tableIn (tgt := 160) hx hb dX10_count_1 (by decide) (by decide) rfl (by decide) ?_
    refine lv_aload_n hx hb dX10_count_160 rfl (lv_at hl 0 rfl) ?_
    refine z_getr (o := 0) (o2 := 1) (C := RX10) (T := TX10) (N := 8) (ci := 8) (k := 0) hx hb Z hw (by decide) (by omega) rfl inX10 (by decide) rfl wd233 dX10_count_161 ?_
    refine z_getr (o := 1) (o2 := 8) (C := RX6) (T := TX6) (N := 4) (ci := 5) (k := 3) hx hb Z hw (by decide) (by omega) rfl inX6 (by decide) rfl wd152 dX10_count_164 ?_
    refine z_geti (o := 8) (C := RX1) (T := TX1) (N := 6) (ci := 0) (k := 2) hx hb Z hw (by decide) (by omega) rfl inX1 (by decide) wd123 dX10_count_167 ?_
    obtain ⟨rfl, rfl⟩ := Prod.mk.inj (Option.some.inj hf)
    exact z_iret hx hb hr hlk hw dX10_count_170
  have hf := (if_neg c1_6).symm.trans hf
  by_cases c1_7 : x1 = 7
  · have hf := (if_pos c1_7).symm.trans hf
    refine z_sw c1_7 ?_
    refine lv_tableIn (tgt := 171) hx hb dX10_count_1 (by decide) (by decide) rfl (by decide) ?_
    refine lv_aload_n hx hb dX10_count_171 rfl (lv_at hl 0 rfl) ?_
    refine z_getr (o := 0) (o2 := 1) (C := RX10) (T := TX10) (N := 8) (ci := 8) (k := 0) hx hb Z hw (by decide) (by omega) rfl inX10 (by decide) rfl wd233 dX10_count_172 ?_
    refine z_getr (o := 1) (o2 := 8) (C := RX6) (T := TX6) (N := 4) (ci := 5) (k := 3) hx hb Z hw (by decide) (by omega) rfl inX6 (by decide) rfl wd152 dX10_count_175 ?_
    refine z_geti (o := 8) (C := RX1) (T := TX1) (N := 6) (ci := 0) (k := 3) hx hb Z hw (by decide) (by omega) rfl inX1 (by decide) wd125 dX10_count_178 ?_
    obtain ⟨rfl, rfl⟩ := Prod.mk.inj (Option.some.inj hf)
    exact z_iret hx hb hr hlk hw dX10_count_181
  have hf := (if_neg c1_7).symm.trans hf
  by_cases c1_8 : x1 = 8
  · have hf := (if_pos c1_8).symm.trans hf
    refine z_sw c1_8 ?_
    refine lv_tableIn (tgt := 182) hx hb dX10_count_1 (by decide) (by decide) rfl (by decide) ?_
    refine lv_aload_n hx hb dX10_count_182 rfl (lv_at hl 0 rfl) ?_
    refine z_getr (o := 0) (o2 := 1) (C := RX10) (T := TX10) (N := 8) (ci := 8) (k := 0) hx hb Z hw (by decide) (by omega) rfl inX10 (by decide) rfl wd233 dX10_count_183 ?_
    refine z_getr (o := 1) (o2 := 8) (C := RX6) (T := TX6) (N := 4) (ci := 5) (k := 3) hx hb Z hw (by decide) (by omega) rfl inX6 (by decide) rfl wd152 dX10_count_186 ?_
    refine z_geti (o := 8) (C := RX1) (T := TX1) (N := 6) (ci := 0) (k := 4) hx hb Z hw (by decide) (by omega) rfl inX1 (by decide) wd127 dX10_count_189 ?_
    obtain ⟨rfl, rfl⟩ := Prod.mk.inj (Option.some.inj hf)
    exact z_iret hx hb hr hlk hw dX10_count_192
  have hf := (if_neg c1_8).symm.trans hf
  by_cases c1_9 : x1 = 9
  · have hf := (if_pos c1_9).symm.trans hf
    refine z_sw c1_9 ?_
    refine lv_tableIn (tgt := 193) hx hb dX10_count_1 (by decide) (by decide) rfl (by decide) ?_
    refine lv_aload_n hx hb dX10_count_193 rfl (lv_at hl 0 rfl) ?_
    refine z_getr (o := 0) (o2 := 1) (C := RX10) (T := TX10) (N := 8) (ci := 8) (k := 0) hx hb Z hw (by decide) (by omega) rfl inX10 (by decide) rfl wd233 dX10_count_194 ?_
    refine z_getr (o := 1) (o2 := 8) (C := RX6) (T := TX6) (N := 4) (ci := 5) (k := 3) hx hb Z hw (by decide) (by omega) rfl inX6 (by decide) rfl wd152 dX10_count_197 ?_
    refine z_geti (o := 8) (C := RX1) (T := TX1) (N := 6) (ci := 0) (k := 5) hx hb Z hw (by decide) (by omega) rfl inX1 (by decide) wd129 dX10_count_200 ?_
    obtain ⟨rfl, rfl⟩ := Prod.mk.inj (Option.some.inj hf)
    exact z_iret hx hb hr hlk hw dX10_count_203
  have hf := (if_neg c1_9).symm.trans hf
  by_cases c1_10 : x1 = 10
  · have hf := (if_pos c1_10).symm.trans hf
    refine z_sw c1_10 ?_
    refine lv_tableIn (tgt := 204) hx hb dX10_count_1 (by decide) (by decide) rfl (by decide) ?_
    refine lv_aload_n hx hb dX10_count_204 rfl (lv_at hl 0 rfl) ?_
    refine z_getr (o := 0) (o2 := 63) (C := RX10) (T := TX10) (N := 8) (ci := 8) (k := 6) hx hb Z hw (by decide) (by omega) rfl inX10 (by decide) rfl wd239 dX10_count_205 ?_
    refine lv_aload_n hx hb dX10_count_208 rfl (lv_at hl 0 rfl) ?_
    refine z_getr (o := 0) (o2 := 1) (C := RX10) (T := TX10) (N := 8) (ci := 8) (k := 0) hx hb Z hw (by decide) (by omega) rfl inX10 (by decide) rfl wd233 dX10_count_209 ?_
    obtain ⟨q212, hq212, hf⟩ := ob_some hf
    refine z_callVi (o := 63) (ci := 6) (As := [.ref (ra G 1)]) (rest := []) (t_X7_of G l hN 1 (by decide) (by omega) h hq212) cv_X7_of hx hb hml hl.1 Z hw (by decide) (by decide) (by omega) rfl rfl wd343 rfl rfl (Nat.le_of_ble_eq_true rfl) (by decide) dX10_count_212 (fun H locs hw => ?_)
    refine lv_iconst (v := (0 : Int32)) hx hb dX10_count_215 (by decide) ?_
    obtain ⟨q216, hq216, hf⟩ := ob_some hf
    refine z_callVi (o := 63) (ci := 6) (As := [.int (0 : Int32)]) (rest := []) (t_X7_framesThatAre G l hN (0 : Int32) q212 hq216) cv_X7_framesThatAre hx hb hml hl.1 Z hw (by decide) (by decide) (by omega) rfl rfl wd425 rfl rfl (Nat.le_of_ble_eq_true rfl) (by decide) dX10_count_216 (fun H locs hw => ?_)
    obtain ⟨rfl, rfl⟩ := Prod.mk.inj (Option.some.inj hf)
    exact z_iret hx hb hr hlk hw dX10_count_219
  have hf := (if_neg c1_10).symm.trans hf
  by_cases c1_11 : x1 = 11
  · have hf := (if_pos c1_11).symm.trans hf
    refine z_sw c1_11 ?_
    refine lv_tableIn (tgt := 220) hx hb dX10_count_1 (by decide) (by decide) rfl (by decide) ?_
    refine lv_aload_n hx hb dX10_count_220 rfl (lv_at hl 0 rfl) ?_
    refine z_getr (o := 0) (o2 := 63) (C := RX10) (T := TX10) (N := 8) (ci := 8) (k := 6) hx hb Z hw (by decide) (by omega) rfl inX10 (by decide) rfl wd239 dX10_count_221 ?_
    refine lv_aload_n hx hb dX10_count_224 rfl (lv_at hl 0 rfl) ?_
    refine z_getr (o := 0) (o2 := 1) (C := RX10) (T := TX10) (N := 8) (ci := 8) (k := 0) hx hb Z hw (by decide) (by omega) rfl inX10 (by decide) rfl wd233 dX10_count_225 ?_
    obtain ⟨q228, hq228, hf⟩ := ob_some hf
    refine z_callVi (o := 63) (ci := 6) (As := [.ref (ra G 1)]) (rest := []) (t_X7_of G l hN 1 (by decide) (by omega) h hq228) cv_X7_of hx hb hml hl.1 Z hw (by decide) (by decide) (by omega) rfl rfl wd343 rfl rfl (Nat.le_of_ble_eq_true rfl) (by decide) dX10_count_228 (fun H locs hw => ?_)
    refine lv_iconst (v := (1 : Int32)) hx hb dX10_count_231 (by decide) ?_
    obtain ⟨q232, hq232, hf⟩ := ob_some hf
    refine z_callVi (o := 63) (ci := 6) (As := [.int (1 : Int32)]) (rest := []) (t_X7_framesThatAre G l hN (1 : Int32) q228 hq232) cv_X7_framesThatAre hx hb hml hl.1 Z hw (by decide) (by decide) (by omega) rfl rfl wd425 rfl rfl (Nat.le_of_ble_eq_true rfl) (by decide) dX10_count_232 (fun H locs hw => ?_)
    obtain ⟨rfl, rfl⟩ := Prod.mk.inj (Option.some.inj hf)
    exact z_iret hx hb hr hlk hw dX10_count_235
  have hf := (if_neg c1_11).symm.trans hf
  by_cases c1_12 : x1 = 12
  · have hf := (if_pos c1_12).symm.trans hf
    refine z_sw c1_12 ?_
    refine lv_tableIn (tgt := 236) hx hb dX10_count_1 (by decide) (by decide) rfl (by decide) ?_
    refine lv_aload_n hx hb dX10_count_236 rfl (lv_at hl 0 rfl) ?_
    refine z_getr (o := 0) (o2 := 63) (C := RX10) (T := TX10) (N := 8) (ci := 8) (k := 6) hx hb Z hw (by decide) (by omega) rfl inX10 (by decide) rfl wd239 dX10_count_237 ?_
    refine lv_aload_n hx hb dX10_count_240 rfl (lv_at hl 0 rfl) ?_
    refine z_getr (o := 0) (o2 := 1) (C := RX10) (T := TX10) (N := 8) (ci := 8) (k := 0) hx hb Z hw (by decide) (by omega) rfl inX10 (by decide) rfl wd233 dX10_count_241 ?_
    obtain ⟨q244, hq244, hf⟩ := ob_some hf
    refine z_callVi (o := 63) (ci := 6) (As := [.ref (ra G 1)]) (rest := []) (t_X7_of G l hN 1 (by decide) (by omega) h hq244) cv_X7_of hx hb hml hl.1 Z hw (by decide) (by decide) (by omega) rfl rfl wd343 rfl rfl (Nat.le_of_ble_eq_true rfl) (by decide) dX10_count_244 (fun H locs hw => ?_)
    refine lv_iconst (v := (2 : Int32)) hx hb dX10_count_247 (by decide) ?_
    obtain ⟨q248, hq248, hf⟩ := ob_some hf
    refine z_callVi (o := 63) (ci := 6) (As := [.int (2 : Int32)]) (rest := []) (t_X7_framesThatAre G l hN (2 : Int32) q244 hq248) cv_X7_framesThatAre hx hb hml hl.1 Z hw (by decide) (by decide) (by omega) rfl rfl wd425 rfl rfl (Nat.le_of_ble_eq_true rfl) (by decide) dX10_count_248 (fun H locs hw => ?_)
    obtain ⟨rfl, rfl⟩ := Prod.mk.inj (Option.some.inj hf)
    exact z_iret hx hb hr hlk hw dX10_count_251
  have hf := (if_neg c1_12).symm.trans hf
  by_cases c1_13 : x1 = 13
  · have hf := (if_pos c1_13).symm.trans hf
    refine z_sw c1_13 ?_
    refine lv_tableIn (tgt := 252) hx hb dX10_count_1 (by decide) (by decide) rfl (by decide) ?_
    refine lv_aload_n hx hb dX10_count_252 rfl (lv_at hl 0 rfl) ?_
    refine z_getr (o := 0) (o2 := 63) (C := RX10) (T := TX10) (N := 8) (ci := 8) (k := 6) hx hb Z hw (by decide) (by omega) rfl inX10 (by decide) rfl wd239 dX10_count_253 ?_
    refine lv_aload_n hx hb dX10_count_256 rfl (lv_at hl 0 rfl) ?_
    refine z_getr (o := 0) (o2 := 1) (C := RX10) (T := TX10) (N := 8) (ci := 8) (k := 0) hx hb Z hw (by decide) (by omega) rfl inX10 (by decide) rfl wd233 dX10_count_257 ?_
    obtain ⟨q260, hq260, hf⟩ := ob_some hf
    refine z_callVi (o := 63) (ci := 6) (As := [.ref (ra G 1)]) (rest := []) (t_X7_of G l hN 1 (by decide) (by omega) h hq260) cv_X7_of hx hb hml hl.1 Z hw (by decide) (by decide) (by omega) rfl rfl wd343 rfl rfl (Nat.le_of_ble_eq_true rfl) (by decide) dX10_count_260 (fun H locs hw => ?_)
    refine lv_iconst (v := (3 : Int32)) hx hb dX10_count_263 (by decide) ?_
    obtain ⟨q264, hq264, hf⟩ := ob_some hf
    refine z_callVi (o := 63) (ci := 6) (As := [.int (3 : Int32)]) (rest := []) (t_X7_framesThatAre G l hN (3 : Int32) q260 hq264) cv_X7_framesThatAre hx hb hml hl.1 Z hw (by decide) (by decide) (by omega) rfl rfl wd425 rfl rfl (Nat.le_of_ble_eq_true rfl) (by decide) dX10_count_264 (fun H locs hw => ?_)
    obtain ⟨rfl, rfl⟩ := Prod.mk.inj (Option.some.inj hf)
    exact z_iret hx hb hr hlk hw dX10_count_267
  have hf := (if_neg c1_13).symm.trans hf
  by_cases c1_14 : x1 = 14
  · have hf := (if_pos c1_14).symm.trans hf
    refine z_sw c1_14 ?_
    refine lv_tableIn (tgt := 268) hx hb dX10_count_1 (by decide) (by decide) rfl (by decide) ?_
    refine lv_aload_n hx hb dX10_count_268 rfl (lv_at hl 0 rfl) ?_
    refine z_getr (o := 0) (o2 := 1) (C := RX10) (T := TX10) (N := 8) (ci := 8) (k := 0) hx hb Z hw (by decide) (by omega) rfl inX10 (by decide) rfl wd233 dX10_count_269 ?_
    refine z_getr (o := 1) (o2 := 5) (C := RX6) (T := TX6) (N := 4) (ci := 5) (k := 2) hx hb Z hw (by decide) (by omega) rfl inX6 (by decide) rfl wd150 dX10_count_272 ?_
    refine z_geti (o := 5) (C := RX8) (T := TX8) (N := 3) (ci := 7) (k := 2) hx hb Z hw (by decide) (by omega) rfl inX8 (by decide) wd104 dX10_count_275 ?_
    obtain ⟨rfl, rfl⟩ := Prod.mk.inj (Option.some.inj hf)
    exact z_iret hx hb hr hlk hw dX10_count_278
  have hf := (if_neg c1_14).symm.trans hf
  by_cases c1_15 : x1 = 15
  · have hf := (if_pos c1_15).symm.trans hf
    refine z_sw c1_15 ?_
    refine lv_tableIn (tgt := 279) hx hb dX10_count_1 (by decide) (by decide) rfl (by decide) ?_
    refine lv_aload_n hx hb dX10_count_279 rfl (lv_at hl 0 rfl) ?_
    refine z_getr (o := 0) (o2 := 25) (C := RX10) (T := TX10) (N := 8) (ci := 8) (k := 4) hx hb Z hw (by decide) (by omega) rfl inX10 (by decide) rfl wd237 dX10_count_280 ?_
    refine z_geti (o := 25) (C := RX2) (T := TX2) (N := 2) (ci := 1) (k := 1) hx hb Z hw (by decide) (by omega) rfl inX2 (by decide) wd173 dX10_count_283 ?_
    obtain ⟨rfl, rfl⟩ := Prod.mk.inj (Option.some.inj hf)
    exact z_iret hx hb hr hlk hw dX10_count_286
  have hf := (if_neg c1_15).symm.trans hf
  by_cases c1_16 : x1 = 16
  · have hf := (if_pos c1_16).symm.trans hf
    refine z_sw c1_16 ?_
    refine lv_tableIn (tgt := 287) hx hb dX10_count_1 (by decide) (by decide) rfl (by decide) ?_
    refine lv_aload_n hx hb dX10_count_287 rfl (lv_at hl 0 rfl) ?_
    refine z_getr (o := 0) (o2 := 59) (C := RX10) (T := TX10) (N := 8) (ci := 8) (k := 5) hx hb Z hw (by decide) (by omega) rfl inX10 (by decide) rfl wd238 dX10_count_288 ?_
    refine z_geti (o := 59) (C := RX3) (T := TX3) (N := 6) (ci := 2) (k := 1) hx hb Z hw (by decide) (by omega) rfl inX3 (by decide) wd189 dX10_count_291 ?_
    obtain ⟨rfl, rfl⟩ := Prod.mk.inj (Option.some.inj hf)
    exact z_iret hx hb hr hlk hw dX10_count_294
  have hf := (if_neg c1_16).symm.trans hf
  refine lv_tableOut (tgt := 295) hx hb dX10_count_1 (by have := [0]; have e0 := sw_ne (k := 0) (by decide) c1_0; have e1 := sw_ne (k := 1) (by decide) c1_1; have e2 := sw_ne (k := 2) (by decide) c1_2; have e3 := sw_ne (k := 3) (by decide) c1_3; have e4 := sw_ne (k := 4) (by decide) c1_4; have e5 := sw_ne (k := 5) (by decide) c1_5; have e6 := sw_ne (k := 6) (by decide) c1_6; have e7 := sw_ne (k := 7) (by decide) c1_7; have e8 := sw_ne (k := 8) (by decide) c1_8; have e9 := sw_ne (k := 9) (by decide) c1_9; have e10 := sw_ne (k := 10) (by decide) c1_10; have e11 := sw_ne (k := 11) (by decide) c1_11; have e12 := sw_ne (k := 12) (by decide) c1_12; have e13 := sw_ne (k := 13) (by decide) c1_13; have e14 := sw_ne (k := 14) (by decide) c1_14; have e15 := sw_ne (k := 15) (by decide) c1_15; have e16 := sw_ne (k := 16) (by decide) c1_16; omega) (by decide) ?_
  refine lv_aload_n hx hb dX10_count_295 rfl (lv_at hl 0 rfl) ?_
  refine lv_iload_n hx hb dX10_count_296 rfl (lv_at hl 1 rfl) ?_
  refine lv_bipush (v := (17 : Int32)) hx hb dX10_count_297 (by decide) ?_
  refine lv_isub hx hb dX10_count_299 ?_
  refine z_callVi (o := 0) (ci := 8) (As := [.int (x1 - (17 : Int32))]) (rest := []) (t_X10_countSetting G l hN (x1 - (17 : Int32)) h) cv_X10_countSetting hx hb hml hl.1 Z hw (by decide) (by decide) (by omega) rfl rfl wd429 rfl rfl (Nat.le_of_ble_eq_true rfl) (by decide) dX10_count_300 (fun H locs hw => ?_)
  obtain ⟨rfl, rfl⟩ := Prod.mk.inj (Option.some.inj hf)
  exact z_iret hx hb hr hlk hw dX10_count_303
set_option maxHeartbeats 4000000 in
set_option maxRecDepth 100000 in
theorem w_X10_isToldRight_L23 (G : GM) (l : Launch) (hN : 70 ≤ gN G)  {p : Program} {e : Env} {s : State} {m : MethodId} {args : Array Value} {below : List Frame} {meth : Method} {c : Code} (hx : p.tables.exec = Jvm.exec) (hb : c.code = cX10_isToldRight) (hr : meth.sig.returnType = (some .boolean)) (hlk : meth.locks = false) (hml : c.maxLocals = 5) (Z : ZK G s args m RX10) : ∀ (n : Nat) (x1 : Int32) (x2 : Int32) (x3 : Int32) (x4 : Int32)  (h : HP)  (rv : Option Value) (hq : HP) (ls : Array Slot) (H : Heap) (locs : List Loc) {q : Int32}, lv_has ls 5 [(0, .ref (ra G 0)), (1, .int x1), (2, .int x2), (3, .int x3), (4, .int x4)] → HW G h s H locs → f_X10_isToldRight_L23 n x1 x2 x3 x4 h = some q → (∀ (ls : Array Slot) (H : Heap) (locs : List Loc), lv_has ls 5 [(3, .int q)] → HW G h s H locs → WZ p l e 4 s m args below meth c G rv hq H locs (F0 m 73 ls [])) → WZ p l e 4 s m args below meth c G rv hq H locs (F0 m 23 ls []) := by
  intro n
  induction n with
  | zero => intro x1 x2 x3 x4  h  rv hq ls H locs q hl hw hf kk; cases hf
  | succ n ih =>
    intro x1 x2 x3 x4  h  rv hq ls H locs q hl hw hf kk
    rw [f_X10_isToldRight_L23] at hf
    refine lv_iload hx hb dX10_isToldRight_23 (lv_at hl 4 rfl) ?_
    refine lv_iconst (v := (4 : Int32)) hx hb dX10_isToldRight_25 (by decide) ?_
    refine lv_icmp_ge (tgt := 73) hx hb dX10_isToldRight_26 (by decide) (fun c26 => ?_) (fun c26 => ?_)
    · have hf := (if_pos c26).symm.trans hf
      obtain rfl := Option.some.inj hf
      exact kk ls H locs (lv_sub hl [3] rfl) hw
    · have hf := (if_neg c26).symm.trans hf
      refine lv_iload_n hx hb dX10_isToldRight_29 rfl (lv_at hl 3 rfl) ?_
      refine lv_if_eq (tgt := 73) hx hb dX10_isToldRight_30 (by decide) (fun c30 => ?_) (fun c30 => ?_)
      · have hf := (if_pos c30).symm.trans hf
        obtain rfl := Option.some.inj hf
        exact kk ls H locs (lv_sub hl [3] rfl) hw
      · have hf := (if_neg c30).symm.trans hf
        refine lv_iload_n hx hb dX10_isToldRight_33 rfl (lv_at hl 2 rfl) ?_
        refine lv_iconst (v := (2 : Int32)) hx hb dX10_isToldRight_34 (by decide) ?_
        refine lv_icmp_ne (tgt := 73) hx hb dX10_isToldRight_35 (by decide) (fun c35 => ?_) (fun c35 => ?_)
        · have hf := (if_neg c35).symm.trans hf
          obtain rfl := Option.some.inj hf
          exact kk ls H locs (lv_sub hl [3] rfl) hw
        · have hf := (if_pos c35).symm.trans hf
          refine lv_aload_n hx hb dX10_isToldRight_38 rfl (lv_at hl 0 rfl) ?_
          refine lv_iload_n hx hb dX10_isToldRight_39 rfl (lv_at hl 1 rfl) ?_
          refine lv_iload hx hb dX10_isToldRight_40 (lv_at hl 4 rfl) ?_
          obtain ⟨q42, hq42, hf⟩ := ob_some hf
          refine z_callVi (o := 0) (ci := 8) (As := [.int x1, .int x4]) (rest := []) (t_X10_filledSymbol G l hN x1 x4 h hq42) cv_X10_filledSymbol hx hb hml hl.1 Z hw (by decide) (by decide) (by omega) rfl rfl wd624 rfl rfl (Nat.le_of_ble_eq_true rfl) (by decide) dX10_isToldRight_42 (fun H locs hw => ?_)
          refine lv_aload_n hx hb dX10_isToldRight_45 rfl (lv_at hl 0 rfl) ?_
          refine z_getr (o := 0) (o2 := 1) (C := RX10) (T := TX10) (N := 8) (ci := 8) (k := 0) hx hb Z hw (by decide) (by omega) rfl inX10 (by decide) rfl wd233 dX10_isToldRight_46 ?_
          refine z_getr (o := 1) (o2 := 5) (C := RX6) (T := TX6) (N := 4) (ci := 5) (k := 2) hx hb Z hw (by decide) (by omega) rfl inX6 (by decide) rfl wd150 dX10_isToldRight_49 ?_
          refine lv_iload_n hx hb dX10_isToldRight_52 rfl (lv_at hl 1 rfl) ?_
          refine lv_iload hx hb dX10_isToldRight_53 (lv_at hl 4 rfl) ?_
          obtain ⟨q55, hq55, hf⟩ := ob_some hf
          refine z_callVi (o := 5) (ci := 7) (As := [.int x1, .int x4]) (rest := [.int q42]) (t_X8_standsAt G l hN 5 (by decide) (by omega) x1 x4 h hq55) cv_X8_standsAt hx hb hml hl.1 Z hw (by decide) (by decide) (by omega) rfl rfl wd493 rfl rfl (Nat.le_of_ble_eq_true rfl) (by decide) dX10_isToldRight_55 (fun H locs hw => ?_)
          have HJ66 : ∀ (ls : Array Slot) (H : Heap) (locs : List Loc), lv_has ls 5 [(0, .ref (ra G 0)), (1, .int x1), (2, .int x2), (4, .int x4)] → HW G h s H locs → WZ p l e 4 s m args below meth c G rv hq H locs (F0 m 66 ls [.int (if q42 = q55 then (1 : Int32) else (0 : Int32))]) := by
            intro ls H locs hl hw
            obtain ⟨v66, hqv66, hf⟩ := tb_ex hf
            refine z_top hqv66 ?_
            refine lv_istore_n (lv' := [(3, _), (0, _), (1, _), (2, _), (4, _)]) hx hb dX10_isToldRight_66 rfl hl (by decide) rfl (fun ls hl => ?_)
            refine lv_iinc (v := x4 + (1 : Int32)) (lv' := [(4, _), (3, _), (0, _), (1, _), (2, _)]) hx hb dX10_isToldRight_67 hl (k := 4) rfl rfl (by decide) rfl (fun ls hl => ?_)
            refine lv_goto (tgt := 23) hx hb dX10_isToldRight_70 (by decide) ?_
            exact ih x1 x2 v66 (x4 + (1 : Int32)) h  rv hq ls H locs (lv_sub hl [2, 3, 4, 1, 0] rfl) hw hf kk
          refine lv_icmp_ne (tgt := 65) hx hb dX10_isToldRight_58 (by decide) (fun c58 => ?_) (fun c58 => ?_)
          · skip
            refine lv_iconst (v := (0 : Int32)) hx hb dX10_isToldRight_65 (by decide) ?_
            refine W.eq (g2 := F0 m 66 ls [.int (if q42 = q55 then (1 : Int32) else (0 : Int32))]) ?_ (HJ66 ls H locs (lv_sub hl [0, 1, 2, 4] rfl) hw)
            simp only [if_neg c58]
          · skip
            refine lv_iconst (v := (1 : Int32)) hx hb dX10_isToldRight_61 (by decide) ?_
            refine lv_goto (tgt := 66) hx hb dX10_isToldRight_62 (by decide) ?_
            refine W.eq (g2 := F0 m 66 ls [.int (if q42 = q55 then (1 : Int32) else (0 : Int32))]) ?_ (HJ66 ls H locs (lv_sub hl [0, 1, 2, 4] rfl) hw)
            simp only [if_pos c58]
set_option maxHeartbeats 4000000 in
set_option maxRecDepth 100000 in
theorem t_X10_isToldRight (G : GM) (l : Launch) (hN : 70 ≤ gN G) (x1 : Int32) (h : HP) {r : Int32} (hf : f_X10_isToldRight x1 h = some r) : MC G l yX10_isToldRight cX10_isToldRight 5 (some .boolean) 4 [.ref (ra G 0), .int x1] h h (some (.int r)) := by
  unfold f_X10_isToldRight at hf
  refine z_start (by decide) (Nat.le_of_ble_eq_true rfl) ?_
  intro p e s m args below meth c ls hx hb hr hlk hml Z hw hl
  have Z : ZK G s args m RX10 := Z
  have hl : lv_has ls 5 [(0, .ref (ra G 0)), (1, .int x1)] := hl
  obtain ⟨H, hH⟩ : ∃ H, H = s.heap := ⟨_, rfl⟩
  rw [← hH] at hw ⊢
  obtain ⟨locs, hlc⟩ : ∃ locs : List Loc, locs = [] := ⟨_, rfl⟩
  rw [← hlc] at hw ⊢
  refine lv_aload_n hx hb dX10_isToldRight_0 rfl (lv_at hl 0 rfl) ?_
  refine z_getr (o := 0) (o2 := 63) (C := RX10) (T := TX10) (N := 8) (ci := 8) (k := 6) hx hb Z hw (by decide) (by omega) rfl inX10 (by decide) rfl wd239 dX10_isToldRight_1 ?_
  refine lv_iload_n hx hb dX10_isToldRight_4 rfl (lv_at hl 1 rfl) ?_
  refine z_callVi (o := 63) (ci := 6) (As := [.int x1]) (rest := []) (t_X7_howIs G l hN x1 h) cv_X7_howIs hx hb hml hl.1 Z hw (by decide) (by decide) (by omega) rfl rfl wd582 rfl rfl (Nat.le_of_ble_eq_true rfl) (by decide) dX10_isToldRight_5 (fun H locs hw => ?_)
  refine lv_istore_n (lv' := [(2, _), (0, _), (1, _)]) hx hb dX10_isToldRight_8 rfl hl (by decide) rfl (fun ls hl => ?_)
  refine lv_iload_n hx hb dX10_isToldRight_9 rfl (lv_at hl 0 rfl) ?_
  refine lv_iconst (v := (3 : Int32)) hx hb dX10_isToldRight_10 (by decide) ?_
  have HJ19 : ∀ (ls : Array Slot) (H : Heap) (locs : List Loc), lv_has ls 5 [(0, .ref (ra G 0)), (1, .int x1), (2, .int (f_X7_howIs x1 h))] → HW G h s H locs → WZ p l e 4 s m args below meth c G (some (.int r)) h H locs (F0 m 19 ls [.int (if (f_X7_howIs x1 h) = (3 : Int32) then (0 : Int32) else (1 : Int32))]) := by
    intro ls H locs hl hw
    obtain ⟨v19, hqv19, hf⟩ := tb_ex hf
    refine z_top hqv19 ?_
    refine lv_istore_n (lv' := [(3, _), (0, _), (1, _), (2, _)]) hx hb dX10_isToldRight_19 rfl hl (by decide) rfl (fun ls hl => ?_)
    refine lv_iconst (v := (0 : Int32)) hx hb dX10_isToldRight_20 (by decide) ?_
    refine lv_istore (lv' := [(4, _), (3, _), (0, _), (1, _), (2, _)]) hx hb dX10_isToldRight_21 hl (by decide) rfl (fun ls hl => ?_)
    obtain ⟨q23, hq23, hf⟩ := ob_some hf
    refine w_X10_isToldRight_L23 G l hN  hx hb hr hlk hml Z FU x1 (f_X7_howIs x1 h) v19 (0 : Int32) h  _ _ ls H locs (lv_sub hl [2, 3, 4, 1, 0] rfl) hw hq23 (fun ls H locs hl hw => ?_)
    refine lv_iload_n hx hb dX10_isToldRight_73 rfl (lv_at hl 0 rfl) ?_
    obtain ⟨hz74, hf⟩ := gd_some hf
    obtain rfl := Option.some.inj hf
    exact z_zret hx hb hr (nar_b (is01_or hz74)) hlk hw dX10_isToldRight_74
  refine lv_icmp_eq (tgt := 18) hx hb dX10_isToldRight_11 (by decide) (fun c11 => ?_) (fun c11 => ?_)
  · skip
    refine lv_iconst (v := (0 : Int32)) hx hb dX10_isToldRight_18 (by decide) ?_
    refine W.eq (g2 := F0 m 19 ls [.int (if (f_X7_howIs x1 h) = (3 : Int32) then (0 : Int32) else (1 : Int32))]) ?_ (HJ19 ls H locs (lv_sub hl [1, 2, 0] rfl) hw)
    simp only [if_pos c11]
  · skip
    refine lv_iconst (v := (1 : Int32)) hx hb dX10_isToldRight_14 (by decide) ?_
    refine lv_goto (tgt := 19) hx hb dX10_isToldRight_15 (by decide) ?_
    refine W.eq (g2 := F0 m 19 ls [.int (if (f_X7_howIs x1 h) = (3 : Int32) then (0 : Int32) else (1 : Int32))]) ?_ (HJ19 ls H locs (lv_sub hl [1, 2, 0] rfl) hw)
    simp only [if_neg c11]
set_option maxHeartbeats 4000000 in
set_option maxRecDepth 100000 in
theorem w_X10_right_L30 (G : GM) (l : Launch) (hN : 70 ≤ gN G)  {p : Program} {e : Env} {s : State} {m : MethodId} {args : Array Value} {below : List Frame} {meth : Method} {c : Code} (hx : p.tables.exec = Jvm.exec) (hb : c.code = cX10_right) (hr : meth.sig.returnType = (some .double)) (hlk : meth.locks = false) (hml : c.maxLocals = 5) (Z : ZK G s args m RX10) : ∀ (n : Nat) (x1 : Int32) (x2 : Int32) (x3 : Int32) (x4 : Int32)  (h : HP)  (rv : Option Value) (hq : HP) (ls : Array Slot) (H : Heap) (locs : List Loc) {q : Int32 × Int32}, lv_has ls 5 [(0, .ref (ra G 0)), (1, .int x1), (2, .int x2), (3, .int x3), (4, .int x4)] → HW G h s H locs → f_X10_right_L30 n x1 x2 x3 x4 h = some q → (∀ (ls : Array Slot) (H : Heap) (locs : List Loc), lv_has ls 5 [(1, .int q.1), (2, .int q.2)] → HW G h s H locs → WZ p l e 5 s m args below meth c G rv hq H locs (F0 m 70 ls [])) → WZ p l e 5 s m args below meth c G rv hq H locs (F0 m 30 ls []) := by
  intro n
  induction n with
  | zero => intro x1 x2 x3 x4  h  rv hq ls H locs q hl hw hf kk; cases hf
  | succ n ih =>
    intro x1 x2 x3 x4  h  rv hq ls H locs q hl hw hf kk
    rw [f_X10_right_L30] at hf
    refine lv_iload hx hb dX10_right_30 (lv_at hl 4 rfl) ?_
    refine lv_iload_n hx hb dX10_right_32 rfl (lv_at hl 3 rfl) ?_
    refine lv_icmp_ge (tgt := 70) hx hb dX10_right_33 (by decide) (fun c33 => ?_) (fun c33 => ?_)
    · have hf := (if_pos c33).symm.trans hf
      obtain rfl := Option.some.inj hf
      exact kk ls H locs (lv_sub hl [1, 2] rfl) hw
    · have hf := (if_neg c33).symm.trans hf
      refine lv_iload hx hb dX10_right_36 (lv_at hl 4 rfl) ?_
      refine z_callSi (As := [.int x4]) (rest := []) (t_X5_isCheck G l hN x4 h) cs_X5_isCheck hx hb hml hl.1 Z hw wd492 rfl rfl (Nat.le_of_ble_eq_true rfl) (by decide) dX10_right_38 (fun H locs hw => ?_)
      obtain ⟨j41, hqj41, hf⟩ := ob_some hf
      have HJ64 : ∀ (ls : Array Slot) (H : Heap) (locs : List Loc), lv_has ls 5 [(0, .ref (ra G 0)), (1, .int j41.1), (2, .int j41.2), (3, .int x3), (4, .int x4)] → HW G h s H locs → WZ p l e 5 s m args below meth c G rv hq H locs (F0 m 64 ls []) := by
        intro ls H locs hl hw
        refine lv_iinc (v := x4 + (1 : Int32)) (lv' := [(4, _), (0, _), (1, _), (2, _), (3, _)]) hx hb dX10_right_64 hl (k := 4) rfl rfl (by decide) rfl (fun ls hl => ?_)
        refine lv_goto (tgt := 30) hx hb dX10_right_67 (by decide) ?_
        exact ih j41.1 j41.2 x3 (x4 + (1 : Int32)) h  rv hq ls H locs (lv_sub hl [1, 2, 3, 4, 0] rfl) hw hf kk
      have hf := hqj41
      refine lv_if_ne (tgt := 64) hx hb dX10_right_41 (by decide) (fun c41 => ?_) (fun c41 => ?_)
      · have hf := (if_neg c41).symm.trans hf
        obtain rfl := Option.some.inj hf
        exact HJ64 ls H locs (lv_sub hl [0, 1, 2, 3, 4] rfl) hw
      · have hf := (if_pos c41).symm.trans hf
        refine lv_iinc (v := x1 + (1 : Int32)) (lv' := [(1, _), (0, _), (2, _), (3, _), (4, _)]) hx hb dX10_right_44 hl (k := 1) rfl rfl (by decide) rfl (fun ls hl => ?_)
        refine lv_iload_n hx hb dX10_right_47 rfl (lv_at hl 2 rfl) ?_
        refine lv_aload_n hx hb dX10_right_48 rfl (lv_at hl 1 rfl) ?_
        refine lv_iload hx hb dX10_right_49 (lv_at hl 4 rfl) ?_
        obtain ⟨q51, hq51, hf⟩ := ob_some hf
        refine z_callVi (o := 0) (ci := 8) (As := [.int x4]) (rest := [.int x2]) (t_X10_isToldRight G l hN x4 h hq51) cv_X10_isToldRight hx hb hml hl.1 Z hw (by decide) (by decide) (by omega) rfl rfl wd637 rfl rfl (Nat.le_of_ble_eq_true rfl) (by decide) dX10_right_51 (fun H locs hw => ?_)
        have HJ62 : ∀ (ls : Array Slot) (H : Heap) (locs : List Loc), lv_has ls 5 [(0, .ref (ra G 0)), (1, .int (x1 + (1 : Int32))), (3, .int x3), (4, .int x4)] → HW G h s H locs → WZ p l e 5 s m args below meth c G rv hq H locs (F0 m 62 ls [.int (if q51 = 0 then (0 : Int32) else (1 : Int32)), .int x2]) := by
          intro ls H locs hl hw
          refine lv_iadd hx hb dX10_right_62 ?_
          obtain ⟨v63, hqv63, hf⟩ := tb_ex hf
          refine z_top hqv63 ?_
          refine lv_istore_n (lv' := [(2, _), (0, _), (1, _), (3, _), (4, _)]) hx hb dX10_right_63 rfl hl (by decide) rfl (fun ls hl => ?_)
          obtain rfl := Option.some.inj hf
          exact HJ64 ls H locs (lv_sub hl [1, 2, 0, 3, 4] rfl) hw
        refine lv_if_eq (tgt := 61) hx hb dX10_right_54 (by decide) (fun c54 => ?_) (fun c54 => ?_)
        · skip
          refine lv_iconst (v := (0 : Int32)) hx hb dX10_right_61 (by decide) ?_
          refine W.eq (g2 := F0 m 62 ls [.int (if q51 = 0 then (0 : Int32) else (1 : Int32)), .int x2]) ?_ (HJ62 ls H locs (lv_sub hl [1, 0, 3, 4] rfl) hw)
          simp only [if_pos c54]
        · skip
          refine lv_iconst (v := (1 : Int32)) hx hb dX10_right_57 (by decide) ?_
          refine lv_goto (tgt := 62) hx hb dX10_right_58 (by decide) ?_
          refine W.eq (g2 := F0 m 62 ls [.int (if q51 = 0 then (0 : Int32) else (1 : Int32)), .int x2]) ?_ (HJ62 ls H locs (lv_sub hl [1, 0, 3, 4] rfl) hw)
          simp only [if_neg c54]
set_option maxHeartbeats 4000000 in
set_option maxRecDepth 100000 in
theorem t_X10_right (G : GM) (l : Launch) (hN : 70 ≤ gN G)  (h : HP) {r : UInt64} {h' : HP} (hf : f_X10_right  h = some (r, h')) : MC G l yX10_right cX10_right 5 (some .double) 5 [.ref (ra G 0)] h h' (some (.double r)) := by
  unfold f_X10_right at hf
  refine z_start (by decide) (Nat.le_of_ble_eq_true rfl) ?_
  intro p e s m args below meth c ls hx hb hr hlk hml Z hw hl
  have Z : ZK G s args m RX10 := Z
  have hl : lv_has ls 5 [(0, .ref (ra G 0))] := hl
  obtain ⟨H, hH⟩ : ∃ H, H = s.heap := ⟨_, rfl⟩
  rw [← hH] at hw ⊢
  obtain ⟨locs, hlc⟩ : ∃ locs : List Loc, locs = [] := ⟨_, rfl⟩
  rw [← hlc] at hw ⊢
  refine lv_iconst (v := (0 : Int32)) hx hb dX10_right_0 (by decide) ?_
  refine lv_istore_n (lv' := [(1, _), (0, _)]) hx hb dX10_right_1 rfl hl (by decide) rfl (fun ls hl => ?_)
  refine lv_iconst (v := (0 : Int32)) hx hb dX10_right_2 (by decide) ?_
  refine lv_istore_n (lv' := [(2, _), (1, _), (0, _)]) hx hb dX10_right_3 rfl hl (by decide) rfl (fun ls hl => ?_)
  refine lv_aload_n hx hb dX10_right_4 rfl (lv_at hl 2 rfl) ?_
  refine z_getr (o := 0) (o2 := 1) (C := RX10) (T := TX10) (N := 8) (ci := 8) (k := 0) hx hb Z hw (by decide) (by omega) rfl inX10 (by decide) rfl wd233 dX10_right_5 ?_
  refine z_getr (o := 1) (o2 := 2) (C := RX6) (T := TX6) (N := 4) (ci := 5) (k := 0) hx hb Z hw (by decide) (by omega) rfl inX6 (by decide) rfl wd145 dX10_right_8 ?_
  refine z_callVi (o := 2) (ci := 4) (As := []) (rest := []) (t_X5_allFrames G l hN 2 (by decide) (by omega) h) cv_X5_allFrames hx hb hml hl.1 Z hw (by decide) (by decide) (by omega) rfl rfl wd326 rfl rfl (Nat.le_of_ble_eq_true rfl) (by decide) dX10_right_11 (fun H locs hw => ?_)
  refine lv_istore_n (lv' := [(3, _), (2, _), (1, _), (0, _)]) hx hb dX10_right_14 rfl hl (by decide) rfl (fun ls hl => ?_)
  refine lv_aload_n hx hb dX10_right_15 rfl (lv_at hl 3 rfl) ?_
  refine z_getr (o := 0) (o2 := 63) (C := RX10) (T := TX10) (N := 8) (ci := 8) (k := 6) hx hb Z hw (by decide) (by omega) rfl inX10 (by decide) rfl wd239 dX10_right_16 ?_
  refine lv_aload_n hx hb dX10_right_19 rfl (lv_at hl 3 rfl) ?_
  refine z_getr (o := 0) (o2 := 1) (C := RX10) (T := TX10) (N := 8) (ci := 8) (k := 0) hx hb Z hw (by decide) (by omega) rfl inX10 (by decide) rfl wd233 dX10_right_20 ?_
  obtain ⟨q23, hq23, hf⟩ := ob_some hf
  refine z_callVi (o := 63) (ci := 6) (As := [.ref (ra G 1)]) (rest := []) (t_X7_of G l hN 1 (by decide) (by omega) h hq23) cv_X7_of hx hb hml hl.1 Z hw (by decide) (by decide) (by omega) rfl rfl wd343 rfl rfl (Nat.le_of_ble_eq_true rfl) (by decide) dX10_right_23 (fun H locs hw => ?_)
  refine lv_pop hx hb dX10_right_26 rfl ?_
  refine lv_iconst (v := (0 : Int32)) hx hb dX10_right_27 (by decide) ?_
  refine lv_istore (lv' := [(4, _), (3, _), (2, _), (1, _), (0, _)]) hx hb dX10_right_28 hl (by decide) rfl (fun ls hl => ?_)
  obtain ⟨q30, hq30, hf⟩ := ob_some hf
  refine w_X10_right_L30 G l hN  hx hb hr hlk hml Z FU (0 : Int32) (0 : Int32) (f_X5_allFrames 2 h) (0 : Int32) q23  _ _ ls H locs (lv_sub hl [4, 3, 2, 1, 0] rfl) hw hq30 (fun ls H locs hl hw => ?_)
  refine lv_iload_n hx hb dX10_right_70 rfl (lv_at hl 0 rfl) ?_
  refine lv_if_ne (tgt := 78) hx hb dX10_right_71 (by decide) (fun c71 => ?_) (fun c71 => ?_)
  · have hf := (if_neg c71).symm.trans hf
    refine lv_iload_n hx hb dX10_right_78 rfl (lv_at hl 1 rfl) ?_
    refine lv_i2d hx hb dX10_right_79 ?_
    refine lv_iload_n hx hb dX10_right_80 rfl (lv_at hl 0 rfl) ?_
    refine lv_i2d hx hb dX10_right_81 ?_
    obtain ⟨h82, hf⟩ := gd_some hf
    refine lv_ddiv hx hb dX10_right_82 (dok_n h82) ?_
    obtain ⟨rfl, rfl⟩ := Prod.mk.inj (Option.some.inj hf)
    exact z_dret hx hb hr hlk hw dX10_right_83
  · have hf := (if_pos c71).symm.trans hf
    refine z_dconst1 hx hb dX10_right_74 ?_
    refine lv_goto (tgt := 83) hx hb dX10_right_75 (by decide) ?_
    obtain ⟨rfl, rfl⟩ := Prod.mk.inj (Option.some.inj hf)
    exact z_dret hx hb hr hlk hw dX10_right_83
set_option maxHeartbeats 4000000 in
set_option maxRecDepth 100000 in
theorem t_X10_trySeek (G : GM) (l : Launch) (hN : 70 ≤ gN G) (x1 : Int32) (x2 : Int32) (h : HP) {r : Int32} {h' : HP} (hf : f_X10_trySeek x1 x2 h = some (r, h')) : MC G l yX10_trySeek cX10_trySeek 3 (some .int) 3 [.ref (ra G 0), .int x1, .int x2] h h' (some (.int r)) := by
  unfold f_X10_trySeek at hf
  refine z_start (by decide) (Nat.le_of_ble_eq_true rfl) ?_
  intro p e s m args below meth c ls hx hb hr hlk hml Z hw hl
  have Z : ZK G s args m RX10 := Z
  have hl : lv_has ls 3 [(0, .ref (ra G 0)), (1, .int x1), (2, .int x2)] := hl
  obtain ⟨H, hH⟩ : ∃ H, H = s.heap := ⟨_, rfl⟩
  rw [← hH] at hw ⊢
  obtain ⟨locs, hlc⟩ : ∃ locs : List Loc, locs = [] := ⟨_, rfl⟩
  rw [← hlc] at hw ⊢
  refine lv_aload_n hx hb dX10_trySeek_0 rfl (lv_at hl 0 rfl) ?_
  refine z_getr (o := 0) (o2 := 69) (C := RX10) (T := TX10) (N := 8) (ci := 8) (k := 7) hx hb Z hw (by decide) (by omega) rfl inX10 (by decide) rfl wd240 dX10_trySeek_1 ?_
  refine lv_aload_n hx hb dX10_trySeek_4 rfl (lv_at hl 0 rfl) ?_
  refine z_getr (o := 0) (o2 := 1) (C := RX10) (T := TX10) (N := 8) (ci := 8) (k := 0) hx hb Z hw (by decide) (by omega) rfl inX10 (by decide) rfl wd233 dX10_trySeek_5 ?_
  refine z_getr (o := 1) (o2 := 8) (C := RX6) (T := TX6) (N := 4) (ci := 5) (k := 3) hx hb Z hw (by decide) (by omega) rfl inX6 (by decide) rfl wd152 dX10_trySeek_8 ?_
  obtain ⟨q11, hq11, hf⟩ := tb_ex hf
  refine z_callVv (o := 69) (ci := 0) (As := [.ref (ra G 8)]) (rest := []) (t_X1_copyFrom G l hN 69 (by decide) (by omega) 8 (by decide) (by omega) h hq11) cv_X1_copyFrom hx hb hml hl.1 Z hw (by decide) (by decide) (by omega) rfl rfl wd659 rfl rfl (Nat.le_of_ble_eq_true rfl) (by decide) dX10_trySeek_11 (fun H locs hw => ?_)
  refine lv_aload_n hx hb dX10_trySeek_14 rfl (lv_at hl 0 rfl) ?_
  refine z_getr (o := 0) (o2 := 69) (C := RX10) (T := TX10) (N := 8) (ci := 8) (k := 7) hx hb Z hw (by decide) (by omega) rfl inX10 (by decide) rfl wd240 dX10_trySeek_15 ?_
  refine lv_iload_n hx hb dX10_trySeek_18 rfl (lv_at hl 1 rfl) ?_
  refine lv_aload_n hx hb dX10_trySeek_19 rfl (lv_at hl 0 rfl) ?_
  refine z_getr (o := 0) (o2 := 1) (C := RX10) (T := TX10) (N := 8) (ci := 8) (k := 0) hx hb Z hw (by decide) (by omega) rfl inX10 (by decide) rfl wd233 dX10_trySeek_20 ?_
  refine z_getr (o := 1) (o2 := 2) (C := RX6) (T := TX6) (N := 4) (ci := 5) (k := 0) hx hb Z hw (by decide) (by omega) rfl inX6 (by decide) rfl wd145 dX10_trySeek_23 ?_
  refine lv_iload_n hx hb dX10_trySeek_26 rfl (lv_at hl 2 rfl) ?_
  obtain ⟨q27, hq27, hf⟩ := ob_some hf
  refine z_callVv (o := 69) (ci := 0) (As := [.int x1, .ref (ra G 2), .int x2]) (rest := []) (t_X1_goTo G l hN 69 (by decide) (by omega) x1 2 (by decide) (by omega) x2 q11 hq27) cv_X1_goTo hx hb hml hl.1 Z hw (by decide) (by decide) (by omega) rfl rfl wd559 rfl rfl (Nat.le_of_ble_eq_true rfl) (by decide) dX10_trySeek_27 (fun H locs hw => ?_)
  refine lv_aload_n hx hb dX10_trySeek_30 rfl (lv_at hl 0 rfl) ?_
  refine z_getr (o := 0) (o2 := 69) (C := RX10) (T := TX10) (N := 8) (ci := 8) (k := 7) hx hb Z hw (by decide) (by omega) rfl inX10 (by decide) rfl wd240 dX10_trySeek_31 ?_
  refine z_geti (o := 69) (C := RX1) (T := TX1) (N := 6) (ci := 0) (k := 2) hx hb Z hw (by decide) (by omega) rfl inX1 (by decide) wd123 dX10_trySeek_34 ?_
  refine lv_aload_n hx hb dX10_trySeek_37 rfl (lv_at hl 0 rfl) ?_
  refine z_getr (o := 0) (o2 := 1) (C := RX10) (T := TX10) (N := 8) (ci := 8) (k := 0) hx hb Z hw (by decide) (by omega) rfl inX10 (by decide) rfl wd233 dX10_trySeek_38 ?_
  refine z_getr (o := 1) (o2 := 8) (C := RX6) (T := TX6) (N := 4) (ci := 5) (k := 3) hx hb Z hw (by decide) (by omega) rfl inX6 (by decide) rfl wd152 dX10_trySeek_41 ?_
  refine z_geti (o := 8) (C := RX1) (T := TX1) (N := 6) (ci := 0) (k := 2) hx hb Z hw (by decide) (by omega) rfl inX1 (by decide) wd123 dX10_trySeek_44 ?_
  refine lv_isub hx hb dX10_trySeek_47 ?_
  obtain ⟨rfl, rfl⟩ := Prod.mk.inj (Option.some.inj hf)
  exact z_iret hx hb hr hlk hw dX10_trySeek_48
set_option maxHeartbeats 4000000 in
set_option maxRecDepth 100000 in
theorem t_X10_ifSought (G : GM) (l : Launch) (hN : 70 ≤ gN G) (x1 : Int32) (x2 : Int32) (h : HP) {r : Int32} {h' : HP} (hf : f_X10_ifSought x1 x2 h = some (r, h')) : MC G l yX10_ifSought cX10_ifSought 4 (some .int) 4 [.ref (ra G 0), .int x1, .int x2] h h' (some (.int r)) := by
  unfold f_X10_ifSought at hf
  refine z_start (by decide) (Nat.le_of_ble_eq_true rfl) ?_
  intro p e s m args below meth c ls hx hb hr hlk hml Z hw hl
  have Z : ZK G s args m RX10 := Z
  have hl : lv_has ls 4 [(0, .ref (ra G 0)), (1, .int x1), (2, .int x2)] := hl
  obtain ⟨H, hH⟩ : ∃ H, H = s.heap := ⟨_, rfl⟩
  rw [← hH] at hw ⊢
  obtain ⟨locs, hlc⟩ : ∃ locs : List Loc, locs = [] := ⟨_, rfl⟩
  rw [← hlc] at hw ⊢
  refine lv_aload_n hx hb dX10_ifSought_0 rfl (lv_at hl 0 rfl) ?_
  refine z_getr (o := 0) (o2 := 1) (C := RX10) (T := TX10) (N := 8) (ci := 8) (k := 0) hx hb Z hw (by decide) (by omega) rfl inX10 (by decide) rfl wd233 dX10_ifSought_1 ?_
  refine z_getr (o := 1) (o2 := 2) (C := RX6) (T := TX6) (N := 4) (ci := 5) (k := 0) hx hb Z hw (by decide) (by omega) rfl inX6 (by decide) rfl wd145 dX10_ifSought_4 ?_
  refine lv_iload_n hx hb dX10_ifSought_7 rfl (lv_at hl 1 rfl) ?_
  refine z_callVi (o := 2) (ci := 4) (As := [.int x1]) (rest := []) (t_X5_hasFrame G l hN 2 (by decide) (by omega) x1 h) cv_X5_hasFrame hx hb hml hl.1 Z hw (by decide) (by decide) (by omega) rfl rfl wd485 rfl rfl (Nat.le_of_ble_eq_true rfl) (by decide) dX10_ifSought_8 (fun H locs hw => ?_)
  refine lv_if_ne (tgt := 16) hx hb dX10_ifSought_11 (by decide) (fun c11 => ?_) (fun c11 => ?_)
  · have hf := (if_neg c11).symm.trans hf
    refine lv_iload_n hx hb dX10_ifSought_16 rfl (lv_at hl 2 rfl) ?_
    refine lv_if_eq (tgt := 28) hx hb dX10_ifSought_17 (by decide) (fun c17 => ?_) (fun c17 => ?_)
    · have hf := (if_pos c17).symm.trans hf
      refine lv_aload_n hx hb dX10_ifSought_28 rfl (lv_at hl 0 rfl) ?_
      refine lv_iload_n hx hb dX10_ifSought_29 rfl (lv_at hl 1 rfl) ?_
      refine lv_aload_n hx hb dX10_ifSought_30 rfl (lv_at hl 0 rfl) ?_
      refine z_getr (o := 0) (o2 := 1) (C := RX10) (T := TX10) (N := 8) (ci := 8) (k := 0) hx hb Z hw (by decide) (by omega) rfl inX10 (by decide) rfl wd233 dX10_ifSought_31 ?_
      refine z_getr (o := 1) (o2 := 2) (C := RX6) (T := TX6) (N := 4) (ci := 5) (k := 0) hx hb Z hw (by decide) (by omega) rfl inX6 (by decide) rfl wd145 dX10_ifSought_34 ?_
      refine z_geti (o := 2) (C := RX5) (T := TX5) (N := 6) (ci := 4) (k := 4) hx hb Z hw (by decide) (by omega) rfl inX5 (by decide) wd63 dX10_ifSought_37 ?_
      obtain ⟨q40, hq40, hf⟩ := ob_some hf
      refine z_callVi (o := 0) (ci := 8) (As := [.int x1, .int (h 2 4)]) (rest := []) (t_X10_trySeek G l hN x1 (h 2 4) h hq40) cv_X10_trySeek hx hb hml hl.1 Z hw (by decide) (by decide) (by omega) rfl rfl wd655 rfl rfl (Nat.le_of_ble_eq_true rfl) (by decide) dX10_ifSought_40 (fun H locs hw => ?_)
      refine lv_istore_n (lv' := [(3, _), (0, _), (1, _), (2, _)]) hx hb dX10_ifSought_43 rfl hl (by decide) rfl (fun ls hl => ?_)
      refine lv_iload_n hx hb dX10_ifSought_44 rfl (lv_at hl 3 rfl) ?_
      refine lv_if_ne (tgt := 52) hx hb dX10_ifSought_45 (by decide) (fun c45 => ?_) (fun c45 => ?_)
      · have hf := (if_neg c45).symm.trans hf
        refine lv_aload_n hx hb dX10_ifSought_52 rfl (lv_at hl 1 rfl) ?_
        refine z_getr (o := 0) (o2 := 69) (C := RX10) (T := TX10) (N := 8) (ci := 8) (k := 7) hx hb Z hw (by decide) (by omega) rfl inX10 (by decide) rfl wd240 dX10_ifSought_53 ?_
        refine z_geti (o := 69) (C := RX1) (T := TX1) (N := 6) (ci := 0) (k := 5) hx hb Z hw (by decide) (by omega) rfl inX1 (by decide) wd129 dX10_ifSought_56 ?_
        refine lv_aload_n hx hb dX10_ifSought_59 rfl (lv_at hl 1 rfl) ?_
        refine z_getr (o := 0) (o2 := 1) (C := RX10) (T := TX10) (N := 8) (ci := 8) (k := 0) hx hb Z hw (by decide) (by omega) rfl inX10 (by decide) rfl wd233 dX10_ifSought_60 ?_
        refine z_getr (o := 1) (o2 := 8) (C := RX6) (T := TX6) (N := 4) (ci := 5) (k := 3) hx hb Z hw (by decide) (by omega) rfl inX6 (by decide) rfl wd152 dX10_ifSought_63 ?_
        refine z_geti (o := 8) (C := RX1) (T := TX1) (N := 6) (ci := 0) (k := 5) hx hb Z hw (by decide) (by omega) rfl inX1 (by decide) wd129 dX10_ifSought_66 ?_
        refine lv_isub hx hb dX10_ifSought_69 ?_
        obtain ⟨rfl, rfl⟩ := Prod.mk.inj (Option.some.inj hf)
        exact z_iret hx hb hr hlk hw dX10_ifSought_70
      · have hf := (if_pos c45).symm.trans hf
        refine lv_iload_n hx hb dX10_ifSought_48 rfl (lv_at hl 0 rfl) ?_
        refine lv_goto (tgt := 70) hx hb dX10_ifSought_49 (by decide) ?_
        obtain ⟨rfl, rfl⟩ := Prod.mk.inj (Option.some.inj hf)
        exact z_iret hx hb hr hlk hw dX10_ifSought_70
    · have hf := (if_neg c17).symm.trans hf
      refine lv_iload_n hx hb dX10_ifSought_20 rfl (lv_at hl 2 rfl) ?_
      refine lv_iconst (v := (1 : Int32)) hx hb dX10_ifSought_21 (by decide) ?_
      refine lv_icmp_eq (tgt := 28) hx hb dX10_ifSought_22 (by decide) (fun c22 => ?_) (fun c22 => ?_)
      · have hf := (if_pos c22).symm.trans hf
        refine lv_aload_n hx hb dX10_ifSought_28 rfl (lv_at hl 0 rfl) ?_
        refine lv_iload_n hx hb dX10_ifSought_29 rfl (lv_at hl 1 rfl) ?_
        refine lv_aload_n hx hb dX10_ifSought_30 rfl (lv_at hl 0 rfl) ?_
        refine z_getr (o := 0) (o2 := 1) (C := RX10) (T := TX10) (N := 8) (ci := 8) (k := 0) hx hb Z hw (by decide) (by omega) rfl inX10 (by decide) rfl wd233 dX10_ifSought_31 ?_
        refine z_getr (o := 1) (o2 := 2) (C := RX6) (T := TX6) (N := 4) (ci := 5) (k := 0) hx hb Z hw (by decide) (by omega) rfl inX6 (by decide) rfl wd145 dX10_ifSought_34 ?_
        refine z_geti (o := 2) (C := RX5) (T := TX5) (N := 6) (ci := 4) (k := 4) hx hb Z hw (by decide) (by omega) rfl inX5 (by decide) wd63 dX10_ifSought_37 ?_
        obtain ⟨q40, hq40, hf⟩ := ob_some hf
        refine z_callVi (o := 0) (ci := 8) (As := [.int x1, .int (h 2 4)]) (rest := []) (t_X10_trySeek G l hN x1 (h 2 4) h hq40) cv_X10_trySeek hx hb hml hl.1 Z hw (by decide) (by decide) (by omega) rfl rfl wd655 rfl rfl (Nat.le_of_ble_eq_true rfl) (by decide) dX10_ifSought_40 (fun H locs hw => ?_)
        refine lv_istore_n (lv' := [(3, _), (0, _), (1, _), (2, _)]) hx hb dX10_ifSought_43 rfl hl (by decide) rfl (fun ls hl => ?_)
        refine lv_iload_n hx hb dX10_ifSought_44 rfl (lv_at hl 3 rfl) ?_
        refine lv_if_ne (tgt := 52) hx hb dX10_ifSought_45 (by decide) (fun c45 => ?_) (fun c45 => ?_)
        · have hf := (if_neg c45).symm.trans hf
          refine lv_aload_n hx hb dX10_ifSought_52 rfl (lv_at hl 1 rfl) ?_
          refine z_getr (o := 0) (o2 := 69) (C := RX10) (T := TX10) (N := 8) (ci := 8) (k := 7) hx hb Z hw (by decide) (by omega) rfl inX10 (by decide) rfl wd240 dX10_ifSought_53 ?_
          refine z_geti (o := 69) (C := RX1) (T := TX1) (N := 6) (ci := 0) (k := 5) hx hb Z hw (by decide) (by omega) rfl inX1 (by decide) wd129 dX10_ifSought_56 ?_
          refine lv_aload_n hx hb dX10_ifSought_59 rfl (lv_at hl 1 rfl) ?_
          refine z_getr (o := 0) (o2 := 1) (C := RX10) (T := TX10) (N := 8) (ci := 8) (k := 0) hx hb Z hw (by decide) (by omega) rfl inX10 (by decide) rfl wd233 dX10_ifSought_60 ?_
          refine z_getr (o := 1) (o2 := 8) (C := RX6) (T := TX6) (N := 4) (ci := 5) (k := 3) hx hb Z hw (by decide) (by omega) rfl inX6 (by decide) rfl wd152 dX10_ifSought_63 ?_
          refine z_geti (o := 8) (C := RX1) (T := TX1) (N := 6) (ci := 0) (k := 5) hx hb Z hw (by decide) (by omega) rfl inX1 (by decide) wd129 dX10_ifSought_66 ?_
          refine lv_isub hx hb dX10_ifSought_69 ?_
          obtain ⟨rfl, rfl⟩ := Prod.mk.inj (Option.some.inj hf)
          exact z_iret hx hb hr hlk hw dX10_ifSought_70
        · have hf := (if_pos c45).symm.trans hf
          refine lv_iload_n hx hb dX10_ifSought_48 rfl (lv_at hl 0 rfl) ?_
          refine lv_goto (tgt := 70) hx hb dX10_ifSought_49 (by decide) ?_
          obtain ⟨rfl, rfl⟩ := Prod.mk.inj (Option.some.inj hf)
          exact z_iret hx hb hr hlk hw dX10_ifSought_70
      · have hf := (if_neg c22).symm.trans hf
        refine lv_bipush (v := (-2 : Int32)) hx hb dX10_ifSought_25 (by decide) ?_
        obtain ⟨rfl, rfl⟩ := Prod.mk.inj (Option.some.inj hf)
        exact z_iret hx hb hr hlk hw dX10_ifSought_27
  · have hf := (if_pos c11).symm.trans hf
    refine lv_iconst (v := (-1 : Int32)) hx hb dX10_ifSought_14 (by decide) ?_
    obtain ⟨rfl, rfl⟩ := Prod.mk.inj (Option.some.inj hf)
    exact z_iret hx hb hr hlk hw dX10_ifSought_15
set_option maxHeartbeats 4000000 in
set_option maxRecDepth 100000 in
theorem w_X10_bestGuess_L31 (G : GM) (l : Launch) (hN : 70 ≤ gN G)  {p : Program} {e : Env} {s : State} {m : MethodId} {args : Array Value} {below : List Frame} {meth : Method} {c : Code} (hx : p.tables.exec = Jvm.exec) (hb : c.code = cX10_bestGuess) (hr : meth.sig.returnType = (some .int)) (hlk : meth.locks = false) (hml : c.maxLocals = 6) (Z : ZK G s args m RX10) : ∀ (n : Nat) (x1 : Int32) (x2 : Int32) (x3 : Int32) (x4 : Int32)  (h : HP)  (rv : Option Value) (hq : HP) (ls : Array Slot) (H : Heap) (locs : List Loc) {q : Int32 × HP}, lv_has ls 6 [(0, .ref (ra G 0)), (1, .int x1), (2, .int x2), (3, .int x3), (4, .int x4)] → HW G h s H locs → f_X10_bestGuess_L31 n x1 x2 x3 x4 h = some q → (∀ (ls : Array Slot) (H : Heap) (locs : List Loc), lv_has ls 6 [(2, .int q.1)] → HW G q.2 s H locs → WZ p l e 4 s m args below meth c G rv hq H locs (F0 m 66 ls [])) → WZ p l e 4 s m args below meth c G rv hq H locs (F0 m 31 ls []) := by
  intro n
  induction n with
  | zero => intro x1 x2 x3 x4  h  rv hq ls H locs q hl hw hf kk; cases hf
  | succ n ih =>
    intro x1 x2 x3 x4  h  rv hq ls H locs q hl hw hf kk
    rw [f_X10_bestGuess_L31] at hf
    refine lv_iload hx hb dX10_bestGuess_31 (lv_at hl 4 rfl) ?_
    refine lv_sipush (v := (140 : Int32)) hx hb dX10_bestGuess_33 (by decide) ?_
    refine lv_icmp_gt (tgt := 66) hx hb dX10_bestGuess_36 (by decide) (fun c36 => ?_) (fun c36 => ?_)
    · have hf := (if_pos c36).symm.trans hf
      obtain rfl := Option.some.inj hf
      exact kk ls H locs (lv_sub hl [2] rfl) hw
    · have hf := (if_neg c36).symm.trans hf
      refine lv_aload_n hx hb dX10_bestGuess_39 rfl (lv_at hl 0 rfl) ?_
      refine lv_iload_n hx hb dX10_bestGuess_40 rfl (lv_at hl 1 rfl) ?_
      refine lv_iload hx hb dX10_bestGuess_41 (lv_at hl 4 rfl) ?_
      obtain ⟨q43, hq43, hf⟩ := ob_some hf
      refine z_callVi (o := 0) (ci := 8) (As := [.int x1, .int x4]) (rest := []) (t_X10_trySeek G l hN x1 x4 h hq43) cv_X10_trySeek hx hb hml hl.1 Z hw (by decide) (by decide) (by omega) rfl rfl wd655 rfl rfl (Nat.le_of_ble_eq_true rfl) (by decide) dX10_bestGuess_43 (fun H locs hw => ?_)
      refine lv_istore (lv' := [(5, _), (0, _), (1, _), (2, _), (3, _), (4, _)]) hx hb dX10_bestGuess_46 hl (by decide) rfl (fun ls hl => ?_)
      refine lv_iload hx hb dX10_bestGuess_48 (lv_at hl 0 rfl) ?_
      refine lv_iload_n hx hb dX10_bestGuess_50 rfl (lv_at hl 4 rfl) ?_
      have HJ60 : ∀ (ls : Array Slot) (H : Heap) (locs : List Loc), lv_has ls 6 [(0, .ref (ra G 0)), (1, .int x1), (2, .int (if x3 ≤ q43.1 then x2 else x4)), (3, .int (if x3 ≤ q43.1 then x3 else q43.1)), (4, .int x4)] → HW G q43.2 s H locs → WZ p l e 4 s m args below meth c G rv hq H locs (F0 m 60 ls []) := by
        intro ls H locs hl hw
        refine lv_iinc (v := x4 + (1 : Int32)) (lv' := [(4, _), (0, _), (1, _), (2, _), (3, _)]) hx hb dX10_bestGuess_60 hl (k := 4) rfl rfl (by decide) rfl (fun ls hl => ?_)
        refine lv_goto (tgt := 31) hx hb dX10_bestGuess_63 (by decide) ?_
        exact ih x1 (if x3 ≤ q43.1 then x2 else x4) (if x3 ≤ q43.1 then x3 else q43.1) (x4 + (1 : Int32)) q43.2  rv hq ls H locs (lv_sub hl [1, 2, 3, 4, 0] rfl) hw hf kk
      refine lv_icmp_ge (tgt := 60) hx hb dX10_bestGuess_51 (by decide) (fun c51 => ?_) (fun c51 => ?_)
      · skip
        exact HJ60 ls H locs (by simp only [if_pos c51]; exact lv_sub hl [1, 2, 3, 4, 5] rfl) hw
      · skip
        refine lv_iload hx hb dX10_bestGuess_54 (lv_at hl 5 rfl) ?_
        refine lv_istore_n (lv' := [(2, _), (5, _), (0, _), (1, _), (3, _), (4, _)]) hx hb dX10_bestGuess_56 rfl hl (by decide) rfl (fun ls hl => ?_)
        refine lv_iload hx hb dX10_bestGuess_57 (lv_at hl 1 rfl) ?_
        refine lv_istore_n (lv' := [(3, _), (2, _), (5, _), (0, _), (1, _), (4, _)]) hx hb dX10_bestGuess_59 rfl hl (by decide) rfl (fun ls hl => ?_)
        exact HJ60 ls H locs (by simp only [if_neg c51]; exact lv_sub hl [3, 4, 1, 0, 5] rfl) hw
set_option maxHeartbeats 4000000 in
set_option maxRecDepth 100000 in
theorem t_X10_bestGuess (G : GM) (l : Launch) (hN : 70 ≤ gN G) (x1 : Int32) (h : HP) {r : Int32} {h' : HP} (hf : f_X10_bestGuess x1 h = some (r, h')) : MC G l yX10_bestGuess cX10_bestGuess 6 (some .int) 4 [.ref (ra G 0), .int x1] h h' (some (.int r)) := by
  unfold f_X10_bestGuess at hf
  refine z_start (by decide) (Nat.le_of_ble_eq_true rfl) ?_
  intro p e s m args below meth c ls hx hb hr hlk hml Z hw hl
  have Z : ZK G s args m RX10 := Z
  have hl : lv_has ls 6 [(0, .ref (ra G 0)), (1, .int x1)] := hl
  obtain ⟨H, hH⟩ : ∃ H, H = s.heap := ⟨_, rfl⟩
  rw [← hH] at hw ⊢
  obtain ⟨locs, hlc⟩ : ∃ locs : List Loc, locs = [] := ⟨_, rfl⟩
  rw [← hlc] at hw ⊢
  refine lv_aload_n hx hb dX10_bestGuess_0 rfl (lv_at hl 0 rfl) ?_
  refine z_getr (o := 0) (o2 := 1) (C := RX10) (T := TX10) (N := 8) (ci := 8) (k := 0) hx hb Z hw (by decide) (by omega) rfl inX10 (by decide) rfl wd233 dX10_bestGuess_1 ?_
  refine z_getr (o := 1) (o2 := 2) (C := RX6) (T := TX6) (N := 4) (ci := 5) (k := 0) hx hb Z hw (by decide) (by omega) rfl inX6 (by decide) rfl wd145 dX10_bestGuess_4 ?_
  refine lv_iload_n hx hb dX10_bestGuess_7 rfl (lv_at hl 1 rfl) ?_
  refine z_callVi (o := 2) (ci := 4) (As := [.int x1]) (rest := []) (t_X5_hasFrame G l hN 2 (by decide) (by omega) x1 h) cv_X5_hasFrame hx hb hml hl.1 Z hw (by decide) (by decide) (by omega) rfl rfl wd485 rfl rfl (Nat.le_of_ble_eq_true rfl) (by decide) dX10_bestGuess_8 (fun H locs hw => ?_)
  refine lv_if_ne (tgt := 16) hx hb dX10_bestGuess_11 (by decide) (fun c11 => ?_) (fun c11 => ?_)
  · have hf := (if_neg c11).symm.trans hf
    refine lv_bipush (v := (60 : Int32)) hx hb dX10_bestGuess_16 (by decide) ?_
    refine lv_istore_n (lv' := [(2, _), (0, _), (1, _)]) hx hb dX10_bestGuess_18 rfl hl (by decide) rfl (fun ls hl => ?_)
    refine lv_aload_n hx hb dX10_bestGuess_19 rfl (lv_at hl 1 rfl) ?_
    refine lv_iload_n hx hb dX10_bestGuess_20 rfl (lv_at hl 2 rfl) ?_
    refine lv_bipush (v := (60 : Int32)) hx hb dX10_bestGuess_21 (by decide) ?_
    obtain ⟨q23, hq23, hf⟩ := ob_some hf
    refine z_callVi (o := 0) (ci := 8) (As := [.int x1, .int (60 : Int32)]) (rest := []) (t_X10_trySeek G l hN x1 (60 : Int32) h hq23) cv_X10_trySeek hx hb hml hl.1 Z hw (by decide) (by decide) (by omega) rfl rfl wd655 rfl rfl (Nat.le_of_ble_eq_true rfl) (by decide) dX10_bestGuess_23 (fun H locs hw => ?_)
    refine lv_istore_n (lv' := [(3, _), (2, _), (0, _), (1, _)]) hx hb dX10_bestGuess_26 rfl hl (by decide) rfl (fun ls hl => ?_)
    refine lv_bipush (v := (61 : Int32)) hx hb dX10_bestGuess_27 (by decide) ?_
    refine lv_istore (lv' := [(4, _), (3, _), (2, _), (0, _), (1, _)]) hx hb dX10_bestGuess_29 hl (by decide) rfl (fun ls hl => ?_)
    obtain ⟨q31, hq31, hf⟩ := ob_some hf
    refine w_X10_bestGuess_L31 G l hN  hx hb hr hlk hml Z FU x1 (60 : Int32) q23.1 (61 : Int32) q23.2  _ _ ls H locs (lv_sub hl [3, 4, 2, 1, 0] rfl) hw hq31 (fun ls H locs hl hw => ?_)
    refine lv_iload_n hx hb dX10_bestGuess_66 rfl (lv_at hl 0 rfl) ?_
    obtain ⟨rfl, rfl⟩ := Prod.mk.inj (Option.some.inj hf)
    exact z_iret hx hb hr hlk hw dX10_bestGuess_67
  · have hf := (if_pos c11).symm.trans hf
    refine lv_iconst (v := (-1 : Int32)) hx hb dX10_bestGuess_14 (by decide) ?_
    obtain ⟨rfl, rfl⟩ := Prod.mk.inj (Option.some.inj hf)
    exact z_iret hx hb hr hlk hw dX10_bestGuess_15
set_option maxHeartbeats 4000000 in
set_option maxRecDepth 100000 in
theorem t_X7_missingWithout (G : GM) (l : Launch) (hN : 70 ≤ gN G) (x1 : Int32) (h : HP) {r : Int32} {h' : HP} (hf : f_X7_missingWithout x1 h = some (r, h')) : MC G l yX7_missingWithout cX7_missingWithout 2 (some .int) 3 [.ref (ra G 63), .int x1] h h' (some (.int r)) := by
  unfold f_X7_missingWithout at hf
  refine z_start (by decide) (Nat.le_of_ble_eq_true rfl) ?_
  intro p e s m args below meth c ls hx hb hr hlk hml Z hw hl
  have Z : ZK G s args m RX7 := Z
  have hl : lv_has ls 2 [(0, .ref (ra G 63)), (1, .int x1)] := hl
  obtain ⟨H, hH⟩ : ∃ H, H = s.heap := ⟨_, rfl⟩
  rw [← hH] at hw ⊢
  obtain ⟨locs, hlc⟩ : ∃ locs : List Loc, locs = [] := ⟨_, rfl⟩
  rw [← hlc] at hw ⊢
  refine lv_aload_n hx hb dX7_missingWithout_0 rfl (lv_at hl 0 rfl) ?_
  refine lv_iconst (v := (1 : Int32)) hx hb dX7_missingWithout_1 (by decide) ?_
  refine lv_iload_n hx hb dX7_missingWithout_2 rfl (lv_at hl 1 rfl) ?_
  refine lv_ishl hx hb dX7_missingWithout_3 ?_
  refine lv_iconst (v := (-1 : Int32)) hx hb dX7_missingWithout_4 (by decide) ?_
  refine lv_ixor hx hb dX7_missingWithout_5 ?_
  obtain ⟨q6, hq6, hf⟩ := ob_some hf
  refine z_callVv (o := 63) (ci := 6) (As := [.int (((1 : Int32) <<< (x1 &&& 31)) ^^^ (-1 : Int32))]) (rest := []) (t_X7_judge G l hN (((1 : Int32) <<< (x1 &&& 31)) ^^^ (-1 : Int32)) h hq6) cv_X7_judge hx hb hml hl.1 Z hw (by decide) (by decide) (by omega) rfl rfl wd395 rfl rfl (Nat.le_of_ble_eq_true rfl) (by decide) dX7_missingWithout_6 (fun H locs hw => ?_)
  refine lv_aload_n hx hb dX7_missingWithout_9 rfl (lv_at hl 0 rfl) ?_
  refine lv_iconst (v := (3 : Int32)) hx hb dX7_missingWithout_10 (by decide) ?_
  obtain ⟨q11, hq11, hf⟩ := ob_some hf
  refine z_callVi (o := 63) (ci := 6) (As := [.int (3 : Int32)]) (rest := []) (t_X7_framesThatAre G l hN (3 : Int32) q6 hq11) cv_X7_framesThatAre hx hb hml hl.1 Z hw (by decide) (by decide) (by omega) rfl rfl wd686 rfl rfl (Nat.le_of_ble_eq_true rfl) (by decide) dX7_missingWithout_11 (fun H locs hw => ?_)
  obtain ⟨rfl, rfl⟩ := Prod.mk.inj (Option.some.inj hf)
  exact z_iret hx hb hr hlk hw dX7_missingWithout_14
set_option maxHeartbeats 4000000 in
set_option maxRecDepth 100000 in
theorem w_X10_polishFirst_L49 (G : GM) (l : Launch) (hN : 70 ≤ gN G)  {p : Program} {e : Env} {s : State} {m : MethodId} {args : Array Value} {below : List Frame} {meth : Method} {c : Code} (hx : p.tables.exec = Jvm.exec) (hb : c.code = cX10_polishFirst) (hr : meth.sig.returnType = (some .int)) (hlk : meth.locks = false) (hml : c.maxLocals = 6) (Z : ZK G s args m RX10) : ∀ (n : Nat) (x2 : Int32) (x3 : Int32) (x4 : Int32)  (h : HP) (v1 : Int32) (rv : Option Value) (hq : HP) (ls : Array Slot) (H : Heap) (locs : List Loc) {q : Int32 × Int32 × HP}, lv_has ls 6 [(0, .ref (ra G 0)), (1, .int v1), (2, .int x2), (3, .int x3), (4, .int x4)] → HW G h s H locs → f_X10_polishFirst_L49 n x2 x3 x4 h = some q → (∀ (ls : Array Slot) (H : Heap) (locs : List Loc), lv_has ls 6 [(0, .ref (ra G 0)), (1, .int v1), (2, .int q.1), (3, .int q.2.1)] → HW G q.2.2 s H locs → WZ p l e 4 s m args below meth c G rv hq H locs (F0 m 93 ls [])) → WZ p l e 4 s m args below meth c G rv hq H locs (F0 m 49 ls []) := by
  intro n
  induction n with
  | zero => intro x2 x3 x4  h v1 rv hq ls H locs q hl hw hf kk; cases hf
  | succ n ih =>
    intro x2 x3 x4  h v1 rv hq ls H locs q hl hw hf kk
    rw [f_X10_polishFirst_L49] at hf
    refine lv_iload hx hb dX10_polishFirst_49 (lv_at hl 4 rfl) ?_
    refine lv_aload_n hx hb dX10_polishFirst_51 rfl (lv_at hl 0 rfl) ?_
    refine z_getr (o := 0) (o2 := 1) (C := RX10) (T := TX10) (N := 8) (ci := 8) (k := 0) hx hb Z hw (by decide) (by omega) rfl inX10 (by decide) rfl wd233 dX10_polishFirst_52 ?_
    refine z_getr (o := 1) (o2 := 3) (C := RX6) (T := TX6) (N := 4) (ci := 5) (k := 1) hx hb Z hw (by decide) (by omega) rfl inX6 (by decide) rfl wd148 dX10_polishFirst_55 ?_
    refine z_geti (o := 3) (C := RX4) (T := TX4) (N := 2) (ci := 3) (k := 1) hx hb Z hw (by decide) (by omega) rfl inX4 (by decide) wd88 dX10_polishFirst_58 ?_
    refine lv_icmp_ge (tgt := 93) hx hb dX10_polishFirst_61 (by decide) (fun c61 => ?_) (fun c61 => ?_)
    · have hf := (if_pos c61).symm.trans hf
      obtain rfl := Option.some.inj hf
      exact kk ls H locs (lv_sub hl [0, 1, 2, 3] rfl) hw
    · have hf := (if_neg c61).symm.trans hf
      refine lv_aload_n hx hb dX10_polishFirst_64 rfl (lv_at hl 0 rfl) ?_
      refine z_getr (o := 0) (o2 := 63) (C := RX10) (T := TX10) (N := 8) (ci := 8) (k := 6) hx hb Z hw (by decide) (by omega) rfl inX10 (by decide) rfl wd239 dX10_polishFirst_65 ?_
      refine lv_iload hx hb dX10_polishFirst_68 (lv_at hl 4 rfl) ?_
      obtain ⟨q70, hq70, hf⟩ := ob_some hf
      refine z_callVi (o := 63) (ci := 6) (As := [.int x4]) (rest := []) (t_X7_missingWithout G l hN x4 h hq70) cv_X7_missingWithout hx hb hml hl.1 Z hw (by decide) (by decide) (by omega) rfl rfl wd682 rfl rfl (Nat.le_of_ble_eq_true rfl) (by decide) dX10_polishFirst_70 (fun H locs hw => ?_)
      refine lv_istore (lv' := [(5, _), (0, _), (1, _), (2, _), (3, _), (4, _)]) hx hb dX10_polishFirst_73 hl (by decide) rfl (fun ls hl => ?_)
      refine lv_iload hx hb dX10_polishFirst_75 (lv_at hl 0 rfl) ?_
      refine lv_iload_n hx hb dX10_polishFirst_77 rfl (lv_at hl 4 rfl) ?_
      have HJ87 : ∀ (ls : Array Slot) (H : Heap) (locs : List Loc), lv_has ls 6 [(0, .ref (ra G 0)), (1, .int v1), (2, .int (if x3 ≤ q70.1 then x2 else x4)), (3, .int (if x3 ≤ q70.1 then x3 else q70.1)), (4, .int x4)] → HW G q70.2 s H locs → WZ p l e 4 s m args below meth c G rv hq H locs (F0 m 87 ls []) := by
        intro ls H locs hl hw
        refine lv_iinc (v := x4 + (1 : Int32)) (lv' := [(4, _), (0, _), (1, _), (2, _), (3, _)]) hx hb dX10_polishFirst_87 hl (k := 4) rfl rfl (by decide) rfl (fun ls hl => ?_)
        refine lv_goto (tgt := 49) hx hb dX10_polishFirst_90 (by decide) ?_
        exact ih (if x3 ≤ q70.1 then x2 else x4) (if x3 ≤ q70.1 then x3 else q70.1) (x4 + (1 : Int32)) q70.2 v1 rv hq ls H locs (lv_sub hl [1, 2, 3, 4, 0] rfl) hw hf kk
      refine lv_icmp_ge (tgt := 87) hx hb dX10_polishFirst_78 (by decide) (fun c78 => ?_) (fun c78 => ?_)
      · skip
        exact HJ87 ls H locs (by simp only [if_pos c78]; exact lv_sub hl [1, 2, 3, 4, 5] rfl) hw
      · skip
        refine lv_iload hx hb dX10_polishFirst_81 (lv_at hl 5 rfl) ?_
        refine lv_istore_n (lv' := [(2, _), (5, _), (0, _), (1, _), (3, _), (4, _)]) hx hb dX10_polishFirst_83 rfl hl (by decide) rfl (fun ls hl => ?_)
        refine lv_iload hx hb dX10_polishFirst_84 (lv_at hl 1 rfl) ?_
        refine lv_istore_n (lv' := [(3, _), (2, _), (5, _), (0, _), (1, _), (4, _)]) hx hb dX10_polishFirst_86 rfl hl (by decide) rfl (fun ls hl => ?_)
        exact HJ87 ls H locs (by simp only [if_neg c78]; exact lv_sub hl [3, 4, 1, 0, 5] rfl) hw
set_option maxHeartbeats 4000000 in
set_option maxRecDepth 100000 in
theorem t_X10_polishFirst (G : GM) (l : Launch) (hN : 70 ≤ gN G) (x1 : Int32) (h : HP) {r : Int32} {h' : HP} (hf : f_X10_polishFirst x1 h = some (r, h')) : MC G l yX10_polishFirst cX10_polishFirst 6 (some .int) 4 [.ref (ra G 0), .int x1] h h' (some (.int r)) := by
  unfold f_X10_polishFirst at hf
  refine z_start (by decide) (Nat.le_of_ble_eq_true rfl) ?_
  intro p e s m args below meth c ls hx hb hr hlk hml Z hw hl
  have Z : ZK G s args m RX10 := Z
  have hl : lv_has ls 6 [(0, .ref (ra G 0)), (1, .int x1)] := hl
  obtain ⟨H, hH⟩ : ∃ H, H = s.heap := ⟨_, rfl⟩
  rw [← hH] at hw ⊢
  obtain ⟨locs, hlc⟩ : ∃ locs : List Loc, locs = [] := ⟨_, rfl⟩
  rw [← hlc] at hw ⊢
  refine lv_iload_n hx hb dX10_polishFirst_0 rfl (lv_at hl 1 rfl) ?_
  refine lv_if_eq (tgt := 12) hx hb dX10_polishFirst_1 (by decide) (fun c1 => ?_) (fun c1 => ?_)
  · have hf := (if_pos c1).symm.trans hf
    refine lv_aload_n hx hb dX10_polishFirst_12 rfl (lv_at hl 0 rfl) ?_
    refine z_getr (o := 0) (o2 := 1) (C := RX10) (T := TX10) (N := 8) (ci := 8) (k := 0) hx hb Z hw (by decide) (by omega) rfl inX10 (by decide) rfl wd233 dX10_polishFirst_13 ?_
    refine z_getr (o := 1) (o2 := 3) (C := RX6) (T := TX6) (N := 4) (ci := 5) (k := 1) hx hb Z hw (by decide) (by omega) rfl inX6 (by decide) rfl wd148 dX10_polishFirst_16 ?_
    refine z_geti (o := 3) (C := RX4) (T := TX4) (N := 2) (ci := 3) (k := 1) hx hb Z hw (by decide) (by omega) rfl inX4 (by decide) wd88 dX10_polishFirst_19 ?_
    refine lv_if_ne (tgt := 28) hx hb dX10_polishFirst_22 (by decide) (fun c22 => ?_) (fun c22 => ?_)
    · have hf := (if_neg c22).symm.trans hf
      refine lv_iconst (v := (0 : Int32)) hx hb dX10_polishFirst_28 (by decide) ?_
      refine lv_istore_n (lv' := [(2, _), (0, _), (1, _)]) hx hb dX10_polishFirst_29 rfl hl (by decide) rfl (fun ls hl => ?_)
      refine lv_aload_n hx hb dX10_polishFirst_30 rfl (lv_at hl 1 rfl) ?_
      refine z_getr (o := 0) (o2 := 63) (C := RX10) (T := TX10) (N := 8) (ci := 8) (k := 6) hx hb Z hw (by decide) (by omega) rfl inX10 (by decide) rfl wd239 dX10_polishFirst_31 ?_
      refine lv_aload_n hx hb dX10_polishFirst_34 rfl (lv_at hl 1 rfl) ?_
      refine z_getr (o := 0) (o2 := 1) (C := RX10) (T := TX10) (N := 8) (ci := 8) (k := 0) hx hb Z hw (by decide) (by omega) rfl inX10 (by decide) rfl wd233 dX10_polishFirst_35 ?_
      obtain ⟨q38, hq38, hf⟩ := ob_some hf
      refine z_callVi (o := 63) (ci := 6) (As := [.ref (ra G 1)]) (rest := []) (t_X7_of G l hN 1 (by decide) (by omega) h hq38) cv_X7_of hx hb hml hl.1 Z hw (by decide) (by decide) (by omega) rfl rfl wd343 rfl rfl (Nat.le_of_ble_eq_true rfl) (by decide) dX10_polishFirst_38 (fun H locs hw => ?_)
      refine lv_iconst (v := (0 : Int32)) hx hb dX10_polishFirst_41 (by decide) ?_
      obtain ⟨q42, hq42, hf⟩ := ob_some hf
      refine z_callVi (o := 63) (ci := 6) (As := [.int (0 : Int32)]) (rest := []) (t_X7_missingWithout G l hN (0 : Int32) q38 hq42) cv_X7_missingWithout hx hb hml hl.1 Z hw (by decide) (by decide) (by omega) rfl rfl wd682 rfl rfl (Nat.le_of_ble_eq_true rfl) (by decide) dX10_polishFirst_42 (fun H locs hw => ?_)
      refine lv_istore_n (lv' := [(3, _), (2, _), (0, _), (1, _)]) hx hb dX10_polishFirst_45 rfl hl (by decide) rfl (fun ls hl => ?_)
      refine lv_iconst (v := (1 : Int32)) hx hb dX10_polishFirst_46 (by decide) ?_
      refine lv_istore (lv' := [(4, _), (3, _), (2, _), (0, _), (1, _)]) hx hb dX10_polishFirst_47 hl (by decide) rfl (fun ls hl => ?_)
      obtain ⟨q49, hq49, hf⟩ := ob_some hf
      refine w_X10_polishFirst_L49 G l hN  hx hb hr hlk hml Z FU (0 : Int32) q42.1 (1 : Int32) q42.2 x1 _ _ ls H locs (lv_sub hl [3, 4, 2, 1, 0] rfl) hw hq49 (fun ls H locs hl hw => ?_)
      refine lv_aload_n hx hb dX10_polishFirst_93 rfl (lv_at hl 0 rfl) ?_
      refine z_getr (o := 0) (o2 := 63) (C := RX10) (T := TX10) (N := 8) (ci := 8) (k := 6) hx hb Z hw (by decide) (by omega) rfl inX10 (by decide) rfl wd239 dX10_polishFirst_94 ?_
      refine lv_iconst (v := (-1 : Int32)) hx hb dX10_polishFirst_97 (by decide) ?_
      obtain ⟨q98, hq98, hf⟩ := ob_some hf
      refine z_callVv (o := 63) (ci := 6) (As := [.int (-1 : Int32)]) (rest := []) (t_X7_judge G l hN (-1 : Int32) q49.2.2 hq98) cv_X7_judge hx hb hml hl.1 Z hw (by decide) (by decide) (by omega) rfl rfl wd687 rfl rfl (Nat.le_of_ble_eq_true rfl) (by decide) dX10_polishFirst_98 (fun H locs hw => ?_)
      refine lv_iload_n hx hb dX10_polishFirst_101 rfl (lv_at hl 1 rfl) ?_
      refine lv_if_ne (tgt := 109) hx hb dX10_polishFirst_102 (by decide) (fun c102 => ?_) (fun c102 => ?_)
      · have hf := (if_neg c102).symm.trans hf
        refine lv_iload_n hx hb dX10_polishFirst_109 rfl (lv_at hl 3 rfl) ?_
        obtain ⟨rfl, rfl⟩ := Prod.mk.inj (Option.some.inj hf)
        exact z_iret hx hb hr hlk hw dX10_polishFirst_110
      · have hf := (if_pos c102).symm.trans hf
        refine lv_iload_n hx hb dX10_polishFirst_105 rfl (lv_at hl 2 rfl) ?_
        refine lv_goto (tgt := 110) hx hb dX10_polishFirst_106 (by decide) ?_
        obtain ⟨rfl, rfl⟩ := Prod.mk.inj (Option.some.inj hf)
        exact z_iret hx hb hr hlk hw dX10_polishFirst_110
    · have hf := (if_pos c22).symm.trans hf
      refine lv_bipush (v := (-5 : Int32)) hx hb dX10_polishFirst_25 (by decide) ?_
      obtain ⟨rfl, rfl⟩ := Prod.mk.inj (Option.some.inj hf)
      exact z_iret hx hb hr hlk hw dX10_polishFirst_27
  · have hf := (if_neg c1).symm.trans hf
    refine lv_iload_n hx hb dX10_polishFirst_4 rfl (lv_at hl 1 rfl) ?_
    refine lv_iconst (v := (1 : Int32)) hx hb dX10_polishFirst_5 (by decide) ?_
    refine lv_icmp_eq (tgt := 12) hx hb dX10_polishFirst_6 (by decide) (fun c6 => ?_) (fun c6 => ?_)
    · have hf := (if_pos c6).symm.trans hf
      refine lv_aload_n hx hb dX10_polishFirst_12 rfl (lv_at hl 0 rfl) ?_
      refine z_getr (o := 0) (o2 := 1) (C := RX10) (T := TX10) (N := 8) (ci := 8) (k := 0) hx hb Z hw (by decide) (by omega) rfl inX10 (by decide) rfl wd233 dX10_polishFirst_13 ?_
      refine z_getr (o := 1) (o2 := 3) (C := RX6) (T := TX6) (N := 4) (ci := 5) (k := 1) hx hb Z hw (by decide) (by omega) rfl inX6 (by decide) rfl wd148 dX10_polishFirst_16 ?_
      refine z_geti (o := 3) (C := RX4) (T := TX4) (N := 2) (ci := 3) (k := 1) hx hb Z hw (by decide) (by omega) rfl inX4 (by decide) wd88 dX10_polishFirst_19 ?_
      refine lv_if_ne (tgt := 28) hx hb dX10_polishFirst_22 (by decide) (fun c22 => ?_) (fun c22 => ?_)
      · have hf := (if_neg c22).symm.trans hf
        refine lv_iconst (v := (0 : Int32)) hx hb dX10_polishFirst_28 (by decide) ?_
        refine lv_istore_n (lv' := [(2, _), (0, _), (1, _)]) hx hb dX10_polishFirst_29 rfl hl (by decide) rfl (fun ls hl => ?_)
        refine lv_aload_n hx hb dX10_polishFirst_30 rfl (lv_at hl 1 rfl) ?_
        refine z_getr (o := 0) (o2 := 63) (C := RX10) (T := TX10) (N := 8) (ci := 8) (k := 6) hx hb Z hw (by decide) (by omega) rfl inX10 (by decide) rfl wd239 dX10_polishFirst_31 ?_
        refine lv_aload_n hx hb dX10_polishFirst_34 rfl (lv_at hl 1 rfl) ?_
        refine z_getr (o := 0) (o2 := 1) (C := RX10) (T := TX10) (N := 8) (ci := 8) (k := 0) hx hb Z hw (by decide) (by omega) rfl inX10 (by decide) rfl wd233 dX10_polishFirst_35 ?_
        obtain ⟨q38, hq38, hf⟩ := ob_some hf
        refine z_callVi (o := 63) (ci := 6) (As := [.ref (ra G 1)]) (rest := []) (t_X7_of G l hN 1 (by decide) (by omega) h hq38) cv_X7_of hx hb hml hl.1 Z hw (by decide) (by decide) (by omega) rfl rfl wd343 rfl rfl (Nat.le_of_ble_eq_true rfl) (by decide) dX10_polishFirst_38 (fun H locs hw => ?_)
        refine lv_iconst (v := (0 : Int32)) hx hb dX10_polishFirst_41 (by decide) ?_
        obtain ⟨q42, hq42, hf⟩ := ob_some hf
        refine z_callVi (o := 63) (ci := 6) (As := [.int (0 : Int32)]) (rest := []) (t_X7_missingWithout G l hN (0 : Int32) q38 hq42) cv_X7_missingWithout hx hb hml hl.1 Z hw (by decide) (by decide) (by omega) rfl rfl wd682 rfl rfl (Nat.le_of_ble_eq_true rfl) (by decide) dX10_polishFirst_42 (fun H locs hw => ?_)
        refine lv_istore_n (lv' := [(3, _), (2, _), (0, _), (1, _)]) hx hb dX10_polishFirst_45 rfl hl (by decide) rfl (fun ls hl => ?_)
        refine lv_iconst (v := (1 : Int32)) hx hb dX10_polishFirst_46 (by decide) ?_
        refine lv_istore (lv' := [(4, _), (3, _), (2, _), (0, _), (1, _)]) hx hb dX10_polishFirst_47 hl (by decide) rfl (fun ls hl => ?_)
        obtain ⟨q49, hq49, hf⟩ := ob_some hf
        refine w_X10_polishFirst_L49 G l hN  hx hb hr hlk hml Z FU (0 : Int32) q42.1 (1 : Int32) q42.2 x1 _ _ ls H locs (lv_sub hl [3, 4, 2, 1, 0] rfl) hw hq49 (fun ls H locs hl hw => ?_)
        refine lv_aload_n hx hb dX10_polishFirst_93 rfl (lv_at hl 0 rfl) ?_
        refine z_getr (o := 0) (o2 := 63) (C := RX10) (T := TX10) (N := 8) (ci := 8) (k := 6) hx hb Z hw (by decide) (by omega) rfl inX10 (by decide) rfl wd239 dX10_polishFirst_94 ?_
        refine lv_iconst (v := (-1 : Int32)) hx hb dX10_polishFirst_97 (by decide) ?_
        obtain ⟨q98, hq98, hf⟩ := ob_some hf
        refine z_callVv (o := 63) (ci := 6) (As := [.int (-1 : Int32)]) (rest := []) (t_X7_judge G l hN (-1 : Int32) q49.2.2 hq98) cv_X7_judge hx hb hml hl.1 Z hw (by decide) (by decide) (by omega) rfl rfl wd687 rfl rfl (Nat.le_of_ble_eq_true rfl) (by decide) dX10_polishFirst_98 (fun H locs hw => ?_)
        refine lv_iload_n hx hb dX10_polishFirst_101 rfl (lv_at hl 1 rfl) ?_
        refine lv_if_ne (tgt := 109) hx hb dX10_polishFirst_102 (by decide) (fun c102 => ?_) (fun c102 => ?_)
        · have hf := (if_neg c102).symm.trans hf
          refine lv_iload_n hx hb dX10_polishFirst_109 rfl (lv_at hl 3 rfl) ?_
          obtain ⟨rfl, rfl⟩ := Prod.mk.inj (Option.some.inj hf)
          exact z_iret hx hb hr hlk hw dX10_polishFirst_110
        · have hf := (if_pos c102).symm.trans hf
          refine lv_iload_n hx hb dX10_polishFirst_105 rfl (lv_at hl 2 rfl) ?_
          refine lv_goto (tgt := 110) hx hb dX10_polishFirst_106 (by decide) ?_
          obtain ⟨rfl, rfl⟩ := Prod.mk.inj (Option.some.inj hf)
          exact z_iret hx hb hr hlk hw dX10_polishFirst_110
      · have hf := (if_pos c22).symm.trans hf
        refine lv_bipush (v := (-5 : Int32)) hx hb dX10_polishFirst_25 (by decide) ?_
        obtain ⟨rfl, rfl⟩ := Prod.mk.inj (Option.some.inj hf)
        exact z_iret hx hb hr hlk hw dX10_polishFirst_27
    · have hf := (if_neg c6).symm.trans hf
      refine lv_bipush (v := (-2 : Int32)) hx hb dX10_polishFirst_9 (by decide) ?_
      obtain ⟨rfl, rfl⟩ := Prod.mk.inj (Option.some.inj hf)
      exact z_iret hx hb hr hlk hw dX10_polishFirst_11
