/-! walks (by program) -/
set_option maxHeartbeats 4000000 in
set_option maxRecDepth 100000 in
theorem t_X5_settingAt (G : GM) (l : Launch) (hN : 70 ≤ gN G) (o0 : Nat) (k_o0 : kd o0 = 4) (n_o0 : o0 < gN G) (x1 : Int32) (h : HP) : MC G l yX5_settingAt cX5_settingAt 2 (some .int) 0 [.ref (ra G o0), .int x1] h h (some (.int (f_X5_settingAt o0 x1 h))) := by
  generalize hf : f_X5_settingAt o0 x1 h = r
  unfold f_X5_settingAt at hf
  refine z_start (by decide) (Nat.le_of_ble_eq_true rfl) ?_
  intro p e s m args below meth c ls hx hb hr hlk hml Z hw hl
  have Z : ZK G s args m RX5 := Z
  have hl : lv_has ls 2 [(0, .ref (ra G o0)), (1, .int x1)] := hl
  obtain ⟨H, hH⟩ : ∃ H, H = s.heap := ⟨_, rfl⟩
  rw [← hH] at hw ⊢
  obtain ⟨locs, hlc⟩ : ∃ locs : List Loc, locs = [] := ⟨_, rfl⟩
  rw [← hlc] at hw ⊢
  refine lv_iload_n hx hb dX5_settingAt_0 rfl (lv_at hl 1 rfl) ?_
  by_cases c1_0 : x1 = 0
  · have hf := (if_pos c1_0).symm.trans hf
    refine z_sw c1_0 ?_
    refine lv_tableIn (tgt := 36) hx hb dX5_settingAt_1 (by decide) (by decide) rfl (by decide) ?_
    refine lv_aload_n hx hb dX5_settingAt_36 rfl (lv_at hl 0 rfl) ?_
    refine z_geti (o := o0) (C := RX5) (T := TX5) (N := 6) (ci := 4) (k := 0) hx hb Z hw k_o0 n_o0 rfl inX5 (by decide) wd110 dX5_settingAt_37 ?_
    obtain rfl := hf
    exact z_iret hx hb hr hlk hw dX5_settingAt_40
  have hf := (if_neg c1_0).symm.trans hf
  by_cases c1_1 : x1 = 1
  · have hf := (if_pos c1_1).symm.trans hf
    refine z_sw c1_1 ?_
    refine lv_tableIn (tgt := 41) hx hb dX5_settingAt_1 (by decide) (by decide) rfl (by decide) ?_
    refine lv_aload_n hx hb dX5_settingAt_41 rfl (lv_at hl 0 rfl) ?_
    refine z_geti (o := o0) (C := RX5) (T := TX5) (N := 6) (ci := 4) (k := 1) hx hb Z hw k_o0 n_o0 rfl inX5 (by decide) wd111 dX5_settingAt_42 ?_
    obtain rfl := hf
    exact z_iret hx hb hr hlk hw dX5_settingAt_45
  have hf := (if_neg c1_1).symm.trans hf
  by_cases c1_2 : x1 = 2
  · have hf := (if_pos c1_2).symm.trans hf
    refine z_sw c1_2 ?_
    refine lv_tableIn (tgt := 46) hx hb dX5_settingAt_1 (by decide) (by decide) rfl (by decide) ?_
    refine lv_aload_n hx hb dX5_settingAt_46 rfl (lv_at hl 0 rfl) ?_
    refine z_geti (o := o0) (C := RX5) (T := TX5) (N := 6) (ci := 4) (k := 2) hx hb Z hw k_o0 n_o0 rfl inX5 (by decide) wd112 dX5_settingAt_47 ?_
    obtain rfl := hf
    exact z_iret hx hb hr hlk hw dX5_settingAt_50
  have hf := (if_neg c1_2).symm.trans hf
  by_cases c1_3 : x1 = 3
  · have hf := (if_pos c1_3).symm.trans hf
    refine z_sw c1_3 ?_
    refine lv_tableIn (tgt := 51) hx hb dX5_settingAt_1 (by decide) (by decide) rfl (by decide) ?_
    refine lv_aload_n hx hb dX5_settingAt_51 rfl (lv_at hl 0 rfl) ?_
    refine z_geti (o := o0) (C := RX5) (T := TX5) (N := 6) (ci := 4) (k := 3) hx hb Z hw k_o0 n_o0 rfl inX5 (by decide) wd114 dX5_settingAt_52 ?_
    obtain rfl := hf
    exact z_iret hx hb hr hlk hw dX5_settingAt_55
  have hf := (if_neg c1_3).symm.trans hf
  by_cases c1_4 : x1 = 4
  · have hf := (if_pos c1_4).symm.trans hf
    refine z_sw c1_4 ?_
    refine lv_tableIn (tgt := 56) hx hb dX5_settingAt_1 (by decide) (by decide) rfl (by decide) ?_
    refine lv_aload_n hx hb dX5_settingAt_56 rfl (lv_at hl 0 rfl) ?_
    refine z_geti (o := o0) (C := RX5) (T := TX5) (N := 6) (ci := 4) (k := 4) hx hb Z hw k_o0 n_o0 rfl inX5 (by decide) wd116 dX5_settingAt_57 ?_
    obtain rfl := hf
    exact z_iret hx hb hr hlk hw dX5_settingAt_60
  have hf := (if_neg c1_4).symm.trans hf
  refine lv_tableOut (tgt := 61) hx hb dX5_settingAt_1 (by have := [0]; have e0 := sw_ne (k := 0) (by decide) c1_0; have e1 := sw_ne (k := 1) (by decide) c1_1; have e2 := sw_ne (k := 2) (by decide) c1_2; have e3 := sw_ne (k := 3) (by decide) c1_3; have e4 := sw_ne (k := 4) (by decide) c1_4; omega) (by decide) ?_
  refine lv_aload_n hx hb dX5_settingAt_61 rfl (lv_at hl 0 rfl) ?_
  refine z_geti (o := o0) (C := RX5) (T := TX5) (N := 6) (ci := 4) (k := 5) hx hb Z hw k_o0 n_o0 rfl inX5 (by decide) wd118 dX5_settingAt_62 ?_
  obtain rfl := hf
  exact z_iret hx hb hr hlk hw dX5_settingAt_65
set_option maxHeartbeats 4000000 in
set_option maxRecDepth 100000 in
theorem t_X10_set (G : GM) (l : Launch) (hN : 70 ≤ gN G) (x1 : Int32) (x2 : Int32) (h : HP) {r : Int32} {h' : HP} (hf : f_X10_set x1 x2 h = some (r, h')) : MC G l yX10_set cX10_set 4 (some .int) 4 [.ref (ra G 0), .int x1, .int x2] h h' (some (.int r)) := by
  unfold f_X10_set at hf
  refine z_start (by decide) (Nat.le_of_ble_eq_true rfl) ?_
  intro p e s m args below meth c ls hx hb hr hlk hml Z hw hl
  have Z : ZK G s args m RX10 := Z
  have hl : lv_has ls 4 [(0, .ref (ra G 0)), (1, .int x1), (2, .int x2)] := hl
  obtain ⟨H, hH⟩ : ∃ H, H = s.heap := ⟨_, rfl⟩
  rw [← hH] at hw ⊢
  obtain ⟨locs, hlc⟩ : ∃ locs : List Loc, locs = [] := ⟨_, rfl⟩
  rw [← hlc] at hw ⊢
  refine lv_iload_n hx hb dX10_set_0 rfl (lv_at hl 1 rfl) ?_
  refine lv_iload_n hx hb dX10_set_1 rfl (lv_at hl 2 rfl) ?_
  refine z_callSi (As := [.int x1, .int x2]) (rest := []) (t_X5_isInRange G l hN x1 x2 h) cs_X5_isInRange hx hb hml hl.1 Z hw wd524 rfl rfl (Nat.le_of_ble_eq_true rfl) (by decide) dX10_set_2 (fun H locs hw => ?_)
  refine lv_if_ne (tgt := 11) hx hb dX10_set_5 (by decide) (fun c5 => ?_) (fun c5 => ?_)
  · have hf := (if_neg c5).symm.trans hf
    refine lv_aload_n hx hb dX10_set_11 rfl (lv_at hl 0 rfl) ?_
    refine z_getr (o := 0) (o2 := 1) (C := RX10) (T := TX10) (N := 8) (ci := 8) (k := 0) hx hb Z hw (by decide) (by omega) rfl inX10 (by decide) rfl wd288 dX10_set_12 ?_
    refine z_getr (o := 1) (o2 := 2) (C := RX6) (T := TX6) (N := 4) (ci := 5) (k := 0) hx hb Z hw (by decide) (by omega) rfl inX6 (by decide) rfl wd199 dX10_set_15 ?_
    refine lv_iload_n hx hb dX10_set_18 rfl (lv_at hl 1 rfl) ?_
    refine z_callVi (o := 2) (ci := 4) (As := [.int x1]) (rest := []) (t_X5_settingAt G l hN 2 (by decide) (by omega) x1 h) cv_X5_settingAt hx hb hml hl.1 Z hw (by decide) (by decide) (by omega) rfl rfl wd527 rfl rfl (Nat.le_of_ble_eq_true rfl) (by decide) dX10_set_19 (fun H locs hw => ?_)
    refine lv_istore_n (lv' := [(3, _), (0, _), (1, _), (2, _)]) hx hb dX10_set_22 rfl hl (by decide) rfl (fun ls hl => ?_)
    refine lv_iload_n hx hb dX10_set_23 rfl (lv_at hl 0 rfl) ?_
    refine lv_iload_n hx hb dX10_set_24 rfl (lv_at hl 3 rfl) ?_
    refine lv_icmp_ne (tgt := 31) hx hb dX10_set_25 (by decide) (fun c25 => ?_) (fun c25 => ?_)
    · have hf := (if_neg c25).symm.trans hf
      refine lv_aload_n hx hb dX10_set_31 rfl (lv_at hl 1 rfl) ?_
      refine z_getr (o := 0) (o2 := 9) (C := RX10) (T := TX10) (N := 8) (ci := 8) (k := 1) hx hb Z hw (by decide) (by omega) rfl inX10 (by decide) rfl wd289 dX10_set_32 ?_
      refine lv_aload_n hx hb dX10_set_35 rfl (lv_at hl 1 rfl) ?_
      refine z_getr (o := 0) (o2 := 1) (C := RX10) (T := TX10) (N := 8) (ci := 8) (k := 0) hx hb Z hw (by decide) (by omega) rfl inX10 (by decide) rfl wd288 dX10_set_36 ?_
      obtain ⟨q39, hq39, hf⟩ := tb_ex hf
      refine z_callVv (o := 9) (ci := 5) (As := [.ref (ra G 1)]) (rest := []) (t_X6_copyFrom G l hN 9 (by decide) (by omega) 1 (by decide) (by omega) h hq39) cv_X6_copyFrom hx hb hml hl.1 Z hw (by decide) (by decide) (by omega) rfl rfl wd317 rfl rfl (Nat.le_of_ble_eq_true rfl) (by decide) dX10_set_39 (fun H locs hw => ?_)
      refine lv_aload_n hx hb dX10_set_42 rfl (lv_at hl 1 rfl) ?_
      refine z_getr (o := 0) (o2 := 1) (C := RX10) (T := TX10) (N := 8) (ci := 8) (k := 0) hx hb Z hw (by decide) (by omega) rfl inX10 (by decide) rfl wd288 dX10_set_43 ?_
      refine z_getr (o := 1) (o2 := 2) (C := RX6) (T := TX6) (N := 4) (ci := 5) (k := 0) hx hb Z hw (by decide) (by omega) rfl inX6 (by decide) rfl wd199 dX10_set_46 ?_
      refine lv_iload_n hx hb dX10_set_49 rfl (lv_at hl 2 rfl) ?_
      refine lv_iload_n hx hb dX10_set_50 rfl (lv_at hl 3 rfl) ?_
      obtain ⟨q51, hq51, hf⟩ := tb_ex hf
      refine z_callVv (o := 2) (ci := 4) (As := [.int x1, .int x2]) (rest := []) (t_X5_change G l hN 2 (by decide) (by omega) x1 x2 q39 hq51) cv_X5_change hx hb hml hl.1 Z hw (by decide) (by decide) (by omega) rfl rfl wd531 rfl rfl (Nat.le_of_ble_eq_true rfl) (by decide) dX10_set_51 (fun H locs hw => ?_)
      refine lv_iload_n hx hb dX10_set_54 rfl (lv_at hl 2 rfl) ?_
      refine lv_iconst (v := (1 : Int32)) hx hb dX10_set_55 (by decide) ?_
      obtain ⟨j56, hqj56, hf⟩ := tb_ex hf
      have HJ76 : ∀ (ls : Array Slot) (H : Heap) (locs : List Loc), lv_has ls 4 [(0, .ref (ra G 0)), (3, .int (f_X5_settingAt 2 x1 h))] → HW G j56 s H locs → WZ p l e 4 s m args below meth c G (some (.int r)) h' H locs (F0 m 76 ls []) := by
        intro ls H locs hl hw
        refine lv_aload_n hx hb dX10_set_76 rfl (lv_at hl 0 rfl) ?_
        refine lv_iload_n hx hb dX10_set_77 rfl (lv_at hl 1 rfl) ?_
        obtain ⟨q78, hq78, hf⟩ := ob_some hf
        refine z_callVi (o := 0) (ci := 8) (As := [.int (f_X5_settingAt 2 x1 h)]) (rest := []) (t_X10_recorded G l hN (f_X5_settingAt 2 x1 h) j56 hq78) cv_X10_recorded hx hb hml hl.1 Z hw (by decide) (by decide) (by omega) rfl rfl wd393 rfl rfl (Nat.le_of_ble_eq_true rfl) (by decide) dX10_set_78 (fun H locs hw => ?_)
        obtain ⟨rfl, rfl⟩ := Prod.mk.inj (Option.some.inj hf)
        exact z_iret hx hb hr hlk hw dX10_set_81
      have hf := hqj56
      refine lv_icmp_gt (tgt := 76) hx hb dX10_set_56 (by decide) (fun c56 => ?_) (fun c56 => ?_)
      · have hf := (if_pos c56).symm.trans hf
        subst hf
        exact HJ76 ls H locs (lv_sub hl [1, 0] rfl) hw
      · have hf := (if_neg c56).symm.trans hf
        refine lv_aload_n hx hb dX10_set_59 rfl (lv_at hl 1 rfl) ?_
        refine z_getr (o := 0) (o2 := 1) (C := RX10) (T := TX10) (N := 8) (ci := 8) (k := 0) hx hb Z hw (by decide) (by omega) rfl inX10 (by decide) rfl wd288 dX10_set_60 ?_
        refine z_getr (o := 1) (o2 := 8) (C := RX6) (T := TX6) (N := 4) (ci := 5) (k := 3) hx hb Z hw (by decide) (by omega) rfl inX6 (by decide) rfl wd206 dX10_set_63 ?_
        refine lv_aload_n hx hb dX10_set_66 rfl (lv_at hl 1 rfl) ?_
        refine z_getr (o := 0) (o2 := 1) (C := RX10) (T := TX10) (N := 8) (ci := 8) (k := 0) hx hb Z hw (by decide) (by omega) rfl inX10 (by decide) rfl wd288 dX10_set_67 ?_
        refine z_getr (o := 1) (o2 := 2) (C := RX6) (T := TX6) (N := 4) (ci := 5) (k := 0) hx hb Z hw (by decide) (by omega) rfl inX6 (by decide) rfl wd199 dX10_set_70 ?_
        obtain ⟨q73, hq73, hf⟩ := tb_ex hf
        refine z_callVv (o := 8) (ci := 0) (As := [.ref (ra G 2)]) (rest := []) (t_X1_goToStart G l hN 8 (by decide) (by omega) 2 (by decide) (by omega) q51 hq73) cv_X1_goToStart hx hb hml hl.1 Z hw (by decide) (by decide) (by omega) rfl rfl wd535 rfl rfl (Nat.le_of_ble_eq_true rfl) (by decide) dX10_set_73 (fun H locs hw => ?_)
        subst hf
        exact HJ76 ls H locs (lv_sub hl [1, 0] rfl) hw
    · have hf := (if_pos c25).symm.trans hf
      refine lv_bipush (v := (-5 : Int32)) hx hb dX10_set_28 (by decide) ?_
      obtain ⟨rfl, rfl⟩ := Prod.mk.inj (Option.some.inj hf)
      exact z_iret hx hb hr hlk hw dX10_set_30
  · have hf := (if_pos c5).symm.trans hf
    refine lv_bipush (v := (-2 : Int32)) hx hb dX10_set_8 (by decide) ?_
    obtain ⟨rfl, rfl⟩ := Prod.mk.inj (Option.some.inj hf)
    exact z_iret hx hb hr hlk hw dX10_set_10
set_option maxHeartbeats 4000000 in
set_option maxRecDepth 100000 in
theorem t_X1_isNear (G : GM) (l : Launch) (hN : 70 ≤ gN G) (o0 : Nat) (k_o0 : kd o0 = 0) (n_o0 : o0 < gN G) (x1 : Int32) (o2 : Nat) (k_o2 : kd o2 = 4) (n_o2 : o2 < gN G) (h : HP) : MC G l yX1_isNear cX1_isNear 3 (some .boolean) 0 [.ref (ra G o0), .int x1, .ref (ra G o2)] h h (some (.int (f_X1_isNear o0 x1 o2 h))) := by
  generalize hf : f_X1_isNear o0 x1 o2 h = r
  unfold f_X1_isNear at hf
  refine z_start (by decide) (Nat.le_of_ble_eq_true rfl) ?_
  intro p e s m args below meth c ls hx hb hr hlk hml Z hw hl
  have Z : ZK G s args m RX1 := Z
  have hl : lv_has ls 3 [(0, .ref (ra G o0)), (1, .int x1), (2, .ref (ra G o2))] := hl
  obtain ⟨H, hH⟩ : ∃ H, H = s.heap := ⟨_, rfl⟩
  rw [← hH] at hw ⊢
  obtain ⟨locs, hlc⟩ : ∃ locs : List Loc, locs = [] := ⟨_, rfl⟩
  rw [← hlc] at hw ⊢
  refine lv_aload_n hx hb dX1_isNear_0 rfl (lv_at hl 0 rfl) ?_
  refine z_geti (o := o0) (C := RX1) (T := TX1) (N := 6) (ci := 0) (k := 1) hx hb Z hw k_o0 n_o0 rfl inX1 (by decide) wd174 dX1_isNear_1 ?_
  refine lv_iload_n hx hb dX1_isNear_4 rfl (lv_at hl 1 rfl) ?_
  refine lv_isub hx hb dX1_isNear_5 ?_
  refine z_mabs hx hb (hml.trans hl.1.symm) Z wd569 wd570 wd82 wd571 (Nat.le_of_ble_eq_true rfl) dX1_isNear_6 ?_
  refine lv_aload_n hx hb dX1_isNear_9 rfl (lv_at hl 2 rfl) ?_
  refine z_geti (o := o2) (C := RX5) (T := TX5) (N := 6) (ci := 4) (k := 3) hx hb Z hw k_o2 n_o2 rfl inX5 (by decide) wd115 dX1_isNear_10 ?_
  refine lv_icmp_gt (tgt := 20) hx hb dX1_isNear_13 (by decide) (fun c13 => ?_) (fun c13 => ?_)
  · have hf := (if_pos c13).symm.trans hf
    refine lv_iconst (v := (0 : Int32)) hx hb dX1_isNear_20 (by decide) ?_
    obtain rfl := hf
    exact z_zret hx hb hr rfl hlk hw dX1_isNear_21
  · have hf := (if_neg c13).symm.trans hf
    refine lv_iconst (v := (1 : Int32)) hx hb dX1_isNear_16 (by decide) ?_
    refine lv_goto (tgt := 21) hx hb dX1_isNear_17 (by decide) ?_
    obtain rfl := hf
    exact z_zret hx hb hr rfl hlk hw dX1_isNear_21
set_option maxHeartbeats 4000000 in
set_option maxRecDepth 100000 in
theorem t_X1_spin (G : GM) (l : Launch) (hN : 70 ≤ gN G) (o0 : Nat) (k_o0 : kd o0 = 0) (n_o0 : o0 < gN G) (x1 : Int32) (x2 : Int32) (o3 : Nat) (k_o3 : kd o3 = 4) (n_o3 : o3 < gN G) (h : HP) {h' : HP} (hf : f_X1_spin o0 x1 x2 o3 h = h') : MC G l yX1_spin cX1_spin 5 none 0 [.ref (ra G o0), .int x1, .int x2, .ref (ra G o3)] h h' none := by
  unfold f_X1_spin at hf
  refine z_start (by decide) (Nat.le_of_ble_eq_true rfl) ?_
  intro p e s m args below meth c ls hx hb hr hlk hml Z hw hl
  have Z : ZK G s args m RX1 := Z
  have hl : lv_has ls 5 [(0, .ref (ra G o0)), (1, .int x1), (2, .int x2), (3, .ref (ra G o3))] := hl
  obtain ⟨H, hH⟩ : ∃ H, H = s.heap := ⟨_, rfl⟩
  rw [← hH] at hw ⊢
  obtain ⟨locs, hlc⟩ : ∃ locs : List Loc, locs = [] := ⟨_, rfl⟩
  rw [← hlc] at hw ⊢
  refine lv_iload_n hx hb dX1_spin_0 rfl (lv_at hl 1 rfl) ?_
  refine lv_aload_n hx hb dX1_spin_1 rfl (lv_at hl 3 rfl) ?_
  refine z_geti (o := o3) (C := RX5) (T := TX5) (N := 6) (ci := 4) (k := 2) hx hb Z hw k_o3 n_o3 rfl inX5 (by decide) wd113 dX1_spin_2 ?_
  refine lv_imul hx hb dX1_spin_5 ?_
  refine lv_istore (lv' := [(4, _), (0, _), (1, _), (2, _), (3, _)]) hx hb dX1_spin_6 hl (by decide) rfl (fun ls hl => ?_)
  refine lv_aload_n hx hb dX1_spin_8 rfl (lv_at hl 1 rfl) ?_
  refine lv_aload_n hx hb dX1_spin_9 rfl (lv_at hl 1 rfl) ?_
  refine z_geti (o := o0) (C := RX1) (T := TX1) (N := 6) (ci := 0) (k := 1) hx hb Z hw k_o0 n_o0 rfl inX1 (by decide) wd174 dX1_spin_10 ?_
  refine lv_iload_n hx hb dX1_spin_13 rfl (lv_at hl 3 rfl) ?_
  have HJ42 : ∀ (ls : Array Slot) (H : Heap) (locs : List Loc), lv_has ls 5 [(0, .ref (ra G o0)), (1, .int x1)] → HW G h s H locs → WZ p l e 0 s m args below meth c G none h' H locs (F0 m 42 ls [.int (if x2 ≤ (h o0 1) then (jmax x2 ((h o0 1) - (x1 * (h o3 2)))) else (jmin x2 ((h o0 1) + (x1 * (h o3 2))))), .ref (ra G o0)]) := by
    intro ls H locs hl hw
    refine z_puti (o := o0) (v := (if x2 ≤ (h o0 1) then (jmax x2 ((h o0 1) - (x1 * (h o3 2)))) else (jmin x2 ((h o0 1) + (x1 * (h o3 2)))))) (ty := .int) (C := RX1) (T := TX1) (N := 6) (ci := 0) (k := 1) hx hb Z hw k_o0 n_o0 rfl inX1 tyX1 tyX1_ok nmX1 (by decide) wd174 rfl (by decide +kernel) rfl rfl dX1_spin_42 (fun H locs hw => ?_)
    refine lv_aload_n hx hb dX1_spin_45 rfl (lv_at hl 0 rfl) ?_
    refine lv_dup hx hb dX1_spin_46 rfl ?_
    obtain ⟨h47, hqh47, hf⟩ := tb_ex hf
    rw [hqh47] at hw
    refine z_geti (o := o0) (C := RX1) (T := TX1) (N := 6) (ci := 0) (k := 2) hx hb Z hw k_o0 n_o0 rfl inX1 (by decide) wd176 dX1_spin_47 ?_
    refine lv_iload_n hx hb dX1_spin_50 rfl (lv_at hl 1 rfl) ?_
    refine lv_iadd hx hb dX1_spin_51 ?_
    refine z_puti (o := o0) (v := (h47 o0 2) + x1) (ty := .int) (C := RX1) (T := TX1) (N := 6) (ci := 0) (k := 2) hx hb Z hw k_o0 n_o0 rfl inX1 tyX1 tyX1_ok nmX1 (by decide) wd176 rfl (by decide +kernel) rfl rfl dX1_spin_52 (fun H locs hw => ?_)
    obtain rfl := hf
    exact z_vret hx hb hr hlk hw dX1_spin_55
  refine lv_icmp_ge (tgt := 31) hx hb dX1_spin_14 (by decide) (fun c14 => ?_) (fun c14 => ?_)
  · skip
    refine lv_iload_n hx hb dX1_spin_31 rfl (lv_at hl 3 rfl) ?_
    refine lv_aload_n hx hb dX1_spin_32 rfl (lv_at hl 1 rfl) ?_
    refine z_geti (o := o0) (C := RX1) (T := TX1) (N := 6) (ci := 0) (k := 1) hx hb Z hw k_o0 n_o0 rfl inX1 (by decide) wd174 dX1_spin_33 ?_
    refine lv_iload hx hb dX1_spin_36 (lv_at hl 0 rfl) ?_
    refine lv_isub hx hb dX1_spin_38 ?_
    refine z_mmax hx hb (hml.trans hl.1.symm) Z wd564 wd465 wd82 wd466 (Nat.le_of_ble_eq_true rfl) dX1_spin_39 ?_
    refine W.eq (g2 := F0 m 42 ls [.int (if x2 ≤ (h o0 1) then (jmax x2 ((h o0 1) - (x1 * (h o3 2)))) else (jmin x2 ((h o0 1) + (x1 * (h o3 2))))), .ref (ra G o0)]) ?_ (HJ42 ls H locs (lv_sub hl [1, 2] rfl) hw)
    simp only [if_pos c14]
  · skip
    refine lv_iload_n hx hb dX1_spin_17 rfl (lv_at hl 3 rfl) ?_
    refine lv_aload_n hx hb dX1_spin_18 rfl (lv_at hl 1 rfl) ?_
    refine z_geti (o := o0) (C := RX1) (T := TX1) (N := 6) (ci := 0) (k := 1) hx hb Z hw k_o0 n_o0 rfl inX1 (by decide) wd174 dX1_spin_19 ?_
    refine lv_iload hx hb dX1_spin_22 (lv_at hl 0 rfl) ?_
    refine lv_iadd hx hb dX1_spin_24 ?_
    refine z_mmin hx hb (hml.trans hl.1.symm) Z wd563 wd458 wd82 wd459 (Nat.le_of_ble_eq_true rfl) dX1_spin_25 ?_
    refine lv_goto (tgt := 42) hx hb dX1_spin_28 (by decide) ?_
    refine W.eq (g2 := F0 m 42 ls [.int (if x2 ≤ (h o0 1) then (jmax x2 ((h o0 1) - (x1 * (h o3 2)))) else (jmin x2 ((h o0 1) + (x1 * (h o3 2))))), .ref (ra G o0)]) ?_ (HJ42 ls H locs (lv_sub hl [1, 2] rfl) hw)
    simp only [if_neg c14]
set_option maxHeartbeats 4000000 in
set_option maxRecDepth 100000 in
theorem w_X5_turnOf_L2 (G : GM) (l : Launch) (hN : 70 ≤ gN G) (o0 : Nat) (k_o0 : kd o0 = 4) (n_o0 : o0 < gN G) {p : Program} {e : Env} {s : State} {m : MethodId} {args : Array Value} {below : List Frame} {meth : Method} {c : Code} (hx : p.tables.exec = Jvm.exec) (hb : c.code = cX5_turnOf) (hr : meth.sig.returnType = (some .int)) (hlk : meth.locks = false) (hml : c.maxLocals = 3) (Z : ZK G s args m RX5) : ∀ (n : Nat) (x1 : Int32) (x2 : Int32)  (h : HP)  (rv : Option Value) (hq : HP) (ls : Array Slot) (H : Heap) (locs : List Loc) {q : Int32}, lv_has ls 3 [(0, .ref (ra G o0)), (1, .int x1), (2, .int x2)] → HW G h s H locs → f_X5_turnOf_L2 n o0 x1 x2 h = some q → (∀ (ls : Array Slot) (H : Heap) (locs : List Loc), lv_has ls 3 [(2, .int q)] → HW G h s H locs → WZ p l e 1 s m args below meth c G rv hq H locs (F0 m 25 ls [])) → WZ p l e 1 s m args below meth c G rv hq H locs (F0 m 2 ls []) := by
  intro n
  induction n with
  | zero => intro x1 x2  h  rv hq ls H locs q hl hw hf kk; cases hf
  | succ n ih =>
    intro x1 x2  h  rv hq ls H locs q hl hw hf kk
    rw [f_X5_turnOf_L2] at hf
    refine lv_iload_n hx hb dX5_turnOf_2 rfl (lv_at hl 2 rfl) ?_
    refine lv_bipush (v := (29 : Int32)) hx hb dX5_turnOf_3 (by decide) ?_
    refine lv_icmp_ge (tgt := 25) hx hb dX5_turnOf_5 (by decide) (fun c5 => ?_) (fun c5 => ?_)
    · have hf := (if_pos c5).symm.trans hf
      obtain rfl := Option.some.inj hf
      exact kk ls H locs (lv_sub hl [2] rfl) hw
    · have hf := (if_neg c5).symm.trans hf
      refine lv_iload_n hx hb dX5_turnOf_8 rfl (lv_at hl 1 rfl) ?_
      refine lv_aload_n hx hb dX5_turnOf_9 rfl (lv_at hl 0 rfl) ?_
      refine lv_iload_n hx hb dX5_turnOf_10 rfl (lv_at hl 2 rfl) ?_
      refine lv_iconst (v := (1 : Int32)) hx hb dX5_turnOf_11 (by decide) ?_
      refine lv_iadd hx hb dX5_turnOf_12 ?_
      refine z_callVi (o := o0) (ci := 4) (As := [.int (x2 + (1 : Int32))]) (rest := [.int x1]) (t_X5_firstOf G l hN o0 k_o0 n_o0 (x2 + (1 : Int32)) h) cv_X5_firstOf hx hb hml hl.1 Z hw k_o0 (by decide) n_o0 rfl rfl wd353 rfl rfl (Nat.le_of_ble_eq_true rfl) (by decide) dX5_turnOf_13 (fun H locs hw => ?_)
      refine lv_icmp_lt (tgt := 25) hx hb dX5_turnOf_16 (by decide) (fun c16 => ?_) (fun c16 => ?_)
      · have hf := (if_pos c16).symm.trans hf
        obtain rfl := Option.some.inj hf
        exact kk ls H locs (lv_sub hl [2] rfl) hw
      · have hf := (if_neg c16).symm.trans hf
        refine lv_iinc (v := x2 + (1 : Int32)) (lv' := [(2, _), (0, _), (1, _)]) hx hb dX5_turnOf_19 hl (k := 2) rfl rfl (by decide) rfl (fun ls hl => ?_)
        refine lv_goto (tgt := 2) hx hb dX5_turnOf_22 (by decide) ?_
        exact ih x1 (x2 + (1 : Int32)) h  rv hq ls H locs (lv_sub hl [1, 2, 0] rfl) hw hf kk
set_option maxHeartbeats 4000000 in
set_option maxRecDepth 100000 in
theorem t_X5_turnOf (G : GM) (l : Launch) (hN : 70 ≤ gN G) (o0 : Nat) (k_o0 : kd o0 = 4) (n_o0 : o0 < gN G) (x1 : Int32) (h : HP) {r : Int32} (hf : f_X5_turnOf o0 x1 h = some r) : MC G l yX5_turnOf cX5_turnOf 3 (some .int) 1 [.ref (ra G o0), .int x1] h h (some (.int r)) := by
  unfold f_X5_turnOf at hf
  refine z_start (by decide) (Nat.le_of_ble_eq_true rfl) ?_
  intro p e s m args below meth c ls hx hb hr hlk hml Z hw hl
  have Z : ZK G s args m RX5 := Z
  have hl : lv_has ls 3 [(0, .ref (ra G o0)), (1, .int x1)] := hl
  obtain ⟨H, hH⟩ : ∃ H, H = s.heap := ⟨_, rfl⟩
  rw [← hH] at hw ⊢
  obtain ⟨locs, hlc⟩ : ∃ locs : List Loc, locs = [] := ⟨_, rfl⟩
  rw [← hlc] at hw ⊢
  refine lv_iconst (v := (0 : Int32)) hx hb dX5_turnOf_0 (by decide) ?_
  refine lv_istore_n (lv' := [(2, _), (0, _), (1, _)]) hx hb dX5_turnOf_1 rfl hl (by decide) rfl (fun ls hl => ?_)
  obtain ⟨q2, hq2, hf⟩ := ob_some hf
  refine w_X5_turnOf_L2 G l hN o0 k_o0 n_o0 hx hb hr hlk hml Z FU x1 (0 : Int32) h  _ _ ls H locs (lv_sub hl [1, 2, 0] rfl) hw hq2 (fun ls H locs hl hw => ?_)
  refine lv_iload_n hx hb dX5_turnOf_25 rfl (lv_at hl 0 rfl) ?_
  obtain rfl := Option.some.inj hf
  exact z_iret hx hb hr hlk hw dX5_turnOf_26
set_option maxHeartbeats 4000000 in
set_option maxRecDepth 100000 in
theorem t_X7_isDamaged (G : GM) (l : Launch) (hN : 70 ≤ gN G) (x1 : Int32) (h : HP) : MC G l yX7_isDamaged cX7_isDamaged 2 (some .boolean) 1 [.ref (ra G 63), .int x1] h h (some (.int (f_X7_isDamaged x1 h))) := by
  generalize hf : f_X7_isDamaged x1 h = r
  unfold f_X7_isDamaged at hf
  refine z_start (by decide) (Nat.le_of_ble_eq_true rfl) ?_
  intro p e s m args below meth c ls hx hb hr hlk hml Z hw hl
  have Z : ZK G s args m RX7 := Z
  have hl : lv_has ls 2 [(0, .ref (ra G 63)), (1, .int x1)] := hl
  obtain ⟨H, hH⟩ : ∃ H, H = s.heap := ⟨_, rfl⟩
  rw [← hH] at hw ⊢
  obtain ⟨locs, hlc⟩ : ∃ locs : List Loc, locs = [] := ⟨_, rfl⟩
  rw [← hlc] at hw ⊢
  refine lv_aload_n hx hb dX7_isDamaged_0 rfl (lv_at hl 0 rfl) ?_
  refine z_getr (o := 63) (o2 := 67) (C := RX7) (T := TX7) (N := 4) (ci := 6) (k := 2) hx hb Z hw (by decide) (by omega) rfl inX7 (by decide) rfl wd275 dX7_isDamaged_1 ?_
  refine lv_iload_n hx hb dX7_isDamaged_4 rfl (lv_at hl 1 rfl) ?_
  refine z_callNi (As := [.ref (ra G 67), .int x1]) (rest := []) (t_X10_at G l hN 67 (by decide) (by omega) x1 h) cs_X10_at hx hb hml hl.1 Z hw wd489 rfl rfl (Nat.le_of_ble_eq_true rfl) (by decide) dX7_isDamaged_5 (fun H locs hw => ?_)
  refine lv_if_eq (tgt := 15) hx hb dX7_isDamaged_8 (by decide) (fun c8 => ?_) (fun c8 => ?_)
  · have hf := (if_pos c8).symm.trans hf
    refine lv_iconst (v := (0 : Int32)) hx hb dX7_isDamaged_15 (by decide) ?_
    obtain rfl := hf
    exact z_zret hx hb hr rfl hlk hw dX7_isDamaged_16
  · have hf := (if_neg c8).symm.trans hf
    refine lv_iconst (v := (1 : Int32)) hx hb dX7_isDamaged_11 (by decide) ?_
    refine lv_goto (tgt := 16) hx hb dX7_isDamaged_12 (by decide) ?_
    obtain rfl := hf
    exact z_zret hx hb hr rfl hlk hw dX7_isDamaged_16
set_option maxHeartbeats 4000000 in
set_option maxRecDepth 100000 in
theorem w_X1_readFrames_L15 (G : GM) (l : Launch) (hN : 70 ≤ gN G) (o0 : Nat) (k_o0 : kd o0 = 0) (n_o0 : o0 < gN G) (o2 : Nat) (k_o2 : kd o2 = 4) (n_o2 : o2 < gN G) {p : Program} {e : Env} {s : State} {m : MethodId} {args : Array Value} {below : List Frame} {meth : Method} {c : Code} (hx : p.tables.exec = Jvm.exec) (hb : c.code = cX1_readFrames) (hr : meth.sig.returnType = (some .int)) (hlk : meth.locks = false) (hml : c.maxLocals = 9) (Z : ZK G s args m RX1) : ∀ (n : Nat) (x1 : Int32) (x4 : Int32) (x5 : Int32) (x6 : Int32) (x7 : Int32)  (h : HP)  (rv : Option Value) (hq : HP) (ls : Array Slot) (H : Heap) (locs : List Loc) {q : Int32 × Int32 × HP}, lv_has ls 9 [(0, .ref (ra G o0)), (1, .int x1), (2, .ref (ra G o2)), (3, .ref (ra G 63)), (4, .int x4), (5, .int x5), (6, .int x6), (7, .int x7)] → HW G h s H locs → f_X1_readFrames_L15 n o0 o2 x1 x4 x5 x6 x7 h = some q → (∀ (ls : Array Slot) (H : Heap) (locs : List Loc), lv_has ls 9 [(0, .ref (ra G o0)), (4, .int q.1), (5, .int q.2.1)] → HW G q.2.2 s H locs → WZ p l e 2 s m args below meth c G rv hq H locs (F0 m 109 ls [])) → WZ p l e 2 s m args below meth c G rv hq H locs (F0 m 15 ls []) := by
  intro n
  induction n with
  | zero => intro x1 x4 x5 x6 x7  h  rv hq ls H locs q hl hw hf kk; cases hf
  | succ n ih =>
    intro x1 x4 x5 x6 x7  h  rv hq ls H locs q hl hw hf kk
    rw [f_X1_readFrames_L15] at hf
    refine lv_iload hx hb dX1_readFrames_15 (lv_at hl 7 rfl) ?_
    refine lv_ldc (v := (100000 : Int32)) hx hb Z.2.1 (Z.1 _ wd554) dX1_readFrames_17 ?_
    refine lv_icmp_ge (tgt := 109) hx hb dX1_readFrames_19 (by decide) (fun c19 => ?_) (fun c19 => ?_)
    · have hf := (if_pos c19).symm.trans hf
      obtain rfl := Option.some.inj hf
      exact kk ls H locs (lv_sub hl [0, 4, 5] rfl) hw
    · have hf := (if_neg c19).symm.trans hf
      refine lv_iload hx hb dX1_readFrames_22 (lv_at hl 4 rfl) ?_
      refine lv_iload_n hx hb dX1_readFrames_24 rfl (lv_at hl 1 rfl) ?_
      refine lv_icmp_ge (tgt := 109) hx hb dX1_readFrames_25 (by decide) (fun c25 => ?_) (fun c25 => ?_)
      · have hf := (if_pos c25).symm.trans hf
        obtain rfl := Option.some.inj hf
        exact kk ls H locs (lv_sub hl [0, 4, 5] rfl) hw
      · have hf := (if_neg c25).symm.trans hf
        refine lv_aload_n hx hb dX1_readFrames_28 rfl (lv_at hl 0 rfl) ?_
        refine z_geti (o := o0) (C := RX1) (T := TX1) (N := 6) (ci := 0) (k := 0) hx hb Z hw k_o0 n_o0 rfl inX1 (by decide) wd172 dX1_readFrames_29 ?_
        refine lv_iload hx hb dX1_readFrames_32 (lv_at hl 6 rfl) ?_
        refine lv_icmp_ge (tgt := 109) hx hb dX1_readFrames_34 (by decide) (fun c34 => ?_) (fun c34 => ?_)
        · have hf := (if_pos c34).symm.trans hf
          obtain rfl := Option.some.inj hf
          exact kk ls H locs (lv_sub hl [0, 4, 5] rfl) hw
        · have hf := (if_neg c34).symm.trans hf
          refine lv_aload_n hx hb dX1_readFrames_37 rfl (lv_at hl 2 rfl) ?_
          refine lv_aload_n hx hb dX1_readFrames_38 rfl (lv_at hl 2 rfl) ?_
          refine lv_aload_n hx hb dX1_readFrames_39 rfl (lv_at hl 0 rfl) ?_
          refine z_geti (o := o0) (C := RX1) (T := TX1) (N := 6) (ci := 0) (k := 0) hx hb Z hw k_o0 n_o0 rfl inX1 (by decide) wd172 dX1_readFrames_40 ?_
          obtain ⟨q43, hq43, hf⟩ := ob_some hf
          refine z_callVi (o := o2) (ci := 4) (As := [.int (h o0 0)]) (rest := [.ref (ra G o2)]) (t_X5_turnOf G l hN o2 k_o2 n_o2 (h o0 0) h hq43) cv_X5_turnOf hx hb hml hl.1 Z hw k_o2 (by decide) n_o2 rfl rfl wd555 rfl rfl (Nat.le_of_ble_eq_true rfl) (by decide) dX1_readFrames_43 (fun H locs hw => ?_)
          refine z_callVi (o := o2) (ci := 4) (As := [.int q43]) (rest := []) (t_X5_framesOf G l hN o2 k_o2 n_o2 q43 h) cv_X5_framesOf hx hb hml hl.1 Z hw k_o2 (by decide) n_o2 rfl rfl wd539 rfl rfl (Nat.le_of_ble_eq_true rfl) (by decide) dX1_readFrames_46 (fun H locs hw => ?_)
          refine lv_istore (lv' := [(8, _), (0, _), (1, _), (2, _), (3, _), (4, _), (5, _), (6, _), (7, _)]) hx hb dX1_readFrames_49 hl (by decide) rfl (fun ls hl => ?_)
          refine lv_aload_n hx hb dX1_readFrames_51 rfl (lv_at hl 1 rfl) ?_
          refine lv_iconst (v := (1 : Int32)) hx hb dX1_readFrames_52 (by decide) ?_
          refine lv_iload hx hb dX1_readFrames_53 (lv_at hl 0 rfl) ?_
          refine lv_aload_n hx hb dX1_readFrames_55 rfl (lv_at hl 3 rfl) ?_
          obtain ⟨q56, hq56, hf⟩ := tb_ex hf
          refine z_callVv (o := o0) (ci := 0) (As := [.int (1 : Int32), .int (f_X5_framesOf o2 q43 h), .ref (ra G o2)]) (rest := []) (t_X1_spin G l hN o0 k_o0 n_o0 (1 : Int32) (f_X5_framesOf o2 q43 h) o2 k_o2 n_o2 h hq56) cv_X1_spin hx hb hml hl.1 Z hw k_o0 (by decide) n_o0 rfl rfl wd559 rfl rfl (Nat.le_of_ble_eq_true rfl) (by decide) dX1_readFrames_56 (fun H locs hw => ?_)
          refine lv_aload_n hx hb dX1_readFrames_59 rfl (lv_at hl 1 rfl) ?_
          refine lv_iload hx hb dX1_readFrames_60 (lv_at hl 0 rfl) ?_
          refine lv_aload_n hx hb dX1_readFrames_62 rfl (lv_at hl 3 rfl) ?_
          refine z_callVi (o := o0) (ci := 0) (As := [.int (f_X5_framesOf o2 q43 h), .ref (ra G o2)]) (rest := []) (t_X1_isNear G l hN o0 k_o0 n_o0 (f_X5_framesOf o2 q43 h) o2 k_o2 n_o2 q56) cv_X1_isNear hx hb hml hl.1 Z hw k_o0 (by decide) n_o0 rfl rfl wd565 rfl rfl (Nat.le_of_ble_eq_true rfl) (by decide) dX1_readFrames_63 (fun H locs hw => ?_)
          obtain ⟨j66, hqj66, hf⟩ := tb_ex hf
          have HJ103 : ∀ (ls : Array Slot) (H : Heap) (locs : List Loc), lv_has ls 9 [(0, .ref (ra G o0)), (1, .int x1), (2, .ref (ra G o2)), (3, .ref (ra G 63)), (4, .int j66.1), (5, .int j66.2.1), (6, .int x6), (7, .int x7)] → HW G j66.2.2 s H locs → WZ p l e 2 s m args below meth c G rv hq H locs (F0 m 103 ls []) := by
            intro ls H locs hl hw
            refine lv_iinc (v := x7 + (1 : Int32)) (lv' := [(7, _), (0, _), (1, _), (2, _), (3, _), (4, _), (5, _), (6, _)]) hx hb dX1_readFrames_103 hl (k := 7) rfl rfl (by decide) rfl (fun ls hl => ?_)
            refine lv_goto (tgt := 15) hx hb dX1_readFrames_106 (by decide) ?_
            exact ih x1 j66.1 j66.2.1 x6 (x7 + (1 : Int32)) j66.2.2  rv hq ls H locs (lv_sub hl [1, 2, 3, 4, 5, 6, 7, 0] rfl) hw hf kk
          have hf := hqj66
          refine lv_if_eq (tgt := 103) hx hb dX1_readFrames_66 (by decide) (fun c66 => ?_) (fun c66 => ?_)
          · have hf := (if_pos c66).symm.trans hf
            subst hf
            exact HJ103 ls H locs (lv_sub hl [1, 2, 3, 4, 5, 6, 7, 8] rfl) hw
          · have hf := (if_neg c66).symm.trans hf
            refine lv_iload hx hb dX1_readFrames_69 (lv_at hl 6 rfl) ?_
            refine lv_aload_n hx hb dX1_readFrames_71 rfl (lv_at hl 4 rfl) ?_
            refine lv_aload_n hx hb dX1_readFrames_72 rfl (lv_at hl 1 rfl) ?_
            refine z_geti (o := o0) (C := RX1) (T := TX1) (N := 6) (ci := 0) (k := 0) hx hb Z hw k_o0 n_o0 rfl inX1 (by decide) wd172 dX1_readFrames_73 ?_
            refine z_callVi (o := 63) (ci := 6) (As := [.int (q56 o0 0)]) (rest := [.int x5]) (t_X7_isDamaged G l hN (q56 o0 0) q56) cv_X7_isDamaged hx hb hml hl.1 Z hw (by decide) (by decide) (by omega) rfl rfl wd572 rfl rfl (Nat.le_of_ble_eq_true rfl) (by decide) dX1_readFrames_76 (fun H locs hw => ?_)
            have HJ87 : ∀ (ls : Array Slot) (H : Heap) (locs : List Loc), lv_has ls 9 [(0, .ref (ra G o0)), (1, .int x1), (2, .ref (ra G o2)), (3, .ref (ra G 63)), (4, .int x4), (6, .int x6), (7, .int x7)] → HW G q56 s H locs → WZ p l e 2 s m args below meth c G rv hq H locs (F0 m 87 ls [.int (if (f_X7_isDamaged (q56 o0 0) q56) = 0 then (1 : Int32) else (0 : Int32)), .int x5]) := by
              intro ls H locs hl hw
              refine lv_iadd hx hb dX1_readFrames_87 ?_
              obtain ⟨v88, hqv88, hf⟩ := tb_ex hf
              refine z_top hqv88 ?_
              refine lv_istore (lv' := [(5, _), (0, _), (1, _), (2, _), (3, _), (4, _), (6, _), (7, _)]) hx hb dX1_readFrames_88 hl (by decide) rfl (fun ls hl => ?_)
              refine lv_iinc (v := x4 + (1 : Int32)) (lv' := [(4, _), (5, _), (0, _), (1, _), (2, _), (3, _), (6, _), (7, _)]) hx hb dX1_readFrames_90 hl (k := 5) rfl rfl (by decide) rfl (fun ls hl => ?_)
              refine lv_aload_n hx hb dX1_readFrames_93 rfl (lv_at hl 2 rfl) ?_
              refine lv_dup hx hb dX1_readFrames_94 rfl ?_
              refine z_geti (o := o0) (C := RX1) (T := TX1) (N := 6) (ci := 0) (k := 0) hx hb Z hw k_o0 n_o0 rfl inX1 (by decide) wd172 dX1_readFrames_95 ?_
              refine lv_iconst (v := (1 : Int32)) hx hb dX1_readFrames_98 (by decide) ?_
              refine lv_iadd hx hb dX1_readFrames_99 ?_
              refine z_puti (o := o0) (v := (q56 o0 0) + (1 : Int32)) (ty := .int) (C := RX1) (T := TX1) (N := 6) (ci := 0) (k := 0) hx hb Z hw k_o0 n_o0 rfl inX1 tyX1 tyX1_ok nmX1 (by decide) wd172 rfl (by decide +kernel) rfl rfl dX1_readFrames_100 (fun H locs hw => ?_)
              subst hf
              exact HJ103 ls H locs (lv_sub hl [2, 3, 4, 5, 0, 1, 6, 7] rfl) hw
            refine lv_if_eq (tgt := 86) hx hb dX1_readFrames_79 (by decide) (fun c79 => ?_) (fun c79 => ?_)
            · skip
              refine lv_iconst (v := (1 : Int32)) hx hb dX1_readFrames_86 (by decide) ?_
              refine W.eq (g2 := F0 m 87 ls [.int (if (f_X7_isDamaged (q56 o0 0) q56) = 0 then (1 : Int32) else (0 : Int32)), .int x5]) ?_ (HJ87 ls H locs (lv_sub hl [1, 2, 3, 4, 5, 7, 8] rfl) hw)
              simp only [if_pos c79]
            · skip
              refine lv_iconst (v := (0 : Int32)) hx hb dX1_readFrames_82 (by decide) ?_
              refine lv_goto (tgt := 87) hx hb dX1_readFrames_83 (by decide) ?_
              refine W.eq (g2 := F0 m 87 ls [.int (if (f_X7_isDamaged (q56 o0 0) q56) = 0 then (1 : Int32) else (0 : Int32)), .int x5]) ?_ (HJ87 ls H locs (lv_sub hl [1, 2, 3, 4, 5, 7, 8] rfl) hw)
              simp only [if_neg c79]
set_option maxHeartbeats 4000000 in
set_option maxRecDepth 100000 in
theorem t_X1_readFrames (G : GM) (l : Launch) (hN : 70 ≤ gN G) (o0 : Nat) (k_o0 : kd o0 = 0) (n_o0 : o0 < gN G) (x1 : Int32) (o2 : Nat) (k_o2 : kd o2 = 4) (n_o2 : o2 < gN G) (h : HP) {r : Int32} {h' : HP} (hf : f_X1_readFrames o0 x1 o2 h = some (r, h')) : MC G l yX1_readFrames cX1_readFrames 9 (some .int) 2 [.ref (ra G o0), .int x1, .ref (ra G o2), .ref (ra G 63)] h h' (some (.int r)) := by
  unfold f_X1_readFrames at hf
  refine z_start (by decide) (Nat.le_of_ble_eq_true rfl) ?_
  intro p e s m args below meth c ls hx hb hr hlk hml Z hw hl
  have Z : ZK G s args m RX1 := Z
  have hl : lv_has ls 9 [(0, .ref (ra G o0)), (1, .int x1), (2, .ref (ra G o2)), (3, .ref (ra G 63))] := hl
  obtain ⟨H, hH⟩ : ∃ H, H = s.heap := ⟨_, rfl⟩
  rw [← hH] at hw ⊢
  obtain ⟨locs, hlc⟩ : ∃ locs : List Loc, locs = [] := ⟨_, rfl⟩
  rw [← hlc] at hw ⊢
  refine lv_iconst (v := (0 : Int32)) hx hb dX1_readFrames_0 (by decide) ?_
  refine lv_istore (lv' := [(4, _), (0, _), (1, _), (2, _), (3, _)]) hx hb dX1_readFrames_1 hl (by decide) rfl (fun ls hl => ?_)
  refine lv_iconst (v := (0 : Int32)) hx hb dX1_readFrames_3 (by decide) ?_
  refine lv_istore (lv' := [(5, _), (4, _), (0, _), (1, _), (2, _), (3, _)]) hx hb dX1_readFrames_4 hl (by decide) rfl (fun ls hl => ?_)
  refine lv_aload_n hx hb dX1_readFrames_6 rfl (lv_at hl 4 rfl) ?_
  refine z_callVi (o := o2) (ci := 4) (As := []) (rest := []) (t_X5_allFrames G l hN o2 k_o2 n_o2 h) cv_X5_allFrames hx hb hml hl.1 Z hw k_o2 (by decide) n_o2 rfl rfl wd553 rfl rfl (Nat.le_of_ble_eq_true rfl) (by decide) dX1_readFrames_7 (fun H locs hw => ?_)
  refine lv_istore (lv' := [(6, _), (5, _), (4, _), (0, _), (1, _), (2, _), (3, _)]) hx hb dX1_readFrames_10 hl (by decide) rfl (fun ls hl => ?_)
  refine lv_iconst (v := (0 : Int32)) hx hb dX1_readFrames_12 (by decide) ?_
  refine lv_istore (lv' := [(7, _), (6, _), (5, _), (4, _), (0, _), (1, _), (2, _), (3, _)]) hx hb dX1_readFrames_13 hl (by decide) rfl (fun ls hl => ?_)
  obtain ⟨q15, hq15, hf⟩ := ob_some hf
  refine w_X1_readFrames_L15 G l hN o0 k_o0 n_o0 o2 k_o2 n_o2 hx hb hr hlk hml Z FU x1 (0 : Int32) (0 : Int32) (f_X5_allFrames o2 h) (0 : Int32) h  _ _ ls H locs (lv_sub hl [4, 5, 6, 7, 3, 2, 1, 0] rfl) hw hq15 (fun ls H locs hl hw => ?_)
  refine lv_aload_n hx hb dX1_readFrames_109 rfl (lv_at hl 0 rfl) ?_
  refine lv_dup hx hb dX1_readFrames_110 rfl ?_
  refine z_geti (o := o0) (C := RX1) (T := TX1) (N := 6) (ci := 0) (k := 3) hx hb Z hw k_o0 n_o0 rfl inX1 (by decide) wd178 dX1_readFrames_111 ?_
  refine lv_iload hx hb dX1_readFrames_114 (lv_at hl 1 rfl) ?_
  refine lv_iadd hx hb dX1_readFrames_116 ?_
  refine z_puti (o := o0) (v := (q15.2.2 o0 3) + q15.1) (ty := .int) (C := RX1) (T := TX1) (N := 6) (ci := 0) (k := 3) hx hb Z hw k_o0 n_o0 rfl inX1 tyX1 tyX1_ok nmX1 (by decide) wd178 rfl (by decide +kernel) rfl rfl dX1_readFrames_117 (fun H locs hw => ?_)
  refine lv_aload_n hx hb dX1_readFrames_120 rfl (lv_at hl 0 rfl) ?_
  refine lv_dup hx hb dX1_readFrames_121 rfl ?_
  obtain ⟨h122, hqh122, hf⟩ := tb_ex hf
  rw [hqh122] at hw
  refine z_geti (o := o0) (C := RX1) (T := TX1) (N := 6) (ci := 0) (k := 4) hx hb Z hw k_o0 n_o0 rfl inX1 (by decide) wd180 dX1_readFrames_122 ?_
  refine lv_iload hx hb dX1_readFrames_125 (lv_at hl 2 rfl) ?_
  refine lv_iadd hx hb dX1_readFrames_127 ?_
  refine z_puti (o := o0) (v := (h122 o0 4) + q15.2.1) (ty := .int) (C := RX1) (T := TX1) (N := 6) (ci := 0) (k := 4) hx hb Z hw k_o0 n_o0 rfl inX1 tyX1 tyX1_ok nmX1 (by decide) wd180 rfl (by decide +kernel) rfl rfl dX1_readFrames_128 (fun H locs hw => ?_)
  refine lv_iload hx hb dX1_readFrames_131 (lv_at hl 2 rfl) ?_
  obtain ⟨rfl, rfl⟩ := Prod.mk.inj (Option.some.inj hf)
  exact z_iret hx hb hr hlk hw dX1_readFrames_133
set_option maxHeartbeats 4000000 in
set_option maxRecDepth 100000 in
theorem t_X10_playFrames (G : GM) (l : Launch) (hN : 70 ≤ gN G) (x1 : Int32) (h : HP) {r : Int32} {h' : HP} (hf : f_X10_playFrames x1 h = some (r, h')) : MC G l yX10_playFrames cX10_playFrames 2 (some .int) 4 [.ref (ra G 0), .int x1] h h' (some (.int r)) := by
  unfold f_X10_playFrames at hf
  refine z_start (by decide) (Nat.le_of_ble_eq_true rfl) ?_
  intro p e s m args below meth c ls hx hb hr hlk hml Z hw hl
  have Z : ZK G s args m RX10 := Z
  have hl : lv_has ls 2 [(0, .ref (ra G 0)), (1, .int x1)] := hl
  obtain ⟨H, hH⟩ : ∃ H, H = s.heap := ⟨_, rfl⟩
  rw [← hH] at hw ⊢
  obtain ⟨locs, hlc⟩ : ∃ locs : List Loc, locs = [] := ⟨_, rfl⟩
  rw [← hlc] at hw ⊢
  refine lv_iload_n hx hb dX10_playFrames_0 rfl (lv_at hl 1 rfl) ?_
  refine lv_iconst (v := (1 : Int32)) hx hb dX10_playFrames_1 (by decide) ?_
  refine lv_icmp_lt (tgt := 12) hx hb dX10_playFrames_2 (by decide) (fun c2 => ?_) (fun c2 => ?_)
  · have hf := (if_pos c2).symm.trans hf
    refine lv_bipush (v := (-2 : Int32)) hx hb dX10_playFrames_12 (by decide) ?_
    obtain ⟨rfl, rfl⟩ := Prod.mk.inj (Option.some.inj hf)
    exact z_iret hx hb hr hlk hw dX10_playFrames_14
  · have hf := (if_neg c2).symm.trans hf
    refine lv_iload_n hx hb dX10_playFrames_5 rfl (lv_at hl 1 rfl) ?_
    refine lv_sipush (v := (999 : Int32)) hx hb dX10_playFrames_6 (by decide) ?_
    refine lv_icmp_le (tgt := 15) hx hb dX10_playFrames_9 (by decide) (fun c9 => ?_) (fun c9 => ?_)
    · have hf := (if_pos c9).symm.trans hf
      refine lv_aload_n hx hb dX10_playFrames_15 rfl (lv_at hl 0 rfl) ?_
      refine z_getr (o := 0) (o2 := 1) (C := RX10) (T := TX10) (N := 8) (ci := 8) (k := 0) hx hb Z hw (by decide) (by omega) rfl inX10 (by decide) rfl wd288 dX10_playFrames_16 ?_
      refine z_getr (o := 1) (o2 := 8) (C := RX6) (T := TX6) (N := 4) (ci := 5) (k := 3) hx hb Z hw (by decide) (by omega) rfl inX6 (by decide) rfl wd206 dX10_playFrames_19 ?_
      refine z_geti (o := 8) (C := RX1) (T := TX1) (N := 6) (ci := 0) (k := 0) hx hb Z hw (by decide) (by omega) rfl inX1 (by decide) wd173 dX10_playFrames_22 ?_
      refine lv_aload_n hx hb dX10_playFrames_25 rfl (lv_at hl 0 rfl) ?_
      refine z_getr (o := 0) (o2 := 1) (C := RX10) (T := TX10) (N := 8) (ci := 8) (k := 0) hx hb Z hw (by decide) (by omega) rfl inX10 (by decide) rfl wd288 dX10_playFrames_26 ?_
      refine z_getr (o := 1) (o2 := 2) (C := RX6) (T := TX6) (N := 4) (ci := 5) (k := 0) hx hb Z hw (by decide) (by omega) rfl inX6 (by decide) rfl wd199 dX10_playFrames_29 ?_
      refine z_callVi (o := 2) (ci := 4) (As := []) (rest := [.int (h 8 0)]) (t_X5_allFrames G l hN 2 (by decide) (by omega) h) cv_X5_allFrames hx hb hml hl.1 Z hw (by decide) (by decide) (by omega) rfl rfl wd548 rfl rfl (Nat.le_of_ble_eq_true rfl) (by decide) dX10_playFrames_32 (fun H locs hw => ?_)
      refine lv_icmp_lt (tgt := 41) hx hb dX10_playFrames_35 (by decide) (fun c35 => ?_) (fun c35 => ?_)
      · have hf := (if_pos c35).symm.trans hf
        refine lv_aload_n hx hb dX10_playFrames_41 rfl (lv_at hl 0 rfl) ?_
        refine z_getr (o := 0) (o2 := 1) (C := RX10) (T := TX10) (N := 8) (ci := 8) (k := 0) hx hb Z hw (by decide) (by omega) rfl inX10 (by decide) rfl wd288 dX10_playFrames_42 ?_
        refine z_getr (o := 1) (o2 := 8) (C := RX6) (T := TX6) (N := 4) (ci := 5) (k := 3) hx hb Z hw (by decide) (by omega) rfl inX6 (by decide) rfl wd206 dX10_playFrames_45 ?_
        refine lv_iload_n hx hb dX10_playFrames_48 rfl (lv_at hl 1 rfl) ?_
        refine lv_aload_n hx hb dX10_playFrames_49 rfl (lv_at hl 0 rfl) ?_
        refine z_getr (o := 0) (o2 := 1) (C := RX10) (T := TX10) (N := 8) (ci := 8) (k := 0) hx hb Z hw (by decide) (by omega) rfl inX10 (by decide) rfl wd288 dX10_playFrames_50 ?_
        refine z_getr (o := 1) (o2 := 2) (C := RX6) (T := TX6) (N := 4) (ci := 5) (k := 0) hx hb Z hw (by decide) (by omega) rfl inX6 (by decide) rfl wd199 dX10_playFrames_53 ?_
        refine lv_aload_n hx hb dX10_playFrames_56 rfl (lv_at hl 0 rfl) ?_
        refine z_getr (o := 0) (o2 := 63) (C := RX10) (T := TX10) (N := 8) (ci := 8) (k := 6) hx hb Z hw (by decide) (by omega) rfl inX10 (by decide) rfl wd294 dX10_playFrames_57 ?_
        refine lv_aload_n hx hb dX10_playFrames_60 rfl (lv_at hl 0 rfl) ?_
        refine z_getr (o := 0) (o2 := 1) (C := RX10) (T := TX10) (N := 8) (ci := 8) (k := 0) hx hb Z hw (by decide) (by omega) rfl inX10 (by decide) rfl wd288 dX10_playFrames_61 ?_
        obtain ⟨q64, hq64, hf⟩ := ob_some hf
        refine z_callVi (o := 63) (ci := 6) (As := [.ref (ra G 1)]) (rest := [.ref (ra G 2), .int x1, .ref (ra G 8)]) (t_X7_of G l hN 1 (by decide) (by omega) h hq64) cv_X7_of hx hb hml hl.1 Z hw (by decide) (by decide) (by omega) rfl rfl wd423 rfl rfl (Nat.le_of_ble_eq_true rfl) (by decide) dX10_playFrames_64 (fun H locs hw => ?_)
        obtain ⟨q67, hq67, hf⟩ := ob_some hf
        refine z_callVi (o := 8) (ci := 0) (As := [.int x1, .ref (ra G 2), .ref (ra G 63)]) (rest := []) (t_X1_readFrames G l hN 8 (by decide) (by omega) x1 2 (by decide) (by omega) q64 hq67) cv_X1_readFrames hx hb hml hl.1 Z hw (by decide) (by decide) (by omega) rfl rfl wd549 rfl rfl (Nat.le_of_ble_eq_true rfl) (by decide) dX10_playFrames_67 (fun H locs hw => ?_)
        obtain ⟨rfl, rfl⟩ := Prod.mk.inj (Option.some.inj hf)
        exact z_iret hx hb hr hlk hw dX10_playFrames_70
      · have hf := (if_neg c35).symm.trans hf
        refine lv_bipush (v := (-5 : Int32)) hx hb dX10_playFrames_38 (by decide) ?_
        obtain ⟨rfl, rfl⟩ := Prod.mk.inj (Option.some.inj hf)
        exact z_iret hx hb hr hlk hw dX10_playFrames_40
    · have hf := (if_neg c9).symm.trans hf
      refine lv_bipush (v := (-2 : Int32)) hx hb dX10_playFrames_12 (by decide) ?_
      obtain ⟨rfl, rfl⟩ := Prod.mk.inj (Option.some.inj hf)
      exact z_iret hx hb hr hlk hw dX10_playFrames_14
set_option maxHeartbeats 4000000 in
set_option maxRecDepth 100000 in
theorem t_X10_play (G : GM) (l : Launch) (hN : 70 ≤ gN G) (x1 : Int32) (h : HP) {r : Int32} {h' : HP} (hf : f_X10_play x1 h = some (r, h')) : MC G l yX10_play cX10_play 2 (some .int) 5 [.ref (ra G 0), .int x1] h h' (some (.int r)) := by
  unfold f_X10_play at hf
  refine z_start (by decide) (Nat.le_of_ble_eq_true rfl) ?_
  intro p e s m args below meth c ls hx hb hr hlk hml Z hw hl
  have Z : ZK G s args m RX10 := Z
  have hl : lv_has ls 2 [(0, .ref (ra G 0)), (1, .int x1)] := hl
  obtain ⟨H, hH⟩ : ∃ H, H = s.heap := ⟨_, rfl⟩
  rw [← hH] at hw ⊢
  obtain ⟨locs, hlc⟩ : ∃ locs : List Loc, locs = [] := ⟨_, rfl⟩
  rw [← hlc] at hw ⊢
  refine lv_aload_n hx hb dX10_play_0 rfl (lv_at hl 0 rfl) ?_
  refine z_getr (o := 0) (o2 := 9) (C := RX10) (T := TX10) (N := 8) (ci := 8) (k := 1) hx hb Z hw (by decide) (by omega) rfl inX10 (by decide) rfl wd289 dX10_play_1 ?_
  refine lv_aload_n hx hb dX10_play_4 rfl (lv_at hl 0 rfl) ?_
  refine z_getr (o := 0) (o2 := 1) (C := RX10) (T := TX10) (N := 8) (ci := 8) (k := 0) hx hb Z hw (by decide) (by omega) rfl inX10 (by decide) rfl wd288 dX10_play_5 ?_
  obtain ⟨q8, hq8, hf⟩ := tb_ex hf
  refine z_callVv (o := 9) (ci := 5) (As := [.ref (ra G 1)]) (rest := []) (t_X6_copyFrom G l hN 9 (by decide) (by omega) 1 (by decide) (by omega) h hq8) cv_X6_copyFrom hx hb hml hl.1 Z hw (by decide) (by decide) (by omega) rfl rfl wd317 rfl rfl (Nat.le_of_ble_eq_true rfl) (by decide) dX10_play_8 (fun H locs hw => ?_)
  refine lv_aload_n hx hb dX10_play_11 rfl (lv_at hl 0 rfl) ?_
  refine lv_aload_n hx hb dX10_play_12 rfl (lv_at hl 0 rfl) ?_
  refine lv_iload_n hx hb dX10_play_13 rfl (lv_at hl 1 rfl) ?_
  obtain ⟨q14, hq14, hf⟩ := ob_some hf
  refine z_callVi (o := 0) (ci := 8) (As := [.int x1]) (rest := [.ref (ra G 0)]) (t_X10_playFrames G l hN x1 q8 hq14) cv_X10_playFrames hx hb hml hl.1 Z hw (by decide) (by decide) (by omega) rfl rfl wd544 rfl rfl (Nat.le_of_ble_eq_true rfl) (by decide) dX10_play_14 (fun H locs hw => ?_)
  obtain ⟨q17, hq17, hf⟩ := ob_some hf
  refine z_callVi (o := 0) (ci := 8) (As := [.int q14.1]) (rest := []) (t_X10_recorded G l hN q14.1 q14.2 hq17) cv_X10_recorded hx hb hml hl.1 Z hw (by decide) (by decide) (by omega) rfl rfl wd393 rfl rfl (Nat.le_of_ble_eq_true rfl) (by decide) dX10_play_17 (fun H locs hw => ?_)
  obtain ⟨rfl, rfl⟩ := Prod.mk.inj (Option.some.inj hf)
  exact z_iret hx hb hr hlk hw dX10_play_20
set_option maxHeartbeats 4000000 in
set_option maxRecDepth 100000 in
theorem t_X1_jump (G : GM) (l : Launch) (hN : 70 ≤ gN G) (o0 : Nat) (k_o0 : kd o0 = 0) (n_o0 : o0 < gN G) (x1 : Int32) (x2 : Int32) (o3 : Nat) (k_o3 : kd o3 = 4) (n_o3 : o3 < gN G) (x4 : Int32) (h : HP) {r : Int32} {h' : HP} (hf : f_X1_jump o0 x1 x2 o3 x4 h = (r, h')) : MC G l yX1_jump cX1_jump 9 (some .int) 1 [.ref (ra G o0), .int x1, .int x2, .ref (ra G o3), .int x4] h h' (some (.int r)) := by
  unfold f_X1_jump at hf
  refine z_start (by decide) (Nat.le_of_ble_eq_true rfl) ?_
  intro p e s m args below meth c ls hx hb hr hlk hml Z hw hl
  have Z : ZK G s args m RX1 := Z
  have hl : lv_has ls 9 [(0, .ref (ra G o0)), (1, .int x1), (2, .int x2), (3, .ref (ra G o3)), (4, .int x4)] := hl
  obtain ⟨H, hH⟩ : ∃ H, H = s.heap := ⟨_, rfl⟩
  rw [← hH] at hw ⊢
  obtain ⟨locs, hlc⟩ : ∃ locs : List Loc, locs = [] := ⟨_, rfl⟩
  rw [← hlc] at hw ⊢
  refine lv_iload_n hx hb dX1_jump_0 rfl (lv_at hl 2 rfl) ?_
  refine lv_iload_n hx hb dX1_jump_1 rfl (lv_at hl 1 rfl) ?_
  refine lv_isub hx hb dX1_jump_2 ?_
  refine lv_istore (lv' := [(5, _), (0, _), (1, _), (2, _), (3, _), (4, _)]) hx hb dX1_jump_3 hl (by decide) rfl (fun ls hl => ?_)
  refine lv_iload hx hb dX1_jump_5 (lv_at hl 0 rfl) ?_
  refine lv_iload hx hb dX1_jump_7 (lv_at hl 5 rfl) ?_
  refine lv_imul hx hb dX1_jump_9 ?_
  refine lv_bipush (v := (100 : Int32)) hx hb dX1_jump_10 (by decide) ?_
  refine lv_idiv hx hb dX1_jump_12 (by decide) ?_
  refine lv_istore (lv' := [(6, _), (5, _), (0, _), (1, _), (2, _), (3, _), (4, _)]) hx hb dX1_jump_13 hl (by decide) rfl (fun ls hl => ?_)
  refine lv_iload hx hb dX1_jump_15 (lv_at hl 0 rfl) ?_
  obtain ⟨j17, hqj17, hf⟩ := tb_ex hf
  have HJ32 : ∀ (ls : Array Slot) (H : Heap) (locs : List Loc), lv_has ls 9 [(0, .ref (ra G o0)), (1, .int x1), (3, .ref (ra G o3)), (6, .int j17)] → HW G h s H locs → WZ p l e 1 s m args below meth c G (some (.int r)) h' H locs (F0 m 32 ls []) := by
    intro ls H locs hl hw
    refine lv_iconst (v := (0 : Int32)) hx hb dX1_jump_32 (by decide) ?_
    refine lv_bipush (v := (29 : Int32)) hx hb dX1_jump_33 (by decide) ?_
    refine lv_iload_n hx hb dX1_jump_35 rfl (lv_at hl 1 rfl) ?_
    refine lv_iload hx hb dX1_jump_36 (lv_at hl 3 rfl) ?_
    refine lv_iadd hx hb dX1_jump_38 ?_
    refine z_mmin hx hb (hml.trans hl.1.symm) Z wd563 wd458 wd82 wd459 (Nat.le_of_ble_eq_true rfl) dX1_jump_39 ?_
    refine z_mmax hx hb (hml.trans hl.1.symm) Z wd564 wd465 wd82 wd466 (Nat.le_of_ble_eq_true rfl) dX1_jump_42 ?_
    obtain ⟨v45, hqv45, hf⟩ := tb_ex hf
    refine z_top hqv45 ?_
    refine lv_istore (lv' := [(7, _), (0, _), (1, _), (3, _), (6, _)]) hx hb dX1_jump_45 hl (by decide) rfl (fun ls hl => ?_)
    refine lv_aload_n hx hb dX1_jump_47 rfl (lv_at hl 3 rfl) ?_
    refine z_geti (o := o3) (C := RX5) (T := TX5) (N := 6) (ci := 4) (k := 5) hx hb Z hw k_o3 n_o3 rfl inX5 (by decide) wd119 dX1_jump_48 ?_
    refine lv_iload hx hb dX1_jump_51 (lv_at hl 0 rfl) ?_
    refine lv_iload_n hx hb dX1_jump_53 rfl (lv_at hl 2 rfl) ?_
    refine lv_isub hx hb dX1_jump_54 ?_
    refine z_mabs hx hb (hml.trans hl.1.symm) Z wd569 wd570 wd82 wd571 (Nat.le_of_ble_eq_true rfl) dX1_jump_55 ?_
    refine lv_iadd hx hb dX1_jump_58 ?_
    refine lv_istore (lv' := [(8, _), (7, _), (0, _), (1, _), (3, _), (6, _)]) hx hb dX1_jump_59 hl (by decide) rfl (fun ls hl => ?_)
    refine lv_aload_n hx hb dX1_jump_61 rfl (lv_at hl 2 rfl) ?_
    refine lv_iload hx hb dX1_jump_62 (lv_at hl 0 rfl) ?_
    refine lv_aload_n hx hb dX1_jump_64 rfl (lv_at hl 4 rfl) ?_
    refine lv_iload hx hb dX1_jump_65 (lv_at hl 1 rfl) ?_
    refine z_callVi (o := o3) (ci := 4) (As := [.int v45]) (rest := [.int ((h o3 5) + (jabs (v45 - x1))), .ref (ra G o0)]) (t_X5_framesOf G l hN o3 k_o3 n_o3 v45 h) cv_X5_framesOf hx hb hml hl.1 Z hw k_o3 (by decide) n_o3 rfl rfl wd539 rfl rfl (Nat.le_of_ble_eq_true rfl) (by decide) dX1_jump_67 (fun H locs hw => ?_)
    refine lv_aload_n hx hb dX1_jump_70 rfl (lv_at hl 4 rfl) ?_
    obtain ⟨q71, hq71, hf⟩ := tb_ex hf
    refine z_callVv (o := o0) (ci := 0) (As := [.int ((h o3 5) + (jabs (v45 - x1))), .int (f_X5_framesOf o3 v45 h), .ref (ra G o3)]) (rest := []) (t_X1_spin G l hN o0 k_o0 n_o0 ((h o3 5) + (jabs (v45 - x1))) (f_X5_framesOf o3 v45 h) o3 k_o3 n_o3 h hq71) cv_X1_spin hx hb hml hl.1 Z hw k_o0 (by decide) n_o0 rfl rfl wd559 rfl rfl (Nat.le_of_ble_eq_true rfl) (by decide) dX1_jump_71 (fun H locs hw => ?_)
    refine lv_aload_n hx hb dX1_jump_74 rfl (lv_at hl 2 rfl) ?_
    refine lv_aload_n hx hb dX1_jump_75 rfl (lv_at hl 4 rfl) ?_
    refine lv_iload hx hb dX1_jump_76 (lv_at hl 1 rfl) ?_
    refine z_callVi (o := o3) (ci := 4) (As := [.int v45]) (rest := [.ref (ra G o0)]) (t_X5_firstOf G l hN o3 k_o3 n_o3 v45 q71) cv_X5_firstOf hx hb hml hl.1 Z hw k_o3 (by decide) n_o3 rfl rfl wd592 rfl rfl (Nat.le_of_ble_eq_true rfl) (by decide) dX1_jump_78 (fun H locs hw => ?_)
    refine z_puti (o := o0) (v := f_X5_firstOf o3 v45 q71) (ty := .int) (C := RX1) (T := TX1) (N := 6) (ci := 0) (k := 0) hx hb Z hw k_o0 n_o0 rfl inX1 tyX1 tyX1_ok nmX1 (by decide) wd172 rfl (by decide +kernel) rfl rfl dX1_jump_81 (fun H locs hw => ?_)
    refine lv_aload_n hx hb dX1_jump_84 rfl (lv_at hl 2 rfl) ?_
    refine lv_dup hx hb dX1_jump_85 rfl ?_
    obtain ⟨h86, hqh86, hf⟩ := tb_ex hf
    rw [hqh86] at hw
    refine z_geti (o := o0) (C := RX1) (T := TX1) (N := 6) (ci := 0) (k := 5) hx hb Z hw k_o0 n_o0 rfl inX1 (by decide) wd182 dX1_jump_86 ?_
    refine lv_iconst (v := (1 : Int32)) hx hb dX1_jump_89 (by decide) ?_
    refine lv_iadd hx hb dX1_jump_90 ?_
    refine z_puti (o := o0) (v := (h86 o0 5) + (1 : Int32)) (ty := .int) (C := RX1) (T := TX1) (N := 6) (ci := 0) (k := 5) hx hb Z hw k_o0 n_o0 rfl inX1 tyX1 tyX1_ok nmX1 (by decide) wd182 rfl (by decide +kernel) rfl rfl dX1_jump_91 (fun H locs hw => ?_)
    refine lv_iload hx hb dX1_jump_94 (lv_at hl 1 rfl) ?_
    obtain ⟨rfl, rfl⟩ := Prod.mk.inj hf
    exact z_iret hx hb hr hlk hw dX1_jump_96
  have hf := hqj17
  refine lv_if_ne (tgt := 32) hx hb dX1_jump_17 (by decide) (fun c17 => ?_) (fun c17 => ?_)
  · have hf := (if_neg c17).symm.trans hf
    subst hf
    exact HJ32 ls H locs (lv_sub hl [2, 3, 5, 0] rfl) hw
  · have hf := (if_pos c17).symm.trans hf
    refine lv_iload hx hb dX1_jump_20 (lv_at hl 1 rfl) ?_
    have HJ30 : ∀ (ls : Array Slot) (H : Heap) (locs : List Loc), lv_has ls 9 [(0, .ref (ra G o0)), (1, .int x1), (3, .ref (ra G o3))] → HW G h s H locs → WZ p l e 1 s m args below meth c G (some (.int r)) h' H locs (F0 m 30 ls [.int (if (x2 - x1) ≤ 0 then (-1 : Int32) else (1 : Int32))]) := by
      intro ls H locs hl hw
      obtain ⟨v30, hqv30, hf⟩ := tb_ex hf
      refine z_top hqv30 ?_
      refine lv_istore (lv' := [(6, _), (0, _), (1, _), (3, _)]) hx hb dX1_jump_30 hl (by decide) rfl (fun ls hl => ?_)
      subst hf
      exact HJ32 ls H locs (lv_sub hl [1, 2, 3, 0] rfl) hw
    refine lv_if_le (tgt := 29) hx hb dX1_jump_22 (by decide) (fun c22 => ?_) (fun c22 => ?_)
    · skip
      refine lv_iconst (v := (-1 : Int32)) hx hb dX1_jump_29 (by decide) ?_
      refine W.eq (g2 := F0 m 30 ls [.int (if (x2 - x1) ≤ 0 then (-1 : Int32) else (1 : Int32))]) ?_ (HJ30 ls H locs (lv_sub hl [2, 3, 5] rfl) hw)
      simp only [if_pos c22]
    · skip
      refine lv_iconst (v := (1 : Int32)) hx hb dX1_jump_25 (by decide) ?_
      refine lv_goto (tgt := 30) hx hb dX1_jump_26 (by decide) ?_
      refine W.eq (g2 := F0 m 30 ls [.int (if (x2 - x1) ≤ 0 then (-1 : Int32) else (1 : Int32))]) ?_ (HJ30 ls H locs (lv_sub hl [2, 3, 5] rfl) hw)
      simp only [if_neg c22]
set_option maxHeartbeats 4000000 in
set_option maxRecDepth 100000 in
theorem w_X1_goTo_L20 (G : GM) (l : Launch) (hN : 70 ≤ gN G) (o0 : Nat) (k_o0 : kd o0 = 0) (n_o0 : o0 < gN G) (o2 : Nat) (k_o2 : kd o2 = 4) (n_o2 : o2 < gN G) {p : Program} {e : Env} {s : State} {m : MethodId} {args : Array Value} {below : List Frame} {meth : Method} {c : Code} (hx : p.tables.exec = Jvm.exec) (hb : c.code = cX1_goTo) (hr : meth.sig.returnType = none) (hlk : meth.locks = false) (hml : c.maxLocals = 8) (Z : ZK G s args m RX1) : ∀ (n : Nat) (x3 : Int32) (x4 : Int32) (x5 : Int32) (x6 : Int32)  (h : HP) (v1 : Int32) (rv : Option Value) (hq : HP) (ls : Array Slot) (H : Heap) (locs : List Loc) {q : HP}, lv_has ls 8 [(0, .ref (ra G o0)), (1, .int v1), (2, .ref (ra G o2)), (3, .int x3), (4, .int x4), (5, .int x5), (6, .int x6)] → HW G h s H locs → f_X1_goTo_L20 n o0 o2 x3 x4 x5 x6 h = some q → (∀ (ls : Array Slot) (H : Heap) (locs : List Loc), lv_has ls 8 [(0, .ref (ra G o0)), (1, .int v1), (2, .ref (ra G o2)), (4, .int x4)] → HW G q s H locs → WZ p l e 2 s m args below meth c G rv hq H locs (F0 m 52 ls [])) → WZ p l e 2 s m args below meth c G rv hq H locs (F0 m 20 ls []) := by
  intro n
  induction n with
  | zero => intro x3 x4 x5 x6  h v1 rv hq ls H locs q hl hw hf kk; cases hf
  | succ n ih =>
    intro x3 x4 x5 x6  h v1 rv hq ls H locs q hl hw hf kk
    rw [f_X1_goTo_L20] at hf
    refine lv_iload hx hb dX1_goTo_20 (lv_at hl 6 rfl) ?_
    refine lv_ldc (v := (100000 : Int32)) hx hb Z.2.1 (Z.1 _ wd554) dX1_goTo_22 ?_
    refine lv_icmp_ge (tgt := 52) hx hb dX1_goTo_24 (by decide) (fun c24 => ?_) (fun c24 => ?_)
    · have hf := (if_pos c24).symm.trans hf
      obtain rfl := Option.some.inj hf
      exact kk ls H locs (lv_sub hl [0, 1, 2, 4] rfl) hw
    · have hf := (if_neg c24).symm.trans hf
      refine lv_iload hx hb dX1_goTo_27 (lv_at hl 5 rfl) ?_
      refine lv_iload hx hb dX1_goTo_29 (lv_at hl 4 rfl) ?_
      refine lv_icmp_eq (tgt := 52) hx hb dX1_goTo_31 (by decide) (fun c31 => ?_) (fun c31 => ?_)
      · have hf := (if_pos c31).symm.trans hf
        obtain rfl := Option.some.inj hf
        exact kk ls H locs (lv_sub hl [0, 1, 2, 4] rfl) hw
      · have hf := (if_neg c31).symm.trans hf
        refine lv_aload_n hx hb dX1_goTo_34 rfl (lv_at hl 0 rfl) ?_
        refine lv_iload hx hb dX1_goTo_35 (lv_at hl 5 rfl) ?_
        refine lv_iload hx hb dX1_goTo_37 (lv_at hl 4 rfl) ?_
        refine lv_aload_n hx hb dX1_goTo_39 rfl (lv_at hl 2 rfl) ?_
        refine lv_iload_n hx hb dX1_goTo_40 rfl (lv_at hl 3 rfl) ?_
        obtain ⟨q41, hq41, hf⟩ := tb_ex hf
        refine z_callVi (o := o0) (ci := 0) (As := [.int x5, .int x4, .ref (ra G o2), .int x3]) (rest := []) (t_X1_jump G l hN o0 k_o0 n_o0 x5 x4 o2 k_o2 n_o2 x3 h hq41) cv_X1_jump hx hb hml hl.1 Z hw k_o0 (by decide) n_o0 rfl rfl wd588 rfl rfl (Nat.le_of_ble_eq_true rfl) (by decide) dX1_goTo_41 (fun H locs hw => ?_)
        refine lv_istore (lv' := [(5, _), (0, _), (1, _), (2, _), (3, _), (4, _), (6, _)]) hx hb dX1_goTo_44 hl (by decide) rfl (fun ls hl => ?_)
        refine lv_iinc (v := x6 + (1 : Int32)) (lv' := [(6, _), (5, _), (0, _), (1, _), (2, _), (3, _), (4, _)]) hx hb dX1_goTo_46 hl (k := 6) rfl rfl (by decide) rfl (fun ls hl => ?_)
        refine lv_goto (tgt := 20) hx hb dX1_goTo_49 (by decide) ?_
        exact ih x3 x4 q41.1 (x6 + (1 : Int32)) q41.2 v1 rv hq ls H locs (lv_sub hl [2, 3, 4, 5, 6, 1, 0] rfl) hw hf kk
set_option maxHeartbeats 4000000 in
set_option maxRecDepth 100000 in
theorem w_X1_goTo_L63 (G : GM) (l : Launch) (hN : 70 ≤ gN G) (o0 : Nat) (k_o0 : kd o0 = 0) (n_o0 : o0 < gN G) (o2 : Nat) (k_o2 : kd o2 = 4) (n_o2 : o2 < gN G) {p : Program} {e : Env} {s : State} {m : MethodId} {args : Array Value} {below : List Frame} {meth : Method} {c : Code} (hx : p.tables.exec = Jvm.exec) (hb : c.code = cX1_goTo) (hr : meth.sig.returnType = none) (hlk : meth.locks = false) (hml : c.maxLocals = 8) (Z : ZK G s args m RX1) : ∀ (n : Nat) (x6 : Int32) (x7 : Int32)  (h : HP) (v1 : Int32) (v4 : Int32) (rv : Option Value) (hq : HP) (ls : Array Slot) (H : Heap) (locs : List Loc) {q : HP}, lv_has ls 8 [(0, .ref (ra G o0)), (1, .int v1), (2, .ref (ra G o2)), (4, .int v4), (6, .int x6), (7, .int x7)] → HW G h s H locs → f_X1_goTo_L63 n o0 o2 x6 x7 h = some q → (∀ (ls : Array Slot) (H : Heap) (locs : List Loc), lv_has ls 8 [(0, .ref (ra G o0)), (1, .int v1), (2, .ref (ra G o2)), (4, .int v4), (6, .int x6)] → HW G q s H locs → WZ p l e 2 s m args below meth c G rv hq H locs (F0 m 94 ls [])) → WZ p l e 2 s m args below meth c G rv hq H locs (F0 m 63 ls []) := by
  intro n
  induction n with
  | zero => intro x6 x7  h v1 v4 rv hq ls H locs q hl hw hf kk; cases hf
  | succ n ih =>
    intro x6 x7  h v1 v4 rv hq ls H locs q hl hw hf kk
    rw [f_X1_goTo_L63] at hf
    refine lv_iload hx hb dX1_goTo_63 (lv_at hl 5 rfl) ?_
    refine lv_ldc (v := (100000 : Int32)) hx hb Z.2.1 (Z.1 _ wd554) dX1_goTo_65 ?_
    refine lv_icmp_ge (tgt := 94) hx hb dX1_goTo_67 (by decide) (fun c67 => ?_) (fun c67 => ?_)
    · have hf := (if_pos c67).symm.trans hf
      obtain rfl := Option.some.inj hf
      exact kk ls H locs (lv_sub hl [0, 1, 2, 3, 4] rfl) hw
    · have hf := (if_neg c67).symm.trans hf
      refine lv_aload_n hx hb dX1_goTo_70 rfl (lv_at hl 0 rfl) ?_
      refine lv_iload hx hb dX1_goTo_71 (lv_at hl 4 rfl) ?_
      refine lv_aload_n hx hb dX1_goTo_73 rfl (lv_at hl 2 rfl) ?_
      refine z_callVi (o := o0) (ci := 0) (As := [.int x6, .ref (ra G o2)]) (rest := []) (t_X1_isNear G l hN o0 k_o0 n_o0 x6 o2 k_o2 n_o2 h) cv_X1_isNear hx hb hml hl.1 Z hw k_o0 (by decide) n_o0 rfl rfl wd565 rfl rfl (Nat.le_of_ble_eq_true rfl) (by decide) dX1_goTo_74 (fun H locs hw => ?_)
      refine lv_if_ne (tgt := 94) hx hb dX1_goTo_77 (by decide) (fun c77 => ?_) (fun c77 => ?_)
      · have hf := (if_neg c77).symm.trans hf
        obtain rfl := Option.some.inj hf
        exact kk ls H locs (lv_sub hl [0, 1, 2, 3, 4] rfl) hw
      · have hf := (if_pos c77).symm.trans hf
        refine lv_aload_n hx hb dX1_goTo_80 rfl (lv_at hl 0 rfl) ?_
        refine lv_iconst (v := (1 : Int32)) hx hb dX1_goTo_81 (by decide) ?_
        refine lv_iload hx hb dX1_goTo_82 (lv_at hl 4 rfl) ?_
        refine lv_aload_n hx hb dX1_goTo_84 rfl (lv_at hl 2 rfl) ?_
        obtain ⟨q85, hq85, hf⟩ := tb_ex hf
        refine z_callVv (o := o0) (ci := 0) (As := [.int (1 : Int32), .int x6, .ref (ra G o2)]) (rest := []) (t_X1_spin G l hN o0 k_o0 n_o0 (1 : Int32) x6 o2 k_o2 n_o2 h hq85) cv_X1_spin hx hb hml hl.1 Z hw k_o0 (by decide) n_o0 rfl rfl wd559 rfl rfl (Nat.le_of_ble_eq_true rfl) (by decide) dX1_goTo_85 (fun H locs hw => ?_)
        refine lv_iinc (v := x7 + (1 : Int32)) (lv' := [(7, _), (0, _), (1, _), (2, _), (4, _), (6, _)]) hx hb dX1_goTo_88 hl (k := 5) rfl rfl (by decide) rfl (fun ls hl => ?_)
        refine lv_goto (tgt := 63) hx hb dX1_goTo_91 (by decide) ?_
        exact ih x6 (x7 + (1 : Int32)) q85 v1 v4 rv hq ls H locs (lv_sub hl [1, 2, 3, 4, 5, 0] rfl) hw hf kk
set_option maxHeartbeats 4000000 in
set_option maxRecDepth 100000 in
theorem t_X1_goTo (G : GM) (l : Launch) (hN : 70 ≤ gN G) (o0 : Nat) (k_o0 : kd o0 = 0) (n_o0 : o0 < gN G) (x1 : Int32) (o2 : Nat) (k_o2 : kd o2 = 4) (n_o2 : o2 < gN G) (x3 : Int32) (h : HP) {h' : HP} (hf : f_X1_goTo o0 x1 o2 x3 h = some h') : MC G l yX1_goTo cX1_goTo 8 none 2 [.ref (ra G o0), .int x1, .ref (ra G o2), .int x3] h h' none := by
  unfold f_X1_goTo at hf
  refine z_start (by decide) (Nat.le_of_ble_eq_true rfl) ?_
  intro p e s m args below meth c ls hx hb hr hlk hml Z hw hl
  have Z : ZK G s args m RX1 := Z
  have hl : lv_has ls 8 [(0, .ref (ra G o0)), (1, .int x1), (2, .ref (ra G o2)), (3, .int x3)] := hl
  obtain ⟨H, hH⟩ : ∃ H, H = s.heap := ⟨_, rfl⟩
  rw [← hH] at hw ⊢
  obtain ⟨locs, hlc⟩ : ∃ locs : List Loc, locs = [] := ⟨_, rfl⟩
  rw [← hlc] at hw ⊢
  refine lv_aload_n hx hb dX1_goTo_0 rfl (lv_at hl 2 rfl) ?_
  refine lv_iload_n hx hb dX1_goTo_1 rfl (lv_at hl 1 rfl) ?_
  obtain ⟨q2, hq2, hf⟩ := ob_some hf
  refine z_callVi (o := o2) (ci := 4) (As := [.int x1]) (rest := []) (t_X5_turnOf G l hN o2 k_o2 n_o2 x1 h hq2) cv_X5_turnOf hx hb hml hl.1 Z hw k_o2 (by decide) n_o2 rfl rfl wd555 rfl rfl (Nat.le_of_ble_eq_true rfl) (by decide) dX1_goTo_2 (fun H locs hw => ?_)
  refine lv_istore (lv' := [(4, _), (0, _), (1, _), (2, _), (3, _)]) hx hb dX1_goTo_5 hl (by decide) rfl (fun ls hl => ?_)
  refine lv_aload_n hx hb dX1_goTo_7 rfl (lv_at hl 3 rfl) ?_
  refine lv_aload_n hx hb dX1_goTo_8 rfl (lv_at hl 1 rfl) ?_
  refine z_geti (o := o0) (C := RX1) (T := TX1) (N := 6) (ci := 0) (k := 0) hx hb Z hw k_o0 n_o0 rfl inX1 (by decide) wd172 dX1_goTo_9 ?_
  obtain ⟨q12, hq12, hf⟩ := ob_some hf
  refine z_callVi (o := o2) (ci := 4) (As := [.int (h o0 0)]) (rest := []) (t_X5_turnOf G l hN o2 k_o2 n_o2 (h o0 0) h hq12) cv_X5_turnOf hx hb hml hl.1 Z hw k_o2 (by decide) n_o2 rfl rfl wd555 rfl rfl (Nat.le_of_ble_eq_true rfl) (by decide) dX1_goTo_12 (fun H locs hw => ?_)
  refine lv_istore (lv' := [(5, _), (4, _), (0, _), (1, _), (2, _), (3, _)]) hx hb dX1_goTo_15 hl (by decide) rfl (fun ls hl => ?_)
  refine lv_iconst (v := (0 : Int32)) hx hb dX1_goTo_17 (by decide) ?_
  refine lv_istore (lv' := [(6, _), (5, _), (4, _), (0, _), (1, _), (2, _), (3, _)]) hx hb dX1_goTo_18 hl (by decide) rfl (fun ls hl => ?_)
  obtain ⟨q20, hq20, hf⟩ := ob_some hf
  refine w_X1_goTo_L20 G l hN o0 k_o0 n_o0 o2 k_o2 n_o2 hx hb hr hlk hml Z FU x3 q2 q12 (0 : Int32) h x1 _ _ ls H locs (lv_sub hl [3, 4, 5, 6, 2, 1, 0] rfl) hw hq20 (fun ls H locs hl hw => ?_)
  refine lv_aload_n hx hb dX1_goTo_52 rfl (lv_at hl 2 rfl) ?_
  refine lv_iload hx hb dX1_goTo_53 (lv_at hl 3 rfl) ?_
  refine z_callVi (o := o2) (ci := 4) (As := [.int q2]) (rest := []) (t_X5_framesOf G l hN o2 k_o2 n_o2 q2 q20) cv_X5_framesOf hx hb hml hl.1 Z hw k_o2 (by decide) n_o2 rfl rfl wd539 rfl rfl (Nat.le_of_ble_eq_true rfl) (by decide) dX1_goTo_55 (fun H locs hw => ?_)
  refine lv_istore (lv' := [(6, _), (0, _), (1, _), (2, _), (4, _)]) hx hb dX1_goTo_58 hl (by decide) rfl (fun ls hl => ?_)
  refine lv_iconst (v := (0 : Int32)) hx hb dX1_goTo_60 (by decide) ?_
  refine lv_istore (lv' := [(7, _), (6, _), (0, _), (1, _), (2, _), (4, _)]) hx hb dX1_goTo_61 hl (by decide) rfl (fun ls hl => ?_)
  obtain ⟨q63, hq63, hf⟩ := ob_some hf
  refine w_X1_goTo_L63 G l hN o0 k_o0 n_o0 o2 k_o2 n_o2 hx hb hr hlk hml Z FU (f_X5_framesOf o2 q2 q20) (0 : Int32) q20 x1 q2 _ _ ls H locs (lv_sub hl [2, 3, 4, 5, 1, 0] rfl) hw hq63 (fun ls H locs hl hw => ?_)
  refine lv_aload_n hx hb dX1_goTo_94 rfl (lv_at hl 2 rfl) ?_
  refine lv_iload hx hb dX1_goTo_95 (lv_at hl 3 rfl) ?_
  refine z_callVi (o := o2) (ci := 4) (As := [.int q2]) (rest := []) (t_X5_firstOf G l hN o2 k_o2 n_o2 q2 q63) cv_X5_firstOf hx hb hml hl.1 Z hw k_o2 (by decide) n_o2 rfl rfl wd592 rfl rfl (Nat.le_of_ble_eq_true rfl) (by decide) dX1_goTo_97 (fun H locs hw => ?_)
  refine lv_istore (lv' := [(7, _), (0, _), (1, _), (2, _), (4, _), (6, _)]) hx hb dX1_goTo_100 hl (by decide) rfl (fun ls hl => ?_)
  refine lv_aload_n hx hb dX1_goTo_102 rfl (lv_at hl 1 rfl) ?_
  refine z_geti (o := o0) (C := RX1) (T := TX1) (N := 6) (ci := 0) (k := 0) hx hb Z hw k_o0 n_o0 rfl inX1 (by decide) wd172 dX1_goTo_103 ?_
  refine lv_iload_n hx hb dX1_goTo_106 rfl (lv_at hl 2 rfl) ?_
  obtain ⟨j107, hqj107, hf⟩ := tb_ex hf
  have HJ135 : ∀ (ls : Array Slot) (H : Heap) (locs : List Loc), lv_has ls 8 [(0, .ref (ra G o0)), (1, .int x1)] → HW G j107 s H locs → WZ p l e 2 s m args below meth c G none h' H locs (F0 m 135 ls []) := by
    intro ls H locs hl hw
    refine lv_aload_n hx hb dX1_goTo_135 rfl (lv_at hl 0 rfl) ?_
    refine lv_dup hx hb dX1_goTo_136 rfl ?_
    refine z_geti (o := o0) (C := RX1) (T := TX1) (N := 6) (ci := 0) (k := 2) hx hb Z hw k_o0 n_o0 rfl inX1 (by decide) wd176 dX1_goTo_137 ?_
    refine lv_iload_n hx hb dX1_goTo_140 rfl (lv_at hl 1 rfl) ?_
    refine lv_aload_n hx hb dX1_goTo_141 rfl (lv_at hl 0 rfl) ?_
    refine z_geti (o := o0) (C := RX1) (T := TX1) (N := 6) (ci := 0) (k := 0) hx hb Z hw k_o0 n_o0 rfl inX1 (by decide) wd172 dX1_goTo_142 ?_
    refine lv_isub hx hb dX1_goTo_145 ?_
    refine lv_iadd hx hb dX1_goTo_146 ?_
    refine z_puti (o := o0) (v := (j107 o0 2) + (x1 - (j107 o0 0))) (ty := .int) (C := RX1) (T := TX1) (N := 6) (ci := 0) (k := 2) hx hb Z hw k_o0 n_o0 rfl inX1 tyX1 tyX1_ok nmX1 (by decide) wd176 rfl (by decide +kernel) rfl rfl dX1_goTo_147 (fun H locs hw => ?_)
    refine lv_aload_n hx hb dX1_goTo_150 rfl (lv_at hl 0 rfl) ?_
    refine lv_iload_n hx hb dX1_goTo_151 rfl (lv_at hl 1 rfl) ?_
    obtain ⟨h152, hqh152, hf⟩ := tb_ex hf
    rw [hqh152] at hw
    refine z_puti (o := o0) (v := x1) (ty := .int) (C := RX1) (T := TX1) (N := 6) (ci := 0) (k := 0) hx hb Z hw k_o0 n_o0 rfl inX1 tyX1 tyX1_ok nmX1 (by decide) wd172 rfl (by decide +kernel) rfl rfl dX1_goTo_152 (fun H locs hw => ?_)
    obtain rfl := Option.some.inj hf
    exact z_vret hx hb hr hlk hw dX1_goTo_155
  have hf := hqj107
  refine lv_icmp_le (tgt := 135) hx hb dX1_goTo_107 (by decide) (fun c107 => ?_) (fun c107 => ?_)
  · have hf := (if_pos c107).symm.trans hf
    subst hf
    exact HJ135 ls H locs (lv_sub hl [1, 2] rfl) hw
  · have hf := (if_neg c107).symm.trans hf
    refine lv_aload_n hx hb dX1_goTo_110 rfl (lv_at hl 1 rfl) ?_
    refine lv_dup hx hb dX1_goTo_111 rfl ?_
    refine z_geti (o := o0) (C := RX1) (T := TX1) (N := 6) (ci := 0) (k := 2) hx hb Z hw k_o0 n_o0 rfl inX1 (by decide) wd176 dX1_goTo_112 ?_
    refine lv_iload hx hb dX1_goTo_115 (lv_at hl 0 rfl) ?_
    refine lv_iload hx hb dX1_goTo_117 (lv_at hl 5 rfl) ?_
    refine lv_iadd hx hb dX1_goTo_119 ?_
    refine lv_aload_n hx hb dX1_goTo_120 rfl (lv_at hl 1 rfl) ?_
    refine z_geti (o := o0) (C := RX1) (T := TX1) (N := 6) (ci := 0) (k := 0) hx hb Z hw k_o0 n_o0 rfl inX1 (by decide) wd172 dX1_goTo_121 ?_
    refine lv_isub hx hb dX1_goTo_124 ?_
    refine lv_iadd hx hb dX1_goTo_125 ?_
    refine z_puti (o := o0) (v := (q63 o0 2) + (((f_X5_firstOf o2 q2 q63) + (f_X5_framesOf o2 q2 q20)) - (q63 o0 0))) (ty := .int) (C := RX1) (T := TX1) (N := 6) (ci := 0) (k := 2) hx hb Z hw k_o0 n_o0 rfl inX1 tyX1 tyX1_ok nmX1 (by decide) wd176 rfl (by decide +kernel) rfl rfl dX1_goTo_126 (fun H locs hw => ?_)
    refine lv_aload_n hx hb dX1_goTo_129 rfl (lv_at hl 1 rfl) ?_
    refine lv_iload hx hb dX1_goTo_130 (lv_at hl 0 rfl) ?_
    obtain ⟨h132, hqh132, hf⟩ := tb_ex hf
    rw [hqh132] at hw
    refine z_puti (o := o0) (v := f_X5_firstOf o2 q2 q63) (ty := .int) (C := RX1) (T := TX1) (N := 6) (ci := 0) (k := 0) hx hb Z hw k_o0 n_o0 rfl inX1 tyX1 tyX1_ok nmX1 (by decide) wd172 rfl (by decide +kernel) rfl rfl dX1_goTo_132 (fun H locs hw => ?_)
    subst hf
    exact HJ135 ls H locs (lv_sub hl [1, 2] rfl) hw
set_option maxHeartbeats 4000000 in
set_option maxRecDepth 100000 in
theorem t_X10_seekFrame (G : GM) (l : Launch) (hN : 70 ≤ gN G) (x1 : Int32) (h : HP) {r : Int32} {h' : HP} (hf : f_X10_seekFrame x1 h = some (r, h')) : MC G l yX10_seekFrame cX10_seekFrame 3 (some .int) 3 [.ref (ra G 0), .int x1] h h' (some (.int r)) := by
  unfold f_X10_seekFrame at hf
  refine z_start (by decide) (Nat.le_of_ble_eq_true rfl) ?_
  intro p e s m args below meth c ls hx hb hr hlk hml Z hw hl
  have Z : ZK G s args m RX10 := Z
  have hl : lv_has ls 3 [(0, .ref (ra G 0)), (1, .int x1)] := hl
  obtain ⟨H, hH⟩ : ∃ H, H = s.heap := ⟨_, rfl⟩
  rw [← hH] at hw ⊢
  obtain ⟨locs, hlc⟩ : ∃ locs : List Loc, locs = [] := ⟨_, rfl⟩
  rw [← hlc] at hw ⊢
  refine lv_aload_n hx hb dX10_seekFrame_0 rfl (lv_at hl 0 rfl) ?_
  refine z_getr (o := 0) (o2 := 1) (C := RX10) (T := TX10) (N := 8) (ci := 8) (k := 0) hx hb Z hw (by decide) (by omega) rfl inX10 (by decide) rfl wd288 dX10_seekFrame_1 ?_
  refine z_getr (o := 1) (o2 := 2) (C := RX6) (T := TX6) (N := 4) (ci := 5) (k := 0) hx hb Z hw (by decide) (by omega) rfl inX6 (by decide) rfl wd199 dX10_seekFrame_4 ?_
  refine lv_iload_n hx hb dX10_seekFrame_7 rfl (lv_at hl 1 rfl) ?_
  refine z_callVi (o := 2) (ci := 4) (As := [.int x1]) (rest := []) (t_X5_hasFrame G l hN 2 (by decide) (by omega) x1 h) cv_X5_hasFrame hx hb hml hl.1 Z hw (by decide) (by decide) (by omega) rfl rfl wd345 rfl rfl (Nat.le_of_ble_eq_true rfl) (by decide) dX10_seekFrame_8 (fun H locs hw => ?_)
  refine lv_if_ne (tgt := 16) hx hb dX10_seekFrame_11 (by decide) (fun c11 => ?_) (fun c11 => ?_)
  · have hf := (if_neg c11).symm.trans hf
    refine lv_aload_n hx hb dX10_seekFrame_16 rfl (lv_at hl 0 rfl) ?_
    refine z_getr (o := 0) (o2 := 1) (C := RX10) (T := TX10) (N := 8) (ci := 8) (k := 0) hx hb Z hw (by decide) (by omega) rfl inX10 (by decide) rfl wd288 dX10_seekFrame_17 ?_
    refine z_getr (o := 1) (o2 := 8) (C := RX6) (T := TX6) (N := 4) (ci := 5) (k := 3) hx hb Z hw (by decide) (by omega) rfl inX6 (by decide) rfl wd206 dX10_seekFrame_20 ?_
    refine z_geti (o := 8) (C := RX1) (T := TX1) (N := 6) (ci := 0) (k := 2) hx hb Z hw (by decide) (by omega) rfl inX1 (by decide) wd177 dX10_seekFrame_23 ?_
    refine lv_istore_n (lv' := [(2, _), (0, _), (1, _)]) hx hb dX10_seekFrame_26 rfl hl (by decide) rfl (fun ls hl => ?_)
    refine lv_aload_n hx hb dX10_seekFrame_27 rfl (lv_at hl 1 rfl) ?_
    refine z_getr (o := 0) (o2 := 1) (C := RX10) (T := TX10) (N := 8) (ci := 8) (k := 0) hx hb Z hw (by decide) (by omega) rfl inX10 (by decide) rfl wd288 dX10_seekFrame_28 ?_
    refine z_getr (o := 1) (o2 := 8) (C := RX6) (T := TX6) (N := 4) (ci := 5) (k := 3) hx hb Z hw (by decide) (by omega) rfl inX6 (by decide) rfl wd206 dX10_seekFrame_31 ?_
    refine lv_iload_n hx hb dX10_seekFrame_34 rfl (lv_at hl 2 rfl) ?_
    refine lv_aload_n hx hb dX10_seekFrame_35 rfl (lv_at hl 1 rfl) ?_
    refine z_getr (o := 0) (o2 := 1) (C := RX10) (T := TX10) (N := 8) (ci := 8) (k := 0) hx hb Z hw (by decide) (by omega) rfl inX10 (by decide) rfl wd288 dX10_seekFrame_36 ?_
    refine z_getr (o := 1) (o2 := 2) (C := RX6) (T := TX6) (N := 4) (ci := 5) (k := 0) hx hb Z hw (by decide) (by omega) rfl inX6 (by decide) rfl wd199 dX10_seekFrame_39 ?_
    refine lv_aload_n hx hb dX10_seekFrame_42 rfl (lv_at hl 1 rfl) ?_
    refine z_getr (o := 0) (o2 := 1) (C := RX10) (T := TX10) (N := 8) (ci := 8) (k := 0) hx hb Z hw (by decide) (by omega) rfl inX10 (by decide) rfl wd288 dX10_seekFrame_43 ?_
    refine z_getr (o := 1) (o2 := 2) (C := RX6) (T := TX6) (N := 4) (ci := 5) (k := 0) hx hb Z hw (by decide) (by omega) rfl inX6 (by decide) rfl wd199 dX10_seekFrame_46 ?_
    refine z_geti (o := 2) (C := RX5) (T := TX5) (N := 6) (ci := 4) (k := 4) hx hb Z hw (by decide) (by omega) rfl inX5 (by decide) wd117 dX10_seekFrame_49 ?_
    obtain ⟨q52, hq52, hf⟩ := ob_some hf
    refine z_callVv (o := 8) (ci := 0) (As := [.int x1, .ref (ra G 2), .int (h 2 4)]) (rest := []) (t_X1_goTo G l hN 8 (by decide) (by omega) x1 2 (by decide) (by omega) (h 2 4) h hq52) cv_X1_goTo hx hb hml hl.1 Z hw (by decide) (by decide) (by omega) rfl rfl wd584 rfl rfl (Nat.le_of_ble_eq_true rfl) (by decide) dX10_seekFrame_52 (fun H locs hw => ?_)
    refine lv_aload_n hx hb dX10_seekFrame_55 rfl (lv_at hl 1 rfl) ?_
    refine z_getr (o := 0) (o2 := 1) (C := RX10) (T := TX10) (N := 8) (ci := 8) (k := 0) hx hb Z hw (by decide) (by omega) rfl inX10 (by decide) rfl wd288 dX10_seekFrame_56 ?_
    refine z_getr (o := 1) (o2 := 8) (C := RX6) (T := TX6) (N := 4) (ci := 5) (k := 3) hx hb Z hw (by decide) (by omega) rfl inX6 (by decide) rfl wd206 dX10_seekFrame_59 ?_
    refine z_geti (o := 8) (C := RX1) (T := TX1) (N := 6) (ci := 0) (k := 2) hx hb Z hw (by decide) (by omega) rfl inX1 (by decide) wd177 dX10_seekFrame_62 ?_
    refine lv_iload_n hx hb dX10_seekFrame_65 rfl (lv_at hl 0 rfl) ?_
    refine lv_isub hx hb dX10_seekFrame_66 ?_
    obtain ⟨rfl, rfl⟩ := Prod.mk.inj (Option.some.inj hf)
    exact z_iret hx hb hr hlk hw dX10_seekFrame_67
  · have hf := (if_pos c11).symm.trans hf
    refine lv_iconst (v := (-1 : Int32)) hx hb dX10_seekFrame_14 (by decide) ?_
    obtain ⟨rfl, rfl⟩ := Prod.mk.inj (Option.some.inj hf)
    exact z_iret hx hb hr hlk hw dX10_seekFrame_15
set_option maxHeartbeats 4000000 in
set_option maxRecDepth 100000 in
theorem t_X10_seek (G : GM) (l : Launch) (hN : 70 ≤ gN G) (x1 : Int32) (h : HP) {r : Int32} {h' : HP} (hf : f_X10_seek x1 h = some (r, h')) : MC G l yX10_seek cX10_seek 2 (some .int) 4 [.ref (ra G 0), .int x1] h h' (some (.int r)) := by
  unfold f_X10_seek at hf
  refine z_start (by decide) (Nat.le_of_ble_eq_true rfl) ?_
  intro p e s m args below meth c ls hx hb hr hlk hml Z hw hl
  have Z : ZK G s args m RX10 := Z
  have hl : lv_has ls 2 [(0, .ref (ra G 0)), (1, .int x1)] := hl
  obtain ⟨H, hH⟩ : ∃ H, H = s.heap := ⟨_, rfl⟩
  rw [← hH] at hw ⊢
  obtain ⟨locs, hlc⟩ : ∃ locs : List Loc, locs = [] := ⟨_, rfl⟩
  rw [← hlc] at hw ⊢
  refine lv_aload_n hx hb dX10_seek_0 rfl (lv_at hl 0 rfl) ?_
  refine z_getr (o := 0) (o2 := 9) (C := RX10) (T := TX10) (N := 8) (ci := 8) (k := 1) hx hb Z hw (by decide) (by omega) rfl inX10 (by decide) rfl wd289 dX10_seek_1 ?_
  refine lv_aload_n hx hb dX10_seek_4 rfl (lv_at hl 0 rfl) ?_
  refine z_getr (o := 0) (o2 := 1) (C := RX10) (T := TX10) (N := 8) (ci := 8) (k := 0) hx hb Z hw (by decide) (by omega) rfl inX10 (by decide) rfl wd288 dX10_seek_5 ?_
  obtain ⟨q8, hq8, hf⟩ := tb_ex hf
  refine z_callVv (o := 9) (ci := 5) (As := [.ref (ra G 1)]) (rest := []) (t_X6_copyFrom G l hN 9 (by decide) (by omega) 1 (by decide) (by omega) h hq8) cv_X6_copyFrom hx hb hml hl.1 Z hw (by decide) (by decide) (by omega) rfl rfl wd317 rfl rfl (Nat.le_of_ble_eq_true rfl) (by decide) dX10_seek_8 (fun H locs hw => ?_)
  refine lv_aload_n hx hb dX10_seek_11 rfl (lv_at hl 0 rfl) ?_
  refine lv_aload_n hx hb dX10_seek_12 rfl (lv_at hl 0 rfl) ?_
  refine lv_iload_n hx hb dX10_seek_13 rfl (lv_at hl 1 rfl) ?_
  obtain ⟨q14, hq14, hf⟩ := ob_some hf
  refine z_callVi (o := 0) (ci := 8) (As := [.int x1]) (rest := [.ref (ra G 0)]) (t_X10_seekFrame G l hN x1 q8 hq14) cv_X10_seekFrame hx hb hml hl.1 Z hw (by decide) (by decide) (by omega) rfl rfl wd580 rfl rfl (Nat.le_of_ble_eq_true rfl) (by decide) dX10_seek_14 (fun H locs hw => ?_)
  obtain ⟨q17, hq17, hf⟩ := ob_some hf
  refine z_callVi (o := 0) (ci := 8) (As := [.int q14.1]) (rest := []) (t_X10_recorded G l hN q14.1 q14.2 hq17) cv_X10_recorded hx hb hml hl.1 Z hw (by decide) (by decide) (by omega) rfl rfl wd393 rfl rfl (Nat.le_of_ble_eq_true rfl) (by decide) dX10_seek_17 (fun H locs hw => ?_)
  obtain ⟨rfl, rfl⟩ := Prod.mk.inj (Option.some.inj hf)
  exact z_iret hx hb hr hlk hw dX10_seek_20
set_option maxHeartbeats 4000000 in
set_option maxRecDepth 100000 in
theorem t_X3_append (G : GM) (l : Launch) (hN : 70 ≤ gN G) (x1 : Int32) (h : HP) {r : Int32} {h' : HP} (hf : f_X3_append x1 h = (r, h')) : MC G l yX3_append cX3_append 2 (some .boolean) 0 [.ref (ra G 59), .int x1] h h' (some (.int r)) := by
  unfold f_X3_append at hf
  refine z_start (by decide) (Nat.le_of_ble_eq_true rfl) ?_
  intro p e s m args below meth c ls hx hb hr hlk hml Z hw hl
  have Z : ZK G s args m RX3 := Z
  have hl : lv_has ls 2 [(0, .ref (ra G 59)), (1, .int x1)] := hl
  obtain ⟨H, hH⟩ : ∃ H, H = s.heap := ⟨_, rfl⟩
  rw [← hH] at hw ⊢
  obtain ⟨locs, hlc⟩ : ∃ locs : List Loc, locs = [] := ⟨_, rfl⟩
  rw [← hlc] at hw ⊢
  refine lv_aload_n hx hb dX3_append_0 rfl (lv_at hl 0 rfl) ?_
  refine z_geti (o := 59) (C := RX3) (T := TX3) (N := 6) (ci := 2) (k := 1) hx hb Z hw (by decide) (by omega) rfl inX3 (by decide) wd242 dX3_append_1 ?_
  refine lv_if_lt (tgt := 19) hx hb dX3_append_4 (by decide) (fun c4 => ?_) (fun c4 => ?_)
  · have hf := (if_pos c4).symm.trans hf
    refine lv_iconst (v := (0 : Int32)) hx hb dX3_append_19 (by decide) ?_
    obtain ⟨rfl, rfl⟩ := Prod.mk.inj hf
    exact z_zret hx hb hr rfl hlk hw dX3_append_20
  · have hf := (if_neg c4).symm.trans hf
    refine lv_aload_n hx hb dX3_append_7 rfl (lv_at hl 0 rfl) ?_
    refine z_geti (o := 59) (C := RX3) (T := TX3) (N := 6) (ci := 2) (k := 1) hx hb Z hw (by decide) (by omega) rfl inX3 (by decide) wd242 dX3_append_8 ?_
    refine lv_aload_n hx hb dX3_append_11 rfl (lv_at hl 0 rfl) ?_
    refine z_getr (o := 59) (o2 := 60) (C := RX3) (T := TX3) (N := 6) (ci := 2) (k := 0) hx hb Z hw (by decide) (by omega) rfl inX3 (by decide) rfl wd241 dX3_append_12 ?_
    refine z_alen (o := 60) (v := (60 : Int32)) hx hb Z hw (by decide) (by omega) (by decide) dX3_append_15 ?_
    refine lv_icmp_lt (tgt := 21) hx hb dX3_append_16 (by decide) (fun c16 => ?_) (fun c16 => ?_)
    · have hf := (if_pos c16).symm.trans hf
      refine lv_aload_n hx hb dX3_append_21 rfl (lv_at hl 0 rfl) ?_
      refine z_getr (o := 59) (o2 := 60) (C := RX3) (T := TX3) (N := 6) (ci := 2) (k := 0) hx hb Z hw (by decide) (by omega) rfl inX3 (by decide) rfl wd241 dX3_append_22 ?_
      refine lv_aload_n hx hb dX3_append_25 rfl (lv_at hl 0 rfl) ?_
      refine z_geti (o := 59) (C := RX3) (T := TX3) (N := 6) (ci := 2) (k := 1) hx hb Z hw (by decide) (by omega) rfl inX3 (by decide) wd242 dX3_append_26 ?_
      refine lv_iload_n hx hb dX3_append_29 rfl (lv_at hl 1 rfl) ?_
      refine y_cast (o := 60) (k := (h 59 1).toNatClampNeg) hx hb Z hw (by decide) (by omega) rfl (inB_np c4 c16 (by decide)) dX3_append_30 (fun H locs hw => ?_)
      refine lv_aload_n hx hb dX3_append_31 rfl (lv_at hl 0 rfl) ?_
      refine lv_dup hx hb dX3_append_32 rfl ?_
      obtain ⟨h33, hqh33, hf⟩ := tb_ex hf
      rw [hqh33] at hw
      refine z_geti (o := 59) (C := RX3) (T := TX3) (N := 6) (ci := 2) (k := 1) hx hb Z hw (by decide) (by omega) rfl inX3 (by decide) wd242 dX3_append_33 ?_
      refine lv_iconst (v := (1 : Int32)) hx hb dX3_append_36 (by decide) ?_
      refine lv_iadd hx hb dX3_append_37 ?_
      refine z_puti (o := 59) (v := (h33 59 1) + (1 : Int32)) (ty := .int) (C := RX3) (T := TX3) (N := 6) (ci := 2) (k := 1) hx hb Z hw (by decide) (by omega) rfl inX3 tyX3 tyX3_ok nmX3 (by decide) wd242 rfl (by decide +kernel) rfl rfl dX3_append_38 (fun H locs hw => ?_)
      refine lv_iconst (v := (1 : Int32)) hx hb dX3_append_41 (by decide) ?_
      obtain ⟨rfl, rfl⟩ := Prod.mk.inj hf
      exact z_zret hx hb hr rfl hlk hw dX3_append_42
    · have hf := (if_neg c16).symm.trans hf
      refine lv_iconst (v := (0 : Int32)) hx hb dX3_append_19 (by decide) ?_
      obtain ⟨rfl, rfl⟩ := Prod.mk.inj hf
      exact z_zret hx hb hr rfl hlk hw dX3_append_20
set_option maxHeartbeats 4000000 in
set_option maxRecDepth 100000 in
theorem t_X10_type (G : GM) (l : Launch) (hN : 70 ≤ gN G) (x1 : Int32) (h : HP) {r : Int32} {h' : HP} (hf : f_X10_type x1 h = (r, h')) : MC G l yX10_type cX10_type 2 (some .int) 1 [.ref (ra G 0), .int x1] h h' (some (.int r)) := by
  unfold f_X10_type at hf
  refine z_start (by decide) (Nat.le_of_ble_eq_true rfl) ?_
  intro p e s m args below meth c ls hx hb hr hlk hml Z hw hl
  have Z : ZK G s args m RX10 := Z
  have hl : lv_has ls 2 [(0, .ref (ra G 0)), (1, .int x1)] := hl
  obtain ⟨H, hH⟩ : ∃ H, H = s.heap := ⟨_, rfl⟩
  rw [← hH] at hw ⊢
  obtain ⟨locs, hlc⟩ : ∃ locs : List Loc, locs = [] := ⟨_, rfl⟩
  rw [← hlc] at hw ⊢
  refine lv_aload_n hx hb dX10_type_0 rfl (lv_at hl 0 rfl) ?_
  refine z_getr (o := 0) (o2 := 59) (C := RX10) (T := TX10) (N := 8) (ci := 8) (k := 5) hx hb Z hw (by decide) (by omega) rfl inX10 (by decide) rfl wd293 dX10_type_1 ?_
  refine lv_iload_n hx hb dX10_type_4 rfl (lv_at hl 1 rfl) ?_
  obtain ⟨q5, hq5, hf⟩ := tb_ex hf
  refine z_callVi (o := 59) (ci := 2) (As := [.int x1]) (rest := []) (t_X3_append G l hN x1 h hq5) cv_X3_append hx hb hml hl.1 Z hw (by decide) (by decide) (by omega) rfl rfl wd597 rfl rfl (Nat.le_of_ble_eq_true rfl) (by decide) dX10_type_5 (fun H locs hw => ?_)
  refine lv_if_eq (tgt := 21) hx hb dX10_type_8 (by decide) (fun c8 => ?_) (fun c8 => ?_)
  · have hf := (if_pos c8).symm.trans hf
    refine lv_bipush (v := (-3 : Int32)) hx hb dX10_type_21 (by decide) ?_
    obtain ⟨rfl, rfl⟩ := Prod.mk.inj hf
    exact z_iret hx hb hr hlk hw dX10_type_23
  · have hf := (if_neg c8).symm.trans hf
    refine lv_aload_n hx hb dX10_type_11 rfl (lv_at hl 0 rfl) ?_
    refine z_getr (o := 0) (o2 := 59) (C := RX10) (T := TX10) (N := 8) (ci := 8) (k := 5) hx hb Z hw (by decide) (by omega) rfl inX10 (by decide) rfl wd293 dX10_type_12 ?_
    refine z_geti (o := 59) (C := RX3) (T := TX3) (N := 6) (ci := 2) (k := 1) hx hb Z hw (by decide) (by omega) rfl inX3 (by decide) wd243 dX10_type_15 ?_
    refine lv_goto (tgt := 23) hx hb dX10_type_18 (by decide) ?_
    obtain ⟨rfl, rfl⟩ := Prod.mk.inj hf
    exact z_iret hx hb hr hlk hw dX10_type_23
set_option maxHeartbeats 4000000 in
set_option maxRecDepth 100000 in
theorem t_X3_clear (G : GM) (l : Launch) (hN : 70 ≤ gN G)  (h : HP) {r : Int32} {h' : HP} (hf : f_X3_clear  h = (r, h')) : MC G l yX3_clear cX3_clear 2 (some .int) 0 [.ref (ra G 59)] h h' (some (.int r)) := by
  unfold f_X3_clear at hf
  refine z_start (by decide) (Nat.le_of_ble_eq_true rfl) ?_
  intro p e s m args below meth c ls hx hb hr hlk hml Z hw hl
  have Z : ZK G s args m RX3 := Z
  have hl : lv_has ls 2 [(0, .ref (ra G 59))] := hl
  obtain ⟨H, hH⟩ : ∃ H, H = s.heap := ⟨_, rfl⟩
  rw [← hH] at hw ⊢
  obtain ⟨locs, hlc⟩ : ∃ locs : List Loc, locs = [] := ⟨_, rfl⟩
  rw [← hlc] at hw ⊢
  refine lv_aload_n hx hb dX3_clear_0 rfl (lv_at hl 0 rfl) ?_
  refine z_geti (o := 59) (C := RX3) (T := TX3) (N := 6) (ci := 2) (k := 1) hx hb Z hw (by decide) (by omega) rfl inX3 (by decide) wd242 dX3_clear_1 ?_
  refine lv_istore_n (lv' := [(1, _), (0, _)]) hx hb dX3_clear_4 rfl hl (by decide) rfl (fun ls hl => ?_)
  refine lv_aload_n hx hb dX3_clear_5 rfl (lv_at hl 1 rfl) ?_
  refine lv_iconst (v := (0 : Int32)) hx hb dX3_clear_6 (by decide) ?_
  refine z_puti (o := 59) (v := (0 : Int32)) (ty := .int) (C := RX3) (T := TX3) (N := 6) (ci := 2) (k := 1) hx hb Z hw (by decide) (by omega) rfl inX3 tyX3 tyX3_ok nmX3 (by decide) wd242 rfl (by decide +kernel) rfl rfl dX3_clear_7 (fun H locs hw => ?_)
  refine lv_iload_n hx hb dX3_clear_10 rfl (lv_at hl 0 rfl) ?_
  obtain ⟨rfl, rfl⟩ := Prod.mk.inj hf
  exact z_iret hx hb hr hlk hw dX3_clear_11
set_option maxHeartbeats 4000000 in
set_option maxRecDepth 100000 in
theorem t_X10_clearText (G : GM) (l : Launch) (hN : 70 ≤ gN G)  (h : HP) {r : Int32} {h' : HP} (hf : f_X10_clearText  h = (r, h')) : MC G l yX10_clearText cX10_clearText 1 (some .int) 1 [.ref (ra G 0)] h h' (some (.int r)) := by
  unfold f_X10_clearText at hf
  refine z_start (by decide) (Nat.le_of_ble_eq_true rfl) ?_
  intro p e s m args below meth c ls hx hb hr hlk hml Z hw hl
  have Z : ZK G s args m RX10 := Z
  have hl : lv_has ls 1 [(0, .ref (ra G 0))] := hl
  obtain ⟨H, hH⟩ : ∃ H, H = s.heap := ⟨_, rfl⟩
  rw [← hH] at hw ⊢
  obtain ⟨locs, hlc⟩ : ∃ locs : List Loc, locs = [] := ⟨_, rfl⟩
  rw [← hlc] at hw ⊢
  refine lv_aload_n hx hb dX10_clearText_0 rfl (lv_at hl 0 rfl) ?_
  refine z_getr (o := 0) (o2 := 59) (C := RX10) (T := TX10) (N := 8) (ci := 8) (k := 5) hx hb Z hw (by decide) (by omega) rfl inX10 (by decide) rfl wd293 dX10_clearText_1 ?_
  obtain ⟨q4, hq4, hf⟩ := tb_ex hf
  refine z_callVi (o := 59) (ci := 2) (As := []) (rest := []) (t_X3_clear G l hN  h hq4) cv_X3_clear hx hb hml hl.1 Z hw (by decide) (by decide) (by omega) rfl rfl wd605 rfl rfl (Nat.le_of_ble_eq_true rfl) (by decide) dX10_clearText_4 (fun H locs hw => ?_)
  obtain ⟨rfl, rfl⟩ := Prod.mk.inj hf
  exact z_iret hx hb hr hlk hw dX10_clearText_7
set_option maxHeartbeats 4000000 in
set_option maxRecDepth 100000 in
theorem t_X9_highest (G : GM) (l : Launch) (hN : 70 ≤ gN G) (x0 : Int32) (h : HP) : MC G l yX9_highest cX9_highest 1 (some .int) 0 [.int x0] h h (some (.int (f_X9_highest x0 h))) := by
  generalize hf : f_X9_highest x0 h = r
  unfold f_X9_highest at hf
  refine z_start (by decide) (Nat.le_of_ble_eq_true rfl) ?_
  intro p e s m args below meth c ls hx hb hr hlk hml Z hw hl
  have Z : ZK G s args m RX9 := Z
  have hl : lv_has ls 1 [(0, .int x0)] := hl
  obtain ⟨H, hH⟩ : ∃ H, H = s.heap := ⟨_, rfl⟩
  rw [← hH] at hw ⊢
  obtain ⟨locs, hlc⟩ : ∃ locs : List Loc, locs = [] := ⟨_, rfl⟩
  rw [← hlc] at hw ⊢
  refine lv_iload_n hx hb dX9_highest_0 rfl (lv_at hl 0 rfl) ?_
  by_cases c1_65 : x0 = 65
  · have hf := (if_pos c1_65).symm.trans hf
    refine z_sw c1_65 ?_
    refine lv_tableIn (tgt := 96) hx hb dX9_highest_1 (by decide) (by decide) rfl (by decide) ?_
    refine lv_sipush (v := (359 : Int32)) hx hb dX9_highest_96 (by decide) ?_
    obtain rfl := hf
    exact z_iret hx hb hr hlk hw dX9_highest_99
  have hf := (if_neg c1_65).symm.trans hf
  by_cases c1_66 : x0 = 66
  · have hf := (if_pos c1_66).symm.trans hf
    refine z_sw c1_66 ?_
    refine lv_tableIn (tgt := 116) hx hb dX9_highest_1 (by decide) (by decide) rfl (by decide) ?_
    refine lv_bipush (v := (15 : Int32)) hx hb dX9_highest_116 (by decide) ?_
    obtain rfl := hf
    exact z_iret hx hb hr hlk hw dX9_highest_118
  have hf := (if_neg c1_66).symm.trans hf
  by_cases c1_67 : x0 = 67
  · have hf := (if_pos c1_67).symm.trans hf
    refine z_sw c1_67 ?_
    refine lv_tableIn (tgt := 116) hx hb dX9_highest_1 (by decide) (by decide) rfl (by decide) ?_
    refine lv_bipush (v := (15 : Int32)) hx hb dX9_highest_116 (by decide) ?_
    obtain rfl := hf
    exact z_iret hx hb hr hlk hw dX9_highest_118
  have hf := (if_neg c1_67).symm.trans hf
  by_cases c1_68 : x0 = 68
  · have hf := (if_pos c1_68).symm.trans hf
    refine z_sw c1_68 ?_
    refine lv_tableIn (tgt := 103) hx hb dX9_highest_1 (by decide) (by decide) rfl (by decide) ?_
    refine lv_bipush (v := (9 : Int32)) hx hb dX9_highest_103 (by decide) ?_
    obtain rfl := hf
    exact z_iret hx hb hr hlk hw dX9_highest_105
  have hf := (if_neg c1_68).symm.trans hf
  by_cases c1_69 : x0 = 69
  · have hf := (if_pos c1_69).symm.trans hf
    refine z_sw c1_69 ?_
    refine lv_tableIn (tgt := 116) hx hb dX9_highest_1 (by decide) (by decide) rfl (by decide) ?_
    refine lv_bipush (v := (15 : Int32)) hx hb dX9_highest_116 (by decide) ?_
    obtain rfl := hf
    exact z_iret hx hb hr hlk hw dX9_highest_118
  have hf := (if_neg c1_69).symm.trans hf
  by_cases c1_70 : x0 = 70
  · have hf := (if_pos c1_70).symm.trans hf
    refine z_sw c1_70 ?_
    refine lv_tableIn (tgt := 106) hx hb dX9_highest_1 (by decide) (by decide) rfl (by decide) ?_
    refine lv_sipush (v := (9999 : Int32)) hx hb dX9_highest_106 (by decide) ?_
    obtain rfl := hf
    exact z_iret hx hb hr hlk hw dX9_highest_109
  have hf := (if_neg c1_70).symm.trans hf
  by_cases c1_71 : x0 = 71
  · have hf := (if_pos c1_71).symm.trans hf
    refine z_sw c1_71 ?_
    refine lv_tableIn (tgt := 116) hx hb dX9_highest_1 (by decide) (by decide) rfl (by decide) ?_
    refine lv_bipush (v := (15 : Int32)) hx hb dX9_highest_116 (by decide) ?_
    obtain rfl := hf
    exact z_iret hx hb hr hlk hw dX9_highest_118
  have hf := (if_neg c1_71).symm.trans hf
  by_cases c1_72 : x0 = 72
  · have hf := (if_pos c1_72).symm.trans hf
    refine z_sw c1_72 ?_
    refine lv_tableIn (tgt := 116) hx hb dX9_highest_1 (by decide) (by decide) rfl (by decide) ?_
    refine lv_bipush (v := (15 : Int32)) hx hb dX9_highest_116 (by decide) ?_
    obtain rfl := hf
    exact z_iret hx hb hr hlk hw dX9_highest_118
  have hf := (if_neg c1_72).symm.trans hf
  by_cases c1_73 : x0 = 73
  · have hf := (if_pos c1_73).symm.trans hf
    refine z_sw c1_73 ?_
    refine lv_tableIn (tgt := 116) hx hb dX9_highest_1 (by decide) (by decide) rfl (by decide) ?_
    refine lv_bipush (v := (15 : Int32)) hx hb dX9_highest_116 (by decide) ?_
    obtain rfl := hf
    exact z_iret hx hb hr hlk hw dX9_highest_118
  have hf := (if_neg c1_73).symm.trans hf
  by_cases c1_74 : x0 = 74
  · have hf := (if_pos c1_74).symm.trans hf
    refine z_sw c1_74 ?_
    refine lv_tableIn (tgt := 116) hx hb dX9_highest_1 (by decide) (by decide) rfl (by decide) ?_
    refine lv_bipush (v := (15 : Int32)) hx hb dX9_highest_116 (by decide) ?_
    obtain rfl := hf
    exact z_iret hx hb hr hlk hw dX9_highest_118
  have hf := (if_neg c1_74).symm.trans hf
  by_cases c1_75 : x0 = 75
  · have hf := (if_pos c1_75).symm.trans hf
    refine z_sw c1_75 ?_
    refine lv_tableIn (tgt := 116) hx hb dX9_highest_1 (by decide) (by decide) rfl (by decide) ?_
    refine lv_bipush (v := (15 : Int32)) hx hb dX9_highest_116 (by decide) ?_
    obtain rfl := hf
    exact z_iret hx hb hr hlk hw dX9_highest_118
  have hf := (if_neg c1_75).symm.trans hf
  by_cases c1_76 : x0 = 76
  · have hf := (if_pos c1_76).symm.trans hf
    refine z_sw c1_76 ?_
    refine lv_tableIn (tgt := 116) hx hb dX9_highest_1 (by decide) (by decide) rfl (by decide) ?_
    refine lv_bipush (v := (15 : Int32)) hx hb dX9_highest_116 (by decide) ?_
    obtain rfl := hf
    exact z_iret hx hb hr hlk hw dX9_highest_118
  have hf := (if_neg c1_76).symm.trans hf
  by_cases c1_77 : x0 = 77
  · have hf := (if_pos c1_77).symm.trans hf
    refine z_sw c1_77 ?_
    refine lv_tableIn (tgt := 116) hx hb dX9_highest_1 (by decide) (by decide) rfl (by decide) ?_
    refine lv_bipush (v := (15 : Int32)) hx hb dX9_highest_116 (by decide) ?_
    obtain rfl := hf
    exact z_iret hx hb hr hlk hw dX9_highest_118
  have hf := (if_neg c1_77).symm.trans hf
  by_cases c1_78 : x0 = 78
  · have hf := (if_pos c1_78).symm.trans hf
    refine z_sw c1_78 ?_
    refine lv_tableIn (tgt := 110) hx hb dX9_highest_1 (by decide) (by decide) rfl (by decide) ?_
    refine lv_sipush (v := (999 : Int32)) hx hb dX9_highest_110 (by decide) ?_
    obtain rfl := hf
    exact z_iret hx hb hr hlk hw dX9_highest_113
  have hf := (if_neg c1_78).symm.trans hf
  by_cases c1_79 : x0 = 79
  · have hf := (if_pos c1_79).symm.trans hf
    refine z_sw c1_79 ?_
    refine lv_tableIn (tgt := 116) hx hb dX9_highest_1 (by decide) (by decide) rfl (by decide) ?_
    refine lv_bipush (v := (15 : Int32)) hx hb dX9_highest_116 (by decide) ?_
    obtain rfl := hf
    exact z_iret hx hb hr hlk hw dX9_highest_118
  have hf := (if_neg c1_79).symm.trans hf
  by_cases c1_80 : x0 = 80
  · have hf := (if_pos c1_80).symm.trans hf
    refine z_sw c1_80 ?_
    refine lv_tableIn (tgt := 114) hx hb dX9_highest_1 (by decide) (by decide) rfl (by decide) ?_
    refine lv_iconst (v := (3 : Int32)) hx hb dX9_highest_114 (by decide) ?_
    obtain rfl := hf
    exact z_iret hx hb hr hlk hw dX9_highest_115
  have hf := (if_neg c1_80).symm.trans hf
  by_cases c1_81 : x0 = 81
  · have hf := (if_pos c1_81).symm.trans hf
    refine z_sw c1_81 ?_
    refine lv_tableIn (tgt := 116) hx hb dX9_highest_1 (by decide) (by decide) rfl (by decide) ?_
    refine lv_bipush (v := (15 : Int32)) hx hb dX9_highest_116 (by decide) ?_
    obtain rfl := hf
    exact z_iret hx hb hr hlk hw dX9_highest_118
  have hf := (if_neg c1_81).symm.trans hf
  by_cases c1_82 : x0 = 82
  · have hf := (if_pos c1_82).symm.trans hf
    refine z_sw c1_82 ?_
    refine lv_tableIn (tgt := 116) hx hb dX9_highest_1 (by decide) (by decide) rfl (by decide) ?_
    refine lv_bipush (v := (15 : Int32)) hx hb dX9_highest_116 (by decide) ?_
    obtain rfl := hf
    exact z_iret hx hb hr hlk hw dX9_highest_118
  have hf := (if_neg c1_82).symm.trans hf
  by_cases c1_83 : x0 = 83
  · have hf := (if_pos c1_83).symm.trans hf
    refine z_sw c1_83 ?_
    refine lv_tableIn (tgt := 116) hx hb dX9_highest_1 (by decide) (by decide) rfl (by decide) ?_
    refine lv_bipush (v := (15 : Int32)) hx hb dX9_highest_116 (by decide) ?_
    obtain rfl := hf
    exact z_iret hx hb hr hlk hw dX9_highest_118
  have hf := (if_neg c1_83).symm.trans hf
  by_cases c1_84 : x0 = 84
  · have hf := (if_pos c1_84).symm.trans hf
    refine z_sw c1_84 ?_
    refine lv_tableIn (tgt := 100) hx hb dX9_highest_1 (by decide) (by decide) rfl (by decide) ?_
    refine lv_bipush (v := (29 : Int32)) hx hb dX9_highest_100 (by decide) ?_
    obtain rfl := hf
    exact z_iret hx hb hr hlk hw dX9_highest_102
  have hf := (if_neg c1_84).symm.trans hf
  refine lv_tableOut (tgt := 116) hx hb dX9_highest_1 (by have := [0]; have e0 := sw_ne (k := 65) (by decide) c1_65; have e1 := sw_ne (k := 66) (by decide) c1_66; have e2 := sw_ne (k := 67) (by decide) c1_67; have e3 := sw_ne (k := 68) (by decide) c1_68; have e4 := sw_ne (k := 69) (by decide) c1_69; have e5 := sw_ne (k := 70) (by decide) c1_70; have e6 := sw_ne (k := 71) (by decide) c1_71; have e7 := sw_ne (k := 72) (by decide) c1_72; have e8 := sw_ne (k := 73) (by decide) c1_73; have e9 := sw_ne (k := 74) (by decide) c1_74; have e10 := sw_ne (k := 75) (by decide) c1_75; have e11 := sw_ne (k := 76) (by decide) c1_76; have e12 := sw_ne (k := 77) (by decide) c1_77; have e13 := sw_ne (k := 78) (by decide) c1_78; have e14 := sw_ne (k := 79) (by decide) c1_79; have e15 := sw_ne (k := 80) (by decide) c1_80; have e16 := sw_ne (k := 81) (by decide) c1_81; have e17 := sw_ne (k := 82) (by decide) c1_82; have e18 := sw_ne (k := 83) (by decide) c1_83; have e19 := sw_ne (k := 84) (by decide) c1_84; omega) (by decide) ?_
  refine lv_bipush (v := (15 : Int32)) hx hb dX9_highest_116 (by decide) ?_
  obtain rfl := hf
  exact z_iret hx hb hr hlk hw dX9_highest_118
set_option maxHeartbeats 4000000 in
set_option maxRecDepth 100000 in
theorem t_X9_lowest (G : GM) (l : Launch) (hN : 70 ≤ gN G) (x0 : Int32) (h : HP) : MC G l yX9_lowest cX9_lowest 1 (some .int) 0 [.int x0] h h (some (.int (f_X9_lowest x0 h))) := by
  generalize hf : f_X9_lowest x0 h = r
  unfold f_X9_lowest at hf
  refine z_start (by decide) (Nat.le_of_ble_eq_true rfl) ?_
  intro p e s m args below meth c ls hx hb hr hlk hml Z hw hl
  have Z : ZK G s args m RX9 := Z
  have hl : lv_has ls 1 [(0, .int x0)] := hl
  obtain ⟨H, hH⟩ : ∃ H, H = s.heap := ⟨_, rfl⟩
  rw [← hH] at hw ⊢
  obtain ⟨locs, hlc⟩ : ∃ locs : List Loc, locs = [] := ⟨_, rfl⟩
  rw [← hlc] at hw ⊢
  refine lv_iload_n hx hb dX9_lowest_0 rfl (lv_at hl 0 rfl) ?_
  refine lv_bipush (v := (78 : Int32)) hx hb dX9_lowest_1 (by decide) ?_
  refine lv_icmp_ne (tgt := 10) hx hb dX9_lowest_3 (by decide) (fun c3 => ?_) (fun c3 => ?_)
  · have hf := (if_neg c3).symm.trans hf
    refine lv_iconst (v := (0 : Int32)) hx hb dX9_lowest_10 (by decide) ?_
    obtain rfl := hf
    exact z_iret hx hb hr hlk hw dX9_lowest_11
  · have hf := (if_pos c3).symm.trans hf
    refine lv_iconst (v := (1 : Int32)) hx hb dX9_lowest_6 (by decide) ?_
    refine lv_goto (tgt := 11) hx hb dX9_lowest_7 (by decide) ?_
    obtain rfl := hf
    exact z_iret hx hb hr hlk hw dX9_lowest_11
set_option maxHeartbeats 4000000 in
set_option maxRecDepth 100000 in
theorem t_X3_longerBy (G : GM) (l : Launch) (hN : 70 ≤ gN G) (x1 : Int32) (x2 : Int32) (x3 : Int32) (h : HP) : MC G l yX3_longerBy cX3_longerBy 7 (some .int) 1 [.ref (ra G 59), .int x1, .int x2, .int x3] h h (some (.int (f_X3_longerBy x1 x2 x3 h))) := by
  generalize hf : f_X3_longerBy x1 x2 x3 h = r
  unfold f_X3_longerBy at hf
  refine z_start (by decide) (Nat.le_of_ble_eq_true rfl) ?_
  intro p e s m args below meth c ls hx hb hr hlk hml Z hw hl
  have Z : ZK G s args m RX3 := Z
  have hl : lv_has ls 7 [(0, .ref (ra G 59)), (1, .int x1), (2, .int x2), (3, .int x3)] := hl
  obtain ⟨H, hH⟩ : ∃ H, H = s.heap := ⟨_, rfl⟩
  rw [← hH] at hw ⊢
  obtain ⟨locs, hlc⟩ : ∃ locs : List Loc, locs = [] := ⟨_, rfl⟩
  rw [← hlc] at hw ⊢
  refine lv_iload_n hx hb dX3_longerBy_0 rfl (lv_at hl 2 rfl) ?_
  have HJ13 : ∀ (ls : Array Slot) (H : Heap) (locs : List Loc), lv_has ls 7 [(0, .ref (ra G 59)), (1, .int x1), (3, .int x3)] → HW G h s H locs → WZ p l e 1 s m args below meth c G (some (.int r)) h H locs (F0 m 13 ls [.int (if x2 ≤ 0 then (0 : Int32) else (if x1 = 0 then (1 : Int32) else (0 : Int32)))]) := by
    intro ls H locs hl hw
    obtain ⟨v13, hqv13, hf⟩ := tb_ex hf
    refine z_top hqv13 ?_
    refine lv_istore (lv' := [(4, _), (0, _), (1, _), (3, _)]) hx hb dX3_longerBy_13 hl (by decide) rfl (fun ls hl => ?_)
    refine lv_iload hx hb dX3_longerBy_15 (lv_at hl 0 rfl) ?_
    refine lv_if_ne (tgt := 50) hx hb dX3_longerBy_17 (by decide) (fun c17 => ?_) (fun c17 => ?_)
    · have hf := (if_neg c17).symm.trans hf
      refine lv_iconst (v := (-1 : Int32)) hx hb dX3_longerBy_50 (by decide) ?_
      obtain rfl := hf
      exact z_iret hx hb hr hlk hw dX3_longerBy_51
    · have hf := (if_pos c17).symm.trans hf
      refine lv_aload_n hx hb dX3_longerBy_20 rfl (lv_at hl 1 rfl) ?_
      refine z_geti (o := 59) (C := RX3) (T := TX3) (N := 6) (ci := 2) (k := 5) hx hb Z hw (by decide) (by omega) rfl inX3 (by decide) wd248 dX3_longerBy_21 ?_
      refine lv_if_lt (tgt := 50) hx hb dX3_longerBy_24 (by decide) (fun c24 => ?_) (fun c24 => ?_)
      · have hf := (if_pos c24).symm.trans hf
        refine lv_iconst (v := (-1 : Int32)) hx hb dX3_longerBy_50 (by decide) ?_
        obtain rfl := hf
        exact z_iret hx hb hr hlk hw dX3_longerBy_51
      · have hf := (if_neg c24).symm.trans hf
        refine lv_aload_n hx hb dX3_longerBy_27 rfl (lv_at hl 1 rfl) ?_
        refine z_geti (o := 59) (C := RX3) (T := TX3) (N := 6) (ci := 2) (k := 5) hx hb Z hw (by decide) (by omega) rfl inX3 (by decide) wd248 dX3_longerBy_28 ?_
        refine lv_aload_n hx hb dX3_longerBy_31 rfl (lv_at hl 1 rfl) ?_
        refine z_geti (o := 59) (C := RX3) (T := TX3) (N := 6) (ci := 2) (k := 1) hx hb Z hw (by decide) (by omega) rfl inX3 (by decide) wd242 dX3_longerBy_32 ?_
        refine lv_icmp_ge (tgt := 50) hx hb dX3_longerBy_35 (by decide) (fun c35 => ?_) (fun c35 => ?_)
        · have hf := (if_pos c35).symm.trans hf
          refine lv_iconst (v := (-1 : Int32)) hx hb dX3_longerBy_50 (by decide) ?_
          obtain rfl := hf
          exact z_iret hx hb hr hlk hw dX3_longerBy_51
        · have hf := (if_neg c35).symm.trans hf
          refine lv_aload_n hx hb dX3_longerBy_38 rfl (lv_at hl 1 rfl) ?_
          refine z_geti (o := 59) (C := RX3) (T := TX3) (N := 6) (ci := 2) (k := 5) hx hb Z hw (by decide) (by omega) rfl inX3 (by decide) wd248 dX3_longerBy_39 ?_
          refine lv_aload_n hx hb dX3_longerBy_42 rfl (lv_at hl 1 rfl) ?_
          refine z_getr (o := 59) (o2 := 60) (C := RX3) (T := TX3) (N := 6) (ci := 2) (k := 0) hx hb Z hw (by decide) (by omega) rfl inX3 (by decide) rfl wd241 dX3_longerBy_43 ?_
          refine z_alen (o := 60) (v := (60 : Int32)) hx hb Z hw (by decide) (by omega) (by decide) dX3_longerBy_46 ?_
          refine lv_icmp_lt (tgt := 52) hx hb dX3_longerBy_47 (by decide) (fun c47 => ?_) (fun c47 => ?_)
          · have hf := (if_pos c47).symm.trans hf
            refine lv_aload_n hx hb dX3_longerBy_52 rfl (lv_at hl 1 rfl) ?_
            refine z_getr (o := 59) (o2 := 60) (C := RX3) (T := TX3) (N := 6) (ci := 2) (k := 0) hx hb Z hw (by decide) (by omega) rfl inX3 (by decide) rfl wd241 dX3_longerBy_53 ?_
            refine lv_aload_n hx hb dX3_longerBy_56 rfl (lv_at hl 1 rfl) ?_
            refine z_geti (o := 59) (C := RX3) (T := TX3) (N := 6) (ci := 2) (k := 5) hx hb Z hw (by decide) (by omega) rfl inX3 (by decide) wd248 dX3_longerBy_57 ?_
            refine y_cald (o := 60) (k := (h 59 5).toNatClampNeg) hx hb Z hw (by decide) (by omega) rfl (inB_np c24 c47 (by decide)) dX3_longerBy_60 ?_
            refine lv_istore (lv' := [(5, _), (4, _), (0, _), (1, _), (3, _)]) hx hb dX3_longerBy_61 hl (by decide) rfl (fun ls hl => ?_)
            refine lv_iload hx hb dX3_longerBy_63 (lv_at hl 0 rfl) ?_
            refine lv_bipush (v := (48 : Int32)) hx hb dX3_longerBy_65 (by decide) ?_
            refine lv_icmp_lt (tgt := 77) hx hb dX3_longerBy_67 (by decide) (fun c67 => ?_) (fun c67 => ?_)
            · have hf := (if_pos c67).symm.trans hf
              refine lv_iconst (v := (-1 : Int32)) hx hb dX3_longerBy_77 (by decide) ?_
              obtain rfl := hf
              exact z_iret hx hb hr hlk hw dX3_longerBy_78
            · have hf := (if_neg c67).symm.trans hf
              refine lv_iload hx hb dX3_longerBy_70 (lv_at hl 0 rfl) ?_
              refine lv_bipush (v := (57 : Int32)) hx hb dX3_longerBy_72 (by decide) ?_
              refine lv_icmp_le (tgt := 79) hx hb dX3_longerBy_74 (by decide) (fun c74 => ?_) (fun c74 => ?_)
              · have hf := (if_pos c74).symm.trans hf
                refine lv_iload_n hx hb dX3_longerBy_79 rfl (lv_at hl 3 rfl) ?_
                refine lv_bipush (v := (10 : Int32)) hx hb dX3_longerBy_80 (by decide) ?_
                refine lv_imul hx hb dX3_longerBy_82 ?_
                refine lv_iload hx hb dX3_longerBy_83 (lv_at hl 0 rfl) ?_
                refine lv_bipush (v := (48 : Int32)) hx hb dX3_longerBy_85 (by decide) ?_
                refine lv_isub hx hb dX3_longerBy_87 ?_
                refine lv_iadd hx hb dX3_longerBy_88 ?_
                obtain ⟨v89, hqv89, hf⟩ := tb_ex hf
                refine z_top hqv89 ?_
                refine lv_istore (lv' := [(6, _), (5, _), (4, _), (0, _), (1, _), (3, _)]) hx hb dX3_longerBy_89 hl (by decide) rfl (fun ls hl => ?_)
                refine lv_iload hx hb dX3_longerBy_91 (lv_at hl 0 rfl) ?_
                refine lv_iload_n hx hb dX3_longerBy_93 rfl (lv_at hl 5 rfl) ?_
                refine z_callSi (As := [.int x3]) (rest := [.int v89]) (t_X9_lowest G l hN x3 h) cs_X9_lowest hx hb hml hl.1 Z hw wd695 rfl rfl (Nat.le_of_ble_eq_true rfl) (by decide) dX3_longerBy_94 (fun H locs hw => ?_)
                refine lv_icmp_lt (tgt := 114) hx hb dX3_longerBy_97 (by decide) (fun c97 => ?_) (fun c97 => ?_)
                · have hf := (if_pos c97).symm.trans hf
                  refine lv_iconst (v := (-1 : Int32)) hx hb dX3_longerBy_114 (by decide) ?_
                  obtain rfl := hf
                  exact z_iret hx hb hr hlk hw dX3_longerBy_115
                · have hf := (if_neg c97).symm.trans hf
                  refine lv_iload hx hb dX3_longerBy_100 (lv_at hl 0 rfl) ?_
                  refine lv_iload_n hx hb dX3_longerBy_102 rfl (lv_at hl 5 rfl) ?_
                  refine z_callSi (As := [.int x3]) (rest := [.int v89]) (t_X9_highest G l hN x3 h) cs_X9_highest hx hb hml hl.1 Z hw wd698 rfl rfl (Nat.le_of_ble_eq_true rfl) (by decide) dX3_longerBy_103 (fun H locs hw => ?_)
                  refine lv_icmp_gt (tgt := 114) hx hb dX3_longerBy_106 (by decide) (fun c106 => ?_) (fun c106 => ?_)
                  · have hf := (if_pos c106).symm.trans hf
                    refine lv_iconst (v := (-1 : Int32)) hx hb dX3_longerBy_114 (by decide) ?_
                    obtain rfl := hf
                    exact z_iret hx hb hr hlk hw dX3_longerBy_115
                  · have hf := (if_neg c106).symm.trans hf
                    refine lv_iload hx hb dX3_longerBy_109 (lv_at hl 0 rfl) ?_
                    refine lv_goto (tgt := 115) hx hb dX3_longerBy_111 (by decide) ?_
                    obtain rfl := hf
                    exact z_iret hx hb hr hlk hw dX3_longerBy_115
              · have hf := (if_neg c74).symm.trans hf
                refine lv_iconst (v := (-1 : Int32)) hx hb dX3_longerBy_77 (by decide) ?_
                obtain rfl := hf
                exact z_iret hx hb hr hlk hw dX3_longerBy_78
          · have hf := (if_neg c47).symm.trans hf
            refine lv_iconst (v := (-1 : Int32)) hx hb dX3_longerBy_50 (by decide) ?_
            obtain rfl := hf
            exact z_iret hx hb hr hlk hw dX3_longerBy_51
  refine lv_if_le (tgt := 12) hx hb dX3_longerBy_1 (by decide) (fun c1 => ?_) (fun c1 => ?_)
  · skip
    refine lv_iconst (v := (0 : Int32)) hx hb dX3_longerBy_12 (by decide) ?_
    refine W.eq (g2 := F0 m 13 ls [.int (if x2 ≤ 0 then (0 : Int32) else (if x1 = 0 then (1 : Int32) else (0 : Int32)))]) ?_ (HJ13 ls H locs (lv_sub hl [0, 1, 3] rfl) hw)
    simp only [if_pos c1]
  · skip
    refine lv_iload_n hx hb dX3_longerBy_4 rfl (lv_at hl 1 rfl) ?_
    refine lv_if_ne (tgt := 12) hx hb dX3_longerBy_5 (by decide) (fun c5 => ?_) (fun c5 => ?_)
    · skip
      refine lv_iconst (v := (0 : Int32)) hx hb dX3_longerBy_12 (by decide) ?_
      refine W.eq (g2 := F0 m 13 ls [.int (if x2 ≤ 0 then (0 : Int32) else (if x1 = 0 then (1 : Int32) else (0 : Int32)))]) ?_ (HJ13 ls H locs (lv_sub hl [0, 1, 3] rfl) hw)
      simp only [if_neg c1, if_neg c5]
    · skip
      refine lv_iconst (v := (1 : Int32)) hx hb dX3_longerBy_8 (by decide) ?_
      refine lv_goto (tgt := 13) hx hb dX3_longerBy_9 (by decide) ?_
      refine W.eq (g2 := F0 m 13 ls [.int (if x2 ≤ 0 then (0 : Int32) else (if x1 = 0 then (1 : Int32) else (0 : Int32)))]) ?_ (HJ13 ls H locs (lv_sub hl [0, 1, 3] rfl) hw)
      simp only [if_neg c1, if_pos c5]
set_option maxHeartbeats 4000000 in
set_option maxRecDepth 100000 in
theorem w_X3_readNumber_L15 (G : GM) (l : Launch) (hN : 70 ≤ gN G)  {p : Program} {e : Env} {s : State} {m : MethodId} {args : Array Value} {below : List Frame} {meth : Method} {c : Code} (hx : p.tables.exec = Jvm.exec) (hb : c.code = cX3_readNumber) (hr : meth.sig.returnType = (some .boolean)) (hlk : meth.locks = false) (hml : c.maxLocals = 6) (Z : ZK G s args m RX3) : ∀ (n : Nat) (x1 : Int32) (x3 : Int32) (x4 : Int32) (x5 : Int32)  (h : HP) (v2 : Int32) (rv : Option Value) (hq : HP) (ls : Array Slot) (H : Heap) (locs : List Loc) {q : Int32 × Int32 × HP}, lv_has ls 6 [(0, .ref (ra G 59)), (1, .int x1), (2, .int v2), (3, .int x3), (4, .int x4), (5, .int x5)] → HW G h s H locs → f_X3_readNumber_L15 n x1 x3 x4 x5 h = some q → (∀ (ls : Array Slot) (H : Heap) (locs : List Loc), lv_has ls 6 [(0, .ref (ra G 59)), (2, .int v2), (3, .int q.1), (4, .int q.2.1)] → HW G q.2.2 s H locs → WZ p l e 2 s m args below meth c G rv hq H locs (F0 m 55 ls [])) → WZ p l e 2 s m args below meth c G rv hq H locs (F0 m 15 ls []) := by
  intro n
  induction n with
  | zero => intro x1 x3 x4 x5  h v2 rv hq ls H locs q hl hw hf kk; cases hf
  | succ n ih =>
    intro x1 x3 x4 x5  h v2 rv hq ls H locs q hl hw hf kk
    rw [f_X3_readNumber_L15] at hf
    refine lv_iload hx hb dX3_readNumber_15 (lv_at hl 4 rfl) ?_
    refine lv_iconst (v := (4 : Int32)) hx hb dX3_readNumber_17 (by decide) ?_
    refine lv_icmp_ge (tgt := 55) hx hb dX3_readNumber_18 (by decide) (fun c18 => ?_) (fun c18 => ?_)
    · have hf := (if_pos c18).symm.trans hf
      obtain rfl := Option.some.inj hf
      exact kk ls H locs (lv_sub hl [0, 2, 3, 4] rfl) hw
    · have hf := (if_neg c18).symm.trans hf
      refine lv_iload hx hb dX3_readNumber_21 (lv_at hl 5 rfl) ?_
      refine lv_if_lt (tgt := 55) hx hb dX3_readNumber_23 (by decide) (fun c23 => ?_) (fun c23 => ?_)
      · have hf := (if_pos c23).symm.trans hf
        obtain rfl := Option.some.inj hf
        exact kk ls H locs (lv_sub hl [0, 2, 3, 4] rfl) hw
      · have hf := (if_neg c23).symm.trans hf
        refine lv_iload hx hb dX3_readNumber_26 (lv_at hl 5 rfl) ?_
        refine lv_istore_n (lv' := [(3, _), (0, _), (1, _), (2, _), (4, _), (5, _)]) hx hb dX3_readNumber_28 rfl hl (by decide) rfl (fun ls hl => ?_)
        refine lv_iinc (v := x4 + (1 : Int32)) (lv' := [(4, _), (3, _), (0, _), (1, _), (2, _), (5, _)]) hx hb dX3_readNumber_29 hl (k := 4) rfl rfl (by decide) rfl (fun ls hl => ?_)
        refine lv_aload_n hx hb dX3_readNumber_32 rfl (lv_at hl 2 rfl) ?_
        refine lv_dup hx hb dX3_readNumber_33 rfl ?_
        refine z_geti (o := 59) (C := RX3) (T := TX3) (N := 6) (ci := 2) (k := 5) hx hb Z hw (by decide) (by omega) rfl inX3 (by decide) wd248 dX3_readNumber_34 ?_
        refine lv_iconst (v := (1 : Int32)) hx hb dX3_readNumber_37 (by decide) ?_
        refine lv_iadd hx hb dX3_readNumber_38 ?_
        refine z_puti (o := 59) (v := (h 59 5) + (1 : Int32)) (ty := .int) (C := RX3) (T := TX3) (N := 6) (ci := 2) (k := 5) hx hb Z hw (by decide) (by omega) rfl inX3 tyX3 tyX3_ok nmX3 (by decide) wd248 rfl (by decide +kernel) rfl rfl dX3_readNumber_39 (fun H locs hw => ?_)
        refine lv_aload_n hx hb dX3_readNumber_42 rfl (lv_at hl 2 rfl) ?_
        refine lv_iload_n hx hb dX3_readNumber_43 rfl (lv_at hl 1 rfl) ?_
        refine lv_iload hx hb dX3_readNumber_44 (lv_at hl 0 rfl) ?_
        refine lv_iload_n hx hb dX3_readNumber_46 rfl (lv_at hl 3 rfl) ?_
        obtain ⟨h47, hqh47, hf⟩ := tb_ex hf
        rw [hqh47] at hw
        refine z_callVi (o := 59) (ci := 2) (As := [.int x5, .int (x4 + (1 : Int32)), .int x1]) (rest := []) (t_X3_longerBy G l hN x5 (x4 + (1 : Int32)) x1 h47) cv_X3_longerBy hx hb hml hl.1 Z hw (by decide) (by decide) (by omega) rfl rfl wd691 rfl rfl (Nat.le_of_ble_eq_true rfl) (by decide) dX3_readNumber_47 (fun H locs hw => ?_)
        obtain ⟨v50, hqv50, hf⟩ := tb_ex hf
        refine z_top hqv50 ?_
        refine lv_istore (lv' := [(5, _), (4, _), (3, _), (0, _), (1, _), (2, _)]) hx hb dX3_readNumber_50 hl (by decide) rfl (fun ls hl => ?_)
        refine lv_goto (tgt := 15) hx hb dX3_readNumber_52 (by decide) ?_
        exact ih x1 x5 (x4 + (1 : Int32)) v50 h47 v2 rv hq ls H locs (lv_sub hl [3, 4, 5, 2, 1, 0] rfl) hw hf kk
set_option maxHeartbeats 4000000 in
set_option maxRecDepth 100000 in
theorem t_X3_readNumber (G : GM) (l : Launch) (hN : 70 ≤ gN G) (x1 : Int32) (x2 : Int32) (h : HP) {r : Int32} {h' : HP} (hf : f_X3_readNumber x1 x2 h = some (r, h')) : MC G l yX3_readNumber cX3_readNumber 6 (some .boolean) 2 [.ref (ra G 59), .int x1, .int x2] h h' (some (.int r)) := by
  unfold f_X3_readNumber at hf
  refine z_start (by decide) (Nat.le_of_ble_eq_true rfl) ?_
  intro p e s m args below meth c ls hx hb hr hlk hml Z hw hl
  have Z : ZK G s args m RX3 := Z
  have hl : lv_has ls 6 [(0, .ref (ra G 59)), (1, .int x1), (2, .int x2)] := hl
  obtain ⟨H, hH⟩ : ∃ H, H = s.heap := ⟨_, rfl⟩
  rw [← hH] at hw ⊢
  obtain ⟨locs, hlc⟩ : ∃ locs : List Loc, locs = [] := ⟨_, rfl⟩
  rw [← hlc] at hw ⊢
  refine lv_iconst (v := (0 : Int32)) hx hb dX3_readNumber_0 (by decide) ?_
  refine lv_istore_n (lv' := [(3, _), (0, _), (1, _), (2, _)]) hx hb dX3_readNumber_1 rfl hl (by decide) rfl (fun ls hl => ?_)
  refine lv_iconst (v := (0 : Int32)) hx hb dX3_readNumber_2 (by decide) ?_
  refine lv_istore (lv' := [(4, _), (3, _), (0, _), (1, _), (2, _)]) hx hb dX3_readNumber_3 hl (by decide) rfl (fun ls hl => ?_)
  refine lv_aload_n hx hb dX3_readNumber_5 rfl (lv_at hl 2 rfl) ?_
  refine lv_iload_n hx hb dX3_readNumber_6 rfl (lv_at hl 1 rfl) ?_
  refine lv_iload hx hb dX3_readNumber_7 (lv_at hl 0 rfl) ?_
  refine lv_iload_n hx hb dX3_readNumber_9 rfl (lv_at hl 3 rfl) ?_
  refine z_callVi (o := 59) (ci := 2) (As := [.int (0 : Int32), .int (0 : Int32), .int x1]) (rest := []) (t_X3_longerBy G l hN (0 : Int32) (0 : Int32) x1 h) cv_X3_longerBy hx hb hml hl.1 Z hw (by decide) (by decide) (by omega) rfl rfl wd691 rfl rfl (Nat.le_of_ble_eq_true rfl) (by decide) dX3_readNumber_10 (fun H locs hw => ?_)
  obtain ⟨v13, hqv13, hf⟩ := tb_ex hf
  refine z_top hqv13 ?_
  refine lv_istore (lv' := [(5, _), (4, _), (3, _), (0, _), (1, _), (2, _)]) hx hb dX3_readNumber_13 hl (by decide) rfl (fun ls hl => ?_)
  obtain ⟨q15, hq15, hf⟩ := ob_some hf
  refine w_X3_readNumber_L15 G l hN  hx hb hr hlk hml Z FU x1 (0 : Int32) (0 : Int32) v13 h x2 _ _ ls H locs (lv_sub hl [3, 4, 5, 2, 1, 0] rfl) hw hq15 (fun ls H locs hl hw => ?_)
  refine lv_aload_n hx hb dX3_readNumber_55 rfl (lv_at hl 0 rfl) ?_
  refine z_getr (o := 59) (o2 := 62) (C := RX3) (T := TX3) (N := 6) (ci := 2) (k := 3) hx hb Z hw (by decide) (by omega) rfl inX3 (by decide) rfl wd245 dX3_readNumber_56 ?_
  refine lv_iload_n hx hb dX3_readNumber_59 rfl (lv_at hl 1 rfl) ?_
  refine lv_iload_n hx hb dX3_readNumber_60 rfl (lv_at hl 2 rfl) ?_
  obtain ⟨q61, hq61, hf⟩ := tb_ex hf
  refine z_callNv (As := [.ref (ra G 62), .int x2, .int q15.1]) (rest := []) (t_X10_put G l hN 62 (by decide) (by omega) x2 q15.1 q15.2.2 hq61) cs_X10_put hx hb hml hl.1 Z hw wd701 rfl rfl (Nat.le_of_ble_eq_true rfl) (by decide) dX3_readNumber_61 (fun H locs hw => ?_)
  refine lv_iload hx hb dX3_readNumber_64 (lv_at hl 3 rfl) ?_
  refine lv_if_le (tgt := 73) hx hb dX3_readNumber_66 (by decide) (fun c66 => ?_) (fun c66 => ?_)
  · have hf := (if_pos c66).symm.trans hf
    refine lv_iconst (v := (0 : Int32)) hx hb dX3_readNumber_73 (by decide) ?_
    obtain ⟨rfl, rfl⟩ := Prod.mk.inj (Option.some.inj hf)
    exact z_zret hx hb hr rfl hlk hw dX3_readNumber_74
  · have hf := (if_neg c66).symm.trans hf
    refine lv_iconst (v := (1 : Int32)) hx hb dX3_readNumber_69 (by decide) ?_
    refine lv_goto (tgt := 74) hx hb dX3_readNumber_70 (by decide) ?_
    obtain ⟨rfl, rfl⟩ := Prod.mk.inj (Option.some.inj hf)
    exact z_zret hx hb hr rfl hlk hw dX3_readNumber_74
