/-! walks (by program) -/
set_option maxHeartbeats 4000000 in
set_option maxRecDepth 100000 in
theorem t_X5_settingAt (G : GM) (l : Launch) (hN : 70 ≤ gN G) (o0 : Nat) (k_o0 : kd o0 = 4) (n_o0 : o0 < gN G) (x1 : Int32) (h : HP) : MC G l yX5_settingAt cX5_settingAt 2 (some .int) 0 [.ref (ra G o0), .int x1] h h (some (.int (f_X5_settingAt o0 x1 h))) := by
  generalize hf : f_X5_settingAt o0 x1 h = r
  unfold f_X5_settingAt at hf
  refine z_start (by decide) (Nat.le_of_ble_eq_true rfl) ?_
  intro p e s m args below meth c ls hx hb hr hlk hml Z hw hl
  have Z : ZK G s args m RX5 := Z
  have hl : lv_has ls 2 [(0, .ref (ra G o0)), (1, .int x1)] := hl
  obtain ⟨H, hH⟩ : ∃ H, H = s.heap := ⟨_, rfl⟩
  rw [← hH] at hw ⊢
  obtain ⟨locs, hlc⟩ : ∃ locs : List Loc, locs = [] := ⟨_, rfl⟩
  rw [← hlc] at hw ⊢
  refine lv_iload_n hx hb dX5_settingAt_0 rfl (lv_at hl 1 rfl) ?_
  by_cases c1_0 : x1 = 0
  · have hf := (if_pos c1_0).symm.trans hf
    refine z_sw c1_0 ?_
    refine lv_tableIn (tgt := 36) hx hb dX5_settingAt_1 (by decide) (by decide) rfl (by decide) ?_
    refine lv_aload_n hx hb dX5_settingAt_36 rfl (lv_at hl 0 rfl) ?_
    refine z_geti (o := o0) (C := RX5) (T := TX5) (N := 6) (ci := 4) (k := 0) hx hb Z hw k_o0 n_o0 rfl inX5 (by decide) wd56 dX5_settingAt_37 ?_
    obtain rfl := hf
    exact z_iret hx hb hr hlk hw dX5_settingAt_40
  have hf := (if_neg c1_0).symm.trans hf
  by_cases c1_1 : x1 = 1
  · have hf := (if_pos c1_1).symm.trans hf
    refine z_sw c1_1 ?_
    refine lv_tableIn (tgt := 41) hx hb dX5_settingAt_1 (by decide) (by decide) rfl (by decide) ?_
    refine lv_aload_n hx hb dX5_settingAt_41 rfl (lv_at hl 0 rfl) ?_
    refine z_geti (o := o0) (C := RX5) (T := TX5) (N := 6) (ci := 4) (k := 1) hx hb Z hw k_o0 n_o0 rfl inX5 (by decide) wd57 dX5_settingAt_42 ?_
    obtain rfl := hf
    exact z_iret hx hb hr hlk hw dX5_settingAt_45
  have hf := (if_neg c1_1).symm.trans hf
  by_cases c1_2 : x1 = 2
  · have hf := (if_pos c1_2).symm.trans hf
    refine z_sw c1_2 ?_
    refine lv_tableIn (tgt := 46) hx hb dX5_settingAt_1 (by decide) (by decide) rfl (by decide) ?_
    refine lv_aload_n hx hb dX5_settingAt_46 rfl (lv_at hl 0 rfl) ?_
    refine z_geti (o := o0) (C := RX5) (T := TX5) (N := 6) (ci := 4) (k := 2) hx hb Z hw k_o0 n_o0 rfl inX5 (by decide) wd58 dX5_settingAt_47 ?_
    obtain rfl := hf
    exact z_iret hx hb hr hlk hw dX5_settingAt_50
  have hf := (if_neg c1_2).symm.trans hf
  by_cases c1_3 : x1 = 3
  · have hf := (if_pos c1_3).symm.trans hf
    refine z_sw c1_3 ?_
    refine lv_tableIn (tgt := 51) hx hb dX5_settingAt_1 (by decide) (by decide) rfl (by decide) ?_
    refine lv_aload_n hx hb dX5_settingAt_51 rfl (lv_at hl 0 rfl) ?_
    refine z_geti (o := o0) (C := RX5) (T := TX5) (N := 6) (ci := 4) (k := 3) hx hb Z hw k_o0 n_o0 rfl inX5 (by decide) wd60 dX5_settingAt_52 ?_
    obtain rfl := hf
    exact z_iret hx hb hr hlk hw dX5_settingAt_55
  have hf := (if_neg c1_3).symm.trans hf
  by_cases c1_4 : x1 = 4
  · have hf := (if_pos c1_4).symm.trans hf
    refine z_sw c1_4 ?_
    refine lv_tableIn (tgt := 56) hx hb dX5_settingAt_1 (by decide) (by decide) rfl (by decide) ?_
    refine lv_aload_n hx hb dX5_settingAt_56 rfl (lv_at hl 0 rfl) ?_
    refine z_geti (o := o0) (C := RX5) (T := TX5) (N := 6) (ci := 4) (k := 4) hx hb Z hw k_o0 n_o0 rfl inX5 (by decide) wd62 dX5_settingAt_57 ?_
    obtain rfl := hf
    exact z_iret hx hb hr hlk hw dX5_settingAt_60
  have hf := (if_neg c1_4).symm.trans hf
  refine lv_tableOut (tgt := 61) hx hb dX5_settingAt_1 (by have := [0]; have e0 := sw_ne (k := 0) (by decide) c1_0; have e1 := sw_ne (k := 1) (by decide) c1_1; have e2 := sw_ne (k := 2) (by decide) c1_2; have e3 := sw_ne (k := 3) (by decide) c1_3; have e4 := sw_ne (k := 4) (by decide) c1_4; omega) (by decide) ?_
  refine lv_aload_n hx hb dX5_settingAt_61 rfl (lv_at hl 0 rfl) ?_
  refine z_geti (o := o0) (C := RX5) (T := TX5) (N := 6) (ci := 4) (k := 5) hx hb Z hw k_o0 n_o0 rfl inX5 (by decide) wd64 dX5_settingAt_62 ?_
  obtain rfl := hf
  exact z_iret hx hb hr hlk hw dX5_settingAt_65
set_option maxHeartbeats 4000000 in
set_option maxRecDepth 100000 in
theorem t_X10_set (G : GM) (l : Launch) (hN : 70 ≤ gN G) (x1 : Int32) (x2 : Int32) (h : HP) {r : Int32} {h' : HP} (hf : f_X10_set x1 x2 h = some (r, h')) : MC G l yX10_set cX10_set 4 (some .int) 4 [.ref (ra G 0), .int x1, .int x2] h h' (some (.int r)) := by
  unfold f_X10_set at hf
  refine z_start (by decide) (Nat.le_of_ble_eq_true rfl) ?_
  intro p e s m args below meth c ls hx hb hr hlk hml Z hw hl
  have Z : ZK G s args m RX10 := Z
  have hl : lv_has ls 4 [(0, .ref (ra G 0)), (1, .int x1), (2, .int x2)] := hl
  obtain ⟨H, hH⟩ : ∃ H, H = s.heap := ⟨_, rfl⟩
  rw [← hH] at hw ⊢
  obtain ⟨locs, hlc⟩ : ∃ locs : List Loc, locs = [] := ⟨_, rfl⟩
  rw [← hlc] at hw ⊢
  refine lv_iload_n hx hb dX10_set_0 rfl (lv_at hl 1 rfl) ?_
  refine lv_iload_n hx hb dX10_set_1 rfl (lv_at hl 2 rfl) ?_
  refine z_callSi (As := [.int x1, .int x2]) (rest := []) (t_X5_isInRange G l hN x1 x2 h) cs_X5_isInRange hx hb hml hl.1 Z hw wd262 rfl rfl (Nat.le_of_ble_eq_true rfl) (by decide) dX10_set_2 (fun H locs hw => ?_)
  refine lv_if_ne (tgt := 11) hx hb dX10_set_5 (by decide) (fun c5 => ?_) (fun c5 => ?_)
  · have hf := (if_neg c5).symm.trans hf
    refine lv_aload_n hx hb dX10_set_11 rfl (lv_at hl 0 rfl) ?_
    refine z_getr (o := 0) (o2 := 1) (C := RX10) (T := TX10) (N := 8) (ci := 8) (k := 0) hx hb Z hw (by decide) (by omega) rfl inX10 (by decide) rfl wd233 dX10_set_12 ?_
    refine z_getr (o := 1) (o2 := 2) (C := RX6) (T := TX6) (N := 4) (ci := 5) (k := 0) hx hb Z hw (by decide) (by omega) rfl inX6 (by decide) rfl wd145 dX10_set_15 ?_
    refine lv_iload_n hx hb dX10_set_18 rfl (lv_at hl 1 rfl) ?_
    refine z_callVi (o := 2) (ci := 4) (As := [.int x1]) (rest := []) (t_X5_settingAt G l hN 2 (by decide) (by omega) x1 h) cv_X5_settingAt hx hb hml hl.1 Z hw (by decide) (by decide) (by omega) rfl rfl wd265 rfl rfl (Nat.le_of_ble_eq_true rfl) (by decide) dX10_set_19 (fun H locs hw => ?_)
    refine lv_istore_n (lv' := [(3, _), (0, _), (1, _), (2, _)]) hx hb dX10_set_22 rfl hl (by decide) rfl (fun ls hl => ?_)
    refine lv_iload_n hx hb dX10_set_23 rfl (lv_at hl 0 rfl) ?_
    refine lv_iload_n hx hb dX10_set_24 rfl (lv_at hl 3 rfl) ?_
    refine lv_icmp_ne (tgt := 31) hx hb dX10_set_25 (by decide) (fun c25 => ?_) (fun c25 => ?_)
    · have hf := (if_neg c25).symm.trans hf
      refine lv_aload_n hx hb dX10_set_31 rfl (lv_at hl 1 rfl) ?_
      refine z_getr (o := 0) (o2 := 9) (C := RX10) (T := TX10) (N := 8) (ci := 8) (k := 1) hx hb Z hw (by decide) (by omega) rfl inX10 (by decide) rfl wd234 dX10_set_32 ?_
      refine lv_aload_n hx hb dX10_set_35 rfl (lv_at hl 1 rfl) ?_
      refine z_getr (o := 0) (o2 := 1) (C := RX10) (T := TX10) (N := 8) (ci := 8) (k := 0) hx hb Z hw (by decide) (by omega) rfl inX10 (by decide) rfl wd233 dX10_set_36 ?_
      obtain ⟨q39, hq39, hf⟩ := tb_ex hf
      refine z_callVv (o := 9) (ci := 5) (As := [.ref (ra G 1)]) (rest := []) (t_X6_copyFrom G l hN 9 (by decide) (by omega) 1 (by decide) (by omega) h hq39) cv_X6_copyFrom hx hb hml hl.1 Z hw (by decide) (by decide) (by omega) rfl rfl wd269 rfl rfl (Nat.le_of_ble_eq_true rfl) (by decide) dX10_set_39 (fun H locs hw => ?_)
      refine lv_aload_n hx hb dX10_set_42 rfl (lv_at hl 1 rfl) ?_
      refine z_getr (o := 0) (o2 := 1) (C := RX10) (T := TX10) (N := 8) (ci := 8) (k := 0) hx hb Z hw (by decide) (by omega) rfl inX10 (by decide) rfl wd233 dX10_set_43 ?_
      refine z_getr (o := 1) (o2 := 2) (C := RX6) (T := TX6) (N := 4) (ci := 5) (k := 0) hx hb Z hw (by decide) (by omega) rfl inX6 (by decide) rfl wd145 dX10_set_46 ?_
      refine lv_iload_n hx hb dX10_set_49 rfl (lv_at hl 2 rfl) ?_
      refine lv_iload_n hx hb dX10_set_50 rfl (lv_at hl 3 rfl) ?_
      obtain ⟨q51, hq51, hf⟩ := tb_ex hf
      refine z_callVv (o := 2) (ci := 4) (As := [.int x1, .int x2]) (rest := []) (t_X5_change G l hN 2 (by decide) (by omega) x1 x2 q39 hq51) cv_X5_change hx hb hml hl.1 Z hw (by decide) (by decide) (by omega) rfl rfl wd293 rfl rfl (Nat.le_of_ble_eq_true rfl) (by decide) dX10_set_51 (fun H locs hw => ?_)
      refine lv_iload_n hx hb dX10_set_54 rfl (lv_at hl 2 rfl) ?_
      refine lv_iconst (v := (1 : Int32)) hx hb dX10_set_55 (by decide) ?_
      obtain ⟨j56, hqj56, hf⟩ := tb_ex hf
      have HJ76 : ∀ (ls : Array Slot) (H : Heap) (locs : List Loc), lv_has ls 4 [(0, .ref (ra G 0)), (3, .int (f_X5_settingAt 2 x1 h))] → HW G j56 s H locs → WZ p l e 4 s m args below meth c G (some (.int r)) h' H locs (F0 m 76 ls []) := by
        intro ls H locs hl hw
        refine lv_aload_n hx hb dX10_set_76 rfl (lv_at hl 0 rfl) ?_
        refine lv_iload_n hx hb dX10_set_77 rfl (lv_at hl 1 rfl) ?_
        obtain ⟨q78, hq78, hf⟩ := ob_some hf
        refine z_callVi (o := 0) (ci := 8) (As := [.int (f_X5_settingAt 2 x1 h)]) (rest := []) (t_X10_recorded G l hN (f_X5_settingAt 2 x1 h) j56 hq78) cv_X10_recorded hx hb hml hl.1 Z hw (by decide) (by decide) (by omega) rfl rfl wd305 rfl rfl (Nat.le_of_ble_eq_true rfl) (by decide) dX10_set_78 (fun H locs hw => ?_)
        obtain ⟨rfl, rfl⟩ := Prod.mk.inj (Option.some.inj hf)
        exact z_iret hx hb hr hlk hw dX10_set_81
      have hf := hqj56
      refine lv_icmp_gt (tgt := 76) hx hb dX10_set_56 (by decide) (fun c56 => ?_) (fun c56 => ?_)
      · have hf := (if_pos c56).symm.trans hf
        subst hf
        exact HJ76 ls H locs (lv_sub hl [1, 0] rfl) hw
      · have hf := (if_neg c56).symm.trans hf
        refine lv_aload_n hx hb dX10_set_59 rfl (lv_at hl 1 rfl) ?_
        refine z_getr (o := 0) (o2 := 1) (C := RX10) (T := TX10) (N := 8) (ci := 8) (k := 0) hx hb Z hw (by decide) (by omega) rfl inX10 (by decide) rfl wd233 dX10_set_60 ?_
        refine z_getr (o := 1) (o2 := 8) (C := RX6) (T := TX6) (N := 4) (ci := 5) (k := 3) hx hb Z hw (by decide) (by omega) rfl inX6 (by decide) rfl wd152 dX10_set_63 ?_
        refine lv_aload_n hx hb dX10_set_66 rfl (lv_at hl 1 rfl) ?_
        refine z_getr (o := 0) (o2 := 1) (C := RX10) (T := TX10) (N := 8) (ci := 8) (k := 0) hx hb Z hw (by decide) (by omega) rfl inX10 (by decide) rfl wd233 dX10_set_67 ?_
        refine z_getr (o := 1) (o2 := 2) (C := RX6) (T := TX6) (N := 4) (ci := 5) (k := 0) hx hb Z hw (by decide) (by omega) rfl inX6 (by decide) rfl wd145 dX10_set_70 ?_
        obtain ⟨q73, hq73, hf⟩ := tb_ex hf
        refine z_callVv (o := 8) (ci := 0) (As := [.ref (ra G 2)]) (rest := []) (t_X1_goToStart G l hN 8 (by decide) (by omega) 2 (by decide) (by omega) q51 hq73) cv_X1_goToStart hx hb hml hl.1 Z hw (by decide) (by decide) (by omega) rfl rfl wd297 rfl rfl (Nat.le_of_ble_eq_true rfl) (by decide) dX10_set_73 (fun H locs hw => ?_)
        subst hf
        exact HJ76 ls H locs (lv_sub hl [1, 0] rfl) hw
    · have hf := (if_pos c25).symm.trans hf
      refine lv_bipush (v := (-5 : Int32)) hx hb dX10_set_28 (by decide) ?_
      obtain ⟨rfl, rfl⟩ := Prod.mk.inj (Option.some.inj hf)
      exact z_iret hx hb hr hlk hw dX10_set_30
  · have hf := (if_pos c5).symm.trans hf
    refine lv_bipush (v := (-2 : Int32)) hx hb dX10_set_8 (by decide) ?_
    obtain ⟨rfl, rfl⟩ := Prod.mk.inj (Option.some.inj hf)
    exact z_iret hx hb hr hlk hw dX10_set_10
set_option maxHeartbeats 4000000 in
set_option maxRecDepth 100000 in
theorem t_X1_isNear (G : GM) (l : Launch) (hN : 70 ≤ gN G) (o0 : Nat) (k_o0 : kd o0 = 0) (n_o0 : o0 < gN G) (x1 : Int32) (o2 : Nat) (k_o2 : kd o2 = 4) (n_o2 : o2 < gN G) (h : HP) : MC G l yX1_isNear cX1_isNear 3 (some .boolean) 0 [.ref (ra G o0), .int x1, .ref (ra G o2)] h h (some (.int (f_X1_isNear o0 x1 o2 h))) := by
  generalize hf : f_X1_isNear o0 x1 o2 h = r
  unfold f_X1_isNear at hf
  refine z_start (by decide) (Nat.le_of_ble_eq_true rfl) ?_
  intro p e s m args below meth c ls hx hb hr hlk hml Z hw hl
  have Z : ZK G s args m RX1 := Z
  have hl : lv_has ls 3 [(0, .ref (ra G o0)), (1, .int x1), (2, .ref (ra G o2))] := hl
  obtain ⟨H, hH⟩ : ∃ H, H = s.heap := ⟨_, rfl⟩
  rw [← hH] at hw ⊢
  obtain ⟨locs, hlc⟩ : ∃ locs : List Loc, locs = [] := ⟨_, rfl⟩
  rw [← hlc] at hw ⊢
  refine lv_aload_n hx hb dX1_isNear_0 rfl (lv_at hl 0 rfl) ?_
  refine z_geti (o := o0) (C := RX1) (T := TX1) (N := 6) (ci := 0) (k := 1) hx hb Z hw k_o0 n_o0 rfl inX1 (by decide) wd120 dX1_isNear_1 ?_
  refine lv_iload_n hx hb dX1_isNear_4 rfl (lv_at hl 1 rfl) ?_
  refine lv_isub hx hb dX1_isNear_5 ?_
  refine z_mabs hx hb (hml.trans hl.1.symm) Z wd544 wd545 wd35 wd546 (Nat.le_of_ble_eq_true rfl) dX1_isNear_6 ?_
  refine lv_aload_n hx hb dX1_isNear_9 rfl (lv_at hl 2 rfl) ?_
  refine z_geti (o := o2) (C := RX5) (T := TX5) (N := 6) (ci := 4) (k := 3) hx hb Z hw k_o2 n_o2 rfl inX5 (by decide) wd61 dX1_isNear_10 ?_
  refine lv_icmp_gt (tgt := 20) hx hb dX1_isNear_13 (by decide) (fun c13 => ?_) (fun c13 => ?_)
  · have hf := (if_pos c13).symm.trans hf
    refine lv_iconst (v := (0 : Int32)) hx hb dX1_isNear_20 (by decide) ?_
    obtain rfl := hf
    exact z_zret hx hb hr rfl hlk hw dX1_isNear_21
  · have hf := (if_neg c13).symm.trans hf
    refine lv_iconst (v := (1 : Int32)) hx hb dX1_isNear_16 (by decide) ?_
    refine lv_goto (tgt := 21) hx hb dX1_isNear_17 (by decide) ?_
    obtain rfl := hf
    exact z_zret hx hb hr rfl hlk hw dX1_isNear_21
set_option maxHeartbeats 4000000 in
set_option maxRecDepth 100000 in
theorem t_X1_spin (G : GM) (l : Launch) (hN : 70 ≤ gN G) (o0 : Nat) (k_o0 : kd o0 = 0) (n_o0 : o0 < gN G) (x1 : Int32) (x2 : Int32) (o3 : Nat) (k_o3 : kd o3 = 4) (n_o3 : o3 < gN G) (h : HP) {h' : HP} (hf : f_X1_spin o0 x1 x2 o3 h = h') : MC G l yX1_spin cX1_spin 5 none 0 [.ref (ra G o0), .int x1, .int x2, .ref (ra G o3)] h h' none := by
  unfold f_X1_spin at hf
  refine z_start (by decide) (Nat.le_of_ble_eq_true rfl) ?_
  intro p e s m args below meth c ls hx hb hr hlk hml Z hw hl
  have Z : ZK G s args m RX1 := Z
  have hl : lv_has ls 5 [(0, .ref (ra G o0)), (1, .int x1), (2, .int x2), (3, .ref (ra G o3))] := hl
  obtain ⟨H, hH⟩ : ∃ H, H = s.heap := ⟨_, rfl⟩
  rw [← hH] at hw ⊢
  obtain ⟨locs, hlc⟩ : ∃ locs : List Loc, locs = [] := ⟨_, rfl⟩
  rw [← hlc] at hw ⊢
  refine lv_iload_n hx hb dX1_spin_0 rfl (lv_at hl 1 rfl) ?_
  refine lv_aload_n hx hb dX1_spin_1 rfl (lv_at hl 3 rfl) ?_
  refine z_geti (o := o3) (C := RX5) (T := TX5) (N := 6) (ci := 4) (k := 2) hx hb Z hw k_o3 n_o3 rfl inX5 (by decide) wd59 dX1_spin_2 ?_
  refine lv_imul hx hb dX1_spin_5 ?_
  refine lv_istore (lv' := [(4, _), (0, _), (1, _), (2, _), (3, _)]) hx hb dX1_spin_6 hl (by decide) rfl (fun ls hl => ?_)
  refine lv_aload_n hx hb dX1_spin_8 rfl (lv_at hl 1 rfl) ?_
  refine lv_aload_n hx hb dX1_spin_9 rfl (lv_at hl 1 rfl) ?_
  refine z_geti (o := o0) (C := RX1) (T := TX1) (N := 6) (ci := 0) (k := 1) hx hb Z hw k_o0 n_o0 rfl inX1 (by decide) wd120 dX1_spin_10 ?_
  refine lv_iload_n hx hb dX1_spin_13 rfl (lv_at hl 3 rfl) ?_
  have HJ42 : ∀ (ls : Array Slot) (H : Heap) (locs : List Loc), lv_has ls 5 [(0, .ref (ra G o0)), (1, .int x1)] → HW G h s H locs → WZ p l e 0 s m args below meth c G none h' H locs (F0 m 42 ls [.int (if x2 ≤ (h o0 1) then (jmax x2 ((h o0 1) - (x1 * (h o3 2)))) else (jmin x2 ((h o0 1) + (x1 * (h o3 2))))), .ref (ra G o0)]) := by
    intro ls H locs hl hw
    refine z_puti (o := o0) (v := (if x2 ≤ (h o0 1) then (jmax x2 ((h o0 1) - (x1 * (h o3 2)))) else (jmin x2 ((h o0 1) + (x1 * (h o3 2)))))) (ty := .int) (C := RX1) (T := TX1) (N := 6) (ci := 0) (k := 1) hx hb Z hw k_o0 n_o0 rfl inX1 tyX1 tyX1_ok nmX1 (by decide) wd120 rfl (by decide +kernel) rfl rfl dX1_spin_42 (fun H locs hw => ?_)
    refine lv_aload_n hx hb dX1_spin_45 rfl (lv_at hl 0 rfl) ?_
    refine lv_dup hx hb dX1_spin_46 rfl ?_
    obtain ⟨h47, hqh47, hf⟩ := tb_ex hf
    rw [hqh47] at hw
    refine z_geti (o := o0) (C := RX1) (T := TX1) (N := 6) (ci := 0) (k := 2) hx hb Z hw k_o0 n_o0 rfl inX1 (by decide) wd122 dX1_spin_47 ?_
    refine lv_iload_n hx hb dX1_spin_50 rfl (lv_at hl 1 rfl) ?_
    refine lv_iadd hx hb dX1_spin_51 ?_
    refine z_puti (o := o0) (v := (h47 o0 2) + x1) (ty := .int) (C := RX1) (T := TX1) (N := 6) (ci := 0) (k := 2) hx hb Z hw k_o0 n_o0 rfl inX1 tyX1 tyX1_ok nmX1 (by decide) wd122 rfl (by decide +kernel) rfl rfl dX1_spin_52 (fun H locs hw => ?_)
    obtain rfl := hf
    exact z_vret hx hb hr hlk hw dX1_spin_55
  refine lv_icmp_ge (tgt := 31) hx hb dX1_spin_14 (by decide) (fun c14 => ?_) (fun c14 => ?_)
  · skip
    refine lv_iload_n hx hb dX1_spin_31 rfl (lv_at hl 3 rfl) ?_
    refine lv_aload_n hx hb dX1_spin_32 rfl (lv_at hl 1 rfl) ?_
    refine z_geti (o := o0) (C := RX1) (T := TX1) (N := 6) (ci := 0) (k := 1) hx hb Z hw k_o0 n_o0 rfl inX1 (by decide) wd120 dX1_spin_33 ?_
    refine lv_iload hx hb dX1_spin_36 (lv_at hl 0 rfl) ?_
    refine lv_isub hx hb dX1_spin_38 ?_
    refine z_mmax hx hb (hml.trans hl.1.symm) Z wd539 wd387 wd35 wd388 (Nat.le_of_ble_eq_true rfl) dX1_spin_39 ?_
    refine W.eq (g2 := F0 m 42 ls [.int (if x2 ≤ (h o0 1) then (jmax x2 ((h o0 1) - (x1 * (h o3 2)))) else (jmin x2 ((h o0 1) + (x1 * (h o3 2))))), .ref (ra G o0)]) ?_ (HJ42 ls H locs (lv_sub hl [1, 2] rfl) hw)
    simp only [if_pos c14]
  · skip
    refine lv_iload_n hx hb dX1_spin_17 rfl (lv_at hl 3 rfl) ?_
    refine lv_aload_n hx hb dX1_spin_18 rfl (lv_at hl 1 rfl) ?_
    refine z_geti (o := o0) (C := RX1) (T := TX1) (N := 6) (ci := 0) (k := 1) hx hb Z hw k_o0 n_o0 rfl inX1 (by decide) wd120 dX1_spin_19 ?_
    refine lv_iload hx hb dX1_spin_22 (lv_at hl 0 rfl) ?_
    refine lv_iadd hx hb dX1_spin_24 ?_
    refine z_mmin hx hb (hml.trans hl.1.symm) Z wd538 wd380 wd35 wd381 (Nat.le_of_ble_eq_true rfl) dX1_spin_25 ?_
    refine lv_goto (tgt := 42) hx hb dX1_spin_28 (by decide) ?_
    refine W.eq (g2 := F0 m 42 ls [.int (if x2 ≤ (h o0 1) then (jmax x2 ((h o0 1) - (x1 * (h o3 2)))) else (jmin x2 ((h o0 1) + (x1 * (h o3 2))))), .ref (ra G o0)]) ?_ (HJ42 ls H locs (lv_sub hl [1, 2] rfl) hw)
    simp only [if_neg c14]
set_option maxHeartbeats 4000000 in
set_option maxRecDepth 100000 in
theorem w_X5_turnOf_L2 (G : GM) (l : Launch) (hN : 70 ≤ gN G) (o0 : Nat) (k_o0 : kd o0 = 4) (n_o0 : o0 < gN G) {p : Program} {e : Env} {s : State} {m : MethodId} {args : Array Value} {below : List Frame} {meth : Method} {c : Code} (hx : p.tables.exec = Jvm.exec) (hb : c.code = cX5_turnOf) (hr : meth.sig.returnType = (some .int)) (hlk : meth.locks = false) (hml : c.maxLocals = 3) (Z : ZK G s args m RX5) : ∀ (n : Nat) (x1 : Int32) (x2 : Int32)  (h : HP)  (rv : Option Value) (hq : HP) (ls : Array Slot) (H : Heap) (locs : List Loc) {q : Int32}, lv_has ls 3 [(0, .ref (ra G o0)), (1, .int x1), (2, .int x2)] → HW G h s H locs → f_X5_turnOf_L2 n o0 x1 x2 h = some q → (∀ (ls : Array Slot) (H : Heap) (locs : List Loc), lv_has ls 3 [(2, .int q)] → HW G h s H locs → WZ p l e 1 s m args below meth c G rv hq H locs (F0 m 25 ls [])) → WZ p l e 1 s m args below meth c G rv hq H locs (F0 m 2 ls []) := by
  intro n
  induction n with
  | zero => intro x1 x2  h  rv hq ls H locs q hl hw hf kk; cases hf
  | succ n ih =>
    intro x1 x2  h  rv hq ls H locs q hl hw hf kk
    rw [f_X5_turnOf_L2] at hf
    refine lv_iload_n hx hb dX5_turnOf_2 rfl (lv_at hl 2 rfl) ?_
    refine lv_bipush (v := (29 : Int32)) hx hb dX5_turnOf_3 (by decide) ?_
    refine lv_icmp_ge (tgt := 25) hx hb dX5_turnOf_5 (by decide) (fun c5 => ?_) (fun c5 => ?_)
    · have hf := (if_pos c5).symm.trans hf
      obtain rfl := Option.some.inj hf
      exact kk ls H locs (lv_sub hl [2] rfl) hw
    · have hf := (if_neg c5).symm.trans hf
      refine lv_iload_n hx hb dX5_turnOf_8 rfl (lv_at hl 1 rfl) ?_
      refine lv_aload_n hx hb dX5_turnOf_9 rfl (lv_at hl 0 rfl) ?_
      refine lv_iload_n hx hb dX5_turnOf_10 rfl (lv_at hl 2 rfl) ?_
      refine lv_iconst (v := (1 : Int32)) hx hb dX5_turnOf_11 (by decide) ?_
      refine lv_iadd hx hb dX5_turnOf_12 ?_
      refine z_callVi (o := o0) (ci := 4) (As := [.int (x2 + (1 : Int32))]) (rest := [.int x1]) (t_X5_firstOf G l hN o0 k_o0 n_o0 (x2 + (1 : Int32)) h) cv_X5_firstOf hx hb hml hl.1 Z hw k_o0 (by decide) n_o0 rfl rfl wd330 rfl rfl (Nat.le_of_ble_eq_true rfl) (by decide) dX5_turnOf_13 (fun H locs hw => ?_)
      refine lv_icmp_lt (tgt := 25) hx hb dX5_turnOf_16 (by decide) (fun c16 => ?_) (fun c16 => ?_)
      · have hf := (if_pos c16).symm.trans hf
        obtain rfl := Option.some.inj hf
        exact kk ls H locs (lv_sub hl [2] rfl) hw
      · have hf := (if_neg c16).symm.trans hf
        refine lv_iinc (v := x2 + (1 : Int32)) (lv' := [(2, _), (0, _), (1, _)]) hx hb dX5_turnOf_19 hl (k := 2) rfl rfl (by decide) rfl (fun ls hl => ?_)
        refine lv_goto (tgt := 2) hx hb dX5_turnOf_22 (by decide) ?_
        exact ih x1 (x2 + (1 : Int32)) h  rv hq ls H locs (lv_sub hl [1, 2, 0] rfl) hw hf kk
set_option maxHeartbeats 4000000 in
set_option maxRecDepth 100000 in
theorem t_X5_turnOf (G : GM) (l : Launch) (hN : 70 ≤ gN G) (o0 : Nat) (k_o0 : kd o0 = 4) (n_o0 : o0 < gN G) (x1 : Int32) (h : HP) {r : Int32} (hf : f_X5_turnOf o0 x1 h = some r) : MC G l yX5_turnOf cX5_turnOf 3 (some .int) 1 [.ref (ra G o0), .int x1] h h (some (.int r)) := by
  unfold f_X5_turnOf at hf
  refine z_start (by decide) (Nat.le_of_ble_eq_true rfl) ?_
  intro p e s m args below meth c ls hx hb hr hlk hml Z hw hl
  have Z : ZK G s args m RX5 := Z
  have hl : lv_has ls 3 [(0, .ref (ra G o0)), (1, .int x1)] := hl
  obtain ⟨H, hH⟩ : ∃ H, H = s.heap := ⟨_, rfl⟩
  rw [← hH] at hw ⊢
  obtain ⟨locs, hlc⟩ : ∃ locs : List Loc, locs = [] := ⟨_, rfl⟩
  rw [← hlc] at hw ⊢
  refine lv_iconst (v := (0 : Int32)) hx hb dX5_turnOf_0 (by decide) ?_
  refine lv_istore_n (lv' := [(2, _), (0, _), (1, _)]) hx hb dX5_turnOf_1 rfl hl (by decide) rfl (fun ls hl => ?_)
  obtain ⟨q2, hq2, hf⟩ := ob_some hf
  refine w_X5_turnOf_L2 G l hN o0 k_o0 n_o0 hx hb hr hlk hml Z FU x1 (0 : Int32) h  _ _ ls H locs (lv_sub hl [1, 2, 0] rfl) hw hq2 (fun ls H locs hl hw => ?_)
  refine lv_iload_n hx hb dX5_turnOf_25 rfl (lv_at hl 0 rfl) ?_
  obtain rfl := Option.some.inj hf
  exact z_iret hx hb hr hlk hw dX5_turnOf_26
set_option maxHeartbeats 4000000 in
set_option maxRecDepth 100000 in
theorem t_X7_isDamaged (G : GM) (l : Launch) (hN : 70 ≤ gN G) (x1 : Int32) (h : HP) : MC G l yX7_isDamaged cX7_isDamaged 2 (some .boolean) 1 [.ref (ra G 63), .int x1] h h (some (.int (f_X7_isDamaged x1 h))) := by
  generalize hf : f_X7_isDamaged x1 h = r
  unfold f_X7_isDamaged at hf
  refine z_start (by decide) (Nat.le_of_ble_eq_true rfl) ?_
  intro p e s m args below meth c ls hx hb hr hlk hml Z hw hl
  have Z : ZK G s args m RX7 := Z
  have hl : lv_has ls 2 [(0, .ref (ra G 63)), (1, .int x1)] := hl
  obtain ⟨H, hH⟩ : ∃ H, H = s.heap := ⟨_, rfl⟩
  rw [← hH] at hw ⊢
  obtain ⟨locs, hlc⟩ : ∃ locs : List Loc, locs = [] := ⟨_, rfl⟩
  rw [← hlc] at hw ⊢
  refine lv_aload_n hx hb dX7_isDamaged_0 rfl (lv_at hl 0 rfl) ?_
  refine z_getr (o := 63) (o2 := 67) (C := RX7) (T := TX7) (N := 4) (ci := 6) (k := 2) hx hb Z hw (by decide) (by omega) rfl inX7 (by decide) rfl wd220 dX7_isDamaged_1 ?_
  refine lv_iload_n hx hb dX7_isDamaged_4 rfl (lv_at hl 1 rfl) ?_
  refine z_callNi (As := [.ref (ra G 67), .int x1]) (rest := []) (t_X10_at G l hN 67 (by decide) (by omega) x1 h) cs_X10_at hx hb hml hl.1 Z hw wd408 rfl rfl (Nat.le_of_ble_eq_true rfl) (by decide) dX7_isDamaged_5 (fun H locs hw => ?_)
  refine lv_if_eq (tgt := 15) hx hb dX7_isDamaged_8 (by decide) (fun c8 => ?_) (fun c8 => ?_)
  · have hf := (if_pos c8).symm.trans hf
    refine lv_iconst (v := (0 : Int32)) hx hb dX7_isDamaged_15 (by decide) ?_
    obtain rfl := hf
    exact z_zret hx hb hr rfl hlk hw dX7_isDamaged_16
  · have hf := (if_neg c8).symm.trans hf
    refine lv_iconst (v := (1 : Int32)) hx hb dX7_isDamaged_11 (by decide) ?_
    refine lv_goto (tgt := 16) hx hb dX7_isDamaged_12 (by decide) ?_
    obtain rfl := hf
    exact z_zret hx hb hr rfl hlk hw dX7_isDamaged_16
set_option maxHeartbeats 4000000 in
set_option maxRecDepth 100000 in
theorem w_X1_readFrames_L15 (G : GM) (l : Launch) (hN : 70 ≤ gN G) (o0 : Nat) (k_o0 : kd o0 = 0) (n_o0 : o0 < gN G) (o2 : Nat) (k_o2 : kd o2 = 4) (n_o2 : o2 < gN G) {p : Program} {e : Env} {s : State} {m : MethodId} {args : Array Value} {below : List Frame} {meth : Method} {c : Code} (hx : p.tables.exec = Jvm.exec) (hb : c.code = cX1_readFrames) (hr : meth.sig.returnType = (some .int)) (hlk : meth.locks = false) (hml : c.maxLocals = 9) (Z : ZK G s args m RX1) : ∀ (n : Nat) (x1 : Int32) (x4 : Int32) (x5 : Int32) (x6 : Int32) (x7 : Int32)  (h : HP)  (rv : Option Value) (hq : HP) (ls : Array Slot) (H : Heap) (locs : List Loc) {q : Int32 × Int32 × HP}, lv_has ls 9 [(0, .ref (ra G o0)), (1, .int x1), (2, .ref (ra G o2)), (3, .ref (ra G 63)), (4, .int x4), (5, .int x5), (6, .int x6), (7, .int x7)] → HW G h s H locs → f_X1_readFrames_L15 n o0 o2 x1 x4 x5 x6 x7 h = some q → (∀ (ls : Array Slot) (H : Heap) (locs : List Loc), lv_has ls 9 [(0, .ref (ra G o0)), (4, .int q.1), (5, .int q.2.1)] → HW G q.2.2 s H locs → WZ p l e 2 s m args below meth c G rv hq H locs (F0 m 109 ls [])) → WZ p l e 2 s m args below meth c G rv hq H locs (F0 m 15 ls []) := by
  intro n
  induction n with
  | zero => intro x1 x4 x5 x6 x7  h  rv hq ls H locs q hl hw hf kk; cases hf
  | succ n ih =>
    intro x1 x4 x5 x6 x7  h  rv hq ls H locs q hl hw hf kk
    rw [f_X1_readFrames_L15] at hf
    refine lv_iload hx hb dX1_readFrames_15 (lv_at hl 7 rfl) ?_
    refine lv_ldc (v := (100000 : Int32)) hx hb Z.2.1 (Z.1 _ wd532) dX1_readFrames_17 ?_
    refine lv_icmp_ge (tgt := 109) hx hb dX1_readFrames_19 (by decide) (fun c19 => ?_) (fun c19 => ?_)
    · have hf := (if_pos c19).symm.trans hf
      obtain rfl := Option.some.inj hf
      exact kk ls H locs (lv_sub hl [0, 4, 5] rfl) hw
    · have hf := (if_neg c19).symm.trans hf
      refine lv_iload hx hb dX1_readFrames_22 (lv_at hl 4 rfl) ?_
      refine lv_iload_n hx hb dX1_readFrames_24 rfl (lv_at hl 1 rfl) ?_
      refine lv_icmp_ge (tgt := 109) hx hb dX1_readFrames_25 (by decide) (fun c25 => ?_) (fun c25 => ?_)
      · have hf := (if_pos c25).symm.trans hf
        obtain rfl := Option.some.inj hf
        exact kk ls H locs (lv_sub hl [0, 4, 5] rfl) hw
      · have hf := (if_neg c25).symm.trans hf
        refine lv_aload_n hx hb dX1_readFrames_28 rfl (lv_at hl 0 rfl) ?_
        refine z_geti (o := o0) (C := RX1) (T := TX1) (N := 6) (ci := 0) (k := 0) hx hb Z hw k_o0 n_o0 rfl inX1 (by decide) wd118 dX1_readFrames_29 ?_
        refine lv_iload hx hb dX1_readFrames_32 (lv_at hl 6 rfl) ?_
        refine lv_icmp_ge (tgt := 109) hx hb dX1_readFrames_34 (by decide) (fun c34 => ?_) (fun c34 => ?_)
        · have hf := (if_pos c34).symm.trans hf
          obtain rfl := Option.some.inj hf
          exact kk ls H locs (lv_sub hl [0, 4, 5] rfl) hw
        · have hf := (if_neg c34).symm.trans hf
          refine lv_aload_n hx hb dX1_readFrames_37 rfl (lv_at hl 2 rfl) ?_
          refine lv_aload_n hx hb dX1_readFrames_38 rfl (lv_at hl 2 rfl) ?_
          refine lv_aload_n hx hb dX1_readFrames_39 rfl (lv_at hl 0 rfl) ?_
          refine z_geti (o := o0) (C := RX1) (T := TX1) (N := 6) (ci := 0) (k := 0) hx hb Z hw k_o0 n_o0 rfl inX1 (by decide) wd118 dX1_readFrames_40 ?_
          obtain ⟨q43, hq43, hf⟩ := ob_some hf
          refine z_callVi (o := o2) (ci := 4) (As := [.int (h o0 0)]) (rest := [.ref (ra G o2)]) (t_X5_turnOf G l hN o2 k_o2 n_o2 (h o0 0) h hq43) cv_X5_turnOf hx hb hml hl.1 Z hw k_o2 (by decide) n_o2 rfl rfl wd533 rfl rfl (Nat.le_of_ble_eq_true rfl) (by decide) dX1_readFrames_43 (fun H locs hw => ?_)
          refine z_callVi (o := o2) (ci := 4) (As := [.int q43]) (rest := []) (t_X5_framesOf G l hN o2 k_o2 n_o2 q43 h) cv_X5_framesOf hx hb hml hl.1 Z hw k_o2 (by decide) n_o2 rfl rfl wd301 rfl rfl (Nat.le_of_ble_eq_true rfl) (by decide) dX1_readFrames_46 (fun H locs hw => ?_)
          refine lv_istore (lv' := [(8, _), (0, _), (1, _), (2, _), (3, _), (4, _), (5, _), (6, _), (7, _)]) hx hb dX1_readFrames_49 hl (by decide) rfl (fun ls hl => ?_)
          refine lv_aload_n hx hb dX1_readFrames_51 rfl (lv_at hl 1 rfl) ?_
          refine lv_iconst (v := (1 : Int32)) hx hb dX1_readFrames_52 (by decide) ?_
          refine lv_iload hx hb dX1_readFrames_53 (lv_at hl 0 rfl) ?_
          refine lv_aload_n hx hb dX1_readFrames_55 rfl (lv_at hl 3 rfl) ?_
          obtain ⟨q56, hq56, hf⟩ := tb_ex hf
          refine z_callVv (o := o0) (ci := 0) (As := [.int (1 : Int32), .int (f_X5_framesOf o2 q43 h), .ref (ra G o2)]) (rest := []) (t_X1_spin G l hN o0 k_o0 n_o0 (1 : Int32) (f_X5_framesOf o2 q43 h) o2 k_o2 n_o2 h hq56) cv_X1_spin hx hb hml hl.1 Z hw k_o0 (by decide) n_o0 rfl rfl wd534 rfl rfl (Nat.le_of_ble_eq_true rfl) (by decide) dX1_readFrames_56 (fun H locs hw => ?_)
          refine lv_aload_n hx hb dX1_readFrames_59 rfl (lv_at hl 1 rfl) ?_
          refine lv_iload hx hb dX1_readFrames_60 (lv_at hl 0 rfl) ?_
          refine lv_aload_n hx hb dX1_readFrames_62 rfl (lv_at hl 3 rfl) ?_
          refine z_callVi (o := o0) (ci := 0) (As := [.int (f_X5_framesOf o2 q43 h), .ref (ra G o2)]) (rest := []) (t_X1_isNear G l hN o0 k_o0 n_o0 (f_X5_framesOf o2 q43 h) o2 k_o2 n_o2 q56) cv_X1_isNear hx hb hml hl.1 Z hw k_o0 (by decide) n_o0 rfl rfl wd540 rfl rfl (Nat.le_of_ble_eq_true rfl) (by decide) dX1_readFrames_63 (fun H locs hw => ?_)
          obtain ⟨j66, hqj66, hf⟩ := tb_ex hf
          have HJ103 : ∀ (ls : Array Slot) (H : Heap) (locs : List Loc), lv_has ls 9 [(0, .ref (ra G o0)), (1, .int x1), (2, .ref (ra G o2)), (3, .ref (ra G 63)), (4, .int j66.1), (5, .int j66.2.1), (6, .int x6), (7, .int x7)] → HW G j66.2.2 s H locs → WZ p l e 2 s m args below meth c G rv hq H locs (F0 m 103 ls []) := by
            intro ls H locs hl hw
            refine lv_iinc (v := x7 + (1 : Int32)) (lv' := [(7, _), (0, _), (1, _), (2, _), (3, _), (4, _), (5, _), (6, _)]) hx hb dX1_readFrames_103 hl (k := 7) rfl rfl (by decide) rfl (fun ls hl => ?_)
            refine lv_goto (tgt := 15) hx hb dX1_readFrames_106 (by decide) ?_
            exact ih x1 j66.1 j66.2.1 x6 (x7 + (1 : Int32)) j66.2.2  rv hq ls H locs (lv_sub hl [1, 2, 3, 4, 5, 6, 7, 0] rfl) hw hf kk
          have hf := hqj66
          refine lv_if_eq (tgt := 103) hx hb dX1_readFrames_66 (by decide) (fun c66 => ?_) (fun c66 => ?_)
          · have hf := (if_pos c66).symm.trans hf
            subst hf
            exact HJ103 ls H locs (lv_sub hl [1, 2, 3, 4, 5, 6, 7, 8] rfl) hw
          · have hf := (if_neg c66).symm.trans hf
            refine lv_iload hx hb dX1_readFrames_69 (lv_at hl 6 rfl) ?_
            refine lv_aload_n hx hb dX1_readFrames_71 rfl (lv_at hl 4 rfl) ?_
            refine lv_aload_n hx hb dX1_readFrames_72 rfl (lv_at hl 1 rfl) ?_
            refine z_geti (o := o0) (C := RX1) (T := TX1) (N := 6) (ci := 0) (k := 0) hx hb Z hw k_o0 n_o0 rfl inX1 (by decide) wd118 dX1_readFrames_73 ?_
            refine z_callVi (o := 63) (ci := 6) (As := [.int (q56 o0 0)]) (rest := [.int x5]) (t_X7_isDamaged G l hN (q56 o0 0) q56) cv_X7_isDamaged hx hb hml hl.1 Z hw (by decide) (by decide) (by omega) rfl rfl wd547 rfl rfl (Nat.le_of_ble_eq_true rfl) (by decide) dX1_readFrames_76 (fun H locs hw => ?_)
            have HJ87 : ∀ (ls : Array Slot) (H : Heap) (locs : List Loc), lv_has ls 9 [(0, .ref (ra G o0)), (1, .int x1), (2, .ref (ra G o2)), (3, .ref (ra G 63)), (4, .int x4), (6, .int x6), (7, .int x7)] → HW G q56 s H locs → WZ p l e 2 s m args below meth c G rv hq H locs (F0 m 87 ls [.int (if (f_X7_isDamaged (q56 o0 0) q56) = 0 then (1 : Int32) else (0 : Int32)), .int x5]) := by
              intro ls H locs hl hw
              refine lv_iadd hx hb dX1_readFrames_87 ?_
              obtain ⟨v88, hqv88, hf⟩ := tb_ex hf
              refine z_top hqv88 ?_
              refine lv_istore (lv' := [(5, _), (0, _), (1, _), (2, _), (3, _), (4, _), (6, _), (7, _)]) hx hb dX1_readFrames_88 hl (by decide) rfl (fun ls hl => ?_)
              refine lv_iinc (v := x4 + (1 : Int32)) (lv' := [(4, _), (5, _), (0, _), (1, _), (2, _), (3, _), (6, _), (7, _)]) hx hb dX1_readFrames_90 hl (k := 5) rfl rfl (by decide) rfl (fun ls hl => ?_)
              refine lv_aload_n hx hb dX1_readFrames_93 rfl (lv_at hl 2 rfl) ?_
              refine lv_dup hx hb dX1_readFrames_94 rfl ?_
              refine z_geti (o := o0) (C := RX1) (T := TX1) (N := 6) (ci := 0) (k := 0) hx hb Z hw k_o0 n_o0 rfl inX1 (by decide) wd118 dX1_readFrames_95 ?_
              refine lv_iconst (v := (1 : Int32)) hx hb dX1_readFrames_98 (by decide) ?_
              refine lv_iadd hx hb dX1_readFrames_99 ?_
              refine z_puti (o := o0) (v := (q56 o0 0) + (1 : Int32)) (ty := .int) (C := RX1) (T := TX1) (N := 6) (ci := 0) (k := 0) hx hb Z hw k_o0 n_o0 rfl inX1 tyX1 tyX1_ok nmX1 (by decide) wd118 rfl (by decide +kernel) rfl rfl dX1_readFrames_100 (fun H locs hw => ?_)
              subst hf
              exact HJ103 ls H locs (lv_sub hl [2, 3, 4, 5, 0, 1, 6, 7] rfl) hw
            refine lv_if_eq (tgt := 86) hx hb dX1_readFrames_79 (by decide) (fun c79 => ?_) (fun c79 => ?_)
            · skip
              refine lv_iconst (v := (1 : Int32)) hx hb dX1_readFrames_86 (by decide) ?_
              refine W.eq (g2 := F0 m 87 ls [.int (if (f_X7_isDamaged (q56 o0 0) q56) = 0 then (1 : Int32) else (0 : Int32)), .int x5]) ?_ (HJ87 ls H locs (lv_sub hl [1, 2, 3, 4, 5, 7, 8] rfl) hw)
              simp only [if_pos c79]
            · skip
              refine lv_iconst (v := (0 : Int32)) hx hb dX1_readFrames_82 (by decide) ?_
              refine lv_goto (tgt := 87) hx hb dX1_readFrames_83 (by decide) ?_
              refine W.eq (g2 := F0 m 87 ls [.int (if (f_X7_isDamaged (q56 o0 0) q56) = 0 then (1 : Int32) else (0 : Int32)), .int x5]) ?_ (HJ87 ls H locs (lv_sub hl [1, 2, 3, 4, 5, 7, 8] rfl) hw)
              simp only [if_neg c79]
set_option maxHeartbeats 4000000 in
set_option maxRecDepth 100000 in
theorem t_X1_readFrames (G : GM) (l : Launch) (hN : 70 ≤ gN G) (o0 : Nat) (k_o0 : kd o0 = 0) (n_o0 : o0 < gN G) (x1 : Int32) (o2 : Nat) (k_o2 : kd o2 = 4) (n_o2 : o2 < gN G) (h : HP) {r : Int32} {h' : HP} (hf : f_X1_readFrames o0 x1 o2 h = some (r, h')) : MC G l yX1_readFrames cX1_readFrames 9 (some .int) 2 [.ref (ra G o0), .int x1, .ref (ra G o2), .ref (ra G 63)] h h' (some (.int r)) := by
  unfold f_X1_readFrames at hf
  refine z_start (by decide) (Nat.le_of_ble_eq_true rfl) ?_
  intro p e s m args below meth c ls hx hb hr hlk hml Z hw hl
  have Z : ZK G s args m RX1 := Z
  have hl : lv_has ls 9 [(0, .ref (ra G o0)), (1, .int x1), (2, .ref (ra G o2)), (3, .ref (ra G 63))] := hl
  obtain ⟨H, hH⟩ : ∃ H, H = s.heap := ⟨_, rfl⟩
  rw [← hH] at hw ⊢
  obtain ⟨locs, hlc⟩ : ∃ locs : List Loc, locs = [] := ⟨_, rfl⟩
  rw [← hlc] at hw ⊢
  refine lv_iconst (v := (0 : Int32)) hx hb dX1_readFrames_0 (by decide) ?_
  refine lv_istore (lv' := [(4, _), (0, _), (1, _), (2, _), (3, _)]) hx hb dX1_readFrames_1 hl (by decide) rfl (fun ls hl => ?_)
  refine lv_iconst (v := (0 : Int32)) hx hb dX1_readFrames_3 (by decide) ?_
  refine lv_istore (lv' := [(5, _), (4, _), (0, _), (1, _), (2, _), (3, _)]) hx hb dX1_readFrames_4 hl (by decide) rfl (fun ls hl => ?_)
  refine lv_aload_n hx hb dX1_readFrames_6 rfl (lv_at hl 4 rfl) ?_
  refine z_callVi (o := o2) (ci := 4) (As := []) (rest := []) (t_X5_allFrames G l hN o2 k_o2 n_o2 h) cv_X5_allFrames hx hb hml hl.1 Z hw k_o2 (by decide) n_o2 rfl rfl wd531 rfl rfl (Nat.le_of_ble_eq_true rfl) (by decide) dX1_readFrames_7 (fun H locs hw => ?_)
  refine lv_istore (lv' := [(6, _), (5, _), (4, _), (0, _), (1, _), (2, _), (3, _)]) hx hb dX1_readFrames_10 hl (by decide) rfl (fun ls hl => ?_)
  refine lv_iconst (v := (0 : Int32)) hx hb dX1_readFrames_12 (by decide) ?_
  refine lv_istore (lv' := [(7, _), (6, _), (5, _), (4, _), (0, _), (1, _), (2, _), (3, _)]) hx hb dX1_readFrames_13 hl (by decide) rfl (fun ls hl => ?_)
  obtain ⟨q15, hq15, hf⟩ := ob_some hf
  refine w_X1_readFrames_L15 G l hN o0 k_o0 n_o0 o2 k_o2 n_o2 hx hb hr hlk hml Z FU x1 (0 : Int32) (0 : Int32) (f_X5_allFrames o2 h) (0 : Int32) h  _ _ ls H locs (lv_sub hl [4, 5, 6, 7, 3, 2, 1, 0] rfl) hw hq15 (fun ls H locs hl hw => ?_)
  refine lv_aload_n hx hb dX1_readFrames_109 rfl (lv_at hl 0 rfl) ?_
  refine lv_dup hx hb dX1_readFrames_110 rfl ?_
  refine z_geti (o := o0) (C := RX1) (T := TX1) (N := 6) (ci := 0) (k := 3) hx hb Z hw k_o0 n_o0 rfl inX1 (by decide) wd124 dX1_readFrames_111 ?_
  refine lv_iload hx hb dX1_readFrames_114 (lv_at hl 1 rfl) ?_
  refine lv_iadd hx hb dX1_readFrames_116 ?_
  refine z_puti (o := o0) (v := (q15.2.2 o0 3) + q15.1) (ty := .int) (C := RX1) (T := TX1) (N := 6) (ci := 0) (k := 3) hx hb Z hw k_o0 n_o0 rfl inX1 tyX1 tyX1_ok nmX1 (by decide) wd124 rfl (by decide +kernel) rfl rfl dX1_readFrames_117 (fun H locs hw => ?_)
  refine lv_aload_n hx hb dX1_readFrames_120 rfl (lv_at hl 0 rfl) ?_
  refine lv_dup hx hb dX1_readFrames_121 rfl ?_
  obtain ⟨h122, hqh122, hf⟩ := tb_ex hf
  rw [hqh122] at hw
  refine z_geti (o := o0) (C := RX1) (T := TX1) (N := 6) (ci := 0) (k := 4) hx hb Z hw k_o0 n_o0 rfl inX1 (by decide) wd126 dX1_readFrames_122 ?_
  refine lv_iload hx hb dX1_readFrames_125 (lv_at hl 2 rfl) ?_
  refine lv_iadd hx hb dX1_readFrames_127 ?_
  refine z_puti (o := o0) (v := (h122 o0 4) + q15.2.1) (ty := .int) (C := RX1) (T := TX1) (N := 6) (ci := 0) (k := 4) hx hb Z hw k_o0 n_o0 rfl inX1 tyX1 tyX1_ok nmX1 (by decide) wd126 rfl (by decide +kernel) rfl rfl dX1_readFrames_128 (fun H locs hw => ?_)
  refine lv_iload hx hb dX1_readFrames_131 (lv_at hl 2 rfl) ?_
  obtain ⟨rfl, rfl⟩ := Prod.mk.inj (Option.some.inj hf)
  exact z_iret hx hb hr hlk hw dX1_readFrames_133
set_option maxHeartbeats 4000000 in
set_option maxRecDepth 100000 in
theorem t_X10_playFrames (G : GM) (l : Launch) (hN : 70 ≤ gN G) (x1 : Int32) (h : HP) {r : Int32} {h' : HP} (hf : f_X10_playFrames x1 h = some (r, h')) : MC G l yX10_playFrames cX10_playFrames 2 (some .int) 4 [.ref (ra G 0), .int x1] h h' (some (.int r)) := by
  unfold f_X10_playFrames at hf
  refine z_start (by decide) (Nat.le_of_ble_eq_true rfl) ?_
  intro p e s m args below meth c ls hx hb hr hlk hml Z hw hl
  have Z : ZK G s args m RX10 := Z
  have hl : lv_has ls 2 [(0, .ref (ra G 0)), (1, .int x1)] := hl
  obtain ⟨H, hH⟩ : ∃ H, H = s.heap := ⟨_, rfl⟩
  rw [← hH] at hw ⊢
  obtain ⟨locs, hlc⟩ : ∃ locs : List Loc, locs = [] := ⟨_, rfl⟩
  rw [← hlc] at hw ⊢
  refine lv_iload_n hx hb dX10_playFrames_0 rfl (lv_at hl 1 rfl) ?_
  refine lv_iconst (v := (1 : Int32)) hx hb dX10_playFrames_1 (by decide) ?_
  refine lv_icmp_lt (tgt := 12) hx hb dX10_playFrames_2 (by decide) (fun c2 => ?_) (fun c2 => ?_)
  · have hf := (if_pos c2).symm.trans hf
    refine lv_bipush (v := (-2 : Int32)) hx hb dX10_playFrames_12 (by decide) ?_
    obtain ⟨rfl, rfl⟩ := Prod.mk.inj (Option.some.inj hf)
    exact z_iret hx hb hr hlk hw dX10_playFrames_14
  · have hf := (if_neg c2).symm.trans hf
    refine lv_iload_n hx hb dX10_playFrames_5 rfl (lv_at hl 1 rfl) ?_
    refine lv_sipush (v := (999 : Int32)) hx hb dX10_playFrames_6 (by decide) ?_
    refine lv_icmp_le (tgt := 15) hx hb dX10_playFrames_9 (by decide) (fun c9 => ?_) (fun c9 => ?_)
    · have hf := (if_pos c9).symm.trans hf
      refine lv_aload_n hx hb dX10_playFrames_15 rfl (lv_at hl 0 rfl) ?_
      refine z_getr (o := 0) (o2 := 1) (C := RX10) (T := TX10) (N := 8) (ci := 8) (k := 0) hx hb Z hw (by decide) (by omega) rfl inX10 (by decide) rfl wd233 dX10_playFrames_16 ?_
      refine z_getr (o := 1) (o2 := 8) (C := RX6) (T := TX6) (N := 4) (ci := 5) (k := 3) hx hb Z hw (by decide) (by omega) rfl inX6 (by decide) rfl wd152 dX10_playFrames_19 ?_
      refine z_geti (o := 8) (C := RX1) (T := TX1) (N := 6) (ci := 0) (k := 0) hx hb Z hw (by decide) (by omega) rfl inX1 (by decide) wd119 dX10_playFrames_22 ?_
      refine lv_aload_n hx hb dX10_playFrames_25 rfl (lv_at hl 0 rfl) ?_
      refine z_getr (o := 0) (o2 := 1) (C := RX10) (T := TX10) (N := 8) (ci := 8) (k := 0) hx hb Z hw (by decide) (by omega) rfl inX10 (by decide) rfl wd233 dX10_playFrames_26 ?_
      refine z_getr (o := 1) (o2 := 2) (C := RX6) (T := TX6) (N := 4) (ci := 5) (k := 0) hx hb Z hw (by decide) (by omega) rfl inX6 (by decide) rfl wd145 dX10_playFrames_29 ?_
      refine z_callVi (o := 2) (ci := 4) (As := []) (rest := [.int (h 8 0)]) (t_X5_allFrames G l hN 2 (by decide) (by omega) h) cv_X5_allFrames hx hb hml hl.1 Z hw (by decide) (by decide) (by omega) rfl rfl wd326 rfl rfl (Nat.le_of_ble_eq_true rfl) (by decide) dX10_playFrames_32 (fun H locs hw => ?_)
      refine lv_icmp_lt (tgt := 41) hx hb dX10_playFrames_35 (by decide) (fun c35 => ?_) (fun c35 => ?_)
      · have hf := (if_pos c35).symm.trans hf
        refine lv_aload_n hx hb dX10_playFrames_41 rfl (lv_at hl 0 rfl) ?_
        refine z_getr (o := 0) (o2 := 1) (C := RX10) (T := TX10) (N := 8) (ci := 8) (k := 0) hx hb Z hw (by decide) (by omega) rfl inX10 (by decide) rfl wd233 dX10_playFrames_42 ?_
        refine z_getr (o := 1) (o2 := 8) (C := RX6) (T := TX6) (N := 4) (ci := 5) (k := 3) hx hb Z hw (by decide) (by omega) rfl inX6 (by decide) rfl wd152 dX10_playFrames_45 ?_
        refine lv_iload_n hx hb dX10_playFrames_48 rfl (lv_at hl 1 rfl) ?_
        refine lv_aload_n hx hb dX10_playFrames_49 rfl (lv_at hl 0 rfl) ?_
        refine z_getr (o := 0) (o2 := 1) (C := RX10) (T := TX10) (N := 8) (ci := 8) (k := 0) hx hb Z hw (by decide) (by omega) rfl inX10 (by decide) rfl wd233 dX10_playFrames_50 ?_
        refine z_getr (o := 1) (o2 := 2) (C := RX6) (T := TX6) (N := 4) (ci := 5) (k := 0) hx hb Z hw (by decide) (by omega) rfl inX6 (by decide) rfl wd145 dX10_playFrames_53 ?_
        refine lv_aload_n hx hb dX10_playFrames_56 rfl (lv_at hl 0 rfl) ?_
        refine z_getr (o := 0) (o2 := 63) (C := RX10) (T := TX10) (N := 8) (ci := 8) (k := 6) hx hb Z hw (by decide) (by omega) rfl inX10 (by decide) rfl wd239 dX10_playFrames_57 ?_
        refine lv_aload_n hx hb dX10_playFrames_60 rfl (lv_at hl 0 rfl) ?_
        refine z_getr (o := 0) (o2 := 1) (C := RX10) (T := TX10) (N := 8) (ci := 8) (k := 0) hx hb Z hw (by decide) (by omega) rfl inX10 (by decide) rfl wd233 dX10_playFrames_61 ?_
        obtain ⟨q64, hq64, hf⟩ := ob_some hf
        refine z_callVi (o := 63) (ci := 6) (As := [.ref (ra G 1)]) (rest := [.ref (ra G 2), .int x1, .ref (ra G 8)]) (t_X7_of G l hN 1 (by decide) (by omega) h hq64) cv_X7_of hx hb hml hl.1 Z hw (by decide) (by decide) (by omega) rfl rfl wd343 rfl rfl (Nat.le_of_ble_eq_true rfl) (by decide) dX10_playFrames_64 (fun H locs hw => ?_)
        obtain ⟨q67, hq67, hf⟩ := ob_some hf
        refine z_callVi (o := 8) (ci := 0) (As := [.int x1, .ref (ra G 2), .ref (ra G 63)]) (rest := []) (t_X1_readFrames G l hN 8 (by decide) (by omega) x1 2 (by decide) (by omega) q64 hq67) cv_X1_readFrames hx hb hml hl.1 Z hw (by decide) (by decide) (by omega) rfl rfl wd527 rfl rfl (Nat.le_of_ble_eq_true rfl) (by decide) dX10_playFrames_67 (fun H locs hw => ?_)
        obtain ⟨rfl, rfl⟩ := Prod.mk.inj (Option.some.inj hf)
        exact z_iret hx hb hr hlk hw dX10_playFrames_70
      · have hf := (if_neg c35).symm.trans hf
        refine lv_bipush (v := (-5 : Int32)) hx hb dX10_playFrames_38 (by decide) ?_
        obtain ⟨rfl, rfl⟩ := Prod.mk.inj (Option.some.inj hf)
        exact z_iret hx hb hr hlk hw dX10_playFrames_40
    · have hf := (if_neg c9).symm.trans hf
      refine lv_bipush (v := (-2 : Int32)) hx hb dX10_playFrames_12 (by decide) ?_
      obtain ⟨rfl, rfl⟩ := Prod.mk.inj (Option.some.inj hf)
      exact z_iret hx hb hr hlk hw dX10_playFrames_14
set_option maxHeartbeats 4000000 in
set_option maxRecDepth 100000 in
theorem t_X10_play (G : GM) (l : Launch) (hN : 70 ≤ gN G) (x1 : Int32) (h : HP) {r : Int32} {h' : HP} (hf : f_X10_play x1 h = some (r, h')) : MC G l yX10_play cX10_play 2 (some .int) 5 [.ref (ra G 0), .int x1] h h' (some (.int r)) := by
  unfold f_X10_play at hf
  refine z_start (by decide) (Nat.le_of_ble_eq_true rfl) ?_
  intro p e s m args below meth c ls hx hb hr hlk hml Z hw hl
  have Z : ZK G s args m RX10 := Z
  have hl : lv_has ls 2 [(0, .ref (ra G 0)), (1, .int x1)] := hl
  obtain ⟨H, hH⟩ : ∃ H, H = s.heap := ⟨_, rfl⟩
  rw [← hH] at hw ⊢
  obtain ⟨locs, hlc⟩ : ∃ locs : List Loc, locs = [] := ⟨_, rfl⟩
  rw [← hlc] at hw ⊢
  refine lv_aload_n hx hb dX10_play_0 rfl (lv_at hl 0 rfl) ?_
  refine z_getr (o := 0) (o2 := 9) (C := RX10) (T := TX10) (N := 8) (ci := 8) (k := 1) hx hb Z hw (by decide) (by omega) rfl inX10 (by decide) rfl wd234 dX10_play_1 ?_
  refine lv_aload_n hx hb dX10_play_4 rfl (lv_at hl 0 rfl) ?_
  refine z_getr (o := 0) (o2 := 1) (C := RX10) (T := TX10) (N := 8) (ci := 8) (k := 0) hx hb Z hw (by decide) (by omega) rfl inX10 (by decide) rfl wd233 dX10_play_5 ?_
  obtain ⟨q8, hq8, hf⟩ := tb_ex hf
  refine z_callVv (o := 9) (ci := 5) (As := [.ref (ra G 1)]) (rest := []) (t_X6_copyFrom G l hN 9 (by decide) (by omega) 1 (by decide) (by omega) h hq8) cv_X6_copyFrom hx hb hml hl.1 Z hw (by decide) (by decide) (by omega) rfl rfl wd269 rfl rfl (Nat.le_of_ble_eq_true rfl) (by decide) dX10_play_8 (fun H locs hw => ?_)
  refine lv_aload_n hx hb dX10_play_11 rfl (lv_at hl 0 rfl) ?_
  refine lv_aload_n hx hb dX10_play_12 rfl (lv_at hl 0 rfl) ?_
  refine lv_iload_n hx hb dX10_play_13 rfl (lv_at hl 1 rfl) ?_
  obtain ⟨q14, hq14, hf⟩ := ob_some hf
  refine z_callVi (o := 0) (ci := 8) (As := [.int x1]) (rest := [.ref (ra G 0)]) (t_X10_playFrames G l hN x1 q8 hq14) cv_X10_playFrames hx hb hml hl.1 Z hw (by decide) (by decide) (by omega) rfl rfl wd523 rfl rfl (Nat.le_of_ble_eq_true rfl) (by decide) dX10_play_14 (fun H locs hw => ?_)
  obtain ⟨q17, hq17, hf⟩ := ob_some hf
  refine z_callVi (o := 0) (ci := 8) (As := [.int q14.1]) (rest := []) (t_X10_recorded G l hN q14.1 q14.2 hq17) cv_X10_recorded hx hb hml hl.1 Z hw (by decide) (by decide) (by omega) rfl rfl wd305 rfl rfl (Nat.le_of_ble_eq_true rfl) (by decide) dX10_play_17 (fun H locs hw => ?_)
  obtain ⟨rfl, rfl⟩ := Prod.mk.inj (Option.some.inj hf)
  exact z_iret hx hb hr hlk hw dX10_play_20
set_option maxHeartbeats 4000000 in
set_option maxRecDepth 100000 in
theorem t_X1_jump (G : GM) (l : Launch) (hN : 70 ≤ gN G) (o0 : Nat) (k_o0 : kd o0 = 0) (n_o0 : o0 < gN G) (x1 : Int32) (x2 : Int32) (o3 : Nat) (k_o3 : kd o3 = 4) (n_o3 : o3 < gN G) (x4 : Int32) (h : HP) {r : Int32} {h' : HP} (hf : f_X1_jump o0 x1 x2 o3 x4 h = (r, h')) : MC G l yX1_jump cX1_jump 9 (some .int) 1 [.ref (ra G o0), .int x1, .int x2, .ref (ra G o3), .int x4] h h' (some (.int r)) := by
  unfold f_X1_jump at hf
  refine z_start (by decide) (Nat.le_of_ble_eq_true rfl) ?_
  intro p e s m args below meth c ls hx hb hr hlk hml Z hw hl
  have Z : ZK G s args m RX1 := Z
  have hl : lv_has ls 9 [(0, .ref (ra G o0)), (1, .int x1), (2, .int x2), (3, .ref (ra G o3)), (4, .int x4)] := hl
  obtain ⟨H, hH⟩ : ∃ H, H = s.heap := ⟨_, rfl⟩
  rw [← hH] at hw ⊢
  obtain ⟨locs, hlc⟩ : ∃ locs : List Loc, locs = [] := ⟨_, rfl⟩
  rw [← hlc] at hw ⊢
  refine lv_iload_n hx hb dX1_jump_0 rfl (lv_at hl 2 rfl) ?_
  refine lv_iload_n hx hb dX1_jump_1 rfl (lv_at hl 1 rfl) ?_
  refine lv_isub hx hb dX1_jump_2 ?_
  refine lv_istore (lv' := [(5, _), (0, _), (1, _), (2, _), (3, _), (4, _)]) hx hb dX1_jump_3 hl (by decide) rfl (fun ls hl => ?_)
  refine lv_iload hx hb dX1_jump_5 (lv_at hl 0 rfl) ?_
  refine lv_iload hx hb dX1_jump_7 (lv_at hl 5 rfl) ?_
  refine lv_imul hx hb dX1_jump_9 ?_
  refine lv_bipush (v := (100 : Int32)) hx hb dX1_jump_10 (by decide) ?_
  refine lv_idiv hx hb dX1_jump_12 (by decide) ?_
  refine lv_istore (lv' := [(6, _), (5, _), (0, _), (1, _), (2, _), (3, _), (4, _)]) hx hb dX1_jump_13 hl (by decide) rfl (fun ls hl => ?_)
  refine lv_iload hx hb dX1_jump_15 (lv_at hl 0 rfl) ?_
  obtain ⟨j17, hqj17, hf⟩ := tb_ex hf
  have HJ32 : ∀ (ls : Array Slot) (H : Heap) (locs : List Loc), lv_has ls 9 [(0, .ref (ra G o0)), (1, .int x1), (3, .ref (ra G o3)), (6, .int j17)] → HW G h s H locs → WZ p l e 1 s m args below meth c G (some (.int r)) h' H locs (F0 m 32 ls []) := by
    intro ls H locs hl hw
    refine lv_iconst (v := (0 : Int32)) hx hb dX1_jump_32 (by decide) ?_
    refine lv_bipush (v := (29 : Int32)) hx hb dX1_jump_33 (by decide) ?_
    refine lv_iload_n hx hb dX1_jump_35 rfl (lv_at hl 1 rfl) ?_
    refine lv_iload hx hb dX1_jump_36 (lv_at hl 3 rfl) ?_
    refine lv_iadd hx hb dX1_jump_38 ?_
    refine z_mmin hx hb (hml.trans hl.1.symm) Z wd538 wd380 wd35 wd381 (Nat.le_of_ble_eq_true rfl) dX1_jump_39 ?_
    refine z_mmax hx hb (hml.trans hl.1.symm) Z wd539 wd387 wd35 wd388 (Nat.le_of_ble_eq_true rfl) dX1_jump_42 ?_
    obtain ⟨v45, hqv45, hf⟩ := tb_ex hf
    refine z_top hqv45 ?_
    refine lv_istore (lv' := [(7, _), (0, _), (1, _), (3, _), (6, _)]) hx hb dX1_jump_45 hl (by decide) rfl (fun ls hl => ?_)
    refine lv_aload_n hx hb dX1_jump_47 rfl (lv_at hl 3 rfl) ?_
    refine z_geti (o := o3) (C := RX5) (T := TX5) (N := 6) (ci := 4) (k := 5) hx hb Z hw k_o3 n_o3 rfl inX5 (by decide) wd65 dX1_jump_48 ?_
    refine lv_iload hx hb dX1_jump_51 (lv_at hl 0 rfl) ?_
    refine lv_iload_n hx hb dX1_jump_53 rfl (lv_at hl 2 rfl) ?_
    refine lv_isub hx hb dX1_jump_54 ?_
    refine z_mabs hx hb (hml.trans hl.1.symm) Z wd544 wd545 wd35 wd546 (Nat.le_of_ble_eq_true rfl) dX1_jump_55 ?_
    refine lv_iadd hx hb dX1_jump_58 ?_
    refine lv_istore (lv' := [(8, _), (7, _), (0, _), (1, _), (3, _), (6, _)]) hx hb dX1_jump_59 hl (by decide) rfl (fun ls hl => ?_)
    refine lv_aload_n hx hb dX1_jump_61 rfl (lv_at hl 2 rfl) ?_
    refine lv_iload hx hb dX1_jump_62 (lv_at hl 0 rfl) ?_
    refine lv_aload_n hx hb dX1_jump_64 rfl (lv_at hl 4 rfl) ?_
    refine lv_iload hx hb dX1_jump_65 (lv_at hl 1 rfl) ?_
    refine z_callVi (o := o3) (ci := 4) (As := [.int v45]) (rest := [.int ((h o3 5) + (jabs (v45 - x1))), .ref (ra G o0)]) (t_X5_framesOf G l hN o3 k_o3 n_o3 v45 h) cv_X5_framesOf hx hb hml hl.1 Z hw k_o3 (by decide) n_o3 rfl rfl wd301 rfl rfl (Nat.le_of_ble_eq_true rfl) (by decide) dX1_jump_67 (fun H locs hw => ?_)
    refine lv_aload_n hx hb dX1_jump_70 rfl (lv_at hl 4 rfl) ?_
    obtain ⟨q71, hq71, hf⟩ := tb_ex hf
    refine z_callVv (o := o0) (ci := 0) (As := [.int ((h o3 5) + (jabs (v45 - x1))), .int (f_X5_framesOf o3 v45 h), .ref (ra G o3)]) (rest := []) (t_X1_spin G l hN o0 k_o0 n_o0 ((h o3 5) + (jabs (v45 - x1))) (f_X5_framesOf o3 v45 h) o3 k_o3 n_o3 h hq71) cv_X1_spin hx hb hml hl.1 Z hw k_o0 (by decide) n_o0 rfl rfl wd534 rfl rfl (Nat.le_of_ble_eq_true rfl) (by decide) dX1_jump_71 (fun H locs hw => ?_)
    refine lv_aload_n hx hb dX1_jump_74 rfl (lv_at hl 2 rfl) ?_
    refine lv_aload_n hx hb dX1_jump_75 rfl (lv_at hl 4 rfl) ?_
    refine lv_iload hx hb dX1_jump_76 (lv_at hl 1 rfl) ?_
    refine z_callVi (o := o3) (ci := 4) (As := [.int v45]) (rest := [.ref (ra G o0)]) (t_X5_firstOf G l hN o3 k_o3 n_o3 v45 q71) cv_X5_firstOf hx hb hml hl.1 Z hw k_o3 (by decide) n_o3 rfl rfl wd567 rfl rfl (Nat.le_of_ble_eq_true rfl) (by decide) dX1_jump_78 (fun H locs hw => ?_)
    refine z_puti (o := o0) (v := f_X5_firstOf o3 v45 q71) (ty := .int) (C := RX1) (T := TX1) (N := 6) (ci := 0) (k := 0) hx hb Z hw k_o0 n_o0 rfl inX1 tyX1 tyX1_ok nmX1 (by decide) wd118 rfl (by decide +kernel) rfl rfl dX1_jump_81 (fun H locs hw => ?_)
    refine lv_aload_n hx hb dX1_jump_84 rfl (lv_at hl 2 rfl) ?_
    refine lv_dup hx hb dX1_jump_85 rfl ?_
    obtain ⟨h86, hqh86, hf⟩ := tb_ex hf
    rw [hqh86] at hw
    refine z_geti (o := o0) (C := RX1) (T := TX1) (N := 6) (ci := 0) (k := 5) hx hb Z hw k_o0 n_o0 rfl inX1 (by decide) wd128 dX1_jump_86 ?_
    refine lv_iconst (v := (1 : Int32)) hx hb dX1_jump_89 (by decide) ?_
    refine lv_iadd hx hb dX1_jump_90 ?_
    refine z_puti (o := o0) (v := (h86 o0 5) + (1 : Int32)) (ty := .int) (C := RX1) (T := TX1) (N := 6) (ci := 0) (k := 5) hx hb Z hw k_o0 n_o0 rfl inX1 tyX1 tyX1_ok nmX1 (by decide) wd128 rfl (by decide +kernel) rfl rfl dX1_jump_91 (fun H locs hw => ?_)
    refine lv_iload hx hb dX1_jump_94 (lv_at hl 1 rfl) ?_
    obtain ⟨rfl, rfl⟩ := Prod.mk.inj hf
    exact z_iret hx hb hr hlk hw dX1_jump_96
  have hf := hqj17
  refine lv_if_ne (tgt := 32) hx hb dX1_jump_17 (by decide) (fun c17 => ?_) (fun c17 => ?_)
  · have hf := (if_neg c17).symm.trans hf
    subst hf
    exact HJ32 ls H locs (lv_sub hl [2, 3, 5, 0] rfl) hw
  · have hf := (if_pos c17).symm.trans hf
    refine lv_iload hx hb dX1_jump_20 (lv_at hl 1 rfl) ?_
    have HJ30 : ∀ (ls : Array Slot) (H : Heap) (locs : List Loc), lv_has ls 9 [(0, .ref (ra G o0)), (1, .int x1), (3, .ref (ra G o3))] → HW G h s H locs → WZ p l e 1 s m args below meth c G (some (.int r)) h' H locs (F0 m 30 ls [.int (if (x2 - x1) ≤ 0 then (-1 : Int32) else (1 : Int32))]) := by
      intro ls H locs hl hw
      obtain ⟨v30, hqv30, hf⟩ := tb_ex hf
      refine z_top hqv30 ?_
      refine lv_istore (lv' := [(6, _), (0, _), (1, _), (3, _)]) hx hb dX1_jump_30 hl (by decide) rfl (fun ls hl => ?_)
      subst hf
      exact HJ32 ls H locs (lv_sub hl [1, 2, 3, 0] rfl) hw
    refine lv_if_le (tgt := 29) hx hb dX1_jump_22 (by decide) (fun c22 => ?_) (fun c22 => ?_)
    · skip
      refine lv_iconst (v := (-1 : Int32)) hx hb dX1_jump_29 (by decide) ?_
      refine W.eq (g2 := F0 m 30 ls [.int (if (x2 - x1) ≤ 0 then (-1 : Int32) else (1 : Int32))]) ?_ (HJ30 ls H locs (lv_sub hl [2, 3, 5] rfl) hw)
      simp only [if_pos c22]
    · skip
      refine lv_iconst (v := (1 : Int32)) hx hb dX1_jump_25 (by decide) ?_
      refine lv_goto (tgt := 30) hx hb dX1_jump_26 (by decide) ?_
      refine W.eq (g2 := F0 m 30 ls [.int (if (x2 - x1) ≤ 0 then (-1 : Int32) else (1 : Int32))]) ?_ (HJ30 ls H locs (lv_sub hl [2, 3, 5] rfl) hw)
      simp only [if_neg c22]
set_option maxHeartbeats 4000000 in
set_option maxRecDepth 100000 in
theorem w_X1_goTo_L20 (G : GM) (l : Launch) (hN : 70 ≤ gN G) (o0 : Nat) (k_o0 : kd o0 = 0) (n_o0 : o0 < gN G) (o2 : Nat) (k_o2 : kd o2 = 4) (n_o2 : o2 < gN G) {p : Program} {e : Env} {s : State} {m : MethodId} {args : Array Value} {below : List Frame} {meth : Method} {c : Code} (hx : p.tables.exec = Jvm.exec) (hb : c.code = cX1_goTo) (hr : meth.sig.returnType = none) (hlk : meth.locks = false) (hml : c.maxLocals = 8) (Z : ZK G s args m RX1) : ∀ (n : Nat) (x3 : Int32) (x4 : Int32) (x5 : Int32) (x6 : Int32)  (h : HP) (v1 : Int32) (rv : Option Value) (hq : HP) (ls : Array Slot) (H : Heap) (locs : List Loc) {q : HP}, lv_has ls 8 [(0, .ref (ra G o0)), (1, .int v1), (2, .ref (ra G o2)), (3, .int x3), (4, .int x4), (5, .int x5), (6, .int x6)] → HW G h s H locs → f_X1_goTo_L20 n o0 o2 x3 x4 x5 x6 h = some q → (∀ (ls : Array Slot) (H : Heap) (locs : List Loc), lv_has ls 8 [(0, .ref (ra G o0)), (1, .int v1), (2, .ref (ra G o2)), (4, .int x4)] → HW G q s H locs → WZ p l e 2 s m args below meth c G rv hq H locs (F0 m 52 ls [])) → WZ p l e 2 s m args below meth c G rv hq H locs (F0 m 20 ls []) := by
  intro n
  induction n with
  | zero => intro x3 x4 x5 x6  h v1 rv hq ls H locs q hl hw hf kk; cases hf
  | succ n ih =>
    intro x3 x4 x5 x6  h v1 rv hq ls H locs q hl hw hf kk
    rw [f_X1_goTo_L20] at hf
    refine lv_iload hx hb dX1_goTo_20 (lv_at hl 6 rfl) ?_
    refine lv_ldc (v := (100000 : Int32)) hx hb Z.2.1 (Z.1 _ wd532) dX1_goTo_22 ?_
    refine lv_icmp_ge (tgt := 52) hx hb dX1_goTo_24 (by decide) (fun c24 => ?_) (fun c24 => ?_)
    · have hf := (if_pos c24).symm.trans hf
      obtain rfl := Option.some.inj hf
      exact kk ls H locs (lv_sub hl [0, 1, 2, 4] rfl) hw
    · have hf := (if_neg c24).symm.trans hf
      refine lv_iload hx hb dX1_goTo_27 (lv_at hl 5 rfl) ?_
      refine lv_iload hx hb dX1_goTo_29 (lv_at hl 4 rfl) ?_
      refine lv_icmp_eq (tgt := 52) hx hb dX1_goTo_31 (by decide) (fun c31 => ?_) (fun c31 => ?_)
      · have hf := (if_pos c31).symm.trans hf
        obtain rfl := Option.some.inj hf
        exact kk ls H locs (lv_sub hl [0, 1, 2, 4] rfl) hw
      · have hf := (if_neg c31).symm.trans hf
        refine lv_aload_n hx hb dX1_goTo_34 rfl (lv_at hl 0 rfl) ?_
        refine lv_iload hx hb dX1_goTo_35 (lv_at hl 5 rfl) ?_
        refine lv_iload hx hb dX1_goTo_37 (lv_at hl 4 rfl) ?_
        refine lv_aload_n hx hb dX1_goTo_39 rfl (lv_at hl 2 rfl) ?_
        refine lv_iload_n hx hb dX1_goTo_40 rfl (lv_at hl 3 rfl) ?_
        obtain ⟨q41, hq41, hf⟩ := tb_ex hf
        refine z_callVi (o := o0) (ci := 0) (As := [.int x5, .int x4, .ref (ra G o2), .int x3]) (rest := []) (t_X1_jump G l hN o0 k_o0 n_o0 x5 x4 o2 k_o2 n_o2 x3 h hq41) cv_X1_jump hx hb hml hl.1 Z hw k_o0 (by decide) n_o0 rfl rfl wd563 rfl rfl (Nat.le_of_ble_eq_true rfl) (by decide) dX1_goTo_41 (fun H locs hw => ?_)
        refine lv_istore (lv' := [(5, _), (0, _), (1, _), (2, _), (3, _), (4, _), (6, _)]) hx hb dX1_goTo_44 hl (by decide) rfl (fun ls hl => ?_)
        refine lv_iinc (v := x6 + (1 : Int32)) (lv' := [(6, _), (5, _), (0, _), (1, _), (2, _), (3, _), (4, _)]) hx hb dX1_goTo_46 hl (k := 6) rfl rfl (by decide) rfl (fun ls hl => ?_)
        refine lv_goto (tgt := 20) hx hb dX1_goTo_49 (by decide) ?_
        exact ih x3 x4 q41.1 (x6 + (1 : Int32)) q41.2 v1 rv hq ls H locs (lv_sub hl [2, 3, 4, 5, 6, 1, 0] rfl) hw hf kk
set_option maxHeartbeats 4000000 in
set_option maxRecDepth 100000 in
theorem w_X1_goTo_L63 (G : GM) (l : Launch) (hN : 70 ≤ gN G) (o0 : Nat) (k_o0 : kd o0 = 0) (n_o0 : o0 < gN G) (o2 : Nat) (k_o2 : kd o2 = 4) (n_o2 : o2 < gN G) {p : Program} {e : Env} {s : State} {m : MethodId} {args : Array Value} {below : List Frame} {meth : Method} {c : Code} (hx : p.tables.exec = Jvm.exec) (hb : c.code = cX1_goTo) (hr : meth.sig.returnType = none) (hlk : meth.locks = false) (hml : c.maxLocals = 8) (Z : ZK G s args m RX1) : ∀ (n : Nat) (x6 : Int32) (x7 : Int32)  (h : HP) (v1 : Int32) (v4 : Int32) (rv : Option Value) (hq : HP) (ls : Array Slot) (H : Heap) (locs : List Loc) {q : HP}, lv_has ls 8 [(0, .ref (ra G o0)), (1, .int v1), (2, .ref (ra G o2)), (4, .int v4), (6, .int x6), (7, .int x7)] → HW G h s H locs → f_X1_goTo_L63 n o0 o2 x6 x7 h = some q → (∀ (ls : Array Slot) (H : Heap) (locs : List Loc), lv_has ls 8 [(0, .ref (ra G o0)), (1, .int v1), (2, .ref (ra G o2)), (4, .int v4), (6, .int x6)] → HW G q s H locs → WZ p l e 2 s m args below meth c G rv hq H locs (F0 m 94 ls [])) → WZ p l e 2 s m args below meth c G rv hq H locs (F0 m 63 ls []) := by
  intro n
  induction n with
  | zero => intro x6 x7  h v1 v4 rv hq ls H locs q hl hw hf kk; cases hf
  | succ n ih =>
    intro x6 x7  h v1 v4 rv hq ls H locs q hl hw hf kk
    rw [f_X1_goTo_L63] at hf
    refine lv_iload hx hb dX1_goTo_63 (lv_at hl 5 rfl) ?_
    refine lv_ldc (v := (100000 : Int32)) hx hb Z.2.1 (Z.1 _ wd532) dX1_goTo_65 ?_
    refine lv_icmp_ge (tgt := 94) hx hb dX1_goTo_67 (by decide) (fun c67 => ?_) (fun c67 => ?_)
    · have hf := (if_pos c67).symm.trans hf
      obtain rfl := Option.some.inj hf
      exact kk ls H locs (lv_sub hl [0, 1, 2, 3, 4] rfl) hw
    · have hf := (if_neg c67).symm.trans hf
      refine lv_aload_n hx hb dX1_goTo_70 rfl (lv_at hl 0 rfl) ?_
      refine lv_iload hx hb dX1_goTo_71 (lv_at hl 4 rfl) ?_
      refine lv_aload_n hx hb dX1_goTo_73 rfl (lv_at hl 2 rfl) ?_
      refine z_callVi (o := o0) (ci := 0) (As := [.int x6, .ref (ra G o2)]) (rest := []) (t_X1_isNear G l hN o0 k_o0 n_o0 x6 o2 k_o2 n_o2 h) cv_X1_isNear hx hb hml hl.1 Z hw k_o0 (by decide) n_o0 rfl rfl wd540 rfl rfl (Nat.le_of_ble_eq_true rfl) (by decide) dX1_goTo_74 (fun H locs hw => ?_)
      refine lv_if_ne (tgt := 94) hx hb dX1_goTo_77 (by decide) (fun c77 => ?_) (fun c77 => ?_)
      · have hf := (if_neg c77).symm.trans hf
        obtain rfl := Option.some.inj hf
        exact kk ls H locs (lv_sub hl [0, 1, 2, 3, 4] rfl) hw
      · have hf := (if_pos c77).symm.trans hf
        refine lv_aload_n hx hb dX1_goTo_80 rfl (lv_at hl 0 rfl) ?_
        refine lv_iconst (v := (1 : Int32)) hx hb dX1_goTo_81 (by decide) ?_
        refine lv_iload hx hb dX1_goTo_82 (lv_at hl 4 rfl) ?_
        refine lv_aload_n hx hb dX1_goTo_84 rfl (lv_at hl 2 rfl) ?_
        obtain ⟨q85, hq85, hf⟩ := tb_ex hf
        refine z_callVv (o := o0) (ci := 0) (As := [.int (1 : Int32), .int x6, .ref (ra G o2)]) (rest := []) (t_X1_spin G l hN o0 k_o0 n_o0 (1 : Int32) x6 o2 k_o2 n_o2 h hq85) cv_X1_spin hx hb hml hl.1 Z hw k_o0 (by decide) n_o0 rfl rfl wd534 rfl rfl (Nat.le_of_ble_eq_true rfl) (by decide) dX1_goTo_85 (fun H locs hw => ?_)
        refine lv_iinc (v := x7 + (1 : Int32)) (lv' := [(7, _), (0, _), (1, _), (2, _), (4, _), (6, _)]) hx hb dX1_goTo_88 hl (k := 5) rfl rfl (by decide) rfl (fun ls hl => ?_)
        refine lv_goto (tgt := 63) hx hb dX1_goTo_91 (by decide) ?_
        exact ih x6 (x7 + (1 : Int32)) q85 v1 v4 rv hq ls H locs (lv_sub hl [1, 2, 3, 4, 5, 0] rfl) hw hf kk
set_option maxHeartbeats 4000000 in
set_option maxRecDepth 100000 in
theorem t_X1_goTo (G : GM) (l : Launch) (hN : 70 ≤ gN G) (o0 : Nat) (k_o0 : kd o0 = 0) (n_o0 : o0 < gN G) (x1 : Int32) (o2 : Nat) (k_o2 : kd o2 = 4) (n_o2 : o2 < gN G) (x3 : Int32) (h : HP) {h' : HP} (hf : f_X1_goTo o0 x1 o2 x3 h = some h') : MC G l yX1_goTo cX1_goTo 8 none 2 [.ref (ra G o0), .int x1, .ref (ra G o2), .int x3] h h' none := by
  unfold f_X1_goTo at hf
  refine z_start (by decide) (Nat.le_of_ble_eq_true rfl) ?_
  intro p e s m args below meth c ls hx hb hr hlk hml Z hw hl
  have Z : ZK G s args m RX1 := Z
  have hl : lv_has ls 8 [(0, .ref (ra G o0)), (1, .int x1), (2, .ref (ra G o2)), (3, .int x3)] := hl
  obtain ⟨H, hH⟩ : ∃ H, H = s.heap := ⟨_, rfl⟩
  rw [← hH] at hw ⊢
  obtain ⟨locs, hlc⟩ : ∃ locs : List Loc, locs = [] := ⟨_, rfl⟩
  rw [← hlc] at hw ⊢
  refine lv_aload_n hx hb dX1_goTo_0 rfl (lv_at hl 2 rfl) ?_
  refine lv_iload_n hx hb dX1_goTo_1 rfl (lv_at hl 1 rfl) ?_
  obtain ⟨q2, hq2, hf⟩ := ob_some hf
  refine z_callVi (o := o2) (ci := 4) (As := [.int x1]) (rest := []) (t_X5_turnOf G l hN o2 k_o2 n_o2 x1 h hq2) cv_X5_turnOf hx hb hml hl.1 Z hw k_o2 (by decide) n_o2 rfl rfl wd533 rfl rfl (Nat.le_of_ble_eq_true rfl) (by decide) dX1_goTo_2 (fun H locs hw => ?_)
  refine lv_istore (lv' := [(4, _), (0, _), (1, _), (2, _), (3, _)]) hx hb dX1_goTo_5 hl (by decide) rfl (fun ls hl => ?_)
  refine lv_aload_n hx hb dX1_goTo_7 rfl (lv_at hl 3 rfl) ?_
  refine lv_aload_n hx hb dX1_goTo_8 rfl (lv_at hl 1 rfl) ?_
  refine z_geti (o := o0) (C := RX1) (T := TX1) (N := 6) (ci := 0) (k := 0) hx hb Z hw k_o0 n_o0 rfl inX1 (by decide) wd118 dX1_goTo_9 ?_
  obtain ⟨q12, hq12, hf⟩ := ob_some hf
  refine z_callVi (o := o2) (ci := 4) (As := [.int (h o0 0)]) (rest := []) (t_X5_turnOf G l hN o2 k_o2 n_o2 (h o0 0) h hq12) cv_X5_turnOf hx hb hml hl.1 Z hw k_o2 (by decide) n_o2 rfl rfl wd533 rfl rfl (Nat.le_of_ble_eq_true rfl) (by decide) dX1_goTo_12 (fun H locs hw => ?_)
  refine lv_istore (lv' := [(5, _), (4, _), (0, _), (1, _), (2, _), (3, _)]) hx hb dX1_goTo_15 hl (by decide) rfl (fun ls hl => ?_)
  refine lv_iconst (v := (0 : Int32)) hx hb dX1_goTo_17 (by decide) ?_
  refine lv_istore (lv' := [(6, _), (5, _), (4, _), (0, _), (1, _), (2, _), (3, _)]) hx hb dX1_goTo_18 hl (by decide) rfl (fun ls hl => ?_)
  obtain ⟨q20, hq20, hf⟩ := ob_some hf
  refine w_X1_goTo_L20 G l hN o0 k_o0 n_o0 o2 k_o2 n_o2 hx hb hr hlk hml Z FU x3 q2 q12 (0 : Int32) h x1 _ _ ls H locs (lv_sub hl [3, 4, 5, 6, 2, 1, 0] rfl) hw hq20 (fun ls H locs hl hw => ?_)
  refine lv_aload_n hx hb dX1_goTo_52 rfl (lv_at hl 2 rfl) ?_
  refine lv_iload hx hb dX1_goTo_53 (lv_at hl 3 rfl) ?_
  refine z_callVi (o := o2) (ci := 4) (As := [.int q2]) (rest := []) (t_X5_framesOf G l hN o2 k_o2 n_o2 q2 q20) cv_X5_framesOf hx hb hml hl.1 Z hw k_o2 (by decide) n_o2 rfl rfl wd301 rfl rfl (Nat.le_of_ble_eq_true rfl) (by decide) dX1_goTo_55 (fun H locs hw => ?_)
  refine lv_istore (lv' := [(6, _), (0, _), (1, _), (2, _), (4, _)]) hx hb dX1_goTo_58 hl (by decide) rfl (fun ls hl => ?_)
  refine lv_iconst (v := (0 : Int32)) hx hb dX1_goTo_60 (by decide) ?_
  refine lv_istore (lv' := [(7, _), (6, _), (0, _), (1, _), (2, _), (4, _)]) hx hb dX1_goTo_61 hl (by decide) rfl (fun ls hl => ?_)
  obtain ⟨q63, hq63, hf⟩ := ob_some hf
  refine w_X1_goTo_L63 G l hN o0 k_o0 n_o0 o2 k_o2 n_o2 hx hb hr hlk hml Z FU (f_X5_framesOf o2 q2 q20) (0 : Int32) q20 x1 q2 _ _ ls H locs (lv_sub hl [2, 3, 4, 5, 1, 0] rfl) hw hq63 (fun ls H locs hl hw => ?_)
  refine lv_aload_n hx hb dX1_goTo_94 rfl (lv_at hl 2 rfl) ?_
  refine lv_iload hx hb dX1_goTo_95 (lv_at hl 3 rfl) ?_
  refine z_callVi (o := o2) (ci := 4) (As := [.int q2]) (rest := []) (t_X5_firstOf G l hN o2 k_o2 n_o2 q2 q63) cv_X5_firstOf hx hb hml hl.1 Z hw k_o2 (by decide) n_o2 rfl rfl wd567 rfl rfl (Nat.le_of_ble_eq_true rfl) (by decide) dX1_goTo_97 (fun H locs hw => ?_)
  refine lv_istore (lv' := [(7, _), (0, _), (1, _), (2, _), (4, _), (6, _)]) hx hb dX1_goTo_100 hl (by decide) rfl (fun ls hl => ?_)
  refine lv_aload_n hx hb dX1_goTo_102 rfl (lv_at hl 1 rfl) ?_
  refine z_geti (o := o0) (C := RX1) (T := TX1) (N := 6) (ci := 0) (k := 0) hx hb Z hw k_o0 n_o0 rfl inX1 (by decide) wd118 dX1_goTo_103 ?_
  refine lv_iload_n hx hb dX1_goTo_106 rfl (lv_at hl 2 rfl) ?_
  obtain ⟨j107, hqj107, hf⟩ := tb_ex hf
  have HJ135 : ∀ (ls : Array Slot) (H : Heap) (locs : List Loc), lv_has ls 8 [(0, .ref (ra G o0)), (1, .int x1)] → HW G j107 s H locs → WZ p l e 2 s m args below meth c G none h' H locs (F0 m 135 ls []) := by
    intro ls H locs hl hw
    refine lv_aload_n hx hb dX1_goTo_135 rfl (lv_at hl 0 rfl) ?_
    refine lv_dup hx hb dX1_goTo_136 rfl ?_
    refine z_geti (o := o0) (C := RX1) (T := TX1) (N := 6) (ci := 0) (k := 2) hx hb Z hw k_o0 n_o0 rfl inX1 (by decide) wd122 dX1_goTo_137 ?_
    refine lv_iload_n hx hb dX1_goTo_140 rfl (lv_at hl 1 rfl) ?_
    refine lv_aload_n hx hb dX1_goTo_141 rfl (lv_at hl 0 rfl) ?_
    refine z_geti (o := o0) (C := RX1) (T := TX1) (N := 6) (ci := 0) (k := 0) hx hb Z hw k_o0 n_o0 rfl inX1 (by decide) wd118 dX1_goTo_142 ?_
    refine lv_isub hx hb dX1_goTo_145 ?_
    refine lv_iadd hx hb dX1_goTo_146 ?_
    refine z_puti (o := o0) (v := (j107 o0 2) + (x1 - (j107 o0 0))) (ty := .int) (C := RX1) (T := TX1) (N := 6) (ci := 0) (k := 2) hx hb Z hw k_o0 n_o0 rfl inX1 tyX1 tyX1_ok nmX1 (by decide) wd122 rfl (by decide +kernel) rfl rfl dX1_goTo_147 (fun H locs hw => ?_)
    refine lv_aload_n hx hb dX1_goTo_150 rfl (lv_at hl 0 rfl) ?_
    refine lv_iload_n hx hb dX1_goTo_151 rfl (lv_at hl 1 rfl) ?_
    obtain ⟨h152, hqh152, hf⟩ := tb_ex hf
    rw [hqh152] at hw
    refine z_puti (o := o0) (v := x1) (ty := .int) (C := RX1) (T := TX1) (N := 6) (ci := 0) (k := 0) hx hb Z hw k_o0 n_o0 rfl inX1 tyX1 tyX1_ok nmX1 (by decide) wd118 rfl (by decide +kernel) rfl rfl dX1_goTo_152 (fun H locs hw => ?_)
    obtain rfl := Option.some.inj hf
    exact z_vret hx hb hr hlk hw dX1_goTo_155
  have hf := hqj107
  refine lv_icmp_le (tgt := 135) hx hb dX1_goTo_107 (by decide) (fun c107 => ?_) (fun c107 => ?_)
  · have hf := (if_pos c107).symm.trans hf
    subst hf
    exact HJ135 ls H locs (lv_sub hl [1, 2] rfl) hw
  · have hf := (if_neg c107).symm.trans hf
    refine lv_aload_n hx hb dX1_goTo_110 rfl (lv_at hl 1 rfl) ?_
    refine lv_dup hx hb dX1_goTo_111 rfl ?_
    refine z_geti (o := o0) (C := RX1) (T := TX1) (N := 6) (ci := 0) (k := 2) hx hb Z hw k_o0 n_o0 rfl inX1 (by decide) wd122 dX1_goTo_112 ?_
    refine lv_iload hx hb dX1_goTo_115 (lv_at hl 0 rfl) ?_
    refine lv_iload hx hb dX1_goTo_117 (lv_at hl 5 rfl) ?_
    refine lv_iadd hx hb dX1_goTo_119 ?_
    refine lv_aload_n hx hb dX1_goTo_120 rfl (lv_at hl 1 rfl) ?_
    refine z_geti (o := o0) (C := RX1) (T := TX1) (N := 6) (ci := 0) (k := 0) hx hb Z hw k_o0 n_o0 rfl inX1 (by decide) wd118 dX1_goTo_121 ?_
    refine lv_isub hx hb dX1_goTo_124 ?_
    refine lv_iadd hx hb dX1_goTo_125 ?_
    refine z_puti (o := o0) (v := (q63 o0 2) + (((f_X5_firstOf o2 q2 q63) + (f_X5_framesOf o2 q2 q20)) - (q63 o0 0))) (ty := .int) (C := RX1) (T := TX1) (N := 6) (ci := 0) (k := 2) hx hb Z hw k_o0 n_o0 rfl inX1 tyX1 tyX1_ok nmX1 (by decide) wd122 rfl (by decide +kernel) rfl rfl dX1_goTo_126 (fun H locs hw => ?_)
    refine lv_aload_n hx hb dX1_goTo_129 rfl (lv_at hl 1 rfl) ?_
    refine lv_iload hx hb dX1_goTo_130 (lv_at hl 0 rfl) ?_
    obtain ⟨h132, hqh132, hf⟩ := tb_ex hf
    rw [hqh132] at hw
    refine z_puti (o := o0) (v := f_X5_firstOf o2 q2 q63) (ty := .int) (C := RX1) (T := TX1) (N := 6) (ci := 0) (k := 0) hx hb Z hw k_o0 n_o0 rfl inX1 tyX1 tyX1_ok nmX1 (by decide) wd118 rfl (by decide +kernel) rfl rfl dX1_goTo_132 (fun H locs hw => ?_)
    subst hf
    exact HJ135 ls H locs (lv_sub hl [1, 2] rfl) hw
set_option maxHeartbeats 4000000 in
set_option maxRecDepth 100000 in
theorem t_X10_seekFrame (G : GM) (l : Launch) (hN : 70 ≤ gN G) (x1 : Int32) (h : HP) {r : Int32} {h' : HP} (hf : f_X10_seekFrame x1 h = some (r, h')) : MC G l yX10_seekFrame cX10_seekFrame 3 (some .int) 3 [.ref (ra G 0), .int x1] h h' (some (.int r)) := by
  unfold f_X10_seekFrame at hf
  refine z_start (by decide) (Nat.le_of_ble_eq_true rfl) ?_
  intro p e s m args below meth c ls hx hb hr hlk hml Z hw hl
  have Z : ZK G s args m RX10 := Z
  have hl : lv_has ls 3 [(0, .ref (ra G 0)), (1, .int x1)] := hl
  obtain ⟨H, hH⟩ : ∃ H, H = s.heap := ⟨_, rfl⟩
  rw [← hH] at hw ⊢
  obtain ⟨locs, hlc⟩ : ∃ locs : List Loc, locs = [] := ⟨_, rfl⟩
  rw [← hlc] at hw ⊢
  refine lv_aload_n hx hb dX10_seekFrame_0 rfl (lv_at hl 0 rfl) ?_
  refine z_getr (o := 0) (o2 := 1) (C := RX10) (T := TX10) (N := 8) (ci := 8) (k := 0) hx hb Z hw (by decide) (by omega) rfl inX10 (by decide) rfl wd233 dX10_seekFrame_1 ?_
  refine z_getr (o := 1) (o2 := 2) (C := RX6) (T := TX6) (N := 4) (ci := 5) (k := 0) hx hb Z hw (by decide) (by omega) rfl inX6 (by decide) rfl wd145 dX10_seekFrame_4 ?_
  refine lv_iload_n hx hb dX10_seekFrame_7 rfl (lv_at hl 1 rfl) ?_
  refine z_callVi (o := 2) (ci := 4) (As := [.int x1]) (rest := []) (t_X5_hasFrame G l hN 2 (by decide) (by omega) x1 h) cv_X5_hasFrame hx hb hml hl.1 Z hw (by decide) (by decide) (by omega) rfl rfl wd485 rfl rfl (Nat.le_of_ble_eq_true rfl) (by decide) dX10_seekFrame_8 (fun H locs hw => ?_)
  refine lv_if_ne (tgt := 16) hx hb dX10_seekFrame_11 (by decide) (fun c11 => ?_) (fun c11 => ?_)
  · have hf := (if_neg c11).symm.trans hf
    refine lv_aload_n hx hb dX10_seekFrame_16 rfl (lv_at hl 0 rfl) ?_
    refine z_getr (o := 0) (o2 := 1) (C := RX10) (T := TX10) (N := 8) (ci := 8) (k := 0) hx hb Z hw (by decide) (by omega) rfl inX10 (by decide) rfl wd233 dX10_seekFrame_17 ?_
    refine z_getr (o := 1) (o2 := 8) (C := RX6) (T := TX6) (N := 4) (ci := 5) (k := 3) hx hb Z hw (by decide) (by omega) rfl inX6 (by decide) rfl wd152 dX10_seekFrame_20 ?_
    refine z_geti (o := 8) (C := RX1) (T := TX1) (N := 6) (ci := 0) (k := 2) hx hb Z hw (by decide) (by omega) rfl inX1 (by decide) wd123 dX10_seekFrame_23 ?_
    refine lv_istore_n (lv' := [(2, _), (0, _), (1, _)]) hx hb dX10_seekFrame_26 rfl hl (by decide) rfl (fun ls hl => ?_)
    refine lv_aload_n hx hb dX10_seekFrame_27 rfl (lv_at hl 1 rfl) ?_
    refine z_getr (o := 0) (o2 := 1) (C := RX10) (T := TX10) (N := 8) (ci := 8) (k := 0) hx hb Z hw (by decide) (by omega) rfl inX10 (by decide) rfl wd233 dX10_seekFrame_28 ?_
    refine z_getr (o := 1) (o2 := 8) (C := RX6) (T := TX6) (N := 4) (ci := 5) (k := 3) hx hb Z hw (by decide) (by omega) rfl inX6 (by decide) rfl wd152 dX10_seekFrame_31 ?_
    refine lv_iload_n hx hb dX10_seekFrame_34 rfl (lv_at hl 2 rfl) ?_
    refine lv_aload_n hx hb dX10_seekFrame_35 rfl (lv_at hl 1 rfl) ?_
    refine z_getr (o := 0) (o2 := 1) (C := RX10) (T := TX10) (N := 8) (ci := 8) (k := 0) hx hb Z hw (by decide) (by omega) rfl inX10 (by decide) rfl wd233 dX10_seekFrame_36 ?_
    refine z_getr (o := 1) (o2 := 2) (C := RX6) (T := TX6) (N := 4) (ci := 5) (k := 0) hx hb Z hw (by decide) (by omega) rfl inX6 (by decide) rfl wd145 dX10_seekFrame_39 ?_
    refine lv_aload_n hx hb dX10_seekFrame_42 rfl (lv_at hl 1 rfl) ?_
    refine z_getr (o := 0) (o2 := 1) (C := RX10) (T := TX10) (N := 8) (ci := 8) (k := 0) hx hb Z hw (by decide) (by omega) rfl inX10 (by decide) rfl wd233 dX10_seekFrame_43 ?_
    refine z_getr (o := 1) (o2 := 2) (C := RX6) (T := TX6) (N := 4) (ci := 5) (k := 0) hx hb Z hw (by decide) (by omega) rfl inX6 (by decide) rfl wd145 dX10_seekFrame_46 ?_
    refine z_geti (o := 2) (C := RX5) (T := TX5) (N := 6) (ci := 4) (k := 4) hx hb Z hw (by decide) (by omega) rfl inX5 (by decide) wd63 dX10_seekFrame_49 ?_
    obtain ⟨q52, hq52, hf⟩ := ob_some hf
    refine z_callVv (o := 8) (ci := 0) (As := [.int x1, .ref (ra G 2), .int (h 2 4)]) (rest := []) (t_X1_goTo G l hN 8 (by decide) (by omega) x1 2 (by decide) (by omega) (h 2 4) h hq52) cv_X1_goTo hx hb hml hl.1 Z hw (by decide) (by decide) (by omega) rfl rfl wd559 rfl rfl (Nat.le_of_ble_eq_true rfl) (by decide) dX10_seekFrame_52 (fun H locs hw => ?_)
    refine lv_aload_n hx hb dX10_seekFrame_55 rfl (lv_at hl 1 rfl) ?_
    refine z_getr (o := 0) (o2 := 1) (C := RX10) (T := TX10) (N := 8) (ci := 8) (k := 0) hx hb Z hw (by decide) (by omega) rfl inX10 (by decide) rfl wd233 dX10_seekFrame_56 ?_
    refine z_getr (o := 1) (o2 := 8) (C := RX6) (T := TX6) (N := 4) (ci := 5) (k := 3) hx hb Z hw (by decide) (by omega) rfl inX6 (by decide) rfl wd152 dX10_seekFrame_59 ?_
    refine z_geti (o := 8) (C := RX1) (T := TX1) (N := 6) (ci := 0) (k := 2) hx hb Z hw (by decide) (by omega) rfl inX1 (by decide) wd123 dX10_seekFrame_62 ?_
    refine lv_iload_n hx hb dX10_seekFrame_65 rfl (lv_at hl 0 rfl) ?_
    refine lv_isub hx hb dX10_seekFrame_66 ?_
    obtain ⟨rfl, rfl⟩ := Prod.mk.inj (Option.some.inj hf)
    exact z_iret hx hb hr hlk hw dX10_seekFrame_67
  · have hf := (if_pos c11).symm.trans hf
    refine lv_iconst (v := (-1 : Int32)) hx hb dX10_seekFrame_14 (by decide) ?_
    obtain ⟨rfl, rfl⟩ := Prod.mk.inj (Option.some.inj hf)
    exact z_iret hx hb hr hlk hw dX10_seekFrame_15
set_option maxHeartbeats 4000000 in
set_option maxRecDepth 100000 in
theorem t_X10_seek (G : GM) (l : Launch) (hN : 70 ≤ gN G) (x1 : Int32) (h : HP) {r : Int32} {h' : HP} (hf : f_X10_seek x1 h = some (r, h')) : MC G l yX10_seek cX10_seek 2 (some .int) 4 [.ref (ra G 0), .int x1] h h' (some (.int r)) := by
  unfold f_X10_seek at hf
  refine z_start (by decide) (Nat.le_of_ble_eq_true rfl) ?_
  intro p e s m args below meth c ls hx hb hr hlk hml Z hw hl
  have Z : ZK G s args m RX10 := Z
  have hl : lv_has ls 2 [(0, .ref (ra G 0)), (1, .int x1)] := hl
  obtain ⟨H, hH⟩ : ∃ H, H = s.heap := ⟨_, rfl⟩
  rw [← hH] at hw ⊢
  obtain ⟨locs, hlc⟩ : ∃ locs : List Loc, locs = [] := ⟨_, rfl⟩
  rw [← hlc] at hw ⊢
  refine lv_aload_n hx hb dX10_seek_0 rfl (lv_at hl 0 rfl) ?_
  refine z_getr (o := 0) (o2 := 9) (C := RX10) (T := TX10) (N := 8) (ci := 8) (k := 1) hx hb Z hw (by decide) (by omega) rfl inX10 (by decide) rfl wd234 dX10_seek_1 ?_
  refine lv_aload_n hx hb dX10_seek_4 rfl (lv_at hl 0 rfl) ?_
  refine z_getr (o := 0) (o2 := 1) (C := RX10) (T := TX10) (N := 8) (ci := 8) (k := 0) hx hb Z hw (by decide) (by omega) rfl inX10 (by decide) rfl wd233 dX10_seek_5 ?_
  obtain ⟨q8, hq8, hf⟩ := tb_ex hf
  refine z_callVv (o := 9) (ci := 5) (As := [.ref (ra G 1)]) (rest := []) (t_X6_copyFrom G l hN 9 (by decide) (by omega) 1 (by decide) (by omega) h hq8) cv_X6_copyFrom hx hb hml hl.1 Z hw (by decide) (by decide) (by omega) rfl rfl wd269 rfl rfl (Nat.le_of_ble_eq_true rfl) (by decide) dX10_seek_8 (fun H locs hw => ?_)
  refine lv_aload_n hx hb dX10_seek_11 rfl (lv_at hl 0 rfl) ?_
  refine lv_aload_n hx hb dX10_seek_12 rfl (lv_at hl 0 rfl) ?_
  refine lv_iload_n hx hb dX10_seek_13 rfl (lv_at hl 1 rfl) ?_
  obtain ⟨q14, hq14, hf⟩ := ob_some hf
  refine z_callVi (o := 0) (ci := 8) (As := [.int x1]) (rest := [.ref (ra G 0)]) (t_X10_seekFrame G l hN x1 q8 hq14) cv_X10_seekFrame hx hb hml hl.1 Z hw (by decide) (by decide) (by omega) rfl rfl wd555 rfl rfl (Nat.le_of_ble_eq_true rfl) (by decide) dX10_seek_14 (fun H locs hw => ?_)
  obtain ⟨q17, hq17, hf⟩ := ob_some hf
  refine z_callVi (o := 0) (ci := 8) (As := [.int q14.1]) (rest := []) (t_X10_recorded G l hN q14.1 q14.2 hq17) cv_X10_recorded hx hb hml hl.1 Z hw (by decide) (by decide) (by omega) rfl rfl wd305 rfl rfl (Nat.le_of_ble_eq_true rfl) (by decide) dX10_seek_17 (fun H locs hw => ?_)
  obtain ⟨rfl, rfl⟩ := Prod.mk.inj (Option.some.inj hf)
  exact z_iret hx hb hr hlk hw dX10_seek_20
set_option maxHeartbeats 4000000 in
set_option maxRecDepth 100000 in
theorem t_X2_takeLatest (G : GM) (l : Launch) (hN : 70 ≤ gN G) (o1 : Nat) (k_o1 : kd o1 = 5) (n_o1 : o1 < gN G) (h : HP) {r : Int32} {h' : HP} (hf : f_X2_takeLatest o1 h = some (r, h')) : MC G l yX2_takeLatest cX2_takeLatest 3 (some .boolean) 2 [.ref (ra G 25), .ref (ra G o1)] h h' (some (.int r)) := by
  unfold f_X2_takeLatest at hf
  refine z_start (by decide) (Nat.le_of_ble_eq_true rfl) ?_
  intro p e s m args below meth c ls hx hb hr hlk hml Z hw hl
  have Z : ZK G s args m RX2 := Z
  have hl : lv_has ls 3 [(0, .ref (ra G 25)), (1, .ref (ra G o1))] := hl
  obtain ⟨H, hH⟩ : ∃ H, H = s.heap := ⟨_, rfl⟩
  rw [← hH] at hw ⊢
  obtain ⟨locs, hlc⟩ : ∃ locs : List Loc, locs = [] := ⟨_, rfl⟩
  rw [← hlc] at hw ⊢
  refine lv_aload_n hx hb dX2_takeLatest_0 rfl (lv_at hl 0 rfl) ?_
  refine lv_aload_n hx hb dX2_takeLatest_1 rfl (lv_at hl 0 rfl) ?_
  refine z_geti (o := 25) (C := RX2) (T := TX2) (N := 2) (ci := 1) (k := 1) hx hb Z hw (by decide) (by omega) rfl inX2 (by decide) wd172 dX2_takeLatest_2 ?_
  refine lv_iconst (v := (1 : Int32)) hx hb dX2_takeLatest_5 (by decide) ?_
  refine lv_isub hx hb dX2_takeLatest_6 ?_
  refine z_callVi (o := 25) (ci := 1) (As := [.int ((h 25 1) - (1 : Int32))]) (rest := []) (t_X2_stateAt G l hN ((h 25 1) - (1 : Int32)) h) cv_X2_stateAt hx hb hml hl.1 Z hw (by decide) (by decide) (by omega) rfl rfl wd317 rfl rfl (Nat.le_of_ble_eq_true rfl) (by decide) dX2_takeLatest_7 (fun H locs hw => ?_)
  by_cases c7 : f_X2_stateAt ((h 25 1) - (1 : Int32)) h = 0
  · have hf := (if_pos c7).symm.trans hf
    rw [srf_z c7]
    refine lv_astore_nN (lv' := [(2, _), (0, _), (1, _)]) hx hb dX2_takeLatest_10 rfl hl (by decide) rfl (fun ls hl => ?_)
    refine lv_aload_nN hx hb dX2_takeLatest_11 rfl (lv_at hl 0 rfl) ?_
    refine lv_ifnonnullN hx hb dX2_takeLatest_12 ?_
    refine lv_iconst (v := (0 : Int32)) hx hb dX2_takeLatest_15 (by decide) ?_
    obtain ⟨rfl, rfl⟩ := Prod.mk.inj (Option.some.inj hf)
    exact z_zret hx hb hr rfl hlk hw dX2_takeLatest_16
  · have hf := (if_neg c7).symm.trans hf
    obtain ⟨hs7, hf⟩ := gd_some hf
    rw [srf_nz c7]
    refine lv_astore_n (lv' := [(2, _), (0, _), (1, _)]) hx hb dX2_takeLatest_10 rfl hl (by decide) rfl (fun ls hl => ?_)
    refine lv_aload_n hx hb dX2_takeLatest_11 rfl (lv_at hl 0 rfl) ?_
    refine lv_ifnonnull (tgt := 17) hx hb dX2_takeLatest_12 (by decide) ?_
    refine lv_aload_n hx hb dX2_takeLatest_17 rfl (lv_at hl 2 rfl) ?_
    refine lv_aload_n hx hb dX2_takeLatest_18 rfl (lv_at hl 0 rfl) ?_
    obtain ⟨q19, hq19, hf⟩ := tb_ex hf
    refine z_callVv (o := o1) (ci := 5) (As := [.ref (ra G ((f_X2_stateAt ((h 25 1) - (1 : Int32)) h).toNatClampNeg))]) (rest := []) (t_X6_copyFrom G l hN o1 k_o1 n_o1 ((f_X2_stateAt ((h 25 1) - (1 : Int32)) h).toNatClampNeg) (isSt_kd hs7) (isSt_n hs7 hN) h hq19) cv_X6_copyFrom hx hb hml hl.1 Z hw k_o1 (by decide) n_o1 rfl rfl wd321 rfl rfl (Nat.le_of_ble_eq_true rfl) (by decide) dX2_takeLatest_19 (fun H locs hw => ?_)
    refine lv_aload_n hx hb dX2_takeLatest_22 rfl (lv_at hl 1 rfl) ?_
    refine lv_dup hx hb dX2_takeLatest_23 rfl ?_
    refine z_geti (o := 25) (C := RX2) (T := TX2) (N := 2) (ci := 1) (k := 1) hx hb Z hw (by decide) (by omega) rfl inX2 (by decide) wd172 dX2_takeLatest_24 ?_
    refine lv_iconst (v := (1 : Int32)) hx hb dX2_takeLatest_27 (by decide) ?_
    refine lv_isub hx hb dX2_takeLatest_28 ?_
    refine z_puti (o := 25) (v := (q19 25 1) - (1 : Int32)) (ty := .int) (C := RX2) (T := TX2) (N := 2) (ci := 1) (k := 1) hx hb Z hw (by decide) (by omega) rfl inX2 tyX2 tyX2_ok nmX2 (by decide) wd172 rfl (by decide +kernel) rfl rfl dX2_takeLatest_29 (fun H locs hw => ?_)
    refine lv_iconst (v := (1 : Int32)) hx hb dX2_takeLatest_32 (by decide) ?_
    obtain ⟨rfl, rfl⟩ := Prod.mk.inj (Option.some.inj hf)
    exact z_zret hx hb hr rfl hlk hw dX2_takeLatest_33
set_option maxHeartbeats 4000000 in
set_option maxRecDepth 100000 in
theorem t_X10_undo (G : GM) (l : Launch) (hN : 70 ≤ gN G)  (h : HP) {r : Int32} {h' : HP} (hf : f_X10_undo  h = some (r, h')) : MC G l yX10_undo cX10_undo 1 (some .int) 3 [.ref (ra G 0)] h h' (some (.int r)) := by
  unfold f_X10_undo at hf
  refine z_start (by decide) (Nat.le_of_ble_eq_true rfl) ?_
  intro p e s m args below meth c ls hx hb hr hlk hml Z hw hl
  have Z : ZK G s args m RX10 := Z
  have hl : lv_has ls 1 [(0, .ref (ra G 0))] := hl
  obtain ⟨H, hH⟩ : ∃ H, H = s.heap := ⟨_, rfl⟩
  rw [← hH] at hw ⊢
  obtain ⟨locs, hlc⟩ : ∃ locs : List Loc, locs = [] := ⟨_, rfl⟩
  rw [← hlc] at hw ⊢
  refine lv_aload_n hx hb dX10_undo_0 rfl (lv_at hl 0 rfl) ?_
  refine z_getr (o := 0) (o2 := 25) (C := RX10) (T := TX10) (N := 8) (ci := 8) (k := 4) hx hb Z hw (by decide) (by omega) rfl inX10 (by decide) rfl wd237 dX10_undo_1 ?_
  refine lv_aload_n hx hb dX10_undo_4 rfl (lv_at hl 0 rfl) ?_
  refine z_getr (o := 0) (o2 := 1) (C := RX10) (T := TX10) (N := 8) (ci := 8) (k := 0) hx hb Z hw (by decide) (by omega) rfl inX10 (by decide) rfl wd233 dX10_undo_5 ?_
  obtain ⟨q8, hq8, hf⟩ := ob_some hf
  refine z_callVi (o := 25) (ci := 1) (As := [.ref (ra G 1)]) (rest := []) (t_X2_takeLatest G l hN 1 (by decide) (by omega) h hq8) cv_X2_takeLatest hx hb hml hl.1 Z hw (by decide) (by decide) (by omega) rfl rfl wd668 rfl rfl (Nat.le_of_ble_eq_true rfl) (by decide) dX10_undo_8 (fun H locs hw => ?_)
  refine lv_if_eq (tgt := 24) hx hb dX10_undo_11 (by decide) (fun c11 => ?_) (fun c11 => ?_)
  · have hf := (if_pos c11).symm.trans hf
    refine lv_bipush (v := (-5 : Int32)) hx hb dX10_undo_24 (by decide) ?_
    obtain ⟨rfl, rfl⟩ := Prod.mk.inj (Option.some.inj hf)
    exact z_iret hx hb hr hlk hw dX10_undo_26
  · have hf := (if_neg c11).symm.trans hf
    refine lv_aload_n hx hb dX10_undo_14 rfl (lv_at hl 0 rfl) ?_
    refine z_getr (o := 0) (o2 := 25) (C := RX10) (T := TX10) (N := 8) (ci := 8) (k := 4) hx hb Z hw (by decide) (by omega) rfl inX10 (by decide) rfl wd237 dX10_undo_15 ?_
    refine z_geti (o := 25) (C := RX2) (T := TX2) (N := 2) (ci := 1) (k := 1) hx hb Z hw (by decide) (by omega) rfl inX2 (by decide) wd173 dX10_undo_18 ?_
    refine lv_goto (tgt := 26) hx hb dX10_undo_21 (by decide) ?_
    obtain ⟨rfl, rfl⟩ := Prod.mk.inj (Option.some.inj hf)
    exact z_iret hx hb hr hlk hw dX10_undo_26
set_option maxHeartbeats 4000000 in
set_option maxRecDepth 100000 in
theorem t_X5_groups (G : GM) (l : Launch) (hN : 70 ≤ gN G) (o0 : Nat) (k_o0 : kd o0 = 4) (n_o0 : o0 < gN G) (h : HP) : MC G l yX5_groups cX5_groups 1 (some .int) 2 [.ref (ra G o0)] h h (some (.int (f_X5_groups o0 h))) := by
  generalize hf : f_X5_groups o0 h = r
  unfold f_X5_groups at hf
  refine z_start (by decide) (Nat.le_of_ble_eq_true rfl) ?_
  intro p e s m args below meth c ls hx hb hr hlk hml Z hw hl
  have Z : ZK G s args m RX5 := Z
  have hl : lv_has ls 1 [(0, .ref (ra G o0))] := hl
  obtain ⟨H, hH⟩ : ∃ H, H = s.heap := ⟨_, rfl⟩
  rw [← hH] at hw ⊢
  obtain ⟨locs, hlc⟩ : ∃ locs : List Loc, locs = [] := ⟨_, rfl⟩
  rw [← hlc] at hw ⊢
  refine lv_aload_n hx hb dX5_groups_0 rfl (lv_at hl 0 rfl) ?_
  refine z_callVi (o := o0) (ci := 4) (As := []) (rest := []) (t_X5_allFrames G l hN o0 k_o0 n_o0 h) cv_X5_allFrames hx hb hml hl.1 Z hw k_o0 (by decide) n_o0 rfl rfl wd338 rfl rfl (Nat.le_of_ble_eq_true rfl) (by decide) dX5_groups_1 (fun H locs hw => ?_)
  refine lv_iconst (v := (5 : Int32)) hx hb dX5_groups_4 (by decide) ?_
  refine lv_idiv hx hb dX5_groups_5 (by decide) ?_
  obtain rfl := hf
  exact z_iret hx hb hr hlk hw dX5_groups_6
set_option maxHeartbeats 4000000 in
set_option maxRecDepth 100000 in
theorem t_X5_groupOf (G : GM) (l : Launch) (hN : 70 ≤ gN G) (o0 : Nat) (k_o0 : kd o0 = 4) (n_o0 : o0 < gN G) (x1 : Int32) (h : HP) : MC G l yX5_groupOf cX5_groupOf 3 (some .int) 3 [.ref (ra G o0), .int x1] h h (some (.int (f_X5_groupOf o0 x1 h))) := by
  generalize hf : f_X5_groupOf o0 x1 h = r
  unfold f_X5_groupOf at hf
  refine z_start (by decide) (Nat.le_of_ble_eq_true rfl) ?_
  intro p e s m args below meth c ls hx hb hr hlk hml Z hw hl
  have Z : ZK G s args m RX5 := Z
  have hl : lv_has ls 3 [(0, .ref (ra G o0)), (1, .int x1)] := hl
  obtain ⟨H, hH⟩ : ∃ H, H = s.heap := ⟨_, rfl⟩
  rw [← hH] at hw ⊢
  obtain ⟨locs, hlc⟩ : ∃ locs : List Loc, locs = [] := ⟨_, rfl⟩
  rw [← hlc] at hw ⊢
  refine lv_iload_n hx hb dX5_groupOf_0 rfl (lv_at hl 1 rfl) ?_
  refine lv_iconst (v := (5 : Int32)) hx hb dX5_groupOf_1 (by decide) ?_
  refine lv_idiv hx hb dX5_groupOf_2 (by decide) ?_
  refine lv_istore_n (lv' := [(2, _), (0, _), (1, _)]) hx hb dX5_groupOf_3 rfl hl (by decide) rfl (fun ls hl => ?_)
  refine lv_iload_n hx hb dX5_groupOf_4 rfl (lv_at hl 0 rfl) ?_
  refine lv_aload_n hx hb dX5_groupOf_5 rfl (lv_at hl 1 rfl) ?_
  refine z_callVi (o := o0) (ci := 4) (As := []) (rest := [.int (x1 / (5 : Int32))]) (t_X5_groups G l hN o0 k_o0 n_o0 h) cv_X5_groups hx hb hml hl.1 Z hw k_o0 (by decide) n_o0 rfl rfl wd580 rfl rfl (Nat.le_of_ble_eq_true rfl) (by decide) dX5_groupOf_6 (fun H locs hw => ?_)
  refine lv_icmp_ge (tgt := 16) hx hb dX5_groupOf_9 (by decide) (fun c9 => ?_) (fun c9 => ?_)
  · have hf := (if_pos c9).symm.trans hf
    refine lv_bipush (v := (-5 : Int32)) hx hb dX5_groupOf_16 (by decide) ?_
    obtain rfl := hf
    exact z_iret hx hb hr hlk hw dX5_groupOf_18
  · have hf := (if_neg c9).symm.trans hf
    refine lv_iload_n hx hb dX5_groupOf_12 rfl (lv_at hl 0 rfl) ?_
    refine lv_goto (tgt := 18) hx hb dX5_groupOf_13 (by decide) ?_
    obtain rfl := hf
    exact z_iret hx hb hr hlk hw dX5_groupOf_18
set_option maxHeartbeats 4000000 in
set_option maxRecDepth 100000 in
theorem t_X7_howIs (G : GM) (l : Launch) (hN : 70 ≤ gN G) (x1 : Int32) (h : HP) : MC G l yX7_howIs cX7_howIs 2 (some .int) 1 [.ref (ra G 63), .int x1] h h (some (.int (f_X7_howIs x1 h))) := by
  generalize hf : f_X7_howIs x1 h = r
  unfold f_X7_howIs at hf
  refine z_start (by decide) (Nat.le_of_ble_eq_true rfl) ?_
  intro p e s m args below meth c ls hx hb hr hlk hml Z hw hl
  have Z : ZK G s args m RX7 := Z
  have hl : lv_has ls 2 [(0, .ref (ra G 63)), (1, .int x1)] := hl
  obtain ⟨H, hH⟩ : ∃ H, H = s.heap := ⟨_, rfl⟩
  rw [← hH] at hw ⊢
  obtain ⟨locs, hlc⟩ : ∃ locs : List Loc, locs = [] := ⟨_, rfl⟩
  rw [← hlc] at hw ⊢
  refine lv_aload_n hx hb dX7_howIs_0 rfl (lv_at hl 0 rfl) ?_
  refine z_getr (o := 63) (o2 := 68) (C := RX7) (T := TX7) (N := 4) (ci := 6) (k := 3) hx hb Z hw (by decide) (by omega) rfl inX7 (by decide) rfl wd221 dX7_howIs_1 ?_
  refine lv_iload_n hx hb dX7_howIs_4 rfl (lv_at hl 1 rfl) ?_
  refine z_callNi (As := [.ref (ra G 68), .int x1]) (rest := []) (t_X10_at G l hN 68 (by decide) (by omega) x1 h) cs_X10_at hx hb hml hl.1 Z hw wd408 rfl rfl (Nat.le_of_ble_eq_true rfl) (by decide) dX7_howIs_5 (fun H locs hw => ?_)
  obtain rfl := hf
  exact z_iret hx hb hr hlk hw dX7_howIs_8
set_option maxHeartbeats 4000000 in
set_option maxRecDepth 100000 in
theorem t_X8_flatOf (G : GM) (l : Launch) (hN : 70 ≤ gN G) (x0 : Int32) (h : HP) : MC G l yX8_flatOf cX8_flatOf 1 (some .int) 0 [.int x0] h h (some (.int (f_X8_flatOf x0 h))) := by
  generalize hf : f_X8_flatOf x0 h = r
  unfold f_X8_flatOf at hf
  refine z_start (by decide) (Nat.le_of_ble_eq_true rfl) ?_
  intro p e s m args below meth c ls hx hb hr hlk hml Z hw hl
  have Z : ZK G s args m RX8 := Z
  have hl : lv_has ls 1 [(0, .int x0)] := hl
  obtain ⟨H, hH⟩ : ∃ H, H = s.heap := ⟨_, rfl⟩
  rw [← hH] at hw ⊢
  obtain ⟨locs, hlc⟩ : ∃ locs : List Loc, locs = [] := ⟨_, rfl⟩
  rw [← hlc] at hw ⊢
  refine lv_iconst (v := (3 : Int32)) hx hb dX8_flatOf_0 (by decide) ?_
  refine lv_iload_n hx hb dX8_flatOf_1 rfl (lv_at hl 0 rfl) ?_
  refine lv_iconst (v := (4 : Int32)) hx hb dX8_flatOf_2 (by decide) ?_
  refine z_irem hx hb dX8_flatOf_3 (by decide) ?_
  refine lv_iadd hx hb dX8_flatOf_4 ?_
  obtain rfl := hf
  exact z_iret hx hb hr hlk hw dX8_flatOf_5
set_option maxHeartbeats 4000000 in
set_option maxRecDepth 100000 in
theorem t_X8_pitOf (G : GM) (l : Launch) (hN : 70 ≤ gN G) (x0 : Int32) (h : HP) : MC G l yX8_pitOf cX8_pitOf 1 (some .int) 0 [.int x0] h h (some (.int (f_X8_pitOf x0 h))) := by
  generalize hf : f_X8_pitOf x0 h = r
  unfold f_X8_pitOf at hf
  refine z_start (by decide) (Nat.le_of_ble_eq_true rfl) ?_
  intro p e s m args below meth c ls hx hb hr hlk hml Z hw hl
  have Z : ZK G s args m RX8 := Z
  have hl : lv_has ls 1 [(0, .int x0)] := hl
  obtain ⟨H, hH⟩ : ∃ H, H = s.heap := ⟨_, rfl⟩
  rw [← hH] at hw ⊢
  obtain ⟨locs, hlc⟩ : ∃ locs : List Loc, locs = [] := ⟨_, rfl⟩
  rw [← hlc] at hw ⊢
  refine lv_iconst (v := (3 : Int32)) hx hb dX8_pitOf_0 (by decide) ?_
  refine lv_iload_n hx hb dX8_pitOf_1 rfl (lv_at hl 0 rfl) ?_
  refine lv_iconst (v := (4 : Int32)) hx hb dX8_pitOf_2 (by decide) ?_
  refine lv_idiv hx hb dX8_pitOf_3 (by decide) ?_
  refine lv_iadd hx hb dX8_pitOf_4 ?_
  obtain rfl := hf
  exact z_iret hx hb hr hlk hw dX8_pitOf_5
set_option maxHeartbeats 4000000 in
set_option maxRecDepth 100000 in
theorem w_X8_balanceOf_L4 (G : GM) (l : Launch) (hN : 70 ≤ gN G) (o0 : Nat) (k_o0 : kd o0 = 7) (n_o0 : o0 < gN G) {p : Program} {e : Env} {s : State} {m : MethodId} {args : Array Value} {below : List Frame} {meth : Method} {c : Code} (hx : p.tables.exec = Jvm.exec) (hb : c.code = cX8_balanceOf) (hr : meth.sig.returnType = (some .int)) (hlk : meth.locks = false) (hml : c.maxLocals = 5) (Z : ZK G s args m RX8) : ∀ (n : Nat) (x1 : Int32) (x2 : Int32) (x3 : Int32)  (h : HP)  (rv : Option Value) (hq : HP) (ls : Array Slot) (H : Heap) (locs : List Loc) {q : Int32}, lv_has ls 5 [(0, .ref (ra G o0)), (1, .int x1), (2, .int x2), (3, .int x3)] → HW G h s H locs → f_X8_balanceOf_L4 n o0 x1 x2 x3 h = some q → (∀ (ls : Array Slot) (H : Heap) (locs : List Loc), lv_has ls 5 [(2, .int q)] → HW G h s H locs → WZ p l e 3 s m args below meth c G rv hq H locs (F0 m 37 ls [])) → WZ p l e 3 s m args below meth c G rv hq H locs (F0 m 4 ls []) := by
  intro n
  induction n with
  | zero => intro x1 x2 x3  h  rv hq ls H locs q hl hw hf kk; cases hf
  | succ n ih =>
    intro x1 x2 x3  h  rv hq ls H locs q hl hw hf kk
    rw [f_X8_balanceOf_L4] at hf
    refine lv_iload_n hx hb dX8_balanceOf_4 rfl (lv_at hl 3 rfl) ?_
    refine lv_iconst (v := (4 : Int32)) hx hb dX8_balanceOf_5 (by decide) ?_
    refine lv_icmp_ge (tgt := 37) hx hb dX8_balanceOf_6 (by decide) (fun c6 => ?_) (fun c6 => ?_)
    · have hf := (if_pos c6).symm.trans hf
      obtain rfl := Option.some.inj hf
      exact kk ls H locs (lv_sub hl [2] rfl) hw
    · have hf := (if_neg c6).symm.trans hf
      refine lv_aload_n hx hb dX8_balanceOf_9 rfl (lv_at hl 0 rfl) ?_
      refine lv_iload_n hx hb dX8_balanceOf_10 rfl (lv_at hl 1 rfl) ?_
      refine lv_iload_n hx hb dX8_balanceOf_11 rfl (lv_at hl 3 rfl) ?_
      obtain ⟨q12, hq12, hf⟩ := ob_some hf
      refine z_callVi (o := o0) (ci := 7) (As := [.int x1, .int x3]) (rest := []) (t_X8_standsAt G l hN o0 k_o0 n_o0 x1 x3 h hq12) cv_X8_standsAt hx hb hml hl.1 Z hw k_o0 (by decide) n_o0 rfl rfl wd590 rfl rfl (Nat.le_of_ble_eq_true rfl) (by decide) dX8_balanceOf_12 (fun H locs hw => ?_)
      refine lv_istore (lv' := [(4, _), (0, _), (1, _), (2, _), (3, _)]) hx hb dX8_balanceOf_15 hl (by decide) rfl (fun ls hl => ?_)
      refine lv_iload_n hx hb dX8_balanceOf_17 rfl (lv_at hl 3 rfl) ?_
      refine lv_iload hx hb dX8_balanceOf_18 (lv_at hl 0 rfl) ?_
      refine z_callSi (As := [.int q12]) (rest := [.int x2]) (t_X8_pitOf G l hN q12 h) cs_X8_pitOf hx hb hml hl.1 Z hw wd591 rfl rfl (Nat.le_of_ble_eq_true rfl) (by decide) dX8_balanceOf_20 (fun H locs hw => ?_)
      refine lv_iload hx hb dX8_balanceOf_23 (lv_at hl 0 rfl) ?_
      refine z_callSi (As := [.int q12]) (rest := [.int (f_X8_pitOf q12 h), .int x2]) (t_X8_flatOf G l hN q12 h) cs_X8_flatOf hx hb hml hl.1 Z hw wd594 rfl rfl (Nat.le_of_ble_eq_true rfl) (by decide) dX8_balanceOf_25 (fun H locs hw => ?_)
      refine lv_isub hx hb dX8_balanceOf_28 ?_
      refine lv_iadd hx hb dX8_balanceOf_29 ?_
      obtain ⟨v30, hqv30, hf⟩ := tb_ex hf
      refine z_top hqv30 ?_
      refine lv_istore_n (lv' := [(2, _), (4, _), (0, _), (1, _), (3, _)]) hx hb dX8_balanceOf_30 rfl hl (by decide) rfl (fun ls hl => ?_)
      refine lv_iinc (v := x3 + (1 : Int32)) (lv' := [(3, _), (2, _), (4, _), (0, _), (1, _)]) hx hb dX8_balanceOf_31 hl (k := 4) rfl rfl (by decide) rfl (fun ls hl => ?_)
      refine lv_goto (tgt := 4) hx hb dX8_balanceOf_34 (by decide) ?_
      exact ih x1 v30 (x3 + (1 : Int32)) h  rv hq ls H locs (lv_sub hl [3, 4, 1, 0] rfl) hw hf kk
set_option maxHeartbeats 4000000 in
set_option maxRecDepth 100000 in
theorem t_X8_balanceOf (G : GM) (l : Launch) (hN : 70 ≤ gN G) (o0 : Nat) (k_o0 : kd o0 = 7) (n_o0 : o0 < gN G) (x1 : Int32) (h : HP) {r : Int32} (hf : f_X8_balanceOf o0 x1 h = some r) : MC G l yX8_balanceOf cX8_balanceOf 5 (some .int) 3 [.ref (ra G o0), .int x1] h h (some (.int r)) := by
  unfold f_X8_balanceOf at hf
  refine z_start (by decide) (Nat.le_of_ble_eq_true rfl) ?_
  intro p e s m args below meth c ls hx hb hr hlk hml Z hw hl
  have Z : ZK G s args m RX8 := Z
  have hl : lv_has ls 5 [(0, .ref (ra G o0)), (1, .int x1)] := hl
  obtain ⟨H, hH⟩ : ∃ H, H = s.heap := ⟨_, rfl⟩
  rw [← hH] at hw ⊢
  obtain ⟨locs, hlc⟩ : ∃ locs : List Loc, locs = [] := ⟨_, rfl⟩
  rw [← hlc] at hw ⊢
  refine lv_iconst (v := (0 : Int32)) hx hb dX8_balanceOf_0 (by decide) ?_
  refine lv_istore_n (lv' := [(2, _), (0, _), (1, _)]) hx hb dX8_balanceOf_1 rfl hl (by decide) rfl (fun ls hl => ?_)
  refine lv_iconst (v := (0 : Int32)) hx hb dX8_balanceOf_2 (by decide) ?_
  refine lv_istore_n (lv' := [(3, _), (2, _), (0, _), (1, _)]) hx hb dX8_balanceOf_3 rfl hl (by decide) rfl (fun ls hl => ?_)
  obtain ⟨q4, hq4, hf⟩ := ob_some hf
  refine w_X8_balanceOf_L4 G l hN o0 k_o0 n_o0 hx hb hr hlk hml Z FU x1 (0 : Int32) (0 : Int32) h  _ _ ls H locs (lv_sub hl [2, 3, 1, 0] rfl) hw hq4 (fun ls H locs hl hw => ?_)
  refine lv_iload_n hx hb dX8_balanceOf_37 rfl (lv_at hl 0 rfl) ?_
  obtain rfl := Option.some.inj hf
  exact z_iret hx hb hr hlk hw dX8_balanceOf_38
set_option maxHeartbeats 4000000 in
set_option maxRecDepth 100000 in
theorem w_X8_lengthOf_L4 (G : GM) (l : Launch) (hN : 70 ≤ gN G) (o0 : Nat) (k_o0 : kd o0 = 7) (n_o0 : o0 < gN G) {p : Program} {e : Env} {s : State} {m : MethodId} {args : Array Value} {below : List Frame} {meth : Method} {c : Code} (hx : p.tables.exec = Jvm.exec) (hb : c.code = cX8_lengthOf) (hr : meth.sig.returnType = (some .int)) (hlk : meth.locks = false) (hml : c.maxLocals = 5) (Z : ZK G s args m RX8) : ∀ (n : Nat) (x1 : Int32) (x2 : Int32) (x3 : Int32)  (h : HP)  (rv : Option Value) (hq : HP) (ls : Array Slot) (H : Heap) (locs : List Loc) {q : Int32}, lv_has ls 5 [(0, .ref (ra G o0)), (1, .int x1), (2, .int x2), (3, .int x3)] → HW G h s H locs → f_X8_lengthOf_L4 n o0 x1 x2 x3 h = some q → (∀ (ls : Array Slot) (H : Heap) (locs : List Loc), lv_has ls 5 [(2, .int q)] → HW G h s H locs → WZ p l e 3 s m args below meth c G rv hq H locs (F0 m 37 ls [])) → WZ p l e 3 s m args below meth c G rv hq H locs (F0 m 4 ls []) := by
  intro n
  induction n with
  | zero => intro x1 x2 x3  h  rv hq ls H locs q hl hw hf kk; cases hf
  | succ n ih =>
    intro x1 x2 x3  h  rv hq ls H locs q hl hw hf kk
    rw [f_X8_lengthOf_L4] at hf
    refine lv_iload_n hx hb dX8_lengthOf_4 rfl (lv_at hl 3 rfl) ?_
    refine lv_iconst (v := (4 : Int32)) hx hb dX8_lengthOf_5 (by decide) ?_
    refine lv_icmp_ge (tgt := 37) hx hb dX8_lengthOf_6 (by decide) (fun c6 => ?_) (fun c6 => ?_)
    · have hf := (if_pos c6).symm.trans hf
      obtain rfl := Option.some.inj hf
      exact kk ls H locs (lv_sub hl [2] rfl) hw
    · have hf := (if_neg c6).symm.trans hf
      refine lv_aload_n hx hb dX8_lengthOf_9 rfl (lv_at hl 0 rfl) ?_
      refine lv_iload_n hx hb dX8_lengthOf_10 rfl (lv_at hl 1 rfl) ?_
      refine lv_iload_n hx hb dX8_lengthOf_11 rfl (lv_at hl 3 rfl) ?_
      obtain ⟨q12, hq12, hf⟩ := ob_some hf
      refine z_callVi (o := o0) (ci := 7) (As := [.int x1, .int x3]) (rest := []) (t_X8_standsAt G l hN o0 k_o0 n_o0 x1 x3 h hq12) cv_X8_standsAt hx hb hml hl.1 Z hw k_o0 (by decide) n_o0 rfl rfl wd590 rfl rfl (Nat.le_of_ble_eq_true rfl) (by decide) dX8_lengthOf_12 (fun H locs hw => ?_)
      refine lv_istore (lv' := [(4, _), (0, _), (1, _), (2, _), (3, _)]) hx hb dX8_lengthOf_15 hl (by decide) rfl (fun ls hl => ?_)
      refine lv_iload_n hx hb dX8_lengthOf_17 rfl (lv_at hl 3 rfl) ?_
      refine lv_iload hx hb dX8_lengthOf_18 (lv_at hl 0 rfl) ?_
      refine z_callSi (As := [.int q12]) (rest := [.int x2]) (t_X8_pitOf G l hN q12 h) cs_X8_pitOf hx hb hml hl.1 Z hw wd591 rfl rfl (Nat.le_of_ble_eq_true rfl) (by decide) dX8_lengthOf_20 (fun H locs hw => ?_)
      refine lv_iload hx hb dX8_lengthOf_23 (lv_at hl 0 rfl) ?_
      refine z_callSi (As := [.int q12]) (rest := [.int (f_X8_pitOf q12 h), .int x2]) (t_X8_flatOf G l hN q12 h) cs_X8_flatOf hx hb hml hl.1 Z hw wd594 rfl rfl (Nat.le_of_ble_eq_true rfl) (by decide) dX8_lengthOf_25 (fun H locs hw => ?_)
      refine lv_iadd hx hb dX8_lengthOf_28 ?_
      refine lv_iadd hx hb dX8_lengthOf_29 ?_
      obtain ⟨v30, hqv30, hf⟩ := tb_ex hf
      refine z_top hqv30 ?_
      refine lv_istore_n (lv' := [(2, _), (4, _), (0, _), (1, _), (3, _)]) hx hb dX8_lengthOf_30 rfl hl (by decide) rfl (fun ls hl => ?_)
      refine lv_iinc (v := x3 + (1 : Int32)) (lv' := [(3, _), (2, _), (4, _), (0, _), (1, _)]) hx hb dX8_lengthOf_31 hl (k := 4) rfl rfl (by decide) rfl (fun ls hl => ?_)
      refine lv_goto (tgt := 4) hx hb dX8_lengthOf_34 (by decide) ?_
      exact ih x1 v30 (x3 + (1 : Int32)) h  rv hq ls H locs (lv_sub hl [3, 4, 1, 0] rfl) hw hf kk
set_option maxHeartbeats 4000000 in
set_option maxRecDepth 100000 in
theorem t_X8_lengthOf (G : GM) (l : Launch) (hN : 70 ≤ gN G) (o0 : Nat) (k_o0 : kd o0 = 7) (n_o0 : o0 < gN G) (x1 : Int32) (h : HP) {r : Int32} (hf : f_X8_lengthOf o0 x1 h = some r) : MC G l yX8_lengthOf cX8_lengthOf 5 (some .int) 3 [.ref (ra G o0), .int x1] h h (some (.int r)) := by
  unfold f_X8_lengthOf at hf
  refine z_start (by decide) (Nat.le_of_ble_eq_true rfl) ?_
  intro p e s m args below meth c ls hx hb hr hlk hml Z hw hl
  have Z : ZK G s args m RX8 := Z
  have hl : lv_has ls 5 [(0, .ref (ra G o0)), (1, .int x1)] := hl
  obtain ⟨H, hH⟩ : ∃ H, H = s.heap := ⟨_, rfl⟩
  rw [← hH] at hw ⊢
  obtain ⟨locs, hlc⟩ : ∃ locs : List Loc, locs = [] := ⟨_, rfl⟩
  rw [← hlc] at hw ⊢
  refine lv_iconst (v := (0 : Int32)) hx hb dX8_lengthOf_0 (by decide) ?_
  refine lv_istore_n (lv' := [(2, _), (0, _), (1, _)]) hx hb dX8_lengthOf_1 rfl hl (by decide) rfl (fun ls hl => ?_)
  refine lv_iconst (v := (0 : Int32)) hx hb dX8_lengthOf_2 (by decide) ?_
  refine lv_istore_n (lv' := [(3, _), (2, _), (0, _), (1, _)]) hx hb dX8_lengthOf_3 rfl hl (by decide) rfl (fun ls hl => ?_)
  obtain ⟨q4, hq4, hf⟩ := ob_some hf
  refine w_X8_lengthOf_L4 G l hN o0 k_o0 n_o0 hx hb hr hlk hml Z FU x1 (0 : Int32) (0 : Int32) h  _ _ ls H locs (lv_sub hl [2, 3, 1, 0] rfl) hw hq4 (fun ls H locs hl hw => ?_)
  refine lv_iload_n hx hb dX8_lengthOf_37 rfl (lv_at hl 0 rfl) ?_
  obtain rfl := Option.some.inj hf
  exact z_iret hx hb hr hlk hw dX8_lengthOf_38
set_option maxHeartbeats 4000000 in
set_option maxRecDepth 100000 in
theorem w_X8_longestRunOf_L4 (G : GM) (l : Launch) (hN : 70 ≤ gN G) (o0 : Nat) (k_o0 : kd o0 = 7) (n_o0 : o0 < gN G) {p : Program} {e : Env} {s : State} {m : MethodId} {args : Array Value} {below : List Frame} {meth : Method} {c : Code} (hx : p.tables.exec = Jvm.exec) (hb : c.code = cX8_longestRunOf) (hr : meth.sig.returnType = (some .int)) (hlk : meth.locks = false) (hml : c.maxLocals = 5) (Z : ZK G s args m RX8) : ∀ (n : Nat) (x1 : Int32) (x2 : Int32) (x3 : Int32)  (h : HP)  (rv : Option Value) (hq : HP) (ls : Array Slot) (H : Heap) (locs : List Loc) {q : Int32}, lv_has ls 5 [(0, .ref (ra G o0)), (1, .int x1), (2, .int x2), (3, .int x3)] → HW G h s H locs → f_X8_longestRunOf_L4 n o0 x1 x2 x3 h = some q → (∀ (ls : Array Slot) (H : Heap) (locs : List Loc), lv_has ls 5 [(2, .int q)] → HW G h s H locs → WZ p l e 3 s m args below meth c G rv hq H locs (F0 m 41 ls [])) → WZ p l e 3 s m args below meth c G rv hq H locs (F0 m 4 ls []) := by
  intro n
  induction n with
  | zero => intro x1 x2 x3  h  rv hq ls H locs q hl hw hf kk; cases hf
  | succ n ih =>
    intro x1 x2 x3  h  rv hq ls H locs q hl hw hf kk
    rw [f_X8_longestRunOf_L4] at hf
    refine lv_iload_n hx hb dX8_longestRunOf_4 rfl (lv_at hl 3 rfl) ?_
    refine lv_iconst (v := (4 : Int32)) hx hb dX8_longestRunOf_5 (by decide) ?_
    refine lv_icmp_ge (tgt := 41) hx hb dX8_longestRunOf_6 (by decide) (fun c6 => ?_) (fun c6 => ?_)
    · have hf := (if_pos c6).symm.trans hf
      obtain rfl := Option.some.inj hf
      exact kk ls H locs (lv_sub hl [2] rfl) hw
    · have hf := (if_neg c6).symm.trans hf
      refine lv_aload_n hx hb dX8_longestRunOf_9 rfl (lv_at hl 0 rfl) ?_
      refine lv_iload_n hx hb dX8_longestRunOf_10 rfl (lv_at hl 1 rfl) ?_
      refine lv_iload_n hx hb dX8_longestRunOf_11 rfl (lv_at hl 3 rfl) ?_
      obtain ⟨q12, hq12, hf⟩ := ob_some hf
      refine z_callVi (o := o0) (ci := 7) (As := [.int x1, .int x3]) (rest := []) (t_X8_standsAt G l hN o0 k_o0 n_o0 x1 x3 h hq12) cv_X8_standsAt hx hb hml hl.1 Z hw k_o0 (by decide) n_o0 rfl rfl wd590 rfl rfl (Nat.le_of_ble_eq_true rfl) (by decide) dX8_longestRunOf_12 (fun H locs hw => ?_)
      refine lv_istore (lv' := [(4, _), (0, _), (1, _), (2, _), (3, _)]) hx hb dX8_longestRunOf_15 hl (by decide) rfl (fun ls hl => ?_)
      refine lv_iload_n hx hb dX8_longestRunOf_17 rfl (lv_at hl 3 rfl) ?_
      refine lv_iload hx hb dX8_longestRunOf_18 (lv_at hl 0 rfl) ?_
      refine z_callSi (As := [.int q12]) (rest := [.int x2]) (t_X8_pitOf G l hN q12 h) cs_X8_pitOf hx hb hml hl.1 Z hw wd591 rfl rfl (Nat.le_of_ble_eq_true rfl) (by decide) dX8_longestRunOf_20 (fun H locs hw => ?_)
      refine lv_iload hx hb dX8_longestRunOf_23 (lv_at hl 0 rfl) ?_
      refine z_callSi (As := [.int q12]) (rest := [.int (f_X8_pitOf q12 h), .int x2]) (t_X8_flatOf G l hN q12 h) cs_X8_flatOf hx hb hml hl.1 Z hw wd594 rfl rfl (Nat.le_of_ble_eq_true rfl) (by decide) dX8_longestRunOf_25 (fun H locs hw => ?_)
      refine z_mmax hx hb (hml.trans hl.1.symm) Z wd605 wd387 wd35 wd388 (Nat.le_of_ble_eq_true rfl) dX8_longestRunOf_28 ?_
      refine z_mmax hx hb (hml.trans hl.1.symm) Z wd605 wd387 wd35 wd388 (Nat.le_of_ble_eq_true rfl) dX8_longestRunOf_31 ?_
      obtain ⟨v34, hqv34, hf⟩ := tb_ex hf
      refine z_top hqv34 ?_
      refine lv_istore_n (lv' := [(2, _), (4, _), (0, _), (1, _), (3, _)]) hx hb dX8_longestRunOf_34 rfl hl (by decide) rfl (fun ls hl => ?_)
      refine lv_iinc (v := x3 + (1 : Int32)) (lv' := [(3, _), (2, _), (4, _), (0, _), (1, _)]) hx hb dX8_longestRunOf_35 hl (k := 4) rfl rfl (by decide) rfl (fun ls hl => ?_)
      refine lv_goto (tgt := 4) hx hb dX8_longestRunOf_38 (by decide) ?_
      exact ih x1 v34 (x3 + (1 : Int32)) h  rv hq ls H locs (lv_sub hl [3, 4, 1, 0] rfl) hw hf kk
set_option maxHeartbeats 4000000 in
set_option maxRecDepth 100000 in
theorem t_X8_longestRunOf (G : GM) (l : Launch) (hN : 70 ≤ gN G) (o0 : Nat) (k_o0 : kd o0 = 7) (n_o0 : o0 < gN G) (x1 : Int32) (h : HP) {r : Int32} (hf : f_X8_longestRunOf o0 x1 h = some r) : MC G l yX8_longestRunOf cX8_longestRunOf 5 (some .int) 3 [.ref (ra G o0), .int x1] h h (some (.int r)) := by
  unfold f_X8_longestRunOf at hf
  refine z_start (by decide) (Nat.le_of_ble_eq_true rfl) ?_
  intro p e s m args below meth c ls hx hb hr hlk hml Z hw hl
  have Z : ZK G s args m RX8 := Z
  have hl : lv_has ls 5 [(0, .ref (ra G o0)), (1, .int x1)] := hl
  obtain ⟨H, hH⟩ : ∃ H, H = s.heap := ⟨_, rfl⟩
  rw [← hH] at hw ⊢
  obtain ⟨locs, hlc⟩ : ∃ locs : List Loc, locs = [] := ⟨_, rfl⟩
  rw [← hlc] at hw ⊢
  refine lv_iconst (v := (0 : Int32)) hx hb dX8_longestRunOf_0 (by decide) ?_
  refine lv_istore_n (lv' := [(2, _), (0, _), (1, _)]) hx hb dX8_longestRunOf_1 rfl hl (by decide) rfl (fun ls hl => ?_)
  refine lv_iconst (v := (0 : Int32)) hx hb dX8_longestRunOf_2 (by decide) ?_
  refine lv_istore_n (lv' := [(3, _), (2, _), (0, _), (1, _)]) hx hb dX8_longestRunOf_3 rfl hl (by decide) rfl (fun ls hl => ?_)
  obtain ⟨q4, hq4, hf⟩ := ob_some hf
  refine w_X8_longestRunOf_L4 G l hN o0 k_o0 n_o0 hx hb hr hlk hml Z FU x1 (0 : Int32) (0 : Int32) h  _ _ ls H locs (lv_sub hl [2, 3, 1, 0] rfl) hw hq4 (fun ls H locs hl hw => ?_)
  refine lv_iload_n hx hb dX8_longestRunOf_41 rfl (lv_at hl 0 rfl) ?_
  obtain rfl := Option.some.inj hf
  exact z_iret hx hb hr hlk hw dX8_longestRunOf_42
set_option maxHeartbeats 4000000 in
set_option maxRecDepth 100000 in
theorem t_X10_frame (G : GM) (l : Launch) (hN : 70 ≤ gN G) (x1 : Int32) (x2 : Int32) (h : HP) {r : Int32} {h' : HP} (hf : f_X10_frame x1 x2 h = some (r, h')) : MC G l yX10_frame cX10_frame 4 (some .int) 4 [.ref (ra G 0), .int x1, .int x2] h h' (some (.int r)) := by
  unfold f_X10_frame at hf
  refine z_start (by decide) (Nat.le_of_ble_eq_true rfl) ?_
  intro p e s m args below meth c ls hx hb hr hlk hml Z hw hl
  have Z : ZK G s args m RX10 := Z
  have hl : lv_has ls 4 [(0, .ref (ra G 0)), (1, .int x1), (2, .int x2)] := hl
  obtain ⟨H, hH⟩ : ∃ H, H = s.heap := ⟨_, rfl⟩
  rw [← hH] at hw ⊢
  obtain ⟨locs, hlc⟩ : ∃ locs : List Loc, locs = [] := ⟨_, rfl⟩
  rw [← hlc] at hw ⊢
  refine lv_aload_n hx hb dX10_frame_0 rfl (lv_at hl 0 rfl) ?_
  refine z_getr (o := 0) (o2 := 1) (C := RX10) (T := TX10) (N := 8) (ci := 8) (k := 0) hx hb Z hw (by decide) (by omega) rfl inX10 (by decide) rfl wd233 dX10_frame_1 ?_
  refine z_getr (o := 1) (o2 := 2) (C := RX6) (T := TX6) (N := 4) (ci := 5) (k := 0) hx hb Z hw (by decide) (by omega) rfl inX6 (by decide) rfl wd145 dX10_frame_4 ?_
  refine lv_astore_n (lv' := [(3, _), (0, _), (1, _), (2, _)]) hx hb dX10_frame_7 rfl hl (by decide) rfl (fun ls hl => ?_)
  refine lv_aload_n hx hb dX10_frame_8 rfl (lv_at hl 0 rfl) ?_
  refine lv_iload_n hx hb dX10_frame_9 rfl (lv_at hl 2 rfl) ?_
  refine z_callVi (o := 2) (ci := 4) (As := [.int x1]) (rest := []) (t_X5_hasFrame G l hN 2 (by decide) (by omega) x1 h) cv_X5_hasFrame hx hb hml hl.1 Z hw (by decide) (by decide) (by omega) rfl rfl wd485 rfl rfl (Nat.le_of_ble_eq_true rfl) (by decide) dX10_frame_10 (fun H locs hw => ?_)
  refine lv_if_ne (tgt := 18) hx hb dX10_frame_13 (by decide) (fun c13 => ?_) (fun c13 => ?_)
  · have hf := (if_neg c13).symm.trans hf
    refine lv_iload_n hx hb dX10_frame_18 rfl (lv_at hl 3 rfl) ?_
    by_cases c19_0 : x2 = 0
    · have hf := (if_pos c19_0).symm.trans hf
      refine z_sw c19_0 ?_
      refine lv_tableIn (tgt := 68) hx hb dX10_frame_19 (by decide) (by decide) rfl (by decide) ?_
      refine lv_aload_n hx hb dX10_frame_68 rfl (lv_at hl 0 rfl) ?_
      refine lv_iload_n hx hb dX10_frame_69 rfl (lv_at hl 2 rfl) ?_
      obtain ⟨q70, hq70, hf⟩ := ob_some hf
      refine z_callVi (o := 2) (ci := 4) (As := [.int x1]) (rest := []) (t_X5_turnOf G l hN 2 (by decide) (by omega) x1 h hq70) cv_X5_turnOf hx hb hml hl.1 Z hw (by decide) (by decide) (by omega) rfl rfl wd339 rfl rfl (Nat.le_of_ble_eq_true rfl) (by decide) dX10_frame_70 (fun H locs hw => ?_)
      obtain ⟨rfl, rfl⟩ := Prod.mk.inj (Option.some.inj hf)
      exact z_iret hx hb hr hlk hw dX10_frame_73
    have hf := (if_neg c19_0).symm.trans hf
    by_cases c19_1 : x2 = 1
    · have hf := (if_pos c19_1).symm.trans hf
      refine z_sw c19_1 ?_
      refine lv_tableIn (tgt := 74) hx hb dX10_frame_19 (by decide) (by decide) rfl (by decide) ?_
      refine lv_iload_n hx hb dX10_frame_74 rfl (lv_at hl 2 rfl) ?_
      refine lv_aload_n hx hb dX10_frame_75 rfl (lv_at hl 0 rfl) ?_
      refine lv_aload_n hx hb dX10_frame_76 rfl (lv_at hl 0 rfl) ?_
      refine lv_iload_n hx hb dX10_frame_77 rfl (lv_at hl 2 rfl) ?_
      obtain ⟨q78, hq78, hf⟩ := ob_some hf
      refine z_callVi (o := 2) (ci := 4) (As := [.int x1]) (rest := [.ref (ra G 2), .int x1]) (t_X5_turnOf G l hN 2 (by decide) (by omega) x1 h hq78) cv_X5_turnOf hx hb hml hl.1 Z hw (by decide) (by decide) (by omega) rfl rfl wd339 rfl rfl (Nat.le_of_ble_eq_true rfl) (by decide) dX10_frame_78 (fun H locs hw => ?_)
      refine z_callVi (o := 2) (ci := 4) (As := [.int q78]) (rest := [.int x1]) (t_X5_firstOf G l hN 2 (by decide) (by omega) q78 h) cv_X5_firstOf hx hb hml hl.1 Z hw (by decide) (by decide) (by omega) rfl rfl wd575 rfl rfl (Nat.le_of_ble_eq_true rfl) (by decide) dX10_frame_81 (fun H locs hw => ?_)
      refine lv_isub hx hb dX10_frame_84 ?_
      obtain ⟨rfl, rfl⟩ := Prod.mk.inj (Option.some.inj hf)
      exact z_iret hx hb hr hlk hw dX10_frame_85
    have hf := (if_neg c19_1).symm.trans hf
    by_cases c19_2 : x2 = 2
    · have hf := (if_pos c19_2).symm.trans hf
      refine z_sw c19_2 ?_
      refine lv_tableIn (tgt := 86) hx hb dX10_frame_19 (by decide) (by decide) rfl (by decide) ?_
      refine lv_aload_n hx hb dX10_frame_86 rfl (lv_at hl 0 rfl) ?_
      refine lv_iload_n hx hb dX10_frame_87 rfl (lv_at hl 2 rfl) ?_
      refine z_callVi (o := 2) (ci := 4) (As := [.int x1]) (rest := []) (t_X5_groupOf G l hN 2 (by decide) (by omega) x1 h) cv_X5_groupOf hx hb hml hl.1 Z hw (by decide) (by decide) (by omega) rfl rfl wd576 rfl rfl (Nat.le_of_ble_eq_true rfl) (by decide) dX10_frame_88 (fun H locs hw => ?_)
      obtain ⟨rfl, rfl⟩ := Prod.mk.inj (Option.some.inj hf)
      exact z_iret hx hb hr hlk hw dX10_frame_91
    have hf := (if_neg c19_2).symm.trans hf
    by_cases c19_3 : x2 = 3
    · have hf := (if_pos c19_3).symm.trans hf
      refine z_sw c19_3 ?_
      refine lv_tableIn (tgt := 92) hx hb dX10_frame_19 (by decide) (by decide) rfl (by decide) ?_
      refine lv_iload_n hx hb dX10_frame_92 rfl (lv_at hl 2 rfl) ?_
      refine z_callSi (As := [.int x1]) (rest := []) (t_X5_isCheck G l hN x1 h) cs_X5_isCheck hx hb hml hl.1 Z hw wd492 rfl rfl (Nat.le_of_ble_eq_true rfl) (by decide) dX10_frame_93 (fun H locs hw => ?_)
      refine lv_if_eq (tgt := 103) hx hb dX10_frame_96 (by decide) (fun c96 => ?_) (fun c96 => ?_)
      · have hf := (if_pos c96).symm.trans hf
        refine lv_iconst (v := (0 : Int32)) hx hb dX10_frame_103 (by decide) ?_
        obtain ⟨rfl, rfl⟩ := Prod.mk.inj (Option.some.inj hf)
        exact z_iret hx hb hr hlk hw dX10_frame_104
      · have hf := (if_neg c96).symm.trans hf
        refine lv_iconst (v := (1 : Int32)) hx hb dX10_frame_99 (by decide) ?_
        refine lv_goto (tgt := 104) hx hb dX10_frame_100 (by decide) ?_
        obtain ⟨rfl, rfl⟩ := Prod.mk.inj (Option.some.inj hf)
        exact z_iret hx hb hr hlk hw dX10_frame_104
    have hf := (if_neg c19_3).symm.trans hf
    by_cases c19_4 : x2 = 4
    · have hf := (if_pos c19_4).symm.trans hf
      refine z_sw c19_4 ?_
      refine lv_tableIn (tgt := 105) hx hb dX10_frame_19 (by decide) (by decide) rfl (by decide) ?_
      refine lv_aload_n hx hb dX10_frame_105 rfl (lv_at hl 1 rfl) ?_
      refine z_getr (o := 0) (o2 := 63) (C := RX10) (T := TX10) (N := 8) (ci := 8) (k := 6) hx hb Z hw (by decide) (by omega) rfl inX10 (by decide) rfl wd239 dX10_frame_106 ?_
      refine lv_aload_n hx hb dX10_frame_109 rfl (lv_at hl 1 rfl) ?_
      refine z_getr (o := 0) (o2 := 1) (C := RX10) (T := TX10) (N := 8) (ci := 8) (k := 0) hx hb Z hw (by decide) (by omega) rfl inX10 (by decide) rfl wd233 dX10_frame_110 ?_
      obtain ⟨q113, hq113, hf⟩ := ob_some hf
      refine z_callVi (o := 63) (ci := 6) (As := [.ref (ra G 1)]) (rest := []) (t_X7_of G l hN 1 (by decide) (by omega) h hq113) cv_X7_of hx hb hml hl.1 Z hw (by decide) (by decide) (by omega) rfl rfl wd343 rfl rfl (Nat.le_of_ble_eq_true rfl) (by decide) dX10_frame_113 (fun H locs hw => ?_)
      refine lv_iload_n hx hb dX10_frame_116 rfl (lv_at hl 2 rfl) ?_
      refine z_callVi (o := 63) (ci := 6) (As := [.int x1]) (rest := []) (t_X7_isDamaged G l hN x1 q113) cv_X7_isDamaged hx hb hml hl.1 Z hw (by decide) (by decide) (by omega) rfl rfl wd581 rfl rfl (Nat.le_of_ble_eq_true rfl) (by decide) dX10_frame_117 (fun H locs hw => ?_)
      refine lv_if_eq (tgt := 127) hx hb dX10_frame_120 (by decide) (fun c120 => ?_) (fun c120 => ?_)
      · have hf := (if_pos c120).symm.trans hf
        refine lv_iconst (v := (0 : Int32)) hx hb dX10_frame_127 (by decide) ?_
        obtain ⟨rfl, rfl⟩ := Prod.mk.inj (Option.some.inj hf)
        exact z_iret hx hb hr hlk hw dX10_frame_128
      · have hf := (if_neg c120).symm.trans hf
        refine lv_iconst (v := (1 : Int32)) hx hb dX10_frame_123 (by decide) ?_
        refine lv_goto (tgt := 128) hx hb dX10_frame_124 (by decide) ?_
        obtain ⟨rfl, rfl⟩ := Prod.mk.inj (Option.some.inj hf)
        exact z_iret hx hb hr hlk hw dX10_frame_128
    have hf := (if_neg c19_4).symm.trans hf
    by_cases c19_5 : x2 = 5
    · have hf := (if_pos c19_5).symm.trans hf
      refine z_sw c19_5 ?_
      refine lv_tableIn (tgt := 129) hx hb dX10_frame_19 (by decide) (by decide) rfl (by decide) ?_
      refine lv_aload_n hx hb dX10_frame_129 rfl (lv_at hl 1 rfl) ?_
      refine z_getr (o := 0) (o2 := 63) (C := RX10) (T := TX10) (N := 8) (ci := 8) (k := 6) hx hb Z hw (by decide) (by omega) rfl inX10 (by decide) rfl wd239 dX10_frame_130 ?_
      refine lv_aload_n hx hb dX10_frame_133 rfl (lv_at hl 1 rfl) ?_
      refine z_getr (o := 0) (o2 := 1) (C := RX10) (T := TX10) (N := 8) (ci := 8) (k := 0) hx hb Z hw (by decide) (by omega) rfl inX10 (by decide) rfl wd233 dX10_frame_134 ?_
      obtain ⟨q137, hq137, hf⟩ := ob_some hf
      refine z_callVi (o := 63) (ci := 6) (As := [.ref (ra G 1)]) (rest := []) (t_X7_of G l hN 1 (by decide) (by omega) h hq137) cv_X7_of hx hb hml hl.1 Z hw (by decide) (by decide) (by omega) rfl rfl wd343 rfl rfl (Nat.le_of_ble_eq_true rfl) (by decide) dX10_frame_137 (fun H locs hw => ?_)
      refine lv_iload_n hx hb dX10_frame_140 rfl (lv_at hl 2 rfl) ?_
      refine z_callVi (o := 63) (ci := 6) (As := [.int x1]) (rest := []) (t_X7_howIs G l hN x1 q137) cv_X7_howIs hx hb hml hl.1 Z hw (by decide) (by decide) (by omega) rfl rfl wd582 rfl rfl (Nat.le_of_ble_eq_true rfl) (by decide) dX10_frame_141 (fun H locs hw => ?_)
      obtain ⟨rfl, rfl⟩ := Prod.mk.inj (Option.some.inj hf)
      exact z_iret hx hb hr hlk hw dX10_frame_144
    have hf := (if_neg c19_5).symm.trans hf
    by_cases c19_6 : x2 = 6
    · have hf := (if_pos c19_6).symm.trans hf
      refine z_sw c19_6 ?_
      refine lv_tableIn (tgt := 145) hx hb dX10_frame_19 (by decide) (by decide) rfl (by decide) ?_
      refine lv_aload_n hx hb dX10_frame_145 rfl (lv_at hl 1 rfl) ?_
      refine z_getr (o := 0) (o2 := 1) (C := RX10) (T := TX10) (N := 8) (ci := 8) (k := 0) hx hb Z hw (by decide) (by omega) rfl inX10 (by decide) rfl wd233 dX10_frame_146 ?_
      refine z_getr (o := 1) (o2 := 5) (C := RX6) (T := TX6) (N := 4) (ci := 5) (k := 2) hx hb Z hw (by decide) (by omega) rfl inX6 (by decide) rfl wd150 dX10_frame_149 ?_
      refine lv_iload_n hx hb dX10_frame_152 rfl (lv_at hl 2 rfl) ?_
      obtain ⟨q153, hq153, hf⟩ := ob_some hf
      refine z_callVi (o := 5) (ci := 7) (As := [.int x1]) (rest := []) (t_X8_lengthOf G l hN 5 (by decide) (by omega) x1 h hq153) cv_X8_lengthOf hx hb hml hl.1 Z hw (by decide) (by decide) (by omega) rfl rfl wd586 rfl rfl (Nat.le_of_ble_eq_true rfl) (by decide) dX10_frame_153 (fun H locs hw => ?_)
      obtain ⟨rfl, rfl⟩ := Prod.mk.inj (Option.some.inj hf)
      exact z_iret hx hb hr hlk hw dX10_frame_156
    have hf := (if_neg c19_6).symm.trans hf
    by_cases c19_7 : x2 = 7
    · have hf := (if_pos c19_7).symm.trans hf
      refine z_sw c19_7 ?_
      refine lv_tableIn (tgt := 157) hx hb dX10_frame_19 (by decide) (by decide) rfl (by decide) ?_
      refine lv_aload_n hx hb dX10_frame_157 rfl (lv_at hl 1 rfl) ?_
      refine z_getr (o := 0) (o2 := 1) (C := RX10) (T := TX10) (N := 8) (ci := 8) (k := 0) hx hb Z hw (by decide) (by omega) rfl inX10 (by decide) rfl wd233 dX10_frame_158 ?_
      refine z_getr (o := 1) (o2 := 5) (C := RX6) (T := TX6) (N := 4) (ci := 5) (k := 2) hx hb Z hw (by decide) (by omega) rfl inX6 (by decide) rfl wd150 dX10_frame_161 ?_
      refine lv_iload_n hx hb dX10_frame_164 rfl (lv_at hl 2 rfl) ?_
      obtain ⟨q165, hq165, hf⟩ := ob_some hf
      refine z_callVi (o := 5) (ci := 7) (As := [.int x1]) (rest := []) (t_X8_balanceOf G l hN 5 (by decide) (by omega) x1 h hq165) cv_X8_balanceOf hx hb hml hl.1 Z hw (by decide) (by decide) (by omega) rfl rfl wd597 rfl rfl (Nat.le_of_ble_eq_true rfl) (by decide) dX10_frame_165 (fun H locs hw => ?_)
      refine lv_bipush (v := (100 : Int32)) hx hb dX10_frame_168 (by decide) ?_
      refine lv_iadd hx hb dX10_frame_170 ?_
      obtain ⟨rfl, rfl⟩ := Prod.mk.inj (Option.some.inj hf)
      exact z_iret hx hb hr hlk hw dX10_frame_171
    have hf := (if_neg c19_7).symm.trans hf
    by_cases c19_8 : x2 = 8
    · have hf := (if_pos c19_8).symm.trans hf
      refine z_sw c19_8 ?_
      refine lv_tableIn (tgt := 172) hx hb dX10_frame_19 (by decide) (by decide) rfl (by decide) ?_
      refine lv_aload_n hx hb dX10_frame_172 rfl (lv_at hl 1 rfl) ?_
      refine z_getr (o := 0) (o2 := 1) (C := RX10) (T := TX10) (N := 8) (ci := 8) (k := 0) hx hb Z hw (by decide) (by omega) rfl inX10 (by decide) rfl wd233 dX10_frame_173 ?_
      refine z_getr (o := 1) (o2 := 5) (C := RX6) (T := TX6) (N := 4) (ci := 5) (k := 2) hx hb Z hw (by decide) (by omega) rfl inX6 (by decide) rfl wd150 dX10_frame_176 ?_
      refine lv_iload_n hx hb dX10_frame_179 rfl (lv_at hl 2 rfl) ?_
      obtain ⟨q180, hq180, hf⟩ := ob_some hf
      refine z_callVi (o := 5) (ci := 7) (As := [.int x1]) (rest := []) (t_X8_longestRunOf G l hN 5 (by decide) (by omega) x1 h hq180) cv_X8_longestRunOf hx hb hml hl.1 Z hw (by decide) (by decide) (by omega) rfl rfl wd601 rfl rfl (Nat.le_of_ble_eq_true rfl) (by decide) dX10_frame_180 (fun H locs hw => ?_)
      obtain ⟨rfl, rfl⟩ := Prod.mk.inj (Option.some.inj hf)
      exact z_iret hx hb hr hlk hw dX10_frame_183
    have hf := (if_neg c19_8).symm.trans hf
    refine lv_tableOut (tgt := 184) hx hb dX10_frame_19 (by have := [0]; have e0 := sw_ne (k := 0) (by decide) c19_0; have e1 := sw_ne (k := 1) (by decide) c19_1; have e2 := sw_ne (k := 2) (by decide) c19_2; have e3 := sw_ne (k := 3) (by decide) c19_3; have e4 := sw_ne (k := 4) (by decide) c19_4; have e5 := sw_ne (k := 5) (by decide) c19_5; have e6 := sw_ne (k := 6) (by decide) c19_6; have e7 := sw_ne (k := 7) (by decide) c19_7; have e8 := sw_ne (k := 8) (by decide) c19_8; omega) (by decide) ?_
    refine lv_bipush (v := (-2 : Int32)) hx hb dX10_frame_184 (by decide) ?_
    obtain ⟨rfl, rfl⟩ := Prod.mk.inj (Option.some.inj hf)
    exact z_iret hx hb hr hlk hw dX10_frame_186
  · have hf := (if_pos c13).symm.trans hf
    refine lv_iconst (v := (-1 : Int32)) hx hb dX10_frame_16 (by decide) ?_
    obtain ⟨rfl, rfl⟩ := Prod.mk.inj (Option.some.inj hf)
    exact z_iret hx hb hr hlk hw dX10_frame_17
