/-! walks (by program) -/
set_option maxHeartbeats 4000000 in
set_option maxRecDepth 100000 in
theorem t_X3_hasSign (G : GM) (l : Launch) (hN : 70 ≤ gN G) (x1 : Int32) (x2 : Int32) (h : HP) : MC G l yX3_hasSign cX3_hasSign 3 (some .boolean) 0 [.ref (ra G 59), .int x1, .int x2] h h (some (.int (f_X3_hasSign x1 x2 h))) := by
  generalize hf : f_X3_hasSign x1 x2 h = r
  unfold f_X3_hasSign at hf
  refine z_start (by decide) (Nat.le_of_ble_eq_true rfl) ?_
  intro p e s m args below meth c ls hx hb hr hlk hml Z hw hl
  have Z : ZK G s args m RX3 := Z
  have hl : lv_has ls 3 [(0, .ref (ra G 59)), (1, .int x1), (2, .int x2)] := hl
  obtain ⟨H, hH⟩ : ∃ H, H = s.heap := ⟨_, rfl⟩
  rw [← hH] at hw ⊢
  obtain ⟨locs, hlc⟩ : ∃ locs : List Loc, locs = [] := ⟨_, rfl⟩
  rw [← hlc] at hw ⊢
  refine lv_iload_n hx hb dX3_hasSign_0 rfl (lv_at hl 1 rfl) ?_
  refine lv_if_lt (tgt := 35) hx hb dX3_hasSign_1 (by decide) (fun c1 => ?_) (fun c1 => ?_)
  · have hf := (if_pos c1).symm.trans hf
    refine lv_iconst (v := (0 : Int32)) hx hb dX3_hasSign_35 (by decide) ?_
    obtain rfl := hf
    exact z_zret hx hb hr rfl hlk hw dX3_hasSign_36
  · have hf := (if_neg c1).symm.trans hf
    refine lv_iload_n hx hb dX3_hasSign_4 rfl (lv_at hl 1 rfl) ?_
    refine lv_aload_n hx hb dX3_hasSign_5 rfl (lv_at hl 0 rfl) ?_
    refine z_geti (o := 59) (C := RX3) (T := TX3) (N := 6) (ci := 2) (k := 1) hx hb Z hw (by decide) (by omega) rfl inX3 (by decide) wd242 dX3_hasSign_6 ?_
    refine lv_icmp_ge (tgt := 35) hx hb dX3_hasSign_9 (by decide) (fun c9 => ?_) (fun c9 => ?_)
    · have hf := (if_pos c9).symm.trans hf
      refine lv_iconst (v := (0 : Int32)) hx hb dX3_hasSign_35 (by decide) ?_
      obtain rfl := hf
      exact z_zret hx hb hr rfl hlk hw dX3_hasSign_36
    · have hf := (if_neg c9).symm.trans hf
      refine lv_iload_n hx hb dX3_hasSign_12 rfl (lv_at hl 1 rfl) ?_
      refine lv_aload_n hx hb dX3_hasSign_13 rfl (lv_at hl 0 rfl) ?_
      refine z_getr (o := 59) (o2 := 60) (C := RX3) (T := TX3) (N := 6) (ci := 2) (k := 0) hx hb Z hw (by decide) (by omega) rfl inX3 (by decide) rfl wd241 dX3_hasSign_14 ?_
      refine z_alen (o := 60) (v := (60 : Int32)) hx hb Z hw (by decide) (by omega) (by decide) dX3_hasSign_17 ?_
      refine lv_icmp_ge (tgt := 35) hx hb dX3_hasSign_18 (by decide) (fun c18 => ?_) (fun c18 => ?_)
      · have hf := (if_pos c18).symm.trans hf
        refine lv_iconst (v := (0 : Int32)) hx hb dX3_hasSign_35 (by decide) ?_
        obtain rfl := hf
        exact z_zret hx hb hr rfl hlk hw dX3_hasSign_36
      · have hf := (if_neg c18).symm.trans hf
        refine lv_aload_n hx hb dX3_hasSign_21 rfl (lv_at hl 0 rfl) ?_
        refine z_getr (o := 59) (o2 := 60) (C := RX3) (T := TX3) (N := 6) (ci := 2) (k := 0) hx hb Z hw (by decide) (by omega) rfl inX3 (by decide) rfl wd241 dX3_hasSign_22 ?_
        refine lv_iload_n hx hb dX3_hasSign_25 rfl (lv_at hl 1 rfl) ?_
        refine y_cald (o := 60) (k := x1.toNatClampNeg) hx hb Z hw (by decide) (by omega) rfl (inB_nn c1 c18 (by decide)) dX3_hasSign_26 ?_
        refine lv_iload_n hx hb dX3_hasSign_27 rfl (lv_at hl 2 rfl) ?_
        refine lv_icmp_ne (tgt := 35) hx hb dX3_hasSign_28 (by decide) (fun c28 => ?_) (fun c28 => ?_)
        · have hf := (if_neg c28).symm.trans hf
          refine lv_iconst (v := (0 : Int32)) hx hb dX3_hasSign_35 (by decide) ?_
          obtain rfl := hf
          exact z_zret hx hb hr rfl hlk hw dX3_hasSign_36
        · have hf := (if_pos c28).symm.trans hf
          refine lv_iconst (v := (1 : Int32)) hx hb dX3_hasSign_31 (by decide) ?_
          refine lv_goto (tgt := 36) hx hb dX3_hasSign_32 (by decide) ?_
          obtain rfl := hf
          exact z_zret hx hb hr rfl hlk hw dX3_hasSign_36
set_option maxHeartbeats 4000000 in
set_option maxRecDepth 100000 in
theorem t_X3_readSign (G : GM) (l : Launch) (hN : 70 ≤ gN G) (x1 : Int32) (h : HP) {r : Int32} {h' : HP} (hf : f_X3_readSign x1 h = (r, h')) : MC G l yX3_readSign cX3_readSign 3 (some .boolean) 1 [.ref (ra G 59), .int x1] h h' (some (.int r)) := by
  unfold f_X3_readSign at hf
  refine z_start (by decide) (Nat.le_of_ble_eq_true rfl) ?_
  intro p e s m args below meth c ls hx hb hr hlk hml Z hw hl
  have Z : ZK G s args m RX3 := Z
  have hl : lv_has ls 3 [(0, .ref (ra G 59)), (1, .int x1)] := hl
  obtain ⟨H, hH⟩ : ∃ H, H = s.heap := ⟨_, rfl⟩
  rw [← hH] at hw ⊢
  obtain ⟨locs, hlc⟩ : ∃ locs : List Loc, locs = [] := ⟨_, rfl⟩
  rw [← hlc] at hw ⊢
  refine lv_aload_n hx hb dX3_readSign_0 rfl (lv_at hl 0 rfl) ?_
  refine lv_aload_n hx hb dX3_readSign_1 rfl (lv_at hl 0 rfl) ?_
  refine z_geti (o := 59) (C := RX3) (T := TX3) (N := 6) (ci := 2) (k := 5) hx hb Z hw (by decide) (by omega) rfl inX3 (by decide) wd248 dX3_readSign_2 ?_
  refine lv_iload_n hx hb dX3_readSign_5 rfl (lv_at hl 1 rfl) ?_
  refine z_callVi (o := 59) (ci := 2) (As := [.int (h 59 5), .int x1]) (rest := []) (t_X3_hasSign G l hN (h 59 5) x1 h) cv_X3_hasSign hx hb hml hl.1 Z hw (by decide) (by decide) (by omega) rfl rfl wd679 rfl rfl (Nat.le_of_ble_eq_true rfl) (by decide) dX3_readSign_6 (fun H locs hw => ?_)
  refine lv_istore_n (lv' := [(2, _), (0, _), (1, _)]) hx hb dX3_readSign_9 rfl hl (by decide) rfl (fun ls hl => ?_)
  refine lv_aload_n hx hb dX3_readSign_10 rfl (lv_at hl 1 rfl) ?_
  refine lv_dup hx hb dX3_readSign_11 rfl ?_
  refine z_geti (o := 59) (C := RX3) (T := TX3) (N := 6) (ci := 2) (k := 5) hx hb Z hw (by decide) (by omega) rfl inX3 (by decide) wd248 dX3_readSign_12 ?_
  refine lv_iload_n hx hb dX3_readSign_15 rfl (lv_at hl 0 rfl) ?_
  have HJ24 : ∀ (ls : Array Slot) (H : Heap) (locs : List Loc), lv_has ls 3 [(2, .int (f_X3_hasSign (h 59 5) x1 h))] → HW G h s H locs → WZ p l e 1 s m args below meth c G (some (.int r)) h' H locs (F0 m 24 ls [.int (if (f_X3_hasSign (h 59 5) x1 h) = 0 then (0 : Int32) else (1 : Int32)), .int (h 59 5), .ref (ra G 59)]) := by
    intro ls H locs hl hw
    refine lv_iadd hx hb dX3_readSign_24 ?_
    refine z_puti (o := 59) (v := (h 59 5) + (if (f_X3_hasSign (h 59 5) x1 h) = 0 then (0 : Int32) else (1 : Int32))) (ty := .int) (C := RX3) (T := TX3) (N := 6) (ci := 2) (k := 5) hx hb Z hw (by decide) (by omega) rfl inX3 tyX3 tyX3_ok nmX3 (by decide) wd248 rfl (by decide +kernel) rfl rfl dX3_readSign_25 (fun H locs hw => ?_)
    refine lv_iload_n hx hb dX3_readSign_28 rfl (lv_at hl 0 rfl) ?_
    obtain ⟨rfl, rfl⟩ := Prod.mk.inj hf
    exact z_zret hx hb hr (nar_b (b_X3_hasSign (h 59 5) x1 h)) hlk hw dX3_readSign_29
  refine lv_if_eq (tgt := 23) hx hb dX3_readSign_16 (by decide) (fun c16 => ?_) (fun c16 => ?_)
  · skip
    refine lv_iconst (v := (0 : Int32)) hx hb dX3_readSign_23 (by decide) ?_
    refine W.eq (g2 := F0 m 24 ls [.int (if (f_X3_hasSign (h 59 5) x1 h) = 0 then (0 : Int32) else (1 : Int32)), .int (h 59 5), .ref (ra G 59)]) ?_ (HJ24 ls H locs (lv_sub hl [0] rfl) hw)
    simp only [if_pos c16]
  · skip
    refine lv_iconst (v := (1 : Int32)) hx hb dX3_readSign_19 (by decide) ?_
    refine lv_goto (tgt := 24) hx hb dX3_readSign_20 (by decide) ?_
    refine W.eq (g2 := F0 m 24 ls [.int (if (f_X3_hasSign (h 59 5) x1 h) = 0 then (0 : Int32) else (1 : Int32)), .int (h 59 5), .ref (ra G 59)]) ?_ (HJ24 ls H locs (lv_sub hl [0] rfl) hw)
    simp only [if_neg c16]
set_option maxHeartbeats 4000000 in
set_option maxRecDepth 100000 in
theorem t_X9_isKind (G : GM) (l : Launch) (hN : 70 ≤ gN G) (x0 : Int32) (h : HP) : MC G l yX9_isKind cX9_isKind 1 (some .boolean) 0 [.int x0] h h (some (.int (f_X9_isKind x0 h))) := by
  generalize hf : f_X9_isKind x0 h = r
  unfold f_X9_isKind at hf
  refine z_start (by decide) (Nat.le_of_ble_eq_true rfl) ?_
  intro p e s m args below meth c ls hx hb hr hlk hml Z hw hl
  have Z : ZK G s args m RX9 := Z
  have hl : lv_has ls 1 [(0, .int x0)] := hl
  obtain ⟨H, hH⟩ : ∃ H, H = s.heap := ⟨_, rfl⟩
  rw [← hH] at hw ⊢
  obtain ⟨locs, hlc⟩ : ∃ locs : List Loc, locs = [] := ⟨_, rfl⟩
  rw [← hlc] at hw ⊢
  refine lv_iload_n hx hb dX9_isKind_0 rfl (lv_at hl 0 rfl) ?_
  refine lv_bipush (v := (65 : Int32)) hx hb dX9_isKind_1 (by decide) ?_
  refine lv_icmp_lt (tgt := 16) hx hb dX9_isKind_3 (by decide) (fun c3 => ?_) (fun c3 => ?_)
  · have hf := (if_pos c3).symm.trans hf
    refine lv_iconst (v := (0 : Int32)) hx hb dX9_isKind_16 (by decide) ?_
    obtain rfl := hf
    exact z_zret hx hb hr rfl hlk hw dX9_isKind_17
  · have hf := (if_neg c3).symm.trans hf
    refine lv_iload_n hx hb dX9_isKind_6 rfl (lv_at hl 0 rfl) ?_
    refine lv_bipush (v := (90 : Int32)) hx hb dX9_isKind_7 (by decide) ?_
    refine lv_icmp_gt (tgt := 16) hx hb dX9_isKind_9 (by decide) (fun c9 => ?_) (fun c9 => ?_)
    · have hf := (if_pos c9).symm.trans hf
      refine lv_iconst (v := (0 : Int32)) hx hb dX9_isKind_16 (by decide) ?_
      obtain rfl := hf
      exact z_zret hx hb hr rfl hlk hw dX9_isKind_17
    · have hf := (if_neg c9).symm.trans hf
      refine lv_iconst (v := (1 : Int32)) hx hb dX9_isKind_12 (by decide) ?_
      refine lv_goto (tgt := 17) hx hb dX9_isKind_13 (by decide) ?_
      obtain rfl := hf
      exact z_zret hx hb hr rfl hlk hw dX9_isKind_17
set_option maxHeartbeats 4000000 in
set_option maxRecDepth 100000 in
theorem t_X3_numberOf (G : GM) (l : Launch) (hN : 70 ≤ gN G) (x1 : Int32) (x2 : Int32) (h : HP) : MC G l yX3_numberOf cX3_numberOf 3 (some .int) 1 [.ref (ra G 59), .int x1, .int x2] h h (some (.int (f_X3_numberOf x1 x2 h))) := by
  generalize hf : f_X3_numberOf x1 x2 h = r
  unfold f_X3_numberOf at hf
  refine z_start (by decide) (Nat.le_of_ble_eq_true rfl) ?_
  intro p e s m args below meth c ls hx hb hr hlk hml Z hw hl
  have Z : ZK G s args m RX3 := Z
  have hl : lv_has ls 3 [(0, .ref (ra G 59)), (1, .int x1), (2, .int x2)] := hl
  obtain ⟨H, hH⟩ : ∃ H, H = s.heap := ⟨_, rfl⟩
  rw [← hH] at hw ⊢
  obtain ⟨locs, hlc⟩ : ∃ locs : List Loc, locs = [] := ⟨_, rfl⟩
  rw [← hlc] at hw ⊢
  refine lv_aload_n hx hb dX3_numberOf_0 rfl (lv_at hl 0 rfl) ?_
  refine z_getr (o := 59) (o2 := 62) (C := RX3) (T := TX3) (N := 6) (ci := 2) (k := 3) hx hb Z hw (by decide) (by omega) rfl inX3 (by decide) rfl wd245 dX3_numberOf_1 ?_
  refine lv_iload_n hx hb dX3_numberOf_4 rfl (lv_at hl 1 rfl) ?_
  refine lv_iconst (v := (4 : Int32)) hx hb dX3_numberOf_5 (by decide) ?_
  refine lv_imul hx hb dX3_numberOf_6 ?_
  refine lv_iload_n hx hb dX3_numberOf_7 rfl (lv_at hl 2 rfl) ?_
  refine lv_iadd hx hb dX3_numberOf_8 ?_
  refine z_callNi (As := [.ref (ra G 62), .int ((x1 * (4 : Int32)) + x2)]) (rest := []) (t_X10_at G l hN 62 (by decide) (by omega) ((x1 * (4 : Int32)) + x2) h) cs_X10_at hx hb hml hl.1 Z hw wd722 rfl rfl (Nat.le_of_ble_eq_true rfl) (by decide) dX3_numberOf_9 (fun H locs hw => ?_)
  obtain rfl := hf
  exact z_iret hx hb hr hlk hw dX3_numberOf_12
set_option maxHeartbeats 4000000 in
set_option maxRecDepth 100000 in
theorem t_X3_wordOf (G : GM) (l : Launch) (hN : 70 ≤ gN G) (x1 : Int32) (h : HP) : MC G l yX3_wordOf cX3_wordOf 2 (some (.object "LineDisc$Word")) 0 [.ref (ra G 59), .int x1] h h (some (va_rf (wrf G (f_X3_wordOf x1 h)))) := by
  generalize hf : f_X3_wordOf x1 h = r
  unfold f_X3_wordOf at hf
  refine z_start (by decide) (Nat.le_of_ble_eq_true rfl) ?_
  intro p e s m args below meth c ls hx hb hr hlk hml Z hw hl
  have Z : ZK G s args m RX3 := Z
  have hl : lv_has ls 2 [(0, .ref (ra G 59)), (1, .int x1)] := hl
  obtain ⟨H, hH⟩ : ∃ H, H = s.heap := ⟨_, rfl⟩
  rw [← hH] at hw ⊢
  obtain ⟨locs, hlc⟩ : ∃ locs : List Loc, locs = [] := ⟨_, rfl⟩
  rw [← hlc] at hw ⊢
  refine lv_iload_n hx hb dX3_wordOf_0 rfl (lv_at hl 1 rfl) ?_
  refine lv_if_lt (tgt := 22) hx hb dX3_wordOf_1 (by decide) (fun c1 => ?_) (fun c1 => ?_)
  · have hf := (if_pos c1).symm.trans hf
    refine lv_null hx hb dX3_wordOf_22 ?_
    rw [← wrf_0 (G := G)]
    obtain rfl := hf
    exact z_aret hx hb hr (Or.inl ⟨_, rfl⟩) (va_rf_or _) hlk hw dX3_wordOf_23
  · have hf := (if_neg c1).symm.trans hf
    refine lv_iload_n hx hb dX3_wordOf_4 rfl (lv_at hl 1 rfl) ?_
    refine lv_aload_n hx hb dX3_wordOf_5 rfl (lv_at hl 0 rfl) ?_
    refine z_getr (o := 59) (o2 := 61) (C := RX3) (T := TX3) (N := 6) (ci := 2) (k := 2) hx hb Z hw (by decide) (by omega) rfl inX3 (by decide) rfl wd244 dX3_wordOf_6 ?_
    refine z_alen (o := 61) (v := (10 : Int32)) hx hb Z hw (by decide) (by omega) (by decide) dX3_wordOf_9 ?_
    refine lv_icmp_ge (tgt := 22) hx hb dX3_wordOf_10 (by decide) (fun c10 => ?_) (fun c10 => ?_)
    · have hf := (if_pos c10).symm.trans hf
      refine lv_null hx hb dX3_wordOf_22 ?_
      rw [← wrf_0 (G := G)]
      obtain rfl := hf
      exact z_aret hx hb hr (Or.inl ⟨_, rfl⟩) (va_rf_or _) hlk hw dX3_wordOf_23
    · have hf := (if_neg c10).symm.trans hf
      refine lv_aload_n hx hb dX3_wordOf_13 rfl (lv_at hl 0 rfl) ?_
      refine z_getr (o := 59) (o2 := 61) (C := RX3) (T := TX3) (N := 6) (ci := 2) (k := 2) hx hb Z hw (by decide) (by omega) rfl inX3 (by decide) rfl wd244 dX3_wordOf_14 ?_
      refine lv_iload_n hx hb dX3_wordOf_17 rfl (lv_at hl 1 rfl) ?_
      refine z_wald (o := 61) hx hb Z hw (by decide) (by omega) (inB_nn c1 c10 (by decide)) dX3_wordOf_18 ?_
      refine lv_goto (tgt := 23) hx hb dX3_wordOf_19 (by decide) ?_
      obtain rfl := hf
      exact z_aret hx hb hr (Or.inl ⟨_, rfl⟩) (va_rf_or _) hlk hw dX3_wordOf_23
set_option maxHeartbeats 4000000 in
set_option maxRecDepth 100000 in
theorem t_X2_takeLatest (G : GM) (l : Launch) (hN : 70 ≤ gN G) (o1 : Nat) (k_o1 : kd o1 = 5) (n_o1 : o1 < gN G) (h : HP) {r : Int32} {h' : HP} (hf : f_X2_takeLatest o1 h = some (r, h')) : MC G l yX2_takeLatest cX2_takeLatest 3 (some .boolean) 2 [.ref (ra G 25), .ref (ra G o1)] h h' (some (.int r)) := by
  unfold f_X2_takeLatest at hf
  refine z_start (by decide) (Nat.le_of_ble_eq_true rfl) ?_
  intro p e s m args below meth c ls hx hb hr hlk hml Z hw hl
  have Z : ZK G s args m RX2 := Z
  have hl : lv_has ls 3 [(0, .ref (ra G 25)), (1, .ref (ra G o1))] := hl
  obtain ⟨H, hH⟩ : ∃ H, H = s.heap := ⟨_, rfl⟩
  rw [← hH] at hw ⊢
  obtain ⟨locs, hlc⟩ : ∃ locs : List Loc, locs = [] := ⟨_, rfl⟩
  rw [← hlc] at hw ⊢
  refine lv_aload_n hx hb dX2_takeLatest_0 rfl (lv_at hl 0 rfl) ?_
  refine lv_aload_n hx hb dX2_takeLatest_1 rfl (lv_at hl 0 rfl) ?_
  refine z_geti (o := 25) (C := RX2) (T := TX2) (N := 2) (ci := 1) (k := 1) hx hb Z hw (by decide) (by omega) rfl inX2 (by decide) wd226 dX2_takeLatest_2 ?_
  refine lv_iconst (v := (1 : Int32)) hx hb dX2_takeLatest_5 (by decide) ?_
  refine lv_isub hx hb dX2_takeLatest_6 ?_
  refine z_callVi (o := 25) (ci := 1) (As := [.int ((h 25 1) - (1 : Int32))]) (rest := []) (t_X2_stateAt G l hN ((h 25 1) - (1 : Int32)) h) cv_X2_stateAt hx hb hml hl.1 Z hw (by decide) (by decide) (by omega) rfl rfl wd405 rfl rfl (Nat.le_of_ble_eq_true rfl) (by decide) dX2_takeLatest_7 (fun H locs hw => ?_)
  by_cases c7 : f_X2_stateAt ((h 25 1) - (1 : Int32)) h = 0
  · have hf := (if_pos c7).symm.trans hf
    rw [srf_z c7]
    refine lv_astore_nN (lv' := [(2, _), (0, _), (1, _)]) hx hb dX2_takeLatest_10 rfl hl (by decide) rfl (fun ls hl => ?_)
    refine lv_aload_nN hx hb dX2_takeLatest_11 rfl (lv_at hl 0 rfl) ?_
    refine lv_ifnonnullN hx hb dX2_takeLatest_12 ?_
    refine lv_iconst (v := (0 : Int32)) hx hb dX2_takeLatest_15 (by decide) ?_
    obtain ⟨rfl, rfl⟩ := Prod.mk.inj (Option.some.inj hf)
    exact z_zret hx hb hr rfl hlk hw dX2_takeLatest_16
  · have hf := (if_neg c7).symm.trans hf
    obtain ⟨hs7, hf⟩ := gd_some hf
    rw [srf_nz c7]
    refine lv_astore_n (lv' := [(2, _), (0, _), (1, _)]) hx hb dX2_takeLatest_10 rfl hl (by decide) rfl (fun ls hl => ?_)
    refine lv_aload_n hx hb dX2_takeLatest_11 rfl (lv_at hl 0 rfl) ?_
    refine lv_ifnonnull (tgt := 17) hx hb dX2_takeLatest_12 (by decide) ?_
    refine lv_aload_n hx hb dX2_takeLatest_17 rfl (lv_at hl 2 rfl) ?_
    refine lv_aload_n hx hb dX2_takeLatest_18 rfl (lv_at hl 0 rfl) ?_
    obtain ⟨q19, hq19, hf⟩ := tb_ex hf
    refine z_callVv (o := o1) (ci := 5) (As := [.ref (ra G ((f_X2_stateAt ((h 25 1) - (1 : Int32)) h).toNatClampNeg))]) (rest := []) (t_X6_copyFrom G l hN o1 k_o1 n_o1 ((f_X2_stateAt ((h 25 1) - (1 : Int32)) h).toNatClampNeg) (isSt_kd hs7) (isSt_n hs7 hN) h hq19) cv_X6_copyFrom hx hb hml hl.1 Z hw k_o1 (by decide) n_o1 rfl rfl wd409 rfl rfl (Nat.le_of_ble_eq_true rfl) (by decide) dX2_takeLatest_19 (fun H locs hw => ?_)
    refine lv_aload_n hx hb dX2_takeLatest_22 rfl (lv_at hl 1 rfl) ?_
    refine lv_dup hx hb dX2_takeLatest_23 rfl ?_
    refine z_geti (o := 25) (C := RX2) (T := TX2) (N := 2) (ci := 1) (k := 1) hx hb Z hw (by decide) (by omega) rfl inX2 (by decide) wd226 dX2_takeLatest_24 ?_
    refine lv_iconst (v := (1 : Int32)) hx hb dX2_takeLatest_27 (by decide) ?_
    refine lv_isub hx hb dX2_takeLatest_28 ?_
    refine z_puti (o := 25) (v := (q19 25 1) - (1 : Int32)) (ty := .int) (C := RX2) (T := TX2) (N := 2) (ci := 1) (k := 1) hx hb Z hw (by decide) (by omega) rfl inX2 tyX2 tyX2_ok nmX2 (by decide) wd226 rfl (by decide +kernel) rfl rfl dX2_takeLatest_29 (fun H locs hw => ?_)
    refine lv_iconst (v := (1 : Int32)) hx hb dX2_takeLatest_32 (by decide) ?_
    obtain ⟨rfl, rfl⟩ := Prod.mk.inj (Option.some.inj hf)
    exact z_zret hx hb hr rfl hlk hw dX2_takeLatest_33
set_option maxHeartbeats 4000000 in
set_option maxRecDepth 100000 in
theorem t_X10_undo (G : GM) (l : Launch) (hN : 70 ≤ gN G)  (h : HP) {r : Int32} {h' : HP} (hf : f_X10_undo  h = some (r, h')) : MC G l yX10_undo cX10_undo 1 (some .int) 3 [.ref (ra G 0)] h h' (some (.int r)) := by
  unfold f_X10_undo at hf
  refine z_start (by decide) (Nat.le_of_ble_eq_true rfl) ?_
  intro p e s m args below meth c ls hx hb hr hlk hml Z hw hl
  have Z : ZK G s args m RX10 := Z
  have hl : lv_has ls 1 [(0, .ref (ra G 0))] := hl
  obtain ⟨H, hH⟩ : ∃ H, H = s.heap := ⟨_, rfl⟩
  rw [← hH] at hw ⊢
  obtain ⟨locs, hlc⟩ : ∃ locs : List Loc, locs = [] := ⟨_, rfl⟩
  rw [← hlc] at hw ⊢
  refine lv_aload_n hx hb dX10_undo_0 rfl (lv_at hl 0 rfl) ?_
  refine z_getr (o := 0) (o2 := 25) (C := RX10) (T := TX10) (N := 8) (ci := 8) (k := 4) hx hb Z hw (by decide) (by omega) rfl inX10 (by decide) rfl wd292 dX10_undo_1 ?_
  refine lv_aload_n hx hb dX10_undo_4 rfl (lv_at hl 0 rfl) ?_
  refine z_getr (o := 0) (o2 := 1) (C := RX10) (T := TX10) (N := 8) (ci := 8) (k := 0) hx hb Z hw (by decide) (by omega) rfl inX10 (by decide) rfl wd288 dX10_undo_5 ?_
  obtain ⟨q8, hq8, hf⟩ := ob_some hf
  refine z_callVi (o := 25) (ci := 1) (As := [.ref (ra G 1)]) (rest := []) (t_X2_takeLatest G l hN 1 (by decide) (by omega) h hq8) cv_X2_takeLatest hx hb hml hl.1 Z hw (by decide) (by decide) (by omega) rfl rfl wd735 rfl rfl (Nat.le_of_ble_eq_true rfl) (by decide) dX10_undo_8 (fun H locs hw => ?_)
  refine lv_if_eq (tgt := 24) hx hb dX10_undo_11 (by decide) (fun c11 => ?_) (fun c11 => ?_)
  · have hf := (if_pos c11).symm.trans hf
    refine lv_bipush (v := (-5 : Int32)) hx hb dX10_undo_24 (by decide) ?_
    obtain ⟨rfl, rfl⟩ := Prod.mk.inj (Option.some.inj hf)
    exact z_iret hx hb hr hlk hw dX10_undo_26
  · have hf := (if_neg c11).symm.trans hf
    refine lv_aload_n hx hb dX10_undo_14 rfl (lv_at hl 0 rfl) ?_
    refine z_getr (o := 0) (o2 := 25) (C := RX10) (T := TX10) (N := 8) (ci := 8) (k := 4) hx hb Z hw (by decide) (by omega) rfl inX10 (by decide) rfl wd292 dX10_undo_15 ?_
    refine z_geti (o := 25) (C := RX2) (T := TX2) (N := 2) (ci := 1) (k := 1) hx hb Z hw (by decide) (by omega) rfl inX2 (by decide) wd227 dX10_undo_18 ?_
    refine lv_goto (tgt := 26) hx hb dX10_undo_21 (by decide) ?_
    obtain ⟨rfl, rfl⟩ := Prod.mk.inj (Option.some.inj hf)
    exact z_iret hx hb hr hlk hw dX10_undo_26
set_option maxHeartbeats 4000000 in
set_option maxRecDepth 100000 in
theorem t_X10_keep (G : GM) (l : Launch) (hN : 70 ≤ gN G)  (h : HP) {r : Int32} {h' : HP} (hf : f_X10_keep  h = (r, h')) : MC G l yX10_keep cX10_keep 1 (some .int) 2 [.ref (ra G 0)] h h' (some (.int r)) := by
  unfold f_X10_keep at hf
  refine z_start (by decide) (Nat.le_of_ble_eq_true rfl) ?_
  intro p e s m args below meth c ls hx hb hr hlk hml Z hw hl
  have Z : ZK G s args m RX10 := Z
  have hl : lv_has ls 1 [(0, .ref (ra G 0))] := hl
  obtain ⟨H, hH⟩ : ∃ H, H = s.heap := ⟨_, rfl⟩
  rw [← hH] at hw ⊢
  obtain ⟨locs, hlc⟩ : ∃ locs : List Loc, locs = [] := ⟨_, rfl⟩
  rw [← hlc] at hw ⊢
  refine lv_aload_n hx hb dX10_keep_0 rfl (lv_at hl 0 rfl) ?_
  refine z_getr (o := 0) (o2 := 17) (C := RX10) (T := TX10) (N := 8) (ci := 8) (k := 2) hx hb Z hw (by decide) (by omega) rfl inX10 (by decide) rfl wd290 dX10_keep_1 ?_
  refine lv_aload_n hx hb dX10_keep_4 rfl (lv_at hl 0 rfl) ?_
  refine z_getr (o := 0) (o2 := 1) (C := RX10) (T := TX10) (N := 8) (ci := 8) (k := 0) hx hb Z hw (by decide) (by omega) rfl inX10 (by decide) rfl wd288 dX10_keep_5 ?_
  obtain ⟨q8, hq8, hf⟩ := tb_ex hf
  refine z_callVv (o := 17) (ci := 5) (As := [.ref (ra G 1)]) (rest := []) (t_X6_copyFrom G l hN 17 (by decide) (by omega) 1 (by decide) (by omega) h hq8) cv_X6_copyFrom hx hb hml hl.1 Z hw (by decide) (by decide) (by omega) rfl rfl wd317 rfl rfl (Nat.le_of_ble_eq_true rfl) (by decide) dX10_keep_8 (fun H locs hw => ?_)
  refine lv_aload_n hx hb dX10_keep_11 rfl (lv_at hl 0 rfl) ?_
  refine lv_iconst (v := (1 : Int32)) hx hb dX10_keep_12 (by decide) ?_
  refine z_puti (o := 0) (v := (1 : Int32)) (ty := .boolean) (C := RX10) (T := TX10) (N := 8) (ci := 8) (k := 3) hx hb Z hw (by decide) (by omega) rfl inX10 tyX10 tyX10_ok nmX10 (by decide) wd291 rfl (by decide +kernel) rfl rfl dX10_keep_13 (fun H locs hw => ?_)
  refine lv_aload_n hx hb dX10_keep_16 rfl (lv_at hl 0 rfl) ?_
  obtain ⟨h17, hqh17, hf⟩ := tb_ex hf
  rw [hqh17] at hw
  refine z_getr (o := 0) (o2 := 1) (C := RX10) (T := TX10) (N := 8) (ci := 8) (k := 0) hx hb Z hw (by decide) (by omega) rfl inX10 (by decide) rfl wd288 dX10_keep_17 ?_
  refine z_getr (o := 1) (o2 := 8) (C := RX6) (T := TX6) (N := 4) (ci := 5) (k := 3) hx hb Z hw (by decide) (by omega) rfl inX6 (by decide) rfl wd206 dX10_keep_20 ?_
  refine z_geti (o := 8) (C := RX1) (T := TX1) (N := 6) (ci := 0) (k := 2) hx hb Z hw (by decide) (by omega) rfl inX1 (by decide) wd177 dX10_keep_23 ?_
  obtain ⟨rfl, rfl⟩ := Prod.mk.inj hf
  exact z_iret hx hb hr hlk hw dX10_keep_26
set_option maxHeartbeats 4000000 in
set_option maxRecDepth 100000 in
theorem t_X10_restore (G : GM) (l : Launch) (hN : 70 ≤ gN G)  (h : HP) {r : Int32} {h' : HP} (hf : f_X10_restore  h = some (r, h')) : MC G l yX10_restore cX10_restore 1 (some .int) 4 [.ref (ra G 0)] h h' (some (.int r)) := by
  unfold f_X10_restore at hf
  refine z_start (by decide) (Nat.le_of_ble_eq_true rfl) ?_
  intro p e s m args below meth c ls hx hb hr hlk hml Z hw hl
  have Z : ZK G s args m RX10 := Z
  have hl : lv_has ls 1 [(0, .ref (ra G 0))] := hl
  obtain ⟨H, hH⟩ : ∃ H, H = s.heap := ⟨_, rfl⟩
  rw [← hH] at hw ⊢
  obtain ⟨locs, hlc⟩ : ∃ locs : List Loc, locs = [] := ⟨_, rfl⟩
  rw [← hlc] at hw ⊢
  refine lv_aload_n hx hb dX10_restore_0 rfl (lv_at hl 0 rfl) ?_
  refine z_geti (o := 0) (C := RX10) (T := TX10) (N := 8) (ci := 8) (k := 3) hx hb Z hw (by decide) (by omega) rfl inX10 (by decide) wd291 dX10_restore_1 ?_
  refine lv_if_ne (tgt := 10) hx hb dX10_restore_4 (by decide) (fun c4 => ?_) (fun c4 => ?_)
  · have hf := (if_neg c4).symm.trans hf
    refine lv_aload_n hx hb dX10_restore_10 rfl (lv_at hl 0 rfl) ?_
    refine z_getr (o := 0) (o2 := 9) (C := RX10) (T := TX10) (N := 8) (ci := 8) (k := 1) hx hb Z hw (by decide) (by omega) rfl inX10 (by decide) rfl wd289 dX10_restore_11 ?_
    refine lv_aload_n hx hb dX10_restore_14 rfl (lv_at hl 0 rfl) ?_
    refine z_getr (o := 0) (o2 := 1) (C := RX10) (T := TX10) (N := 8) (ci := 8) (k := 0) hx hb Z hw (by decide) (by omega) rfl inX10 (by decide) rfl wd288 dX10_restore_15 ?_
    obtain ⟨q18, hq18, hf⟩ := tb_ex hf
    refine z_callVv (o := 9) (ci := 5) (As := [.ref (ra G 1)]) (rest := []) (t_X6_copyFrom G l hN 9 (by decide) (by omega) 1 (by decide) (by omega) h hq18) cv_X6_copyFrom hx hb hml hl.1 Z hw (by decide) (by decide) (by omega) rfl rfl wd317 rfl rfl (Nat.le_of_ble_eq_true rfl) (by decide) dX10_restore_18 (fun H locs hw => ?_)
    refine lv_aload_n hx hb dX10_restore_21 rfl (lv_at hl 0 rfl) ?_
    refine z_getr (o := 0) (o2 := 1) (C := RX10) (T := TX10) (N := 8) (ci := 8) (k := 0) hx hb Z hw (by decide) (by omega) rfl inX10 (by decide) rfl wd288 dX10_restore_22 ?_
    refine lv_aload_n hx hb dX10_restore_25 rfl (lv_at hl 0 rfl) ?_
    refine z_getr (o := 0) (o2 := 17) (C := RX10) (T := TX10) (N := 8) (ci := 8) (k := 2) hx hb Z hw (by decide) (by omega) rfl inX10 (by decide) rfl wd290 dX10_restore_26 ?_
    obtain ⟨q29, hq29, hf⟩ := tb_ex hf
    refine z_callVv (o := 1) (ci := 5) (As := [.ref (ra G 17)]) (rest := []) (t_X6_copyFrom G l hN 1 (by decide) (by omega) 17 (by decide) (by omega) q18 hq29) cv_X6_copyFrom hx hb hml hl.1 Z hw (by decide) (by decide) (by omega) rfl rfl wd317 rfl rfl (Nat.le_of_ble_eq_true rfl) (by decide) dX10_restore_29 (fun H locs hw => ?_)
    refine lv_aload_n hx hb dX10_restore_32 rfl (lv_at hl 0 rfl) ?_
    refine lv_aload_n hx hb dX10_restore_33 rfl (lv_at hl 0 rfl) ?_
    refine z_getr (o := 0) (o2 := 1) (C := RX10) (T := TX10) (N := 8) (ci := 8) (k := 0) hx hb Z hw (by decide) (by omega) rfl inX10 (by decide) rfl wd288 dX10_restore_34 ?_
    refine z_getr (o := 1) (o2 := 8) (C := RX6) (T := TX6) (N := 4) (ci := 5) (k := 3) hx hb Z hw (by decide) (by omega) rfl inX6 (by decide) rfl wd206 dX10_restore_37 ?_
    refine z_geti (o := 8) (C := RX1) (T := TX1) (N := 6) (ci := 0) (k := 2) hx hb Z hw (by decide) (by omega) rfl inX1 (by decide) wd177 dX10_restore_40 ?_
    obtain ⟨q43, hq43, hf⟩ := ob_some hf
    refine z_callVi (o := 0) (ci := 8) (As := [.int (q29 8 2)]) (rest := []) (t_X10_recorded G l hN (q29 8 2) q29 hq43) cv_X10_recorded hx hb hml hl.1 Z hw (by decide) (by decide) (by omega) rfl rfl wd393 rfl rfl (Nat.le_of_ble_eq_true rfl) (by decide) dX10_restore_43 (fun H locs hw => ?_)
    obtain ⟨rfl, rfl⟩ := Prod.mk.inj (Option.some.inj hf)
    exact z_iret hx hb hr hlk hw dX10_restore_46
  · have hf := (if_pos c4).symm.trans hf
    refine lv_bipush (v := (-5 : Int32)) hx hb dX10_restore_7 (by decide) ?_
    obtain ⟨rfl, rfl⟩ := Prod.mk.inj (Option.some.inj hf)
    exact z_iret hx hb hr hlk hw dX10_restore_9
set_option maxHeartbeats 4000000 in
set_option maxRecDepth 100000 in
theorem t_X5_groups (G : GM) (l : Launch) (hN : 70 ≤ gN G) (o0 : Nat) (k_o0 : kd o0 = 4) (n_o0 : o0 < gN G) (h : HP) : MC G l yX5_groups cX5_groups 1 (some .int) 2 [.ref (ra G o0)] h h (some (.int (f_X5_groups o0 h))) := by
  generalize hf : f_X5_groups o0 h = r
  unfold f_X5_groups at hf
  refine z_start (by decide) (Nat.le_of_ble_eq_true rfl) ?_
  intro p e s m args below meth c ls hx hb hr hlk hml Z hw hl
  have Z : ZK G s args m RX5 := Z
  have hl : lv_has ls 1 [(0, .ref (ra G o0))] := hl
  obtain ⟨H, hH⟩ : ∃ H, H = s.heap := ⟨_, rfl⟩
  rw [← hH] at hw ⊢
  obtain ⟨locs, hlc⟩ : ∃ locs : List Loc, locs = [] := ⟨_, rfl⟩
  rw [← hlc] at hw ⊢
  refine lv_aload_n hx hb dX5_groups_0 rfl (lv_at hl 0 rfl) ?_
  refine z_callVi (o := o0) (ci := 4) (As := []) (rest := []) (t_X5_allFrames G l hN o0 k_o0 n_o0 h) cv_X5_allFrames hx hb hml hl.1 Z hw k_o0 (by decide) n_o0 rfl rfl wd349 rfl rfl (Nat.le_of_ble_eq_true rfl) (by decide) dX5_groups_1 (fun H locs hw => ?_)
  refine lv_iconst (v := (5 : Int32)) hx hb dX5_groups_4 (by decide) ?_
  refine lv_idiv hx hb dX5_groups_5 (by decide) ?_
  obtain rfl := hf
  exact z_iret hx hb hr hlk hw dX5_groups_6
set_option maxHeartbeats 4000000 in
set_option maxRecDepth 100000 in
theorem t_X5_groupOf (G : GM) (l : Launch) (hN : 70 ≤ gN G) (o0 : Nat) (k_o0 : kd o0 = 4) (n_o0 : o0 < gN G) (x1 : Int32) (h : HP) : MC G l yX5_groupOf cX5_groupOf 3 (some .int) 3 [.ref (ra G o0), .int x1] h h (some (.int (f_X5_groupOf o0 x1 h))) := by
  generalize hf : f_X5_groupOf o0 x1 h = r
  unfold f_X5_groupOf at hf
  refine z_start (by decide) (Nat.le_of_ble_eq_true rfl) ?_
  intro p e s m args below meth c ls hx hb hr hlk hml Z hw hl
  have Z : ZK G s args m RX5 := Z
  have hl : lv_has ls 3 [(0, .ref (ra G o0)), (1, .int x1)] := hl
  obtain ⟨H, hH⟩ : ∃ H, H = s.heap := ⟨_, rfl⟩
  rw [← hH] at hw ⊢
  obtain ⟨locs, hlc⟩ : ∃ locs : List Loc, locs = [] := ⟨_, rfl⟩
  rw [← hlc] at hw ⊢
  refine lv_iload_n hx hb dX5_groupOf_0 rfl (lv_at hl 1 rfl) ?_
  refine lv_iconst (v := (5 : Int32)) hx hb dX5_groupOf_1 (by decide) ?_
  refine lv_idiv hx hb dX5_groupOf_2 (by decide) ?_
  refine lv_istore_n (lv' := [(2, _), (0, _), (1, _)]) hx hb dX5_groupOf_3 rfl hl (by decide) rfl (fun ls hl => ?_)
  refine lv_iload_n hx hb dX5_groupOf_4 rfl (lv_at hl 0 rfl) ?_
  refine lv_aload_n hx hb dX5_groupOf_5 rfl (lv_at hl 1 rfl) ?_
  refine z_callVi (o := o0) (ci := 4) (As := []) (rest := [.int (x1 / (5 : Int32))]) (t_X5_groups G l hN o0 k_o0 n_o0 h) cv_X5_groups hx hb hml hl.1 Z hw k_o0 (by decide) n_o0 rfl rfl wd757 rfl rfl (Nat.le_of_ble_eq_true rfl) (by decide) dX5_groupOf_6 (fun H locs hw => ?_)
  refine lv_icmp_ge (tgt := 16) hx hb dX5_groupOf_9 (by decide) (fun c9 => ?_) (fun c9 => ?_)
  · have hf := (if_pos c9).symm.trans hf
    refine lv_bipush (v := (-5 : Int32)) hx hb dX5_groupOf_16 (by decide) ?_
    obtain rfl := hf
    exact z_iret hx hb hr hlk hw dX5_groupOf_18
  · have hf := (if_neg c9).symm.trans hf
    refine lv_iload_n hx hb dX5_groupOf_12 rfl (lv_at hl 0 rfl) ?_
    refine lv_goto (tgt := 18) hx hb dX5_groupOf_13 (by decide) ?_
    obtain rfl := hf
    exact z_iret hx hb hr hlk hw dX5_groupOf_18
set_option maxHeartbeats 4000000 in
set_option maxRecDepth 100000 in
theorem t_X7_howIs (G : GM) (l : Launch) (hN : 70 ≤ gN G) (x1 : Int32) (h : HP) : MC G l yX7_howIs cX7_howIs 2 (some .int) 1 [.ref (ra G 63), .int x1] h h (some (.int (f_X7_howIs x1 h))) := by
  generalize hf : f_X7_howIs x1 h = r
  unfold f_X7_howIs at hf
  refine z_start (by decide) (Nat.le_of_ble_eq_true rfl) ?_
  intro p e s m args below meth c ls hx hb hr hlk hml Z hw hl
  have Z : ZK G s args m RX7 := Z
  have hl : lv_has ls 2 [(0, .ref (ra G 63)), (1, .int x1)] := hl
  obtain ⟨H, hH⟩ : ∃ H, H = s.heap := ⟨_, rfl⟩
  rw [← hH] at hw ⊢
  obtain ⟨locs, hlc⟩ : ∃ locs : List Loc, locs = [] := ⟨_, rfl⟩
  rw [← hlc] at hw ⊢
  refine lv_aload_n hx hb dX7_howIs_0 rfl (lv_at hl 0 rfl) ?_
  refine z_getr (o := 63) (o2 := 68) (C := RX7) (T := TX7) (N := 4) (ci := 6) (k := 3) hx hb Z hw (by decide) (by omega) rfl inX7 (by decide) rfl wd276 dX7_howIs_1 ?_
  refine lv_iload_n hx hb dX7_howIs_4 rfl (lv_at hl 1 rfl) ?_
  refine z_callNi (As := [.ref (ra G 68), .int x1]) (rest := []) (t_X10_at G l hN 68 (by decide) (by omega) x1 h) cs_X10_at hx hb hml hl.1 Z hw wd489 rfl rfl (Nat.le_of_ble_eq_true rfl) (by decide) dX7_howIs_5 (fun H locs hw => ?_)
  obtain rfl := hf
  exact z_iret hx hb hr hlk hw dX7_howIs_8
set_option maxHeartbeats 4000000 in
set_option maxRecDepth 100000 in
theorem t_X8_flatOf (G : GM) (l : Launch) (hN : 70 ≤ gN G) (x0 : Int32) (h : HP) : MC G l yX8_flatOf cX8_flatOf 1 (some .int) 0 [.int x0] h h (some (.int (f_X8_flatOf x0 h))) := by
  generalize hf : f_X8_flatOf x0 h = r
  unfold f_X8_flatOf at hf
  refine z_start (by decide) (Nat.le_of_ble_eq_true rfl) ?_
  intro p e s m args below meth c ls hx hb hr hlk hml Z hw hl
  have Z : ZK G s args m RX8 := Z
  have hl : lv_has ls 1 [(0, .int x0)] := hl
  obtain ⟨H, hH⟩ : ∃ H, H = s.heap := ⟨_, rfl⟩
  rw [← hH] at hw ⊢
  obtain ⟨locs, hlc⟩ : ∃ locs : List Loc, locs = [] := ⟨_, rfl⟩
  rw [← hlc] at hw ⊢
  refine lv_iconst (v := (3 : Int32)) hx hb dX8_flatOf_0 (by decide) ?_
  refine lv_iload_n hx hb dX8_flatOf_1 rfl (lv_at hl 0 rfl) ?_
  refine lv_iconst (v := (4 : Int32)) hx hb dX8_flatOf_2 (by decide) ?_
  refine z_irem hx hb dX8_flatOf_3 (by decide) ?_
  refine lv_iadd hx hb dX8_flatOf_4 ?_
  obtain rfl := hf
  exact z_iret hx hb hr hlk hw dX8_flatOf_5
set_option maxHeartbeats 4000000 in
set_option maxRecDepth 100000 in
theorem t_X8_pitOf (G : GM) (l : Launch) (hN : 70 ≤ gN G) (x0 : Int32) (h : HP) : MC G l yX8_pitOf cX8_pitOf 1 (some .int) 0 [.int x0] h h (some (.int (f_X8_pitOf x0 h))) := by
  generalize hf : f_X8_pitOf x0 h = r
  unfold f_X8_pitOf at hf
  refine z_start (by decide) (Nat.le_of_ble_eq_true rfl) ?_
  intro p e s m args below meth c ls hx hb hr hlk hml Z hw hl
  have Z : ZK G s args m RX8 := Z
  have hl : lv_has ls 1 [(0, .int x0)] := hl
  obtain ⟨H, hH⟩ : ∃ H, H = s.heap := ⟨_, rfl⟩
  rw [← hH] at hw ⊢
  obtain ⟨locs, hlc⟩ : ∃ locs : List Loc, locs = [] := ⟨_, rfl⟩
  rw [← hlc] at hw ⊢
  refine lv_iconst (v := (3 : Int32)) hx hb dX8_pitOf_0 (by decide) ?_
  refine lv_iload_n hx hb dX8_pitOf_1 rfl (lv_at hl 0 rfl) ?_
  refine lv_iconst (v := (4 : Int32)) hx hb dX8_pitOf_2 (by decide) ?_
  refine lv_idiv hx hb dX8_pitOf_3 (by decide) ?_
  refine lv_iadd hx hb dX8_pitOf_4 ?_
  obtain rfl := hf
  exact z_iret hx hb hr hlk hw dX8_pitOf_5
set_option maxHeartbeats 4000000 in
set_option maxRecDepth 100000 in
theorem w_X8_balanceOf_L4 (G : GM) (l : Launch) (hN : 70 ≤ gN G) (o0 : Nat) (k_o0 : kd o0 = 7) (n_o0 : o0 < gN G) {p : Program} {e : Env} {s : State} {m : MethodId} {args : Array Value} {below : List Frame} {meth : Method} {c : Code} (hx : p.tables.exec = Jvm.exec) (hb : c.code = cX8_balanceOf) (hr : meth.sig.returnType = (some .int)) (hlk : meth.locks = false) (hml : c.maxLocals = 5) (Z : ZK G s args m RX8) : ∀ (n : Nat) (x1 : Int32) (x2 : Int32) (x3 : Int32)  (h : HP)  (rv : Option Value) (hq : HP) (ls : Array Slot) (H : Heap) (locs : List Loc) {q : Int32}, lv_has ls 5 [(0, .ref (ra G o0)), (1, .int x1), (2, .int x2), (3, .int x3)] → HW G h s H locs → f_X8_balanceOf_L4 n o0 x1 x2 x3 h = some q → (∀ (ls : Array Slot) (H : Heap) (locs : List Loc), lv_has ls 5 [(2, .int q)] → HW G h s H locs → WZ p l e 3 s m args below meth c G rv hq H locs (F0 m 37 ls [])) → WZ p l e 3 s m args below meth c G rv hq H locs (F0 m 4 ls []) := by
  intro n
  induction n with
  | zero => intro x1 x2 x3  h  rv hq ls H locs q hl hw hf kk; cases hf
  | succ n ih =>
    intro x1 x2 x3  h  rv hq ls H locs q hl hw hf kk
    rw [f_X8_balanceOf_L4] at hf
    refine lv_iload_n hx hb dX8_balanceOf_4 rfl (lv_at hl 3 rfl) ?_
    refine lv_iconst (v := (4 : Int32)) hx hb dX8_balanceOf_5 (by decide) ?_
    refine lv_icmp_ge (tgt := 37) hx hb dX8_balanceOf_6 (by decide) (fun c6 => ?_) (fun c6 => ?_)
    · have hf := (if_pos c6).symm.trans hf
      obtain rfl := Option.some.inj hf
      exact kk ls H locs (lv_sub hl [2] rfl) hw
    · have hf := (if_neg c6).symm.trans hf
      refine lv_aload_n hx hb dX8_balanceOf_9 rfl (lv_at hl 0 rfl) ?_
      refine lv_iload_n hx hb dX8_balanceOf_10 rfl (lv_at hl 1 rfl) ?_
      refine lv_iload_n hx hb dX8_balanceOf_11 rfl (lv_at hl 3 rfl) ?_
      obtain ⟨q12, hq12, hf⟩ := ob_some hf
      refine z_callVi (o := o0) (ci := 7) (As := [.int x1, .int x3]) (rest := []) (t_X8_standsAt G l hN o0 k_o0 n_o0 x1 x3 h hq12) cv_X8_standsAt hx hb hml hl.1 Z hw k_o0 (by decide) n_o0 rfl rfl wd770 rfl rfl (Nat.le_of_ble_eq_true rfl) (by decide) dX8_balanceOf_12 (fun H locs hw => ?_)
      refine lv_istore (lv' := [(4, _), (0, _), (1, _), (2, _), (3, _)]) hx hb dX8_balanceOf_15 hl (by decide) rfl (fun ls hl => ?_)
      refine lv_iload_n hx hb dX8_balanceOf_17 rfl (lv_at hl 3 rfl) ?_
      refine lv_iload hx hb dX8_balanceOf_18 (lv_at hl 0 rfl) ?_
      refine z_callSi (As := [.int q12]) (rest := [.int x2]) (t_X8_pitOf G l hN q12 h) cs_X8_pitOf hx hb hml hl.1 Z hw wd771 rfl rfl (Nat.le_of_ble_eq_true rfl) (by decide) dX8_balanceOf_20 (fun H locs hw => ?_)
      refine lv_iload hx hb dX8_balanceOf_23 (lv_at hl 0 rfl) ?_
      refine z_callSi (As := [.int q12]) (rest := [.int (f_X8_pitOf q12 h), .int x2]) (t_X8_flatOf G l hN q12 h) cs_X8_flatOf hx hb hml hl.1 Z hw wd774 rfl rfl (Nat.le_of_ble_eq_true rfl) (by decide) dX8_balanceOf_25 (fun H locs hw => ?_)
      refine lv_isub hx hb dX8_balanceOf_28 ?_
      refine lv_iadd hx hb dX8_balanceOf_29 ?_
      obtain ⟨v30, hqv30, hf⟩ := tb_ex hf
      refine z_top hqv30 ?_
      refine lv_istore_n (lv' := [(2, _), (4, _), (0, _), (1, _), (3, _)]) hx hb dX8_balanceOf_30 rfl hl (by decide) rfl (fun ls hl => ?_)
      refine lv_iinc (v := x3 + (1 : Int32)) (lv' := [(3, _), (2, _), (4, _), (0, _), (1, _)]) hx hb dX8_balanceOf_31 hl (k := 4) rfl rfl (by decide) rfl (fun ls hl => ?_)
      refine lv_goto (tgt := 4) hx hb dX8_balanceOf_34 (by decide) ?_
      exact ih x1 v30 (x3 + (1 : Int32)) h  rv hq ls H locs (lv_sub hl [3, 4, 1, 0] rfl) hw hf kk
set_option maxHeartbeats 4000000 in
set_option maxRecDepth 100000 in
theorem t_X8_balanceOf (G : GM) (l : Launch) (hN : 70 ≤ gN G) (o0 : Nat) (k_o0 : kd o0 = 7) (n_o0 : o0 < gN G) (x1 : Int32) (h : HP) {r : Int32} (hf : f_X8_balanceOf o0 x1 h = some r) : MC G l yX8_balanceOf cX8_balanceOf 5 (some .int) 3 [.ref (ra G o0), .int x1] h h (some (.int r)) := by
  unfold f_X8_balanceOf at hf
  refine z_start (by decide) (Nat.le_of_ble_eq_true rfl) ?_
  intro p e s m args below meth c ls hx hb hr hlk hml Z hw hl
  have Z : ZK G s args m RX8 := Z
  have hl : lv_has ls 5 [(0, .ref (ra G o0)), (1, .int x1)] := hl
  obtain ⟨H, hH⟩ : ∃ H, H = s.heap := ⟨_, rfl⟩
  rw [← hH] at hw ⊢
  obtain ⟨locs, hlc⟩ : ∃ locs : List Loc, locs = [] := ⟨_, rfl⟩
  rw [← hlc] at hw ⊢
  refine lv_iconst (v := (0 : Int32)) hx hb dX8_balanceOf_0 (by decide) ?_
  refine lv_istore_n (lv' := [(2, _), (0, _), (1, _)]) hx hb dX8_balanceOf_1 rfl hl (by decide) rfl (fun ls hl => ?_)
  refine lv_iconst (v := (0 : Int32)) hx hb dX8_balanceOf_2 (by decide) ?_
  refine lv_istore_n (lv' := [(3, _), (2, _), (0, _), (1, _)]) hx hb dX8_balanceOf_3 rfl hl (by decide) rfl (fun ls hl => ?_)
  obtain ⟨q4, hq4, hf⟩ := ob_some hf
  refine w_X8_balanceOf_L4 G l hN o0 k_o0 n_o0 hx hb hr hlk hml Z FU x1 (0 : Int32) (0 : Int32) h  _ _ ls H locs (lv_sub hl [2, 3, 1, 0] rfl) hw hq4 (fun ls H locs hl hw => ?_)
  refine lv_iload_n hx hb dX8_balanceOf_37 rfl (lv_at hl 0 rfl) ?_
  obtain rfl := Option.some.inj hf
  exact z_iret hx hb hr hlk hw dX8_balanceOf_38
set_option maxHeartbeats 4000000 in
set_option maxRecDepth 100000 in
theorem w_X8_lengthOf_L4 (G : GM) (l : Launch) (hN : 70 ≤ gN G) (o0 : Nat) (k_o0 : kd o0 = 7) (n_o0 : o0 < gN G) {p : Program} {e : Env} {s : State} {m : MethodId} {args : Array Value} {below : List Frame} {meth : Method} {c : Code} (hx : p.tables.exec = Jvm.exec) (hb : c.code = cX8_lengthOf) (hr : meth.sig.returnType = (some .int)) (hlk : meth.locks = false) (hml : c.maxLocals = 5) (Z : ZK G s args m RX8) : ∀ (n : Nat) (x1 : Int32) (x2 : Int32) (x3 : Int32)  (h : HP)  (rv : Option Value) (hq : HP) (ls : Array Slot) (H : Heap) (locs : List Loc) {q : Int32}, lv_has ls 5 [(0, .ref (ra G o0)), (1, .int x1), (2, .int x2), (3, .int x3)] → HW G h s H locs → f_X8_lengthOf_L4 n o0 x1 x2 x3 h = some q → (∀ (ls : Array Slot) (H : Heap) (locs : List Loc), lv_has ls 5 [(2, .int q)] → HW G h s H locs → WZ p l e 3 s m args below meth c G rv hq H locs (F0 m 37 ls [])) → WZ p l e 3 s m args below meth c G rv hq H locs (F0 m 4 ls []) := by
  intro n
  induction n with
  | zero => intro x1 x2 x3  h  rv hq ls H locs q hl hw hf kk; cases hf
  | succ n ih =>
    intro x1 x2 x3  h  rv hq ls H locs q hl hw hf kk
    rw [f_X8_lengthOf_L4] at hf
    refine lv_iload_n hx hb dX8_lengthOf_4 rfl (lv_at hl 3 rfl) ?_
    refine lv_iconst (v := (4 : Int32)) hx hb dX8_lengthOf_5 (by decide) ?_
    refine lv_icmp_ge (tgt := 37) hx hb dX8_lengthOf_6 (by decide) (fun c6 => ?_) (fun c6 => ?_)
    · have hf := (if_pos c6).symm.trans hf
      obtain rfl := Option.some.inj hf
      exact kk ls H locs (lv_sub hl [2] rfl) hw
    · have hf := (if_neg c6).symm.trans hf
      refine lv_aload_n hx hb dX8_lengthOf_9 rfl (lv_at hl 0 rfl) ?_
      refine lv_iload_n hx hb dX8_lengthOf_10 rfl (lv_at hl 1 rfl) ?_
      refine lv_iload_n hx hb dX8_lengthOf_11 rfl (lv_at hl 3 rfl) ?_
      obtain ⟨q12, hq12, hf⟩ := ob_some hf
      refine z_callVi (o := o0) (ci := 7) (As := [.int x1, .int x3]) (rest := []) (t_X8_standsAt G l hN o0 k_o0 n_o0 x1 x3 h hq12) cv_X8_standsAt hx hb hml hl.1 Z hw k_o0 (by decide) n_o0 rfl rfl wd770 rfl rfl (Nat.le_of_ble_eq_true rfl) (by decide) dX8_lengthOf_12 (fun H locs hw => ?_)
      refine lv_istore (lv' := [(4, _), (0, _), (1, _), (2, _), (3, _)]) hx hb dX8_lengthOf_15 hl (by decide) rfl (fun ls hl => ?_)
      refine lv_iload_n hx hb dX8_lengthOf_17 rfl (lv_at hl 3 rfl) ?_
      refine lv_iload hx hb dX8_lengthOf_18 (lv_at hl 0 rfl) ?_
      refine z_callSi (As := [.int q12]) (rest := [.int x2]) (t_X8_pitOf G l hN q12 h) cs_X8_pitOf hx hb hml hl.1 Z hw wd771 rfl rfl (Nat.le_of_ble_eq_true rfl) (by decide) dX8_lengthOf_20 (fun H locs hw => ?_)
      refine lv_iload hx hb dX8_lengthOf_23 (lv_at hl 0 rfl) ?_
      refine z_callSi (As := [.int q12]) (rest := [.int (f_X8_pitOf q12 h), .int x2]) (t_X8_flatOf G l hN q12 h) cs_X8_flatOf hx hb hml hl.1 Z hw wd774 rfl rfl (Nat.le_of_ble_eq_true rfl) (by decide) dX8_lengthOf_25 (fun H locs hw => ?_)
      refine lv_iadd hx hb dX8_lengthOf_28 ?_
      refine lv_iadd hx hb dX8_lengthOf_29 ?_
      obtain ⟨v30, hqv30, hf⟩ := tb_ex hf
      refine z_top hqv30 ?_
      refine lv_istore_n (lv' := [(2, _), (4, _), (0, _), (1, _), (3, _)]) hx hb dX8_lengthOf_30 rfl hl (by decide) rfl (fun ls hl => ?_)
      refine lv_iinc (v := x3 + (1 : Int32)) (lv' := [(3, _), (2, _), (4, _), (0, _), (1, _)]) hx hb dX8_lengthOf_31 hl (k := 4) rfl rfl (by decide) rfl (fun ls hl => ?_)
      refine lv_goto (tgt := 4) hx hb dX8_lengthOf_34 (by decide) ?_
      exact ih x1 v30 (x3 + (1 : Int32)) h  rv hq ls H locs (lv_sub hl [3, 4, 1, 0] rfl) hw hf kk
set_option maxHeartbeats 4000000 in
set_option maxRecDepth 100000 in
theorem t_X8_lengthOf (G : GM) (l : Launch) (hN : 70 ≤ gN G) (o0 : Nat) (k_o0 : kd o0 = 7) (n_o0 : o0 < gN G) (x1 : Int32) (h : HP) {r : Int32} (hf : f_X8_lengthOf o0 x1 h = some r) : MC G l yX8_lengthOf cX8_lengthOf 5 (some .int) 3 [.ref (ra G o0), .int x1] h h (some (.int r)) := by
  unfold f_X8_lengthOf at hf
  refine z_start (by decide) (Nat.le_of_ble_eq_true rfl) ?_
  intro p e s m args below meth c ls hx hb hr hlk hml Z hw hl
  have Z : ZK G s args m RX8 := Z
  have hl : lv_has ls 5 [(0, .ref (ra G o0)), (1, .int x1)] := hl
  obtain ⟨H, hH⟩ : ∃ H, H = s.heap := ⟨_, rfl⟩
  rw [← hH] at hw ⊢
  obtain ⟨locs, hlc⟩ : ∃ locs : List Loc, locs = [] := ⟨_, rfl⟩
  rw [← hlc] at hw ⊢
  refine lv_iconst (v := (0 : Int32)) hx hb dX8_lengthOf_0 (by decide) ?_
  refine lv_istore_n (lv' := [(2, _), (0, _), (1, _)]) hx hb dX8_lengthOf_1 rfl hl (by decide) rfl (fun ls hl => ?_)
  refine lv_iconst (v := (0 : Int32)) hx hb dX8_lengthOf_2 (by decide) ?_
  refine lv_istore_n (lv' := [(3, _), (2, _), (0, _), (1, _)]) hx hb dX8_lengthOf_3 rfl hl (by decide) rfl (fun ls hl => ?_)
  obtain ⟨q4, hq4, hf⟩ := ob_some hf
  refine w_X8_lengthOf_L4 G l hN o0 k_o0 n_o0 hx hb hr hlk hml Z FU x1 (0 : Int32) (0 : Int32) h  _ _ ls H locs (lv_sub hl [2, 3, 1, 0] rfl) hw hq4 (fun ls H locs hl hw => ?_)
  refine lv_iload_n hx hb dX8_lengthOf_37 rfl (lv_at hl 0 rfl) ?_
  obtain rfl := Option.some.inj hf
  exact z_iret hx hb hr hlk hw dX8_lengthOf_38
set_option maxHeartbeats 4000000 in
set_option maxRecDepth 100000 in
theorem w_X8_longestRunOf_L4 (G : GM) (l : Launch) (hN : 70 ≤ gN G) (o0 : Nat) (k_o0 : kd o0 = 7) (n_o0 : o0 < gN G) {p : Program} {e : Env} {s : State} {m : MethodId} {args : Array Value} {below : List Frame} {meth : Method} {c : Code} (hx : p.tables.exec = Jvm.exec) (hb : c.code = cX8_longestRunOf) (hr : meth.sig.returnType = (some .int)) (hlk : meth.locks = false) (hml : c.maxLocals = 5) (Z : ZK G s args m RX8) : ∀ (n : Nat) (x1 : Int32) (x2 : Int32) (x3 : Int32)  (h : HP)  (rv : Option Value) (hq : HP) (ls : Array Slot) (H : Heap) (locs : List Loc) {q : Int32}, lv_has ls 5 [(0, .ref (ra G o0)), (1, .int x1), (2, .int x2), (3, .int x3)] → HW G h s H locs → f_X8_longestRunOf_L4 n o0 x1 x2 x3 h = some q → (∀ (ls : Array Slot) (H : Heap) (locs : List Loc), lv_has ls 5 [(2, .int q)] → HW G h s H locs → WZ p l e 3 s m args below meth c G rv hq H locs (F0 m 41 ls [])) → WZ p l e 3 s m args below meth c G rv hq H locs (F0 m 4 ls []) := by
  intro n
  induction n with
  | zero => intro x1 x2 x3  h  rv hq ls H locs q hl hw hf kk; cases hf
  | succ n ih =>
    intro x1 x2 x3  h  rv hq ls H locs q hl hw hf kk
    rw [f_X8_longestRunOf_L4] at hf
    refine lv_iload_n hx hb dX8_longestRunOf_4 rfl (lv_at hl 3 rfl) ?_
    refine lv_iconst (v := (4 : Int32)) hx hb dX8_longestRunOf_5 (by decide) ?_
    refine lv_icmp_ge (tgt := 41) hx hb dX8_longestRunOf_6 (by decide) (fun c6 => ?_) (fun c6 => ?_)
    · have hf := (if_pos c6).symm.trans hf
      obtain rfl := Option.some.inj hf
      exact kk ls H locs (lv_sub hl [2] rfl) hw
    · have hf := (if_neg c6).symm.trans hf
      refine lv_aload_n hx hb dX8_longestRunOf_9 rfl (lv_at hl 0 rfl) ?_
      refine lv_iload_n hx hb dX8_longestRunOf_10 rfl (lv_at hl 1 rfl) ?_
      refine lv_iload_n hx hb dX8_longestRunOf_11 rfl (lv_at hl 3 rfl) ?_
      obtain ⟨q12, hq12, hf⟩ := ob_some hf
      refine z_callVi (o := o0) (ci := 7) (As := [.int x1, .int x3]) (rest := []) (t_X8_standsAt G l hN o0 k_o0 n_o0 x1 x3 h hq12) cv_X8_standsAt hx hb hml hl.1 Z hw k_o0 (by decide) n_o0 rfl rfl wd770 rfl rfl (Nat.le_of_ble_eq_true rfl) (by decide) dX8_longestRunOf_12 (fun H locs hw => ?_)
      refine lv_istore (lv' := [(4, _), (0, _), (1, _), (2, _), (3, _)]) hx hb dX8_longestRunOf_15 hl (by decide) rfl (fun ls hl => ?_)
      refine lv_iload_n hx hb dX8_longestRunOf_17 rfl (lv_at hl 3 rfl) ?_
      refine lv_iload hx hb dX8_longestRunOf_18 (lv_at hl 0 rfl) ?_
      refine z_callSi (As := [.int q12]) (rest := [.int x2]) (t_X8_pitOf G l hN q12 h) cs_X8_pitOf hx hb hml hl.1 Z hw wd771 rfl rfl (Nat.le_of_ble_eq_true rfl) (by decide) dX8_longestRunOf_20 (fun H locs hw => ?_)
      refine lv_iload hx hb dX8_longestRunOf_23 (lv_at hl 0 rfl) ?_
      refine z_callSi (As := [.int q12]) (rest := [.int (f_X8_pitOf q12 h), .int x2]) (t_X8_flatOf G l hN q12 h) cs_X8_flatOf hx hb hml hl.1 Z hw wd774 rfl rfl (Nat.le_of_ble_eq_true rfl) (by decide) dX8_longestRunOf_25 (fun H locs hw => ?_)
      refine z_mmax hx hb (hml.trans hl.1.symm) Z wd785 wd465 wd82 wd466 (Nat.le_of_ble_eq_true rfl) dX8_longestRunOf_28 ?_
      refine z_mmax hx hb (hml.trans hl.1.symm) Z wd785 wd465 wd82 wd466 (Nat.le_of_ble_eq_true rfl) dX8_longestRunOf_31 ?_
      obtain ⟨v34, hqv34, hf⟩ := tb_ex hf
      refine z_top hqv34 ?_
      refine lv_istore_n (lv' := [(2, _), (4, _), (0, _), (1, _), (3, _)]) hx hb dX8_longestRunOf_34 rfl hl (by decide) rfl (fun ls hl => ?_)
      refine lv_iinc (v := x3 + (1 : Int32)) (lv' := [(3, _), (2, _), (4, _), (0, _), (1, _)]) hx hb dX8_longestRunOf_35 hl (k := 4) rfl rfl (by decide) rfl (fun ls hl => ?_)
      refine lv_goto (tgt := 4) hx hb dX8_longestRunOf_38 (by decide) ?_
      exact ih x1 v34 (x3 + (1 : Int32)) h  rv hq ls H locs (lv_sub hl [3, 4, 1, 0] rfl) hw hf kk
set_option maxHeartbeats 4000000 in
set_option maxRecDepth 100000 in
theorem t_X8_longestRunOf (G : GM) (l : Launch) (hN : 70 ≤ gN G) (o0 : Nat) (k_o0 : kd o0 = 7) (n_o0 : o0 < gN G) (x1 : Int32) (h : HP) {r : Int32} (hf : f_X8_longestRunOf o0 x1 h = some r) : MC G l yX8_longestRunOf cX8_longestRunOf 5 (some .int) 3 [.ref (ra G o0), .int x1] h h (some (.int r)) := by
  unfold f_X8_longestRunOf at hf
  refine z_start (by decide) (Nat.le_of_ble_eq_true rfl) ?_
  intro p e s m args below meth c ls hx hb hr hlk hml Z hw hl
  have Z : ZK G s args m RX8 := Z
  have hl : lv_has ls 5 [(0, .ref (ra G o0)), (1, .int x1)] := hl
  obtain ⟨H, hH⟩ : ∃ H, H = s.heap := ⟨_, rfl⟩
  rw [← hH] at hw ⊢
  obtain ⟨locs, hlc⟩ : ∃ locs : List Loc, locs = [] := ⟨_, rfl⟩
  rw [← hlc] at hw ⊢
  refine lv_iconst (v := (0 : Int32)) hx hb dX8_longestRunOf_0 (by decide) ?_
  refine lv_istore_n (lv' := [(2, _), (0, _), (1, _)]) hx hb dX8_longestRunOf_1 rfl hl (by decide) rfl (fun ls hl => ?_)
  refine lv_iconst (v := (0 : Int32)) hx hb dX8_longestRunOf_2 (by decide) ?_
  refine lv_istore_n (lv' := [(3, _), (2, _), (0, _), (1, _)]) hx hb dX8_longestRunOf_3 rfl hl (by decide) rfl (fun ls hl => ?_)
  obtain ⟨q4, hq4, hf⟩ := ob_some hf
  refine w_X8_longestRunOf_L4 G l hN o0 k_o0 n_o0 hx hb hr hlk hml Z FU x1 (0 : Int32) (0 : Int32) h  _ _ ls H locs (lv_sub hl [2, 3, 1, 0] rfl) hw hq4 (fun ls H locs hl hw => ?_)
  refine lv_iload_n hx hb dX8_longestRunOf_41 rfl (lv_at hl 0 rfl) ?_
  obtain rfl := Option.some.inj hf
  exact z_iret hx hb hr hlk hw dX8_longestRunOf_42
set_option maxHeartbeats 4000000 in
set_option maxRecDepth 100000 in
theorem t_X10_frame (G : GM) (l : Launch) (hN : 70 ≤ gN G) (x1 : Int32) (x2 : Int32) (h : HP) {r : Int32} {h' : HP} (hf : f_X10_frame x1 x2 h = some (r, h')) : MC G l yX10_frame cX10_frame 4 (some .int) 4 [.ref (ra G 0), .int x1, .int x2] h h' (some (.int r)) := by
  unfold f_X10_frame at hf
  refine z_start (by decide) (Nat.le_of_ble_eq_true rfl) ?_
  intro p e s m args below meth c ls hx hb hr hlk hml Z hw hl
  have Z : ZK G s args m RX10 := Z
  have hl : lv_has ls 4 [(0, .ref (ra G 0)), (1, .int x1), (2, .int x2)] := hl
  obtain ⟨H, hH⟩ : ∃ H, H = s.heap := ⟨_, rfl⟩
  rw [← hH] at hw ⊢
  obtain ⟨locs, hlc⟩ : ∃ locs : List Loc, locs = [] := ⟨_, rfl⟩
  rw [← hlc] at hw ⊢
  refine lv_aload_n hx hb dX10_frame_0 rfl (lv_at hl 0 rfl) ?_
  refine z_getr (o := 0) (o2 := 1) (C := RX10) (T := TX10) (N := 8) (ci := 8) (k := 0) hx hb Z hw (by decide) (by omega) rfl inX10 (by decide) rfl wd288 dX10_frame_1 ?_
  refine z_getr (o := 1) (o2 := 2) (C := RX6) (T := TX6) (N := 4) (ci := 5) (k := 0) hx hb Z hw (by decide) (by omega) rfl inX6 (by decide) rfl wd199 dX10_frame_4 ?_
  refine lv_astore_n (lv' := [(3, _), (0, _), (1, _), (2, _)]) hx hb dX10_frame_7 rfl hl (by decide) rfl (fun ls hl => ?_)
  refine lv_aload_n hx hb dX10_frame_8 rfl (lv_at hl 0 rfl) ?_
  refine lv_iload_n hx hb dX10_frame_9 rfl (lv_at hl 2 rfl) ?_
  refine z_callVi (o := 2) (ci := 4) (As := [.int x1]) (rest := []) (t_X5_hasFrame G l hN 2 (by decide) (by omega) x1 h) cv_X5_hasFrame hx hb hml hl.1 Z hw (by decide) (by decide) (by omega) rfl rfl wd345 rfl rfl (Nat.le_of_ble_eq_true rfl) (by decide) dX10_frame_10 (fun H locs hw => ?_)
  refine lv_if_ne (tgt := 18) hx hb dX10_frame_13 (by decide) (fun c13 => ?_) (fun c13 => ?_)
  · have hf := (if_neg c13).symm.trans hf
    refine lv_iload_n hx hb dX10_frame_18 rfl (lv_at hl 3 rfl) ?_
    by_cases c19_0 : x2 = 0
    · have hf := (if_pos c19_0).symm.trans hf
      refine z_sw c19_0 ?_
      refine lv_tableIn (tgt := 68) hx hb dX10_frame_19 (by decide) (by decide) rfl (by decide) ?_
      refine lv_aload_n hx hb dX10_frame_68 rfl (lv_at hl 0 rfl) ?_
      refine lv_iload_n hx hb dX10_frame_69 rfl (lv_at hl 2 rfl) ?_
      obtain ⟨q70, hq70, hf⟩ := ob_some hf
      refine z_callVi (o := 2) (ci := 4) (As := [.int x1]) (rest := []) (t_X5_turnOf G l hN 2 (by decide) (by omega) x1 h hq70) cv_X5_turnOf hx hb hml hl.1 Z hw (by decide) (by decide) (by omega) rfl rfl wd751 rfl rfl (Nat.le_of_ble_eq_true rfl) (by decide) dX10_frame_70 (fun H locs hw => ?_)
      obtain ⟨rfl, rfl⟩ := Prod.mk.inj (Option.some.inj hf)
      exact z_iret hx hb hr hlk hw dX10_frame_73
    have hf := (if_neg c19_0).symm.trans hf
    by_cases c19_1 : x2 = 1
    · have hf := (if_pos c19_1).symm.trans hf
      refine z_sw c19_1 ?_
      refine lv_tableIn (tgt := 74) hx hb dX10_frame_19 (by decide) (by decide) rfl (by decide) ?_
      refine lv_iload_n hx hb dX10_frame_74 rfl (lv_at hl 2 rfl) ?_
      refine lv_aload_n hx hb dX10_frame_75 rfl (lv_at hl 0 rfl) ?_
      refine lv_aload_n hx hb dX10_frame_76 rfl (lv_at hl 0 rfl) ?_
      refine lv_iload_n hx hb dX10_frame_77 rfl (lv_at hl 2 rfl) ?_
      obtain ⟨q78, hq78, hf⟩ := ob_some hf
      refine z_callVi (o := 2) (ci := 4) (As := [.int x1]) (rest := [.ref (ra G 2), .int x1]) (t_X5_turnOf G l hN 2 (by decide) (by omega) x1 h hq78) cv_X5_turnOf hx hb hml hl.1 Z hw (by decide) (by decide) (by omega) rfl rfl wd751 rfl rfl (Nat.le_of_ble_eq_true rfl) (by decide) dX10_frame_78 (fun H locs hw => ?_)
      refine z_callVi (o := 2) (ci := 4) (As := [.int q78]) (rest := [.int x1]) (t_X5_firstOf G l hN 2 (by decide) (by omega) q78 h) cv_X5_firstOf hx hb hml hl.1 Z hw (by decide) (by decide) (by omega) rfl rfl wd752 rfl rfl (Nat.le_of_ble_eq_true rfl) (by decide) dX10_frame_81 (fun H locs hw => ?_)
      refine lv_isub hx hb dX10_frame_84 ?_
      obtain ⟨rfl, rfl⟩ := Prod.mk.inj (Option.some.inj hf)
      exact z_iret hx hb hr hlk hw dX10_frame_85
    have hf := (if_neg c19_1).symm.trans hf
    by_cases c19_2 : x2 = 2
    · have hf := (if_pos c19_2).symm.trans hf
      refine z_sw c19_2 ?_
      refine lv_tableIn (tgt := 86) hx hb dX10_frame_19 (by decide) (by decide) rfl (by decide) ?_
      refine lv_aload_n hx hb dX10_frame_86 rfl (lv_at hl 0 rfl) ?_
      refine lv_iload_n hx hb dX10_frame_87 rfl (lv_at hl 2 rfl) ?_
      refine z_callVi (o := 2) (ci := 4) (As := [.int x1]) (rest := []) (t_X5_groupOf G l hN 2 (by decide) (by omega) x1 h) cv_X5_groupOf hx hb hml hl.1 Z hw (by decide) (by decide) (by omega) rfl rfl wd753 rfl rfl (Nat.le_of_ble_eq_true rfl) (by decide) dX10_frame_88 (fun H locs hw => ?_)
      obtain ⟨rfl, rfl⟩ := Prod.mk.inj (Option.some.inj hf)
      exact z_iret hx hb hr hlk hw dX10_frame_91
    have hf := (if_neg c19_2).symm.trans hf
    by_cases c19_3 : x2 = 3
    · have hf := (if_pos c19_3).symm.trans hf
      refine z_sw c19_3 ?_
      refine lv_tableIn (tgt := 92) hx hb dX10_frame_19 (by decide) (by decide) rfl (by decide) ?_
      refine lv_iload_n hx hb dX10_frame_92 rfl (lv_at hl 2 rfl) ?_
      refine z_callSi (As := [.int x1]) (rest := []) (t_X5_isCheck G l hN x1 h) cs_X5_isCheck hx hb hml hl.1 Z hw wd360 rfl rfl (Nat.le_of_ble_eq_true rfl) (by decide) dX10_frame_93 (fun H locs hw => ?_)
      refine lv_if_eq (tgt := 103) hx hb dX10_frame_96 (by decide) (fun c96 => ?_) (fun c96 => ?_)
      · have hf := (if_pos c96).symm.trans hf
        refine lv_iconst (v := (0 : Int32)) hx hb dX10_frame_103 (by decide) ?_
        obtain ⟨rfl, rfl⟩ := Prod.mk.inj (Option.some.inj hf)
        exact z_iret hx hb hr hlk hw dX10_frame_104
      · have hf := (if_neg c96).symm.trans hf
        refine lv_iconst (v := (1 : Int32)) hx hb dX10_frame_99 (by decide) ?_
        refine lv_goto (tgt := 104) hx hb dX10_frame_100 (by decide) ?_
        obtain ⟨rfl, rfl⟩ := Prod.mk.inj (Option.some.inj hf)
        exact z_iret hx hb hr hlk hw dX10_frame_104
    have hf := (if_neg c19_3).symm.trans hf
    by_cases c19_4 : x2 = 4
    · have hf := (if_pos c19_4).symm.trans hf
      refine z_sw c19_4 ?_
      refine lv_tableIn (tgt := 105) hx hb dX10_frame_19 (by decide) (by decide) rfl (by decide) ?_
      refine lv_aload_n hx hb dX10_frame_105 rfl (lv_at hl 1 rfl) ?_
      refine z_getr (o := 0) (o2 := 63) (C := RX10) (T := TX10) (N := 8) (ci := 8) (k := 6) hx hb Z hw (by decide) (by omega) rfl inX10 (by decide) rfl wd294 dX10_frame_106 ?_
      refine lv_aload_n hx hb dX10_frame_109 rfl (lv_at hl 1 rfl) ?_
      refine z_getr (o := 0) (o2 := 1) (C := RX10) (T := TX10) (N := 8) (ci := 8) (k := 0) hx hb Z hw (by decide) (by omega) rfl inX10 (by decide) rfl wd288 dX10_frame_110 ?_
      obtain ⟨q113, hq113, hf⟩ := ob_some hf
      refine z_callVi (o := 63) (ci := 6) (As := [.ref (ra G 1)]) (rest := []) (t_X7_of G l hN 1 (by decide) (by omega) h hq113) cv_X7_of hx hb hml hl.1 Z hw (by decide) (by decide) (by omega) rfl rfl wd423 rfl rfl (Nat.le_of_ble_eq_true rfl) (by decide) dX10_frame_113 (fun H locs hw => ?_)
      refine lv_iload_n hx hb dX10_frame_116 rfl (lv_at hl 2 rfl) ?_
      refine z_callVi (o := 63) (ci := 6) (As := [.int x1]) (rest := []) (t_X7_isDamaged G l hN x1 q113) cv_X7_isDamaged hx hb hml hl.1 Z hw (by decide) (by decide) (by omega) rfl rfl wd761 rfl rfl (Nat.le_of_ble_eq_true rfl) (by decide) dX10_frame_117 (fun H locs hw => ?_)
      refine lv_if_eq (tgt := 127) hx hb dX10_frame_120 (by decide) (fun c120 => ?_) (fun c120 => ?_)
      · have hf := (if_pos c120).symm.trans hf
        refine lv_iconst (v := (0 : Int32)) hx hb dX10_frame_127 (by decide) ?_
        obtain ⟨rfl, rfl⟩ := Prod.mk.inj (Option.some.inj hf)
        exact z_iret hx hb hr hlk hw dX10_frame_128
      · have hf := (if_neg c120).symm.trans hf
        refine lv_iconst (v := (1 : Int32)) hx hb dX10_frame_123 (by decide) ?_
        refine lv_goto (tgt := 128) hx hb dX10_frame_124 (by decide) ?_
        obtain ⟨rfl, rfl⟩ := Prod.mk.inj (Option.some.inj hf)
        exact z_iret hx hb hr hlk hw dX10_frame_128
    have hf := (if_neg c19_4).symm.trans hf
    by_cases c19_5 : x2 = 5
    · have hf := (if_pos c19_5).symm.trans hf
      refine z_sw c19_5 ?_
      refine lv_tableIn (tgt := 129) hx hb dX10_frame_19 (by decide) (by decide) rfl (by decide) ?_
      refine lv_aload_n hx hb dX10_frame_129 rfl (lv_at hl 1 rfl) ?_
      refine z_getr (o := 0) (o2 := 63) (C := RX10) (T := TX10) (N := 8) (ci := 8) (k := 6) hx hb Z hw (by decide) (by omega) rfl inX10 (by decide) rfl wd294 dX10_frame_130 ?_
      refine lv_aload_n hx hb dX10_frame_133 rfl (lv_at hl 1 rfl) ?_
      refine z_getr (o := 0) (o2 := 1) (C := RX10) (T := TX10) (N := 8) (ci := 8) (k := 0) hx hb Z hw (by decide) (by omega) rfl inX10 (by decide) rfl wd288 dX10_frame_134 ?_
      obtain ⟨q137, hq137, hf⟩ := ob_some hf
      refine z_callVi (o := 63) (ci := 6) (As := [.ref (ra G 1)]) (rest := []) (t_X7_of G l hN 1 (by decide) (by omega) h hq137) cv_X7_of hx hb hml hl.1 Z hw (by decide) (by decide) (by omega) rfl rfl wd423 rfl rfl (Nat.le_of_ble_eq_true rfl) (by decide) dX10_frame_137 (fun H locs hw => ?_)
      refine lv_iload_n hx hb dX10_frame_140 rfl (lv_at hl 2 rfl) ?_
      refine z_callVi (o := 63) (ci := 6) (As := [.int x1]) (rest := []) (t_X7_howIs G l hN x1 q137) cv_X7_howIs hx hb hml hl.1 Z hw (by decide) (by decide) (by omega) rfl rfl wd762 rfl rfl (Nat.le_of_ble_eq_true rfl) (by decide) dX10_frame_141 (fun H locs hw => ?_)
      obtain ⟨rfl, rfl⟩ := Prod.mk.inj (Option.some.inj hf)
      exact z_iret hx hb hr hlk hw dX10_frame_144
    have hf := (if_neg c19_5).symm.trans hf
    by_cases c19_6 : x2 = 6
    · have hf := (if_pos c19_6).symm.trans hf
      refine z_sw c19_6 ?_
      refine lv_tableIn (tgt := 145) hx hb dX10_frame_19 (by decide) (by decide) rfl (by decide) ?_
      refine lv_aload_n hx hb dX10_frame_145 rfl (lv_at hl 1 rfl) ?_
      refine z_getr (o := 0) (o2 := 1) (C := RX10) (T := TX10) (N := 8) (ci := 8) (k := 0) hx hb Z hw (by decide) (by omega) rfl inX10 (by decide) rfl wd288 dX10_frame_146 ?_
      refine z_getr (o := 1) (o2 := 5) (C := RX6) (T := TX6) (N := 4) (ci := 5) (k := 2) hx hb Z hw (by decide) (by omega) rfl inX6 (by decide) rfl wd204 dX10_frame_149 ?_
      refine lv_iload_n hx hb dX10_frame_152 rfl (lv_at hl 2 rfl) ?_
      obtain ⟨q153, hq153, hf⟩ := ob_some hf
      refine z_callVi (o := 5) (ci := 7) (As := [.int x1]) (rest := []) (t_X8_lengthOf G l hN 5 (by decide) (by omega) x1 h hq153) cv_X8_lengthOf hx hb hml hl.1 Z hw (by decide) (by decide) (by omega) rfl rfl wd766 rfl rfl (Nat.le_of_ble_eq_true rfl) (by decide) dX10_frame_153 (fun H locs hw => ?_)
      obtain ⟨rfl, rfl⟩ := Prod.mk.inj (Option.some.inj hf)
      exact z_iret hx hb hr hlk hw dX10_frame_156
    have hf := (if_neg c19_6).symm.trans hf
    by_cases c19_7 : x2 = 7
    · have hf := (if_pos c19_7).symm.trans hf
      refine z_sw c19_7 ?_
      refine lv_tableIn (tgt := 157) hx hb dX10_frame_19 (by decide) (by decide) rfl (by decide) ?_
      refine lv_aload_n hx hb dX10_frame_157 rfl (lv_at hl 1 rfl) ?_
      refine z_getr (o := 0) (o2 := 1) (C := RX10) (T := TX10) (N := 8) (ci := 8) (k := 0) hx hb Z hw (by decide) (by omega) rfl inX10 (by decide) rfl wd288 dX10_frame_158 ?_
      refine z_getr (o := 1) (o2 := 5) (C := RX6) (T := TX6) (N := 4) (ci := 5) (k := 2) hx hb Z hw (by decide) (by omega) rfl inX6 (by decide) rfl wd204 dX10_frame_161 ?_
      refine lv_iload_n hx hb dX10_frame_164 rfl (lv_at hl 2 rfl) ?_
      obtain ⟨q165, hq165, hf⟩ := ob_some hf
      refine z_callVi (o := 5) (ci := 7) (As := [.int x1]) (rest := []) (t_X8_balanceOf G l hN 5 (by decide) (by omega) x1 h hq165) cv_X8_balanceOf hx hb hml hl.1 Z hw (by decide) (by decide) (by omega) rfl rfl wd777 rfl rfl (Nat.le_of_ble_eq_true rfl) (by decide) dX10_frame_165 (fun H locs hw => ?_)
      refine lv_bipush (v := (100 : Int32)) hx hb dX10_frame_168 (by decide) ?_
      refine lv_iadd hx hb dX10_frame_170 ?_
      obtain ⟨rfl, rfl⟩ := Prod.mk.inj (Option.some.inj hf)
      exact z_iret hx hb hr hlk hw dX10_frame_171
    have hf := (if_neg c19_7).symm.trans hf
    by_cases c19_8 : x2 = 8
    · have hf := (if_pos c19_8).symm.trans hf
      refine z_sw c19_8 ?_
      refine lv_tableIn (tgt := 172) hx hb dX10_frame_19 (by decide) (by decide) rfl (by decide) ?_
      refine lv_aload_n hx hb dX10_frame_172 rfl (lv_at hl 1 rfl) ?_
      refine z_getr (o := 0) (o2 := 1) (C := RX10) (T := TX10) (N := 8) (ci := 8) (k := 0) hx hb Z hw (by decide) (by omega) rfl inX10 (by decide) rfl wd288 dX10_frame_173 ?_
      refine z_getr (o := 1) (o2 := 5) (C := RX6) (T := TX6) (N := 4) (ci := 5) (k := 2) hx hb Z hw (by decide) (by omega) rfl inX6 (by decide) rfl wd204 dX10_frame_176 ?_
      refine lv_iload_n hx hb dX10_frame_179 rfl (lv_at hl 2 rfl) ?_
      obtain ⟨q180, hq180, hf⟩ := ob_some hf
      refine z_callVi (o := 5) (ci := 7) (As := [.int x1]) (rest := []) (t_X8_longestRunOf G l hN 5 (by decide) (by omega) x1 h hq180) cv_X8_longestRunOf hx hb hml hl.1 Z hw (by decide) (by decide) (by omega) rfl rfl wd781 rfl rfl (Nat.le_of_ble_eq_true rfl) (by decide) dX10_frame_180 (fun H locs hw => ?_)
      obtain ⟨rfl, rfl⟩ := Prod.mk.inj (Option.some.inj hf)
      exact z_iret hx hb hr hlk hw dX10_frame_183
    have hf := (if_neg c19_8).symm.trans hf
    refine lv_tableOut (tgt := 184) hx hb dX10_frame_19 (by have := [0]; have e0 := sw_ne (k := 0) (by decide) c19_0; have e1 := sw_ne (k := 1) (by decide) c19_1; have e2 := sw_ne (k := 2) (by decide) c19_2; have e3 := sw_ne (k := 3) (by decide) c19_3; have e4 := sw_ne (k := 4) (by decide) c19_4; have e5 := sw_ne (k := 5) (by decide) c19_5; have e6 := sw_ne (k := 6) (by decide) c19_6; have e7 := sw_ne (k := 7) (by decide) c19_7; have e8 := sw_ne (k := 8) (by decide) c19_8; omega) (by decide) ?_
    refine lv_bipush (v := (-2 : Int32)) hx hb dX10_frame_184 (by decide) ?_
    obtain ⟨rfl, rfl⟩ := Prod.mk.inj (Option.some.inj hf)
    exact z_iret hx hb hr hlk hw dX10_frame_186
  · have hf := (if_pos c13).symm.trans hf
    refine lv_iconst (v := (-1 : Int32)) hx hb dX10_frame_16 (by decide) ?_
    obtain ⟨rfl, rfl⟩ := Prod.mk.inj (Option.some.inj hf)
    exact z_iret hx hb hr hlk hw dX10_frame_17
set_option maxHeartbeats 4000000 in
set_option maxRecDepth 100000 in
theorem t_X10_filledSymbol (G : GM) (l : Launch) (hN : 70 ≤ gN G) (x1 : Int32) (x2 : Int32) (h : HP) {r : Int32} (hf : f_X10_filledSymbol x1 x2 h = some r) : MC G l yX10_filledSymbol cX10_filledSymbol 5 (some .int) 3 [.ref (ra G 0), .int x1, .int x2] h h (some (.int r)) := by
  unfold f_X10_filledSymbol at hf
  refine z_start (by decide) (Nat.le_of_ble_eq_true rfl) ?_
  intro p e s m args below meth c ls hx hb hr hlk hml Z hw hl
  have Z : ZK G s args m RX10 := Z
  have hl : lv_has ls 5 [(0, .ref (ra G 0)), (1, .int x1), (2, .int x2)] := hl
  obtain ⟨H, hH⟩ : ∃ H, H = s.heap := ⟨_, rfl⟩
  rw [← hH] at hw ⊢
  obtain ⟨locs, hlc⟩ : ∃ locs : List Loc, locs = [] := ⟨_, rfl⟩
  rw [← hlc] at hw ⊢
  refine lv_aload_n hx hb dX10_filledSymbol_0 rfl (lv_at hl 0 rfl) ?_
  refine z_getr (o := 0) (o2 := 1) (C := RX10) (T := TX10) (N := 8) (ci := 8) (k := 0) hx hb Z hw (by decide) (by omega) rfl inX10 (by decide) rfl wd288 dX10_filledSymbol_1 ?_
  refine z_getr (o := 1) (o2 := 5) (C := RX6) (T := TX6) (N := 4) (ci := 5) (k := 2) hx hb Z hw (by decide) (by omega) rfl inX6 (by decide) rfl wd204 dX10_filledSymbol_4 ?_
  refine lv_iload_n hx hb dX10_filledSymbol_7 rfl (lv_at hl 1 rfl) ?_
  refine z_callSi (As := [.int x1]) (rest := [.ref (ra G 5)]) (t_X5_dataAhead G l hN x1 h) cs_X5_dataAhead hx hb hml hl.1 Z hw wd798 rfl rfl (Nat.le_of_ble_eq_true rfl) (by decide) dX10_filledSymbol_8 (fun H locs hw => ?_)
  refine lv_iload_n hx hb dX10_filledSymbol_11 rfl (lv_at hl 2 rfl) ?_
  obtain ⟨q12, hq12, hf⟩ := ob_some hf
  refine z_callVi (o := 5) (ci := 7) (As := [.int (f_X5_dataAhead x1 h), .int x2]) (rest := []) (t_X8_standsAt G l hN 5 (by decide) (by omega) (f_X5_dataAhead x1 h) x2 h hq12) cv_X8_standsAt hx hb hml hl.1 Z hw (by decide) (by decide) (by omega) rfl rfl wd363 rfl rfl (Nat.le_of_ble_eq_true rfl) (by decide) dX10_filledSymbol_12 (fun H locs hw => ?_)
  refine lv_istore_n (lv' := [(3, _), (0, _), (1, _), (2, _)]) hx hb dX10_filledSymbol_15 rfl hl (by decide) rfl (fun ls hl => ?_)
  refine lv_aload_n hx hb dX10_filledSymbol_16 rfl (lv_at hl 1 rfl) ?_
  refine z_getr (o := 0) (o2 := 1) (C := RX10) (T := TX10) (N := 8) (ci := 8) (k := 0) hx hb Z hw (by decide) (by omega) rfl inX10 (by decide) rfl wd288 dX10_filledSymbol_17 ?_
  refine z_getr (o := 1) (o2 := 5) (C := RX6) (T := TX6) (N := 4) (ci := 5) (k := 2) hx hb Z hw (by decide) (by omega) rfl inX6 (by decide) rfl wd204 dX10_filledSymbol_20 ?_
  refine lv_iload_n hx hb dX10_filledSymbol_23 rfl (lv_at hl 2 rfl) ?_
  refine z_callSi (As := [.int x1]) (rest := [.ref (ra G 5)]) (t_X5_dataBehind G l hN x1 h) cs_X5_dataBehind hx hb hml hl.1 Z hw wd799 rfl rfl (Nat.le_of_ble_eq_true rfl) (by decide) dX10_filledSymbol_24 (fun H locs hw => ?_)
  refine lv_iload_n hx hb dX10_filledSymbol_27 rfl (lv_at hl 3 rfl) ?_
  obtain ⟨q28, hq28, hf⟩ := ob_some hf
  refine z_callVi (o := 5) (ci := 7) (As := [.int (f_X5_dataBehind x1 h), .int x2]) (rest := []) (t_X8_standsAt G l hN 5 (by decide) (by omega) (f_X5_dataBehind x1 h) x2 h hq28) cv_X8_standsAt hx hb hml hl.1 Z hw (by decide) (by decide) (by omega) rfl rfl wd363 rfl rfl (Nat.le_of_ble_eq_true rfl) (by decide) dX10_filledSymbol_28 (fun H locs hw => ?_)
  refine lv_istore (lv' := [(4, _), (3, _), (0, _), (1, _), (2, _)]) hx hb dX10_filledSymbol_31 hl (by decide) rfl (fun ls hl => ?_)
  refine lv_iload_n hx hb dX10_filledSymbol_33 rfl (lv_at hl 1 rfl) ?_
  refine lv_iload hx hb dX10_filledSymbol_34 (lv_at hl 0 rfl) ?_
  refine lv_iadd hx hb dX10_filledSymbol_36 ?_
  refine lv_iconst (v := (2 : Int32)) hx hb dX10_filledSymbol_37 (by decide) ?_
  refine lv_idiv hx hb dX10_filledSymbol_38 (by decide) ?_
  obtain rfl := Option.some.inj hf
  exact z_iret hx hb hr hlk hw dX10_filledSymbol_39
set_option maxHeartbeats 4000000 in
set_option maxRecDepth 100000 in
theorem t_X10_toldSymbol (G : GM) (l : Launch) (hN : 70 ≤ gN G) (x1 : Int32) (x2 : Int32) (h : HP) {r : Int32} {h' : HP} (hf : f_X10_toldSymbol x1 x2 h = some (r, h')) : MC G l yX10_toldSymbol cX10_toldSymbol 4 (some .int) 4 [.ref (ra G 0), .int x1, .int x2] h h' (some (.int r)) := by
  unfold f_X10_toldSymbol at hf
  refine z_start (by decide) (Nat.le_of_ble_eq_true rfl) ?_
  intro p e s m args below meth c ls hx hb hr hlk hml Z hw hl
  have Z : ZK G s args m RX10 := Z
  have hl : lv_has ls 4 [(0, .ref (ra G 0)), (1, .int x1), (2, .int x2)] := hl
  obtain ⟨H, hH⟩ : ∃ H, H = s.heap := ⟨_, rfl⟩
  rw [← hH] at hw ⊢
  obtain ⟨locs, hlc⟩ : ∃ locs : List Loc, locs = [] := ⟨_, rfl⟩
  rw [← hlc] at hw ⊢
  refine lv_aload_n hx hb dX10_toldSymbol_0 rfl (lv_at hl 0 rfl) ?_
  refine z_getr (o := 0) (o2 := 63) (C := RX10) (T := TX10) (N := 8) (ci := 8) (k := 6) hx hb Z hw (by decide) (by omega) rfl inX10 (by decide) rfl wd294 dX10_toldSymbol_1 ?_
  refine lv_aload_n hx hb dX10_toldSymbol_4 rfl (lv_at hl 0 rfl) ?_
  refine z_getr (o := 0) (o2 := 1) (C := RX10) (T := TX10) (N := 8) (ci := 8) (k := 0) hx hb Z hw (by decide) (by omega) rfl inX10 (by decide) rfl wd288 dX10_toldSymbol_5 ?_
  obtain ⟨q8, hq8, hf⟩ := ob_some hf
  refine z_callVi (o := 63) (ci := 6) (As := [.ref (ra G 1)]) (rest := []) (t_X7_of G l hN 1 (by decide) (by omega) h hq8) cv_X7_of hx hb hml hl.1 Z hw (by decide) (by decide) (by omega) rfl rfl wd423 rfl rfl (Nat.le_of_ble_eq_true rfl) (by decide) dX10_toldSymbol_8 (fun H locs hw => ?_)
  refine lv_iload_n hx hb dX10_toldSymbol_11 rfl (lv_at hl 1 rfl) ?_
  refine z_callVi (o := 63) (ci := 6) (As := [.int x1]) (rest := []) (t_X7_howIs G l hN x1 q8) cv_X7_howIs hx hb hml hl.1 Z hw (by decide) (by decide) (by omega) rfl rfl wd762 rfl rfl (Nat.le_of_ble_eq_true rfl) (by decide) dX10_toldSymbol_12 (fun H locs hw => ?_)
  refine lv_istore_n (lv' := [(3, _), (0, _), (1, _), (2, _)]) hx hb dX10_toldSymbol_15 rfl hl (by decide) rfl (fun ls hl => ?_)
  refine lv_iload_n hx hb dX10_toldSymbol_16 rfl (lv_at hl 0 rfl) ?_
  refine lv_iconst (v := (3 : Int32)) hx hb dX10_toldSymbol_17 (by decide) ?_
  refine lv_icmp_ne (tgt := 24) hx hb dX10_toldSymbol_18 (by decide) (fun c18 => ?_) (fun c18 => ?_)
  · have hf := (if_neg c18).symm.trans hf
    refine lv_iload_n hx hb dX10_toldSymbol_24 rfl (lv_at hl 0 rfl) ?_
    refine lv_iconst (v := (2 : Int32)) hx hb dX10_toldSymbol_25 (by decide) ?_
    refine lv_icmp_ne (tgt := 38) hx hb dX10_toldSymbol_26 (by decide) (fun c26 => ?_) (fun c26 => ?_)
    · have hf := (if_neg c26).symm.trans hf
      refine lv_aload_n hx hb dX10_toldSymbol_38 rfl (lv_at hl 1 rfl) ?_
      refine z_getr (o := 0) (o2 := 1) (C := RX10) (T := TX10) (N := 8) (ci := 8) (k := 0) hx hb Z hw (by decide) (by omega) rfl inX10 (by decide) rfl wd288 dX10_toldSymbol_39 ?_
      refine z_getr (o := 1) (o2 := 5) (C := RX6) (T := TX6) (N := 4) (ci := 5) (k := 2) hx hb Z hw (by decide) (by omega) rfl inX6 (by decide) rfl wd204 dX10_toldSymbol_42 ?_
      refine lv_iload_n hx hb dX10_toldSymbol_45 rfl (lv_at hl 2 rfl) ?_
      refine lv_iload_n hx hb dX10_toldSymbol_46 rfl (lv_at hl 3 rfl) ?_
      obtain ⟨q47, hq47, hf⟩ := ob_some hf
      refine z_callVi (o := 5) (ci := 7) (As := [.int x1, .int x2]) (rest := []) (t_X8_standsAt G l hN 5 (by decide) (by omega) x1 x2 q8 hq47) cv_X8_standsAt hx hb hml hl.1 Z hw (by decide) (by decide) (by omega) rfl rfl wd363 rfl rfl (Nat.le_of_ble_eq_true rfl) (by decide) dX10_toldSymbol_47 (fun H locs hw => ?_)
      obtain ⟨rfl, rfl⟩ := Prod.mk.inj (Option.some.inj hf)
      exact z_iret hx hb hr hlk hw dX10_toldSymbol_50
    · have hf := (if_pos c26).symm.trans hf
      refine lv_aload_n hx hb dX10_toldSymbol_29 rfl (lv_at hl 1 rfl) ?_
      refine lv_iload_n hx hb dX10_toldSymbol_30 rfl (lv_at hl 2 rfl) ?_
      refine lv_iload_n hx hb dX10_toldSymbol_31 rfl (lv_at hl 3 rfl) ?_
      obtain ⟨q32, hq32, hf⟩ := ob_some hf
      refine z_callVi (o := 0) (ci := 8) (As := [.int x1, .int x2]) (rest := []) (t_X10_filledSymbol G l hN x1 x2 q8 hq32) cv_X10_filledSymbol hx hb hml hl.1 Z hw (by decide) (by decide) (by omega) rfl rfl wd794 rfl rfl (Nat.le_of_ble_eq_true rfl) (by decide) dX10_toldSymbol_32 (fun H locs hw => ?_)
      refine lv_goto (tgt := 50) hx hb dX10_toldSymbol_35 (by decide) ?_
      obtain ⟨rfl, rfl⟩ := Prod.mk.inj (Option.some.inj hf)
      exact z_iret hx hb hr hlk hw dX10_toldSymbol_50
  · have hf := (if_pos c18).symm.trans hf
    refine lv_bipush (v := (-5 : Int32)) hx hb dX10_toldSymbol_21 (by decide) ?_
    obtain ⟨rfl, rfl⟩ := Prod.mk.inj (Option.some.inj hf)
    exact z_iret hx hb hr hlk hw dX10_toldSymbol_23
set_option maxHeartbeats 4000000 in
set_option maxRecDepth 100000 in
theorem t_X10_symbol (G : GM) (l : Launch) (hN : 70 ≤ gN G) (x1 : Int32) (x2 : Int32) (x3 : Int32) (h : HP) {r : Int32} {h' : HP} (hf : f_X10_symbol x1 x2 x3 h = some (r, h')) : MC G l yX10_symbol cX10_symbol 4 (some .int) 5 [.ref (ra G 0), .int x1, .int x2, .int x3] h h' (some (.int r)) := by
  unfold f_X10_symbol at hf
  refine z_start (by decide) (Nat.le_of_ble_eq_true rfl) ?_
  intro p e s m args below meth c ls hx hb hr hlk hml Z hw hl
  have Z : ZK G s args m RX10 := Z
  have hl : lv_has ls 4 [(0, .ref (ra G 0)), (1, .int x1), (2, .int x2), (3, .int x3)] := hl
  obtain ⟨H, hH⟩ : ∃ H, H = s.heap := ⟨_, rfl⟩
  rw [← hH] at hw ⊢
  obtain ⟨locs, hlc⟩ : ∃ locs : List Loc, locs = [] := ⟨_, rfl⟩
  rw [← hlc] at hw ⊢
  refine lv_aload_n hx hb dX10_symbol_0 rfl (lv_at hl 0 rfl) ?_
  refine z_getr (o := 0) (o2 := 1) (C := RX10) (T := TX10) (N := 8) (ci := 8) (k := 0) hx hb Z hw (by decide) (by omega) rfl inX10 (by decide) rfl wd288 dX10_symbol_1 ?_
  refine z_getr (o := 1) (o2 := 2) (C := RX6) (T := TX6) (N := 4) (ci := 5) (k := 0) hx hb Z hw (by decide) (by omega) rfl inX6 (by decide) rfl wd199 dX10_symbol_4 ?_
  refine lv_iload_n hx hb dX10_symbol_7 rfl (lv_at hl 1 rfl) ?_
  refine z_callVi (o := 2) (ci := 4) (As := [.int x1]) (rest := []) (t_X5_hasFrame G l hN 2 (by decide) (by omega) x1 h) cv_X5_hasFrame hx hb hml hl.1 Z hw (by decide) (by decide) (by omega) rfl rfl wd345 rfl rfl (Nat.le_of_ble_eq_true rfl) (by decide) dX10_symbol_8 (fun H locs hw => ?_)
  refine lv_if_ne (tgt := 16) hx hb dX10_symbol_11 (by decide) (fun c11 => ?_) (fun c11 => ?_)
  · have hf := (if_neg c11).symm.trans hf
    refine lv_iload_n hx hb dX10_symbol_16 rfl (lv_at hl 2 rfl) ?_
    refine z_callSi (As := [.int x2]) (rest := []) (t_X10_isPlace G l hN x2 h) cs_X10_isPlace hx hb hml hl.1 Z hw wd357 rfl rfl (Nat.le_of_ble_eq_true rfl) (by decide) dX10_symbol_17 (fun H locs hw => ?_)
    refine lv_if_ne (tgt := 26) hx hb dX10_symbol_20 (by decide) (fun c20 => ?_) (fun c20 => ?_)
    · have hf := (if_neg c20).symm.trans hf
      refine lv_iload_n hx hb dX10_symbol_26 rfl (lv_at hl 3 rfl) ?_
      refine lv_if_eq (tgt := 39) hx hb dX10_symbol_27 (by decide) (fun c27 => ?_) (fun c27 => ?_)
      · have hf := (if_pos c27).symm.trans hf
        refine lv_aload_n hx hb dX10_symbol_39 rfl (lv_at hl 0 rfl) ?_
        refine z_getr (o := 0) (o2 := 1) (C := RX10) (T := TX10) (N := 8) (ci := 8) (k := 0) hx hb Z hw (by decide) (by omega) rfl inX10 (by decide) rfl wd288 dX10_symbol_40 ?_
        refine z_getr (o := 1) (o2 := 5) (C := RX6) (T := TX6) (N := 4) (ci := 5) (k := 2) hx hb Z hw (by decide) (by omega) rfl inX6 (by decide) rfl wd204 dX10_symbol_43 ?_
        refine lv_iload_n hx hb dX10_symbol_46 rfl (lv_at hl 1 rfl) ?_
        refine lv_iload_n hx hb dX10_symbol_47 rfl (lv_at hl 2 rfl) ?_
        obtain ⟨q48, hq48, hf⟩ := ob_some hf
        refine z_callVi (o := 5) (ci := 7) (As := [.int x1, .int x2]) (rest := []) (t_X8_standsAt G l hN 5 (by decide) (by omega) x1 x2 h hq48) cv_X8_standsAt hx hb hml hl.1 Z hw (by decide) (by decide) (by omega) rfl rfl wd363 rfl rfl (Nat.le_of_ble_eq_true rfl) (by decide) dX10_symbol_48 (fun H locs hw => ?_)
        obtain ⟨rfl, rfl⟩ := Prod.mk.inj (Option.some.inj hf)
        exact z_iret hx hb hr hlk hw dX10_symbol_51
      · have hf := (if_neg c27).symm.trans hf
        refine lv_aload_n hx hb dX10_symbol_30 rfl (lv_at hl 0 rfl) ?_
        refine lv_iload_n hx hb dX10_symbol_31 rfl (lv_at hl 1 rfl) ?_
        refine lv_iload_n hx hb dX10_symbol_32 rfl (lv_at hl 2 rfl) ?_
        obtain ⟨q33, hq33, hf⟩ := ob_some hf
        refine z_callVi (o := 0) (ci := 8) (As := [.int x1, .int x2]) (rest := []) (t_X10_toldSymbol G l hN x1 x2 h hq33) cv_X10_toldSymbol hx hb hml hl.1 Z hw (by decide) (by decide) (by omega) rfl rfl wd790 rfl rfl (Nat.le_of_ble_eq_true rfl) (by decide) dX10_symbol_33 (fun H locs hw => ?_)
        refine lv_goto (tgt := 51) hx hb dX10_symbol_36 (by decide) ?_
        obtain ⟨rfl, rfl⟩ := Prod.mk.inj (Option.some.inj hf)
        exact z_iret hx hb hr hlk hw dX10_symbol_51
    · have hf := (if_pos c20).symm.trans hf
      refine lv_bipush (v := (-2 : Int32)) hx hb dX10_symbol_23 (by decide) ?_
      obtain ⟨rfl, rfl⟩ := Prod.mk.inj (Option.some.inj hf)
      exact z_iret hx hb hr hlk hw dX10_symbol_25
  · have hf := (if_pos c11).symm.trans hf
    refine lv_iconst (v := (-1 : Int32)) hx hb dX10_symbol_14 (by decide) ?_
    obtain ⟨rfl, rfl⟩ := Prod.mk.inj (Option.some.inj hf)
    exact z_iret hx hb hr hlk hw dX10_symbol_15
set_option maxHeartbeats 4000000 in
set_option maxRecDepth 100000 in
theorem w_X8_lengthOfAll_L5 (G : GM) (l : Launch) (hN : 70 ≤ gN G) (o0 : Nat) (k_o0 : kd o0 = 7) (n_o0 : o0 < gN G) {p : Program} {e : Env} {s : State} {m : MethodId} {args : Array Value} {below : List Frame} {meth : Method} {c : Code} (hx : p.tables.exec = Jvm.exec) (hb : c.code = cX8_lengthOfAll) (hr : meth.sig.returnType = (some .int)) (hlk : meth.locks = false) (hml : c.maxLocals = 5) (Z : ZK G s args m RX8) : ∀ (n : Nat) (x2 : Int32) (x3 : Int32) (x4 : Int32)  (h : HP)  (rv : Option Value) (hq : HP) (ls : Array Slot) (H : Heap) (locs : List Loc) {q : Int32}, lv_has ls 5 [(0, .ref (ra G o0)), (2, .int x2), (3, .int x3), (4, .int x4)] → HW G h s H locs → f_X8_lengthOfAll_L5 n o0 x2 x3 x4 h = some q → (∀ (ls : Array Slot) (H : Heap) (locs : List Loc), lv_has ls 5 [(3, .int q)] → HW G h s H locs → WZ p l e 4 s m args below meth c G rv hq H locs (F0 m 26 ls [])) → WZ p l e 4 s m args below meth c G rv hq H locs (F0 m 5 ls []) := by
  intro n
  induction n with
  | zero => intro x2 x3 x4  h  rv hq ls H locs q hl hw hf kk; cases hf
  | succ n ih =>
    intro x2 x3 x4  h  rv hq ls H locs q hl hw hf kk
    rw [f_X8_lengthOfAll_L5] at hf
    refine lv_iload hx hb dX8_lengthOfAll_5 (lv_at hl 3 rfl) ?_
    refine lv_iload_n hx hb dX8_lengthOfAll_7 rfl (lv_at hl 1 rfl) ?_
    refine lv_icmp_ge (tgt := 26) hx hb dX8_lengthOfAll_8 (by decide) (fun c8 => ?_) (fun c8 => ?_)
    · have hf := (if_pos c8).symm.trans hf
      obtain rfl := Option.some.inj hf
      exact kk ls H locs (lv_sub hl [2] rfl) hw
    · have hf := (if_neg c8).symm.trans hf
      refine lv_iload_n hx hb dX8_lengthOfAll_11 rfl (lv_at hl 2 rfl) ?_
      refine lv_aload_n hx hb dX8_lengthOfAll_12 rfl (lv_at hl 0 rfl) ?_
      refine lv_iload hx hb dX8_lengthOfAll_13 (lv_at hl 3 rfl) ?_
      obtain ⟨q15, hq15, hf⟩ := ob_some hf
      refine z_callVi (o := o0) (ci := 7) (As := [.int x4]) (rest := [.int x3]) (t_X8_lengthOf G l hN o0 k_o0 n_o0 x4 h hq15) cv_X8_lengthOf hx hb hml hl.1 Z hw k_o0 (by decide) n_o0 rfl rfl wd809 rfl rfl (Nat.le_of_ble_eq_true rfl) (by decide) dX8_lengthOfAll_15 (fun H locs hw => ?_)
      refine lv_iadd hx hb dX8_lengthOfAll_18 ?_
      refine lv_istore_n (lv' := [(3, _), (0, _), (2, _), (4, _)]) hx hb dX8_lengthOfAll_19 rfl hl (by decide) rfl (fun ls hl => ?_)
      refine lv_iinc (v := x4 + (1 : Int32)) (lv' := [(4, _), (3, _), (0, _), (2, _)]) hx hb dX8_lengthOfAll_20 hl (k := 3) rfl rfl (by decide) rfl (fun ls hl => ?_)
      refine lv_goto (tgt := 5) hx hb dX8_lengthOfAll_23 (by decide) ?_
      exact ih x2 (x3 + q15) (x4 + (1 : Int32)) h  rv hq ls H locs (lv_sub hl [2, 3, 1, 0] rfl) hw hf kk
set_option maxHeartbeats 4000000 in
set_option maxRecDepth 100000 in
theorem t_X8_lengthOfAll (G : GM) (l : Launch) (hN : 70 ≤ gN G) (o0 : Nat) (k_o0 : kd o0 = 7) (n_o0 : o0 < gN G) (x1 : Int32) (x2 : Int32) (h : HP) {r : Int32} (hf : f_X8_lengthOfAll o0 x1 x2 h = some r) : MC G l yX8_lengthOfAll cX8_lengthOfAll 5 (some .int) 4 [.ref (ra G o0), .int x1, .int x2] h h (some (.int r)) := by
  unfold f_X8_lengthOfAll at hf
  refine z_start (by decide) (Nat.le_of_ble_eq_true rfl) ?_
  intro p e s m args below meth c ls hx hb hr hlk hml Z hw hl
  have Z : ZK G s args m RX8 := Z
  have hl : lv_has ls 5 [(0, .ref (ra G o0)), (1, .int x1), (2, .int x2)] := hl
  obtain ⟨H, hH⟩ : ∃ H, H = s.heap := ⟨_, rfl⟩
  rw [← hH] at hw ⊢
  obtain ⟨locs, hlc⟩ : ∃ locs : List Loc, locs = [] := ⟨_, rfl⟩
  rw [← hlc] at hw ⊢
  refine lv_iconst (v := (0 : Int32)) hx hb dX8_lengthOfAll_0 (by decide) ?_
  refine lv_istore_n (lv' := [(3, _), (0, _), (1, _), (2, _)]) hx hb dX8_lengthOfAll_1 rfl hl (by decide) rfl (fun ls hl => ?_)
  refine lv_iload_n hx hb dX8_lengthOfAll_2 rfl (lv_at hl 2 rfl) ?_
  refine lv_istore (lv' := [(4, _), (3, _), (0, _), (1, _), (2, _)]) hx hb dX8_lengthOfAll_3 hl (by decide) rfl (fun ls hl => ?_)
  obtain ⟨q5, hq5, hf⟩ := ob_some hf
  refine w_X8_lengthOfAll_L5 G l hN o0 k_o0 n_o0 hx hb hr hlk hml Z FU x2 (0 : Int32) x1 h  _ _ ls H locs (lv_sub hl [2, 4, 1, 0] rfl) hw hq5 (fun ls H locs hl hw => ?_)
  refine lv_iload_n hx hb dX8_lengthOfAll_26 rfl (lv_at hl 0 rfl) ?_
  obtain rfl := Option.some.inj hf
  exact z_iret hx hb hr hlk hw dX8_lengthOfAll_27
set_option maxHeartbeats 4000000 in
set_option maxRecDepth 100000 in
theorem t_X10_turn (G : GM) (l : Launch) (hN : 70 ≤ gN G) (x1 : Int32) (x2 : Int32) (h : HP) {r : Int32} {h' : HP} (hf : f_X10_turn x1 x2 h = some (r, h')) : MC G l yX10_turn cX10_turn 5 (some .int) 5 [.ref (ra G 0), .int x1, .int x2] h h' (some (.int r)) := by
  unfold f_X10_turn at hf
  refine z_start (by decide) (Nat.le_of_ble_eq_true rfl) ?_
  intro p e s m args below meth c ls hx hb hr hlk hml Z hw hl
  have Z : ZK G s args m RX10 := Z
  have hl : lv_has ls 5 [(0, .ref (ra G 0)), (1, .int x1), (2, .int x2)] := hl
  obtain ⟨H, hH⟩ : ∃ H, H = s.heap := ⟨_, rfl⟩
  rw [← hH] at hw ⊢
  obtain ⟨locs, hlc⟩ : ∃ locs : List Loc, locs = [] := ⟨_, rfl⟩
  rw [← hlc] at hw ⊢
  refine lv_iload_n hx hb dX10_turn_0 rfl (lv_at hl 1 rfl) ?_
  refine lv_if_lt (tgt := 10) hx hb dX10_turn_1 (by decide) (fun c1 => ?_) (fun c1 => ?_)
  · have hf := (if_pos c1).symm.trans hf
    refine lv_iconst (v := (-1 : Int32)) hx hb dX10_turn_10 (by decide) ?_
    obtain ⟨rfl, rfl⟩ := Prod.mk.inj (Option.some.inj hf)
    exact z_iret hx hb hr hlk hw dX10_turn_11
  · have hf := (if_neg c1).symm.trans hf
    refine lv_iload_n hx hb dX10_turn_4 rfl (lv_at hl 1 rfl) ?_
    refine lv_bipush (v := (30 : Int32)) hx hb dX10_turn_5 (by decide) ?_
    refine lv_icmp_lt (tgt := 12) hx hb dX10_turn_7 (by decide) (fun c7 => ?_) (fun c7 => ?_)
    · have hf := (if_pos c7).symm.trans hf
      refine lv_aload_n hx hb dX10_turn_12 rfl (lv_at hl 0 rfl) ?_
      refine z_getr (o := 0) (o2 := 1) (C := RX10) (T := TX10) (N := 8) (ci := 8) (k := 0) hx hb Z hw (by decide) (by omega) rfl inX10 (by decide) rfl wd288 dX10_turn_13 ?_
      refine z_getr (o := 1) (o2 := 2) (C := RX6) (T := TX6) (N := 4) (ci := 5) (k := 0) hx hb Z hw (by decide) (by omega) rfl inX6 (by decide) rfl wd199 dX10_turn_16 ?_
      refine lv_iload_n hx hb dX10_turn_19 rfl (lv_at hl 1 rfl) ?_
      refine z_callVi (o := 2) (ci := 4) (As := [.int x1]) (rest := []) (t_X5_firstOf G l hN 2 (by decide) (by omega) x1 h) cv_X5_firstOf hx hb hml hl.1 Z hw (by decide) (by decide) (by omega) rfl rfl wd752 rfl rfl (Nat.le_of_ble_eq_true rfl) (by decide) dX10_turn_20 (fun H locs hw => ?_)
      refine lv_istore_n (lv' := [(3, _), (0, _), (1, _), (2, _)]) hx hb dX10_turn_23 rfl hl (by decide) rfl (fun ls hl => ?_)
      refine lv_aload_n hx hb dX10_turn_24 rfl (lv_at hl 1 rfl) ?_
      refine z_getr (o := 0) (o2 := 1) (C := RX10) (T := TX10) (N := 8) (ci := 8) (k := 0) hx hb Z hw (by decide) (by omega) rfl inX10 (by decide) rfl wd288 dX10_turn_25 ?_
      refine z_getr (o := 1) (o2 := 2) (C := RX6) (T := TX6) (N := 4) (ci := 5) (k := 0) hx hb Z hw (by decide) (by omega) rfl inX6 (by decide) rfl wd199 dX10_turn_28 ?_
      refine lv_iload_n hx hb dX10_turn_31 rfl (lv_at hl 2 rfl) ?_
      refine z_callVi (o := 2) (ci := 4) (As := [.int x1]) (rest := []) (t_X5_framesOf G l hN 2 (by decide) (by omega) x1 h) cv_X5_framesOf hx hb hml hl.1 Z hw (by decide) (by decide) (by omega) rfl rfl wd804 rfl rfl (Nat.le_of_ble_eq_true rfl) (by decide) dX10_turn_32 (fun H locs hw => ?_)
      refine lv_istore (lv' := [(4, _), (3, _), (0, _), (1, _), (2, _)]) hx hb dX10_turn_35 hl (by decide) rfl (fun ls hl => ?_)
      refine lv_iload_n hx hb dX10_turn_37 rfl (lv_at hl 4 rfl) ?_
      by_cases c38_0 : x2 = 0
      · have hf := (if_pos c38_0).symm.trans hf
        refine z_sw c38_0 ?_
        refine lv_tableIn (tgt := 68) hx hb dX10_turn_38 (by decide) (by decide) rfl (by decide) ?_
        refine lv_iload hx hb dX10_turn_68 (lv_at hl 0 rfl) ?_
        obtain ⟨rfl, rfl⟩ := Prod.mk.inj (Option.some.inj hf)
        exact z_iret hx hb hr hlk hw dX10_turn_70
      have hf := (if_neg c38_0).symm.trans hf
      by_cases c38_1 : x2 = 1
      · have hf := (if_pos c38_1).symm.trans hf
        refine z_sw c38_1 ?_
        refine lv_tableIn (tgt := 71) hx hb dX10_turn_38 (by decide) (by decide) rfl (by decide) ?_
        refine lv_iload_n hx hb dX10_turn_71 rfl (lv_at hl 1 rfl) ?_
        obtain ⟨rfl, rfl⟩ := Prod.mk.inj (Option.some.inj hf)
        exact z_iret hx hb hr hlk hw dX10_turn_72
      have hf := (if_neg c38_1).symm.trans hf
      by_cases c38_2 : x2 = 2
      · have hf := (if_pos c38_2).symm.trans hf
        refine z_sw c38_2 ?_
        refine lv_tableIn (tgt := 73) hx hb dX10_turn_38 (by decide) (by decide) rfl (by decide) ?_
        refine lv_aload_n hx hb dX10_turn_73 rfl (lv_at hl 2 rfl) ?_
        refine z_getr (o := 0) (o2 := 63) (C := RX10) (T := TX10) (N := 8) (ci := 8) (k := 6) hx hb Z hw (by decide) (by omega) rfl inX10 (by decide) rfl wd294 dX10_turn_74 ?_
        refine lv_aload_n hx hb dX10_turn_77 rfl (lv_at hl 2 rfl) ?_
        refine z_getr (o := 0) (o2 := 1) (C := RX10) (T := TX10) (N := 8) (ci := 8) (k := 0) hx hb Z hw (by decide) (by omega) rfl inX10 (by decide) rfl wd288 dX10_turn_78 ?_
        obtain ⟨q81, hq81, hf⟩ := ob_some hf
        refine z_callVi (o := 63) (ci := 6) (As := [.ref (ra G 1)]) (rest := []) (t_X7_of G l hN 1 (by decide) (by omega) h hq81) cv_X7_of hx hb hml hl.1 Z hw (by decide) (by decide) (by omega) rfl rfl wd423 rfl rfl (Nat.le_of_ble_eq_true rfl) (by decide) dX10_turn_81 (fun H locs hw => ?_)
        refine lv_iload_n hx hb dX10_turn_84 rfl (lv_at hl 1 rfl) ?_
        refine lv_iload_n hx hb dX10_turn_85 rfl (lv_at hl 1 rfl) ?_
        refine lv_iload hx hb dX10_turn_86 (lv_at hl 0 rfl) ?_
        refine lv_iadd hx hb dX10_turn_88 ?_
        refine lv_iconst (v := (-1 : Int32)) hx hb dX10_turn_89 (by decide) ?_
        obtain ⟨q90, hq90, hf⟩ := ob_some hf
        refine z_callVi (o := 63) (ci := 6) (As := [.int (f_X5_firstOf 2 x1 h), .int ((f_X5_firstOf 2 x1 h) + (f_X5_framesOf 2 x1 h)), .int (-1 : Int32)]) (rest := []) (t_X7_damagedIn G l hN (f_X5_firstOf 2 x1 h) ((f_X5_firstOf 2 x1 h) + (f_X5_framesOf 2 x1 h)) (-1 : Int32) q81 hq90) cv_X7_damagedIn hx hb hml hl.1 Z hw (by decide) (by decide) (by omega) rfl rfl wd502 rfl rfl (Nat.le_of_ble_eq_true rfl) (by decide) dX10_turn_90 (fun H locs hw => ?_)
        obtain ⟨rfl, rfl⟩ := Prod.mk.inj (Option.some.inj hf)
        exact z_iret hx hb hr hlk hw dX10_turn_93
      have hf := (if_neg c38_2).symm.trans hf
      by_cases c38_3 : x2 = 3
      · have hf := (if_pos c38_3).symm.trans hf
        refine z_sw c38_3 ?_
        refine lv_tableIn (tgt := 94) hx hb dX10_turn_38 (by decide) (by decide) rfl (by decide) ?_
        refine lv_aload_n hx hb dX10_turn_94 rfl (lv_at hl 2 rfl) ?_
        refine z_getr (o := 0) (o2 := 1) (C := RX10) (T := TX10) (N := 8) (ci := 8) (k := 0) hx hb Z hw (by decide) (by omega) rfl inX10 (by decide) rfl wd288 dX10_turn_95 ?_
        refine z_getr (o := 1) (o2 := 5) (C := RX6) (T := TX6) (N := 4) (ci := 5) (k := 2) hx hb Z hw (by decide) (by omega) rfl inX6 (by decide) rfl wd204 dX10_turn_98 ?_
        refine lv_iload_n hx hb dX10_turn_101 rfl (lv_at hl 1 rfl) ?_
        refine lv_iload_n hx hb dX10_turn_102 rfl (lv_at hl 1 rfl) ?_
        refine lv_iload hx hb dX10_turn_103 (lv_at hl 0 rfl) ?_
        refine lv_iadd hx hb dX10_turn_105 ?_
        obtain ⟨q106, hq106, hf⟩ := ob_some hf
        refine z_callVi (o := 5) (ci := 7) (As := [.int (f_X5_firstOf 2 x1 h), .int ((f_X5_firstOf 2 x1 h) + (f_X5_framesOf 2 x1 h))]) (rest := []) (t_X8_lengthOfAll G l hN 5 (by decide) (by omega) (f_X5_firstOf 2 x1 h) ((f_X5_firstOf 2 x1 h) + (f_X5_framesOf 2 x1 h)) h hq106) cv_X8_lengthOfAll hx hb hml hl.1 Z hw (by decide) (by decide) (by omega) rfl rfl wd805 rfl rfl (Nat.le_of_ble_eq_true rfl) (by decide) dX10_turn_106 (fun H locs hw => ?_)
        obtain ⟨rfl, rfl⟩ := Prod.mk.inj (Option.some.inj hf)
        exact z_iret hx hb hr hlk hw dX10_turn_109
      have hf := (if_neg c38_3).symm.trans hf
      refine lv_tableOut (tgt := 110) hx hb dX10_turn_38 (by have := [0]; have e0 := sw_ne (k := 0) (by decide) c38_0; have e1 := sw_ne (k := 1) (by decide) c38_1; have e2 := sw_ne (k := 2) (by decide) c38_2; have e3 := sw_ne (k := 3) (by decide) c38_3; omega) (by decide) ?_
      refine lv_bipush (v := (-2 : Int32)) hx hb dX10_turn_110 (by decide) ?_
      obtain ⟨rfl, rfl⟩ := Prod.mk.inj (Option.some.inj hf)
      exact z_iret hx hb hr hlk hw dX10_turn_112
    · have hf := (if_neg c7).symm.trans hf
      refine lv_iconst (v := (-1 : Int32)) hx hb dX10_turn_10 (by decide) ?_
      obtain ⟨rfl, rfl⟩ := Prod.mk.inj (Option.some.inj hf)
      exact z_iret hx hb hr hlk hw dX10_turn_11
set_option maxHeartbeats 4000000 in
set_option maxRecDepth 100000 in
theorem t_X10_scratchOf (G : GM) (l : Launch) (hN : 70 ≤ gN G) (x1 : Int32) (x2 : Int32) (h : HP) {r : Int32} {h' : HP} (hf : f_X10_scratchOf x1 x2 h = some (r, h')) : MC G l yX10_scratchOf cX10_scratchOf 3 (some .int) 4 [.ref (ra G 0), .int x1, .int x2] h h' (some (.int r)) := by
  unfold f_X10_scratchOf at hf
  refine z_start (by decide) (Nat.le_of_ble_eq_true rfl) ?_
  intro p e s m args below meth c ls hx hb hr hlk hml Z hw hl
  have Z : ZK G s args m RX10 := Z
  have hl : lv_has ls 3 [(0, .ref (ra G 0)), (1, .int x1), (2, .int x2)] := hl
  obtain ⟨H, hH⟩ : ∃ H, H = s.heap := ⟨_, rfl⟩
  rw [← hH] at hw ⊢
  obtain ⟨locs, hlc⟩ : ∃ locs : List Loc, locs = [] := ⟨_, rfl⟩
  rw [← hlc] at hw ⊢
  refine lv_aload_n hx hb dX10_scratchOf_0 rfl (lv_at hl 0 rfl) ?_
  refine z_getr (o := 0) (o2 := 1) (C := RX10) (T := TX10) (N := 8) (ci := 8) (k := 0) hx hb Z hw (by decide) (by omega) rfl inX10 (by decide) rfl wd288 dX10_scratchOf_1 ?_
  refine z_getr (o := 1) (o2 := 3) (C := RX6) (T := TX6) (N := 4) (ci := 5) (k := 1) hx hb Z hw (by decide) (by omega) rfl inX6 (by decide) rfl wd202 dX10_scratchOf_4 ?_
  refine lv_iload_n hx hb dX10_scratchOf_7 rfl (lv_at hl 1 rfl) ?_
  refine z_callVi (o := 3) (ci := 3) (As := [.int x1]) (rest := []) (t_X4_has G l hN 3 (by decide) (by omega) x1 h) cv_X4_has hx hb hml hl.1 Z hw (by decide) (by decide) (by omega) rfl rfl wd511 rfl rfl (Nat.le_of_ble_eq_true rfl) (by decide) dX10_scratchOf_8 (fun H locs hw => ?_)
  refine lv_if_ne (tgt := 16) hx hb dX10_scratchOf_11 (by decide) (fun c11 => ?_) (fun c11 => ?_)
  · have hf := (if_neg c11).symm.trans hf
    refine lv_iload_n hx hb dX10_scratchOf_16 rfl (lv_at hl 2 rfl) ?_
    by_cases c17_0 : x2 = 0
    · have hf := (if_pos c17_0).symm.trans hf
      refine z_sw c17_0 ?_
      refine lv_tableIn (tgt := 52) hx hb dX10_scratchOf_17 (by decide) (by decide) rfl (by decide) ?_
      refine lv_aload_n hx hb dX10_scratchOf_52 rfl (lv_at hl 0 rfl) ?_
      refine z_getr (o := 0) (o2 := 1) (C := RX10) (T := TX10) (N := 8) (ci := 8) (k := 0) hx hb Z hw (by decide) (by omega) rfl inX10 (by decide) rfl wd288 dX10_scratchOf_53 ?_
      refine z_getr (o := 1) (o2 := 3) (C := RX6) (T := TX6) (N := 4) (ci := 5) (k := 1) hx hb Z hw (by decide) (by omega) rfl inX6 (by decide) rfl wd202 dX10_scratchOf_56 ?_
      refine lv_iload_n hx hb dX10_scratchOf_59 rfl (lv_at hl 1 rfl) ?_
      refine z_callVi (o := 3) (ci := 3) (As := [.int x1]) (rest := []) (t_X4_fromOf G l hN 3 (by decide) (by omega) x1 h) cv_X4_fromOf hx hb hml hl.1 Z hw (by decide) (by decide) (by omega) rfl rfl wd814 rfl rfl (Nat.le_of_ble_eq_true rfl) (by decide) dX10_scratchOf_60 (fun H locs hw => ?_)
      obtain ⟨rfl, rfl⟩ := Prod.mk.inj (Option.some.inj hf)
      exact z_iret hx hb hr hlk hw dX10_scratchOf_63
    have hf := (if_neg c17_0).symm.trans hf
    by_cases c17_1 : x2 = 1
    · have hf := (if_pos c17_1).symm.trans hf
      refine z_sw c17_1 ?_
      refine lv_tableIn (tgt := 64) hx hb dX10_scratchOf_17 (by decide) (by decide) rfl (by decide) ?_
      refine lv_aload_n hx hb dX10_scratchOf_64 rfl (lv_at hl 0 rfl) ?_
      refine z_getr (o := 0) (o2 := 1) (C := RX10) (T := TX10) (N := 8) (ci := 8) (k := 0) hx hb Z hw (by decide) (by omega) rfl inX10 (by decide) rfl wd288 dX10_scratchOf_65 ?_
      refine z_getr (o := 1) (o2 := 3) (C := RX6) (T := TX6) (N := 4) (ci := 5) (k := 1) hx hb Z hw (by decide) (by omega) rfl inX6 (by decide) rfl wd202 dX10_scratchOf_68 ?_
      refine lv_iload_n hx hb dX10_scratchOf_71 rfl (lv_at hl 1 rfl) ?_
      refine z_callVi (o := 3) (ci := 3) (As := [.int x1]) (rest := []) (t_X4_toOf G l hN 3 (by decide) (by omega) x1 h) cv_X4_toOf hx hb hml hl.1 Z hw (by decide) (by decide) (by omega) rfl rfl wd815 rfl rfl (Nat.le_of_ble_eq_true rfl) (by decide) dX10_scratchOf_72 (fun H locs hw => ?_)
      obtain ⟨rfl, rfl⟩ := Prod.mk.inj (Option.some.inj hf)
      exact z_iret hx hb hr hlk hw dX10_scratchOf_75
    have hf := (if_neg c17_1).symm.trans hf
    by_cases c17_2 : x2 = 2
    · have hf := (if_pos c17_2).symm.trans hf
      refine z_sw c17_2 ?_
      refine lv_tableIn (tgt := 76) hx hb dX10_scratchOf_17 (by decide) (by decide) rfl (by decide) ?_
      refine lv_aload_n hx hb dX10_scratchOf_76 rfl (lv_at hl 0 rfl) ?_
      refine z_getr (o := 0) (o2 := 1) (C := RX10) (T := TX10) (N := 8) (ci := 8) (k := 0) hx hb Z hw (by decide) (by omega) rfl inX10 (by decide) rfl wd288 dX10_scratchOf_77 ?_
      refine z_getr (o := 1) (o2 := 3) (C := RX6) (T := TX6) (N := 4) (ci := 5) (k := 1) hx hb Z hw (by decide) (by omega) rfl inX6 (by decide) rfl wd202 dX10_scratchOf_80 ?_
      refine lv_iload_n hx hb dX10_scratchOf_83 rfl (lv_at hl 1 rfl) ?_
      refine z_callVi (o := 3) (ci := 3) (As := [.int x1]) (rest := []) (t_X4_innerOf G l hN 3 (by decide) (by omega) x1 h) cv_X4_innerOf hx hb hml hl.1 Z hw (by decide) (by decide) (by omega) rfl rfl wd816 rfl rfl (Nat.le_of_ble_eq_true rfl) (by decide) dX10_scratchOf_84 (fun H locs hw => ?_)
      obtain ⟨rfl, rfl⟩ := Prod.mk.inj (Option.some.inj hf)
      exact z_iret hx hb hr hlk hw dX10_scratchOf_87
    have hf := (if_neg c17_2).symm.trans hf
    by_cases c17_3 : x2 = 3
    · have hf := (if_pos c17_3).symm.trans hf
      refine z_sw c17_3 ?_
      refine lv_tableIn (tgt := 88) hx hb dX10_scratchOf_17 (by decide) (by decide) rfl (by decide) ?_
      refine lv_aload_n hx hb dX10_scratchOf_88 rfl (lv_at hl 0 rfl) ?_
      refine z_getr (o := 0) (o2 := 1) (C := RX10) (T := TX10) (N := 8) (ci := 8) (k := 0) hx hb Z hw (by decide) (by omega) rfl inX10 (by decide) rfl wd288 dX10_scratchOf_89 ?_
      refine z_getr (o := 1) (o2 := 3) (C := RX6) (T := TX6) (N := 4) (ci := 5) (k := 1) hx hb Z hw (by decide) (by omega) rfl inX6 (by decide) rfl wd202 dX10_scratchOf_92 ?_
      refine lv_iload_n hx hb dX10_scratchOf_95 rfl (lv_at hl 1 rfl) ?_
      refine z_callVi (o := 3) (ci := 3) (As := [.int x1]) (rest := []) (t_X4_outerOf G l hN 3 (by decide) (by omega) x1 h) cv_X4_outerOf hx hb hml hl.1 Z hw (by decide) (by decide) (by omega) rfl rfl wd817 rfl rfl (Nat.le_of_ble_eq_true rfl) (by decide) dX10_scratchOf_96 (fun H locs hw => ?_)
      obtain ⟨rfl, rfl⟩ := Prod.mk.inj (Option.some.inj hf)
      exact z_iret hx hb hr hlk hw dX10_scratchOf_99
    have hf := (if_neg c17_3).symm.trans hf
    by_cases c17_4 : x2 = 4
    · have hf := (if_pos c17_4).symm.trans hf
      refine z_sw c17_4 ?_
      refine lv_tableIn (tgt := 100) hx hb dX10_scratchOf_17 (by decide) (by decide) rfl (by decide) ?_
      refine lv_aload_n hx hb dX10_scratchOf_100 rfl (lv_at hl 0 rfl) ?_
      refine z_getr (o := 0) (o2 := 63) (C := RX10) (T := TX10) (N := 8) (ci := 8) (k := 6) hx hb Z hw (by decide) (by omega) rfl inX10 (by decide) rfl wd294 dX10_scratchOf_101 ?_
      refine lv_aload_n hx hb dX10_scratchOf_104 rfl (lv_at hl 0 rfl) ?_
      refine z_getr (o := 0) (o2 := 1) (C := RX10) (T := TX10) (N := 8) (ci := 8) (k := 0) hx hb Z hw (by decide) (by omega) rfl inX10 (by decide) rfl wd288 dX10_scratchOf_105 ?_
      obtain ⟨q108, hq108, hf⟩ := ob_some hf
      refine z_callVi (o := 63) (ci := 6) (As := [.ref (ra G 1)]) (rest := []) (t_X7_of G l hN 1 (by decide) (by omega) h hq108) cv_X7_of hx hb hml hl.1 Z hw (by decide) (by decide) (by omega) rfl rfl wd423 rfl rfl (Nat.le_of_ble_eq_true rfl) (by decide) dX10_scratchOf_108 (fun H locs hw => ?_)
      refine lv_iconst (v := (0 : Int32)) hx hb dX10_scratchOf_111 (by decide) ?_
      refine lv_sipush (v := (3810 : Int32)) hx hb dX10_scratchOf_112 (by decide) ?_
      refine lv_iconst (v := (1 : Int32)) hx hb dX10_scratchOf_115 (by decide) ?_
      refine lv_iload_n hx hb dX10_scratchOf_116 rfl (lv_at hl 1 rfl) ?_
      refine lv_ishl hx hb dX10_scratchOf_117 ?_
      obtain ⟨q118, hq118, hf⟩ := ob_some hf
      refine z_callVi (o := 63) (ci := 6) (As := [.int (0 : Int32), .int (3810 : Int32), .int ((1 : Int32) <<< (x1 &&& 31))]) (rest := []) (t_X7_damagedIn G l hN (0 : Int32) (3810 : Int32) ((1 : Int32) <<< (x1 &&& 31)) q108 hq118) cv_X7_damagedIn hx hb hml hl.1 Z hw (by decide) (by decide) (by omega) rfl rfl wd502 rfl rfl (Nat.le_of_ble_eq_true rfl) (by decide) dX10_scratchOf_118 (fun H locs hw => ?_)
      obtain ⟨rfl, rfl⟩ := Prod.mk.inj (Option.some.inj hf)
      exact z_iret hx hb hr hlk hw dX10_scratchOf_121
    have hf := (if_neg c17_4).symm.trans hf
    refine lv_tableOut (tgt := 122) hx hb dX10_scratchOf_17 (by have := [0]; have e0 := sw_ne (k := 0) (by decide) c17_0; have e1 := sw_ne (k := 1) (by decide) c17_1; have e2 := sw_ne (k := 2) (by decide) c17_2; have e3 := sw_ne (k := 3) (by decide) c17_3; have e4 := sw_ne (k := 4) (by decide) c17_4; omega) (by decide) ?_
    refine lv_bipush (v := (-2 : Int32)) hx hb dX10_scratchOf_122 (by decide) ?_
    obtain ⟨rfl, rfl⟩ := Prod.mk.inj (Option.some.inj hf)
    exact z_iret hx hb hr hlk hw dX10_scratchOf_124
  · have hf := (if_pos c11).symm.trans hf
    refine lv_iconst (v := (-1 : Int32)) hx hb dX10_scratchOf_14 (by decide) ?_
    obtain ⟨rfl, rfl⟩ := Prod.mk.inj (Option.some.inj hf)
    exact z_iret hx hb hr hlk hw dX10_scratchOf_15
set_option maxHeartbeats 4000000 in
set_option maxRecDepth 100000 in
theorem t_X5_isSetting (G : GM) (l : Launch) (hN : 70 ≤ gN G) (x0 : Int32) (h : HP) : MC G l yX5_isSetting cX5_isSetting 1 (some .boolean) 0 [.int x0] h h (some (.int (f_X5_isSetting x0 h))) := by
  generalize hf : f_X5_isSetting x0 h = r
  unfold f_X5_isSetting at hf
  refine z_start (by decide) (Nat.le_of_ble_eq_true rfl) ?_
  intro p e s m args below meth c ls hx hb hr hlk hml Z hw hl
  have Z : ZK G s args m RX5 := Z
  have hl : lv_has ls 1 [(0, .int x0)] := hl
  obtain ⟨H, hH⟩ : ∃ H, H = s.heap := ⟨_, rfl⟩
  rw [← hH] at hw ⊢
  obtain ⟨locs, hlc⟩ : ∃ locs : List Loc, locs = [] := ⟨_, rfl⟩
  rw [← hlc] at hw ⊢
  refine lv_iload_n hx hb dX5_isSetting_0 rfl (lv_at hl 0 rfl) ?_
  refine lv_if_lt (tgt := 13) hx hb dX5_isSetting_1 (by decide) (fun c1 => ?_) (fun c1 => ?_)
  · have hf := (if_pos c1).symm.trans hf
    refine lv_iconst (v := (0 : Int32)) hx hb dX5_isSetting_13 (by decide) ?_
    obtain rfl := hf
    exact z_zret hx hb hr rfl hlk hw dX5_isSetting_14
  · have hf := (if_neg c1).symm.trans hf
    refine lv_iload_n hx hb dX5_isSetting_4 rfl (lv_at hl 0 rfl) ?_
    refine lv_iconst (v := (5 : Int32)) hx hb dX5_isSetting_5 (by decide) ?_
    refine lv_icmp_gt (tgt := 13) hx hb dX5_isSetting_6 (by decide) (fun c6 => ?_) (fun c6 => ?_)
    · have hf := (if_pos c6).symm.trans hf
      refine lv_iconst (v := (0 : Int32)) hx hb dX5_isSetting_13 (by decide) ?_
      obtain rfl := hf
      exact z_zret hx hb hr rfl hlk hw dX5_isSetting_14
    · have hf := (if_neg c6).symm.trans hf
      refine lv_iconst (v := (1 : Int32)) hx hb dX5_isSetting_9 (by decide) ?_
      refine lv_goto (tgt := 14) hx hb dX5_isSetting_10 (by decide) ?_
      obtain rfl := hf
      exact z_zret hx hb hr rfl hlk hw dX5_isSetting_14
set_option maxHeartbeats 4000000 in
set_option maxRecDepth 100000 in
theorem t_X10_countSetting (G : GM) (l : Launch) (hN : 70 ≤ gN G) (x1 : Int32) (h : HP) : MC G l yX10_countSetting cX10_countSetting 2 (some .int) 1 [.ref (ra G 0), .int x1] h h (some (.int (f_X10_countSetting x1 h))) := by
  generalize hf : f_X10_countSetting x1 h = r
  unfold f_X10_countSetting at hf
  refine z_start (by decide) (Nat.le_of_ble_eq_true rfl) ?_
  intro p e s m args below meth c ls hx hb hr hlk hml Z hw hl
  have Z : ZK G s args m RX10 := Z
  have hl : lv_has ls 2 [(0, .ref (ra G 0)), (1, .int x1)] := hl
  obtain ⟨H, hH⟩ : ∃ H, H = s.heap := ⟨_, rfl⟩
  rw [← hH] at hw ⊢
  obtain ⟨locs, hlc⟩ : ∃ locs : List Loc, locs = [] := ⟨_, rfl⟩
  rw [← hlc] at hw ⊢
  refine lv_iload_n hx hb dX10_countSetting_0 rfl (lv_at hl 1 rfl) ?_
  refine z_callSi (As := [.int x1]) (rest := []) (t_X5_isSetting G l hN x1 h) cs_X5_isSetting hx hb hml hl.1 Z hw wd831 rfl rfl (Nat.le_of_ble_eq_true rfl) (by decide) dX10_countSetting_1 (fun H locs hw => ?_)
  refine lv_if_eq (tgt := 21) hx hb dX10_countSetting_4 (by decide) (fun c4 => ?_) (fun c4 => ?_)
  · have hf := (if_pos c4).symm.trans hf
    refine lv_bipush (v := (-2 : Int32)) hx hb dX10_countSetting_21 (by decide) ?_
    obtain rfl := hf
    exact z_iret hx hb hr hlk hw dX10_countSetting_23
  · have hf := (if_neg c4).symm.trans hf
    refine lv_aload_n hx hb dX10_countSetting_7 rfl (lv_at hl 0 rfl) ?_
    refine z_getr (o := 0) (o2 := 1) (C := RX10) (T := TX10) (N := 8) (ci := 8) (k := 0) hx hb Z hw (by decide) (by omega) rfl inX10 (by decide) rfl wd288 dX10_countSetting_8 ?_
    refine z_getr (o := 1) (o2 := 2) (C := RX6) (T := TX6) (N := 4) (ci := 5) (k := 0) hx hb Z hw (by decide) (by omega) rfl inX6 (by decide) rfl wd199 dX10_countSetting_11 ?_
    refine lv_iload_n hx hb dX10_countSetting_14 rfl (lv_at hl 1 rfl) ?_
    refine z_callVi (o := 2) (ci := 4) (As := [.int x1]) (rest := []) (t_X5_settingAt G l hN 2 (by decide) (by omega) x1 h) cv_X5_settingAt hx hb hml hl.1 Z hw (by decide) (by decide) (by omega) rfl rfl wd527 rfl rfl (Nat.le_of_ble_eq_true rfl) (by decide) dX10_countSetting_15 (fun H locs hw => ?_)
    refine lv_goto (tgt := 23) hx hb dX10_countSetting_18 (by decide) ?_
    obtain rfl := hf
    exact z_iret hx hb hr hlk hw dX10_countSetting_23
set_option maxHeartbeats 4000000 in
set_option maxRecDepth 100000 in
theorem w_X7_framesThatAre_L13 (G : GM) (l : Launch) (hN : 70 ≤ gN G)  {p : Program} {e : Env} {s : State} {m : MethodId} {args : Array Value} {below : List Frame} {meth : Method} {c : Code} (hx : p.tables.exec = Jvm.exec) (hb : c.code = cX7_framesThatAre) (hr : meth.sig.returnType = (some .int)) (hlk : meth.locks = false) (hml : c.maxLocals = 5) (Z : ZK G s args m RX7) : ∀ (n : Nat) (x1 : Int32) (x2 : Int32) (x3 : Int32) (x4 : Int32)  (h : HP)  (rv : Option Value) (hq : HP) (ls : Array Slot) (H : Heap) (locs : List Loc) {q : Int32}, lv_has ls 5 [(0, .ref (ra G 63)), (1, .int x1), (2, .int x2), (3, .int x3), (4, .int x4)] → HW G h s H locs → f_X7_framesThatAre_L13 n x1 x2 x3 x4 h = some q → (∀ (ls : Array Slot) (H : Heap) (locs : List Loc), lv_has ls 5 [(2, .int q)] → HW G h s H locs → WZ p l e 2 s m args below meth c G rv hq H locs (F0 m 49 ls [])) → WZ p l e 2 s m args below meth c G rv hq H locs (F0 m 13 ls []) := by
  intro n
  induction n with
  | zero => intro x1 x2 x3 x4  h  rv hq ls H locs q hl hw hf kk; cases hf
  | succ n ih =>
    intro x1 x2 x3 x4  h  rv hq ls H locs q hl hw hf kk
    rw [f_X7_framesThatAre_L13] at hf
    refine lv_iload hx hb dX7_framesThatAre_13 (lv_at hl 4 rfl) ?_
    refine lv_iload_n hx hb dX7_framesThatAre_15 rfl (lv_at hl 3 rfl) ?_
    refine lv_icmp_ge (tgt := 49) hx hb dX7_framesThatAre_16 (by decide) (fun c16 => ?_) (fun c16 => ?_)
    · have hf := (if_pos c16).symm.trans hf
      obtain rfl := Option.some.inj hf
      exact kk ls H locs (lv_sub hl [2] rfl) hw
    · have hf := (if_neg c16).symm.trans hf
      refine lv_iload hx hb dX7_framesThatAre_19 (lv_at hl 4 rfl) ?_
      refine lv_aload_n hx hb dX7_framesThatAre_21 rfl (lv_at hl 0 rfl) ?_
      refine z_getr (o := 63) (o2 := 68) (C := RX7) (T := TX7) (N := 4) (ci := 6) (k := 3) hx hb Z hw (by decide) (by omega) rfl inX7 (by decide) rfl wd276 dX7_framesThatAre_22 ?_
      refine z_alen (o := 68) (v := (3810 : Int32)) hx hb Z hw (by decide) (by omega) (by decide) dX7_framesThatAre_25 ?_
      refine lv_icmp_ge (tgt := 49) hx hb dX7_framesThatAre_26 (by decide) (fun c26 => ?_) (fun c26 => ?_)
      · have hf := (if_pos c26).symm.trans hf
        obtain rfl := Option.some.inj hf
        exact kk ls H locs (lv_sub hl [2] rfl) hw
      · have hf := (if_neg c26).symm.trans hf
        refine lv_aload_n hx hb dX7_framesThatAre_29 rfl (lv_at hl 0 rfl) ?_
        refine z_getr (o := 63) (o2 := 68) (C := RX7) (T := TX7) (N := 4) (ci := 6) (k := 3) hx hb Z hw (by decide) (by omega) rfl inX7 (by decide) rfl wd276 dX7_framesThatAre_30 ?_
        refine lv_iload hx hb dX7_framesThatAre_33 (lv_at hl 4 rfl) ?_
        obtain ⟨h35, hf⟩ := gd_some hf
        refine y_iald (o := 68) (k := x4.toNatClampNeg) hx hb Z hw (by decide) (by omega) rfl (inB_vp h35) dX7_framesThatAre_35 ?_
        refine lv_iload_n hx hb dX7_framesThatAre_36 rfl (lv_at hl 1 rfl) ?_
        have HJ43 : ∀ (ls : Array Slot) (H : Heap) (locs : List Loc), lv_has ls 5 [(0, .ref (ra G 63)), (1, .int x1), (2, .int (if (h 68 x4.toNatClampNeg) = x1 then (x2 + (1 : Int32)) else x2)), (3, .int x3), (4, .int x4)] → HW G h s H locs → WZ p l e 2 s m args below meth c G rv hq H locs (F0 m 43 ls []) := by
          intro ls H locs hl hw
          refine lv_iinc (v := x4 + (1 : Int32)) (lv' := [(4, _), (0, _), (1, _), (2, _), (3, _)]) hx hb dX7_framesThatAre_43 hl (k := 4) rfl rfl (by decide) rfl (fun ls hl => ?_)
          refine lv_goto (tgt := 13) hx hb dX7_framesThatAre_46 (by decide) ?_
          exact ih x1 (if (h 68 x4.toNatClampNeg) = x1 then (x2 + (1 : Int32)) else x2) x3 (x4 + (1 : Int32)) h  rv hq ls H locs (lv_sub hl [1, 2, 3, 4, 0] rfl) hw hf kk
        refine lv_icmp_ne (tgt := 43) hx hb dX7_framesThatAre_37 (by decide) (fun c37 => ?_) (fun c37 => ?_)
        · skip
          exact HJ43 ls H locs (by simp only [if_neg c37]; exact lv_sub hl [0, 1, 2, 3, 4] rfl) hw
        · skip
          refine lv_iinc (v := x2 + (1 : Int32)) (lv' := [(2, _), (0, _), (1, _), (3, _), (4, _)]) hx hb dX7_framesThatAre_40 hl (k := 2) rfl rfl (by decide) rfl (fun ls hl => ?_)
          exact HJ43 ls H locs (by simp only [if_pos c37]; exact lv_sub hl [1, 2, 0, 3, 4] rfl) hw
set_option maxHeartbeats 4000000 in
set_option maxRecDepth 100000 in
theorem t_X7_framesThatAre (G : GM) (l : Launch) (hN : 70 ≤ gN G) (x1 : Int32) (h : HP) {r : Int32} (hf : f_X7_framesThatAre x1 h = some r) : MC G l yX7_framesThatAre cX7_framesThatAre 5 (some .int) 2 [.ref (ra G 63), .int x1] h h (some (.int r)) := by
  unfold f_X7_framesThatAre at hf
  refine z_start (by decide) (Nat.le_of_ble_eq_true rfl) ?_
  intro p e s m args below meth c ls hx hb hr hlk hml Z hw hl
  have Z : ZK G s args m RX7 := Z
  have hl : lv_has ls 5 [(0, .ref (ra G 63)), (1, .int x1)] := hl
  obtain ⟨H, hH⟩ : ∃ H, H = s.heap := ⟨_, rfl⟩
  rw [← hH] at hw ⊢
  obtain ⟨locs, hlc⟩ : ∃ locs : List Loc, locs = [] := ⟨_, rfl⟩
  rw [← hlc] at hw ⊢
  refine lv_iconst (v := (0 : Int32)) hx hb dX7_framesThatAre_0 (by decide) ?_
  refine lv_istore_n (lv' := [(2, _), (0, _), (1, _)]) hx hb dX7_framesThatAre_1 rfl hl (by decide) rfl (fun ls hl => ?_)
  refine lv_aload_n hx hb dX7_framesThatAre_2 rfl (lv_at hl 1 rfl) ?_
  refine z_getr (o := 63) (o2 := 64) (C := RX7) (T := TX7) (N := 4) (ci := 6) (k := 0) hx hb Z hw (by decide) (by omega) rfl inX7 (by decide) rfl wd273 dX7_framesThatAre_3 ?_
  refine z_callVi (o := 64) (ci := 4) (As := []) (rest := []) (t_X5_allFrames G l hN 64 (by decide) (by omega) h) cv_X5_allFrames hx hb hml hl.1 Z hw (by decide) (by decide) (by omega) rfl rfl wd480 rfl rfl (Nat.le_of_ble_eq_true rfl) (by decide) dX7_framesThatAre_6 (fun H locs hw => ?_)
  refine lv_istore_n (lv' := [(3, _), (2, _), (0, _), (1, _)]) hx hb dX7_framesThatAre_9 rfl hl (by decide) rfl (fun ls hl => ?_)
  refine lv_iconst (v := (0 : Int32)) hx hb dX7_framesThatAre_10 (by decide) ?_
  refine lv_istore (lv' := [(4, _), (3, _), (2, _), (0, _), (1, _)]) hx hb dX7_framesThatAre_11 hl (by decide) rfl (fun ls hl => ?_)
  obtain ⟨q13, hq13, hf⟩ := ob_some hf
  refine w_X7_framesThatAre_L13 G l hN  hx hb hr hlk hml Z FU x1 (0 : Int32) (f_X5_allFrames 64 h) (0 : Int32) h  _ _ ls H locs (lv_sub hl [3, 4, 2, 1, 0] rfl) hw hq13 (fun ls H locs hl hw => ?_)
  refine lv_iload_n hx hb dX7_framesThatAre_49 rfl (lv_at hl 0 rfl) ?_
  obtain rfl := Option.some.inj hf
  exact z_iret hx hb hr hlk hw dX7_framesThatAre_50
set_option maxHeartbeats 4000000 in
set_option maxRecDepth 100000 in
theorem t_X10_count (G : GM) (l : Launch) (hN : 70 ≤ gN G) (x1 : Int32) (h : HP) {r : Int32} {h' : HP} (hf : f_X10_count x1 h = some (r, h')) : MC G l yX10_count cX10_count 2 (some .int) 4 [.ref (ra G 0), .int x1] h h' (some (.int r)) := by
  unfold f_X10_count at hf
  refine z_start (by decide) (Nat.le_of_ble_eq_true rfl) ?_
  intro p e s m args below meth c ls hx hb hr hlk hml Z hw hl
  have Z : ZK G s args m RX10 := Z
  have hl : lv_has ls 2 [(0, .ref (ra G 0)), (1, .int x1)] := hl
  obtain ⟨H, hH⟩ : ∃ H, H = s.heap := ⟨_, rfl⟩
  rw [← hH] at hw ⊢
  obtain ⟨locs, hlc⟩ : ∃ locs : List Loc, locs = [] := ⟨_, rfl⟩
  rw [← hlc] at hw ⊢
  refine lv_iload_n hx hb dX10_count_0 rfl (lv_at hl 1 rfl) ?_
  by_cases c1_0 : x1 = 0
  · have hf := (if_pos c1_0).symm.trans hf
    refine z_sw c1_0 ?_
    refine lv_tableIn (tgt := 84) hx hb dX10_count_1 (by decide) (by decide) rfl (by decide) ?_
    refine lv_aload_n hx hb dX10_count_84 rfl (lv_at hl 0 rfl) ?_
    refine z_getr (o := 0) (o2 := 1) (C := RX10) (T := TX10) (N := 8) (ci := 8) (k := 0) hx hb Z hw (by decide) (by omega) rfl inX10 (by decide) rfl wd288 dX10_count_85 ?_
    refine z_getr (o := 1) (o2 := 2) (C := RX6) (T := TX6) (N := 4) (ci := 5) (k := 0) hx hb Z hw (by decide) (by omega) rfl inX6 (by decide) rfl wd199 dX10_count_88 ?_
    refine z_callVi (o := 2) (ci := 4) (As := []) (rest := []) (t_X5_allFrames G l hN 2 (by decide) (by omega) h) cv_X5_allFrames hx hb hml hl.1 Z hw (by decide) (by decide) (by omega) rfl rfl wd548 rfl rfl (Nat.le_of_ble_eq_true rfl) (by decide) dX10_count_91 (fun H locs hw => ?_)
    obtain ⟨rfl, rfl⟩ := Prod.mk.inj (Option.some.inj hf)
    exact z_iret hx hb hr hlk hw dX10_count_94
  have hf := (if_neg c1_0).symm.trans hf
  by_cases c1_1 : x1 = 1
  · have hf := (if_pos c1_1).symm.trans hf
    refine z_sw c1_1 ?_
    refine lv_tableIn (tgt := 95) hx hb dX10_count_1 (by decide) (by decide) rfl (by decide) ?_
    refine lv_aload_n hx hb dX10_count_95 rfl (lv_at hl 0 rfl) ?_
    refine z_getr (o := 0) (o2 := 1) (C := RX10) (T := TX10) (N := 8) (ci := 8) (k := 0) hx hb Z hw (by decide) (by omega) rfl inX10 (by decide) rfl wd288 dX10_count_96 ?_
    refine z_getr (o := 1) (o2 := 2) (C := RX6) (T := TX6) (N := 4) (ci := 5) (k := 0) hx hb Z hw (by decide) (by omega) rfl inX6 (by decide) rfl wd199 dX10_count_99 ?_
    refine z_callVi (o := 2) (ci := 4) (As := []) (rest := []) (t_X5_groups G l hN 2 (by decide) (by omega) h) cv_X5_groups hx hb hml hl.1 Z hw (by decide) (by decide) (by omega) rfl rfl wd822 rfl rfl (Nat.le_of_ble_eq_true rfl) (by decide) dX10_count_102 (fun H locs hw => ?_)
    obtain ⟨rfl, rfl⟩ := Prod.mk.inj (Option.some.inj hf)
    exact z_iret hx hb hr hlk hw dX10_count_105
  have hf := (if_neg c1_1).symm.trans hf
  by_cases c1_2 : x1 = 2
  · have hf := (if_pos c1_2).symm.trans hf
    refine z_sw c1_2 ?_
    refine lv_tableIn (tgt := 106) hx hb dX10_count_1 (by decide) (by decide) rfl (by decide) ?_
    refine lv_aload_n hx hb dX10_count_106 rfl (lv_at hl 0 rfl) ?_
    refine z_getr (o := 0) (o2 := 1) (C := RX10) (T := TX10) (N := 8) (ci := 8) (k := 0) hx hb Z hw (by decide) (by omega) rfl inX10 (by decide) rfl wd288 dX10_count_107 ?_
    refine z_getr (o := 1) (o2 := 3) (C := RX6) (T := TX6) (N := 4) (ci := 5) (k := 1) hx hb Z hw (by decide) (by omega) rfl inX6 (by decide) rfl wd202 dX10_count_110 ?_
    refine z_geti (o := 3) (C := RX4) (T := TX4) (N := 2) (ci := 3) (k := 1) hx hb Z hw (by decide) (by omega) rfl inX4 (by decide) wd142 dX10_count_113 ?_
    obtain ⟨rfl, rfl⟩ := Prod.mk.inj (Option.some.inj hf)
    exact z_iret hx hb hr hlk hw dX10_count_116
  have hf := (if_neg c1_2).symm.trans hf
  by_cases c1_3 : x1 = 3
  · have hf := (if_pos c1_3).symm.trans hf
    refine z_sw c1_3 ?_
    refine lv_tableIn (tgt := 117) hx hb dX10_count_1 (by decide) (by decide) rfl (by decide) ?_
    refine lv_aload_n hx hb dX10_count_117 rfl (lv_at hl 0 rfl) ?_
    refine z_getr (o := 0) (o2 := 1) (C := RX10) (T := TX10) (N := 8) (ci := 8) (k := 0) hx hb Z hw (by decide) (by omega) rfl inX10 (by decide) rfl wd288 dX10_count_118 ?_
    refine z_getr (o := 1) (o2 := 8) (C := RX6) (T := TX6) (N := 4) (ci := 5) (k := 3) hx hb Z hw (by decide) (by omega) rfl inX6 (by decide) rfl wd206 dX10_count_121 ?_
    refine z_geti (o := 8) (C := RX1) (T := TX1) (N := 6) (ci := 0) (k := 0) hx hb Z hw (by decide) (by omega) rfl inX1 (by decide) wd173 dX10_count_124 ?_
    obtain ⟨rfl, rfl⟩ := Prod.mk.inj (Option.some.inj hf)
    exact z_iret hx hb hr hlk hw dX10_count_127
  have hf := (if_neg c1_3).symm.trans hf
  by_cases c1_4 : x1 = 4
  · have hf := (if_pos c1_4).symm.trans hf
    refine z_sw c1_4 ?_
    refine lv_tableIn (tgt := 128) hx hb dX10_count_1 (by decide) (by decide) rfl (by decide) ?_
    refine lv_aload_n hx hb dX10_count_128 rfl (lv_at hl 0 rfl) ?_
    refine z_getr (o := 0) (o2 := 1) (C := RX10) (T := TX10) (N := 8) (ci := 8) (k := 0) hx hb Z hw (by decide) (by omega) rfl inX10 (by decide) rfl wd288 dX10_count_129 ?_
    refine z_getr (o := 1) (o2 := 2) (C := RX6) (T := TX6) (N := 4) (ci := 5) (k := 0) hx hb Z hw (by decide) (by omega) rfl inX6 (by decide) rfl wd199 dX10_count_132 ?_
    refine lv_aload_n hx hb dX10_count_135 rfl (lv_at hl 0 rfl) ?_
    refine z_getr (o := 0) (o2 := 1) (C := RX10) (T := TX10) (N := 8) (ci := 8) (k := 0) hx hb Z hw (by decide) (by omega) rfl inX10 (by decide) rfl wd288 dX10_count_136 ?_
    refine z_getr (o := 1) (o2 := 8) (C := RX6) (T := TX6) (N := 4) (ci := 5) (k := 3) hx hb Z hw (by decide) (by omega) rfl inX6 (by decide) rfl wd206 dX10_count_139 ?_
    refine z_geti (o := 8) (C := RX1) (T := TX1) (N := 6) (ci := 0) (k := 0) hx hb Z hw (by decide) (by omega) rfl inX1 (by decide) wd173 dX10_count_142 ?_
    obtain ⟨q145, hq145, hf⟩ := ob_some hf
    refine z_callVi (o := 2) (ci := 4) (As := [.int (h 8 0)]) (rest := []) (t_X5_turnOf G l hN 2 (by decide) (by omega) (h 8 0) h hq145) cv_X5_turnOf hx hb hml hl.1 Z hw (by decide) (by decide) (by omega) rfl rfl wd751 rfl rfl (Nat.le_of_ble_eq_true rfl) (by decide) dX10_count_145 (fun H locs hw => ?_)
    obtain ⟨rfl, rfl⟩ := Prod.mk.inj (Option.some.inj hf)
    exact z_iret hx hb hr hlk hw dX10_count_148
  have hf := (if_neg c1_4).symm.trans hf
  by_cases c1_5 : x1 = 5
  · have hf := (if_pos c1_5).symm.trans hf
    refine z_sw c1_5 ?_
    refine lv_tableIn (tgt := 149) hx hb dX10_count_1 (by decide) (by decide) rfl (by decide) ?_
    refine lv_aload_n hx hb dX10_count_149 rfl (lv_at hl 0 rfl) ?_
    refine z_getr (o := 0) (o2 := 1) (C := RX10) (T := TX10) (N := 8) (ci := 8) (k := 0) hx hb Z hw (by decide) (by omega) rfl inX10 (by decide) rfl wd288 dX10_count_150 ?_
    refine z_getr (o := 1) (o2 := 8) (C := RX6) (T := TX6) (N := 4) (ci := 5) (k := 3) hx hb Z hw (by decide) (by omega) rfl inX6 (by decide) rfl wd206 dX10_count_153 ?_
    refine z_geti (o := 8) (C := RX1) (T := TX1) (N := 6) (ci := 0) (k := 1) hx hb Z hw (by decide) (by omega) rfl inX1 (by decide) wd175 dX10_count_156 ?_
    obtain ⟨rfl, rfl⟩ := Prod.mk.inj (Option.some.inj hf)
    exact z_iret hx hb hr hlk hw dX10_count_159
  have hf := (if_neg c1_5).symm.trans hf
  by_cases c1_6 : x1 = 6
  · have hf := (if_pos c1_6).symm.trans hf
    refine z_sw c1_6 ?_
    refine lv_tableIn (tgt := 160) hx hb dX10_count_1 (by decide) (by decide) rfl (by decide) ?_
    refine lv_aload_n hx hb dX10_count_160 rfl (lv_at hl 0 rfl) ?_
    refine z_getr (o := 0) (o2 := 1) (C := RX10) (T := TX10) (N := 8) (ci := 8) (k := 0) hx hb Z hw (by decide) (by omega) rfl inX10 (by decide) rfl wd288 dX10_count_161 ?_
    refine z_getr (o := 1) (o2 := 8) (C := RX6) (T := TX6) (N := 4) (ci := 5) (k := 3) hx hb Z hw (by decide) (by omega) rfl inX6 (by decide) rfl wd206 dX10_count_164 ?_
    refine z_geti (o := 8) (C := RX1) (T := TX1) (N := 6) (ci := 0) (k := 2) hx hb Z hw (by decide) (by omega) rfl inX1 (by decide) wd177 dX10_count_167 ?_
    obtain ⟨rfl, rfl⟩ := Prod.mk.inj (Option.some.inj hf)
    exact z_iret hx hb hr hlk hw dX10_count_170
  have hf := (if_neg c1_6).symm.trans hf
  by_cases c1_7 : x1 = 7
  · have hf := (if_pos c1_7).symm.trans hf
    refine z_sw c1_7 ?_
    refine lv_tableIn (tgt := 171) hx hb dX10_count_1 (by decide) (by decide) rfl (by decide) ?_
    refine lv_aload_n hx hb dX10_count_171 rfl (lv_at hl 0 rfl) ?_
    refine z_getr (o := 0) (o2 := 1) (C := RX10) (T := TX10) (N := 8) (ci := 8) (k := 0) hx hb Z hw (by decide) (by omega) rfl inX10 (by decide) rfl wd288 dX10_count_172 ?_
    refine z_getr (o := 1) (o2 := 8) (C := RX6) (T := TX6) (N := 4) (ci := 5) (k := 3) hx hb Z hw (by decide) (by omega) rfl inX6 (by decide) rfl wd206 dX10_count_175 ?_
    refine z_geti (o := 8) (C := RX1) (T := TX1) (N := 6) (ci := 0) (k := 3) hx hb Z hw (by decide) (by omega) rfl inX1 (by decide) wd179 dX10_count_178 ?_
    obtain ⟨rfl, rfl⟩ := Prod.mk.inj (Option.some.inj hf)
    exact z_iret hx hb hr hlk hw dX10_count_181
  have hf := (if_neg c1_7).symm.trans hf
  by_cases c1_8 : x1 = 8
  · have hf := (if_pos c1_8).symm.trans hf
    refine z_sw c1_8 ?_
    refine lv_tableIn (tgt := 182) hx hb dX10_count_1 (by decide) (by decide) rfl (by decide) ?_
    refine lv_aload_n hx hb dX10_count_182 rfl (lv_at hl 0 rfl) ?_
    refine z_getr (o := 0) (o2 := 1) (C := RX10) (T := TX10) (N := 8) (ci := 8) (k := 0) hx hb Z hw (by decide) (by omega) rfl inX10 (by decide) rfl wd288 dX10_count_183 ?_
    refine z_getr (o := 1) (o2 := 8) (C := RX6) (T := TX6) (N := 4) (ci := 5) (k := 3) hx hb Z hw (by decide) (by omega) rfl inX6 (by decide) rfl wd206 dX10_count_186 ?_
    refine z_geti (o := 8) (C := RX1) (T := TX1) (N := 6) (ci := 0) (k := 4) hx hb Z hw (by decide) (by omega) rfl inX1 (by decide) wd181 dX10_count_189 ?_
    obtain ⟨rfl, rfl⟩ := Prod.mk.inj (Option.some.inj hf)
    exact z_iret hx hb hr hlk hw dX10_count_192
  have hf := (if_neg c1_8).symm.trans hf
  by_cases c1_9 : x1 = 9
  · have hf := (if_pos c1_9).symm.trans hf
    refine z_sw c1_9 ?_
    refine lv_tableIn (tgt := 193) hx hb dX10_count_1 (by decide) (by decide) rfl (by decide) ?_
    refine lv_aload_n hx hb dX10_count_193 rfl (lv_at hl 0 rfl) ?_
    refine z_getr (o := 0) (o2 := 1) (C := RX10) (T := TX10) (N := 8) (ci := 8) (k := 0) hx hb Z hw (by decide) (by omega) rfl inX10 (by decide) rfl wd288 dX10_count_194 ?_
    refine z_getr (o := 1) (o2 := 8) (C := RX6) (T := TX6) (N := 4) (ci := 5) (k := 3) hx hb Z hw (by decide) (by omega) rfl inX6 (by decide) rfl wd206 dX10_count_197 ?_
    refine z_geti (o := 8) (C := RX1) (T := TX1) (N := 6) (ci := 0) (k := 5) hx hb Z hw (by decide) (by omega) rfl inX1 (by decide) wd183 dX10_count_200 ?_
    obtain ⟨rfl, rfl⟩ := Prod.mk.inj (Option.some.inj hf)
    exact z_iret hx hb hr hlk hw dX10_count_203
  have hf := (if_neg c1_9).symm.trans hf
  by_cases c1_10 : x1 = 10
  · have hf := (if_pos c1_10).symm.trans hf
    refine z_sw c1_10 ?_
    refine lv_tableIn (tgt := 204) hx hb dX10_count_1 (by decide) (by decide) rfl (by decide) ?_
    refine lv_aload_n hx hb dX10_count_204 rfl (lv_at hl 0 rfl) ?_
    refine z_getr (o := 0) (o2 := 63) (C := RX10) (T := TX10) (N := 8) (ci := 8) (k := 6) hx hb Z hw (by decide) (by omega) rfl inX10 (by decide) rfl wd294 dX10_count_205 ?_
    refine lv_aload_n hx hb dX10_count_208 rfl (lv_at hl 0 rfl) ?_
    refine z_getr (o := 0) (o2 := 1) (C := RX10) (T := TX10) (N := 8) (ci := 8) (k := 0) hx hb Z hw (by decide) (by omega) rfl inX10 (by decide) rfl wd288 dX10_count_209 ?_
    obtain ⟨q212, hq212, hf⟩ := ob_some hf
    refine z_callVi (o := 63) (ci := 6) (As := [.ref (ra G 1)]) (rest := []) (t_X7_of G l hN 1 (by decide) (by omega) h hq212) cv_X7_of hx hb hml hl.1 Z hw (by decide) (by decide) (by omega) rfl rfl wd423 rfl rfl (Nat.le_of_ble_eq_true rfl) (by decide) dX10_count_212 (fun H locs hw => ?_)
    refine lv_iconst (v := (0 : Int32)) hx hb dX10_count_215 (by decide) ?_
    obtain ⟨q216, hq216, hf⟩ := ob_some hf
    refine z_callVi (o := 63) (ci := 6) (As := [.int (0 : Int32)]) (rest := []) (t_X7_framesThatAre G l hN (0 : Int32) q212 hq216) cv_X7_framesThatAre hx hb hml hl.1 Z hw (by decide) (by decide) (by omega) rfl rfl wd823 rfl rfl (Nat.le_of_ble_eq_true rfl) (by decide) dX10_count_216 (fun H locs hw => ?_)
    obtain ⟨rfl, rfl⟩ := Prod.mk.inj (Option.some.inj hf)
    exact z_iret hx hb hr hlk hw dX10_count_219
  have hf := (if_neg c1_10).symm.trans hf
  by_cases c1_11 : x1 = 11
  · have hf := (if_pos c1_11).symm.trans hf
    refine z_sw c1_11 ?_
    refine lv_tableIn (tgt := 220) hx hb dX10_count_1 (by decide) (by decide) rfl (by decide) ?_
    refine lv_aload_n hx hb dX10_count_220 rfl (lv_at hl 0 rfl) ?_
    refine z_getr (o := 0) (o2 := 63) (C := RX10) (T := TX10) (N := 8) (ci := 8) (k := 6) hx hb Z hw (by decide) (by omega) rfl inX10 (by decide) rfl wd294 dX10_count_221 ?_
    refine lv_aload_n hx hb dX10_count_224 rfl (lv_at hl 0 rfl) ?_
    refine z_getr (o := 0) (o2 := 1) (C := RX10) (T := TX10) (N := 8) (ci := 8) (k := 0) hx hb Z hw (by decide) (by omega) rfl inX10 (by decide) rfl wd288 dX10_count_225 ?_
    obtain ⟨q228, hq228, hf⟩ := ob_some hf
    refine z_callVi (o := 63) (ci := 6) (As := [.ref (ra G 1)]) (rest := []) (t_X7_of G l hN 1 (by decide) (by omega) h hq228) cv_X7_of hx hb hml hl.1 Z hw (by decide) (by decide) (by omega) rfl rfl wd423 rfl rfl (Nat.le_of_ble_eq_true rfl) (by decide) dX10_count_228 (fun H locs hw => ?_)
    refine lv_iconst (v := (1 : Int32)) hx hb dX10_count_231 (by decide) ?_
    obtain ⟨q232, hq232, hf⟩ := ob_some hf
    refine z_callVi (o := 63) (ci := 6) (As := [.int (1 : Int32)]) (rest := []) (t_X7_framesThatAre G l hN (1 : Int32) q228 hq232) cv_X7_framesThatAre hx hb hml hl.1 Z hw (by decide) (by decide) (by omega) rfl rfl wd823 rfl rfl (Nat.le_of_ble_eq_true rfl) (by decide) dX10_count_232 (fun H locs hw => ?_)
    obtain ⟨rfl, rfl⟩ := Prod.mk.inj (Option.some.inj hf)
    exact z_iret hx hb hr hlk hw dX10_count_235
  have hf := (if_neg c1_11).symm.trans hf
  by_cases c1_12 : x1 = 12
  · have hf := (if_pos c1_12).symm.trans hf
    refine z_sw c1_12 ?_
    refine lv_tableIn (tgt := 236) hx hb dX10_count_1 (by decide) (by decide) rfl (by decide) ?_
    refine lv_aload_n hx hb dX10_count_236 rfl (lv_at hl 0 rfl) ?_
    refine z_getr (o := 0) (o2 := 63) (C := RX10) (T := TX10) (N := 8) (ci := 8) (k := 6) hx hb Z hw (by decide) (by omega) rfl inX10 (by decide) rfl wd294 dX10_count_237 ?_
    refine lv_aload_n hx hb dX10_count_240 rfl (lv_at hl 0 rfl) ?_
    refine z_getr (o := 0) (o2 := 1) (C := RX10) (T := TX10) (N := 8) (ci := 8) (k := 0) hx hb Z hw (by decide) (by omega) rfl inX10 (by decide) rfl wd288 dX10_count_241 ?_
    obtain ⟨q244, hq244, hf⟩ := ob_some hf
    refine z_callVi (o := 63) (ci := 6) (As := [.ref (ra G 1)]) (rest := []) (t_X7_of G l hN 1 (by decide) (by omega) h hq244) cv_X7_of hx hb hml hl.1 Z hw (by decide) (by decide) (by omega) rfl rfl wd423 rfl rfl (Nat.le_of_ble_eq_true rfl) (by decide) dX10_count_244 (fun H locs hw => ?_)
    refine lv_iconst (v := (2 : Int32)) hx hb dX10_count_247 (by decide) ?_
    obtain ⟨q248, hq248, hf⟩ := ob_some hf
    refine z_callVi (o := 63) (ci := 6) (As := [.int (2 : Int32)]) (rest := []) (t_X7_framesThatAre G l hN (2 : Int32) q244 hq248) cv_X7_framesThatAre hx hb hml hl.1 Z hw (by decide) (by decide) (by omega) rfl rfl wd823 rfl rfl (Nat.le_of_ble_eq_true rfl) (by decide) dX10_count_248 (fun H locs hw => ?_)
    obtain ⟨rfl, rfl⟩ := Prod.mk.inj (Option.some.inj hf)
    exact z_iret hx hb hr hlk hw dX10_count_251
  have hf := (if_neg c1_12).symm.trans hf
  by_cases c1_13 : x1 = 13
  · have hf := (if_pos c1_13).symm.trans hf
    refine z_sw c1_13 ?_
    refine lv_tableIn (tgt := 252) hx hb dX10_count_1 (by decide) (by decide) rfl (by decide) ?_
    refine lv_aload_n hx hb dX10_count_252 rfl (lv_at hl 0 rfl) ?_
    refine z_getr (o := 0) (o2 := 63) (C := RX10) (T := TX10) (N := 8) (ci := 8) (k := 6) hx hb Z hw (by decide) (by omega) rfl inX10 (by decide) rfl wd294 dX10_count_253 ?_
    refine lv_aload_n hx hb dX10_count_256 rfl (lv_at hl 0 rfl) ?_
    refine z_getr (o := 0) (o2 := 1) (C := RX10) (T := TX10) (N := 8) (ci := 8) (k := 0) hx hb Z hw (by decide) (by omega) rfl inX10 (by decide) rfl wd288 dX10_count_257 ?_
    obtain ⟨q260, hq260, hf⟩ := ob_some hf
    refine z_callVi (o := 63) (ci := 6) (As := [.ref (ra G 1)]) (rest := []) (t_X7_of G l hN 1 (by decide) (by omega) h hq260) cv_X7_of hx hb hml hl.1 Z hw (by decide) (by decide) (by omega) rfl rfl wd423 rfl rfl (Nat.le_of_ble_eq_true rfl) (by decide) dX10_count_260 (fun H locs hw => ?_)
    refine lv_iconst (v := (3 : Int32)) hx hb dX10_count_263 (by decide) ?_
    obtain ⟨q264, hq264, hf⟩ := ob_some hf
    refine z_callVi (o := 63) (ci := 6) (As := [.int (3 : Int32)]) (rest := []) (t_X7_framesThatAre G l hN (3 : Int32) q260 hq264) cv_X7_framesThatAre hx hb hml hl.1 Z hw (by decide) (by decide) (by omega) rfl rfl wd823 rfl rfl (Nat.le_of_ble_eq_true rfl) (by decide) dX10_count_264 (fun H locs hw => ?_)
    obtain ⟨rfl, rfl⟩ := Prod.mk.inj (Option.some.inj hf)
    exact z_iret hx hb hr hlk hw dX10_count_267
  have hf := (if_neg c1_13).symm.trans hf
  by_cases c1_14 : x1 = 14
  · have hf := (if_pos c1_14).symm.trans hf
    refine z_sw c1_14 ?_
    refine lv_tableIn (tgt := 268) hx hb dX10_count_1 (by decide) (by decide) rfl (by decide) ?_
    refine lv_aload_n hx hb dX10_count_268 rfl (lv_at hl 0 rfl) ?_
    refine z_getr (o := 0) (o2 := 1) (C := RX10) (T := TX10) (N := 8) (ci := 8) (k := 0) hx hb Z hw (by decide) (by omega) rfl inX10 (by decide) rfl wd288 dX10_count_269 ?_
    refine z_getr (o := 1) (o2 := 5) (C := RX6) (T := TX6) (N := 4) (ci := 5) (k := 2) hx hb Z hw (by decide) (by omega) rfl inX6 (by decide) rfl wd204 dX10_count_272 ?_
    refine z_geti (o := 5) (C := RX8) (T := TX8) (N := 3) (ci := 7) (k := 2) hx hb Z hw (by decide) (by omega) rfl inX8 (by decide) wd158 dX10_count_275 ?_
    obtain ⟨rfl, rfl⟩ := Prod.mk.inj (Option.some.inj hf)
    exact z_iret hx hb hr hlk hw dX10_count_278
  have hf := (if_neg c1_14).symm.trans hf
  by_cases c1_15 : x1 = 15
  · have hf := (if_pos c1_15).symm.trans hf
    refine z_sw c1_15 ?_
    refine lv_tableIn (tgt := 279) hx hb dX10_count_1 (by decide) (by decide) rfl (by decide) ?_
    refine lv_aload_n hx hb dX10_count_279 rfl (lv_at hl 0 rfl) ?_
    refine z_getr (o := 0) (o2 := 25) (C := RX10) (T := TX10) (N := 8) (ci := 8) (k := 4) hx hb Z hw (by decide) (by omega) rfl inX10 (by decide) rfl wd292 dX10_count_280 ?_
    refine z_geti (o := 25) (C := RX2) (T := TX2) (N := 2) (ci := 1) (k := 1) hx hb Z hw (by decide) (by omega) rfl inX2 (by decide) wd227 dX10_count_283 ?_
    obtain ⟨rfl, rfl⟩ := Prod.mk.inj (Option.some.inj hf)
    exact z_iret hx hb hr hlk hw dX10_count_286
  have hf := (if_neg c1_15).symm.trans hf
  by_cases c1_16 : x1 = 16
  · have hf := (if_pos c1_16).symm.trans hf
    refine z_sw c1_16 ?_
    refine lv_tableIn (tgt := 287) hx hb dX10_count_1 (by decide) (by decide) rfl (by decide) ?_
    refine lv_aload_n hx hb dX10_count_287 rfl (lv_at hl 0 rfl) ?_
    refine z_getr (o := 0) (o2 := 59) (C := RX10) (T := TX10) (N := 8) (ci := 8) (k := 5) hx hb Z hw (by decide) (by omega) rfl inX10 (by decide) rfl wd293 dX10_count_288 ?_
    refine z_geti (o := 59) (C := RX3) (T := TX3) (N := 6) (ci := 2) (k := 1) hx hb Z hw (by decide) (by omega) rfl inX3 (by decide) wd243 dX10_count_291 ?_
    obtain ⟨rfl, rfl⟩ := Prod.mk.inj (Option.some.inj hf)
    exact z_iret hx hb hr hlk hw dX10_count_294
  have hf := (if_neg c1_16).symm.trans hf
  refine lv_tableOut (tgt := 295) hx hb dX10_count_1 (by have := [0]; have e0 := sw_ne (k := 0) (by decide) c1_0; have e1 := sw_ne (k := 1) (by decide) c1_1; have e2 := sw_ne (k := 2) (by decide) c1_2; have e3 := sw_ne (k := 3) (by decide) c1_3; have e4 := sw_ne (k := 4) (by decide) c1_4; have e5 := sw_ne (k := 5) (by decide) c1_5; have e6 := sw_ne (k := 6) (by decide) c1_6; have e7 := sw_ne (k := 7) (by decide) c1_7; have e8 := sw_ne (k := 8) (by decide) c1_8; have e9 := sw_ne (k := 9) (by decide) c1_9; have e10 := sw_ne (k := 10) (by decide) c1_10; have e11 := sw_ne (k := 11) (by decide) c1_11; have e12 := sw_ne (k := 12) (by decide) c1_12; have e13 := sw_ne (k := 13) (by decide) c1_13; have e14 := sw_ne (k := 14) (by decide) c1_14; have e15 := sw_ne (k := 15) (by decide) c1_15; have e16 := sw_ne (k := 16) (by decide) c1_16; omega) (by decide) ?_
  refine lv_aload_n hx hb dX10_count_295 rfl (lv_at hl 0 rfl) ?_
  refine lv_iload_n hx hb dX10_count_296 rfl (lv_at hl 1 rfl) ?_
  refine lv_bipush (v := (17 : Int32)) hx hb dX10_count_297 (by decide) ?_
  refine lv_isub hx hb dX10_count_299 ?_
  refine z_callVi (o := 0) (ci := 8) (As := [.int (x1 - (17 : Int32))]) (rest := []) (t_X10_countSetting G l hN (x1 - (17 : Int32)) h) cv_X10_countSetting hx hb hml hl.1 Z hw (by decide) (by decide) (by omega) rfl rfl wd827 rfl rfl (Nat.le_of_ble_eq_true rfl) (by decide) dX10_count_300 (fun H locs hw => ?_)
  obtain ⟨rfl, rfl⟩ := Prod.mk.inj (Option.some.inj hf)
  exact z_iret hx hb hr hlk hw dX10_count_303
