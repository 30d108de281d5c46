/-! walks (by program) -/
set_option maxHeartbeats 4000000 in
set_option maxRecDepth 100000 in
theorem t_X3_hasSign (G : GM) (l : Launch) (hN : 70 ≤ gN G) (x1 : Int32) (x2 : Int32) (h : HP) : MC G l yX3_hasSign cX3_hasSign 3 (some .boolean) 0 [.ref (ra G 59), .int x1, .int x2] h h (some (.int (f_X3_hasSign x1 x2 h))) := by
  generalize hf : f_X3_hasSign x1 x2 h = r
  unfold f_X3_hasSign at hf
  refine z_start (by decide) (Nat.le_of_ble_eq_true rfl) ?_
  intro p e s m args below meth c ls hx hb hr hlk hml Z hw hl
  have Z : ZK G s args m RX3 := Z
  have hl : lv_has ls 3 [(0, .ref (ra G 59)), (1, .int x1), (2, .int x2)] := hl
  obtain ⟨H, hH⟩ : ∃ H, H = s.heap := ⟨_, rfl⟩
  rw [← hH] at hw ⊢
  obtain ⟨locs, hlc⟩ : ∃ locs : List Loc, locs = [] := ⟨_, rfl⟩
  rw [← hlc] at hw ⊢
  refine lv_iload_n hx hb dX3_hasSign_0 rfl (lv_at hl 1 rfl) ?_
  refine lv_if_lt (tgt := 35) hx hb dX3_hasSign_1 (by decide) (fun c1 => ?_) (fun c1 => ?_)
  · have hf := (if_pos c1).symm.trans hf
    refine lv_iconst (v := (0 : Int32)) hx hb dX3_hasSign_35 (by decide) ?_
    obtain rfl := hf
    exact z_zret hx hb hr rfl hlk hw dX3_hasSign_36
  · have hf := (if_neg c1).symm.trans hf
    refine lv_iload_n hx hb dX3_hasSign_4 rfl (lv_at hl 1 rfl) ?_
    refine lv_aload_n hx hb dX3_hasSign_5 rfl (lv_at hl 0 rfl) ?_
    refine z_geti (o := 59) (C := RX3) (T := TX3) (N := 6) (ci := 2) (k := 1) hx hb Z hw (by decide) (by omega) rfl inX3 (by decide) wd242 dX3_hasSign_6 ?_
    refine lv_icmp_ge (tgt := 35) hx hb dX3_hasSign_9 (by decide) (fun c9 => ?_) (fun c9 => ?_)
    · have hf := (if_pos c9).symm.trans hf
      refine lv_iconst (v := (0 : Int32)) hx hb dX3_hasSign_35 (by decide) ?_
      obtain rfl := hf
      exact z_zret hx hb hr rfl hlk hw dX3_hasSign_36
    · have hf := (if_neg c9).symm.trans hf
      refine lv_iload_n hx hb dX3_hasSign_12 rfl (lv_at hl 1 rfl) ?_
      refine lv_aload_n hx hb dX3_hasSign_13 rfl (lv_at hl 0 rfl) ?_
      refine z_getr (o := 59) (o2 := 60) (C := RX3) (T := TX3) (N := 6) (ci := 2) (k := 0) hx hb Z hw (by decide) (by omega) rfl inX3 (by decide) rfl wd241 dX3_hasSign_14 ?_
      refine z_alen (o := 60) (v := (60 : Int32)) hx hb Z hw (by decide) (by omega) (by decide) dX3_hasSign_17 ?_
      refine lv_icmp_ge (tgt := 35) hx hb dX3_hasSign_18 (by decide) (fun c18 => ?_) (fun c18 => ?_)
      · have hf := (if_pos c18).symm.trans hf
        refine lv_iconst (v := (0 : Int32)) hx hb dX3_hasSign_35 (by decide) ?_
        obtain rfl := hf
        exact z_zret hx hb hr rfl hlk hw dX3_hasSign_36
      · have hf := (if_neg c18).symm.trans hf
        refine lv_aload_n hx hb dX3_hasSign_21 rfl (lv_at hl 0 rfl) ?_
        refine z_getr (o := 59) (o2 := 60) (C := RX3) (T := TX3) (N := 6) (ci := 2) (k := 0) hx hb Z hw (by decide) (by omega) rfl inX3 (by decide) rfl wd241 dX3_hasSign_22 ?_
        refine lv_iload_n hx hb dX3_hasSign_25 rfl (lv_at hl 1 rfl) ?_
        refine y_cald (o := 60) (k := x1.toNatClampNeg) hx hb Z hw (by decide) (by omega) rfl (inB_nn c1 c18 (by decide)) dX3_hasSign_26 ?_
        refine lv_iload_n hx hb dX3_hasSign_27 rfl (lv_at hl 2 rfl) ?_
        refine lv_icmp_ne (tgt := 35) hx hb dX3_hasSign_28 (by decide) (fun c28 => ?_) (fun c28 => ?_)
        · have hf := (if_neg c28).symm.trans hf
          refine lv_iconst (v := (0 : Int32)) hx hb dX3_hasSign_35 (by decide) ?_
          obtain rfl := hf
          exact z_zret hx hb hr rfl hlk hw dX3_hasSign_36
        · have hf := (if_pos c28).symm.trans hf
          refine lv_iconst (v := (1 : Int32)) hx hb dX3_hasSign_31 (by decide) ?_
          refine lv_goto (tgt := 36) hx hb dX3_hasSign_32 (by decide) ?_
          obtain rfl := hf
          exact z_zret hx hb hr rfl hlk hw dX3_hasSign_36
set_option maxHeartbeats 4000000 in
set_option maxRecDepth 100000 in
theorem t_X3_readSign (G : GM) (l : Launch) (hN : 70 ≤ gN G) (x1 : Int32) (h : HP) {r : Int32} {h' : HP} (hf : f_X3_readSign x1 h = (r, h')) : MC G l yX3_readSign cX3_readSign 3 (some .boolean) 1 [.ref (ra G 59), .int x1] h h' (some (.int r)) := by
  unfold f_X3_readSign at hf
  refine z_start (by decide) (Nat.le_of_ble_eq_true rfl) ?_
  intro p e s m args below meth c ls hx hb hr hlk hml Z hw hl
  have Z : ZK G s args m RX3 := Z
  have hl : lv_has ls 3 [(0, .ref (ra G 59)), (1, .int x1)] := hl
  obtain ⟨H, hH⟩ : ∃ H, H = s.heap := ⟨_, rfl⟩
  rw [← hH] at hw ⊢
  obtain ⟨locs, hlc⟩ : ∃ locs : List Loc, locs = [] := ⟨_, rfl⟩
  rw [← hlc] at hw ⊢
  refine lv_aload_n hx hb dX3_readSign_0 rfl (lv_at hl 0 rfl) ?_
  refine lv_aload_n hx hb dX3_readSign_1 rfl (lv_at hl 0 rfl) ?_
  refine z_geti (o := 59) (C := RX3) (T := TX3) (N := 6) (ci := 2) (k := 5) hx hb Z hw (by decide) (by omega) rfl inX3 (by decide) wd248 dX3_readSign_2 ?_
  refine lv_iload_n hx hb dX3_readSign_5 rfl (lv_at hl 1 rfl) ?_
  refine z_callVi (o := 59) (ci := 2) (As := [.int (h 59 5), .int x1]) (rest := []) (t_X3_hasSign G l hN (h 59 5) x1 h) cv_X3_hasSign hx hb hml hl.1 Z hw (by decide) (by decide) (by omega) rfl rfl wd679 rfl rfl (Nat.le_of_ble_eq_true rfl) (by decide) dX3_readSign_6 (fun H locs hw => ?_)
  refine lv_istore_n (lv' := [(2, _), (0, _), (1, _)]) hx hb dX3_readSign_9 rfl hl (by decide) rfl (fun ls hl => ?_)
  refine lv_aload_n hx hb dX3_readSign_10 rfl (lv_at hl 1 rfl) ?_
  refine lv_dup hx hb dX3_readSign_11 rfl ?_
  refine z_geti (o := 59) (C := RX3) (T := TX3) (N := 6) (ci := 2) (k := 5) hx hb Z hw (by decide) (by omega) rfl inX3 (by decide) wd248 dX3_readSign_12 ?_
  refine lv_iload_n hx hb dX3_readSign_15 rfl (lv_at hl 0 rfl) ?_
  have HJ24 : ∀ (ls : Array Slot) (H : Heap) (locs : List Loc), lv_has ls 3 [(2, .int (f_X3_hasSign (h 59 5) x1 h))] → HW G h s H locs → WZ p l e 1 s m args below meth c G (some (.int r)) h' H locs (F0 m 24 ls [.int (if (f_X3_hasSign (h 59 5) x1 h) = 0 then (0 : Int32) else (1 : Int32)), .int (h 59 5), .ref (ra G 59)]) := by
    intro ls H locs hl hw
    refine lv_iadd hx hb dX3_readSign_24 ?_
    refine z_puti (o := 59) (v := (h 59 5) + (if (f_X3_hasSign (h 59 5) x1 h) = 0 then (0 : Int32) else (1 : Int32))) (ty := .int) (C := RX3) (T := TX3) (N := 6) (ci := 2) (k := 5) hx hb Z hw (by decide) (by omega) rfl inX3 tyX3 tyX3_ok nmX3 (by decide) wd248 rfl (by decide +kernel) rfl rfl dX3_readSign_25 (fun H locs hw => ?_)
    refine lv_iload_n hx hb dX3_readSign_28 rfl (lv_at hl 0 rfl) ?_
    obtain ⟨rfl, rfl⟩ := Prod.mk.inj hf
    exact z_zret hx hb hr (nar_b (b_X3_hasSign (h 59 5) x1 h)) hlk hw dX3_readSign_29
  refine lv_if_eq (tgt := 23) hx hb dX3_readSign_16 (by decide) (fun c16 => ?_) (fun c16 => ?_)
  · skip
    refine lv_iconst (v := (0 : Int32)) hx hb dX3_readSign_23 (by decide) ?_
    refine W.eq (g2 := F0 m 24 ls [.int (if (f_X3_hasSign (h 59 5) x1 h) = 0 then (0 : Int32) else (1 : Int32)), .int (h 59 5), .ref (ra G 59)]) ?_ (HJ24 ls H locs (lv_sub hl [0] rfl) hw)
    simp only [if_pos c16]
  · skip
    refine lv_iconst (v := (1 : Int32)) hx hb dX3_readSign_19 (by decide) ?_
    refine lv_goto (tgt := 24) hx hb dX3_readSign_20 (by decide) ?_
    refine W.eq (g2 := F0 m 24 ls [.int (if (f_X3_hasSign (h 59 5) x1 h) = 0 then (0 : Int32) else (1 : Int32)), .int (h 59 5), .ref (ra G 59)]) ?_ (HJ24 ls H locs (lv_sub hl [0] rfl) hw)
    simp only [if_neg c16]
set_option maxHeartbeats 4000000 in
set_option maxRecDepth 100000 in
theorem w_X3_sameAs_L2 (G : GM) (l : Launch) (hN : 70 ≤ gN G) (s1 : Nat) (n_s1 : s1 < 10) {p : Program} {e : Env} {s : State} {m : MethodId} {args : Array Value} {below : List Frame} {meth : Method} {c : Code} (hx : p.tables.exec = Jvm.exec) (hb : c.code = cX3_sameAs) (hr : meth.sig.returnType = (some .int)) (hlk : meth.locks = false) (hml : c.maxLocals = 3) (Z : ZK G s args m RX3) : ∀ (n : Nat) (x2 : Int32)  (h : HP)  (rv : Option Value) (hq : HP) (ls : Array Slot) (H : Heap) (locs : List Loc) {q : Int32}, lv_has ls 3 [(0, .ref (ra G 59)), (1, .ref (gA G (20 + s1))), (2, .int x2)] → HW G h s H locs → f_X3_sameAs_L2 n s1 x2 h = some q → (∀ (ls : Array Slot) (H : Heap) (locs : List Loc), lv_has ls 3 [(2, .int q)] → HW G h s H locs → WZ p l e 4 s m args below meth c G rv hq H locs (F0 m 34 ls [])) → WZ p l e 4 s m args below meth c G rv hq H locs (F0 m 2 ls []) := by
  intro n
  induction n with
  | zero => intro x2  h  rv hq ls H locs q hl hw hf kk; cases hf
  | succ n ih =>
    intro x2  h  rv hq ls H locs q hl hw hf kk
    rw [f_X3_sameAs_L2] at hf
    refine lv_iload_n hx hb dX3_sameAs_2 rfl (lv_at hl 2 rfl) ?_
    refine lv_aload_n hx hb dX3_sameAs_3 rfl (lv_at hl 1 rfl) ?_
    refine z_strlen (sid := s1) (rest := [.int x2]) G l hx hb hml hl.1 Z hw n_s1 wd631 (Nat.le_of_ble_eq_true rfl) (by decide) dX3_sameAs_4 (fun H locs hw => ?_)
    refine lv_icmp_ge (tgt := 34) hx hb dX3_sameAs_7 (by decide) (fun c7 => ?_) (fun c7 => ?_)
    · have hf := (if_pos c7).symm.trans hf
      obtain rfl := Option.some.inj hf
      exact kk ls H locs (lv_sub hl [2] rfl) hw
    · have hf := (if_neg c7).symm.trans hf
      refine lv_aload_n hx hb dX3_sameAs_10 rfl (lv_at hl 0 rfl) ?_
      refine lv_aload_n hx hb dX3_sameAs_11 rfl (lv_at hl 0 rfl) ?_
      refine z_geti (o := 59) (C := RX3) (T := TX3) (N := 6) (ci := 2) (k := 5) hx hb Z hw (by decide) (by omega) rfl inX3 (by decide) wd248 dX3_sameAs_12 ?_
      refine lv_iload_n hx hb dX3_sameAs_15 rfl (lv_at hl 2 rfl) ?_
      refine lv_iadd hx hb dX3_sameAs_16 ?_
      refine lv_aload_n hx hb dX3_sameAs_17 rfl (lv_at hl 1 rfl) ?_
      refine lv_iload_n hx hb dX3_sameAs_18 rfl (lv_at hl 2 rfl) ?_
      obtain ⟨h19, hf⟩ := gd_some hf
      refine z_charAt (sid := s1) (rest := [.int ((h 59 5) + x2), .ref (ra G 59)]) G l hx hb hml hl.1 Z hw n_s1 h19 wd641 (Nat.le_of_ble_eq_true rfl) (by decide) dX3_sameAs_19 (fun H locs hw => ?_)
      refine z_callVi (o := 59) (ci := 2) (As := [.int ((h 59 5) + x2), .int (schr s1 x2)]) (rest := []) (t_X3_hasSign G l hN ((h 59 5) + x2) (schr s1 x2) h) cv_X3_hasSign hx hb hml hl.1 Z hw (by decide) (by decide) (by omega) rfl rfl wd679 rfl rfl (Nat.le_of_ble_eq_true rfl) (by decide) dX3_sameAs_22 (fun H locs hw => ?_)
      refine lv_if_eq (tgt := 34) hx hb dX3_sameAs_25 (by decide) (fun c25 => ?_) (fun c25 => ?_)
      · have hf := (if_pos c25).symm.trans hf
        obtain rfl := Option.some.inj hf
        exact kk ls H locs (lv_sub hl [2] rfl) hw
      · have hf := (if_neg c25).symm.trans hf
        refine lv_iinc (v := x2 + (1 : Int32)) (lv' := [(2, _), (0, _), (1, _)]) hx hb dX3_sameAs_28 hl (k := 2) rfl rfl (by decide) rfl (fun ls hl => ?_)
        refine lv_goto (tgt := 2) hx hb dX3_sameAs_31 (by decide) ?_
        exact ih (x2 + (1 : Int32)) h  rv hq ls H locs (lv_sub hl [1, 2, 0] rfl) hw hf kk
set_option maxHeartbeats 4000000 in
set_option maxRecDepth 100000 in
theorem t_X3_sameAs (G : GM) (l : Launch) (hN : 70 ≤ gN G) (s1 : Nat) (n_s1 : s1 < 10) (h : HP) {r : Int32} (hf : f_X3_sameAs s1 h = some r) : MC G l yX3_sameAs cX3_sameAs 3 (some .int) 4 [.ref (ra G 59), .ref (gA G (20 + s1))] h h (some (.int r)) := by
  unfold f_X3_sameAs at hf
  refine z_start (by decide) (Nat.le_of_ble_eq_true rfl) ?_
  intro p e s m args below meth c ls hx hb hr hlk hml Z hw hl
  have Z : ZK G s args m RX3 := Z
  have hl : lv_has ls 3 [(0, .ref (ra G 59)), (1, .ref (gA G (20 + s1)))] := hl
  obtain ⟨H, hH⟩ : ∃ H, H = s.heap := ⟨_, rfl⟩
  rw [← hH] at hw ⊢
  obtain ⟨locs, hlc⟩ : ∃ locs : List Loc, locs = [] := ⟨_, rfl⟩
  rw [← hlc] at hw ⊢
  refine lv_iconst (v := (0 : Int32)) hx hb dX3_sameAs_0 (by decide) ?_
  refine lv_istore_n (lv' := [(2, _), (0, _), (1, _)]) hx hb dX3_sameAs_1 rfl hl (by decide) rfl (fun ls hl => ?_)
  obtain ⟨q2, hq2, hf⟩ := ob_some hf
  refine w_X3_sameAs_L2 G l hN s1 n_s1 hx hb hr hlk hml Z FU (0 : Int32) h  _ _ ls H locs (lv_sub hl [1, 2, 0] rfl) hw hq2 (fun ls H locs hl hw => ?_)
  refine lv_iload_n hx hb dX3_sameAs_34 rfl (lv_at hl 0 rfl) ?_
  obtain rfl := Option.some.inj hf
  exact z_iret hx hb hr hlk hw dX3_sameAs_35
set_option maxHeartbeats 4000000 in
set_option maxRecDepth 100000 in
theorem w_X3_readWord_L12 (G : GM) (l : Launch) (hN : 70 ≤ gN G)  {p : Program} {e : Env} {s : State} {m : MethodId} {args : Array Value} {below : List Frame} {meth : Method} {c : Code} (hx : p.tables.exec = Jvm.exec) (hb : c.code = cX3_readWord) (hr : meth.sig.returnType = (some (.object "LineDisc$Word"))) (hlk : meth.locks = false) (hml : c.maxLocals = 7) (Z : ZK G s args m RX3) : ∀ (n : Nat) (x1 : Int32) (x3 : Int32) (x4 : Int32)  (h : HP) (r : Int32) (h' : HP) (ls : Array Slot) (H : Heap) (locs : List Loc), lv_has ls 7 [(0, .ref (ra G 59)), (1, .int x1), (2, .ref (gA G 0)), (3, .int x3), (4, .int x4)] → HW G h s H locs → f_X3_readWord_L12 n x1 x3 x4 h = some (r, h') → WZ p l e 5 s m args below meth c G (some (va_rf (wrf G r))) h' H locs (F0 m 12 ls []) := by
  intro n
  induction n with
  | zero => intro x1 x3 x4  h r h' ls H locs hl hw hf; cases hf
  | succ n ih =>
    intro x1 x3 x4  h r h' ls H locs hl hw hf
    rw [f_X3_readWord_L12] at hf
    refine lv_iload hx hb dX3_readWord_12 (lv_at hl 4 rfl) ?_
    refine lv_iload_n hx hb dX3_readWord_14 rfl (lv_at hl 3 rfl) ?_
    refine lv_icmp_ge (tgt := 75) hx hb dX3_readWord_15 (by decide) (fun c15 => ?_) (fun c15 => ?_)
    · have hf := (if_pos c15).symm.trans hf
      refine lv_aload_n hx hb dX3_readWord_75 rfl (lv_at hl 0 rfl) ?_
      refine lv_dup hx hb dX3_readWord_76 rfl ?_
      refine z_geti (o := 59) (C := RX3) (T := TX3) (N := 6) (ci := 2) (k := 5) hx hb Z hw (by decide) (by omega) rfl inX3 (by decide) wd248 dX3_readWord_77 ?_
      refine lv_iload_n hx hb dX3_readWord_80 rfl (lv_at hl 1 rfl) ?_
      refine lv_iadd hx hb dX3_readWord_81 ?_
      refine z_puti (o := 59) (v := (h 59 5) + x1) (ty := .int) (C := RX3) (T := TX3) (N := 6) (ci := 2) (k := 5) hx hb Z hw (by decide) (by omega) rfl inX3 tyX3 tyX3_ok nmX3 (by decide) wd248 rfl (by decide +kernel) rfl rfl dX3_readWord_82 (fun H locs hw => ?_)
      refine lv_null hx hb dX3_readWord_85 ?_
      rw [← wrf_0 (G := G)]
      obtain ⟨rfl, rfl⟩ := Prod.mk.inj (Option.some.inj hf)
      exact z_aret hx hb hr (Or.inl ⟨_, rfl⟩) (va_rf_or _) hlk hw dX3_readWord_86
    · have hf := (if_neg c15).symm.trans hf
      refine lv_aload_n hx hb dX3_readWord_18 rfl (lv_at hl 2 rfl) ?_
      refine lv_iload hx hb dX3_readWord_19 (lv_at hl 4 rfl) ?_
      obtain ⟨h21, hf⟩ := gd_some hf
      refine z_wsald hx hb Z hw (inB_vp h21) dX3_readWord_21 ?_
      refine lv_astore (lv' := [(5, _), (0, _), (1, _), (2, _), (3, _), (4, _)]) hx hb dX3_readWord_22 hl (by decide) rfl (fun ls hl => ?_)
      refine lv_aload_n hx hb dX3_readWord_24 rfl (lv_at hl 1 rfl) ?_
      refine lv_aload hx hb dX3_readWord_25 (lv_at hl 0 rfl) ?_
      refine z_letters hx hb Z hw (inB_lt h21) wd1181 dX3_readWord_27 ?_
      obtain ⟨q30, hq30, hf⟩ := ob_some hf
      refine z_callVi (o := 59) (ci := 2) (As := [.ref (gA G (20 + x4.toNatClampNeg))]) (rest := []) (t_X3_sameAs G l hN x4.toNatClampNeg (by have := (inB_lt h21); omega) h hq30) cv_X3_sameAs hx hb hml hl.1 Z hw (by decide) (by decide) (by omega) rfl rfl wd627 rfl rfl (Nat.le_of_ble_eq_true rfl) (by decide) dX3_readWord_30 (fun H locs hw => ?_)
      refine lv_istore (lv' := [(6, _), (5, _), (0, _), (1, _), (2, _), (3, _), (4, _)]) hx hb dX3_readWord_33 hl (by decide) rfl (fun ls hl => ?_)
      refine lv_iload hx hb dX3_readWord_35 (lv_at hl 0 rfl) ?_
      refine lv_aload hx hb dX3_readWord_37 (lv_at hl 1 rfl) ?_
      refine z_letters hx hb Z hw (inB_lt h21) wd1181 dX3_readWord_39 ?_
      refine z_strlen (sid := x4.toNatClampNeg) (rest := [.int q30]) G l hx hb hml hl.1 Z hw (by have := (inB_lt h21); omega) wd631 (Nat.le_of_ble_eq_true rfl) (by decide) dX3_readWord_42 (fun H locs hw => ?_)
      refine lv_icmp_ne (tgt := 62) hx hb dX3_readWord_45 (by decide) (fun c45 => ?_) (fun c45 => ?_)
      · have hf := (if_neg c45).symm.trans hf
        refine lv_iload_n hx hb dX3_readWord_62 rfl (lv_at hl 3 rfl) ?_
        refine lv_iload hx hb dX3_readWord_63 (lv_at hl 0 rfl) ?_
        refine z_mmax hx hb (hml.trans hl.1.symm) Z wd683 wd465 wd82 wd466 (Nat.le_of_ble_eq_true rfl) dX3_readWord_65 ?_
        refine lv_istore_n (lv' := [(1, _), (6, _), (5, _), (0, _), (2, _), (3, _), (4, _)]) hx hb dX3_readWord_68 rfl hl (by decide) rfl (fun ls hl => ?_)
        refine lv_iinc (v := x4 + (1 : Int32)) (lv' := [(4, _), (1, _), (6, _), (5, _), (0, _), (2, _), (3, _)]) hx hb dX3_readWord_69 hl (k := 6) rfl rfl (by decide) rfl (fun ls hl => ?_)
        refine lv_goto (tgt := 12) hx hb dX3_readWord_72 (by decide) ?_
        exact ih (jmax x1 q30) x3 (x4 + (1 : Int32)) h r h' ls H locs (lv_sub hl [4, 1, 5, 6, 0] rfl) hw hf
      · have hf := (if_pos c45).symm.trans hf
        refine lv_aload_n hx hb dX3_readWord_48 rfl (lv_at hl 2 rfl) ?_
        refine lv_dup hx hb dX3_readWord_49 rfl ?_
        refine z_geti (o := 59) (C := RX3) (T := TX3) (N := 6) (ci := 2) (k := 5) hx hb Z hw (by decide) (by omega) rfl inX3 (by decide) wd248 dX3_readWord_50 ?_
        refine lv_iload hx hb dX3_readWord_53 (lv_at hl 0 rfl) ?_
        refine lv_iadd hx hb dX3_readWord_55 ?_
        refine z_puti (o := 59) (v := (h 59 5) + q30) (ty := .int) (C := RX3) (T := TX3) (N := 6) (ci := 2) (k := 5) hx hb Z hw (by decide) (by omega) rfl inX3 tyX3 tyX3_ok nmX3 (by decide) wd248 rfl (by decide +kernel) rfl rfl dX3_readWord_56 (fun H locs hw => ?_)
        refine lv_aload hx hb dX3_readWord_59 (lv_at hl 1 rfl) ?_
        rw [← wrf_W (G := G) (inB_lt h21)]
        obtain ⟨rfl, rfl⟩ := Prod.mk.inj (Option.some.inj hf)
        exact z_aret hx hb hr (Or.inl ⟨_, rfl⟩) (va_rf_or _) hlk hw dX3_readWord_61
set_option maxHeartbeats 4000000 in
set_option maxRecDepth 100000 in
theorem t_X3_readWord (G : GM) (l : Launch) (hN : 70 ≤ gN G)  (h : HP) {r : Int32} {h' : HP} (hf : f_X3_readWord  h = some (r, h')) : MC G l yX3_readWord cX3_readWord 7 (some (.object "LineDisc$Word")) 5 [.ref (ra G 59)] h h' (some (va_rf (wrf G r))) := by
  unfold f_X3_readWord at hf
  refine z_start (by decide) (Nat.le_of_ble_eq_true rfl) ?_
  intro p e s m args below meth c ls hx hb hr hlk hml Z hw hl
  have Z : ZK G s args m RX3 := Z
  have hl : lv_has ls 7 [(0, .ref (ra G 59))] := hl
  obtain ⟨H, hH⟩ : ∃ H, H = s.heap := ⟨_, rfl⟩
  rw [← hH] at hw ⊢
  obtain ⟨locs, hlc⟩ : ∃ locs : List Loc, locs = [] := ⟨_, rfl⟩
  rw [← hlc] at hw ⊢
  refine lv_iconst (v := (0 : Int32)) hx hb dX3_readWord_0 (by decide) ?_
  refine lv_istore_n (lv' := [(1, _), (0, _)]) hx hb dX3_readWord_1 rfl hl (by decide) rfl (fun ls hl => ?_)
  refine z_getWORDS hx hb Z hw wd625 dX3_readWord_2 ?_
  refine lv_astore_n (lv' := [(2, _), (1, _), (0, _)]) hx hb dX3_readWord_5 rfl hl (by decide) rfl (fun ls hl => ?_)
  refine lv_aload_n hx hb dX3_readWord_6 rfl (lv_at hl 0 rfl) ?_
  refine z_salen hx hb Z hw dX3_readWord_7 ?_
  refine lv_istore_n (lv' := [(3, _), (2, _), (1, _), (0, _)]) hx hb dX3_readWord_8 rfl hl (by decide) rfl (fun ls hl => ?_)
  refine lv_iconst (v := (0 : Int32)) hx hb dX3_readWord_9 (by decide) ?_
  refine lv_istore (lv' := [(4, _), (3, _), (2, _), (1, _), (0, _)]) hx hb dX3_readWord_10 hl (by decide) rfl (fun ls hl => ?_)
  exact w_X3_readWord_L12 G l hN  hx hb hr hlk hml Z FU (0 : Int32) (5 : Int32) (0 : Int32) h _ _ ls H locs (lv_sub hl [4, 3, 2, 1, 0] rfl) hw hf
set_option maxHeartbeats 4000000 in
set_option maxRecDepth 100000 in
theorem t_X9_isKind (G : GM) (l : Launch) (hN : 70 ≤ gN G) (x0 : Int32) (h : HP) : MC G l yX9_isKind cX9_isKind 1 (some .boolean) 0 [.int x0] h h (some (.int (f_X9_isKind x0 h))) := by
  generalize hf : f_X9_isKind x0 h = r
  unfold f_X9_isKind at hf
  refine z_start (by decide) (Nat.le_of_ble_eq_true rfl) ?_
  intro p e s m args below meth c ls hx hb hr hlk hml Z hw hl
  have Z : ZK G s args m RX9 := Z
  have hl : lv_has ls 1 [(0, .int x0)] := hl
  obtain ⟨H, hH⟩ : ∃ H, H = s.heap := ⟨_, rfl⟩
  rw [← hH] at hw ⊢
  obtain ⟨locs, hlc⟩ : ∃ locs : List Loc, locs = [] := ⟨_, rfl⟩
  rw [← hlc] at hw ⊢
  refine lv_iload_n hx hb dX9_isKind_0 rfl (lv_at hl 0 rfl) ?_
  refine lv_bipush (v := (65 : Int32)) hx hb dX9_isKind_1 (by decide) ?_
  refine lv_icmp_lt (tgt := 16) hx hb dX9_isKind_3 (by decide) (fun c3 => ?_) (fun c3 => ?_)
  · have hf := (if_pos c3).symm.trans hf
    refine lv_iconst (v := (0 : Int32)) hx hb dX9_isKind_16 (by decide) ?_
    obtain rfl := hf
    exact z_zret hx hb hr rfl hlk hw dX9_isKind_17
  · have hf := (if_neg c3).symm.trans hf
    refine lv_iload_n hx hb dX9_isKind_6 rfl (lv_at hl 0 rfl) ?_
    refine lv_bipush (v := (90 : Int32)) hx hb dX9_isKind_7 (by decide) ?_
    refine lv_icmp_gt (tgt := 16) hx hb dX9_isKind_9 (by decide) (fun c9 => ?_) (fun c9 => ?_)
    · have hf := (if_pos c9).symm.trans hf
      refine lv_iconst (v := (0 : Int32)) hx hb dX9_isKind_16 (by decide) ?_
      obtain rfl := hf
      exact z_zret hx hb hr rfl hlk hw dX9_isKind_17
    · have hf := (if_neg c9).symm.trans hf
      refine lv_iconst (v := (1 : Int32)) hx hb dX9_isKind_12 (by decide) ?_
      refine lv_goto (tgt := 17) hx hb dX9_isKind_13 (by decide) ?_
      obtain rfl := hf
      exact z_zret hx hb hr rfl hlk hw dX9_isKind_17
set_option maxHeartbeats 4000000 in
set_option maxRecDepth 100000 in
theorem w_X3_readOrder_L37 (G : GM) (l : Launch) (hN : 70 ≤ gN G)  {p : Program} {e : Env} {s : State} {m : MethodId} {args : Array Value} {below : List Frame} {meth : Method} {c : Code} (hx : p.tables.exec = Jvm.exec) (hb : c.code = cX3_readOrder) (hr : meth.sig.returnType = (some .boolean)) (hlk : meth.locks = false) (hml : c.maxLocals = 6) (Z : ZK G s args m RX3) : ∀ (n : Nat) (w1 : Nat) (x2 : Int32) (x3 : Int32) (nw1 : w1 < 5) (h : HP) (r : Int32) (h' : HP) (ls : Array Slot) (H : Heap) (locs : List Loc), lv_has ls 6 [(0, .ref (ra G 59)), (1, .ref (gA G (11 + w1))), (2, .int x2), (3, .int x3)] → HW G h s H locs → f_X3_readOrder_L37 n w1 x2 x3 h = some (r, h') → WZ p l e 6 s m args below meth c G (some (.int r)) h' H locs (F0 m 37 ls []) := by
  intro n
  induction n with
  | zero => intro w1 x2 x3 nw1 h r h' ls H locs hl hw hf; cases hf
  | succ n ih =>
    intro w1 x2 x3 nw1 h r h' ls H locs hl hw hf
    rw [f_X3_readOrder_L37] at hf
    refine lv_iload_n hx hb dX3_readOrder_37 rfl (lv_at hl 3 rfl) ?_
    refine lv_aload_n hx hb dX3_readOrder_38 rfl (lv_at hl 1 rfl) ?_
    refine z_form hx hb Z hw nw1 wd1184 dX3_readOrder_39 ?_
    refine z_strlen (sid := (5 + w1)) (rest := [.int x3]) G l hx hb hml hl.1 Z hw (by have := nw1; omega) wd631 (Nat.le_of_ble_eq_true rfl) (by decide) dX3_readOrder_42 (fun H locs hw => ?_)
    refine lv_icmp_ge (tgt := 120) hx hb dX3_readOrder_45 (by decide) (fun c45 => ?_) (fun c45 => ?_)
    · have hf := (if_pos c45).symm.trans hf
      refine lv_aload_n hx hb dX3_readOrder_120 rfl (lv_at hl 0 rfl) ?_
      refine lv_dup hx hb dX3_readOrder_121 rfl ?_
      refine z_geti (o := 59) (C := RX3) (T := TX3) (N := 6) (ci := 2) (k := 4) hx hb Z hw (by decide) (by omega) rfl inX3 (by decide) wd246 dX3_readOrder_122 ?_
      refine lv_iconst (v := (1 : Int32)) hx hb dX3_readOrder_125 (by decide) ?_
      refine lv_iadd hx hb dX3_readOrder_126 ?_
      refine z_puti (o := 59) (v := (h 59 4) + (1 : Int32)) (ty := .int) (C := RX3) (T := TX3) (N := 6) (ci := 2) (k := 4) hx hb Z hw (by decide) (by omega) rfl inX3 tyX3 tyX3_ok nmX3 (by decide) wd246 rfl (by decide +kernel) rfl rfl dX3_readOrder_127 (fun H locs hw => ?_)
      refine lv_iconst (v := (1 : Int32)) hx hb dX3_readOrder_130 (by decide) ?_
      obtain ⟨rfl, rfl⟩ := Prod.mk.inj (Option.some.inj hf)
      exact z_zret hx hb hr rfl hlk hw dX3_readOrder_131
    · have hf := (if_neg c45).symm.trans hf
      refine lv_aload_n hx hb dX3_readOrder_48 rfl (lv_at hl 1 rfl) ?_
      refine z_form hx hb Z hw nw1 wd1184 dX3_readOrder_49 ?_
      refine lv_iload_n hx hb dX3_readOrder_52 rfl (lv_at hl 3 rfl) ?_
      obtain ⟨h53, hf⟩ := gd_some hf
      refine z_charAt (sid := (5 + w1)) (rest := []) G l hx hb hml hl.1 Z hw (by have := nw1; omega) h53 wd641 (Nat.le_of_ble_eq_true rfl) (by decide) dX3_readOrder_53 (fun H locs hw => ?_)
      refine lv_istore (lv' := [(4, _), (0, _), (1, _), (2, _), (3, _)]) hx hb dX3_readOrder_56 hl (by decide) rfl (fun ls hl => ?_)
      refine lv_iload hx hb dX3_readOrder_58 (lv_at hl 0 rfl) ?_
      refine z_callSi (As := [.int (schr (5 + w1) x3)]) (rest := []) (t_X9_isKind G l hN (schr (5 + w1) x3) h) cs_X9_isKind hx hb hml hl.1 Z hw wd684 rfl rfl (Nat.le_of_ble_eq_true rfl) (by decide) dX3_readOrder_60 (fun H locs hw => ?_)
      refine lv_istore (lv' := [(5, _), (4, _), (0, _), (1, _), (2, _), (3, _)]) hx hb dX3_readOrder_63 hl (by decide) rfl (fun ls hl => ?_)
      refine lv_iload hx hb dX3_readOrder_65 (lv_at hl 0 rfl) ?_
      refine lv_if_eq (tgt := 90) hx hb dX3_readOrder_67 (by decide) (fun c67 => ?_) (fun c67 => ?_)
      · have hf := (if_pos c67).symm.trans hf
        refine lv_aload_n hx hb dX3_readOrder_90 rfl (lv_at hl 2 rfl) ?_
        refine lv_iload hx hb dX3_readOrder_91 (lv_at hl 1 rfl) ?_
        obtain ⟨q93, hq93, hf⟩ := tb_ex hf
        refine z_callVi (o := 59) (ci := 2) (As := [.int (schr (5 + w1) x3)]) (rest := []) (t_X3_readSign G l hN (schr (5 + w1) x3) h hq93) cv_X3_readSign hx hb hml hl.1 Z hw (by decide) (by decide) (by omega) rfl rfl wd702 rfl rfl (Nat.le_of_ble_eq_true rfl) (by decide) dX3_readOrder_93 (fun H locs hw => ?_)
        refine lv_if_ne (tgt := 101) hx hb dX3_readOrder_96 (by decide) (fun c96 => ?_) (fun c96 => ?_)
        · have hf := (if_neg c96).symm.trans hf
          refine lv_iload_n hx hb dX3_readOrder_101 rfl (lv_at hl 4 rfl) ?_
          refine lv_iload hx hb dX3_readOrder_102 (lv_at hl 0 rfl) ?_
          have HJ112 : ∀ (ls : Array Slot) (H : Heap) (locs : List Loc), lv_has ls 6 [(0, .ref (ra G 59)), (1, .ref (gA G (11 + w1))), (3, .int x3)] → HW G q93.2 s H locs → WZ p l e 6 s m args below meth c G (some (.int r)) h' H locs (F0 m 112 ls [.int (if (f_X9_isKind (schr (5 + w1) x3) h) = 0 then (0 : Int32) else (1 : Int32)), .int x2]) := by
            intro ls H locs hl hw
            refine lv_iadd hx hb dX3_readOrder_112 ?_
            obtain ⟨v113, hqv113, hf⟩ := tb_ex hf
            refine z_top hqv113 ?_
            refine lv_istore_n (lv' := [(2, _), (0, _), (1, _), (3, _)]) hx hb dX3_readOrder_113 rfl hl (by decide) rfl (fun ls hl => ?_)
            refine lv_iinc (v := x3 + (1 : Int32)) (lv' := [(3, _), (2, _), (0, _), (1, _)]) hx hb dX3_readOrder_114 hl (k := 3) rfl rfl (by decide) rfl (fun ls hl => ?_)
            refine lv_goto (tgt := 37) hx hb dX3_readOrder_117 (by decide) ?_
            exact ih w1 v113 (x3 + (1 : Int32)) nw1 q93.2 r h' ls H locs (lv_sub hl [2, 3, 1, 0] rfl) hw hf
          refine lv_if_eq (tgt := 111) hx hb dX3_readOrder_104 (by decide) (fun c104 => ?_) (fun c104 => ?_)
          · skip
            refine lv_iconst (v := (0 : Int32)) hx hb dX3_readOrder_111 (by decide) ?_
            refine W.eq (g2 := F0 m 112 ls [.int (if (f_X9_isKind (schr (5 + w1) x3) h) = 0 then (0 : Int32) else (1 : Int32)), .int x2]) ?_ (HJ112 ls H locs (lv_sub hl [2, 3, 5] rfl) hw)
            simp only [if_pos c104]
          · skip
            refine lv_iconst (v := (1 : Int32)) hx hb dX3_readOrder_107 (by decide) ?_
            refine lv_goto (tgt := 112) hx hb dX3_readOrder_108 (by decide) ?_
            refine W.eq (g2 := F0 m 112 ls [.int (if (f_X9_isKind (schr (5 + w1) x3) h) = 0 then (0 : Int32) else (1 : Int32)), .int x2]) ?_ (HJ112 ls H locs (lv_sub hl [2, 3, 5] rfl) hw)
            simp only [if_neg c104]
        · have hf := (if_pos c96).symm.trans hf
          refine lv_iconst (v := (0 : Int32)) hx hb dX3_readOrder_99 (by decide) ?_
          obtain ⟨rfl, rfl⟩ := Prod.mk.inj (Option.some.inj hf)
          exact z_zret hx hb hr rfl hlk hw dX3_readOrder_100
      · have hf := (if_neg c67).symm.trans hf
        refine lv_aload_n hx hb dX3_readOrder_70 rfl (lv_at hl 2 rfl) ?_
        refine lv_iload hx hb dX3_readOrder_71 (lv_at hl 1 rfl) ?_
        refine lv_aload_n hx hb dX3_readOrder_73 rfl (lv_at hl 2 rfl) ?_
        refine z_geti (o := 59) (C := RX3) (T := TX3) (N := 6) (ci := 2) (k := 4) hx hb Z hw (by decide) (by omega) rfl inX3 (by decide) wd246 dX3_readOrder_74 ?_
        refine lv_iconst (v := (4 : Int32)) hx hb dX3_readOrder_77 (by decide) ?_
        refine lv_imul hx hb dX3_readOrder_78 ?_
        refine lv_iload_n hx hb dX3_readOrder_79 rfl (lv_at hl 4 rfl) ?_
        refine lv_iadd hx hb dX3_readOrder_80 ?_
        obtain ⟨q81, hq81, hf⟩ := ob_some hf
        refine z_callVi (o := 59) (ci := 2) (As := [.int (schr (5 + w1) x3), .int (((h 59 4) * (4 : Int32)) + x2)]) (rest := []) (t_X3_readNumber G l hN (schr (5 + w1) x3) (((h 59 4) * (4 : Int32)) + x2) h hq81) cv_X3_readNumber hx hb hml hl.1 Z hw (by decide) (by decide) (by omega) rfl rfl wd687 rfl rfl (Nat.le_of_ble_eq_true rfl) (by decide) dX3_readOrder_81 (fun H locs hw => ?_)
        refine lv_if_ne (tgt := 101) hx hb dX3_readOrder_84 (by decide) (fun c84 => ?_) (fun c84 => ?_)
        · have hf := (if_neg c84).symm.trans hf
          refine lv_iload_n hx hb dX3_readOrder_101 rfl (lv_at hl 4 rfl) ?_
          refine lv_iload hx hb dX3_readOrder_102 (lv_at hl 0 rfl) ?_
          have HJ112 : ∀ (ls : Array Slot) (H : Heap) (locs : List Loc), lv_has ls 6 [(0, .ref (ra G 59)), (1, .ref (gA G (11 + w1))), (3, .int x3)] → HW G q81.2 s H locs → WZ p l e 6 s m args below meth c G (some (.int r)) h' H locs (F0 m 112 ls [.int (if (f_X9_isKind (schr (5 + w1) x3) h) = 0 then (0 : Int32) else (1 : Int32)), .int x2]) := by
            intro ls H locs hl hw
            refine lv_iadd hx hb dX3_readOrder_112 ?_
            obtain ⟨v113, hqv113, hf⟩ := tb_ex hf
            refine z_top hqv113 ?_
            refine lv_istore_n (lv' := [(2, _), (0, _), (1, _), (3, _)]) hx hb dX3_readOrder_113 rfl hl (by decide) rfl (fun ls hl => ?_)
            refine lv_iinc (v := x3 + (1 : Int32)) (lv' := [(3, _), (2, _), (0, _), (1, _)]) hx hb dX3_readOrder_114 hl (k := 3) rfl rfl (by decide) rfl (fun ls hl => ?_)
            refine lv_goto (tgt := 37) hx hb dX3_readOrder_117 (by decide) ?_
            exact ih w1 v113 (x3 + (1 : Int32)) nw1 q81.2 r h' ls H locs (lv_sub hl [2, 3, 1, 0] rfl) hw hf
          refine lv_if_eq (tgt := 111) hx hb dX3_readOrder_104 (by decide) (fun c104 => ?_) (fun c104 => ?_)
          · skip
            refine lv_iconst (v := (0 : Int32)) hx hb dX3_readOrder_111 (by decide) ?_
            refine W.eq (g2 := F0 m 112 ls [.int (if (f_X9_isKind (schr (5 + w1) x3) h) = 0 then (0 : Int32) else (1 : Int32)), .int x2]) ?_ (HJ112 ls H locs (lv_sub hl [2, 3, 5] rfl) hw)
            simp only [if_pos c104]
          · skip
            refine lv_iconst (v := (1 : Int32)) hx hb dX3_readOrder_107 (by decide) ?_
            refine lv_goto (tgt := 112) hx hb dX3_readOrder_108 (by decide) ?_
            refine W.eq (g2 := F0 m 112 ls [.int (if (f_X9_isKind (schr (5 + w1) x3) h) = 0 then (0 : Int32) else (1 : Int32)), .int x2]) ?_ (HJ112 ls H locs (lv_sub hl [2, 3, 5] rfl) hw)
            simp only [if_neg c104]
        · have hf := (if_pos c84).symm.trans hf
          refine lv_goto (tgt := 99) hx hb dX3_readOrder_87 (by decide) ?_
          refine lv_iconst (v := (0 : Int32)) hx hb dX3_readOrder_99 (by decide) ?_
          obtain ⟨rfl, rfl⟩ := Prod.mk.inj (Option.some.inj hf)
          exact z_zret hx hb hr rfl hlk hw dX3_readOrder_100
set_option maxHeartbeats 4000000 in
set_option maxRecDepth 100000 in
theorem t_X3_readOrder (G : GM) (l : Launch) (hN : 70 ≤ gN G)  (h : HP) {r : Int32} {h' : HP} (hf : f_X3_readOrder  h = some (r, h')) : MC G l yX3_readOrder cX3_readOrder 6 (some .boolean) 6 [.ref (ra G 59)] h h' (some (.int r)) := by
  unfold f_X3_readOrder at hf
  refine z_start (by decide) (Nat.le_of_ble_eq_true rfl) ?_
  intro p e s m args below meth c ls hx hb hr hlk hml Z hw hl
  have Z : ZK G s args m RX3 := Z
  have hl : lv_has ls 6 [(0, .ref (ra G 59))] := hl
  obtain ⟨H, hH⟩ : ∃ H, H = s.heap := ⟨_, rfl⟩
  rw [← hH] at hw ⊢
  obtain ⟨locs, hlc⟩ : ∃ locs : List Loc, locs = [] := ⟨_, rfl⟩
  rw [← hlc] at hw ⊢
  refine lv_aload_n hx hb dX3_readOrder_0 rfl (lv_at hl 0 rfl) ?_
  obtain ⟨q1, hq1, hf⟩ := ob_some hf
  refine z_callVi (o := 59) (ci := 2) (As := []) (rest := []) (t_X3_readWord G l hN  h hq1) cv_X3_readWord hx hb hml hl.1 Z hw (by decide) (by decide) (by omega) rfl rfl wd621 rfl rfl (Nat.le_of_ble_eq_true rfl) (by decide) dX3_readOrder_1 (fun H locs hw => ?_)
  by_cases c1 : q1.1 = 0
  · have hf := (if_pos c1).symm.trans hf
    rw [wrf_z c1]
    refine lv_astore_nN (lv' := [(1, _), (0, _)]) hx hb dX3_readOrder_4 rfl hl (by decide) rfl (fun ls hl => ?_)
    refine lv_aload_nN hx hb dX3_readOrder_5 rfl (lv_at hl 0 rfl) ?_
    refine lv_ifnullN (tgt := 21) hx hb dX3_readOrder_6 (by decide) ?_
    refine lv_iconst (v := (0 : Int32)) hx hb dX3_readOrder_21 (by decide) ?_
    obtain ⟨rfl, rfl⟩ := Prod.mk.inj (Option.some.inj hf)
    exact z_zret hx hb hr rfl hlk hw dX3_readOrder_22
  · have hf := (if_neg c1).symm.trans hf
    obtain ⟨hs1, hf⟩ := gd_some hf
    rw [wrf_nz c1 hs1]
    refine lv_astore_n (lv' := [(1, _), (0, _)]) hx hb dX3_readOrder_4 rfl hl (by decide) rfl (fun ls hl => ?_)
    refine lv_aload_n hx hb dX3_readOrder_5 rfl (lv_at hl 0 rfl) ?_
    refine lv_ifnull hx hb dX3_readOrder_6 ?_
    refine lv_aload_n hx hb dX3_readOrder_9 rfl (lv_at hl 1 rfl) ?_
    refine z_geti (o := 59) (C := RX3) (T := TX3) (N := 6) (ci := 2) (k := 4) hx hb Z hw (by decide) (by omega) rfl inX3 (by decide) wd246 dX3_readOrder_10 ?_
    refine lv_aload_n hx hb dX3_readOrder_13 rfl (lv_at hl 1 rfl) ?_
    refine z_getr (o := 59) (o2 := 61) (C := RX3) (T := TX3) (N := 6) (ci := 2) (k := 2) hx hb Z hw (by decide) (by omega) rfl inX3 (by decide) rfl wd244 dX3_readOrder_14 ?_
    refine z_alen (o := 61) (v := (10 : Int32)) hx hb Z hw (by decide) (by omega) (by decide) dX3_readOrder_17 ?_
    refine lv_icmp_lt (tgt := 23) hx hb dX3_readOrder_18 (by decide) (fun c18 => ?_) (fun c18 => ?_)
    · have hf := (if_pos c18).symm.trans hf
      refine lv_aload_n hx hb dX3_readOrder_23 rfl (lv_at hl 1 rfl) ?_
      refine z_getr (o := 59) (o2 := 61) (C := RX3) (T := TX3) (N := 6) (ci := 2) (k := 2) hx hb Z hw (by decide) (by omega) rfl inX3 (by decide) rfl wd244 dX3_readOrder_24 ?_
      refine lv_aload_n hx hb dX3_readOrder_27 rfl (lv_at hl 1 rfl) ?_
      refine z_geti (o := 59) (C := RX3) (T := TX3) (N := 6) (ci := 2) (k := 4) hx hb Z hw (by decide) (by omega) rfl inX3 (by decide) wd246 dX3_readOrder_28 ?_
      refine lv_aload_n hx hb dX3_readOrder_31 rfl (lv_at hl 0 rfl) ?_
      obtain ⟨h32, hf⟩ := gd_some hf
      refine z_wast (o := 61) (k := ((q1.1).toNatClampNeg - 1)) hx hb Z hw (by decide) (by omega) (inB_vp h32) (isWd_lt hs1) dX3_readOrder_32 (fun H locs hw => ?_)
      refine lv_iconst (v := (0 : Int32)) hx hb dX3_readOrder_33 (by decide) ?_
      refine lv_istore_n (lv' := [(2, _), (1, _), (0, _)]) hx hb dX3_readOrder_34 rfl hl (by decide) rfl (fun ls hl => ?_)
      refine lv_iconst (v := (0 : Int32)) hx hb dX3_readOrder_35 (by decide) ?_
      refine lv_istore_n (lv' := [(3, _), (2, _), (1, _), (0, _)]) hx hb dX3_readOrder_36 rfl hl (by decide) rfl (fun ls hl => ?_)
      exact w_X3_readOrder_L37 G l hN  hx hb hr hlk hml Z FU ((q1.1).toNatClampNeg - 1) (0 : Int32) (0 : Int32) (isWd_lt hs1) (hset q1.2 61 (q1.2 59 4).toNatClampNeg (nI (((q1.1).toNatClampNeg - 1) + 1))) _ _ ls H locs (lv_sub hl [3, 2, 1, 0] rfl) hw hf
    · have hf := (if_neg c18).symm.trans hf
      refine lv_iconst (v := (0 : Int32)) hx hb dX3_readOrder_21 (by decide) ?_
      obtain ⟨rfl, rfl⟩ := Prod.mk.inj (Option.some.inj hf)
      exact z_zret hx hb hr rfl hlk hw dX3_readOrder_22
set_option maxHeartbeats 4000000 in
set_option maxRecDepth 100000 in
theorem w_X3_readAll_L12 (G : GM) (l : Launch) (hN : 70 ≤ gN G)  {p : Program} {e : Env} {s : State} {m : MethodId} {args : Array Value} {below : List Frame} {meth : Method} {c : Code} (hx : p.tables.exec = Jvm.exec) (hb : c.code = cX3_readAll) (hr : meth.sig.returnType = (some .int)) (hlk : meth.locks = false) (hml : c.maxLocals = 2) (Z : ZK G s args m RX3) : ∀ (n : Nat) (x1 : Int32)  (h : HP) (r : Int32) (h' : HP) (ls : Array Slot) (H : Heap) (locs : List Loc), lv_has ls 2 [(0, .ref (ra G 59)), (1, .int x1)] → HW G h s H locs → f_X3_readAll_L12 n x1 h = some (r, h') → WZ p l e 7 s m args below meth c G (some (.int r)) h' H locs (F0 m 12 ls []) := by
  intro n
  induction n with
  | zero => intro x1  h r h' ls H locs hl hw hf; cases hf
  | succ n ih =>
    intro x1  h r h' ls H locs hl hw hf
    rw [f_X3_readAll_L12] at hf
    refine lv_iload_n hx hb dX3_readAll_12 rfl (lv_at hl 1 rfl) ?_
    refine lv_bipush (v := (10 : Int32)) hx hb dX3_readAll_13 (by decide) ?_
    refine lv_icmp_ge (tgt := 64) hx hb dX3_readAll_15 (by decide) (fun c15 => ?_) (fun c15 => ?_)
    · have hf := (if_pos c15).symm.trans hf
      refine lv_aload_n hx hb dX3_readAll_64 rfl (lv_at hl 0 rfl) ?_
      refine z_geti (o := 59) (C := RX3) (T := TX3) (N := 6) (ci := 2) (k := 5) hx hb Z hw (by decide) (by omega) rfl inX3 (by decide) wd248 dX3_readAll_65 ?_
      obtain ⟨rfl, rfl⟩ := Prod.mk.inj (Option.some.inj hf)
      exact z_iret hx hb hr hlk hw dX3_readAll_68
    · have hf := (if_neg c15).symm.trans hf
      refine lv_aload_n hx hb dX3_readAll_18 rfl (lv_at hl 0 rfl) ?_
      obtain ⟨q19, hq19, hf⟩ := ob_some hf
      refine z_callVi (o := 59) (ci := 2) (As := []) (rest := []) (t_X3_readOrder G l hN  h hq19) cv_X3_readOrder hx hb hml hl.1 Z hw (by decide) (by decide) (by omega) rfl rfl wd617 rfl rfl (Nat.le_of_ble_eq_true rfl) (by decide) dX3_readAll_19 (fun H locs hw => ?_)
      refine lv_if_ne (tgt := 30) hx hb dX3_readAll_22 (by decide) (fun c22 => ?_) (fun c22 => ?_)
      · have hf := (if_neg c22).symm.trans hf
        refine lv_aload_n hx hb dX3_readAll_30 rfl (lv_at hl 0 rfl) ?_
        refine z_geti (o := 59) (C := RX3) (T := TX3) (N := 6) (ci := 2) (k := 5) hx hb Z hw (by decide) (by omega) rfl inX3 (by decide) wd248 dX3_readAll_31 ?_
        refine lv_aload_n hx hb dX3_readAll_34 rfl (lv_at hl 0 rfl) ?_
        refine z_geti (o := 59) (C := RX3) (T := TX3) (N := 6) (ci := 2) (k := 1) hx hb Z hw (by decide) (by omega) rfl inX3 (by decide) wd242 dX3_readAll_35 ?_
        refine lv_icmp_lt (tgt := 44) hx hb dX3_readAll_38 (by decide) (fun c38 => ?_) (fun c38 => ?_)
        · have hf := (if_pos c38).symm.trans hf
          refine lv_aload_n hx hb dX3_readAll_44 rfl (lv_at hl 0 rfl) ?_
          refine lv_bipush (v := (59 : Int32)) hx hb dX3_readAll_45 (by decide) ?_
          obtain ⟨q47, hq47, hf⟩ := tb_ex hf
          refine z_callVi (o := 59) (ci := 2) (As := [.int (59 : Int32)]) (rest := []) (t_X3_readSign G l hN (59 : Int32) q19.2 hq47) cv_X3_readSign hx hb hml hl.1 Z hw (by decide) (by decide) (by omega) rfl rfl wd702 rfl rfl (Nat.le_of_ble_eq_true rfl) (by decide) dX3_readAll_47 (fun H locs hw => ?_)
          refine lv_if_ne (tgt := 58) hx hb dX3_readAll_50 (by decide) (fun c50 => ?_) (fun c50 => ?_)
          · have hf := (if_neg c50).symm.trans hf
            refine lv_iinc (v := x1 + (1 : Int32)) (lv' := [(1, _), (0, _)]) hx hb dX3_readAll_58 hl (k := 1) rfl rfl (by decide) rfl (fun ls hl => ?_)
            refine lv_goto (tgt := 12) hx hb dX3_readAll_61 (by decide) ?_
            exact ih (x1 + (1 : Int32)) q47.2 r h' ls H locs (lv_sub hl [1, 0] rfl) hw hf
          · have hf := (if_pos c50).symm.trans hf
            refine lv_aload_n hx hb dX3_readAll_53 rfl (lv_at hl 0 rfl) ?_
            refine z_geti (o := 59) (C := RX3) (T := TX3) (N := 6) (ci := 2) (k := 5) hx hb Z hw (by decide) (by omega) rfl inX3 (by decide) wd248 dX3_readAll_54 ?_
            obtain ⟨rfl, rfl⟩ := Prod.mk.inj (Option.some.inj hf)
            exact z_iret hx hb hr hlk hw dX3_readAll_57
        · have hf := (if_neg c38).symm.trans hf
          refine lv_bipush (v := (-5 : Int32)) hx hb dX3_readAll_41 (by decide) ?_
          obtain ⟨rfl, rfl⟩ := Prod.mk.inj (Option.some.inj hf)
          exact z_iret hx hb hr hlk hw dX3_readAll_43
      · have hf := (if_pos c22).symm.trans hf
        refine lv_aload_n hx hb dX3_readAll_25 rfl (lv_at hl 0 rfl) ?_
        refine z_geti (o := 59) (C := RX3) (T := TX3) (N := 6) (ci := 2) (k := 5) hx hb Z hw (by decide) (by omega) rfl inX3 (by decide) wd248 dX3_readAll_26 ?_
        obtain ⟨rfl, rfl⟩ := Prod.mk.inj (Option.some.inj hf)
        exact z_iret hx hb hr hlk hw dX3_readAll_29
set_option maxHeartbeats 4000000 in
set_option maxRecDepth 100000 in
theorem t_X3_readAll (G : GM) (l : Launch) (hN : 70 ≤ gN G)  (h : HP) {r : Int32} {h' : HP} (hf : f_X3_readAll  h = some (r, h')) : MC G l yX3_readAll cX3_readAll 2 (some .int) 7 [.ref (ra G 59)] h h' (some (.int r)) := by
  unfold f_X3_readAll at hf
  refine z_start (by decide) (Nat.le_of_ble_eq_true rfl) ?_
  intro p e s m args below meth c ls hx hb hr hlk hml Z hw hl
  have Z : ZK G s args m RX3 := Z
  have hl : lv_has ls 2 [(0, .ref (ra G 59))] := hl
  obtain ⟨H, hH⟩ : ∃ H, H = s.heap := ⟨_, rfl⟩
  rw [← hH] at hw ⊢
  obtain ⟨locs, hlc⟩ : ∃ locs : List Loc, locs = [] := ⟨_, rfl⟩
  rw [← hlc] at hw ⊢
  refine lv_aload_n hx hb dX3_readAll_0 rfl (lv_at hl 0 rfl) ?_
  refine lv_iconst (v := (0 : Int32)) hx hb dX3_readAll_1 (by decide) ?_
  refine z_puti (o := 59) (v := (0 : Int32)) (ty := .int) (C := RX3) (T := TX3) (N := 6) (ci := 2) (k := 5) hx hb Z hw (by decide) (by omega) rfl inX3 tyX3 tyX3_ok nmX3 (by decide) wd248 rfl (by decide +kernel) rfl rfl dX3_readAll_2 (fun H locs hw => ?_)
  refine lv_aload_n hx hb dX3_readAll_5 rfl (lv_at hl 0 rfl) ?_
  refine lv_iconst (v := (0 : Int32)) hx hb dX3_readAll_6 (by decide) ?_
  obtain ⟨h7, hqh7, hf⟩ := tb_ex hf
  rw [hqh7] at hw
  refine z_puti (o := 59) (v := (0 : Int32)) (ty := .int) (C := RX3) (T := TX3) (N := 6) (ci := 2) (k := 4) hx hb Z hw (by decide) (by omega) rfl inX3 tyX3 tyX3_ok nmX3 (by decide) wd246 rfl (by decide +kernel) rfl rfl dX3_readAll_7 (fun H locs hw => ?_)
  refine lv_iconst (v := (0 : Int32)) hx hb dX3_readAll_10 (by decide) ?_
  refine lv_istore_n (lv' := [(1, _), (0, _)]) hx hb dX3_readAll_11 rfl hl (by decide) rfl (fun ls hl => ?_)
  exact w_X3_readAll_L12 G l hN  hx hb hr hlk hml Z FU (0 : Int32) (hset h7 59 4 (0 : Int32)) _ _ ls H locs (lv_sub hl [1, 0] rfl) hw hf
set_option maxHeartbeats 4000000 in
set_option maxRecDepth 100000 in
theorem t_X10_fault (G : GM) (l : Launch) (hN : 70 ≤ gN G)  (h : HP) {r : Int32} {h' : HP} (hf : f_X10_fault  h = some (r, h')) : MC G l yX10_fault cX10_fault 1 (some .int) 8 [.ref (ra G 0)] h h' (some (.int r)) := by
  unfold f_X10_fault at hf
  refine z_start (by decide) (Nat.le_of_ble_eq_true rfl) ?_
  intro p e s m args below meth c ls hx hb hr hlk hml Z hw hl
  have Z : ZK G s args m RX10 := Z
  have hl : lv_has ls 1 [(0, .ref (ra G 0))] := hl
  obtain ⟨H, hH⟩ : ∃ H, H = s.heap := ⟨_, rfl⟩
  rw [← hH] at hw ⊢
  obtain ⟨locs, hlc⟩ : ∃ locs : List Loc, locs = [] := ⟨_, rfl⟩
  rw [← hlc] at hw ⊢
  refine lv_aload_n hx hb dX10_fault_0 rfl (lv_at hl 0 rfl) ?_
  refine z_getr (o := 0) (o2 := 59) (C := RX10) (T := TX10) (N := 8) (ci := 8) (k := 5) hx hb Z hw (by decide) (by omega) rfl inX10 (by decide) rfl wd293 dX10_fault_1 ?_
  obtain ⟨q4, hq4, hf⟩ := ob_some hf
  refine z_callVi (o := 59) (ci := 2) (As := []) (rest := []) (t_X3_readAll G l hN  h hq4) cv_X3_readAll hx hb hml hl.1 Z hw (by decide) (by decide) (by omega) rfl rfl wd613 rfl rfl (Nat.le_of_ble_eq_true rfl) (by decide) dX10_fault_4 (fun H locs hw => ?_)
  obtain ⟨rfl, rfl⟩ := Prod.mk.inj (Option.some.inj hf)
  exact z_iret hx hb hr hlk hw dX10_fault_7
set_option maxHeartbeats 4000000 in
set_option maxRecDepth 100000 in
theorem t_X3_numberOf (G : GM) (l : Launch) (hN : 70 ≤ gN G) (x1 : Int32) (x2 : Int32) (h : HP) : MC G l yX3_numberOf cX3_numberOf 3 (some .int) 1 [.ref (ra G 59), .int x1, .int x2] h h (some (.int (f_X3_numberOf x1 x2 h))) := by
  generalize hf : f_X3_numberOf x1 x2 h = r
  unfold f_X3_numberOf at hf
  refine z_start (by decide) (Nat.le_of_ble_eq_true rfl) ?_
  intro p e s m args below meth c ls hx hb hr hlk hml Z hw hl
  have Z : ZK G s args m RX3 := Z
  have hl : lv_has ls 3 [(0, .ref (ra G 59)), (1, .int x1), (2, .int x2)] := hl
  obtain ⟨H, hH⟩ : ∃ H, H = s.heap := ⟨_, rfl⟩
  rw [← hH] at hw ⊢
  obtain ⟨locs, hlc⟩ : ∃ locs : List Loc, locs = [] := ⟨_, rfl⟩
  rw [← hlc] at hw ⊢
  refine lv_aload_n hx hb dX3_numberOf_0 rfl (lv_at hl 0 rfl) ?_
  refine z_getr (o := 59) (o2 := 62) (C := RX3) (T := TX3) (N := 6) (ci := 2) (k := 3) hx hb Z hw (by decide) (by omega) rfl inX3 (by decide) rfl wd245 dX3_numberOf_1 ?_
  refine lv_iload_n hx hb dX3_numberOf_4 rfl (lv_at hl 1 rfl) ?_
  refine lv_iconst (v := (4 : Int32)) hx hb dX3_numberOf_5 (by decide) ?_
  refine lv_imul hx hb dX3_numberOf_6 ?_
  refine lv_iload_n hx hb dX3_numberOf_7 rfl (lv_at hl 2 rfl) ?_
  refine lv_iadd hx hb dX3_numberOf_8 ?_
  refine z_callNi (As := [.ref (ra G 62), .int ((x1 * (4 : Int32)) + x2)]) (rest := []) (t_X10_at G l hN 62 (by decide) (by omega) ((x1 * (4 : Int32)) + x2) h) cs_X10_at hx hb hml hl.1 Z hw wd722 rfl rfl (Nat.le_of_ble_eq_true rfl) (by decide) dX3_numberOf_9 (fun H locs hw => ?_)
  obtain rfl := hf
  exact z_iret hx hb hr hlk hw dX3_numberOf_12
set_option maxHeartbeats 4000000 in
set_option maxRecDepth 100000 in
theorem t_X3_wordOf (G : GM) (l : Launch) (hN : 70 ≤ gN G) (x1 : Int32) (h : HP) : MC G l yX3_wordOf cX3_wordOf 2 (some (.object "LineDisc$Word")) 0 [.ref (ra G 59), .int x1] h h (some (va_rf (wrf G (f_X3_wordOf x1 h)))) := by
  generalize hf : f_X3_wordOf x1 h = r
  unfold f_X3_wordOf at hf
  refine z_start (by decide) (Nat.le_of_ble_eq_true rfl) ?_
  intro p e s m args below meth c ls hx hb hr hlk hml Z hw hl
  have Z : ZK G s args m RX3 := Z
  have hl : lv_has ls 2 [(0, .ref (ra G 59)), (1, .int x1)] := hl
  obtain ⟨H, hH⟩ : ∃ H, H = s.heap := ⟨_, rfl⟩
  rw [← hH] at hw ⊢
  obtain ⟨locs, hlc⟩ : ∃ locs : List Loc, locs = [] := ⟨_, rfl⟩
  rw [← hlc] at hw ⊢
  refine lv_iload_n hx hb dX3_wordOf_0 rfl (lv_at hl 1 rfl) ?_
  refine lv_if_lt (tgt := 22) hx hb dX3_wordOf_1 (by decide) (fun c1 => ?_) (fun c1 => ?_)
  · have hf := (if_pos c1).symm.trans hf
    refine lv_null hx hb dX3_wordOf_22 ?_
    rw [← wrf_0 (G := G)]
    obtain rfl := hf
    exact z_aret hx hb hr (Or.inl ⟨_, rfl⟩) (va_rf_or _) hlk hw dX3_wordOf_23
  · have hf := (if_neg c1).symm.trans hf
    refine lv_iload_n hx hb dX3_wordOf_4 rfl (lv_at hl 1 rfl) ?_
    refine lv_aload_n hx hb dX3_wordOf_5 rfl (lv_at hl 0 rfl) ?_
    refine z_getr (o := 59) (o2 := 61) (C := RX3) (T := TX3) (N := 6) (ci := 2) (k := 2) hx hb Z hw (by decide) (by omega) rfl inX3 (by decide) rfl wd244 dX3_wordOf_6 ?_
    refine z_alen (o := 61) (v := (10 : Int32)) hx hb Z hw (by decide) (by omega) (by decide) dX3_wordOf_9 ?_
    refine lv_icmp_ge (tgt := 22) hx hb dX3_wordOf_10 (by decide) (fun c10 => ?_) (fun c10 => ?_)
    · have hf := (if_pos c10).symm.trans hf
      refine lv_null hx hb dX3_wordOf_22 ?_
      rw [← wrf_0 (G := G)]
      obtain rfl := hf
      exact z_aret hx hb hr (Or.inl ⟨_, rfl⟩) (va_rf_or _) hlk hw dX3_wordOf_23
    · have hf := (if_neg c10).symm.trans hf
      refine lv_aload_n hx hb dX3_wordOf_13 rfl (lv_at hl 0 rfl) ?_
      refine z_getr (o := 59) (o2 := 61) (C := RX3) (T := TX3) (N := 6) (ci := 2) (k := 2) hx hb Z hw (by decide) (by omega) rfl inX3 (by decide) rfl wd244 dX3_wordOf_14 ?_
      refine lv_iload_n hx hb dX3_wordOf_17 rfl (lv_at hl 1 rfl) ?_
      refine z_wald (o := 61) hx hb Z hw (by decide) (by omega) (inB_nn c1 c10 (by decide)) dX3_wordOf_18 ?_
      refine lv_goto (tgt := 23) hx hb dX3_wordOf_19 (by decide) ?_
      obtain rfl := hf
      exact z_aret hx hb hr (Or.inl ⟨_, rfl⟩) (va_rf_or _) hlk hw dX3_wordOf_23
set_option maxHeartbeats 4000000 in
set_option maxRecDepth 100000 in
theorem t_X10_doOrder (G : GM) (l : Launch) (hN : 70 ≤ gN G) (x1 : Int32) (h : HP) {r : Int32} {h' : HP} (hf : f_X10_doOrder x1 h = some (r, h')) : MC G l yX10_doOrder cX10_doOrder 6 (some .int) 5 [.ref (ra G 0), .int x1] h h' (some (.int r)) := by
  unfold f_X10_doOrder at hf
  refine z_start (by decide) (Nat.le_of_ble_eq_true rfl) ?_
  intro p e s m args below meth c ls hx hb hr hlk hml Z hw hl
  have Z : ZK G s args m RX10 := Z
  have hl : lv_has ls 6 [(0, .ref (ra G 0)), (1, .int x1)] := hl
  obtain ⟨H, hH⟩ : ∃ H, H = s.heap := ⟨_, rfl⟩
  rw [← hH] at hw ⊢
  obtain ⟨locs, hlc⟩ : ∃ locs : List Loc, locs = [] := ⟨_, rfl⟩
  rw [← hlc] at hw ⊢
  refine lv_aload_n hx hb dX10_doOrder_0 rfl (lv_at hl 0 rfl) ?_
  refine z_getr (o := 0) (o2 := 59) (C := RX10) (T := TX10) (N := 8) (ci := 8) (k := 5) hx hb Z hw (by decide) (by omega) rfl inX10 (by decide) rfl wd293 dX10_doOrder_1 ?_
  refine lv_iload_n hx hb dX10_doOrder_4 rfl (lv_at hl 1 rfl) ?_
  refine z_callVi (o := 59) (ci := 2) (As := [.int x1]) (rest := []) (t_X3_wordOf G l hN x1 h) cv_X3_wordOf hx hb hml hl.1 Z hw (by decide) (by decide) (by omega) rfl rfl wd714 rfl rfl (Nat.le_of_ble_eq_true rfl) (by decide) dX10_doOrder_5 (fun H locs hw => ?_)
  by_cases c5 : f_X3_wordOf x1 h = 0
  · have hf := (if_pos c5).symm.trans hf
    rw [wrf_z c5]
    refine lv_astore_nN (lv' := [(2, _), (0, _), (1, _)]) hx hb dX10_doOrder_8 rfl hl (by decide) rfl (fun ls hl => ?_)
    refine lv_aload_nN hx hb dX10_doOrder_9 rfl (lv_at hl 0 rfl) ?_
    refine lv_ifnonnullN hx hb dX10_doOrder_10 ?_
    refine lv_bipush (v := (-5 : Int32)) hx hb dX10_doOrder_13 (by decide) ?_
    obtain ⟨rfl, rfl⟩ := Prod.mk.inj (Option.some.inj hf)
    exact z_iret hx hb hr hlk hw dX10_doOrder_15
  · have hf := (if_neg c5).symm.trans hf
    obtain ⟨hs5, hf⟩ := gd_some hf
    rw [wrf_nz c5 hs5]
    refine lv_astore_n (lv' := [(2, _), (0, _), (1, _)]) hx hb dX10_doOrder_8 rfl hl (by decide) rfl (fun ls hl => ?_)
    refine lv_aload_n hx hb dX10_doOrder_9 rfl (lv_at hl 0 rfl) ?_
    refine lv_ifnonnull (tgt := 16) hx hb dX10_doOrder_10 (by decide) ?_
    refine lv_aload_n hx hb dX10_doOrder_16 rfl (lv_at hl 1 rfl) ?_
    refine z_getr (o := 0) (o2 := 59) (C := RX10) (T := TX10) (N := 8) (ci := 8) (k := 5) hx hb Z hw (by decide) (by omega) rfl inX10 (by decide) rfl wd293 dX10_doOrder_17 ?_
    refine lv_iload_n hx hb dX10_doOrder_20 rfl (lv_at hl 2 rfl) ?_
    refine lv_iconst (v := (0 : Int32)) hx hb dX10_doOrder_21 (by decide) ?_
    refine z_callVi (o := 59) (ci := 2) (As := [.int x1, .int (0 : Int32)]) (rest := []) (t_X3_numberOf G l hN x1 (0 : Int32) h) cv_X3_numberOf hx hb hml hl.1 Z hw (by decide) (by decide) (by omega) rfl rfl wd718 rfl rfl (Nat.le_of_ble_eq_true rfl) (by decide) dX10_doOrder_22 (fun H locs hw => ?_)
    refine lv_istore_n (lv' := [(3, _), (2, _), (0, _), (1, _)]) hx hb dX10_doOrder_25 rfl hl (by decide) rfl (fun ls hl => ?_)
    refine lv_aload_n hx hb dX10_doOrder_26 rfl (lv_at hl 2 rfl) ?_
    refine z_getr (o := 0) (o2 := 59) (C := RX10) (T := TX10) (N := 8) (ci := 8) (k := 5) hx hb Z hw (by decide) (by omega) rfl inX10 (by decide) rfl wd293 dX10_doOrder_27 ?_
    refine lv_iload_n hx hb dX10_doOrder_30 rfl (lv_at hl 3 rfl) ?_
    refine lv_iconst (v := (1 : Int32)) hx hb dX10_doOrder_31 (by decide) ?_
    refine z_callVi (o := 59) (ci := 2) (As := [.int x1, .int (1 : Int32)]) (rest := []) (t_X3_numberOf G l hN x1 (1 : Int32) h) cv_X3_numberOf hx hb hml hl.1 Z hw (by decide) (by decide) (by omega) rfl rfl wd718 rfl rfl (Nat.le_of_ble_eq_true rfl) (by decide) dX10_doOrder_32 (fun H locs hw => ?_)
    refine lv_istore (lv' := [(4, _), (3, _), (2, _), (0, _), (1, _)]) hx hb dX10_doOrder_35 hl (by decide) rfl (fun ls hl => ?_)
    refine lv_aload_n hx hb dX10_doOrder_37 rfl (lv_at hl 3 rfl) ?_
    refine z_getr (o := 0) (o2 := 59) (C := RX10) (T := TX10) (N := 8) (ci := 8) (k := 5) hx hb Z hw (by decide) (by omega) rfl inX10 (by decide) rfl wd293 dX10_doOrder_38 ?_
    refine lv_iload_n hx hb dX10_doOrder_41 rfl (lv_at hl 4 rfl) ?_
    refine lv_iconst (v := (2 : Int32)) hx hb dX10_doOrder_42 (by decide) ?_
    refine z_callVi (o := 59) (ci := 2) (As := [.int x1, .int (2 : Int32)]) (rest := []) (t_X3_numberOf G l hN x1 (2 : Int32) h) cv_X3_numberOf hx hb hml hl.1 Z hw (by decide) (by decide) (by omega) rfl rfl wd718 rfl rfl (Nat.le_of_ble_eq_true rfl) (by decide) dX10_doOrder_43 (fun H locs hw => ?_)
    refine lv_istore (lv' := [(5, _), (4, _), (3, _), (2, _), (0, _), (1, _)]) hx hb dX10_doOrder_46 hl (by decide) rfl (fun ls hl => ?_)
    refine z_getSW hx hb Z hw wd723 dX10_doOrder_48 ?_
    refine lv_aload_n hx hb dX10_doOrder_51 rfl (lv_at hl 3 rfl) ?_
    refine z_ordinal (k := ((f_X3_wordOf x1 h).toNatClampNeg - 1)) (rest := [.ref (gA G 1)]) G l hx hb hml hl.1 Z hw (isWd_lt hs5) wd725 (Nat.le_of_ble_eq_true rfl) (by decide) dX10_doOrder_52 (fun H locs hw => ?_)
    obtain ⟨h55, hf⟩ := gd_some hf
    refine z_swald hx hb Z hw (inB_vp h55) dX10_doOrder_55 ?_
    by_cases c56_1 : nI ((nI ((f_X3_wordOf x1 h).toNatClampNeg - 1)).toNatClampNeg + 1) = 1
    · have hf := (if_pos c56_1).symm.trans hf
      refine z_sw c56_1 ?_
      refine lv_tableIn (tgt := 92) hx hb dX10_doOrder_56 (by decide) (by decide) rfl (by decide) ?_
      refine lv_aload_n hx hb dX10_doOrder_92 rfl (lv_at hl 4 rfl) ?_
      refine lv_iload_n hx hb dX10_doOrder_93 rfl (lv_at hl 2 rfl) ?_
      refine lv_iload hx hb dX10_doOrder_94 (lv_at hl 1 rfl) ?_
      refine lv_iload hx hb dX10_doOrder_96 (lv_at hl 0 rfl) ?_
      refine lv_aload_n hx hb dX10_doOrder_98 rfl (lv_at hl 4 rfl) ?_
      refine z_getr (o := 0) (o2 := 59) (C := RX10) (T := TX10) (N := 8) (ci := 8) (k := 5) hx hb Z hw (by decide) (by omega) rfl inX10 (by decide) rfl wd293 dX10_doOrder_99 ?_
      refine lv_iload_n hx hb dX10_doOrder_102 rfl (lv_at hl 5 rfl) ?_
      refine lv_iconst (v := (3 : Int32)) hx hb dX10_doOrder_103 (by decide) ?_
      refine z_callVi (o := 59) (ci := 2) (As := [.int x1, .int (3 : Int32)]) (rest := [.int (f_X3_numberOf x1 (2 : Int32) h), .int (f_X3_numberOf x1 (1 : Int32) h), .int (f_X3_numberOf x1 (0 : Int32) h), .ref (ra G 0)]) (t_X3_numberOf G l hN x1 (3 : Int32) h) cv_X3_numberOf hx hb hml hl.1 Z hw (by decide) (by decide) (by omega) rfl rfl wd718 rfl rfl (Nat.le_of_ble_eq_true rfl) (by decide) dX10_doOrder_104 (fun H locs hw => ?_)
      obtain ⟨q107, hq107, hf⟩ := ob_some hf
      refine z_callVi (o := 0) (ci := 8) (As := [.int (f_X3_numberOf x1 (0 : Int32) h), .int (f_X3_numberOf x1 (1 : Int32) h), .int (f_X3_numberOf x1 (2 : Int32) h), .int (f_X3_numberOf x1 (3 : Int32) h)]) (rest := []) (t_X10_addScratch G l hN (f_X3_numberOf x1 (0 : Int32) h) (f_X3_numberOf x1 (1 : Int32) h) (f_X3_numberOf x1 (2 : Int32) h) (f_X3_numberOf x1 (3 : Int32) h) h hq107) cv_X10_addScratch hx hb hml hl.1 Z hw (by decide) (by decide) (by omega) rfl rfl wd414 rfl rfl (Nat.le_of_ble_eq_true rfl) (by decide) dX10_doOrder_107 (fun H locs hw => ?_)
      obtain ⟨rfl, rfl⟩ := Prod.mk.inj (Option.some.inj hf)
      exact z_iret hx hb hr hlk hw dX10_doOrder_110
    have hf := (if_neg c56_1).symm.trans hf
    by_cases c56_2 : nI ((nI ((f_X3_wordOf x1 h).toNatClampNeg - 1)).toNatClampNeg + 1) = 2
    · have hf := (if_pos c56_2).symm.trans hf
      refine z_sw c56_2 ?_
      refine lv_tableIn (tgt := 111) hx hb dX10_doOrder_56 (by decide) (by decide) rfl (by decide) ?_
      refine lv_aload_n hx hb dX10_doOrder_111 rfl (lv_at hl 4 rfl) ?_
      refine lv_iload_n hx hb dX10_doOrder_112 rfl (lv_at hl 2 rfl) ?_
      obtain ⟨q113, hq113, hf⟩ := ob_some hf
      refine z_callVi (o := 0) (ci := 8) (As := [.int (f_X3_numberOf x1 (0 : Int32) h)]) (rest := []) (t_X10_polishAway G l hN (f_X3_numberOf x1 (0 : Int32) h) h hq113) cv_X10_polishAway hx hb hml hl.1 Z hw (by decide) (by decide) (by omega) rfl rfl wd507 rfl rfl (Nat.le_of_ble_eq_true rfl) (by decide) dX10_doOrder_113 (fun H locs hw => ?_)
      obtain ⟨rfl, rfl⟩ := Prod.mk.inj (Option.some.inj hf)
      exact z_iret hx hb hr hlk hw dX10_doOrder_116
    have hf := (if_neg c56_2).symm.trans hf
    by_cases c56_3 : nI ((nI ((f_X3_wordOf x1 h).toNatClampNeg - 1)).toNatClampNeg + 1) = 3
    · have hf := (if_pos c56_3).symm.trans hf
      refine z_sw c56_3 ?_
      refine lv_tableIn (tgt := 117) hx hb dX10_doOrder_56 (by decide) (by decide) rfl (by decide) ?_
      refine lv_aload_n hx hb dX10_doOrder_117 rfl (lv_at hl 4 rfl) ?_
      refine lv_iload_n hx hb dX10_doOrder_118 rfl (lv_at hl 2 rfl) ?_
      obtain ⟨q119, hq119, hf⟩ := ob_some hf
      refine z_callVi (o := 0) (ci := 8) (As := [.int (f_X3_numberOf x1 (0 : Int32) h)]) (rest := []) (t_X10_seekFrame G l hN (f_X3_numberOf x1 (0 : Int32) h) h hq119) cv_X10_seekFrame hx hb hml hl.1 Z hw (by decide) (by decide) (by omega) rfl rfl wd580 rfl rfl (Nat.le_of_ble_eq_true rfl) (by decide) dX10_doOrder_119 (fun H locs hw => ?_)
      obtain ⟨rfl, rfl⟩ := Prod.mk.inj (Option.some.inj hf)
      exact z_iret hx hb hr hlk hw dX10_doOrder_122
    have hf := (if_neg c56_3).symm.trans hf
    by_cases c56_4 : nI ((nI ((f_X3_wordOf x1 h).toNatClampNeg - 1)).toNatClampNeg + 1) = 4
    · have hf := (if_pos c56_4).symm.trans hf
      refine z_sw c56_4 ?_
      refine lv_tableIn (tgt := 123) hx hb dX10_doOrder_56 (by decide) (by decide) rfl (by decide) ?_
      refine lv_aload_n hx hb dX10_doOrder_123 rfl (lv_at hl 4 rfl) ?_
      refine lv_iload_n hx hb dX10_doOrder_124 rfl (lv_at hl 2 rfl) ?_
      obtain ⟨q125, hq125, hf⟩ := ob_some hf
      refine z_callVi (o := 0) (ci := 8) (As := [.int (f_X3_numberOf x1 (0 : Int32) h)]) (rest := []) (t_X10_playFrames G l hN (f_X3_numberOf x1 (0 : Int32) h) h hq125) cv_X10_playFrames hx hb hml hl.1 Z hw (by decide) (by decide) (by omega) rfl rfl wd544 rfl rfl (Nat.le_of_ble_eq_true rfl) (by decide) dX10_doOrder_125 (fun H locs hw => ?_)
      obtain ⟨rfl, rfl⟩ := Prod.mk.inj (Option.some.inj hf)
      exact z_iret hx hb hr hlk hw dX10_doOrder_128
    have hf := (if_neg c56_4).symm.trans hf
    by_cases c56_5 : nI ((nI ((f_X3_wordOf x1 h).toNatClampNeg - 1)).toNatClampNeg + 1) = 5
    · have hf := (if_pos c56_5).symm.trans hf
      refine z_sw c56_5 ?_
      refine lv_tableIn (tgt := 129) hx hb dX10_doOrder_56 (by decide) (by decide) rfl (by decide) ?_
      refine lv_aload_n hx hb dX10_doOrder_129 rfl (lv_at hl 4 rfl) ?_
      refine lv_iload_n hx hb dX10_doOrder_130 rfl (lv_at hl 2 rfl) ?_
      refine lv_iload hx hb dX10_doOrder_131 (lv_at hl 1 rfl) ?_
      refine lv_iload hx hb dX10_doOrder_133 (lv_at hl 0 rfl) ?_
      obtain ⟨q135, hq135, hf⟩ := ob_some hf
      refine z_callVi (o := 0) (ci := 8) (As := [.int (f_X3_numberOf x1 (0 : Int32) h), .int (f_X3_numberOf x1 (1 : Int32) h), .int (f_X3_numberOf x1 (2 : Int32) h)]) (rest := []) (t_X10_pressSymbol G l hN (f_X3_numberOf x1 (0 : Int32) h) (f_X3_numberOf x1 (1 : Int32) h) (f_X3_numberOf x1 (2 : Int32) h) h hq135) cv_X10_pressSymbol hx hb hml hl.1 Z hw (by decide) (by decide) (by omega) rfl rfl wd341 rfl rfl (Nat.le_of_ble_eq_true rfl) (by decide) dX10_doOrder_135 (fun H locs hw => ?_)
      obtain ⟨rfl, rfl⟩ := Prod.mk.inj (Option.some.inj hf)
      exact z_iret hx hb hr hlk hw dX10_doOrder_138
    have hf := (if_neg c56_5).symm.trans hf
    refine lv_tableOut (tgt := 139) hx hb dX10_doOrder_56 (by have := [0]; have e0 := sw_ne (k := 1) (by decide) c56_1; have e1 := sw_ne (k := 2) (by decide) c56_2; have e2 := sw_ne (k := 3) (by decide) c56_3; have e3 := sw_ne (k := 4) (by decide) c56_4; have e4 := sw_ne (k := 5) (by decide) c56_5; omega) (by decide) ?_
    refine lv_bipush (v := (-5 : Int32)) hx hb dX10_doOrder_139 (by decide) ?_
    obtain ⟨rfl, rfl⟩ := Prod.mk.inj (Option.some.inj hf)
    exact z_iret hx hb hr hlk hw dX10_doOrder_141
set_option maxHeartbeats 4000000 in
set_option maxRecDepth 100000 in
theorem w_X10_doAll_L32 (G : GM) (l : Launch) (hN : 70 ≤ gN G)  {p : Program} {e : Env} {s : State} {m : MethodId} {args : Array Value} {below : List Frame} {meth : Method} {c : Code} (hx : p.tables.exec = Jvm.exec) (hb : c.code = cX10_doAll) (hr : meth.sig.returnType = (some .int)) (hlk : meth.locks = false) (hml : c.maxLocals = 4) (Z : ZK G s args m RX10) : ∀ (n : Nat) (x2 : Int32)  (h : HP) (r : Int32) (h' : HP) (ls : Array Slot) (H : Heap) (locs : List Loc), lv_has ls 4 [(0, .ref (ra G 0)), (2, .int x2)] → HW G h s H locs → f_X10_doAll_L32 n x2 h = some (r, h') → WZ p l e 8 s m args below meth c G (some (.int r)) h' H locs (F0 m 32 ls []) := by
  intro n
  induction n with
  | zero => intro x2  h r h' ls H locs hl hw hf; cases hf
  | succ n ih =>
    intro x2  h r h' ls H locs hl hw hf
    rw [f_X10_doAll_L32] at hf
    refine lv_iload_n hx hb dX10_doAll_32 rfl (lv_at hl 1 rfl) ?_
    refine lv_aload_n hx hb dX10_doAll_33 rfl (lv_at hl 0 rfl) ?_
    refine z_getr (o := 0) (o2 := 59) (C := RX10) (T := TX10) (N := 8) (ci := 8) (k := 5) hx hb Z hw (by decide) (by omega) rfl inX10 (by decide) rfl wd293 dX10_doAll_34 ?_
    refine z_geti (o := 59) (C := RX3) (T := TX3) (N := 6) (ci := 2) (k := 4) hx hb Z hw (by decide) (by omega) rfl inX3 (by decide) wd247 dX10_doAll_37 ?_
    refine lv_icmp_ge (tgt := 78) hx hb dX10_doAll_40 (by decide) (fun c40 => ?_) (fun c40 => ?_)
    · have hf := (if_pos c40).symm.trans hf
      refine lv_aload_n hx hb dX10_doAll_78 rfl (lv_at hl 0 rfl) ?_
      refine lv_aload_n hx hb dX10_doAll_79 rfl (lv_at hl 0 rfl) ?_
      refine z_getr (o := 0) (o2 := 59) (C := RX10) (T := TX10) (N := 8) (ci := 8) (k := 5) hx hb Z hw (by decide) (by omega) rfl inX10 (by decide) rfl wd293 dX10_doAll_80 ?_
      refine z_geti (o := 59) (C := RX3) (T := TX3) (N := 6) (ci := 2) (k := 4) hx hb Z hw (by decide) (by omega) rfl inX3 (by decide) wd247 dX10_doAll_83 ?_
      obtain ⟨q86, hq86, hf⟩ := ob_some hf
      refine z_callVi (o := 0) (ci := 8) (As := [.int (h 59 4)]) (rest := []) (t_X10_recorded G l hN (h 59 4) h hq86) cv_X10_recorded hx hb hml hl.1 Z hw (by decide) (by decide) (by omega) rfl rfl wd393 rfl rfl (Nat.le_of_ble_eq_true rfl) (by decide) dX10_doAll_86 (fun H locs hw => ?_)
      obtain ⟨rfl, rfl⟩ := Prod.mk.inj (Option.some.inj hf)
      exact z_iret hx hb hr hlk hw dX10_doAll_89
    · have hf := (if_neg c40).symm.trans hf
      refine lv_aload_n hx hb dX10_doAll_43 rfl (lv_at hl 0 rfl) ?_
      refine lv_iload_n hx hb dX10_doAll_44 rfl (lv_at hl 1 rfl) ?_
      obtain ⟨q45, hq45, hf⟩ := ob_some hf
      refine z_callVi (o := 0) (ci := 8) (As := [.int x2]) (rest := []) (t_X10_doOrder G l hN x2 h hq45) cv_X10_doOrder hx hb hml hl.1 Z hw (by decide) (by decide) (by omega) rfl rfl wd710 rfl rfl (Nat.le_of_ble_eq_true rfl) (by decide) dX10_doAll_45 (fun H locs hw => ?_)
      refine lv_istore_n (lv' := [(3, _), (0, _), (2, _)]) hx hb dX10_doAll_48 rfl hl (by decide) rfl (fun ls hl => ?_)
      refine lv_iload_n hx hb dX10_doAll_49 rfl (lv_at hl 0 rfl) ?_
      refine lv_if_ge (tgt := 72) hx hb dX10_doAll_50 (by decide) (fun c50 => ?_) (fun c50 => ?_)
      · have hf := (if_pos c50).symm.trans hf
        refine lv_iinc (v := x2 + (1 : Int32)) (lv' := [(2, _), (3, _), (0, _)]) hx hb dX10_doAll_72 hl (k := 2) rfl rfl (by decide) rfl (fun ls hl => ?_)
        refine lv_goto (tgt := 32) hx hb dX10_doAll_75 (by decide) ?_
        exact ih (x2 + (1 : Int32)) q45.2 r h' ls H locs (lv_sub hl [2, 0] rfl) hw hf
      · have hf := (if_neg c50).symm.trans hf
        refine lv_iload_n hx hb dX10_doAll_53 rfl (lv_at hl 0 rfl) ?_
        refine lv_bipush (v := (-5 : Int32)) hx hb dX10_doAll_54 (by decide) ?_
        refine lv_icmp_eq (tgt := 72) hx hb dX10_doAll_56 (by decide) (fun c56 => ?_) (fun c56 => ?_)
        · have hf := (if_pos c56).symm.trans hf
          refine lv_iinc (v := x2 + (1 : Int32)) (lv' := [(2, _), (3, _), (0, _)]) hx hb dX10_doAll_72 hl (k := 2) rfl rfl (by decide) rfl (fun ls hl => ?_)
          refine lv_goto (tgt := 32) hx hb dX10_doAll_75 (by decide) ?_
          exact ih (x2 + (1 : Int32)) q45.2 r h' ls H locs (lv_sub hl [2, 0] rfl) hw hf
        · have hf := (if_neg c56).symm.trans hf
          refine lv_aload_n hx hb dX10_doAll_59 rfl (lv_at hl 1 rfl) ?_
          refine z_getr (o := 0) (o2 := 1) (C := RX10) (T := TX10) (N := 8) (ci := 8) (k := 0) hx hb Z hw (by decide) (by omega) rfl inX10 (by decide) rfl wd288 dX10_doAll_60 ?_
          refine lv_aload_n hx hb dX10_doAll_63 rfl (lv_at hl 1 rfl) ?_
          refine z_getr (o := 0) (o2 := 9) (C := RX10) (T := TX10) (N := 8) (ci := 8) (k := 1) hx hb Z hw (by decide) (by omega) rfl inX10 (by decide) rfl wd289 dX10_doAll_64 ?_
          obtain ⟨q67, hq67, hf⟩ := tb_ex hf
          refine z_callVv (o := 1) (ci := 5) (As := [.ref (ra G 9)]) (rest := []) (t_X6_copyFrom G l hN 1 (by decide) (by omega) 9 (by decide) (by omega) q45.2 hq67) cv_X6_copyFrom hx hb hml hl.1 Z hw (by decide) (by decide) (by omega) rfl rfl wd317 rfl rfl (Nat.le_of_ble_eq_true rfl) (by decide) dX10_doAll_67 (fun H locs hw => ?_)
          refine lv_iload_n hx hb dX10_doAll_70 rfl (lv_at hl 0 rfl) ?_
          obtain ⟨rfl, rfl⟩ := Prod.mk.inj (Option.some.inj hf)
          exact z_iret hx hb hr hlk hw dX10_doAll_71
set_option maxHeartbeats 4000000 in
set_option maxRecDepth 100000 in
theorem t_X10_doAll (G : GM) (l : Launch) (hN : 70 ≤ gN G)  (h : HP) {r : Int32} {h' : HP} (hf : f_X10_doAll  h = some (r, h')) : MC G l yX10_doAll cX10_doAll 4 (some .int) 8 [.ref (ra G 0)] h h' (some (.int r)) := by
  unfold f_X10_doAll at hf
  refine z_start (by decide) (Nat.le_of_ble_eq_true rfl) ?_
  intro p e s m args below meth c ls hx hb hr hlk hml Z hw hl
  have Z : ZK G s args m RX10 := Z
  have hl : lv_has ls 4 [(0, .ref (ra G 0))] := hl
  obtain ⟨H, hH⟩ : ∃ H, H = s.heap := ⟨_, rfl⟩
  rw [← hH] at hw ⊢
  obtain ⟨locs, hlc⟩ : ∃ locs : List Loc, locs = [] := ⟨_, rfl⟩
  rw [← hlc] at hw ⊢
  refine lv_aload_n hx hb dX10_doAll_0 rfl (lv_at hl 0 rfl) ?_
  refine z_getr (o := 0) (o2 := 59) (C := RX10) (T := TX10) (N := 8) (ci := 8) (k := 5) hx hb Z hw (by decide) (by omega) rfl inX10 (by decide) rfl wd293 dX10_doAll_1 ?_
  obtain ⟨q4, hq4, hf⟩ := ob_some hf
  refine z_callVi (o := 59) (ci := 2) (As := []) (rest := []) (t_X3_readAll G l hN  h hq4) cv_X3_readAll hx hb hml hl.1 Z hw (by decide) (by decide) (by omega) rfl rfl wd613 rfl rfl (Nat.le_of_ble_eq_true rfl) (by decide) dX10_doAll_4 (fun H locs hw => ?_)
  refine lv_istore_n (lv' := [(1, _), (0, _)]) hx hb dX10_doAll_7 rfl hl (by decide) rfl (fun ls hl => ?_)
  refine lv_iload_n hx hb dX10_doAll_8 rfl (lv_at hl 0 rfl) ?_
  refine lv_bipush (v := (-5 : Int32)) hx hb dX10_doAll_9 (by decide) ?_
  refine lv_icmp_eq (tgt := 19) hx hb dX10_doAll_11 (by decide) (fun c11 => ?_) (fun c11 => ?_)
  · have hf := (if_pos c11).symm.trans hf
    refine lv_aload_n hx hb dX10_doAll_19 rfl (lv_at hl 1 rfl) ?_
    refine z_getr (o := 0) (o2 := 9) (C := RX10) (T := TX10) (N := 8) (ci := 8) (k := 1) hx hb Z hw (by decide) (by omega) rfl inX10 (by decide) rfl wd289 dX10_doAll_20 ?_
    refine lv_aload_n hx hb dX10_doAll_23 rfl (lv_at hl 1 rfl) ?_
    refine z_getr (o := 0) (o2 := 1) (C := RX10) (T := TX10) (N := 8) (ci := 8) (k := 0) hx hb Z hw (by decide) (by omega) rfl inX10 (by decide) rfl wd288 dX10_doAll_24 ?_
    obtain ⟨q27, hq27, hf⟩ := tb_ex hf
    refine z_callVv (o := 9) (ci := 5) (As := [.ref (ra G 1)]) (rest := []) (t_X6_copyFrom G l hN 9 (by decide) (by omega) 1 (by decide) (by omega) q4.2 hq27) cv_X6_copyFrom hx hb hml hl.1 Z hw (by decide) (by decide) (by omega) rfl rfl wd317 rfl rfl (Nat.le_of_ble_eq_true rfl) (by decide) dX10_doAll_27 (fun H locs hw => ?_)
    refine lv_iconst (v := (0 : Int32)) hx hb dX10_doAll_30 (by decide) ?_
    refine lv_istore_n (lv' := [(2, _), (1, _), (0, _)]) hx hb dX10_doAll_31 rfl hl (by decide) rfl (fun ls hl => ?_)
    exact w_X10_doAll_L32 G l hN  hx hb hr hlk hml Z FU (0 : Int32) q27 _ _ ls H locs (lv_sub hl [2, 0] rfl) hw hf
  · have hf := (if_neg c11).symm.trans hf
    refine lv_bipush (v := (-100 : Int32)) hx hb dX10_doAll_14 (by decide) ?_
    refine lv_iload_n hx hb dX10_doAll_16 rfl (lv_at hl 0 rfl) ?_
    refine lv_isub hx hb dX10_doAll_17 ?_
    obtain ⟨rfl, rfl⟩ := Prod.mk.inj (Option.some.inj hf)
    exact z_iret hx hb hr hlk hw dX10_doAll_18
set_option maxHeartbeats 4000000 in
set_option maxRecDepth 100000 in
theorem t_X2_takeLatest (G : GM) (l : Launch) (hN : 70 ≤ gN G) (o1 : Nat) (k_o1 : kd o1 = 5) (n_o1 : o1 < gN G) (h : HP) {r : Int32} {h' : HP} (hf : f_X2_takeLatest o1 h = some (r, h')) : MC G l yX2_takeLatest cX2_takeLatest 3 (some .boolean) 2 [.ref (ra G 25), .ref (ra G o1)] h h' (some (.int r)) := by
  unfold f_X2_takeLatest at hf
  refine z_start (by decide) (Nat.le_of_ble_eq_true rfl) ?_
  intro p e s m args below meth c ls hx hb hr hlk hml Z hw hl
  have Z : ZK G s args m RX2 := Z
  have hl : lv_has ls 3 [(0, .ref (ra G 25)), (1, .ref (ra G o1))] := hl
  obtain ⟨H, hH⟩ : ∃ H, H = s.heap := ⟨_, rfl⟩
  rw [← hH] at hw ⊢
  obtain ⟨locs, hlc⟩ : ∃ locs : List Loc, locs = [] := ⟨_, rfl⟩
  rw [← hlc] at hw ⊢
  refine lv_aload_n hx hb dX2_takeLatest_0 rfl (lv_at hl 0 rfl) ?_
  refine lv_aload_n hx hb dX2_takeLatest_1 rfl (lv_at hl 0 rfl) ?_
  refine z_geti (o := 25) (C := RX2) (T := TX2) (N := 2) (ci := 1) (k := 1) hx hb Z hw (by decide) (by omega) rfl inX2 (by decide) wd226 dX2_takeLatest_2 ?_
  refine lv_iconst (v := (1 : Int32)) hx hb dX2_takeLatest_5 (by decide) ?_
  refine lv_isub hx hb dX2_takeLatest_6 ?_
  refine z_callVi (o := 25) (ci := 1) (As := [.int ((h 25 1) - (1 : Int32))]) (rest := []) (t_X2_stateAt G l hN ((h 25 1) - (1 : Int32)) h) cv_X2_stateAt hx hb hml hl.1 Z hw (by decide) (by decide) (by omega) rfl rfl wd405 rfl rfl (Nat.le_of_ble_eq_true rfl) (by decide) dX2_takeLatest_7 (fun H locs hw => ?_)
  by_cases c7 : f_X2_stateAt ((h 25 1) - (1 : Int32)) h = 0
  · have hf := (if_pos c7).symm.trans hf
    rw [srf_z c7]
    refine lv_astore_nN (lv' := [(2, _), (0, _), (1, _)]) hx hb dX2_takeLatest_10 rfl hl (by decide) rfl (fun ls hl => ?_)
    refine lv_aload_nN hx hb dX2_takeLatest_11 rfl (lv_at hl 0 rfl) ?_
    refine lv_ifnonnullN hx hb dX2_takeLatest_12 ?_
    refine lv_iconst (v := (0 : Int32)) hx hb dX2_takeLatest_15 (by decide) ?_
    obtain ⟨rfl, rfl⟩ := Prod.mk.inj (Option.some.inj hf)
    exact z_zret hx hb hr rfl hlk hw dX2_takeLatest_16
  · have hf := (if_neg c7).symm.trans hf
    obtain ⟨hs7, hf⟩ := gd_some hf
    rw [srf_nz c7]
    refine lv_astore_n (lv' := [(2, _), (0, _), (1, _)]) hx hb dX2_takeLatest_10 rfl hl (by decide) rfl (fun ls hl => ?_)
    refine lv_aload_n hx hb dX2_takeLatest_11 rfl (lv_at hl 0 rfl) ?_
    refine lv_ifnonnull (tgt := 17) hx hb dX2_takeLatest_12 (by decide) ?_
    refine lv_aload_n hx hb dX2_takeLatest_17 rfl (lv_at hl 2 rfl) ?_
    refine lv_aload_n hx hb dX2_takeLatest_18 rfl (lv_at hl 0 rfl) ?_
    obtain ⟨q19, hq19, hf⟩ := tb_ex hf
    refine z_callVv (o := o1) (ci := 5) (As := [.ref (ra G ((f_X2_stateAt ((h 25 1) - (1 : Int32)) h).toNatClampNeg))]) (rest := []) (t_X6_copyFrom G l hN o1 k_o1 n_o1 ((f_X2_stateAt ((h 25 1) - (1 : Int32)) h).toNatClampNeg) (isSt_kd hs7) (isSt_n hs7 hN) h hq19) cv_X6_copyFrom hx hb hml hl.1 Z hw k_o1 (by decide) n_o1 rfl rfl wd409 rfl rfl (Nat.le_of_ble_eq_true rfl) (by decide) dX2_takeLatest_19 (fun H locs hw => ?_)
    refine lv_aload_n hx hb dX2_takeLatest_22 rfl (lv_at hl 1 rfl) ?_
    refine lv_dup hx hb dX2_takeLatest_23 rfl ?_
    refine z_geti (o := 25) (C := RX2) (T := TX2) (N := 2) (ci := 1) (k := 1) hx hb Z hw (by decide) (by omega) rfl inX2 (by decide) wd226 dX2_takeLatest_24 ?_
    refine lv_iconst (v := (1 : Int32)) hx hb dX2_takeLatest_27 (by decide) ?_
    refine lv_isub hx hb dX2_takeLatest_28 ?_
    refine z_puti (o := 25) (v := (q19 25 1) - (1 : Int32)) (ty := .int) (C := RX2) (T := TX2) (N := 2) (ci := 1) (k := 1) hx hb Z hw (by decide) (by omega) rfl inX2 tyX2 tyX2_ok nmX2 (by decide) wd226 rfl (by decide +kernel) rfl rfl dX2_takeLatest_29 (fun H locs hw => ?_)
    refine lv_iconst (v := (1 : Int32)) hx hb dX2_takeLatest_32 (by decide) ?_
    obtain ⟨rfl, rfl⟩ := Prod.mk.inj (Option.some.inj hf)
    exact z_zret hx hb hr rfl hlk hw dX2_takeLatest_33
set_option maxHeartbeats 4000000 in
set_option maxRecDepth 100000 in
theorem t_X10_undo (G : GM) (l : Launch) (hN : 70 ≤ gN G)  (h : HP) {r : Int32} {h' : HP} (hf : f_X10_undo  h = some (r, h')) : MC G l yX10_undo cX10_undo 1 (some .int) 3 [.ref (ra G 0)] h h' (some (.int r)) := by
  unfold f_X10_undo at hf
  refine z_start (by decide) (Nat.le_of_ble_eq_true rfl) ?_
  intro p e s m args below meth c ls hx hb hr hlk hml Z hw hl
  have Z : ZK G s args m RX10 := Z
  have hl : lv_has ls 1 [(0, .ref (ra G 0))] := hl
  obtain ⟨H, hH⟩ : ∃ H, H = s.heap := ⟨_, rfl⟩
  rw [← hH] at hw ⊢
  obtain ⟨locs, hlc⟩ : ∃ locs : List Loc, locs = [] := ⟨_, rfl⟩
  rw [← hlc] at hw ⊢
  refine lv_aload_n hx hb dX10_undo_0 rfl (lv_at hl 0 rfl) ?_
  refine z_getr (o := 0) (o2 := 25) (C := RX10) (T := TX10) (N := 8) (ci := 8) (k := 4) hx hb Z hw (by decide) (by omega) rfl inX10 (by decide) rfl wd292 dX10_undo_1 ?_
  refine lv_aload_n hx hb dX10_undo_4 rfl (lv_at hl 0 rfl) ?_
  refine z_getr (o := 0) (o2 := 1) (C := RX10) (T := TX10) (N := 8) (ci := 8) (k := 0) hx hb Z hw (by decide) (by omega) rfl inX10 (by decide) rfl wd288 dX10_undo_5 ?_
  obtain ⟨q8, hq8, hf⟩ := ob_some hf
  refine z_callVi (o := 25) (ci := 1) (As := [.ref (ra G 1)]) (rest := []) (t_X2_takeLatest G l hN 1 (by decide) (by omega) h hq8) cv_X2_takeLatest hx hb hml hl.1 Z hw (by decide) (by decide) (by omega) rfl rfl wd735 rfl rfl (Nat.le_of_ble_eq_true rfl) (by decide) dX10_undo_8 (fun H locs hw => ?_)
  refine lv_if_eq (tgt := 24) hx hb dX10_undo_11 (by decide) (fun c11 => ?_) (fun c11 => ?_)
  · have hf := (if_pos c11).symm.trans hf
    refine lv_bipush (v := (-5 : Int32)) hx hb dX10_undo_24 (by decide) ?_
    obtain ⟨rfl, rfl⟩ := Prod.mk.inj (Option.some.inj hf)
    exact z_iret hx hb hr hlk hw dX10_undo_26
  · have hf := (if_neg c11).symm.trans hf
    refine lv_aload_n hx hb dX10_undo_14 rfl (lv_at hl 0 rfl) ?_
    refine z_getr (o := 0) (o2 := 25) (C := RX10) (T := TX10) (N := 8) (ci := 8) (k := 4) hx hb Z hw (by decide) (by omega) rfl inX10 (by decide) rfl wd292 dX10_undo_15 ?_
    refine z_geti (o := 25) (C := RX2) (T := TX2) (N := 2) (ci := 1) (k := 1) hx hb Z hw (by decide) (by omega) rfl inX2 (by decide) wd227 dX10_undo_18 ?_
    refine lv_goto (tgt := 26) hx hb dX10_undo_21 (by decide) ?_
    obtain ⟨rfl, rfl⟩ := Prod.mk.inj (Option.some.inj hf)
    exact z_iret hx hb hr hlk hw dX10_undo_26
set_option maxHeartbeats 4000000 in
set_option maxRecDepth 100000 in
theorem t_X10_keep (G : GM) (l : Launch) (hN : 70 ≤ gN G)  (h : HP) {r : Int32} {h' : HP} (hf : f_X10_keep  h = (r, h')) : MC G l yX10_keep cX10_keep 1 (some .int) 2 [.ref (ra G 0)] h h' (some (.int r)) := by
  unfold f_X10_keep at hf
  refine z_start (by decide) (Nat.le_of_ble_eq_true rfl) ?_
  intro p e s m args below meth c ls hx hb hr hlk hml Z hw hl
  have Z : ZK G s args m RX10 := Z
  have hl : lv_has ls 1 [(0, .ref (ra G 0))] := hl
  obtain ⟨H, hH⟩ : ∃ H, H = s.heap := ⟨_, rfl⟩
  rw [← hH] at hw ⊢
  obtain ⟨locs, hlc⟩ : ∃ locs : List Loc, locs = [] := ⟨_, rfl⟩
  rw [← hlc] at hw ⊢
  refine lv_aload_n hx hb dX10_keep_0 rfl (lv_at hl 0 rfl) ?_
  refine z_getr (o := 0) (o2 := 17) (C := RX10) (T := TX10) (N := 8) (ci := 8) (k := 2) hx hb Z hw (by decide) (by omega) rfl inX10 (by decide) rfl wd290 dX10_keep_1 ?_
  refine lv_aload_n hx hb dX10_keep_4 rfl (lv_at hl 0 rfl) ?_
  refine z_getr (o := 0) (o2 := 1) (C := RX10) (T := TX10) (N := 8) (ci := 8) (k := 0) hx hb Z hw (by decide) (by omega) rfl inX10 (by decide) rfl wd288 dX10_keep_5 ?_
  obtain ⟨q8, hq8, hf⟩ := tb_ex hf
  refine z_callVv (o := 17) (ci := 5) (As := [.ref (ra G 1)]) (rest := []) (t_X6_copyFrom G l hN 17 (by decide) (by omega) 1 (by decide) (by omega) h hq8) cv_X6_copyFrom hx hb hml hl.1 Z hw (by decide) (by decide) (by omega) rfl rfl wd317 rfl rfl (Nat.le_of_ble_eq_true rfl) (by decide) dX10_keep_8 (fun H locs hw => ?_)
  refine lv_aload_n hx hb dX10_keep_11 rfl (lv_at hl 0 rfl) ?_
  refine lv_iconst (v := (1 : Int32)) hx hb dX10_keep_12 (by decide) ?_
  refine z_puti (o := 0) (v := (1 : Int32)) (ty := .boolean) (C := RX10) (T := TX10) (N := 8) (ci := 8) (k := 3) hx hb Z hw (by decide) (by omega) rfl inX10 tyX10 tyX10_ok nmX10 (by decide) wd291 rfl (by decide +kernel) rfl rfl dX10_keep_13 (fun H locs hw => ?_)
  refine lv_aload_n hx hb dX10_keep_16 rfl (lv_at hl 0 rfl) ?_
  obtain ⟨h17, hqh17, hf⟩ := tb_ex hf
  rw [hqh17] at hw
  refine z_getr (o := 0) (o2 := 1) (C := RX10) (T := TX10) (N := 8) (ci := 8) (k := 0) hx hb Z hw (by decide) (by omega) rfl inX10 (by decide) rfl wd288 dX10_keep_17 ?_
  refine z_getr (o := 1) (o2 := 8) (C := RX6) (T := TX6) (N := 4) (ci := 5) (k := 3) hx hb Z hw (by decide) (by omega) rfl inX6 (by decide) rfl wd206 dX10_keep_20 ?_
  refine z_geti (o := 8) (C := RX1) (T := TX1) (N := 6) (ci := 0) (k := 2) hx hb Z hw (by decide) (by omega) rfl inX1 (by decide) wd177 dX10_keep_23 ?_
  obtain ⟨rfl, rfl⟩ := Prod.mk.inj hf
  exact z_iret hx hb hr hlk hw dX10_keep_26
set_option maxHeartbeats 4000000 in
set_option maxRecDepth 100000 in
theorem t_X10_restore (G : GM) (l : Launch) (hN : 70 ≤ gN G)  (h : HP) {r : Int32} {h' : HP} (hf : f_X10_restore  h = some (r, h')) : MC G l yX10_restore cX10_restore 1 (some .int) 4 [.ref (ra G 0)] h h' (some (.int r)) := by
  unfold f_X10_restore at hf
  refine z_start (by decide) (Nat.le_of_ble_eq_true rfl) ?_
  intro p e s m args below meth c ls hx hb hr hlk hml Z hw hl
  have Z : ZK G s args m RX10 := Z
  have hl : lv_has ls 1 [(0, .ref (ra G 0))] := hl
  obtain ⟨H, hH⟩ : ∃ H, H = s.heap := ⟨_, rfl⟩
  rw [← hH] at hw ⊢
  obtain ⟨locs, hlc⟩ : ∃ locs : List Loc, locs = [] := ⟨_, rfl⟩
  rw [← hlc] at hw ⊢
  refine lv_aload_n hx hb dX10_restore_0 rfl (lv_at hl 0 rfl) ?_
  refine z_geti (o := 0) (C := RX10) (T := TX10) (N := 8) (ci := 8) (k := 3) hx hb Z hw (by decide) (by omega) rfl inX10 (by decide) wd291 dX10_restore_1 ?_
  refine lv_if_ne (tgt := 10) hx hb dX10_restore_4 (by decide) (fun c4 => ?_) (fun c4 => ?_)
  · have hf := (if_neg c4).symm.trans hf
    refine lv_aload_n hx hb dX10_restore_10 rfl (lv_at hl 0 rfl) ?_
    refine z_getr (o := 0) (o2 := 9) (C := RX10) (T := TX10) (N := 8) (ci := 8) (k := 1) hx hb Z hw (by decide) (by omega) rfl inX10 (by decide) rfl wd289 dX10_restore_11 ?_
    refine lv_aload_n hx hb dX10_restore_14 rfl (lv_at hl 0 rfl) ?_
    refine z_getr (o := 0) (o2 := 1) (C := RX10) (T := TX10) (N := 8) (ci := 8) (k := 0) hx hb Z hw (by decide) (by omega) rfl inX10 (by decide) rfl wd288 dX10_restore_15 ?_
    obtain ⟨q18, hq18, hf⟩ := tb_ex hf
    refine z_callVv (o := 9) (ci := 5) (As := [.ref (ra G 1)]) (rest := []) (t_X6_copyFrom G l hN 9 (by decide) (by omega) 1 (by decide) (by omega) h hq18) cv_X6_copyFrom hx hb hml hl.1 Z hw (by decide) (by decide) (by omega) rfl rfl wd317 rfl rfl (Nat.le_of_ble_eq_true rfl) (by decide) dX10_restore_18 (fun H locs hw => ?_)
    refine lv_aload_n hx hb dX10_restore_21 rfl (lv_at hl 0 rfl) ?_
    refine z_getr (o := 0) (o2 := 1) (C := RX10) (T := TX10) (N := 8) (ci := 8) (k := 0) hx hb Z hw (by decide) (by omega) rfl inX10 (by decide) rfl wd288 dX10_restore_22 ?_
    refine lv_aload_n hx hb dX10_restore_25 rfl (lv_at hl 0 rfl) ?_
    refine z_getr (o := 0) (o2 := 17) (C := RX10) (T := TX10) (N := 8) (ci := 8) (k := 2) hx hb Z hw (by decide) (by omega) rfl inX10 (by decide) rfl wd290 dX10_restore_26 ?_
    obtain ⟨q29, hq29, hf⟩ := tb_ex hf
    refine z_callVv (o := 1) (ci := 5) (As := [.ref (ra G 17)]) (rest := []) (t_X6_copyFrom G l hN 1 (by decide) (by omega) 17 (by decide) (by omega) q18 hq29) cv_X6_copyFrom hx hb hml hl.1 Z hw (by decide) (by decide) (by omega) rfl rfl wd317 rfl rfl (Nat.le_of_ble_eq_true rfl) (by decide) dX10_restore_29 (fun H locs hw => ?_)
    refine lv_aload_n hx hb dX10_restore_32 rfl (lv_at hl 0 rfl) ?_
    refine lv_aload_n hx hb dX10_restore_33 rfl (lv_at hl 0 rfl) ?_
    refine z_getr (o := 0) (o2 := 1) (C := RX10) (T := TX10) (N := 8) (ci := 8) (k := 0) hx hb Z hw (by decide) (by omega) rfl inX10 (by decide) rfl wd288 dX10_restore_34 ?_
    refine z_getr (o := 1) (o2 := 8) (C := RX6) (T := TX6) (N := 4) (ci := 5) (k := 3) hx hb Z hw (by decide) (by omega) rfl inX6 (by decide) rfl wd206 dX10_restore_37 ?_
    refine z_geti (o := 8) (C := RX1) (T := TX1) (N := 6) (ci := 0) (k := 2) hx hb Z hw (by decide) (by omega) rfl inX1 (by decide) wd177 dX10_restore_40 ?_
    obtain ⟨q43, hq43, hf⟩ := ob_some hf
    refine z_callVi (o := 0) (ci := 8) (As := [.int (q29 8 2)]) (rest := []) (t_X10_recorded G l hN (q29 8 2) q29 hq43) cv_X10_recorded hx hb hml hl.1 Z hw (by decide) (by decide) (by omega) rfl rfl wd393 rfl rfl (Nat.le_of_ble_eq_true rfl) (by decide) dX10_restore_43 (fun H locs hw => ?_)
    obtain ⟨rfl, rfl⟩ := Prod.mk.inj (Option.some.inj hf)
    exact z_iret hx hb hr hlk hw dX10_restore_46
  · have hf := (if_pos c4).symm.trans hf
    refine lv_bipush (v := (-5 : Int32)) hx hb dX10_restore_7 (by decide) ?_
    obtain ⟨rfl, rfl⟩ := Prod.mk.inj (Option.some.inj hf)
    exact z_iret hx hb hr hlk hw dX10_restore_9
set_option maxHeartbeats 4000000 in
set_option maxRecDepth 100000 in
theorem t_X5_groups (G : GM) (l : Launch) (hN : 70 ≤ gN G) (o0 : Nat) (k_o0 : kd o0 = 4) (n_o0 : o0 < gN G) (h : HP) : MC G l yX5_groups cX5_groups 1 (some .int) 2 [.ref (ra G o0)] h h (some (.int (f_X5_groups o0 h))) := by
  generalize hf : f_X5_groups o0 h = r
  unfold f_X5_groups at hf
  refine z_start (by decide) (Nat.le_of_ble_eq_true rfl) ?_
  intro p e s m args below meth c ls hx hb hr hlk hml Z hw hl
  have Z : ZK G s args m RX5 := Z
  have hl : lv_has ls 1 [(0, .ref (ra G o0))] := hl
  obtain ⟨H, hH⟩ : ∃ H, H = s.heap := ⟨_, rfl⟩
  rw [← hH] at hw ⊢
  obtain ⟨locs, hlc⟩ : ∃ locs : List Loc, locs = [] := ⟨_, rfl⟩
  rw [← hlc] at hw ⊢
  refine lv_aload_n hx hb dX5_groups_0 rfl (lv_at hl 0 rfl) ?_
  refine z_callVi (o := o0) (ci := 4) (As := []) (rest := []) (t_X5_allFrames G l hN o0 k_o0 n_o0 h) cv_X5_allFrames hx hb hml hl.1 Z hw k_o0 (by decide) n_o0 rfl rfl wd349 rfl rfl (Nat.le_of_ble_eq_true rfl) (by decide) dX5_groups_1 (fun H locs hw => ?_)
  refine lv_iconst (v := (5 : Int32)) hx hb dX5_groups_4 (by decide) ?_
  refine lv_idiv hx hb dX5_groups_5 (by decide) ?_
  obtain rfl := hf
  exact z_iret hx hb hr hlk hw dX5_groups_6
set_option maxHeartbeats 4000000 in
set_option maxRecDepth 100000 in
theorem t_X5_groupOf (G : GM) (l : Launch) (hN : 70 ≤ gN G) (o0 : Nat) (k_o0 : kd o0 = 4) (n_o0 : o0 < gN G) (x1 : Int32) (h : HP) : MC G l yX5_groupOf cX5_groupOf 3 (some .int) 3 [.ref (ra G o0), .int x1] h h (some (.int (f_X5_groupOf o0 x1 h))) := by
  generalize hf : f_X5_groupOf o0 x1 h = r
  unfold f_X5_groupOf at hf
  refine z_start (by decide) (Nat.le_of_ble_eq_true rfl) ?_
  intro p e s m args below meth c ls hx hb hr hlk hml Z hw hl
  have Z : ZK G s args m RX5 := Z
  have hl : lv_has ls 3 [(0, .ref (ra G o0)), (1, .int x1)] := hl
  obtain ⟨H, hH⟩ : ∃ H, H = s.heap := ⟨_, rfl⟩
  rw [← hH] at hw ⊢
  obtain ⟨locs, hlc⟩ : ∃ locs : List Loc, locs = [] := ⟨_, rfl⟩
  rw [← hlc] at hw ⊢
  refine lv_iload_n hx hb dX5_groupOf_0 rfl (lv_at hl 1 rfl) ?_
  refine lv_iconst (v := (5 : Int32)) hx hb dX5_groupOf_1 (by decide) ?_
  refine lv_idiv hx hb dX5_groupOf_2 (by decide) ?_
  refine lv_istore_n (lv' := [(2, _), (0, _), (1, _)]) hx hb dX5_groupOf_3 rfl hl (by decide) rfl (fun ls hl => ?_)
  refine lv_iload_n hx hb dX5_groupOf_4 rfl (lv_at hl 0 rfl) ?_
  refine lv_aload_n hx hb dX5_groupOf_5 rfl (lv_at hl 1 rfl) ?_
  refine z_callVi (o := o0) (ci := 4) (As := []) (rest := [.int (x1 / (5 : Int32))]) (t_X5_groups G l hN o0 k_o0 n_o0 h) cv_X5_groups hx hb hml hl.1 Z hw k_o0 (by decide) n_o0 rfl rfl wd757 rfl rfl (Nat.le_of_ble_eq_true rfl) (by decide) dX5_groupOf_6 (fun H locs hw => ?_)
  refine lv_icmp_ge (tgt := 16) hx hb dX5_groupOf_9 (by decide) (fun c9 => ?_) (fun c9 => ?_)
  · have hf := (if_pos c9).symm.trans hf
    refine lv_bipush (v := (-5 : Int32)) hx hb dX5_groupOf_16 (by decide) ?_
    obtain rfl := hf
    exact z_iret hx hb hr hlk hw dX5_groupOf_18
  · have hf := (if_neg c9).symm.trans hf
    refine lv_iload_n hx hb dX5_groupOf_12 rfl (lv_at hl 0 rfl) ?_
    refine lv_goto (tgt := 18) hx hb dX5_groupOf_13 (by decide) ?_
    obtain rfl := hf
    exact z_iret hx hb hr hlk hw dX5_groupOf_18
set_option maxHeartbeats 4000000 in
set_option maxRecDepth 100000 in
theorem t_X7_howIs (G : GM) (l : Launch) (hN : 70 ≤ gN G) (x1 : Int32) (h : HP) : MC G l yX7_howIs cX7_howIs 2 (some .int) 1 [.ref (ra G 63), .int x1] h h (some (.int (f_X7_howIs x1 h))) := by
  generalize hf : f_X7_howIs x1 h = r
  unfold f_X7_howIs at hf
  refine z_start (by decide) (Nat.le_of_ble_eq_true rfl) ?_
  intro p e s m args below meth c ls hx hb hr hlk hml Z hw hl
  have Z : ZK G s args m RX7 := Z
  have hl : lv_has ls 2 [(0, .ref (ra G 63)), (1, .int x1)] := hl
  obtain ⟨H, hH⟩ : ∃ H, H = s.heap := ⟨_, rfl⟩
  rw [← hH] at hw ⊢
  obtain ⟨locs, hlc⟩ : ∃ locs : List Loc, locs = [] := ⟨_, rfl⟩
  rw [← hlc] at hw ⊢
  refine lv_aload_n hx hb dX7_howIs_0 rfl (lv_at hl 0 rfl) ?_
  refine z_getr (o := 63) (o2 := 68) (C := RX7) (T := TX7) (N := 4) (ci := 6) (k := 3) hx hb Z hw (by decide) (by omega) rfl inX7 (by decide) rfl wd276 dX7_howIs_1 ?_
  refine lv_iload_n hx hb dX7_howIs_4 rfl (lv_at hl 1 rfl) ?_
  refine z_callNi (As := [.ref (ra G 68), .int x1]) (rest := []) (t_X10_at G l hN 68 (by decide) (by omega) x1 h) cs_X10_at hx hb hml hl.1 Z hw wd489 rfl rfl (Nat.le_of_ble_eq_true rfl) (by decide) dX7_howIs_5 (fun H locs hw => ?_)
  obtain rfl := hf
  exact z_iret hx hb hr hlk hw dX7_howIs_8
set_option maxHeartbeats 4000000 in
set_option maxRecDepth 100000 in
theorem t_X8_flatOf (G : GM) (l : Launch) (hN : 70 ≤ gN G) (x0 : Int32) (h : HP) : MC G l yX8_flatOf cX8_flatOf 1 (some .int) 0 [.int x0] h h (some (.int (f_X8_flatOf x0 h))) := by
  generalize hf : f_X8_flatOf x0 h = r
  unfold f_X8_flatOf at hf
  refine z_start (by decide) (Nat.le_of_ble_eq_true rfl) ?_
  intro p e s m args below meth c ls hx hb hr hlk hml Z hw hl
  have Z : ZK G s args m RX8 := Z
  have hl : lv_has ls 1 [(0, .int x0)] := hl
  obtain ⟨H, hH⟩ : ∃ H, H = s.heap := ⟨_, rfl⟩
  rw [← hH] at hw ⊢
  obtain ⟨locs, hlc⟩ : ∃ locs : List Loc, locs = [] := ⟨_, rfl⟩
  rw [← hlc] at hw ⊢
  refine lv_iconst (v := (3 : Int32)) hx hb dX8_flatOf_0 (by decide) ?_
  refine lv_iload_n hx hb dX8_flatOf_1 rfl (lv_at hl 0 rfl) ?_
  refine lv_iconst (v := (4 : Int32)) hx hb dX8_flatOf_2 (by decide) ?_
  refine z_irem hx hb dX8_flatOf_3 (by decide) ?_
  refine lv_iadd hx hb dX8_flatOf_4 ?_
  obtain rfl := hf
  exact z_iret hx hb hr hlk hw dX8_flatOf_5
set_option maxHeartbeats 4000000 in
set_option maxRecDepth 100000 in
theorem t_X8_pitOf (G : GM) (l : Launch) (hN : 70 ≤ gN G) (x0 : Int32) (h : HP) : MC G l yX8_pitOf cX8_pitOf 1 (some .int) 0 [.int x0] h h (some (.int (f_X8_pitOf x0 h))) := by
  generalize hf : f_X8_pitOf x0 h = r
  unfold f_X8_pitOf at hf
  refine z_start (by decide) (Nat.le_of_ble_eq_true rfl) ?_
  intro p e s m args below meth c ls hx hb hr hlk hml Z hw hl
  have Z : ZK G s args m RX8 := Z
  have hl : lv_has ls 1 [(0, .int x0)] := hl
  obtain ⟨H, hH⟩ : ∃ H, H = s.heap := ⟨_, rfl⟩
  rw [← hH] at hw ⊢
  obtain ⟨locs, hlc⟩ : ∃ locs : List Loc, locs = [] := ⟨_, rfl⟩
  rw [← hlc] at hw ⊢
  refine lv_iconst (v := (3 : Int32)) hx hb dX8_pitOf_0 (by decide) ?_
  refine lv_iload_n hx hb dX8_pitOf_1 rfl (lv_at hl 0 rfl) ?_
  refine lv_iconst (v := (4 : Int32)) hx hb dX8_pitOf_2 (by decide) ?_
  refine lv_idiv hx hb dX8_pitOf_3 (by decide) ?_
  refine lv_iadd hx hb dX8_pitOf_4 ?_
  obtain rfl := hf
  exact z_iret hx hb hr hlk hw dX8_pitOf_5
set_option maxHeartbeats 4000000 in
set_option maxRecDepth 100000 in
theorem w_X8_balanceOf_L4 (G : GM) (l : Launch) (hN : 70 ≤ gN G) (o0 : Nat) (k_o0 : kd o0 = 7) (n_o0 : o0 < gN G) {p : Program} {e : Env} {s : State} {m : MethodId} {args : Array Value} {below : List Frame} {meth : Method} {c : Code} (hx : p.tables.exec = Jvm.exec) (hb : c.code = cX8_balanceOf) (hr : meth.sig.returnType = (some .int)) (hlk : meth.locks = false) (hml : c.maxLocals = 5) (Z : ZK G s args m RX8) : ∀ (n : Nat) (x1 : Int32) (x2 : Int32) (x3 : Int32)  (h : HP)  (rv : Option Value) (hq : HP) (ls : Array Slot) (H : Heap) (locs : List Loc) {q : Int32}, lv_has ls 5 [(0, .ref (ra G o0)), (1, .int x1), (2, .int x2), (3, .int x3)] → HW G h s H locs → f_X8_balanceOf_L4 n o0 x1 x2 x3 h = some q → (∀ (ls : Array Slot) (H : Heap) (locs : List Loc), lv_has ls 5 [(2, .int q)] → HW G h s H locs → WZ p l e 3 s m args below meth c G rv hq H locs (F0 m 37 ls [])) → WZ p l e 3 s m args below meth c G rv hq H locs (F0 m 4 ls []) := by
  intro n
  induction n with
  | zero => intro x1 x2 x3  h  rv hq ls H locs q hl hw hf kk; cases hf
  | succ n ih =>
    intro x1 x2 x3  h  rv hq ls H locs q hl hw hf kk
    rw [f_X8_balanceOf_L4] at hf
    refine lv_iload_n hx hb dX8_balanceOf_4 rfl (lv_at hl 3 rfl) ?_
    refine lv_iconst (v := (4 : Int32)) hx hb dX8_balanceOf_5 (by decide) ?_
    refine lv_icmp_ge (tgt := 37) hx hb dX8_balanceOf_6 (by decide) (fun c6 => ?_) (fun c6 => ?_)
    · have hf := (if_pos c6).symm.trans hf
      obtain rfl := Option.some.inj hf
      exact kk ls H locs (lv_sub hl [2] rfl) hw
    · have hf := (if_neg c6).symm.trans hf
      refine lv_aload_n hx hb dX8_balanceOf_9 rfl (lv_at hl 0 rfl) ?_
      refine lv_iload_n hx hb dX8_balanceOf_10 rfl (lv_at hl 1 rfl) ?_
      refine lv_iload_n hx hb dX8_balanceOf_11 rfl (lv_at hl 3 rfl) ?_
      obtain ⟨q12, hq12, hf⟩ := ob_some hf
      refine z_callVi (o := o0) (ci := 7) (As := [.int x1, .int x3]) (rest := []) (t_X8_standsAt G l hN o0 k_o0 n_o0 x1 x3 h hq12) cv_X8_standsAt hx hb hml hl.1 Z hw k_o0 (by decide) n_o0 rfl rfl wd770 rfl rfl (Nat.le_of_ble_eq_true rfl) (by decide) dX8_balanceOf_12 (fun H locs hw => ?_)
      refine lv_istore (lv' := [(4, _), (0, _), (1, _), (2, _), (3, _)]) hx hb dX8_balanceOf_15 hl (by decide) rfl (fun ls hl => ?_)
      refine lv_iload_n hx hb dX8_balanceOf_17 rfl (lv_at hl 3 rfl) ?_
      refine lv_iload hx hb dX8_balanceOf_18 (lv_at hl 0 rfl) ?_
      refine z_callSi (As := [.int q12]) (rest := [.int x2]) (t_X8_pitOf G l hN q12 h) cs_X8_pitOf hx hb hml hl.1 Z hw wd771 rfl rfl (Nat.le_of_ble_eq_true rfl) (by decide) dX8_balanceOf_20 (fun H locs hw => ?_)
      refine lv_iload hx hb dX8_balanceOf_23 (lv_at hl 0 rfl) ?_
      refine z_callSi (As := [.int q12]) (rest := [.int (f_X8_pitOf q12 h), .int x2]) (t_X8_flatOf G l hN q12 h) cs_X8_flatOf hx hb hml hl.1 Z hw wd774 rfl rfl (Nat.le_of_ble_eq_true rfl) (by decide) dX8_balanceOf_25 (fun H locs hw => ?_)
      refine lv_isub hx hb dX8_balanceOf_28 ?_
      refine lv_iadd hx hb dX8_balanceOf_29 ?_
      obtain ⟨v30, hqv30, hf⟩ := tb_ex hf
      refine z_top hqv30 ?_
      refine lv_istore_n (lv' := [(2, _), (4, _), (0, _), (1, _), (3, _)]) hx hb dX8_balanceOf_30 rfl hl (by decide) rfl (fun ls hl => ?_)
      refine lv_iinc (v := x3 + (1 : Int32)) (lv' := [(3, _), (2, _), (4, _), (0, _), (1, _)]) hx hb dX8_balanceOf_31 hl (k := 4) rfl rfl (by decide) rfl (fun ls hl => ?_)
      refine lv_goto (tgt := 4) hx hb dX8_balanceOf_34 (by decide) ?_
      exact ih x1 v30 (x3 + (1 : Int32)) h  rv hq ls H locs (lv_sub hl [3, 4, 1, 0] rfl) hw hf kk
set_option maxHeartbeats 4000000 in
set_option maxRecDepth 100000 in
theorem t_X8_balanceOf (G : GM) (l : Launch) (hN : 70 ≤ gN G) (o0 : Nat) (k_o0 : kd o0 = 7) (n_o0 : o0 < gN G) (x1 : Int32) (h : HP) {r : Int32} (hf : f_X8_balanceOf o0 x1 h = some r) : MC G l yX8_balanceOf cX8_balanceOf 5 (some .int) 3 [.ref (ra G o0), .int x1] h h (some (.int r)) := by
  unfold f_X8_balanceOf at hf
  refine z_start (by decide) (Nat.le_of_ble_eq_true rfl) ?_
  intro p e s m args below meth c ls hx hb hr hlk hml Z hw hl
  have Z : ZK G s args m RX8 := Z
  have hl : lv_has ls 5 [(0, .ref (ra G o0)), (1, .int x1)] := hl
  obtain ⟨H, hH⟩ : ∃ H, H = s.heap := ⟨_, rfl⟩
  rw [← hH] at hw ⊢
  obtain ⟨locs, hlc⟩ : ∃ locs : List Loc, locs = [] := ⟨_, rfl⟩
  rw [← hlc] at hw ⊢
  refine lv_iconst (v := (0 : Int32)) hx hb dX8_balanceOf_0 (by decide) ?_
  refine lv_istore_n (lv' := [(2, _), (0, _), (1, _)]) hx hb dX8_balanceOf_1 rfl hl (by decide) rfl (fun ls hl => ?_)
  refine lv_iconst (v := (0 : Int32)) hx hb dX8_balanceOf_2 (by decide) ?_
  refine lv_istore_n (lv' := [(3, _), (2, _), (0, _), (1, _)]) hx hb dX8_balanceOf_3 rfl hl (by decide) rfl (fun ls hl => ?_)
  obtain ⟨q4, hq4, hf⟩ := ob_some hf
  refine w_X8_balanceOf_L4 G l hN o0 k_o0 n_o0 hx hb hr hlk hml Z FU x1 (0 : Int32) (0 : Int32) h  _ _ ls H locs (lv_sub hl [2, 3, 1, 0] rfl) hw hq4 (fun ls H locs hl hw => ?_)
  refine lv_iload_n hx hb dX8_balanceOf_37 rfl (lv_at hl 0 rfl) ?_
  obtain rfl := Option.some.inj hf
  exact z_iret hx hb hr hlk hw dX8_balanceOf_38
set_option maxHeartbeats 4000000 in
set_option maxRecDepth 100000 in
theorem w_X8_lengthOf_L4 (G : GM) (l : Launch) (hN : 70 ≤ gN G) (o0 : Nat) (k_o0 : kd o0 = 7) (n_o0 : o0 < gN G) {p : Program} {e : Env} {s : State} {m : MethodId} {args : Array Value} {below : List Frame} {meth : Method} {c : Code} (hx : p.tables.exec = Jvm.exec) (hb : c.code = cX8_lengthOf) (hr : meth.sig.returnType = (some .int)) (hlk : meth.locks = false) (hml : c.maxLocals = 5) (Z : ZK G s args m RX8) : ∀ (n : Nat) (x1 : Int32) (x2 : Int32) (x3 : Int32)  (h : HP)  (rv : Option Value) (hq : HP) (ls : Array Slot) (H : Heap) (locs : List Loc) {q : Int32}, lv_has ls 5 [(0, .ref (ra G o0)), (1, .int x1), (2, .int x2), (3, .int x3)] → HW G h s H locs → f_X8_lengthOf_L4 n o0 x1 x2 x3 h = some q → (∀ (ls : Array Slot) (H : Heap) (locs : List Loc), lv_has ls 5 [(2, .int q)] → HW G h s H locs → WZ p l e 3 s m args below meth c G rv hq H locs (F0 m 37 ls [])) → WZ p l e 3 s m args below meth c G rv hq H locs (F0 m 4 ls []) := by
  intro n
  induction n with
  | zero => intro x1 x2 x3  h  rv hq ls H locs q hl hw hf kk; cases hf
  | succ n ih =>
    intro x1 x2 x3  h  rv hq ls H locs q hl hw hf kk
    rw [f_X8_lengthOf_L4] at hf
    refine lv_iload_n hx hb dX8_lengthOf_4 rfl (lv_at hl 3 rfl) ?_
    refine lv_iconst (v := (4 : Int32)) hx hb dX8_lengthOf_5 (by decide) ?_
    refine lv_icmp_ge (tgt := 37) hx hb dX8_lengthOf_6 (by decide) (fun c6 => ?_) (fun c6 => ?_)
    · have hf := (if_pos c6).symm.trans hf
      obtain rfl := Option.some.inj hf
      exact kk ls H locs (lv_sub hl [2] rfl) hw
    · have hf := (if_neg c6).symm.trans hf
      refine lv_aload_n hx hb dX8_lengthOf_9 rfl (lv_at hl 0 rfl) ?_
      refine lv_iload_n hx hb dX8_lengthOf_10 rfl (lv_at hl 1 rfl) ?_
      refine lv_iload_n hx hb dX8_lengthOf_11 rfl (lv_at hl 3 rfl) ?_
      obtain ⟨q12, hq12, hf⟩ := ob_some hf
      refine z_callVi (o := o0) (ci := 7) (As := [.int x1, .int x3]) (rest := []) (t_X8_standsAt G l hN o0 k_o0 n_o0 x1 x3 h hq12) cv_X8_standsAt hx hb hml hl.1 Z hw k_o0 (by decide) n_o0 rfl rfl wd770 rfl rfl (Nat.le_of_ble_eq_true rfl) (by decide) dX8_lengthOf_12 (fun H locs hw => ?_)
      refine lv_istore (lv' := [(4, _), (0, _), (1, _), (2, _), (3, _)]) hx hb dX8_lengthOf_15 hl (by decide) rfl (fun ls hl => ?_)
      refine lv_iload_n hx hb dX8_lengthOf_17 rfl (lv_at hl 3 rfl) ?_
      refine lv_iload hx hb dX8_lengthOf_18 (lv_at hl 0 rfl) ?_
      refine z_callSi (As := [.int q12]) (rest := [.int x2]) (t_X8_pitOf G l hN q12 h) cs_X8_pitOf hx hb hml hl.1 Z hw wd771 rfl rfl (Nat.le_of_ble_eq_true rfl) (by decide) dX8_lengthOf_20 (fun H locs hw => ?_)
      refine lv_iload hx hb dX8_lengthOf_23 (lv_at hl 0 rfl) ?_
      refine z_callSi (As := [.int q12]) (rest := [.int (f_X8_pitOf q12 h), .int x2]) (t_X8_flatOf G l hN q12 h) cs_X8_flatOf hx hb hml hl.1 Z hw wd774 rfl rfl (Nat.le_of_ble_eq_true rfl) (by decide) dX8_lengthOf_25 (fun H locs hw => ?_)
      refine lv_iadd hx hb dX8_lengthOf_28 ?_
      refine lv_iadd hx hb dX8_lengthOf_29 ?_
      obtain ⟨v30, hqv30, hf⟩ := tb_ex hf
      refine z_top hqv30 ?_
      refine lv_istore_n (lv' := [(2, _), (4, _), (0, _), (1, _), (3, _)]) hx hb dX8_lengthOf_30 rfl hl (by decide) rfl (fun ls hl => ?_)
      refine lv_iinc (v := x3 + (1 : Int32)) (lv' := [(3, _), (2, _), (4, _), (0, _), (1, _)]) hx hb dX8_lengthOf_31 hl (k := 4) rfl rfl (by decide) rfl (fun ls hl => ?_)
      refine lv_goto (tgt := 4) hx hb dX8_lengthOf_34 (by decide) ?_
      exact ih x1 v30 (x3 + (1 : Int32)) h  rv hq ls H locs (lv_sub hl [3, 4, 1, 0] rfl) hw hf kk
set_option maxHeartbeats 4000000 in
set_option maxRecDepth 100000 in
theorem t_X8_lengthOf (G : GM) (l : Launch) (hN : 70 ≤ gN G) (o0 : Nat) (k_o0 : kd o0 = 7) (n_o0 : o0 < gN G) (x1 : Int32) (h : HP) {r : Int32} (hf : f_X8_lengthOf o0 x1 h = some r) : MC G l yX8_lengthOf cX8_lengthOf 5 (some .int) 3 [.ref (ra G o0), .int x1] h h (some (.int r)) := by
  unfold f_X8_lengthOf at hf
  refine z_start (by decide) (Nat.le_of_ble_eq_true rfl) ?_
  intro p e s m args below meth c ls hx hb hr hlk hml Z hw hl
  have Z : ZK G s args m RX8 := Z
  have hl : lv_has ls 5 [(0, .ref (ra G o0)), (1, .int x1)] := hl
  obtain ⟨H, hH⟩ : ∃ H, H = s.heap := ⟨_, rfl⟩
  rw [← hH] at hw ⊢
  obtain ⟨locs, hlc⟩ : ∃ locs : List Loc, locs = [] := ⟨_, rfl⟩
  rw [← hlc] at hw ⊢
  refine lv_iconst (v := (0 : Int32)) hx hb dX8_lengthOf_0 (by decide) ?_
  refine lv_istore_n (lv' := [(2, _), (0, _), (1, _)]) hx hb dX8_lengthOf_1 rfl hl (by decide) rfl (fun ls hl => ?_)
  refine lv_iconst (v := (0 : Int32)) hx hb dX8_lengthOf_2 (by decide) ?_
  refine lv_istore_n (lv' := [(3, _), (2, _), (0, _), (1, _)]) hx hb dX8_lengthOf_3 rfl hl (by decide) rfl (fun ls hl => ?_)
  obtain ⟨q4, hq4, hf⟩ := ob_some hf
  refine w_X8_lengthOf_L4 G l hN o0 k_o0 n_o0 hx hb hr hlk hml Z FU x1 (0 : Int32) (0 : Int32) h  _ _ ls H locs (lv_sub hl [2, 3, 1, 0] rfl) hw hq4 (fun ls H locs hl hw => ?_)
  refine lv_iload_n hx hb dX8_lengthOf_37 rfl (lv_at hl 0 rfl) ?_
  obtain rfl := Option.some.inj hf
  exact z_iret hx hb hr hlk hw dX8_lengthOf_38
set_option maxHeartbeats 4000000 in
set_option maxRecDepth 100000 in
theorem w_X8_longestRunOf_L4 (G : GM) (l : Launch) (hN : 70 ≤ gN G) (o0 : Nat) (k_o0 : kd o0 = 7) (n_o0 : o0 < gN G) {p : Program} {e : Env} {s : State} {m : MethodId} {args : Array Value} {below : List Frame} {meth : Method} {c : Code} (hx : p.tables.exec = Jvm.exec) (hb : c.code = cX8_longestRunOf) (hr : meth.sig.returnType = (some .int)) (hlk : meth.locks = false) (hml : c.maxLocals = 5) (Z : ZK G s args m RX8) : ∀ (n : Nat) (x1 : Int32) (x2 : Int32) (x3 : Int32)  (h : HP)  (rv : Option Value) (hq : HP) (ls : Array Slot) (H : Heap) (locs : List Loc) {q : Int32}, lv_has ls 5 [(0, .ref (ra G o0)), (1, .int x1), (2, .int x2), (3, .int x3)] → HW G h s H locs → f_X8_longestRunOf_L4 n o0 x1 x2 x3 h = some q → (∀ (ls : Array Slot) (H : Heap) (locs : List Loc), lv_has ls 5 [(2, .int q)] → HW G h s H locs → WZ p l e 3 s m args below meth c G rv hq H locs (F0 m 41 ls [])) → WZ p l e 3 s m args below meth c G rv hq H locs (F0 m 4 ls []) := by
  intro n
  induction n with
  | zero => intro x1 x2 x3  h  rv hq ls H locs q hl hw hf kk; cases hf
  | succ n ih =>
    intro x1 x2 x3  h  rv hq ls H locs q hl hw hf kk
    rw [f_X8_longestRunOf_L4] at hf
    refine lv_iload_n hx hb dX8_longestRunOf_4 rfl (lv_at hl 3 rfl) ?_
    refine lv_iconst (v := (4 : Int32)) hx hb dX8_longestRunOf_5 (by decide) ?_
    refine lv_icmp_ge (tgt := 41) hx hb dX8_longestRunOf_6 (by decide) (fun c6 => ?_) (fun c6 => ?_)
    · have hf := (if_pos c6).symm.trans hf
      obtain rfl := Option.some.inj hf
      exact kk ls H locs (lv_sub hl [2] rfl) hw
    · have hf := (if_neg c6).symm.trans hf
      refine lv_aload_n hx hb dX8_longestRunOf_9 rfl (lv_at hl 0 rfl) ?_
      refine lv_iload_n hx hb dX8_longestRunOf_10 rfl (lv_at hl 1 rfl) ?_
      refine lv_iload_n hx hb dX8_longestRunOf_11 rfl (lv_at hl 3 rfl) ?_
      obtain ⟨q12, hq12, hf⟩ := ob_some hf
      refine z_callVi (o := o0) (ci := 7) (As := [.int x1, .int x3]) (rest := []) (t_X8_standsAt G l hN o0 k_o0 n_o0 x1 x3 h hq12) cv_X8_standsAt hx hb hml hl.1 Z hw k_o0 (by decide) n_o0 rfl rfl wd770 rfl rfl (Nat.le_of_ble_eq_true rfl) (by decide) dX8_longestRunOf_12 (fun H locs hw => ?_)
      refine lv_istore (lv' := [(4, _), (0, _), (1, _), (2, _), (3, _)]) hx hb dX8_longestRunOf_15 hl (by decide) rfl (fun ls hl => ?_)
      refine lv_iload_n hx hb dX8_longestRunOf_17 rfl (lv_at hl 3 rfl) ?_
      refine lv_iload hx hb dX8_longestRunOf_18 (lv_at hl 0 rfl) ?_
      refine z_callSi (As := [.int q12]) (rest := [.int x2]) (t_X8_pitOf G l hN q12 h) cs_X8_pitOf hx hb hml hl.1 Z hw wd771 rfl rfl (Nat.le_of_ble_eq_true rfl) (by decide) dX8_longestRunOf_20 (fun H locs hw => ?_)
      refine lv_iload hx hb dX8_longestRunOf_23 (lv_at hl 0 rfl) ?_
      refine z_callSi (As := [.int q12]) (rest := [.int (f_X8_pitOf q12 h), .int x2]) (t_X8_flatOf G l hN q12 h) cs_X8_flatOf hx hb hml hl.1 Z hw wd774 rfl rfl (Nat.le_of_ble_eq_true rfl) (by decide) dX8_longestRunOf_25 (fun H locs hw => ?_)
      refine z_mmax hx hb (hml.trans hl.1.symm) Z wd785 wd465 wd82 wd466 (Nat.le_of_ble_eq_true rfl) dX8_longestRunOf_28 ?_
      refine z_mmax hx hb (hml.trans hl.1.symm) Z wd785 wd465 wd82 wd466 (Nat.le_of_ble_eq_true rfl) dX8_longestRunOf_31 ?_
      obtain ⟨v34, hqv34, hf⟩ := tb_ex hf
      refine z_top hqv34 ?_
      refine lv_istore_n (lv' := [(2, _), (4, _), (0, _), (1, _), (3, _)]) hx hb dX8_longestRunOf_34 rfl hl (by decide) rfl (fun ls hl => ?_)
      refine lv_iinc (v := x3 + (1 : Int32)) (lv' := [(3, _), (2, _), (4, _), (0, _), (1, _)]) hx hb dX8_longestRunOf_35 hl (k := 4) rfl rfl (by decide) rfl (fun ls hl => ?_)
      refine lv_goto (tgt := 4) hx hb dX8_longestRunOf_38 (by decide) ?_
      exact ih x1 v34 (x3 + (1 : Int32)) h  rv hq ls H locs (lv_sub hl [3, 4, 1, 0] rfl) hw hf kk
set_option maxHeartbeats 4000000 in
set_option maxRecDepth 100000 in
theorem t_X8_longestRunOf (G : GM) (l : Launch) (hN : 70 ≤ gN G) (o0 : Nat) (k_o0 : kd o0 = 7) (n_o0 : o0 < gN G) (x1 : Int32) (h : HP) {r : Int32} (hf : f_X8_longestRunOf o0 x1 h = some r) : MC G l yX8_longestRunOf cX8_longestRunOf 5 (some .int) 3 [.ref (ra G o0), .int x1] h h (some (.int r)) := by
  unfold f_X8_longestRunOf at hf
  refine z_start (by decide) (Nat.le_of_ble_eq_true rfl) ?_
  intro p e s m args below meth c ls hx hb hr hlk hml Z hw hl
  have Z : ZK G s args m RX8 := Z
  have hl : lv_has ls 5 [(0, .ref (ra G o0)), (1, .int x1)] := hl
  obtain ⟨H, hH⟩ : ∃ H, H = s.heap := ⟨_, rfl⟩
  rw [← hH] at hw ⊢
  obtain ⟨locs, hlc⟩ : ∃ locs : List Loc, locs = [] := ⟨_, rfl⟩
  rw [← hlc] at hw ⊢
  refine lv_iconst (v := (0 : Int32)) hx hb dX8_longestRunOf_0 (by decide) ?_
  refine lv_istore_n (lv' := [(2, _), (0, _), (1, _)]) hx hb dX8_longestRunOf_1 rfl hl (by decide) rfl (fun ls hl => ?_)
  refine lv_iconst (v := (0 : Int32)) hx hb dX8_longestRunOf_2 (by decide) ?_
  refine lv_istore_n (lv' := [(3, _), (2, _), (0, _), (1, _)]) hx hb dX8_longestRunOf_3 rfl hl (by decide) rfl (fun ls hl => ?_)
  obtain ⟨q4, hq4, hf⟩ := ob_some hf
  refine w_X8_longestRunOf_L4 G l hN o0 k_o0 n_o0 hx hb hr hlk hml Z FU x1 (0 : Int32) (0 : Int32) h  _ _ ls H locs (lv_sub hl [2, 3, 1, 0] rfl) hw hq4 (fun ls H locs hl hw => ?_)
  refine lv_iload_n hx hb dX8_longestRunOf_41 rfl (lv_at hl 0 rfl) ?_
  obtain rfl := Option.some.inj hf
  exact z_iret hx hb hr hlk hw dX8_longestRunOf_42
set_option maxHeartbeats 4000000 in
set_option maxRecDepth 100000 in
theorem t_X10_frame (G : GM) (l : Launch) (hN : 70 ≤ gN G) (x1 : Int32) (x2 : Int32) (h : HP) {r : Int32} {h' : HP} (hf : f_X10_frame x1 x2 h = some (r, h')) : MC G l yX10_frame cX10_frame 4 (some .int) 4 [.ref (ra G 0), .int x1, .int x2] h h' (some (.int r)) := by
  unfold f_X10_frame at hf
  refine z_start (by decide) (Nat.le_of_ble_eq_true rfl) ?_
  intro p e s m args below meth c ls hx hb hr hlk hml Z hw hl
  have Z : ZK G s args m RX10 := Z
  have hl : lv_has ls 4 [(0, .ref (ra G 0)), (1, .int x1), (2, .int x2)] := hl
  obtain ⟨H, hH⟩ : ∃ H, H = s.heap := ⟨_, rfl⟩
  rw [← hH] at hw ⊢
  obtain ⟨locs, hlc⟩ : ∃ locs : List Loc, locs = [] := ⟨_, rfl⟩
  rw [← hlc] at hw ⊢
  refine lv_aload_n hx hb dX10_frame_0 rfl (lv_at hl 0 rfl) ?_
  refine z_getr (o := 0) (o2 := 1) (C := RX10) (T := TX10) (N := 8) (ci := 8) (k := 0) hx hb Z hw (by decide) (by omega) rfl inX10 (by decide) rfl wd288 dX10_frame_1 ?_
  refine z_getr (o := 1) (o2 := 2) (C := RX6) (T := TX6) (N := 4) (ci := 5) (k := 0) hx hb Z hw (by decide) (by omega) rfl inX6 (by decide) rfl wd199 dX10_frame_4 ?_
  refine lv_astore_n (lv' := [(3, _), (0, _), (1, _), (2, _)]) hx hb dX10_frame_7 rfl hl (by decide) rfl (fun ls hl => ?_)
  refine lv_aload_n hx hb dX10_frame_8 rfl (lv_at hl 0 rfl) ?_
  refine lv_iload_n hx hb dX10_frame_9 rfl (lv_at hl 2 rfl) ?_
  refine z_callVi (o := 2) (ci := 4) (As := [.int x1]) (rest := []) (t_X5_hasFrame G l hN 2 (by decide) (by omega) x1 h) cv_X5_hasFrame hx hb hml hl.1 Z hw (by decide) (by decide) (by omega) rfl rfl wd345 rfl rfl (Nat.le_of_ble_eq_true rfl) (by decide) dX10_frame_10 (fun H locs hw => ?_)
  refine lv_if_ne (tgt := 18) hx hb dX10_frame_13 (by decide) (fun c13 => ?_) (fun c13 => ?_)
  · have hf := (if_neg c13).symm.trans hf
    refine lv_iload_n hx hb dX10_frame_18 rfl (lv_at hl 3 rfl) ?_
    by_cases c19_0 : x2 = 0
    · have hf := (if_pos c19_0).symm.trans hf
      refine z_sw c19_0 ?_
      refine lv_tableIn (tgt := 68) hx hb dX10_frame_19 (by decide) (by decide) rfl (by decide) ?_
      refine lv_aload_n hx hb dX10_frame_68 rfl (lv_at hl 0 rfl) ?_
      refine lv_iload_n hx hb dX10_frame_69 rfl (lv_at hl 2 rfl) ?_
      obtain ⟨q70, hq70, hf⟩ := ob_some hf
      refine z_callVi (o := 2) (ci := 4) (As := [.int x1]) (rest := []) (t_X5_turnOf G l hN 2 (by decide) (by omega) x1 h hq70) cv_X5_turnOf hx hb hml hl.1 Z hw (by decide) (by decide) (by omega) rfl rfl wd751 rfl rfl (Nat.le_of_ble_eq_true rfl) (by decide) dX10_frame_70 (fun H locs hw => ?_)
      obtain ⟨rfl, rfl⟩ := Prod.mk.inj (Option.some.inj hf)
      exact z_iret hx hb hr hlk hw dX10_frame_73
    have hf := (if_neg c19_0).symm.trans hf
    by_cases c19_1 : x2 = 1
    · have hf := (if_pos c19_1).symm.trans hf
      refine z_sw c19_1 ?_
      refine lv_tableIn (tgt := 74) hx hb dX10_frame_19 (by decide) (by decide) rfl (by decide) ?_
      refine lv_iload_n hx hb dX10_frame_74 rfl (lv_at hl 2 rfl) ?_
      refine lv_aload_n hx hb dX10_frame_75 rfl (lv_at hl 0 rfl) ?_
      refine lv_aload_n hx hb dX10_frame_76 rfl (lv_at hl 0 rfl) ?_
      refine lv_iload_n hx hb dX10_frame_77 rfl (lv_at hl 2 rfl) ?_
      obtain ⟨q78, hq78, hf⟩ := ob_some hf
      refine z_callVi (o := 2) (ci := 4) (As := [.int x1]) (rest := [.ref (ra G 2), .int x1]) (t_X5_turnOf G l hN 2 (by decide) (by omega) x1 h hq78) cv_X5_turnOf hx hb hml hl.1 Z hw (by decide) (by decide) (by omega) rfl rfl wd751 rfl rfl (Nat.le_of_ble_eq_true rfl) (by decide) dX10_frame_78 (fun H locs hw => ?_)
      refine z_callVi (o := 2) (ci := 4) (As := [.int q78]) (rest := [.int x1]) (t_X5_firstOf G l hN 2 (by decide) (by omega) q78 h) cv_X5_firstOf hx hb hml hl.1 Z hw (by decide) (by decide) (by omega) rfl rfl wd752 rfl rfl (Nat.le_of_ble_eq_true rfl) (by decide) dX10_frame_81 (fun H locs hw => ?_)
      refine lv_isub hx hb dX10_frame_84 ?_
      obtain ⟨rfl, rfl⟩ := Prod.mk.inj (Option.some.inj hf)
      exact z_iret hx hb hr hlk hw dX10_frame_85
    have hf := (if_neg c19_1).symm.trans hf
    by_cases c19_2 : x2 = 2
    · have hf := (if_pos c19_2).symm.trans hf
      refine z_sw c19_2 ?_
      refine lv_tableIn (tgt := 86) hx hb dX10_frame_19 (by decide) (by decide) rfl (by decide) ?_
      refine lv_aload_n hx hb dX10_frame_86 rfl (lv_at hl 0 rfl) ?_
      refine lv_iload_n hx hb dX10_frame_87 rfl (lv_at hl 2 rfl) ?_
      refine z_callVi (o := 2) (ci := 4) (As := [.int x1]) (rest := []) (t_X5_groupOf G l hN 2 (by decide) (by omega) x1 h) cv_X5_groupOf hx hb hml hl.1 Z hw (by decide) (by decide) (by omega) rfl rfl wd753 rfl rfl (Nat.le_of_ble_eq_true rfl) (by decide) dX10_frame_88 (fun H locs hw => ?_)
      obtain ⟨rfl, rfl⟩ := Prod.mk.inj (Option.some.inj hf)
      exact z_iret hx hb hr hlk hw dX10_frame_91
    have hf := (if_neg c19_2).symm.trans hf
    by_cases c19_3 : x2 = 3
    · have hf := (if_pos c19_3).symm.trans hf
      refine z_sw c19_3 ?_
      refine lv_tableIn (tgt := 92) hx hb dX10_frame_19 (by decide) (by decide) rfl (by decide) ?_
      refine lv_iload_n hx hb dX10_frame_92 rfl (lv_at hl 2 rfl) ?_
      refine z_callSi (As := [.int x1]) (rest := []) (t_X5_isCheck G l hN x1 h) cs_X5_isCheck hx hb hml hl.1 Z hw wd360 rfl rfl (Nat.le_of_ble_eq_true rfl) (by decide) dX10_frame_93 (fun H locs hw => ?_)
      refine lv_if_eq (tgt := 103) hx hb dX10_frame_96 (by decide) (fun c96 => ?_) (fun c96 => ?_)
      · have hf := (if_pos c96).symm.trans hf
        refine lv_iconst (v := (0 : Int32)) hx hb dX10_frame_103 (by decide) ?_
        obtain ⟨rfl, rfl⟩ := Prod.mk.inj (Option.some.inj hf)
        exact z_iret hx hb hr hlk hw dX10_frame_104
      · have hf := (if_neg c96).symm.trans hf
        refine lv_iconst (v := (1 : Int32)) hx hb dX10_frame_99 (by decide) ?_
        refine lv_goto (tgt := 104) hx hb dX10_frame_100 (by decide) ?_
        obtain ⟨rfl, rfl⟩ := Prod.mk.inj (Option.some.inj hf)
        exact z_iret hx hb hr hlk hw dX10_frame_104
    have hf := (if_neg c19_3).symm.trans hf
    by_cases c19_4 : x2 = 4
    · have hf := (if_pos c19_4).symm.trans hf
      refine z_sw c19_4 ?_
      refine lv_tableIn (tgt := 105) hx hb dX10_frame_19 (by decide) (by decide) rfl (by decide) ?_
      refine lv_aload_n hx hb dX10_frame_105 rfl (lv_at hl 1 rfl) ?_
      refine z_getr (o := 0) (o2 := 63) (C := RX10) (T := TX10) (N := 8) (ci := 8) (k := 6) hx hb Z hw (by decide) (by omega) rfl inX10 (by decide) rfl wd294 dX10_frame_106 ?_
      refine lv_aload_n hx hb dX10_frame_109 rfl (lv_at hl 1 rfl) ?_
      refine z_getr (o := 0) (o2 := 1) (C := RX10) (T := TX10) (N := 8) (ci := 8) (k := 0) hx hb Z hw (by decide) (by omega) rfl inX10 (by decide) rfl wd288 dX10_frame_110 ?_
      obtain ⟨q113, hq113, hf⟩ := ob_some hf
      refine z_callVi (o := 63) (ci := 6) (As := [.ref (ra G 1)]) (rest := []) (t_X7_of G l hN 1 (by decide) (by omega) h hq113) cv_X7_of hx hb hml hl.1 Z hw (by decide) (by decide) (by omega) rfl rfl wd423 rfl rfl (Nat.le_of_ble_eq_true rfl) (by decide) dX10_frame_113 (fun H locs hw => ?_)
      refine lv_iload_n hx hb dX10_frame_116 rfl (lv_at hl 2 rfl) ?_
      refine z_callVi (o := 63) (ci := 6) (As := [.int x1]) (rest := []) (t_X7_isDamaged G l hN x1 q113) cv_X7_isDamaged hx hb hml hl.1 Z hw (by decide) (by decide) (by omega) rfl rfl wd761 rfl rfl (Nat.le_of_ble_eq_true rfl) (by decide) dX10_frame_117 (fun H locs hw => ?_)
      refine lv_if_eq (tgt := 127) hx hb dX10_frame_120 (by decide) (fun c120 => ?_) (fun c120 => ?_)
      · have hf := (if_pos c120).symm.trans hf
        refine lv_iconst (v := (0 : Int32)) hx hb dX10_frame_127 (by decide) ?_
        obtain ⟨rfl, rfl⟩ := Prod.mk.inj (Option.some.inj hf)
        exact z_iret hx hb hr hlk hw dX10_frame_128
      · have hf := (if_neg c120).symm.trans hf
        refine lv_iconst (v := (1 : Int32)) hx hb dX10_frame_123 (by decide) ?_
        refine lv_goto (tgt := 128) hx hb dX10_frame_124 (by decide) ?_
        obtain ⟨rfl, rfl⟩ := Prod.mk.inj (Option.some.inj hf)
        exact z_iret hx hb hr hlk hw dX10_frame_128
    have hf := (if_neg c19_4).symm.trans hf
    by_cases c19_5 : x2 = 5
    · have hf := (if_pos c19_5).symm.trans hf
      refine z_sw c19_5 ?_
      refine lv_tableIn (tgt := 129) hx hb dX10_frame_19 (by decide) (by decide) rfl (by decide) ?_
      refine lv_aload_n hx hb dX10_frame_129 rfl (lv_at hl 1 rfl) ?_
      refine z_getr (o := 0) (o2 := 63) (C := RX10) (T := TX10) (N := 8) (ci := 8) (k := 6) hx hb Z hw (by decide) (by omega) rfl inX10 (by decide) rfl wd294 dX10_frame_130 ?_
      refine lv_aload_n hx hb dX10_frame_133 rfl (lv_at hl 1 rfl) ?_
      refine z_getr (o := 0) (o2 := 1) (C := RX10) (T := TX10) (N := 8) (ci := 8) (k := 0) hx hb Z hw (by decide) (by omega) rfl inX10 (by decide) rfl wd288 dX10_frame_134 ?_
      obtain ⟨q137, hq137, hf⟩ := ob_some hf
      refine z_callVi (o := 63) (ci := 6) (As := [.ref (ra G 1)]) (rest := []) (t_X7_of G l hN 1 (by decide) (by omega) h hq137) cv_X7_of hx hb hml hl.1 Z hw (by decide) (by decide) (by omega) rfl rfl wd423 rfl rfl (Nat.le_of_ble_eq_true rfl) (by decide) dX10_frame_137 (fun H locs hw => ?_)
      refine lv_iload_n hx hb dX10_frame_140 rfl (lv_at hl 2 rfl) ?_
      refine z_callVi (o := 63) (ci := 6) (As := [.int x1]) (rest := []) (t_X7_howIs G l hN x1 q137) cv_X7_howIs hx hb hml hl.1 Z hw (by decide) (by decide) (by omega) rfl rfl wd762 rfl rfl (Nat.le_of_ble_eq_true rfl) (by decide) dX10_frame_141 (fun H locs hw => ?_)
      obtain ⟨rfl, rfl⟩ := Prod.mk.inj (Option.some.inj hf)
      exact z_iret hx hb hr hlk hw dX10_frame_144
    have hf := (if_neg c19_5).symm.trans hf
    by_cases c19_6 : x2 = 6
    · have hf := (if_pos c19_6).symm.trans hf
      refine z_sw c19_6 ?_
      refine lv_tableIn (tgt := 145) hx hb dX10_frame_19 (by decide) (by decide) rfl (by decide) ?_
      refine lv_aload_n hx hb dX10_frame_145 rfl (lv_at hl 1 rfl) ?_
      refine z_getr (o := 0) (o2 := 1) (C := RX10) (T := TX10) (N := 8) (ci := 8) (k := 0) hx hb Z hw (by decide) (by omega) rfl inX10 (by decide) rfl wd288 dX10_frame_146 ?_
      refine z_getr (o := 1) (o2 := 5) (C := RX6) (T := TX6) (N := 4) (ci := 5) (k := 2) hx hb Z hw (by decide) (by omega) rfl inX6 (by decide) rfl wd204 dX10_frame_149 ?_
      refine lv_iload_n hx hb dX10_frame_152 rfl (lv_at hl 2 rfl) ?_
      obtain ⟨q153, hq153, hf⟩ := ob_some hf
      refine z_callVi (o := 5) (ci := 7) (As := [.int x1]) (rest := []) (t_X8_lengthOf G l hN 5 (by decide) (by omega) x1 h hq153) cv_X8_lengthOf hx hb hml hl.1 Z hw (by decide) (by decide) (by omega) rfl rfl wd766 rfl rfl (Nat.le_of_ble_eq_true rfl) (by decide) dX10_frame_153 (fun H locs hw => ?_)
      obtain ⟨rfl, rfl⟩ := Prod.mk.inj (Option.some.inj hf)
      exact z_iret hx hb hr hlk hw dX10_frame_156
    have hf := (if_neg c19_6).symm.trans hf
    by_cases c19_7 : x2 = 7
    · have hf := (if_pos c19_7).symm.trans hf
      refine z_sw c19_7 ?_
      refine lv_tableIn (tgt := 157) hx hb dX10_frame_19 (by decide) (by decide) rfl (by decide) ?_
      refine lv_aload_n hx hb dX10_frame_157 rfl (lv_at hl 1 rfl) ?_
      refine z_getr (o := 0) (o2 := 1) (C := RX10) (T := TX10) (N := 8) (ci := 8) (k := 0) hx hb Z hw (by decide) (by omega) rfl inX10 (by decide) rfl wd288 dX10_frame_158 ?_
      refine z_getr (o := 1) (o2 := 5) (C := RX6) (T := TX6) (N := 4) (ci := 5) (k := 2) hx hb Z hw (by decide) (by omega) rfl inX6 (by decide) rfl wd204 dX10_frame_161 ?_
      refine lv_iload_n hx hb dX10_frame_164 rfl (lv_at hl 2 rfl) ?_
      obtain ⟨q165, hq165, hf⟩ := ob_some hf
      refine z_callVi (o := 5) (ci := 7) (As := [.int x1]) (rest := []) (t_X8_balanceOf G l hN 5 (by decide) (by omega) x1 h hq165) cv_X8_balanceOf hx hb hml hl.1 Z hw (by decide) (by decide) (by omega) rfl rfl wd777 rfl rfl (Nat.le_of_ble_eq_true rfl) (by decide) dX10_frame_165 (fun H locs hw => ?_)
      refine lv_bipush (v := (100 : Int32)) hx hb dX10_frame_168 (by decide) ?_
      refine lv_iadd hx hb dX10_frame_170 ?_
      obtain ⟨rfl, rfl⟩ := Prod.mk.inj (Option.some.inj hf)
      exact z_iret hx hb hr hlk hw dX10_frame_171
    have hf := (if_neg c19_7).symm.trans hf
    by_cases c19_8 : x2 = 8
    · have hf := (if_pos c19_8).symm.trans hf
      refine z_sw c19_8 ?_
      refine lv_tableIn (tgt := 172) hx hb dX10_frame_19 (by decide) (by decide) rfl (by decide) ?_
      refine lv_aload_n hx hb dX10_frame_172 rfl (lv_at hl 1 rfl) ?_
      refine z_getr (o := 0) (o2 := 1) (C := RX10) (T := TX10) (N := 8) (ci := 8) (k := 0) hx hb Z hw (by decide) (by omega) rfl inX10 (by decide) rfl wd288 dX10_frame_173 ?_
      refine z_getr (o := 1) (o2 := 5) (C := RX6) (T := TX6) (N := 4) (ci := 5) (k := 2) hx hb Z hw (by decide) (by omega) rfl inX6 (by decide) rfl wd204 dX10_frame_176 ?_
      refine lv_iload_n hx hb dX10_frame_179 rfl (lv_at hl 2 rfl) ?_
      obtain ⟨q180, hq180, hf⟩ := ob_some hf
      refine z_callVi (o := 5) (ci := 7) (As := [.int x1]) (rest := []) (t_X8_longestRunOf G l hN 5 (by decide) (by omega) x1 h hq180) cv_X8_longestRunOf hx hb hml hl.1 Z hw (by decide) (by decide) (by omega) rfl rfl wd781 rfl rfl (Nat.le_of_ble_eq_true rfl) (by decide) dX10_frame_180 (fun H locs hw => ?_)
      obtain ⟨rfl, rfl⟩ := Prod.mk.inj (Option.some.inj hf)
      exact z_iret hx hb hr hlk hw dX10_frame_183
    have hf := (if_neg c19_8).symm.trans hf
    refine lv_tableOut (tgt := 184) hx hb dX10_frame_19 (by have := [0]; have e0 := sw_ne (k := 0) (by decide) c19_0; have e1 := sw_ne (k := 1) (by decide) c19_1; have e2 := sw_ne (k := 2) (by decide) c19_2; have e3 := sw_ne (k := 3) (by decide) c19_3; have e4 := sw_ne (k := 4) (by decide) c19_4; have e5 := sw_ne (k := 5) (by decide) c19_5; have e6 := sw_ne (k := 6) (by decide) c19_6; have e7 := sw_ne (k := 7) (by decide) c19_7; have e8 := sw_ne (k := 8) (by decide) c19_8; omega) (by decide) ?_
    refine lv_bipush (v := (-2 : Int32)) hx hb dX10_frame_184 (by decide) ?_
    obtain ⟨rfl, rfl⟩ := Prod.mk.inj (Option.some.inj hf)
    exact z_iret hx hb hr hlk hw dX10_frame_186
  · have hf := (if_pos c13).symm.trans hf
    refine lv_iconst (v := (-1 : Int32)) hx hb dX10_frame_16 (by decide) ?_
    obtain ⟨rfl, rfl⟩ := Prod.mk.inj (Option.some.inj hf)
    exact z_iret hx hb hr hlk hw dX10_frame_17
