/-! walks (by program) -/
set_option maxHeartbeats 4000000 in
set_option maxRecDepth 100000 in
theorem w_X11_bestGuess_L23 (G : GM) (l : Launch) (hN : 77 ≤ gN G)  {p : Program} {e : Env} {s : State} {m : MethodId} {args : Array Value} {below : List Frame} {meth : Method} {c : Code} (hx : p.tables.exec = Jvm.exec) (hb : c.code = cX11_bestGuess) (hr : meth.sig.returnType = (some .int)) (hlk : meth.locks = false) (hml : c.maxLocals = 6) (Z : ZK G s args m RX11) : ∀ (n : Nat) (x1 : Int32) (x2 : Int32) (x3 : Int32) (x4 : Int32)  (h : HP)  (rv : Option Value) (hq : HP) (ls : Array Slot) (H : Heap) (locs : List Loc) {q : Int32 × HP}, lv_has ls 6 [(0, .ref (ra G 70)), (1, .int x1), (2, .int x2), (3, .int x3), (4, .int x4)] → HW G h s H locs → f_X11_bestGuess_L23 n x1 x2 x3 x4 h = some q → (∀ (ls : Array Slot) (H : Heap) (locs : List Loc), lv_has ls 6 [(2, .int q.1)] → HW G q.2 s H locs → WZ p l e 4 s m args below meth c G rv hq H locs (F0 m 88 ls [])) → WZ p l e 4 s m args below meth c G rv hq H locs (F0 m 23 ls []) := by
  intro n
  induction n with
  | zero => intro x1 x2 x3 x4  h  rv hq ls H locs q hl hw hf kk; cases hf
  | succ n ih =>
    intro x1 x2 x3 x4  h  rv hq ls H locs q hl hw hf kk
    rw [f_X11_bestGuess_L23] at hf
    refine lv_iload hx hb dX11_bestGuess_23 (lv_at hl 4 rfl) ?_
    refine lv_sipush (v := (140 : Int32)) hx hb dX11_bestGuess_25 (by decide) ?_
    refine lv_icmp_gt (tgt := 88) hx hb dX11_bestGuess_28 (by decide) (fun c28 => ?_) (fun c28 => ?_)
    · have hf := (if_pos c28).symm.trans hf
      obtain rfl := Option.some.inj hf
      exact kk ls H locs (lv_sub hl [2] rfl) hw
    · have hf := (if_neg c28).symm.trans hf
      refine lv_aload_n hx hb dX11_bestGuess_31 rfl (lv_at hl 0 rfl) ?_
      refine z_getr (o := 70) (o2 := 71) (C := RX11) (T := TX11) (N := 11) (ci := 9) (k := 0) hx hb Z hw (by decide) (by omega) rfl inX11 (by decide) rfl wd875 dX11_bestGuess_32 ?_
      refine lv_iconst (v := (4 : Int32)) hx hb dX11_bestGuess_35 (by decide) ?_
      refine lv_iload hx hb dX11_bestGuess_36 (lv_at hl 4 rfl) ?_
      refine y_iast (o := 71) (k := 4) hx hb Z hw (by decide) (by omega) (by decide) (inB_vp (by decide)) dX11_bestGuess_38 (fun H locs hw => ?_)
      refine lv_aload_n hx hb dX11_bestGuess_39 rfl (lv_at hl 0 rfl) ?_
      refine lv_iload_n hx hb dX11_bestGuess_40 rfl (lv_at hl 1 rfl) ?_
      obtain ⟨h41, hqh41, hf⟩ := tb_ex hf
      rw [hqh41] at hw
      obtain ⟨q41, hq41, hf⟩ := ob_some hf
      refine z_callVi (o := 70) (ci := 9) (As := [.int x1]) (rest := []) (t_X11_seeks G l hN x1 h41 hq41) cv_X11_seeks hx hb hml hl.1 Z hw (by decide) (by decide) (by omega) rfl rfl wd1028 rfl rfl (Nat.le_of_ble_eq_true rfl) (by decide) dX11_bestGuess_41 (fun H locs hw => ?_)
      refine lv_istore (lv' := [(5, _), (0, _), (1, _), (2, _), (3, _), (4, _)]) hx hb dX11_bestGuess_44 hl (by decide) rfl (fun ls hl => ?_)
      refine lv_iload_n hx hb dX11_bestGuess_46 rfl (lv_at hl 3 rfl) ?_
      refine lv_bipush (v := (-5 : Int32)) hx hb dX11_bestGuess_47 (by decide) ?_
      have HJ64 : ∀ (ls : Array Slot) (H : Heap) (locs : List Loc), lv_has ls 6 [(0, .ref (ra G 70)), (1, .int x1), (3, .int x3), (4, .int x4), (5, .int q41.1)] → HW G q41.2 s H locs → WZ p l e 4 s m args below meth c G rv hq H locs (F0 m 64 ls [.int (if x2 = (-5 : Int32) then x4 else (if x3 ≤ q41.1 then x2 else x4))]) := by
        intro ls H locs hl hw
        obtain ⟨v64, hqv64, hf⟩ := tb_ex hf
        refine z_top hqv64 ?_
        refine lv_istore_n (lv' := [(2, _), (0, _), (1, _), (3, _), (4, _), (5, _)]) hx hb dX11_bestGuess_64 rfl hl (by decide) rfl (fun ls hl => ?_)
        refine lv_iload_n hx hb dX11_bestGuess_65 rfl (lv_at hl 0 rfl) ?_
        refine lv_iload hx hb dX11_bestGuess_66 (lv_at hl 4 rfl) ?_
        have HJ77 : ∀ (ls : Array Slot) (H : Heap) (locs : List Loc), lv_has ls 6 [(0, .ref (ra G 70)), (1, .int x1), (2, .int v64), (4, .int x4)] → HW G q41.2 s H locs → WZ p l e 4 s m args below meth c G rv hq H locs (F0 m 77 ls [.int (if v64 = x4 then q41.1 else x3)]) := by
          intro ls H locs hl hw
          refine lv_istore_n (lv' := [(3, _), (0, _), (1, _), (2, _), (4, _)]) hx hb dX11_bestGuess_77 rfl hl (by decide) rfl (fun ls hl => ?_)
          refine lv_aload_n hx hb dX11_bestGuess_78 rfl (lv_at hl 1 rfl) ?_
          obtain ⟨q79, hq79, hf⟩ := ob_some hf
          refine z_callVv (o := 70) (ci := 9) (As := []) (rest := []) (t_X11_putBack G l hN  q41.2 hq79) cv_X11_putBack hx hb hml hl.1 Z hw (by decide) (by decide) (by omega) rfl rfl wd955 rfl rfl (Nat.le_of_ble_eq_true rfl) (by decide) dX11_bestGuess_79 (fun H locs hw => ?_)
          refine lv_iinc (v := x4 + (1 : Int32)) (lv' := [(4, _), (3, _), (0, _), (1, _), (2, _)]) hx hb dX11_bestGuess_82 hl (k := 4) rfl rfl (by decide) rfl (fun ls hl => ?_)
          refine lv_goto (tgt := 23) hx hb dX11_bestGuess_85 (by decide) ?_
          exact ih x1 v64 (if v64 = x4 then q41.1 else x3) (x4 + (1 : Int32)) q79  rv hq ls H locs (lv_sub hl [2, 3, 4, 1, 0] rfl) hw hf kk
        refine lv_icmp_ne (tgt := 76) hx hb dX11_bestGuess_68 (by decide) (fun c68 => ?_) (fun c68 => ?_)
        · skip
          refine lv_iload_n hx hb dX11_bestGuess_76 rfl (lv_at hl 3 rfl) ?_
          refine W.eq (g2 := F0 m 77 ls [.int (if v64 = x4 then q41.1 else x3)]) ?_ (HJ77 ls H locs (lv_sub hl [1, 2, 0, 4] rfl) hw)
          simp only [if_neg c68]
        · skip
          refine lv_iload hx hb dX11_bestGuess_71 (lv_at hl 5 rfl) ?_
          refine lv_goto (tgt := 77) hx hb dX11_bestGuess_73 (by decide) ?_
          refine W.eq (g2 := F0 m 77 ls [.int (if v64 = x4 then q41.1 else x3)]) ?_ (HJ77 ls H locs (lv_sub hl [1, 2, 0, 4] rfl) hw)
          simp only [if_pos c68]
      refine lv_icmp_eq (tgt := 58) hx hb dX11_bestGuess_49 (by decide) (fun c49 => ?_) (fun c49 => ?_)
      · skip
        refine lv_iload hx hb dX11_bestGuess_58 (lv_at hl 5 rfl) ?_
        refine lv_goto (tgt := 64) hx hb dX11_bestGuess_60 (by decide) ?_
        refine W.eq (g2 := F0 m 64 ls [.int (if x2 = (-5 : Int32) then x4 else (if x3 ≤ q41.1 then x2 else x4))]) ?_ (HJ64 ls H locs (lv_sub hl [1, 2, 4, 5, 0] rfl) hw)
        simp only [if_pos c49]
      · skip
        refine lv_iload hx hb dX11_bestGuess_52 (lv_at hl 0 rfl) ?_
        refine lv_iload_n hx hb dX11_bestGuess_54 rfl (lv_at hl 4 rfl) ?_
        refine lv_icmp_ge (tgt := 63) hx hb dX11_bestGuess_55 (by decide) (fun c55 => ?_) (fun c55 => ?_)
        · skip
          refine lv_iload_n hx hb dX11_bestGuess_63 rfl (lv_at hl 3 rfl) ?_
          refine W.eq (g2 := F0 m 64 ls [.int (if x2 = (-5 : Int32) then x4 else (if x3 ≤ q41.1 then x2 else x4))]) ?_ (HJ64 ls H locs (lv_sub hl [1, 2, 4, 5, 0] rfl) hw)
          simp only [if_neg c49, if_pos c55]
        · skip
          refine lv_iload hx hb dX11_bestGuess_58 (lv_at hl 5 rfl) ?_
          refine lv_goto (tgt := 64) hx hb dX11_bestGuess_60 (by decide) ?_
          refine W.eq (g2 := F0 m 64 ls [.int (if x2 = (-5 : Int32) then x4 else (if x3 ≤ q41.1 then x2 else x4))]) ?_ (HJ64 ls H locs (lv_sub hl [1, 2, 4, 5, 0] rfl) hw)
          simp only [if_neg c49, if_neg c55]
set_option maxHeartbeats 4000000 in
set_option maxRecDepth 100000 in
theorem t_X11_bestGuess (G : GM) (l : Launch) (hN : 77 ≤ gN G) (x1 : Int32) (h : HP) {r : Int32} {h' : HP} (hf : f_X11_bestGuess x1 h = some (r, h')) : MC G l yX11_bestGuess cX11_bestGuess 6 (some .int) 4 [.ref (ra G 70), .int x1] h h' (some (.int r)) := by
  unfold f_X11_bestGuess at hf
  refine z_start (by decide) (Nat.le_of_ble_eq_true rfl) ?_
  intro p e s m args below meth c ls hx hb hr hlk hml Z hw hl
  have Z : ZK G s args m RX11 := Z
  have hl : lv_has ls 6 [(0, .ref (ra G 70)), (1, .int x1)] := hl
  obtain ⟨H, hH⟩ : ∃ H, H = s.heap := ⟨_, rfl⟩
  rw [← hH] at hw ⊢
  obtain ⟨locs, hlc⟩ : ∃ locs : List Loc, locs = [] := ⟨_, rfl⟩
  rw [← hlc] at hw ⊢
  refine lv_aload_n hx hb dX11_bestGuess_0 rfl (lv_at hl 0 rfl) ?_
  refine lv_iload_n hx hb dX11_bestGuess_1 rfl (lv_at hl 1 rfl) ?_
  refine z_callVi (o := 70) (ci := 9) (As := [.int x1]) (rest := []) (t_X11_isFrame G l hN x1 h) cv_X11_isFrame hx hb hml hl.1 Z hw (by decide) (by decide) (by omega) rfl rfl wd922 rfl rfl (Nat.le_of_ble_eq_true rfl) (by decide) dX11_bestGuess_2 (fun H locs hw => ?_)
  refine lv_if_ne (tgt := 10) hx hb dX11_bestGuess_5 (by decide) (fun c5 => ?_) (fun c5 => ?_)
  · have hf := (if_neg c5).symm.trans hf
    refine lv_aload_n hx hb dX11_bestGuess_10 rfl (lv_at hl 0 rfl) ?_
    obtain ⟨q11, hq11, hf⟩ := ob_some hf
    refine z_callVv (o := 70) (ci := 9) (As := []) (rest := []) (t_X11_putAside G l hN  h hq11) cv_X11_putAside hx hb hml hl.1 Z hw (by decide) (by decide) (by omega) rfl rfl wd914 rfl rfl (Nat.le_of_ble_eq_true rfl) (by decide) dX11_bestGuess_11 (fun H locs hw => ?_)
    refine lv_bipush (v := (-5 : Int32)) hx hb dX11_bestGuess_14 (by decide) ?_
    refine lv_istore_n (lv' := [(2, _), (0, _), (1, _)]) hx hb dX11_bestGuess_16 rfl hl (by decide) rfl (fun ls hl => ?_)
    refine lv_iconst (v := (0 : Int32)) hx hb dX11_bestGuess_17 (by decide) ?_
    refine lv_istore_n (lv' := [(3, _), (2, _), (0, _), (1, _)]) hx hb dX11_bestGuess_18 rfl hl (by decide) rfl (fun ls hl => ?_)
    refine lv_bipush (v := (60 : Int32)) hx hb dX11_bestGuess_19 (by decide) ?_
    refine lv_istore (lv' := [(4, _), (3, _), (2, _), (0, _), (1, _)]) hx hb dX11_bestGuess_21 hl (by decide) rfl (fun ls hl => ?_)
    obtain ⟨q23, hq23, hf⟩ := ob_some hf
    refine w_X11_bestGuess_L23 G l hN  hx hb hr hlk hml Z FU x1 (-5 : Int32) (0 : Int32) (60 : Int32) q11  _ _ ls H locs (lv_sub hl [3, 4, 2, 1, 0] rfl) hw hq23 (fun ls H locs hl hw => ?_)
    refine lv_iload_n hx hb dX11_bestGuess_88 rfl (lv_at hl 0 rfl) ?_
    obtain ⟨rfl, rfl⟩ := Prod.mk.inj (Option.some.inj hf)
    exact z_iret hx hb hr hlk hw dX11_bestGuess_89
  · have hf := (if_pos c5).symm.trans hf
    refine lv_iconst (v := (-1 : Int32)) hx hb dX11_bestGuess_8 (by decide) ?_
    obtain ⟨rfl, rfl⟩ := Prod.mk.inj (Option.some.inj hf)
    exact z_iret hx hb hr hlk hw dX11_bestGuess_9
set_option maxHeartbeats 4000000 in
set_option maxRecDepth 100000 in
theorem w_X11_polishFirst_L20 (G : GM) (l : Launch) (hN : 77 ≤ gN G)  {p : Program} {e : Env} {s : State} {m : MethodId} {args : Array Value} {below : List Frame} {meth : Method} {c : Code} (hx : p.tables.exec = Jvm.exec) (hb : c.code = cX11_polishFirst) (hr : meth.sig.returnType = (some .int)) (hlk : meth.locks = false) (hml : c.maxLocals = 6) (Z : ZK G s args m RX11) : ∀ (n : Nat) (x2 : Int32) (x3 : Int32) (x4 : Int32)  (h : HP) (v1 : Int32) (rv : Option Value) (hq : HP) (ls : Array Slot) (H : Heap) (locs : List Loc) {q : Int32 × Int32 × HP}, lv_has ls 6 [(0, .ref (ra G 70)), (1, .int v1), (2, .int x2), (3, .int x3), (4, .int x4)] → HW G h s H locs → f_X11_polishFirst_L20 n x2 x3 x4 h = some q → (∀ (ls : Array Slot) (H : Heap) (locs : List Loc), lv_has ls 6 [(1, .int v1), (2, .int q.1), (3, .int q.2.1)] → HW G q.2.2 s H locs → WZ p l e 6 s m args below meth c G rv hq H locs (F0 m 83 ls [])) → WZ p l e 6 s m args below meth c G rv hq H locs (F0 m 20 ls []) := by
  intro n
  induction n with
  | zero => intro x2 x3 x4  h v1 rv hq ls H locs q hl hw hf kk; cases hf
  | succ n ih =>
    intro x2 x3 x4  h v1 rv hq ls H locs q hl hw hf kk
    rw [f_X11_polishFirst_L20] at hf
    refine lv_iload hx hb dX11_polishFirst_20 (lv_at hl 4 rfl) ?_
    refine lv_aload_n hx hb dX11_polishFirst_22 rfl (lv_at hl 0 rfl) ?_
    refine z_getr (o := 70) (o2 := 71) (C := RX11) (T := TX11) (N := 11) (ci := 9) (k := 0) hx hb Z hw (by decide) (by omega) rfl inX11 (by decide) rfl wd875 dX11_polishFirst_23 ?_
    refine lv_bipush (v := (12 : Int32)) hx hb dX11_polishFirst_26 (by decide) ?_
    refine y_iald (o := 71) (k := 12) hx hb Z hw (by decide) (by omega) (by decide) (inB_vp (by decide)) dX11_polishFirst_28 ?_
    refine lv_icmp_ge (tgt := 83) hx hb dX11_polishFirst_29 (by decide) (fun c29 => ?_) (fun c29 => ?_)
    · have hf := (if_pos c29).symm.trans hf
      obtain rfl := Option.some.inj hf
      exact kk ls H locs (lv_sub hl [1, 2, 3] rfl) hw
    · have hf := (if_neg c29).symm.trans hf
      refine lv_aload_n hx hb dX11_polishFirst_32 rfl (lv_at hl 0 rfl) ?_
      refine lv_iload hx hb dX11_polishFirst_33 (lv_at hl 4 rfl) ?_
      obtain ⟨q35, hq35, hf⟩ := ob_some hf
      refine z_callVv (o := 70) (ci := 9) (As := [.int x4]) (rest := []) (t_X11_lay G l hN x4 h hq35) cv_X11_lay hx hb hml hl.1 Z hw (by decide) (by decide) (by omega) rfl rfl wd971 rfl rfl (Nat.le_of_ble_eq_true rfl) (by decide) dX11_polishFirst_35 (fun H locs hw => ?_)
      refine lv_aload_n hx hb dX11_polishFirst_38 rfl (lv_at hl 0 rfl) ?_
      refine lv_iconst (v := (3 : Int32)) hx hb dX11_polishFirst_39 (by decide) ?_
      obtain ⟨q40, hq40, hf⟩ := ob_some hf
      refine z_callVi (o := 70) (ci := 9) (As := [.int (3 : Int32)]) (rest := []) (t_X11_framesThat G l hN (3 : Int32) q35 hq40) cv_X11_framesThat hx hb hml hl.1 Z hw (by decide) (by decide) (by omega) rfl rfl wd1157 rfl rfl (Nat.le_of_ble_eq_true rfl) (by decide) dX11_polishFirst_40 (fun H locs hw => ?_)
      refine lv_istore (lv' := [(5, _), (0, _), (1, _), (2, _), (3, _), (4, _)]) hx hb dX11_polishFirst_43 hl (by decide) rfl (fun ls hl => ?_)
      refine lv_iload_n hx hb dX11_polishFirst_45 rfl (lv_at hl 3 rfl) ?_
      refine lv_bipush (v := (-5 : Int32)) hx hb dX11_polishFirst_46 (by decide) ?_
      have HJ63 : ∀ (ls : Array Slot) (H : Heap) (locs : List Loc), lv_has ls 6 [(0, .ref (ra G 70)), (1, .int v1), (3, .int x3), (4, .int x4), (5, .int q40)] → HW G q35 s H locs → WZ p l e 6 s m args below meth c G rv hq H locs (F0 m 63 ls [.int (if x2 = (-5 : Int32) then x4 else (if x3 ≤ q40 then x2 else x4))]) := by
        intro ls H locs hl hw
        obtain ⟨v63, hqv63, hf⟩ := tb_ex hf
        refine z_top hqv63 ?_
        refine lv_istore_n (lv' := [(2, _), (0, _), (1, _), (3, _), (4, _), (5, _)]) hx hb dX11_polishFirst_63 rfl hl (by decide) rfl (fun ls hl => ?_)
        refine lv_iload_n hx hb dX11_polishFirst_64 rfl (lv_at hl 0 rfl) ?_
        refine lv_iload hx hb dX11_polishFirst_65 (lv_at hl 4 rfl) ?_
        have HJ76 : ∀ (ls : Array Slot) (H : Heap) (locs : List Loc), lv_has ls 6 [(0, .ref (ra G 70)), (1, .int v1), (2, .int v63), (4, .int x4)] → HW G q35 s H locs → WZ p l e 6 s m args below meth c G rv hq H locs (F0 m 76 ls [.int (if v63 = x4 then q40 else x3)]) := by
          intro ls H locs hl hw
          refine lv_istore_n (lv' := [(3, _), (0, _), (1, _), (2, _), (4, _)]) hx hb dX11_polishFirst_76 rfl hl (by decide) rfl (fun ls hl => ?_)
          refine lv_iinc (v := x4 + (1 : Int32)) (lv' := [(4, _), (3, _), (0, _), (1, _), (2, _)]) hx hb dX11_polishFirst_77 hl (k := 4) rfl rfl (by decide) rfl (fun ls hl => ?_)
          refine lv_goto (tgt := 20) hx hb dX11_polishFirst_80 (by decide) ?_
          exact ih v63 (if v63 = x4 then q40 else x3) (x4 + (1 : Int32)) q35 v1 rv hq ls H locs (lv_sub hl [2, 3, 4, 1, 0] rfl) hw hf kk
        refine lv_icmp_ne (tgt := 75) hx hb dX11_polishFirst_67 (by decide) (fun c67 => ?_) (fun c67 => ?_)
        · skip
          refine lv_iload_n hx hb dX11_polishFirst_75 rfl (lv_at hl 3 rfl) ?_
          refine W.eq (g2 := F0 m 76 ls [.int (if v63 = x4 then q40 else x3)]) ?_ (HJ76 ls H locs (lv_sub hl [1, 2, 0, 4] rfl) hw)
          simp only [if_neg c67]
        · skip
          refine lv_iload hx hb dX11_polishFirst_70 (lv_at hl 5 rfl) ?_
          refine lv_goto (tgt := 76) hx hb dX11_polishFirst_72 (by decide) ?_
          refine W.eq (g2 := F0 m 76 ls [.int (if v63 = x4 then q40 else x3)]) ?_ (HJ76 ls H locs (lv_sub hl [1, 2, 0, 4] rfl) hw)
          simp only [if_pos c67]
      refine lv_icmp_eq (tgt := 57) hx hb dX11_polishFirst_48 (by decide) (fun c48 => ?_) (fun c48 => ?_)
      · skip
        refine lv_iload hx hb dX11_polishFirst_57 (lv_at hl 5 rfl) ?_
        refine lv_goto (tgt := 63) hx hb dX11_polishFirst_59 (by decide) ?_
        refine W.eq (g2 := F0 m 63 ls [.int (if x2 = (-5 : Int32) then x4 else (if x3 ≤ q40 then x2 else x4))]) ?_ (HJ63 ls H locs (lv_sub hl [1, 2, 4, 5, 0] rfl) hw)
        simp only [if_pos c48]
      · skip
        refine lv_iload hx hb dX11_polishFirst_51 (lv_at hl 0 rfl) ?_
        refine lv_iload_n hx hb dX11_polishFirst_53 rfl (lv_at hl 4 rfl) ?_
        refine lv_icmp_ge (tgt := 62) hx hb dX11_polishFirst_54 (by decide) (fun c54 => ?_) (fun c54 => ?_)
        · skip
          refine lv_iload_n hx hb dX11_polishFirst_62 rfl (lv_at hl 3 rfl) ?_
          refine W.eq (g2 := F0 m 63 ls [.int (if x2 = (-5 : Int32) then x4 else (if x3 ≤ q40 then x2 else x4))]) ?_ (HJ63 ls H locs (lv_sub hl [1, 2, 4, 5, 0] rfl) hw)
          simp only [if_neg c48, if_pos c54]
        · skip
          refine lv_iload hx hb dX11_polishFirst_57 (lv_at hl 5 rfl) ?_
          refine lv_goto (tgt := 63) hx hb dX11_polishFirst_59 (by decide) ?_
          refine W.eq (g2 := F0 m 63 ls [.int (if x2 = (-5 : Int32) then x4 else (if x3 ≤ q40 then x2 else x4))]) ?_ (HJ63 ls H locs (lv_sub hl [1, 2, 4, 5, 0] rfl) hw)
          simp only [if_neg c48, if_neg c54]
set_option maxHeartbeats 4000000 in
set_option maxRecDepth 100000 in
theorem t_X11_polishFirst (G : GM) (l : Launch) (hN : 77 ≤ gN G) (x1 : Int32) (h : HP) {r : Int32} {h' : HP} (hf : f_X11_polishFirst x1 h = some (r, h')) : MC G l yX11_polishFirst cX11_polishFirst 6 (some .int) 6 [.ref (ra G 70), .int x1] h h' (some (.int r)) := by
  unfold f_X11_polishFirst at hf
  refine z_start (by decide) (Nat.le_of_ble_eq_true rfl) ?_
  intro p e s m args below meth c ls hx hb hr hlk hml Z hw hl
  have Z : ZK G s args m RX11 := Z
  have hl : lv_has ls 6 [(0, .ref (ra G 70)), (1, .int x1)] := hl
  obtain ⟨H, hH⟩ : ∃ H, H = s.heap := ⟨_, rfl⟩
  rw [← hH] at hw ⊢
  obtain ⟨locs, hlc⟩ : ∃ locs : List Loc, locs = [] := ⟨_, rfl⟩
  rw [← hlc] at hw ⊢
  refine lv_iload_n hx hb dX11_polishFirst_0 rfl (lv_at hl 1 rfl) ?_
  refine lv_iconst (v := (0 : Int32)) hx hb dX11_polishFirst_1 (by decide) ?_
  refine lv_iconst (v := (1 : Int32)) hx hb dX11_polishFirst_2 (by decide) ?_
  refine z_callSi (As := [.int x1, .int (0 : Int32), .int (1 : Int32)]) (rest := []) (t_X11_in G l hN x1 (0 : Int32) (1 : Int32) h) cs_X11_in hx hb hml hl.1 Z hw wd934 rfl rfl (Nat.le_of_ble_eq_true rfl) (by decide) dX11_polishFirst_3 (fun H locs hw => ?_)
  refine lv_if_ne (tgt := 12) hx hb dX11_polishFirst_6 (by decide) (fun c6 => ?_) (fun c6 => ?_)
  · have hf := (if_neg c6).symm.trans hf
    refine lv_bipush (v := (-5 : Int32)) hx hb dX11_polishFirst_12 (by decide) ?_
    refine lv_istore_n (lv' := [(2, _), (0, _), (1, _)]) hx hb dX11_polishFirst_14 rfl hl (by decide) rfl (fun ls hl => ?_)
    refine lv_iconst (v := (0 : Int32)) hx hb dX11_polishFirst_15 (by decide) ?_
    refine lv_istore_n (lv' := [(3, _), (2, _), (0, _), (1, _)]) hx hb dX11_polishFirst_16 rfl hl (by decide) rfl (fun ls hl => ?_)
    refine lv_iconst (v := (0 : Int32)) hx hb dX11_polishFirst_17 (by decide) ?_
    refine lv_istore (lv' := [(4, _), (3, _), (2, _), (0, _), (1, _)]) hx hb dX11_polishFirst_18 hl (by decide) rfl (fun ls hl => ?_)
    obtain ⟨q20, hq20, hf⟩ := ob_some hf
    refine w_X11_polishFirst_L20 G l hN  hx hb hr hlk hml Z FU (-5 : Int32) (0 : Int32) (0 : Int32) h x1 _ _ ls H locs (lv_sub hl [3, 4, 2, 1, 0] rfl) hw hq20 (fun ls H locs hl hw => ?_)
    refine lv_iload_n hx hb dX11_polishFirst_83 rfl (lv_at hl 1 rfl) ?_
    refine lv_bipush (v := (-5 : Int32)) hx hb dX11_polishFirst_84 (by decide) ?_
    refine lv_icmp_ne (tgt := 94) hx hb dX11_polishFirst_86 (by decide) (fun c86 => ?_) (fun c86 => ?_)
    · have hf := (if_neg c86).symm.trans hf
      refine lv_iload_n hx hb dX11_polishFirst_94 rfl (lv_at hl 0 rfl) ?_
      refine lv_if_ne (tgt := 102) hx hb dX11_polishFirst_95 (by decide) (fun c95 => ?_) (fun c95 => ?_)
      · have hf := (if_neg c95).symm.trans hf
        refine lv_iload_n hx hb dX11_polishFirst_102 rfl (lv_at hl 2 rfl) ?_
        obtain ⟨rfl, rfl⟩ := Prod.mk.inj (Option.some.inj hf)
        exact z_iret hx hb hr hlk hw dX11_polishFirst_103
      · have hf := (if_pos c95).symm.trans hf
        refine lv_iload_n hx hb dX11_polishFirst_98 rfl (lv_at hl 1 rfl) ?_
        refine lv_goto (tgt := 103) hx hb dX11_polishFirst_99 (by decide) ?_
        obtain ⟨rfl, rfl⟩ := Prod.mk.inj (Option.some.inj hf)
        exact z_iret hx hb hr hlk hw dX11_polishFirst_103
    · have hf := (if_pos c86).symm.trans hf
      refine lv_bipush (v := (-5 : Int32)) hx hb dX11_polishFirst_89 (by decide) ?_
      refine lv_goto (tgt := 103) hx hb dX11_polishFirst_91 (by decide) ?_
      obtain ⟨rfl, rfl⟩ := Prod.mk.inj (Option.some.inj hf)
      exact z_iret hx hb hr hlk hw dX11_polishFirst_103
  · have hf := (if_pos c6).symm.trans hf
    refine lv_bipush (v := (-2 : Int32)) hx hb dX11_polishFirst_9 (by decide) ?_
    obtain ⟨rfl, rfl⟩ := Prod.mk.inj (Option.some.inj hf)
    exact z_iret hx hb hr hlk hw dX11_polishFirst_11
set_option maxHeartbeats 4000000 in
set_option maxRecDepth 100000 in
theorem w_X11_gap_L29 (G : GM) (l : Launch) (hN : 77 ≤ gN G)  {p : Program} {e : Env} {s : State} {m : MethodId} {args : Array Value} {below : List Frame} {meth : Method} {c : Code} (hx : p.tables.exec = Jvm.exec) (hb : c.code = cX11_gap) (hr : meth.sig.returnType = (some .int)) (hlk : meth.locks = false) (hml : c.maxLocals = 6) (Z : ZK G s args m RX11) : ∀ (n : Nat) (x2 : Int32) (x3 : Int32) (x4 : Int32) (x5 : Int32)  (h : HP) (v1 : Int32) (rv : Option Value) (hq : HP) (ls : Array Slot) (H : Heap) (locs : List Loc) {q : Int32 × Int32}, lv_has ls 6 [(0, .ref (ra G 70)), (1, .int v1), (2, .int x2), (3, .int x3), (4, .int x4), (5, .int x5)] → HW G h s H locs → f_X11_gap_L29 n x2 x3 x4 x5 h = some q → (∀ (ls : Array Slot) (H : Heap) (locs : List Loc), lv_has ls 6 [(1, .int v1), (2, .int q.1), (3, .int q.2)] → HW G h s H locs → WZ p l e 5 s m args below meth c G rv hq H locs (F0 m 95 ls [])) → WZ p l e 5 s m args below meth c G rv hq H locs (F0 m 29 ls []) := by
  intro n
  induction n with
  | zero => intro x2 x3 x4 x5  h v1 rv hq ls H locs q hl hw hf kk; cases hf
  | succ n ih =>
    intro x2 x3 x4 x5  h v1 rv hq ls H locs q hl hw hf kk
    rw [f_X11_gap_L29] at hf
    refine lv_iload hx hb dX11_gap_29 (lv_at hl 5 rfl) ?_
    refine lv_aload_n hx hb dX11_gap_31 rfl (lv_at hl 0 rfl) ?_
    refine z_callVi (o := 70) (ci := 9) (As := []) (rest := [.int x5]) (t_X11_frames G l hN  h) cv_X11_frames hx hb hml hl.1 Z hw (by decide) (by decide) (by omega) rfl rfl wd926 rfl rfl (Nat.le_of_ble_eq_true rfl) (by decide) dX11_gap_32 (fun H locs hw => ?_)
    refine lv_icmp_ge (tgt := 95) hx hb dX11_gap_35 (by decide) (fun c35 => ?_) (fun c35 => ?_)
    · have hf := (if_pos c35).symm.trans hf
      obtain rfl := Option.some.inj hf
      exact kk ls H locs (lv_sub hl [1, 2, 3] rfl) hw
    · have hf := (if_neg c35).symm.trans hf
      refine lv_aload_n hx hb dX11_gap_38 rfl (lv_at hl 0 rfl) ?_
      refine lv_iload hx hb dX11_gap_39 (lv_at hl 5 rfl) ?_
      obtain ⟨q41, hq41, hf⟩ := ob_some hf
      refine z_callVi (o := 70) (ci := 9) (As := [.int x5]) (rest := []) (t_X11_how G l hN x5 h hq41) cv_X11_how hx hb hml hl.1 Z hw (by decide) (by decide) (by omega) rfl rfl wd1104 rfl rfl (Nat.le_of_ble_eq_true rfl) (by decide) dX11_gap_41 (fun H locs hw => ?_)
      refine lv_iconst (v := (3 : Int32)) hx hb dX11_gap_44 (by decide) ?_
      have HJ56 : ∀ (ls : Array Slot) (H : Heap) (locs : List Loc), lv_has ls 6 [(0, .ref (ra G 70)), (1, .int v1), (2, .int x2), (3, .int x3), (5, .int x5)] → HW G h s H locs → WZ p l e 5 s m args below meth c G rv hq H locs (F0 m 56 ls [.int (if q41 = (3 : Int32) then (x4 + (1 : Int32)) else (0 : Int32))]) := by
        intro ls H locs hl hw
        obtain ⟨v56, hqv56, hf⟩ := tb_ex hf
        refine z_top hqv56 ?_
        refine lv_istore (lv' := [(4, _), (0, _), (1, _), (2, _), (3, _), (5, _)]) hx hb dX11_gap_56 hl (by decide) rfl (fun ls hl => ?_)
        refine lv_iload hx hb dX11_gap_58 (lv_at hl 0 rfl) ?_
        refine lv_iload_n hx hb dX11_gap_60 rfl (lv_at hl 4 rfl) ?_
        have HJ75 : ∀ (ls : Array Slot) (H : Heap) (locs : List Loc), lv_has ls 6 [(0, .ref (ra G 70)), (1, .int v1), (3, .int x3), (4, .int v56), (5, .int x5)] → HW G h s H locs → WZ p l e 5 s m args below meth c G rv hq H locs (F0 m 75 ls [.int (if v56 ≤ x3 then x2 else ((x5 - v56) + (1 : Int32)))]) := by
          intro ls H locs hl hw
          obtain ⟨v75, hqv75, hf⟩ := tb_ex hf
          refine z_top hqv75 ?_
          refine lv_istore_n (lv' := [(2, _), (0, _), (1, _), (3, _), (4, _), (5, _)]) hx hb dX11_gap_75 rfl hl (by decide) rfl (fun ls hl => ?_)
          refine lv_iload hx hb dX11_gap_76 (lv_at hl 4 rfl) ?_
          refine lv_iload_n hx hb dX11_gap_78 rfl (lv_at hl 3 rfl) ?_
          have HJ88 : ∀ (ls : Array Slot) (H : Heap) (locs : List Loc), lv_has ls 6 [(0, .ref (ra G 70)), (1, .int v1), (2, .int v75), (4, .int v56), (5, .int x5)] → HW G h s H locs → WZ p l e 5 s m args below meth c G rv hq H locs (F0 m 88 ls [.int (if v56 ≤ x3 then x3 else v56)]) := by
            intro ls H locs hl hw
            refine lv_istore_n (lv' := [(3, _), (0, _), (1, _), (2, _), (4, _), (5, _)]) hx hb dX11_gap_88 rfl hl (by decide) rfl (fun ls hl => ?_)
            refine lv_iinc (v := x5 + (1 : Int32)) (lv' := [(5, _), (3, _), (0, _), (1, _), (2, _), (4, _)]) hx hb dX11_gap_89 hl (k := 5) rfl rfl (by decide) rfl (fun ls hl => ?_)
            refine lv_goto (tgt := 29) hx hb dX11_gap_92 (by decide) ?_
            exact ih v75 (if v56 ≤ x3 then x3 else v56) v56 (x5 + (1 : Int32)) h v1 rv hq ls H locs (lv_sub hl [2, 3, 4, 1, 5, 0] rfl) hw hf kk
          refine lv_icmp_le (tgt := 87) hx hb dX11_gap_79 (by decide) (fun c79 => ?_) (fun c79 => ?_)
          · skip
            refine lv_iload_n hx hb dX11_gap_87 rfl (lv_at hl 3 rfl) ?_
            refine W.eq (g2 := F0 m 88 ls [.int (if v56 ≤ x3 then x3 else v56)]) ?_ (HJ88 ls H locs (lv_sub hl [1, 2, 0, 4, 5] rfl) hw)
            simp only [if_pos c79]
          · skip
            refine lv_iload hx hb dX11_gap_82 (lv_at hl 4 rfl) ?_
            refine lv_goto (tgt := 88) hx hb dX11_gap_84 (by decide) ?_
            refine W.eq (g2 := F0 m 88 ls [.int (if v56 ≤ x3 then x3 else v56)]) ?_ (HJ88 ls H locs (lv_sub hl [1, 2, 0, 4, 5] rfl) hw)
            simp only [if_neg c79]
        refine lv_icmp_le (tgt := 74) hx hb dX11_gap_61 (by decide) (fun c61 => ?_) (fun c61 => ?_)
        · skip
          refine lv_iload_n hx hb dX11_gap_74 rfl (lv_at hl 3 rfl) ?_
          refine W.eq (g2 := F0 m 75 ls [.int (if v56 ≤ x3 then x2 else ((x5 - v56) + (1 : Int32)))]) ?_ (HJ75 ls H locs (lv_sub hl [1, 2, 4, 0, 5] rfl) hw)
          simp only [if_pos c61]
        · skip
          refine lv_iload hx hb dX11_gap_64 (lv_at hl 5 rfl) ?_
          refine lv_iload hx hb dX11_gap_66 (lv_at hl 0 rfl) ?_
          refine lv_isub hx hb dX11_gap_68 ?_
          refine lv_iconst (v := (1 : Int32)) hx hb dX11_gap_69 (by decide) ?_
          refine lv_iadd hx hb dX11_gap_70 ?_
          refine lv_goto (tgt := 75) hx hb dX11_gap_71 (by decide) ?_
          refine W.eq (g2 := F0 m 75 ls [.int (if v56 ≤ x3 then x2 else ((x5 - v56) + (1 : Int32)))]) ?_ (HJ75 ls H locs (lv_sub hl [1, 2, 4, 0, 5] rfl) hw)
          simp only [if_neg c61]
      refine lv_icmp_ne (tgt := 55) hx hb dX11_gap_45 (by decide) (fun c45 => ?_) (fun c45 => ?_)
      · skip
        refine lv_iconst (v := (0 : Int32)) hx hb dX11_gap_55 (by decide) ?_
        refine W.eq (g2 := F0 m 56 ls [.int (if q41 = (3 : Int32) then (x4 + (1 : Int32)) else (0 : Int32))]) ?_ (HJ56 ls H locs (lv_sub hl [0, 1, 2, 3, 5] rfl) hw)
        simp only [if_neg c45]
      · skip
        refine lv_iload hx hb dX11_gap_48 (lv_at hl 4 rfl) ?_
        refine lv_iconst (v := (1 : Int32)) hx hb dX11_gap_50 (by decide) ?_
        refine lv_iadd hx hb dX11_gap_51 ?_
        refine lv_goto (tgt := 56) hx hb dX11_gap_52 (by decide) ?_
        refine W.eq (g2 := F0 m 56 ls [.int (if q41 = (3 : Int32) then (x4 + (1 : Int32)) else (0 : Int32))]) ?_ (HJ56 ls H locs (lv_sub hl [0, 1, 2, 3, 5] rfl) hw)
        simp only [if_pos c45]
set_option maxHeartbeats 4000000 in
set_option maxRecDepth 100000 in
theorem t_X11_gap (G : GM) (l : Launch) (hN : 77 ≤ gN G) (x1 : Int32) (h : HP) {r : Int32} {h' : HP} (hf : f_X11_gap x1 h = some (r, h')) : MC G l yX11_gap cX11_gap 6 (some .int) 5 [.ref (ra G 70), .int x1] h h' (some (.int r)) := by
  unfold f_X11_gap at hf
  refine z_start (by decide) (Nat.le_of_ble_eq_true rfl) ?_
  intro p e s m args below meth c ls hx hb hr hlk hml Z hw hl
  have Z : ZK G s args m RX11 := Z
  have hl : lv_has ls 6 [(0, .ref (ra G 70)), (1, .int x1)] := hl
  obtain ⟨H, hH⟩ : ∃ H, H = s.heap := ⟨_, rfl⟩
  rw [← hH] at hw ⊢
  obtain ⟨locs, hlc⟩ : ∃ locs : List Loc, locs = [] := ⟨_, rfl⟩
  rw [← hlc] at hw ⊢
  refine lv_iload_n hx hb dX11_gap_0 rfl (lv_at hl 1 rfl) ?_
  refine lv_iconst (v := (0 : Int32)) hx hb dX11_gap_1 (by decide) ?_
  refine lv_iconst (v := (1 : Int32)) hx hb dX11_gap_2 (by decide) ?_
  refine z_callSi (As := [.int x1, .int (0 : Int32), .int (1 : Int32)]) (rest := []) (t_X11_in G l hN x1 (0 : Int32) (1 : Int32) h) cs_X11_in hx hb hml hl.1 Z hw wd934 rfl rfl (Nat.le_of_ble_eq_true rfl) (by decide) dX11_gap_3 (fun H locs hw => ?_)
  refine lv_if_ne (tgt := 12) hx hb dX11_gap_6 (by decide) (fun c6 => ?_) (fun c6 => ?_)
  · have hf := (if_neg c6).symm.trans hf
    refine lv_aload_n hx hb dX11_gap_12 rfl (lv_at hl 0 rfl) ?_
    refine lv_bipush (v := (-5 : Int32)) hx hb dX11_gap_13 (by decide) ?_
    obtain ⟨q15, hq15, hf⟩ := ob_some hf
    refine z_callVv (o := 70) (ci := 9) (As := [.int (-5 : Int32)]) (rest := []) (t_X11_lay G l hN (-5 : Int32) h hq15) cv_X11_lay hx hb hml hl.1 Z hw (by decide) (by decide) (by omega) rfl rfl wd971 rfl rfl (Nat.le_of_ble_eq_true rfl) (by decide) dX11_gap_15 (fun H locs hw => ?_)
    refine lv_bipush (v := (-5 : Int32)) hx hb dX11_gap_18 (by decide) ?_
    refine lv_istore_n (lv' := [(2, _), (0, _), (1, _)]) hx hb dX11_gap_20 rfl hl (by decide) rfl (fun ls hl => ?_)
    refine lv_iconst (v := (0 : Int32)) hx hb dX11_gap_21 (by decide) ?_
    refine lv_istore_n (lv' := [(3, _), (2, _), (0, _), (1, _)]) hx hb dX11_gap_22 rfl hl (by decide) rfl (fun ls hl => ?_)
    refine lv_iconst (v := (0 : Int32)) hx hb dX11_gap_23 (by decide) ?_
    refine lv_istore (lv' := [(4, _), (3, _), (2, _), (0, _), (1, _)]) hx hb dX11_gap_24 hl (by decide) rfl (fun ls hl => ?_)
    refine lv_iconst (v := (0 : Int32)) hx hb dX11_gap_26 (by decide) ?_
    refine lv_istore (lv' := [(5, _), (4, _), (3, _), (2, _), (0, _), (1, _)]) hx hb dX11_gap_27 hl (by decide) rfl (fun ls hl => ?_)
    obtain ⟨q29, hq29, hf⟩ := ob_some hf
    refine w_X11_gap_L29 G l hN  hx hb hr hlk hml Z FU (-5 : Int32) (0 : Int32) (0 : Int32) (0 : Int32) q15 x1 _ _ ls H locs (lv_sub hl [4, 5, 3, 2, 1, 0] rfl) hw hq29 (fun ls H locs hl hw => ?_)
    refine lv_iload_n hx hb dX11_gap_95 rfl (lv_at hl 2 rfl) ?_
    refine lv_if_ne (tgt := 104) hx hb dX11_gap_96 (by decide) (fun c96 => ?_) (fun c96 => ?_)
    · have hf := (if_neg c96).symm.trans hf
      refine lv_iload_n hx hb dX11_gap_104 rfl (lv_at hl 0 rfl) ?_
      refine lv_if_ne (tgt := 112) hx hb dX11_gap_105 (by decide) (fun c105 => ?_) (fun c105 => ?_)
      · have hf := (if_neg c105).symm.trans hf
        refine lv_iload_n hx hb dX11_gap_112 rfl (lv_at hl 2 rfl) ?_
        obtain ⟨rfl, rfl⟩ := Prod.mk.inj (Option.some.inj hf)
        exact z_iret hx hb hr hlk hw dX11_gap_113
      · have hf := (if_pos c105).symm.trans hf
        refine lv_iload_n hx hb dX11_gap_108 rfl (lv_at hl 1 rfl) ?_
        refine lv_goto (tgt := 113) hx hb dX11_gap_109 (by decide) ?_
        obtain ⟨rfl, rfl⟩ := Prod.mk.inj (Option.some.inj hf)
        exact z_iret hx hb hr hlk hw dX11_gap_113
    · have hf := (if_pos c96).symm.trans hf
      refine lv_bipush (v := (-5 : Int32)) hx hb dX11_gap_99 (by decide) ?_
      refine lv_goto (tgt := 113) hx hb dX11_gap_101 (by decide) ?_
      obtain ⟨rfl, rfl⟩ := Prod.mk.inj (Option.some.inj hf)
      exact z_iret hx hb hr hlk hw dX11_gap_113
  · have hf := (if_pos c6).symm.trans hf
    refine lv_bipush (v := (-2 : Int32)) hx hb dX11_gap_9 (by decide) ?_
    obtain ⟨rfl, rfl⟩ := Prod.mk.inj (Option.some.inj hf)
    exact z_iret hx hb hr hlk hw dX11_gap_11
