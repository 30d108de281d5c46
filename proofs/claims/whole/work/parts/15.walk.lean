/-! walks (by program) -/
set_option maxHeartbeats 4000000 in
set_option maxRecDepth 100000 in
theorem w_X10_gap_L46 (G : GM) (l : Launch) (hN : 70 ≤ gN G)  {p : Program} {e : Env} {s : State} {m : MethodId} {args : Array Value} {below : List Frame} {meth : Method} {c : Code} (hx : p.tables.exec = Jvm.exec) (hb : c.code = cX10_gap) (hr : meth.sig.returnType = (some .int)) (hlk : meth.locks = false) (hml : c.maxLocals = 7) (Z : ZK G s args m RX10) : ∀ (n : Nat) (x2 : Int32) (x3 : Int32) (x4 : Int32) (x5 : Int32) (x6 : Int32)  (h : HP) (v1 : Int32) (rv : Option Value) (hq : HP) (ls : Array Slot) (H : Heap) (locs : List Loc) {q : Int32 × Int32}, lv_has ls 7 [(0, .ref (ra G 0)), (1, .int v1), (2, .int x2), (3, .int x3), (4, .int x4), (5, .int x5), (6, .int x6)] → HW G h s H locs → f_X10_gap_L46 n x2 x3 x4 x5 x6 h = some q → (∀ (ls : Array Slot) (H : Heap) (locs : List Loc), lv_has ls 7 [(1, .int v1), (2, .int q.1), (3, .int q.2)] → HW G h s H locs → WZ p l e 4 s m args below meth c G rv hq H locs (F0 m 99 ls [])) → WZ p l e 4 s m args below meth c G rv hq H locs (F0 m 46 ls []) := by
  intro n
  induction n with
  | zero => intro x2 x3 x4 x5 x6  h v1 rv hq ls H locs q hl hw hf kk; cases hf
  | succ n ih =>
    intro x2 x3 x4 x5 x6  h v1 rv hq ls H locs q hl hw hf kk
    rw [f_X10_gap_L46] at hf
    refine lv_iload hx hb dX10_gap_46 (lv_at hl 6 rfl) ?_
    refine lv_iload hx hb dX10_gap_48 (lv_at hl 5 rfl) ?_
    refine lv_icmp_ge (tgt := 99) hx hb dX10_gap_50 (by decide) (fun c50 => ?_) (fun c50 => ?_)
    · have hf := (if_pos c50).symm.trans hf
      obtain rfl := Option.some.inj hf
      exact kk ls H locs (lv_sub hl [1, 2, 3] rfl) hw
    · have hf := (if_neg c50).symm.trans hf
      refine lv_aload_n hx hb dX10_gap_53 rfl (lv_at hl 0 rfl) ?_
      refine z_getr (o := 0) (o2 := 63) (C := RX10) (T := TX10) (N := 8) (ci := 8) (k := 6) hx hb Z hw (by decide) (by omega) rfl inX10 (by decide) rfl wd294 dX10_gap_54 ?_
      refine lv_iload hx hb dX10_gap_57 (lv_at hl 6 rfl) ?_
      refine z_callVi (o := 63) (ci := 6) (As := [.int x6]) (rest := []) (t_X7_howIs G l hN x6 h) cv_X7_howIs hx hb hml hl.1 Z hw (by decide) (by decide) (by omega) rfl rfl wd762 rfl rfl (Nat.le_of_ble_eq_true rfl) (by decide) dX10_gap_59 (fun H locs hw => ?_)
      refine lv_iconst (v := (3 : Int32)) hx hb dX10_gap_62 (by decide) ?_
      have HJ74 : ∀ (ls : Array Slot) (H : Heap) (locs : List Loc), lv_has ls 7 [(0, .ref (ra G 0)), (1, .int v1), (2, .int x2), (3, .int x3), (5, .int x5), (6, .int x6)] → HW G h s H locs → WZ p l e 4 s m args below meth c G rv hq H locs (F0 m 74 ls [.int (if (f_X7_howIs x6 h) = (3 : Int32) then (x4 + (1 : Int32)) else (0 : Int32))]) := by
        intro ls H locs hl hw
        obtain ⟨v74, hqv74, hf⟩ := tb_ex hf
        refine z_top hqv74 ?_
        refine lv_istore (lv' := [(4, _), (0, _), (1, _), (2, _), (3, _), (5, _), (6, _)]) hx hb dX10_gap_74 hl (by decide) rfl (fun ls hl => ?_)
        refine lv_iload hx hb dX10_gap_76 (lv_at hl 0 rfl) ?_
        refine lv_iload_n hx hb dX10_gap_78 rfl (lv_at hl 3 rfl) ?_
        have HJ93 : ∀ (ls : Array Slot) (H : Heap) (locs : List Loc), lv_has ls 7 [(0, .ref (ra G 0)), (1, .int v1), (2, .int (if v74 ≤ x2 then x2 else v74)), (3, .int (if v74 ≤ x2 then x3 else ((x6 - v74) + (1 : Int32)))), (4, .int v74), (5, .int x5), (6, .int x6)] → HW G h s H locs → WZ p l e 4 s m args below meth c G rv hq H locs (F0 m 93 ls []) := by
          intro ls H locs hl hw
          refine lv_iinc (v := x6 + (1 : Int32)) (lv' := [(6, _), (0, _), (1, _), (2, _), (3, _), (4, _), (5, _)]) hx hb dX10_gap_93 hl (k := 6) rfl rfl (by decide) rfl (fun ls hl => ?_)
          refine lv_goto (tgt := 46) hx hb dX10_gap_96 (by decide) ?_
          exact ih (if v74 ≤ x2 then x2 else v74) (if v74 ≤ x2 then x3 else ((x6 - v74) + (1 : Int32))) v74 x5 (x6 + (1 : Int32)) h v1 rv hq ls H locs (lv_sub hl [1, 2, 3, 4, 5, 6, 0] rfl) hw hf kk
        refine lv_icmp_le (tgt := 93) hx hb dX10_gap_79 (by decide) (fun c79 => ?_) (fun c79 => ?_)
        · skip
          exact HJ93 ls H locs (by simp only [if_pos c79]; exact lv_sub hl [1, 2, 3, 4, 0, 5, 6] rfl) hw
        · skip
          refine lv_iload hx hb dX10_gap_82 (lv_at hl 0 rfl) ?_
          refine lv_istore_n (lv' := [(2, _), (4, _), (0, _), (1, _), (3, _), (5, _), (6, _)]) hx hb dX10_gap_84 rfl hl (by decide) rfl (fun ls hl => ?_)
          refine lv_iload hx hb dX10_gap_85 (lv_at hl 6 rfl) ?_
          refine lv_iload hx hb dX10_gap_87 (lv_at hl 1 rfl) ?_
          refine lv_isub hx hb dX10_gap_89 ?_
          refine lv_iconst (v := (1 : Int32)) hx hb dX10_gap_90 (by decide) ?_
          refine lv_iadd hx hb dX10_gap_91 ?_
          refine lv_istore_n (lv' := [(3, _), (2, _), (4, _), (0, _), (1, _), (5, _), (6, _)]) hx hb dX10_gap_92 rfl hl (by decide) rfl (fun ls hl => ?_)
          exact HJ93 ls H locs (by simp only [if_neg c79]; exact lv_sub hl [3, 4, 1, 0, 2, 5, 6] rfl) hw
      refine lv_icmp_ne (tgt := 73) hx hb dX10_gap_63 (by decide) (fun c63 => ?_) (fun c63 => ?_)
      · skip
        refine lv_iconst (v := (0 : Int32)) hx hb dX10_gap_73 (by decide) ?_
        refine W.eq (g2 := F0 m 74 ls [.int (if (f_X7_howIs x6 h) = (3 : Int32) then (x4 + (1 : Int32)) else (0 : Int32))]) ?_ (HJ74 ls H locs (lv_sub hl [0, 1, 2, 3, 5, 6] rfl) hw)
        simp only [if_neg c63]
      · skip
        refine lv_iload hx hb dX10_gap_66 (lv_at hl 4 rfl) ?_
        refine lv_iconst (v := (1 : Int32)) hx hb dX10_gap_68 (by decide) ?_
        refine lv_iadd hx hb dX10_gap_69 ?_
        refine lv_goto (tgt := 74) hx hb dX10_gap_70 (by decide) ?_
        refine W.eq (g2 := F0 m 74 ls [.int (if (f_X7_howIs x6 h) = (3 : Int32) then (x4 + (1 : Int32)) else (0 : Int32))]) ?_ (HJ74 ls H locs (lv_sub hl [0, 1, 2, 3, 5, 6] rfl) hw)
        simp only [if_pos c63]
set_option maxHeartbeats 4000000 in
set_option maxRecDepth 100000 in
theorem t_X10_gap (G : GM) (l : Launch) (hN : 70 ≤ gN G) (x1 : Int32) (h : HP) {r : Int32} {h' : HP} (hf : f_X10_gap x1 h = some (r, h')) : MC G l yX10_gap cX10_gap 7 (some .int) 4 [.ref (ra G 0), .int x1] h h' (some (.int r)) := by
  unfold f_X10_gap at hf
  refine z_start (by decide) (Nat.le_of_ble_eq_true rfl) ?_
  intro p e s m args below meth c ls hx hb hr hlk hml Z hw hl
  have Z : ZK G s args m RX10 := Z
  have hl : lv_has ls 7 [(0, .ref (ra G 0)), (1, .int x1)] := hl
  obtain ⟨H, hH⟩ : ∃ H, H = s.heap := ⟨_, rfl⟩
  rw [← hH] at hw ⊢
  obtain ⟨locs, hlc⟩ : ∃ locs : List Loc, locs = [] := ⟨_, rfl⟩
  rw [← hlc] at hw ⊢
  refine lv_iload_n hx hb dX10_gap_0 rfl (lv_at hl 1 rfl) ?_
  refine lv_if_eq (tgt := 12) hx hb dX10_gap_1 (by decide) (fun c1 => ?_) (fun c1 => ?_)
  · have hf := (if_pos c1).symm.trans hf
    refine lv_iconst (v := (0 : Int32)) hx hb dX10_gap_12 (by decide) ?_
    refine lv_istore_n (lv' := [(2, _), (0, _), (1, _)]) hx hb dX10_gap_13 rfl hl (by decide) rfl (fun ls hl => ?_)
    refine lv_iconst (v := (0 : Int32)) hx hb dX10_gap_14 (by decide) ?_
    refine lv_istore_n (lv' := [(3, _), (2, _), (0, _), (1, _)]) hx hb dX10_gap_15 rfl hl (by decide) rfl (fun ls hl => ?_)
    refine lv_iconst (v := (0 : Int32)) hx hb dX10_gap_16 (by decide) ?_
    refine lv_istore (lv' := [(4, _), (3, _), (2, _), (0, _), (1, _)]) hx hb dX10_gap_17 hl (by decide) rfl (fun ls hl => ?_)
    refine lv_aload_n hx hb dX10_gap_19 rfl (lv_at hl 3 rfl) ?_
    refine z_getr (o := 0) (o2 := 1) (C := RX10) (T := TX10) (N := 8) (ci := 8) (k := 0) hx hb Z hw (by decide) (by omega) rfl inX10 (by decide) rfl wd288 dX10_gap_20 ?_
    refine z_getr (o := 1) (o2 := 2) (C := RX6) (T := TX6) (N := 4) (ci := 5) (k := 0) hx hb Z hw (by decide) (by omega) rfl inX6 (by decide) rfl wd199 dX10_gap_23 ?_
    refine z_callVi (o := 2) (ci := 4) (As := []) (rest := []) (t_X5_allFrames G l hN 2 (by decide) (by omega) h) cv_X5_allFrames hx hb hml hl.1 Z hw (by decide) (by decide) (by omega) rfl rfl wd548 rfl rfl (Nat.le_of_ble_eq_true rfl) (by decide) dX10_gap_26 (fun H locs hw => ?_)
    refine lv_istore (lv' := [(5, _), (4, _), (3, _), (2, _), (0, _), (1, _)]) hx hb dX10_gap_29 hl (by decide) rfl (fun ls hl => ?_)
    refine lv_aload_n hx hb dX10_gap_31 rfl (lv_at hl 4 rfl) ?_
    refine z_getr (o := 0) (o2 := 63) (C := RX10) (T := TX10) (N := 8) (ci := 8) (k := 6) hx hb Z hw (by decide) (by omega) rfl inX10 (by decide) rfl wd294 dX10_gap_32 ?_
    refine lv_aload_n hx hb dX10_gap_35 rfl (lv_at hl 4 rfl) ?_
    refine z_getr (o := 0) (o2 := 1) (C := RX10) (T := TX10) (N := 8) (ci := 8) (k := 0) hx hb Z hw (by decide) (by omega) rfl inX10 (by decide) rfl wd288 dX10_gap_36 ?_
    obtain ⟨q39, hq39, hf⟩ := ob_some hf
    refine z_callVi (o := 63) (ci := 6) (As := [.ref (ra G 1)]) (rest := []) (t_X7_of G l hN 1 (by decide) (by omega) h hq39) cv_X7_of hx hb hml hl.1 Z hw (by decide) (by decide) (by omega) rfl rfl wd423 rfl rfl (Nat.le_of_ble_eq_true rfl) (by decide) dX10_gap_39 (fun H locs hw => ?_)
    refine lv_pop hx hb dX10_gap_42 rfl ?_
    refine lv_iconst (v := (0 : Int32)) hx hb dX10_gap_43 (by decide) ?_
    refine lv_istore (lv' := [(6, _), (5, _), (4, _), (3, _), (2, _), (0, _), (1, _)]) hx hb dX10_gap_44 hl (by decide) rfl (fun ls hl => ?_)
    obtain ⟨q46, hq46, hf⟩ := ob_some hf
    refine w_X10_gap_L46 G l hN  hx hb hr hlk hml Z FU (0 : Int32) (0 : Int32) (0 : Int32) (f_X5_allFrames 2 h) (0 : Int32) q39 x1 _ _ ls H locs (lv_sub hl [5, 6, 4, 3, 2, 1, 0] rfl) hw hq46 (fun ls H locs hl hw => ?_)
    refine lv_iload_n hx hb dX10_gap_99 rfl (lv_at hl 1 rfl) ?_
    refine lv_if_ne (tgt := 106) hx hb dX10_gap_100 (by decide) (fun c100 => ?_) (fun c100 => ?_)
    · have hf := (if_neg c100).symm.trans hf
      refine lv_iload_n hx hb dX10_gap_106 rfl (lv_at hl 0 rfl) ?_
      refine lv_if_ne (tgt := 114) hx hb dX10_gap_107 (by decide) (fun c107 => ?_) (fun c107 => ?_)
      · have hf := (if_neg c107).symm.trans hf
        refine lv_iload_n hx hb dX10_gap_114 rfl (lv_at hl 1 rfl) ?_
        obtain ⟨rfl, rfl⟩ := Prod.mk.inj (Option.some.inj hf)
        exact z_iret hx hb hr hlk hw dX10_gap_115
      · have hf := (if_pos c107).symm.trans hf
        refine lv_iload_n hx hb dX10_gap_110 rfl (lv_at hl 2 rfl) ?_
        refine lv_goto (tgt := 115) hx hb dX10_gap_111 (by decide) ?_
        obtain ⟨rfl, rfl⟩ := Prod.mk.inj (Option.some.inj hf)
        exact z_iret hx hb hr hlk hw dX10_gap_115
    · have hf := (if_pos c100).symm.trans hf
      refine lv_bipush (v := (-5 : Int32)) hx hb dX10_gap_103 (by decide) ?_
      obtain ⟨rfl, rfl⟩ := Prod.mk.inj (Option.some.inj hf)
      exact z_iret hx hb hr hlk hw dX10_gap_105
  · have hf := (if_neg c1).symm.trans hf
    refine lv_iload_n hx hb dX10_gap_4 rfl (lv_at hl 1 rfl) ?_
    refine lv_iconst (v := (1 : Int32)) hx hb dX10_gap_5 (by decide) ?_
    refine lv_icmp_eq (tgt := 12) hx hb dX10_gap_6 (by decide) (fun c6 => ?_) (fun c6 => ?_)
    · have hf := (if_pos c6).symm.trans hf
      refine lv_iconst (v := (0 : Int32)) hx hb dX10_gap_12 (by decide) ?_
      refine lv_istore_n (lv' := [(2, _), (0, _), (1, _)]) hx hb dX10_gap_13 rfl hl (by decide) rfl (fun ls hl => ?_)
      refine lv_iconst (v := (0 : Int32)) hx hb dX10_gap_14 (by decide) ?_
      refine lv_istore_n (lv' := [(3, _), (2, _), (0, _), (1, _)]) hx hb dX10_gap_15 rfl hl (by decide) rfl (fun ls hl => ?_)
      refine lv_iconst (v := (0 : Int32)) hx hb dX10_gap_16 (by decide) ?_
      refine lv_istore (lv' := [(4, _), (3, _), (2, _), (0, _), (1, _)]) hx hb dX10_gap_17 hl (by decide) rfl (fun ls hl => ?_)
      refine lv_aload_n hx hb dX10_gap_19 rfl (lv_at hl 3 rfl) ?_
      refine z_getr (o := 0) (o2 := 1) (C := RX10) (T := TX10) (N := 8) (ci := 8) (k := 0) hx hb Z hw (by decide) (by omega) rfl inX10 (by decide) rfl wd288 dX10_gap_20 ?_
      refine z_getr (o := 1) (o2 := 2) (C := RX6) (T := TX6) (N := 4) (ci := 5) (k := 0) hx hb Z hw (by decide) (by omega) rfl inX6 (by decide) rfl wd199 dX10_gap_23 ?_
      refine z_callVi (o := 2) (ci := 4) (As := []) (rest := []) (t_X5_allFrames G l hN 2 (by decide) (by omega) h) cv_X5_allFrames hx hb hml hl.1 Z hw (by decide) (by decide) (by omega) rfl rfl wd548 rfl rfl (Nat.le_of_ble_eq_true rfl) (by decide) dX10_gap_26 (fun H locs hw => ?_)
      refine lv_istore (lv' := [(5, _), (4, _), (3, _), (2, _), (0, _), (1, _)]) hx hb dX10_gap_29 hl (by decide) rfl (fun ls hl => ?_)
      refine lv_aload_n hx hb dX10_gap_31 rfl (lv_at hl 4 rfl) ?_
      refine z_getr (o := 0) (o2 := 63) (C := RX10) (T := TX10) (N := 8) (ci := 8) (k := 6) hx hb Z hw (by decide) (by omega) rfl inX10 (by decide) rfl wd294 dX10_gap_32 ?_
      refine lv_aload_n hx hb dX10_gap_35 rfl (lv_at hl 4 rfl) ?_
      refine z_getr (o := 0) (o2 := 1) (C := RX10) (T := TX10) (N := 8) (ci := 8) (k := 0) hx hb Z hw (by decide) (by omega) rfl inX10 (by decide) rfl wd288 dX10_gap_36 ?_
      obtain ⟨q39, hq39, hf⟩ := ob_some hf
      refine z_callVi (o := 63) (ci := 6) (As := [.ref (ra G 1)]) (rest := []) (t_X7_of G l hN 1 (by decide) (by omega) h hq39) cv_X7_of hx hb hml hl.1 Z hw (by decide) (by decide) (by omega) rfl rfl wd423 rfl rfl (Nat.le_of_ble_eq_true rfl) (by decide) dX10_gap_39 (fun H locs hw => ?_)
      refine lv_pop hx hb dX10_gap_42 rfl ?_
      refine lv_iconst (v := (0 : Int32)) hx hb dX10_gap_43 (by decide) ?_
      refine lv_istore (lv' := [(6, _), (5, _), (4, _), (3, _), (2, _), (0, _), (1, _)]) hx hb dX10_gap_44 hl (by decide) rfl (fun ls hl => ?_)
      obtain ⟨q46, hq46, hf⟩ := ob_some hf
      refine w_X10_gap_L46 G l hN  hx hb hr hlk hml Z FU (0 : Int32) (0 : Int32) (0 : Int32) (f_X5_allFrames 2 h) (0 : Int32) q39 x1 _ _ ls H locs (lv_sub hl [5, 6, 4, 3, 2, 1, 0] rfl) hw hq46 (fun ls H locs hl hw => ?_)
      refine lv_iload_n hx hb dX10_gap_99 rfl (lv_at hl 1 rfl) ?_
      refine lv_if_ne (tgt := 106) hx hb dX10_gap_100 (by decide) (fun c100 => ?_) (fun c100 => ?_)
      · have hf := (if_neg c100).symm.trans hf
        refine lv_iload_n hx hb dX10_gap_106 rfl (lv_at hl 0 rfl) ?_
        refine lv_if_ne (tgt := 114) hx hb dX10_gap_107 (by decide) (fun c107 => ?_) (fun c107 => ?_)
        · have hf := (if_neg c107).symm.trans hf
          refine lv_iload_n hx hb dX10_gap_114 rfl (lv_at hl 1 rfl) ?_
          obtain ⟨rfl, rfl⟩ := Prod.mk.inj (Option.some.inj hf)
          exact z_iret hx hb hr hlk hw dX10_gap_115
        · have hf := (if_pos c107).symm.trans hf
          refine lv_iload_n hx hb dX10_gap_110 rfl (lv_at hl 2 rfl) ?_
          refine lv_goto (tgt := 115) hx hb dX10_gap_111 (by decide) ?_
          obtain ⟨rfl, rfl⟩ := Prod.mk.inj (Option.some.inj hf)
          exact z_iret hx hb hr hlk hw dX10_gap_115
      · have hf := (if_pos c100).symm.trans hf
        refine lv_bipush (v := (-5 : Int32)) hx hb dX10_gap_103 (by decide) ?_
        obtain ⟨rfl, rfl⟩ := Prod.mk.inj (Option.some.inj hf)
        exact z_iret hx hb hr hlk hw dX10_gap_105
    · have hf := (if_neg c6).symm.trans hf
      refine lv_bipush (v := (-2 : Int32)) hx hb dX10_gap_9 (by decide) ?_
      obtain ⟨rfl, rfl⟩ := Prod.mk.inj (Option.some.inj hf)
      exact z_iret hx hb hr hlk hw dX10_gap_11
set_option maxHeartbeats 4000000 in
set_option maxRecDepth 100000 in
theorem t_X11_in (G : GM) (l : Launch) (hN : 77 ≤ gN G) (x0 : Int32) (x1 : Int32) (x2 : Int32) (h : HP) : MC G l yX11_in cX11_in 3 (some .boolean) 0 [.int x0, .int x1, .int x2] h h (some (.int (f_X11_in x0 x1 x2 h))) := by
  generalize hf : f_X11_in x0 x1 x2 h = r
  unfold f_X11_in at hf
  refine z_start (by decide) (Nat.le_of_ble_eq_true rfl) ?_
  intro p e s m args below meth c ls hx hb hr hlk hml Z hw hl
  have Z : ZK G s args m RX11 := Z
  have hl : lv_has ls 3 [(0, .int x0), (1, .int x1), (2, .int x2)] := hl
  obtain ⟨H, hH⟩ : ∃ H, H = s.heap := ⟨_, rfl⟩
  rw [← hH] at hw ⊢
  obtain ⟨locs, hlc⟩ : ∃ locs : List Loc, locs = [] := ⟨_, rfl⟩
  rw [← hlc] at hw ⊢
  refine lv_iload_n hx hb dX11_in_0 rfl (lv_at hl 0 rfl) ?_
  refine lv_iload_n hx hb dX11_in_1 rfl (lv_at hl 1 rfl) ?_
  refine lv_icmp_lt (tgt := 14) hx hb dX11_in_2 (by decide) (fun c2 => ?_) (fun c2 => ?_)
  · have hf := (if_pos c2).symm.trans hf
    refine lv_iconst (v := (0 : Int32)) hx hb dX11_in_14 (by decide) ?_
    obtain rfl := hf
    exact z_zret hx hb hr rfl hlk hw dX11_in_15
  · have hf := (if_neg c2).symm.trans hf
    refine lv_iload_n hx hb dX11_in_5 rfl (lv_at hl 0 rfl) ?_
    refine lv_iload_n hx hb dX11_in_6 rfl (lv_at hl 2 rfl) ?_
    refine lv_icmp_gt (tgt := 14) hx hb dX11_in_7 (by decide) (fun c7 => ?_) (fun c7 => ?_)
    · have hf := (if_pos c7).symm.trans hf
      refine lv_iconst (v := (0 : Int32)) hx hb dX11_in_14 (by decide) ?_
      obtain rfl := hf
      exact z_zret hx hb hr rfl hlk hw dX11_in_15
    · have hf := (if_neg c7).symm.trans hf
      refine lv_iconst (v := (1 : Int32)) hx hb dX11_in_10 (by decide) ?_
      refine lv_goto (tgt := 15) hx hb dX11_in_11 (by decide) ?_
      obtain rfl := hf
      exact z_zret hx hb hr rfl hlk hw dX11_in_15
set_option maxHeartbeats 4000000 in
set_option maxRecDepth 100000 in
theorem t_X11_size (G : GM) (l : Launch) (hN : 77 ≤ gN G) (x0 : Int32) (h : HP) : MC G l yX11_size cX11_size 1 (some .int) 0 [.int x0] h h (some (.int (f_X11_size x0 h))) := by
  generalize hf : f_X11_size x0 h = r
  unfold f_X11_size at hf
  refine z_start (by decide) (Nat.le_of_ble_eq_true rfl) ?_
  intro p e s m args below meth c ls hx hb hr hlk hml Z hw hl
  have Z : ZK G s args m RX11 := Z
  have hl : lv_has ls 1 [(0, .int x0)] := hl
  obtain ⟨H, hH⟩ : ∃ H, H = s.heap := ⟨_, rfl⟩
  rw [← hH] at hw ⊢
  obtain ⟨locs, hlc⟩ : ∃ locs : List Loc, locs = [] := ⟨_, rfl⟩
  rw [← hlc] at hw ⊢
  refine lv_iload_n hx hb dX11_size_0 rfl (lv_at hl 0 rfl) ?_
  refine lv_if_ge (tgt := 9) hx hb dX11_size_1 (by decide) (fun c1 => ?_) (fun c1 => ?_)
  · have hf := (if_pos c1).symm.trans hf
    refine lv_iload_n hx hb dX11_size_9 rfl (lv_at hl 0 rfl) ?_
    obtain rfl := hf
    exact z_iret hx hb hr hlk hw dX11_size_10
  · have hf := (if_neg c1).symm.trans hf
    refine lv_iload_n hx hb dX11_size_4 rfl (lv_at hl 0 rfl) ?_
    refine lv_ineg hx hb dX11_size_5 ?_
    refine lv_goto (tgt := 10) hx hb dX11_size_6 (by decide) ?_
    obtain rfl := hf
    exact z_iret hx hb hr hlk hw dX11_size_10
set_option maxHeartbeats 4000000 in
set_option maxRecDepth 100000 in
theorem w_X11_putAside_L2 (G : GM) (l : Launch) (hN : 77 ≤ gN G)  {p : Program} {e : Env} {s : State} {m : MethodId} {args : Array Value} {below : List Frame} {meth : Method} {c : Code} (hx : p.tables.exec = Jvm.exec) (hb : c.code = cX11_putAside) (hr : meth.sig.returnType = none) (hlk : meth.locks = false) (hml : c.maxLocals = 2) (Z : ZK G s args m RX11) : ∀ (n : Nat) (x1 : Int32)  (h : HP)  (rv : Option Value) (hq : HP) (ls : Array Slot) (H : Heap) (locs : List Loc) {q : HP}, lv_has ls 2 [(0, .ref (ra G 70)), (1, .int x1)] → HW G h s H locs → f_X11_putAside_L2 n x1 h = some q → (∀ (ls : Array Slot) (H : Heap) (locs : List Loc), lv_has ls 2 [] → HW G q s H locs → WZ p l e 0 s m args below meth c G rv hq H locs (F0 m 27 ls [])) → WZ p l e 0 s m args below meth c G rv hq H locs (F0 m 2 ls []) := by
  intro n
  induction n with
  | zero => intro x1  h  rv hq ls H locs q hl hw hf kk; cases hf
  | succ n ih =>
    intro x1  h  rv hq ls H locs q hl hw hf kk
    rw [f_X11_putAside_L2] at hf
    refine lv_iload_n hx hb dX11_putAside_2 rfl (lv_at hl 1 rfl) ?_
    refine lv_sipush (v := (166 : Int32)) hx hb dX11_putAside_3 (by decide) ?_
    refine lv_icmp_ge (tgt := 27) hx hb dX11_putAside_6 (by decide) (fun c6 => ?_) (fun c6 => ?_)
    · have hf := (if_pos c6).symm.trans hf
      obtain rfl := Option.some.inj hf
      exact kk ls H locs (lv_sub hl [] rfl) hw
    · have hf := (if_neg c6).symm.trans hf
      refine lv_aload_n hx hb dX11_putAside_9 rfl (lv_at hl 0 rfl) ?_
      refine z_getr (o := 70) (o2 := 72) (C := RX11) (T := TX11) (N := 11) (ci := 9) (k := 1) hx hb Z hw (by decide) (by omega) rfl inX11 (by decide) rfl wd876 dX11_putAside_10 ?_
      refine lv_iload_n hx hb dX11_putAside_13 rfl (lv_at hl 1 rfl) ?_
      refine lv_aload_n hx hb dX11_putAside_14 rfl (lv_at hl 0 rfl) ?_
      refine z_getr (o := 70) (o2 := 71) (C := RX11) (T := TX11) (N := 11) (ci := 9) (k := 0) hx hb Z hw (by decide) (by omega) rfl inX11 (by decide) rfl wd875 dX11_putAside_15 ?_
      refine lv_iload_n hx hb dX11_putAside_18 rfl (lv_at hl 1 rfl) ?_
      obtain ⟨h19, hf⟩ := gd_some hf
      refine y_iald (o := 71) (k := x1.toNatClampNeg) hx hb Z hw (by decide) (by omega) rfl (inB_vp h19) dX11_putAside_19 ?_
      obtain ⟨h20, hf⟩ := gd_some hf
      refine y_iast (o := 72) (k := x1.toNatClampNeg) hx hb Z hw (by decide) (by omega) rfl (inB_vp h20) dX11_putAside_20 (fun H locs hw => ?_)
      refine lv_iinc (v := x1 + (1 : Int32)) (lv' := [(1, _), (0, _)]) hx hb dX11_putAside_21 hl (k := 1) rfl rfl (by decide) rfl (fun ls hl => ?_)
      refine lv_goto (tgt := 2) hx hb dX11_putAside_24 (by decide) ?_
      exact ih (x1 + (1 : Int32)) (hset h 72 x1.toNatClampNeg (h 71 x1.toNatClampNeg))  rv hq ls H locs (lv_sub hl [1, 0] rfl) hw hf kk
set_option maxHeartbeats 4000000 in
set_option maxRecDepth 100000 in
theorem t_X11_putAside (G : GM) (l : Launch) (hN : 77 ≤ gN G)  (h : HP) {h' : HP} (hf : f_X11_putAside  h = some h') : MC G l yX11_putAside cX11_putAside 2 none 0 [.ref (ra G 70)] h h' none := by
  unfold f_X11_putAside at hf
  refine z_start (by decide) (Nat.le_of_ble_eq_true rfl) ?_
  intro p e s m args below meth c ls hx hb hr hlk hml Z hw hl
  have Z : ZK G s args m RX11 := Z
  have hl : lv_has ls 2 [(0, .ref (ra G 70))] := hl
  obtain ⟨H, hH⟩ : ∃ H, H = s.heap := ⟨_, rfl⟩
  rw [← hH] at hw ⊢
  obtain ⟨locs, hlc⟩ : ∃ locs : List Loc, locs = [] := ⟨_, rfl⟩
  rw [← hlc] at hw ⊢
  refine lv_iconst (v := (0 : Int32)) hx hb dX11_putAside_0 (by decide) ?_
  refine lv_istore_n (lv' := [(1, _), (0, _)]) hx hb dX11_putAside_1 rfl hl (by decide) rfl (fun ls hl => ?_)
  obtain ⟨q2, hq2, hf⟩ := ob_some hf
  refine w_X11_putAside_L2 G l hN  hx hb hr hlk hml Z FU (0 : Int32) h  _ _ ls H locs (lv_sub hl [1, 0] rfl) hw hq2 (fun ls H locs hl hw => ?_)
  obtain rfl := Option.some.inj hf
  exact z_vret hx hb hr hlk hw dX11_putAside_27
set_option maxHeartbeats 4000000 in
set_option maxRecDepth 100000 in
theorem w_X11_putBack_L2 (G : GM) (l : Launch) (hN : 77 ≤ gN G)  {p : Program} {e : Env} {s : State} {m : MethodId} {args : Array Value} {below : List Frame} {meth : Method} {c : Code} (hx : p.tables.exec = Jvm.exec) (hb : c.code = cX11_putBack) (hr : meth.sig.returnType = none) (hlk : meth.locks = false) (hml : c.maxLocals = 2) (Z : ZK G s args m RX11) : ∀ (n : Nat) (x1 : Int32)  (h : HP)  (rv : Option Value) (hq : HP) (ls : Array Slot) (H : Heap) (locs : List Loc) {q : HP}, lv_has ls 2 [(0, .ref (ra G 70)), (1, .int x1)] → HW G h s H locs → f_X11_putBack_L2 n x1 h = some q → (∀ (ls : Array Slot) (H : Heap) (locs : List Loc), lv_has ls 2 [] → HW G q s H locs → WZ p l e 0 s m args below meth c G rv hq H locs (F0 m 27 ls [])) → WZ p l e 0 s m args below meth c G rv hq H locs (F0 m 2 ls []) := by
  intro n
  induction n with
  | zero => intro x1  h  rv hq ls H locs q hl hw hf kk; cases hf
  | succ n ih =>
    intro x1  h  rv hq ls H locs q hl hw hf kk
    rw [f_X11_putBack_L2] at hf
    refine lv_iload_n hx hb dX11_putBack_2 rfl (lv_at hl 1 rfl) ?_
    refine lv_sipush (v := (166 : Int32)) hx hb dX11_putBack_3 (by decide) ?_
    refine lv_icmp_ge (tgt := 27) hx hb dX11_putBack_6 (by decide) (fun c6 => ?_) (fun c6 => ?_)
    · have hf := (if_pos c6).symm.trans hf
      obtain rfl := Option.some.inj hf
      exact kk ls H locs (lv_sub hl [] rfl) hw
    · have hf := (if_neg c6).symm.trans hf
      refine lv_aload_n hx hb dX11_putBack_9 rfl (lv_at hl 0 rfl) ?_
      refine z_getr (o := 70) (o2 := 71) (C := RX11) (T := TX11) (N := 11) (ci := 9) (k := 0) hx hb Z hw (by decide) (by omega) rfl inX11 (by decide) rfl wd875 dX11_putBack_10 ?_
      refine lv_iload_n hx hb dX11_putBack_13 rfl (lv_at hl 1 rfl) ?_
      refine lv_aload_n hx hb dX11_putBack_14 rfl (lv_at hl 0 rfl) ?_
      refine z_getr (o := 70) (o2 := 72) (C := RX11) (T := TX11) (N := 11) (ci := 9) (k := 1) hx hb Z hw (by decide) (by omega) rfl inX11 (by decide) rfl wd876 dX11_putBack_15 ?_
      refine lv_iload_n hx hb dX11_putBack_18 rfl (lv_at hl 1 rfl) ?_
      obtain ⟨h19, hf⟩ := gd_some hf
      refine y_iald (o := 72) (k := x1.toNatClampNeg) hx hb Z hw (by decide) (by omega) rfl (inB_vp h19) dX11_putBack_19 ?_
      obtain ⟨h20, hf⟩ := gd_some hf
      refine y_iast (o := 71) (k := x1.toNatClampNeg) hx hb Z hw (by decide) (by omega) rfl (inB_vp h20) dX11_putBack_20 (fun H locs hw => ?_)
      refine lv_iinc (v := x1 + (1 : Int32)) (lv' := [(1, _), (0, _)]) hx hb dX11_putBack_21 hl (k := 1) rfl rfl (by decide) rfl (fun ls hl => ?_)
      refine lv_goto (tgt := 2) hx hb dX11_putBack_24 (by decide) ?_
      exact ih (x1 + (1 : Int32)) (hset h 71 x1.toNatClampNeg (h 72 x1.toNatClampNeg))  rv hq ls H locs (lv_sub hl [1, 0] rfl) hw hf kk
set_option maxHeartbeats 4000000 in
set_option maxRecDepth 100000 in
theorem t_X11_putBack (G : GM) (l : Launch) (hN : 77 ≤ gN G)  (h : HP) {h' : HP} (hf : f_X11_putBack  h = some h') : MC G l yX11_putBack cX11_putBack 2 none 0 [.ref (ra G 70)] h h' none := by
  unfold f_X11_putBack at hf
  refine z_start (by decide) (Nat.le_of_ble_eq_true rfl) ?_
  intro p e s m args below meth c ls hx hb hr hlk hml Z hw hl
  have Z : ZK G s args m RX11 := Z
  have hl : lv_has ls 2 [(0, .ref (ra G 70))] := hl
  obtain ⟨H, hH⟩ : ∃ H, H = s.heap := ⟨_, rfl⟩
  rw [← hH] at hw ⊢
  obtain ⟨locs, hlc⟩ : ∃ locs : List Loc, locs = [] := ⟨_, rfl⟩
  rw [← hlc] at hw ⊢
  refine lv_iconst (v := (0 : Int32)) hx hb dX11_putBack_0 (by decide) ?_
  refine lv_istore_n (lv' := [(1, _), (0, _)]) hx hb dX11_putBack_1 rfl hl (by decide) rfl (fun ls hl => ?_)
  obtain ⟨q2, hq2, hf⟩ := ob_some hf
  refine w_X11_putBack_L2 G l hN  hx hb hr hlk hml Z FU (0 : Int32) h  _ _ ls H locs (lv_sub hl [1, 0] rfl) hw hq2 (fun ls H locs hl hw => ?_)
  obtain rfl := Option.some.inj hf
  exact z_vret hx hb hr hlk hw dX11_putBack_27
set_option maxHeartbeats 4000000 in
set_option maxRecDepth 100000 in
theorem w_X11_act_L20 (G : GM) (l : Launch) (hN : 77 ≤ gN G)  {p : Program} {e : Env} {s : State} {m : MethodId} {args : Array Value} {below : List Frame} {meth : Method} {c : Code} (hx : p.tables.exec = Jvm.exec) (hb : c.code = cX11_act) (hr : meth.sig.returnType = (some .int)) (hlk : meth.locks = false) (hml : c.maxLocals = 3) (Z : ZK G s args m RX11) : ∀ (n : Nat) (x2 : Int32)  (h : HP) (v1 : Int32) (rv : Option Value) (hq : HP) (ls : Array Slot) (H : Heap) (locs : List Loc) {q : HP}, lv_has ls 3 [(0, .ref (ra G 70)), (1, .int v1), (2, .int x2)] → HW G h s H locs → f_X11_act_L20 n x2 h = some q → (∀ (ls : Array Slot) (H : Heap) (locs : List Loc), lv_has ls 3 [(0, .ref (ra G 70)), (1, .int v1)] → HW G q s H locs → WZ p l e 1 s m args below meth c G rv hq H locs (F0 m 49 ls [])) → WZ p l e 1 s m args below meth c G rv hq H locs (F0 m 20 ls []) := by
  intro n
  induction n with
  | zero => intro x2  h v1 rv hq ls H locs q hl hw hf kk; cases hf
  | succ n ih =>
    intro x2  h v1 rv hq ls H locs q hl hw hf kk
    rw [f_X11_act_L20] at hf
    refine lv_iload_n hx hb dX11_act_20 rfl (lv_at hl 2 rfl) ?_
    refine lv_sipush (v := (498 : Int32)) hx hb dX11_act_21 (by decide) ?_
    refine lv_icmp_ge (tgt := 49) hx hb dX11_act_24 (by decide) (fun c24 => ?_) (fun c24 => ?_)
    · have hf := (if_pos c24).symm.trans hf
      obtain rfl := Option.some.inj hf
      exact kk ls H locs (lv_sub hl [0, 1] rfl) hw
    · have hf := (if_neg c24).symm.trans hf
      refine lv_aload_n hx hb dX11_act_27 rfl (lv_at hl 0 rfl) ?_
      refine z_getr (o := 70) (o2 := 73) (C := RX11) (T := TX11) (N := 11) (ci := 9) (k := 2) hx hb Z hw (by decide) (by omega) rfl inX11 (by decide) rfl wd877 dX11_act_28 ?_
      refine lv_iload_n hx hb dX11_act_31 rfl (lv_at hl 2 rfl) ?_
      refine lv_aload_n hx hb dX11_act_32 rfl (lv_at hl 0 rfl) ?_
      refine z_getr (o := 70) (o2 := 73) (C := RX11) (T := TX11) (N := 11) (ci := 9) (k := 2) hx hb Z hw (by decide) (by omega) rfl inX11 (by decide) rfl wd877 dX11_act_33 ?_
      refine lv_sipush (v := (166 : Int32)) hx hb dX11_act_36 (by decide) ?_
      refine lv_iload_n hx hb dX11_act_39 rfl (lv_at hl 2 rfl) ?_
      refine lv_iadd hx hb dX11_act_40 ?_
      obtain ⟨h41, hf⟩ := gd_some hf
      refine y_iald (o := 73) (k := ((166 : Int32) + x2).toNatClampNeg) hx hb Z hw (by decide) (by omega) rfl (inB_vp h41) dX11_act_41 ?_
      obtain ⟨h42, hf⟩ := gd_some hf
      refine y_iast (o := 73) (k := x2.toNatClampNeg) hx hb Z hw (by decide) (by omega) rfl (inB_vp h42) dX11_act_42 (fun H locs hw => ?_)
      refine lv_iinc (v := x2 + (1 : Int32)) (lv' := [(2, _), (0, _), (1, _)]) hx hb dX11_act_43 hl (k := 2) rfl rfl (by decide) rfl (fun ls hl => ?_)
      refine lv_goto (tgt := 20) hx hb dX11_act_46 (by decide) ?_
      exact ih (x2 + (1 : Int32)) (hset h 73 x2.toNatClampNeg (h 73 ((166 : Int32) + x2).toNatClampNeg)) v1 rv hq ls H locs (lv_sub hl [1, 2, 0] rfl) hw hf kk
set_option maxHeartbeats 4000000 in
set_option maxRecDepth 100000 in
theorem w_X11_act_L61 (G : GM) (l : Launch) (hN : 77 ≤ gN G)  {p : Program} {e : Env} {s : State} {m : MethodId} {args : Array Value} {below : List Frame} {meth : Method} {c : Code} (hx : p.tables.exec = Jvm.exec) (hb : c.code = cX11_act) (hr : meth.sig.returnType = (some .int)) (hlk : meth.locks = false) (hml : c.maxLocals = 3) (Z : ZK G s args m RX11) : ∀ (n : Nat) (x2 : Int32)  (h : HP) (v1 : Int32) (rv : Option Value) (hq : HP) (ls : Array Slot) (H : Heap) (locs : List Loc) {q : HP}, lv_has ls 3 [(0, .ref (ra G 70)), (1, .int v1), (2, .int x2)] → HW G h s H locs → f_X11_act_L61 n x2 h = some q → (∀ (ls : Array Slot) (H : Heap) (locs : List Loc), lv_has ls 3 [(0, .ref (ra G 70)), (1, .int v1)] → HW G q s H locs → WZ p l e 1 s m args below meth c G rv hq H locs (F0 m 95 ls [])) → WZ p l e 1 s m args below meth c G rv hq H locs (F0 m 61 ls []) := by
  intro n
  induction n with
  | zero => intro x2  h v1 rv hq ls H locs q hl hw hf kk; cases hf
  | succ n ih =>
    intro x2  h v1 rv hq ls H locs q hl hw hf kk
    rw [f_X11_act_L61] at hf
    refine lv_iload_n hx hb dX11_act_61 rfl (lv_at hl 2 rfl) ?_
    refine lv_sipush (v := (166 : Int32)) hx hb dX11_act_62 (by decide) ?_
    refine lv_icmp_ge (tgt := 95) hx hb dX11_act_65 (by decide) (fun c65 => ?_) (fun c65 => ?_)
    · have hf := (if_pos c65).symm.trans hf
      obtain rfl := Option.some.inj hf
      exact kk ls H locs (lv_sub hl [0, 1] rfl) hw
    · have hf := (if_neg c65).symm.trans hf
      refine lv_aload_n hx hb dX11_act_68 rfl (lv_at hl 0 rfl) ?_
      refine z_getr (o := 70) (o2 := 73) (C := RX11) (T := TX11) (N := 11) (ci := 9) (k := 2) hx hb Z hw (by decide) (by omega) rfl inX11 (by decide) rfl wd877 dX11_act_69 ?_
      refine lv_sipush (v := (166 : Int32)) hx hb dX11_act_72 (by decide) ?_
      refine lv_aload_n hx hb dX11_act_75 rfl (lv_at hl 0 rfl) ?_
      refine z_geti (o := 70) (C := RX11) (T := TX11) (N := 11) (ci := 9) (k := 3) hx hb Z hw (by decide) (by omega) rfl inX11 (by decide) wd878 dX11_act_76 ?_
      refine lv_imul hx hb dX11_act_79 ?_
      refine lv_iload_n hx hb dX11_act_80 rfl (lv_at hl 2 rfl) ?_
      refine lv_iadd hx hb dX11_act_81 ?_
      refine lv_aload_n hx hb dX11_act_82 rfl (lv_at hl 0 rfl) ?_
      refine z_getr (o := 70) (o2 := 72) (C := RX11) (T := TX11) (N := 11) (ci := 9) (k := 1) hx hb Z hw (by decide) (by omega) rfl inX11 (by decide) rfl wd876 dX11_act_83 ?_
      refine lv_iload_n hx hb dX11_act_86 rfl (lv_at hl 2 rfl) ?_
      obtain ⟨h87, hf⟩ := gd_some hf
      refine y_iald (o := 72) (k := x2.toNatClampNeg) hx hb Z hw (by decide) (by omega) rfl (inB_vp h87) dX11_act_87 ?_
      obtain ⟨h88, hf⟩ := gd_some hf
      refine y_iast (o := 73) (k := (((166 : Int32) * (h 70 3)) + x2).toNatClampNeg) hx hb Z hw (by decide) (by omega) rfl (inB_vp h88) dX11_act_88 (fun H locs hw => ?_)
      refine lv_iinc (v := x2 + (1 : Int32)) (lv' := [(2, _), (0, _), (1, _)]) hx hb dX11_act_89 hl (k := 2) rfl rfl (by decide) rfl (fun ls hl => ?_)
      refine lv_goto (tgt := 61) hx hb dX11_act_92 (by decide) ?_
      exact ih (x2 + (1 : Int32)) (hset h 73 (((166 : Int32) * (h 70 3)) + x2).toNatClampNeg (h 72 x2.toNatClampNeg)) v1 rv hq ls H locs (lv_sub hl [1, 2, 0] rfl) hw hf kk
set_option maxHeartbeats 4000000 in
set_option maxRecDepth 100000 in
theorem t_X11_act (G : GM) (l : Launch) (hN : 77 ≤ gN G) (x1 : Int32) (h : HP) {r : Int32} {h' : HP} (hf : f_X11_act x1 h = some (r, h')) : MC G l yX11_act cX11_act 3 (some .int) 1 [.ref (ra G 70), .int x1] h h' (some (.int r)) := by
  unfold f_X11_act at hf
  refine z_start (by decide) (Nat.le_of_ble_eq_true rfl) ?_
  intro p e s m args below meth c ls hx hb hr hlk hml Z hw hl
  have Z : ZK G s args m RX11 := Z
  have hl : lv_has ls 3 [(0, .ref (ra G 70)), (1, .int x1)] := hl
  obtain ⟨H, hH⟩ : ∃ H, H = s.heap := ⟨_, rfl⟩
  rw [← hH] at hw ⊢
  obtain ⟨locs, hlc⟩ : ∃ locs : List Loc, locs = [] := ⟨_, rfl⟩
  rw [← hlc] at hw ⊢
  refine lv_iload_n hx hb dX11_act_0 rfl (lv_at hl 1 rfl) ?_
  refine lv_if_ge (tgt := 10) hx hb dX11_act_1 (by decide) (fun c1 => ?_) (fun c1 => ?_)
  · have hf := (if_pos c1).symm.trans hf
    refine lv_aload_n hx hb dX11_act_10 rfl (lv_at hl 0 rfl) ?_
    refine z_geti (o := 70) (C := RX11) (T := TX11) (N := 11) (ci := 9) (k := 3) hx hb Z hw (by decide) (by omega) rfl inX11 (by decide) wd878 dX11_act_11 ?_
    refine lv_iconst (v := (4 : Int32)) hx hb dX11_act_14 (by decide) ?_
    obtain ⟨j15, hqj15, hf⟩ := ob_some hf
    have HJ59 : ∀ (ls : Array Slot) (H : Heap) (locs : List Loc), lv_has ls 3 [(0, .ref (ra G 70)), (1, .int x1)] → HW G j15 s H locs → WZ p l e 1 s m args below meth c G (some (.int r)) h' H locs (F0 m 59 ls []) := by
      intro ls H locs hl hw
      refine lv_iconst (v := (0 : Int32)) hx hb dX11_act_59 (by decide) ?_
      refine lv_istore_n (lv' := [(2, _), (0, _), (1, _)]) hx hb dX11_act_60 rfl hl (by decide) rfl (fun ls hl => ?_)
      obtain ⟨q61, hq61, hf⟩ := ob_some hf
      refine w_X11_act_L61 G l hN  hx hb hr hlk hml Z FU (0 : Int32) j15 x1 _ _ ls H locs (lv_sub hl [1, 2, 0] rfl) hw hq61 (fun ls H locs hl hw => ?_)
      refine lv_aload_n hx hb dX11_act_95 rfl (lv_at hl 0 rfl) ?_
      refine lv_dup hx hb dX11_act_96 rfl ?_
      refine z_geti (o := 70) (C := RX11) (T := TX11) (N := 11) (ci := 9) (k := 3) hx hb Z hw (by decide) (by omega) rfl inX11 (by decide) wd878 dX11_act_97 ?_
      refine lv_iconst (v := (1 : Int32)) hx hb dX11_act_100 (by decide) ?_
      refine lv_iadd hx hb dX11_act_101 ?_
      refine z_puti (o := 70) (v := (q61 70 3) + (1 : Int32)) (ty := .int) (C := RX11) (T := TX11) (N := 11) (ci := 9) (k := 3) hx hb Z hw (by decide) (by omega) rfl inX11 tyX11 tyX11_ok nmX11 (by decide) wd878 rfl (by decide +kernel) rfl rfl dX11_act_102 (fun H locs hw => ?_)
      refine lv_iload_n hx hb dX11_act_105 rfl (lv_at hl 1 rfl) ?_
      obtain ⟨rfl, rfl⟩ := Prod.mk.inj (Option.some.inj hf)
      exact z_iret hx hb hr hlk hw dX11_act_106
    have hf := hqj15
    refine lv_icmp_ne (tgt := 59) hx hb dX11_act_15 (by decide) (fun c15 => ?_) (fun c15 => ?_)
    · have hf := (if_neg c15).symm.trans hf
      obtain rfl := Option.some.inj hf
      exact HJ59 ls H locs (lv_sub hl [0, 1] rfl) hw
    · have hf := (if_pos c15).symm.trans hf
      refine lv_iconst (v := (0 : Int32)) hx hb dX11_act_18 (by decide) ?_
      refine lv_istore_n (lv' := [(2, _), (0, _), (1, _)]) hx hb dX11_act_19 rfl hl (by decide) rfl (fun ls hl => ?_)
      obtain ⟨q20, hq20, hf⟩ := ob_some hf
      refine w_X11_act_L20 G l hN  hx hb hr hlk hml Z FU (0 : Int32) h x1 _ _ ls H locs (lv_sub hl [1, 2, 0] rfl) hw hq20 (fun ls H locs hl hw => ?_)
      refine lv_aload_n hx hb dX11_act_49 rfl (lv_at hl 0 rfl) ?_
      refine lv_dup hx hb dX11_act_50 rfl ?_
      refine z_geti (o := 70) (C := RX11) (T := TX11) (N := 11) (ci := 9) (k := 3) hx hb Z hw (by decide) (by omega) rfl inX11 (by decide) wd878 dX11_act_51 ?_
      refine lv_iconst (v := (1 : Int32)) hx hb dX11_act_54 (by decide) ?_
      refine lv_isub hx hb dX11_act_55 ?_
      refine z_puti (o := 70) (v := (q20 70 3) - (1 : Int32)) (ty := .int) (C := RX11) (T := TX11) (N := 11) (ci := 9) (k := 3) hx hb Z hw (by decide) (by omega) rfl inX11 tyX11 tyX11_ok nmX11 (by decide) wd878 rfl (by decide +kernel) rfl rfl dX11_act_56 (fun H locs hw => ?_)
      obtain rfl := Option.some.inj hf
      exact HJ59 ls H locs (lv_sub hl [0, 1] rfl) hw
  · have hf := (if_neg c1).symm.trans hf
    refine lv_aload_n hx hb dX11_act_4 rfl (lv_at hl 0 rfl) ?_
    obtain ⟨q5, hq5, hf⟩ := ob_some hf
    refine z_callVv (o := 70) (ci := 9) (As := []) (rest := []) (t_X11_putBack G l hN  h hq5) cv_X11_putBack hx hb hml hl.1 Z hw (by decide) (by decide) (by omega) rfl rfl wd955 rfl rfl (Nat.le_of_ble_eq_true rfl) (by decide) dX11_act_5 (fun H locs hw => ?_)
    refine lv_iload_n hx hb dX11_act_8 rfl (lv_at hl 1 rfl) ?_
    obtain ⟨rfl, rfl⟩ := Prod.mk.inj (Option.some.inj hf)
    exact z_iret hx hb hr hlk hw dX11_act_9
set_option maxHeartbeats 4000000 in
set_option maxRecDepth 100000 in
theorem t_X11_framesOf (G : GM) (l : Launch) (hN : 77 ≤ gN G) (x1 : Int32) (h : HP) : MC G l yX11_framesOf cX11_framesOf 2 (some .int) 0 [.ref (ra G 70), .int x1] h h (some (.int (f_X11_framesOf x1 h))) := by
  generalize hf : f_X11_framesOf x1 h = r
  unfold f_X11_framesOf at hf
  refine z_start (by decide) (Nat.le_of_ble_eq_true rfl) ?_
  intro p e s m args below meth c ls hx hb hr hlk hml Z hw hl
  have Z : ZK G s args m RX11 := Z
  have hl : lv_has ls 2 [(0, .ref (ra G 70)), (1, .int x1)] := hl
  obtain ⟨H, hH⟩ : ∃ H, H = s.heap := ⟨_, rfl⟩
  rw [← hH] at hw ⊢
  obtain ⟨locs, hlc⟩ : ∃ locs : List Loc, locs = [] := ⟨_, rfl⟩
  rw [← hlc] at hw ⊢
  refine lv_aload_n hx hb dX11_framesOf_0 rfl (lv_at hl 0 rfl) ?_
  refine z_getr (o := 70) (o2 := 71) (C := RX11) (T := TX11) (N := 11) (ci := 9) (k := 0) hx hb Z hw (by decide) (by omega) rfl inX11 (by decide) rfl wd875 dX11_framesOf_1 ?_
  refine lv_iconst (v := (0 : Int32)) hx hb dX11_framesOf_4 (by decide) ?_
  refine y_iald (o := 71) (k := 0) hx hb Z hw (by decide) (by omega) (by decide) (inB_vp (by decide)) dX11_framesOf_5 ?_
  refine lv_iload_n hx hb dX11_framesOf_6 rfl (lv_at hl 1 rfl) ?_
  refine lv_aload_n hx hb dX11_framesOf_7 rfl (lv_at hl 0 rfl) ?_
  refine z_getr (o := 70) (o2 := 71) (C := RX11) (T := TX11) (N := 11) (ci := 9) (k := 0) hx hb Z hw (by decide) (by omega) rfl inX11 (by decide) rfl wd875 dX11_framesOf_8 ?_
  refine lv_iconst (v := (1 : Int32)) hx hb dX11_framesOf_11 (by decide) ?_
  refine y_iald (o := 71) (k := 1) hx hb Z hw (by decide) (by omega) (by decide) (inB_vp (by decide)) dX11_framesOf_12 ?_
  refine lv_imul hx hb dX11_framesOf_13 ?_
  refine lv_iadd hx hb dX11_framesOf_14 ?_
  obtain rfl := hf
  exact z_iret hx hb hr hlk hw dX11_framesOf_15
set_option maxHeartbeats 4000000 in
set_option maxRecDepth 100000 in
theorem t_X11_start (G : GM) (l : Launch) (hN : 77 ≤ gN G) (x1 : Int32) (h : HP) : MC G l yX11_start cX11_start 2 (some .int) 0 [.ref (ra G 70), .int x1] h h (some (.int (f_X11_start x1 h))) := by
  generalize hf : f_X11_start x1 h = r
  unfold f_X11_start at hf
  refine z_start (by decide) (Nat.le_of_ble_eq_true rfl) ?_
  intro p e s m args below meth c ls hx hb hr hlk hml Z hw hl
  have Z : ZK G s args m RX11 := Z
  have hl : lv_has ls 2 [(0, .ref (ra G 70)), (1, .int x1)] := hl
  obtain ⟨H, hH⟩ : ∃ H, H = s.heap := ⟨_, rfl⟩
  rw [← hH] at hw ⊢
  obtain ⟨locs, hlc⟩ : ∃ locs : List Loc, locs = [] := ⟨_, rfl⟩
  rw [← hlc] at hw ⊢
  refine lv_iload_n hx hb dX11_start_0 rfl (lv_at hl 1 rfl) ?_
  refine lv_aload_n hx hb dX11_start_1 rfl (lv_at hl 0 rfl) ?_
  refine z_getr (o := 70) (o2 := 71) (C := RX11) (T := TX11) (N := 11) (ci := 9) (k := 0) hx hb Z hw (by decide) (by omega) rfl inX11 (by decide) rfl wd875 dX11_start_2 ?_
  refine lv_iconst (v := (0 : Int32)) hx hb dX11_start_5 (by decide) ?_
  refine y_iald (o := 71) (k := 0) hx hb Z hw (by decide) (by omega) (by decide) (inB_vp (by decide)) dX11_start_6 ?_
  refine lv_imul hx hb dX11_start_7 ?_
  refine lv_iload_n hx hb dX11_start_8 rfl (lv_at hl 1 rfl) ?_
  refine lv_iload_n hx hb dX11_start_9 rfl (lv_at hl 1 rfl) ?_
  refine lv_iconst (v := (1 : Int32)) hx hb dX11_start_10 (by decide) ?_
  refine lv_isub hx hb dX11_start_11 ?_
  refine lv_imul hx hb dX11_start_12 ?_
  refine lv_iconst (v := (2 : Int32)) hx hb dX11_start_13 (by decide) ?_
  refine lv_idiv hx hb dX11_start_14 (by decide) ?_
  refine lv_aload_n hx hb dX11_start_15 rfl (lv_at hl 0 rfl) ?_
  refine z_getr (o := 70) (o2 := 71) (C := RX11) (T := TX11) (N := 11) (ci := 9) (k := 0) hx hb Z hw (by decide) (by omega) rfl inX11 (by decide) rfl wd875 dX11_start_16 ?_
  refine lv_iconst (v := (1 : Int32)) hx hb dX11_start_19 (by decide) ?_
  refine y_iald (o := 71) (k := 1) hx hb Z hw (by decide) (by omega) (by decide) (inB_vp (by decide)) dX11_start_20 ?_
  refine lv_imul hx hb dX11_start_21 ?_
  refine lv_iadd hx hb dX11_start_22 ?_
  obtain rfl := hf
  exact z_iret hx hb hr hlk hw dX11_start_23
set_option maxHeartbeats 4000000 in
set_option maxRecDepth 100000 in
theorem t_X11_frames (G : GM) (l : Launch) (hN : 77 ≤ gN G)  (h : HP) : MC G l yX11_frames cX11_frames 1 (some .int) 1 [.ref (ra G 70)] h h (some (.int (f_X11_frames  h))) := by
  generalize hf : f_X11_frames  h = r
  unfold f_X11_frames at hf
  refine z_start (by decide) (Nat.le_of_ble_eq_true rfl) ?_
  intro p e s m args below meth c ls hx hb hr hlk hml Z hw hl
  have Z : ZK G s args m RX11 := Z
  have hl : lv_has ls 1 [(0, .ref (ra G 70))] := hl
  obtain ⟨H, hH⟩ : ∃ H, H = s.heap := ⟨_, rfl⟩
  rw [← hH] at hw ⊢
  obtain ⟨locs, hlc⟩ : ∃ locs : List Loc, locs = [] := ⟨_, rfl⟩
  rw [← hlc] at hw ⊢
  refine lv_aload_n hx hb dX11_frames_0 rfl (lv_at hl 0 rfl) ?_
  refine lv_bipush (v := (30 : Int32)) hx hb dX11_frames_1 (by decide) ?_
  refine z_callVi (o := 70) (ci := 9) (As := [.int (30 : Int32)]) (rest := []) (t_X11_start G l hN (30 : Int32) h) cv_X11_start hx hb hml hl.1 Z hw (by decide) (by decide) (by omega) rfl rfl wd930 rfl rfl (Nat.le_of_ble_eq_true rfl) (by decide) dX11_frames_3 (fun H locs hw => ?_)
  obtain rfl := hf
  exact z_iret hx hb hr hlk hw dX11_frames_6
set_option maxHeartbeats 4000000 in
set_option maxRecDepth 100000 in
theorem t_X11_isFrame (G : GM) (l : Launch) (hN : 77 ≤ gN G) (x1 : Int32) (h : HP) : MC G l yX11_isFrame cX11_isFrame 2 (some .boolean) 2 [.ref (ra G 70), .int x1] h h (some (.int (f_X11_isFrame x1 h))) := by
  generalize hf : f_X11_isFrame x1 h = r
  unfold f_X11_isFrame at hf
  refine z_start (by decide) (Nat.le_of_ble_eq_true rfl) ?_
  intro p e s m args below meth c ls hx hb hr hlk hml Z hw hl
  have Z : ZK G s args m RX11 := Z
  have hl : lv_has ls 2 [(0, .ref (ra G 70)), (1, .int x1)] := hl
  obtain ⟨H, hH⟩ : ∃ H, H = s.heap := ⟨_, rfl⟩
  rw [← hH] at hw ⊢
  obtain ⟨locs, hlc⟩ : ∃ locs : List Loc, locs = [] := ⟨_, rfl⟩
  rw [← hlc] at hw ⊢
  refine lv_iload_n hx hb dX11_isFrame_0 rfl (lv_at hl 1 rfl) ?_
  refine lv_iconst (v := (0 : Int32)) hx hb dX11_isFrame_1 (by decide) ?_
  refine lv_aload_n hx hb dX11_isFrame_2 rfl (lv_at hl 0 rfl) ?_
  refine z_callVi (o := 70) (ci := 9) (As := []) (rest := [.int (0 : Int32), .int x1]) (t_X11_frames G l hN  h) cv_X11_frames hx hb hml hl.1 Z hw (by decide) (by decide) (by omega) rfl rfl wd926 rfl rfl (Nat.le_of_ble_eq_true rfl) (by decide) dX11_isFrame_3 (fun H locs hw => ?_)
  refine lv_iconst (v := (1 : Int32)) hx hb dX11_isFrame_6 (by decide) ?_
  refine lv_isub hx hb dX11_isFrame_7 ?_
  refine z_callSi (As := [.int x1, .int (0 : Int32), .int ((f_X11_frames h) - (1 : Int32))]) (rest := []) (t_X11_in G l hN x1 (0 : Int32) ((f_X11_frames h) - (1 : Int32)) h) cs_X11_in hx hb hml hl.1 Z hw wd934 rfl rfl (Nat.le_of_ble_eq_true rfl) (by decide) dX11_isFrame_8 (fun H locs hw => ?_)
  obtain rfl := hf
  exact z_zret hx hb hr (nar_b (b_X11_in x1 (0 : Int32) ((f_X11_frames h) - (1 : Int32)) h)) hlk hw dX11_isFrame_11
set_option maxHeartbeats 4000000 in
set_option maxRecDepth 100000 in
theorem w_X11_turnOf_L2 (G : GM) (l : Launch) (hN : 77 ≤ gN G)  {p : Program} {e : Env} {s : State} {m : MethodId} {args : Array Value} {below : List Frame} {meth : Method} {c : Code} (hx : p.tables.exec = Jvm.exec) (hb : c.code = cX11_turnOf) (hr : meth.sig.returnType = (some .int)) (hlk : meth.locks = false) (hml : c.maxLocals = 3) (Z : ZK G s args m RX11) : ∀ (n : Nat) (x1 : Int32) (x2 : Int32)  (h : HP)  (rv : Option Value) (hq : HP) (ls : Array Slot) (H : Heap) (locs : List Loc) {q : Int32}, lv_has ls 3 [(0, .ref (ra G 70)), (1, .int x1), (2, .int x2)] → HW G h s H locs → f_X11_turnOf_L2 n x1 x2 h = some q → (∀ (ls : Array Slot) (H : Heap) (locs : List Loc), lv_has ls 3 [(2, .int q)] → HW G h s H locs → WZ p l e 1 s m args below meth c G rv hq H locs (F0 m 25 ls [])) → WZ p l e 1 s m args below meth c G rv hq H locs (F0 m 2 ls []) := by
  intro n
  induction n with
  | zero => intro x1 x2  h  rv hq ls H locs q hl hw hf kk; cases hf
  | succ n ih =>
    intro x1 x2  h  rv hq ls H locs q hl hw hf kk
    rw [f_X11_turnOf_L2] at hf
    refine lv_iload_n hx hb dX11_turnOf_2 rfl (lv_at hl 2 rfl) ?_
    refine lv_bipush (v := (29 : Int32)) hx hb dX11_turnOf_3 (by decide) ?_
    refine lv_icmp_ge (tgt := 25) hx hb dX11_turnOf_5 (by decide) (fun c5 => ?_) (fun c5 => ?_)
    · have hf := (if_pos c5).symm.trans hf
      obtain rfl := Option.some.inj hf
      exact kk ls H locs (lv_sub hl [2] rfl) hw
    · have hf := (if_neg c5).symm.trans hf
      refine lv_aload_n hx hb dX11_turnOf_8 rfl (lv_at hl 0 rfl) ?_
      refine lv_iload_n hx hb dX11_turnOf_9 rfl (lv_at hl 2 rfl) ?_
      refine lv_iconst (v := (1 : Int32)) hx hb dX11_turnOf_10 (by decide) ?_
      refine lv_iadd hx hb dX11_turnOf_11 ?_
      refine z_callVi (o := 70) (ci := 9) (As := [.int (x2 + (1 : Int32))]) (rest := []) (t_X11_start G l hN (x2 + (1 : Int32)) h) cv_X11_start hx hb hml hl.1 Z hw (by decide) (by decide) (by omega) rfl rfl wd930 rfl rfl (Nat.le_of_ble_eq_true rfl) (by decide) dX11_turnOf_12 (fun H locs hw => ?_)
      refine lv_iload_n hx hb dX11_turnOf_15 rfl (lv_at hl 1 rfl) ?_
      refine lv_icmp_gt (tgt := 25) hx hb dX11_turnOf_16 (by decide) (fun c16 => ?_) (fun c16 => ?_)
      · have hf := (if_pos c16).symm.trans hf
        obtain rfl := Option.some.inj hf
        exact kk ls H locs (lv_sub hl [2] rfl) hw
      · have hf := (if_neg c16).symm.trans hf
        refine lv_iinc (v := x2 + (1 : Int32)) (lv' := [(2, _), (0, _), (1, _)]) hx hb dX11_turnOf_19 hl (k := 2) rfl rfl (by decide) rfl (fun ls hl => ?_)
        refine lv_goto (tgt := 2) hx hb dX11_turnOf_22 (by decide) ?_
        exact ih x1 (x2 + (1 : Int32)) h  rv hq ls H locs (lv_sub hl [1, 2, 0] rfl) hw hf kk
set_option maxHeartbeats 4000000 in
set_option maxRecDepth 100000 in
theorem t_X11_turnOf (G : GM) (l : Launch) (hN : 77 ≤ gN G) (x1 : Int32) (h : HP) {r : Int32} (hf : f_X11_turnOf x1 h = some r) : MC G l yX11_turnOf cX11_turnOf 3 (some .int) 1 [.ref (ra G 70), .int x1] h h (some (.int r)) := by
  unfold f_X11_turnOf at hf
  refine z_start (by decide) (Nat.le_of_ble_eq_true rfl) ?_
  intro p e s m args below meth c ls hx hb hr hlk hml Z hw hl
  have Z : ZK G s args m RX11 := Z
  have hl : lv_has ls 3 [(0, .ref (ra G 70)), (1, .int x1)] := hl
  obtain ⟨H, hH⟩ : ∃ H, H = s.heap := ⟨_, rfl⟩
  rw [← hH] at hw ⊢
  obtain ⟨locs, hlc⟩ : ∃ locs : List Loc, locs = [] := ⟨_, rfl⟩
  rw [← hlc] at hw ⊢
  refine lv_iconst (v := (0 : Int32)) hx hb dX11_turnOf_0 (by decide) ?_
  refine lv_istore_n (lv' := [(2, _), (0, _), (1, _)]) hx hb dX11_turnOf_1 rfl hl (by decide) rfl (fun ls hl => ?_)
  obtain ⟨q2, hq2, hf⟩ := ob_some hf
  refine w_X11_turnOf_L2 G l hN  hx hb hr hlk hml Z FU x1 (0 : Int32) h  _ _ ls H locs (lv_sub hl [1, 2, 0] rfl) hw hq2 (fun ls H locs hl hw => ?_)
  refine lv_iload_n hx hb dX11_turnOf_25 rfl (lv_at hl 0 rfl) ?_
  obtain rfl := Option.some.inj hf
  exact z_iret hx hb hr hlk hw dX11_turnOf_26
set_option maxHeartbeats 4000000 in
set_option maxRecDepth 100000 in
theorem t_X11_isCheck (G : GM) (l : Launch) (hN : 77 ≤ gN G) (x0 : Int32) (h : HP) : MC G l yX11_isCheck cX11_isCheck 1 (some .boolean) 0 [.int x0] h h (some (.int (f_X11_isCheck x0 h))) := by
  generalize hf : f_X11_isCheck x0 h = r
  unfold f_X11_isCheck at hf
  refine z_start (by decide) (Nat.le_of_ble_eq_true rfl) ?_
  intro p e s m args below meth c ls hx hb hr hlk hml Z hw hl
  have Z : ZK G s args m RX11 := Z
  have hl : lv_has ls 1 [(0, .int x0)] := hl
  obtain ⟨H, hH⟩ : ∃ H, H = s.heap := ⟨_, rfl⟩
  rw [← hH] at hw ⊢
  obtain ⟨locs, hlc⟩ : ∃ locs : List Loc, locs = [] := ⟨_, rfl⟩
  rw [← hlc] at hw ⊢
  refine lv_iload_n hx hb dX11_isCheck_0 rfl (lv_at hl 0 rfl) ?_
  refine lv_iconst (v := (5 : Int32)) hx hb dX11_isCheck_1 (by decide) ?_
  refine z_irem hx hb dX11_isCheck_2 (by decide) ?_
  refine lv_iconst (v := (4 : Int32)) hx hb dX11_isCheck_3 (by decide) ?_
  refine lv_icmp_ne (tgt := 11) hx hb dX11_isCheck_4 (by decide) (fun c4 => ?_) (fun c4 => ?_)
  · have hf := (if_neg c4).symm.trans hf
    refine lv_iconst (v := (0 : Int32)) hx hb dX11_isCheck_11 (by decide) ?_
    obtain rfl := hf
    exact z_zret hx hb hr rfl hlk hw dX11_isCheck_12
  · have hf := (if_pos c4).symm.trans hf
    refine lv_iconst (v := (1 : Int32)) hx hb dX11_isCheck_7 (by decide) ?_
    refine lv_goto (tgt := 12) hx hb dX11_isCheck_8 (by decide) ?_
    obtain rfl := hf
    exact z_zret hx hb hr rfl hlk hw dX11_isCheck_12
set_option maxHeartbeats 4000000 in
set_option maxRecDepth 100000 in
theorem t_X11_hasGroup (G : GM) (l : Launch) (hN : 77 ≤ gN G) (x1 : Int32) (h : HP) : MC G l yX11_hasGroup cX11_hasGroup 2 (some .boolean) 2 [.ref (ra G 70), .int x1] h h (some (.int (f_X11_hasGroup x1 h))) := by
  generalize hf : f_X11_hasGroup x1 h = r
  unfold f_X11_hasGroup at hf
  refine z_start (by decide) (Nat.le_of_ble_eq_true rfl) ?_
  intro p e s m args below meth c ls hx hb hr hlk hml Z hw hl
  have Z : ZK G s args m RX11 := Z
  have hl : lv_has ls 2 [(0, .ref (ra G 70)), (1, .int x1)] := hl
  obtain ⟨H, hH⟩ : ∃ H, H = s.heap := ⟨_, rfl⟩
  rw [← hH] at hw ⊢
  obtain ⟨locs, hlc⟩ : ∃ locs : List Loc, locs = [] := ⟨_, rfl⟩
  rw [← hlc] at hw ⊢
  refine lv_iload_n hx hb dX11_hasGroup_0 rfl (lv_at hl 1 rfl) ?_
  refine lv_iconst (v := (5 : Int32)) hx hb dX11_hasGroup_1 (by decide) ?_
  refine lv_idiv hx hb dX11_hasGroup_2 (by decide) ?_
  refine lv_aload_n hx hb dX11_hasGroup_3 rfl (lv_at hl 0 rfl) ?_
  refine z_callVi (o := 70) (ci := 9) (As := []) (rest := [.int (x1 / (5 : Int32))]) (t_X11_frames G l hN  h) cv_X11_frames hx hb hml hl.1 Z hw (by decide) (by decide) (by omega) rfl rfl wd926 rfl rfl (Nat.le_of_ble_eq_true rfl) (by decide) dX11_hasGroup_4 (fun H locs hw => ?_)
  refine lv_iconst (v := (5 : Int32)) hx hb dX11_hasGroup_7 (by decide) ?_
  refine lv_idiv hx hb dX11_hasGroup_8 (by decide) ?_
  refine lv_icmp_ge (tgt := 16) hx hb dX11_hasGroup_9 (by decide) (fun c9 => ?_) (fun c9 => ?_)
  · have hf := (if_pos c9).symm.trans hf
    refine lv_iconst (v := (0 : Int32)) hx hb dX11_hasGroup_16 (by decide) ?_
    obtain rfl := hf
    exact z_zret hx hb hr rfl hlk hw dX11_hasGroup_17
  · have hf := (if_neg c9).symm.trans hf
    refine lv_iconst (v := (1 : Int32)) hx hb dX11_hasGroup_12 (by decide) ?_
    refine lv_goto (tgt := 17) hx hb dX11_hasGroup_13 (by decide) ?_
    obtain rfl := hf
    exact z_zret hx hb hr rfl hlk hw dX11_hasGroup_17
set_option maxHeartbeats 4000000 in
set_option maxRecDepth 100000 in
theorem w_X11_findPressed_L2 (G : GM) (l : Launch) (hN : 77 ≤ gN G)  {p : Program} {e : Env} {s : State} {m : MethodId} {args : Array Value} {below : List Frame} {meth : Method} {c : Code} (hx : p.tables.exec = Jvm.exec) (hb : c.code = cX11_findPressed) (hr : meth.sig.returnType = (some .int)) (hlk : meth.locks = false) (hml : c.maxLocals = 4) (Z : ZK G s args m RX11) : ∀ (n : Nat) (x1 : Int32) (x2 : Int32) (x3 : Int32)  (h : HP) (r : Int32) (ls : Array Slot) (H : Heap) (locs : List Loc), lv_has ls 4 [(0, .ref (ra G 70)), (1, .int x1), (2, .int x2), (3, .int x3)] → HW G h s H locs → f_X11_findPressed_L2 n x1 x2 x3 h = some r → WZ p l e 0 s m args below meth c G (some (.int r)) h H locs (F0 m 2 ls []) := by
  intro n
  induction n with
  | zero => intro x1 x2 x3  h r ls H locs hl hw hf; cases hf
  | succ n ih =>
    intro x1 x2 x3  h r ls H locs hl hw hf
    rw [f_X11_findPressed_L2] at hf
    refine lv_iload_n hx hb dX11_findPressed_2 rfl (lv_at hl 3 rfl) ?_
    refine lv_aload_n hx hb dX11_findPressed_3 rfl (lv_at hl 0 rfl) ?_
    refine z_getr (o := 70) (o2 := 71) (C := RX11) (T := TX11) (N := 11) (ci := 9) (k := 0) hx hb Z hw (by decide) (by omega) rfl inX11 (by decide) rfl wd875 dX11_findPressed_4 ?_
    refine lv_bipush (v := (45 : Int32)) hx hb dX11_findPressed_7 (by decide) ?_
    refine y_iald (o := 71) (k := 45) hx hb Z hw (by decide) (by omega) (by decide) (inB_vp (by decide)) dX11_findPressed_9 ?_
    refine lv_icmp_ge (tgt := 53) hx hb dX11_findPressed_10 (by decide) (fun c10 => ?_) (fun c10 => ?_)
    · have hf := (if_pos c10).symm.trans hf
      refine lv_bipush (v := (-5 : Int32)) hx hb dX11_findPressed_53 (by decide) ?_
      obtain rfl := Option.some.inj hf
      exact z_iret hx hb hr hlk hw dX11_findPressed_55
    · have hf := (if_neg c10).symm.trans hf
      refine lv_aload_n hx hb dX11_findPressed_13 rfl (lv_at hl 0 rfl) ?_
      refine z_getr (o := 70) (o2 := 71) (C := RX11) (T := TX11) (N := 11) (ci := 9) (k := 0) hx hb Z hw (by decide) (by omega) rfl inX11 (by decide) rfl wd875 dX11_findPressed_14 ?_
      refine lv_bipush (v := (46 : Int32)) hx hb dX11_findPressed_17 (by decide) ?_
      refine lv_iconst (v := (3 : Int32)) hx hb dX11_findPressed_19 (by decide) ?_
      refine lv_iload_n hx hb dX11_findPressed_20 rfl (lv_at hl 3 rfl) ?_
      refine lv_imul hx hb dX11_findPressed_21 ?_
      refine lv_iadd hx hb dX11_findPressed_22 ?_
      obtain ⟨h23, hf⟩ := gd_some hf
      refine y_iald (o := 71) (k := ((46 : Int32) + ((3 : Int32) * x3)).toNatClampNeg) hx hb Z hw (by decide) (by omega) rfl (inB_vp h23) dX11_findPressed_23 ?_
      refine lv_iload_n hx hb dX11_findPressed_24 rfl (lv_at hl 1 rfl) ?_
      refine lv_icmp_ne (tgt := 47) hx hb dX11_findPressed_25 (by decide) (fun c25 => ?_) (fun c25 => ?_)
      · have hf := (if_neg c25).symm.trans hf
        refine lv_iinc (v := x3 + (1 : Int32)) (lv' := [(3, _), (0, _), (1, _), (2, _)]) hx hb dX11_findPressed_47 hl (k := 3) rfl rfl (by decide) rfl (fun ls hl => ?_)
        refine lv_goto (tgt := 2) hx hb dX11_findPressed_50 (by decide) ?_
        exact ih x1 x2 (x3 + (1 : Int32)) h r ls H locs (lv_sub hl [1, 2, 3, 0] rfl) hw hf
      · have hf := (if_pos c25).symm.trans hf
        refine lv_aload_n hx hb dX11_findPressed_28 rfl (lv_at hl 0 rfl) ?_
        refine z_getr (o := 70) (o2 := 71) (C := RX11) (T := TX11) (N := 11) (ci := 9) (k := 0) hx hb Z hw (by decide) (by omega) rfl inX11 (by decide) rfl wd875 dX11_findPressed_29 ?_
        refine lv_bipush (v := (46 : Int32)) hx hb dX11_findPressed_32 (by decide) ?_
        refine lv_iconst (v := (3 : Int32)) hx hb dX11_findPressed_34 (by decide) ?_
        refine lv_iload_n hx hb dX11_findPressed_35 rfl (lv_at hl 3 rfl) ?_
        refine lv_imul hx hb dX11_findPressed_36 ?_
        refine lv_iadd hx hb dX11_findPressed_37 ?_
        refine lv_iconst (v := (1 : Int32)) hx hb dX11_findPressed_38 (by decide) ?_
        refine lv_iadd hx hb dX11_findPressed_39 ?_
        obtain ⟨h40, hf⟩ := gd_some hf
        refine y_iald (o := 71) (k := (((46 : Int32) + ((3 : Int32) * x3)) + (1 : Int32)).toNatClampNeg) hx hb Z hw (by decide) (by omega) rfl (inB_vp h40) dX11_findPressed_40 ?_
        refine lv_iload_n hx hb dX11_findPressed_41 rfl (lv_at hl 2 rfl) ?_
        refine lv_icmp_ne (tgt := 47) hx hb dX11_findPressed_42 (by decide) (fun c42 => ?_) (fun c42 => ?_)
        · have hf := (if_neg c42).symm.trans hf
          refine lv_iinc (v := x3 + (1 : Int32)) (lv' := [(3, _), (0, _), (1, _), (2, _)]) hx hb dX11_findPressed_47 hl (k := 3) rfl rfl (by decide) rfl (fun ls hl => ?_)
          refine lv_goto (tgt := 2) hx hb dX11_findPressed_50 (by decide) ?_
          exact ih x1 x2 (x3 + (1 : Int32)) h r ls H locs (lv_sub hl [1, 2, 3, 0] rfl) hw hf
        · have hf := (if_pos c42).symm.trans hf
          refine lv_iload_n hx hb dX11_findPressed_45 rfl (lv_at hl 3 rfl) ?_
          obtain rfl := Option.some.inj hf
          exact z_iret hx hb hr hlk hw dX11_findPressed_46
set_option maxHeartbeats 4000000 in
set_option maxRecDepth 100000 in
theorem t_X11_findPressed (G : GM) (l : Launch) (hN : 77 ≤ gN G) (x1 : Int32) (x2 : Int32) (h : HP) {r : Int32} (hf : f_X11_findPressed x1 x2 h = some r) : MC G l yX11_findPressed cX11_findPressed 4 (some .int) 0 [.ref (ra G 70), .int x1, .int x2] h h (some (.int r)) := by
  unfold f_X11_findPressed at hf
  refine z_start (by decide) (Nat.le_of_ble_eq_true rfl) ?_
  intro p e s m args below meth c ls hx hb hr hlk hml Z hw hl
  have Z : ZK G s args m RX11 := Z
  have hl : lv_has ls 4 [(0, .ref (ra G 70)), (1, .int x1), (2, .int x2)] := hl
  obtain ⟨H, hH⟩ : ∃ H, H = s.heap := ⟨_, rfl⟩
  rw [← hH] at hw ⊢
  obtain ⟨locs, hlc⟩ : ∃ locs : List Loc, locs = [] := ⟨_, rfl⟩
  rw [← hlc] at hw ⊢
  refine lv_iconst (v := (0 : Int32)) hx hb dX11_findPressed_0 (by decide) ?_
  refine lv_istore_n (lv' := [(3, _), (0, _), (1, _), (2, _)]) hx hb dX11_findPressed_1 rfl hl (by decide) rfl (fun ls hl => ?_)
  exact w_X11_findPressed_L2 G l hN  hx hb hr hlk hml Z FU x1 x2 (0 : Int32) h _ ls H locs (lv_sub hl [1, 2, 3, 0] rfl) hw hf
set_option maxHeartbeats 4000000 in
set_option maxRecDepth 100000 in
theorem t_X11_atFirst (G : GM) (l : Launch) (hN : 77 ≤ gN G) (x0 : Int32) (x1 : Int32) (h : HP) : MC G l yX11_atFirst cX11_atFirst 2 (some .int) 0 [.int x0, .int x1] h h (some (.int (f_X11_atFirst x0 x1 h))) := by
  generalize hf : f_X11_atFirst x0 x1 h = r
  unfold f_X11_atFirst at hf
  refine z_start (by decide) (Nat.le_of_ble_eq_true rfl) ?_
  intro p e s m args below meth c ls hx hb hr hlk hml Z hw hl
  have Z : ZK G s args m RX11 := Z
  have hl : lv_has ls 2 [(0, .int x0), (1, .int x1)] := hl
  obtain ⟨H, hH⟩ : ∃ H, H = s.heap := ⟨_, rfl⟩
  rw [← hH] at hw ⊢
  obtain ⟨locs, hlc⟩ : ∃ locs : List Loc, locs = [] := ⟨_, rfl⟩
  rw [← hlc] at hw ⊢
  refine lv_bipush (v := (7 : Int32)) hx hb dX11_atFirst_0 (by decide) ?_
  refine lv_iload_n hx hb dX11_atFirst_2 rfl (lv_at hl 0 rfl) ?_
  refine lv_imul hx hb dX11_atFirst_3 ?_
  refine lv_iconst (v := (3 : Int32)) hx hb dX11_atFirst_4 (by decide) ?_
  refine lv_iload_n hx hb dX11_atFirst_5 rfl (lv_at hl 1 rfl) ?_
  refine lv_imul hx hb dX11_atFirst_6 ?_
  refine lv_iadd hx hb dX11_atFirst_7 ?_
  refine lv_bipush (v := (16 : Int32)) hx hb dX11_atFirst_8 (by decide) ?_
  refine z_irem hx hb dX11_atFirst_10 (by decide) ?_
  obtain rfl := hf
  exact z_iret hx hb hr hlk hw dX11_atFirst_11
set_option maxHeartbeats 4000000 in
set_option maxRecDepth 100000 in
theorem t_X11_dataSymbol (G : GM) (l : Launch) (hN : 77 ≤ gN G) (x1 : Int32) (x2 : Int32) (h : HP) {r : Int32} (hf : f_X11_dataSymbol x1 x2 h = some r) : MC G l yX11_dataSymbol cX11_dataSymbol 4 (some .int) 1 [.ref (ra G 70), .int x1, .int x2] h h (some (.int r)) := by
  unfold f_X11_dataSymbol at hf
  refine z_start (by decide) (Nat.le_of_ble_eq_true rfl) ?_
  intro p e s m args below meth c ls hx hb hr hlk hml Z hw hl
  have Z : ZK G s args m RX11 := Z
  have hl : lv_has ls 4 [(0, .ref (ra G 70)), (1, .int x1), (2, .int x2)] := hl
  obtain ⟨H, hH⟩ : ∃ H, H = s.heap := ⟨_, rfl⟩
  rw [← hH] at hw ⊢
  obtain ⟨locs, hlc⟩ : ∃ locs : List Loc, locs = [] := ⟨_, rfl⟩
  rw [← hlc] at hw ⊢
  refine lv_aload_n hx hb dX11_dataSymbol_0 rfl (lv_at hl 0 rfl) ?_
  refine lv_iload_n hx hb dX11_dataSymbol_1 rfl (lv_at hl 1 rfl) ?_
  refine lv_iload_n hx hb dX11_dataSymbol_2 rfl (lv_at hl 2 rfl) ?_
  obtain ⟨q3, hq3, hf⟩ := ob_some hf
  refine z_callVi (o := 70) (ci := 9) (As := [.int x1, .int x2]) (rest := []) (t_X11_findPressed G l hN x1 x2 h hq3) cv_X11_findPressed hx hb hml hl.1 Z hw (by decide) (by decide) (by omega) rfl rfl wd944 rfl rfl (Nat.le_of_ble_eq_true rfl) (by decide) dX11_dataSymbol_3 (fun H locs hw => ?_)
  refine lv_istore_n (lv' := [(3, _), (0, _), (1, _), (2, _)]) hx hb dX11_dataSymbol_6 rfl hl (by decide) rfl (fun ls hl => ?_)
  refine lv_iload_n hx hb dX11_dataSymbol_7 rfl (lv_at hl 0 rfl) ?_
  refine lv_bipush (v := (-5 : Int32)) hx hb dX11_dataSymbol_8 (by decide) ?_
  refine lv_icmp_ne (tgt := 21) hx hb dX11_dataSymbol_10 (by decide) (fun c10 => ?_) (fun c10 => ?_)
  · have hf := (if_neg c10).symm.trans hf
    refine lv_aload_n hx hb dX11_dataSymbol_21 rfl (lv_at hl 1 rfl) ?_
    refine z_getr (o := 70) (o2 := 71) (C := RX11) (T := TX11) (N := 11) (ci := 9) (k := 0) hx hb Z hw (by decide) (by omega) rfl inX11 (by decide) rfl wd875 dX11_dataSymbol_22 ?_
    refine lv_bipush (v := (46 : Int32)) hx hb dX11_dataSymbol_25 (by decide) ?_
    refine lv_iconst (v := (3 : Int32)) hx hb dX11_dataSymbol_27 (by decide) ?_
    refine lv_iload_n hx hb dX11_dataSymbol_28 rfl (lv_at hl 0 rfl) ?_
    refine lv_imul hx hb dX11_dataSymbol_29 ?_
    refine lv_iadd hx hb dX11_dataSymbol_30 ?_
    refine lv_iconst (v := (2 : Int32)) hx hb dX11_dataSymbol_31 (by decide) ?_
    refine lv_iadd hx hb dX11_dataSymbol_32 ?_
    obtain ⟨h33, hf⟩ := gd_some hf
    refine y_iald (o := 71) (k := (((46 : Int32) + ((3 : Int32) * q3)) + (2 : Int32)).toNatClampNeg) hx hb Z hw (by decide) (by omega) rfl (inB_vp h33) dX11_dataSymbol_33 ?_
    obtain rfl := Option.some.inj hf
    exact z_iret hx hb hr hlk hw dX11_dataSymbol_34
  · have hf := (if_pos c10).symm.trans hf
    refine lv_iload_n hx hb dX11_dataSymbol_13 rfl (lv_at hl 2 rfl) ?_
    refine lv_iload_n hx hb dX11_dataSymbol_14 rfl (lv_at hl 3 rfl) ?_
    refine z_callSi (As := [.int x1, .int x2]) (rest := []) (t_X11_atFirst G l hN x1 x2 h) cs_X11_atFirst hx hb hml hl.1 Z hw wd948 rfl rfl (Nat.le_of_ble_eq_true rfl) (by decide) dX11_dataSymbol_15 (fun H locs hw => ?_)
    refine lv_goto (tgt := 34) hx hb dX11_dataSymbol_18 (by decide) ?_
    obtain rfl := Option.some.inj hf
    exact z_iret hx hb hr hlk hw dX11_dataSymbol_34
set_option maxHeartbeats 4000000 in
set_option maxRecDepth 100000 in
theorem w_X11_symbolOf_L19 (G : GM) (l : Launch) (hN : 77 ≤ gN G)  {p : Program} {e : Env} {s : State} {m : MethodId} {args : Array Value} {below : List Frame} {meth : Method} {c : Code} (hx : p.tables.exec = Jvm.exec) (hb : c.code = cX11_symbolOf) (hr : meth.sig.returnType = (some .int)) (hlk : meth.locks = false) (hml : c.maxLocals = 5) (Z : ZK G s args m RX11) : ∀ (n : Nat) (x1 : Int32) (x2 : Int32) (x3 : Int32) (x4 : Int32)  (h : HP)  (rv : Option Value) (hq : HP) (ls : Array Slot) (H : Heap) (locs : List Loc) {q : Int32}, lv_has ls 5 [(0, .ref (ra G 70)), (1, .int x1), (2, .int x2), (3, .int x3), (4, .int x4)] → HW G h s H locs → f_X11_symbolOf_L19 n x1 x2 x3 x4 h = some q → (∀ (ls : Array Slot) (H : Heap) (locs : List Loc), lv_has ls 5 [(3, .int q)] → HW G h s H locs → WZ p l e 2 s m args below meth c G rv hq H locs (F0 m 43 ls [])) → WZ p l e 2 s m args below meth c G rv hq H locs (F0 m 19 ls []) := by
  intro n
  induction n with
  | zero => intro x1 x2 x3 x4  h  rv hq ls H locs q hl hw hf kk; cases hf
  | succ n ih =>
    intro x1 x2 x3 x4  h  rv hq ls H locs q hl hw hf kk
    rw [f_X11_symbolOf_L19] at hf
    refine lv_iload hx hb dX11_symbolOf_19 (lv_at hl 4 rfl) ?_
    refine lv_iconst (v := (5 : Int32)) hx hb dX11_symbolOf_21 (by decide) ?_
    refine lv_icmp_ge (tgt := 43) hx hb dX11_symbolOf_22 (by decide) (fun c22 => ?_) (fun c22 => ?_)
    · have hf := (if_pos c22).symm.trans hf
      obtain rfl := Option.some.inj hf
      exact kk ls H locs (lv_sub hl [3] rfl) hw
    · have hf := (if_neg c22).symm.trans hf
      refine lv_iload_n hx hb dX11_symbolOf_25 rfl (lv_at hl 3 rfl) ?_
      refine lv_aload_n hx hb dX11_symbolOf_26 rfl (lv_at hl 0 rfl) ?_
      refine lv_iload_n hx hb dX11_symbolOf_27 rfl (lv_at hl 1 rfl) ?_
      refine lv_iload hx hb dX11_symbolOf_28 (lv_at hl 4 rfl) ?_
      refine lv_isub hx hb dX11_symbolOf_30 ?_
      refine lv_iload_n hx hb dX11_symbolOf_31 rfl (lv_at hl 2 rfl) ?_
      obtain ⟨q32, hq32, hf⟩ := ob_some hf
      refine z_callVi (o := 70) (ci := 9) (As := [.int (x1 - x4), .int x2]) (rest := [.int x3]) (t_X11_dataSymbol G l hN (x1 - x4) x2 h hq32) cv_X11_dataSymbol hx hb hml hl.1 Z hw (by decide) (by decide) (by omega) rfl rfl wd940 rfl rfl (Nat.le_of_ble_eq_true rfl) (by decide) dX11_symbolOf_32 (fun H locs hw => ?_)
      refine lv_iadd hx hb dX11_symbolOf_35 ?_
      refine lv_istore_n (lv' := [(3, _), (0, _), (1, _), (2, _), (4, _)]) hx hb dX11_symbolOf_36 rfl hl (by decide) rfl (fun ls hl => ?_)
      refine lv_iinc (v := x4 + (1 : Int32)) (lv' := [(4, _), (3, _), (0, _), (1, _), (2, _)]) hx hb dX11_symbolOf_37 hl (k := 4) rfl rfl (by decide) rfl (fun ls hl => ?_)
      refine lv_goto (tgt := 19) hx hb dX11_symbolOf_40 (by decide) ?_
      exact ih x1 x2 (x3 + q32) (x4 + (1 : Int32)) h  rv hq ls H locs (lv_sub hl [2, 3, 4, 1, 0] rfl) hw hf kk
set_option maxHeartbeats 4000000 in
set_option maxRecDepth 100000 in
theorem t_X11_symbolOf (G : GM) (l : Launch) (hN : 77 ≤ gN G) (x1 : Int32) (x2 : Int32) (h : HP) {r : Int32} (hf : f_X11_symbolOf x1 x2 h = some r) : MC G l yX11_symbolOf cX11_symbolOf 5 (some .int) 2 [.ref (ra G 70), .int x1, .int x2] h h (some (.int r)) := by
  unfold f_X11_symbolOf at hf
  refine z_start (by decide) (Nat.le_of_ble_eq_true rfl) ?_
  intro p e s m args below meth c ls hx hb hr hlk hml Z hw hl
  have Z : ZK G s args m RX11 := Z
  have hl : lv_has ls 5 [(0, .ref (ra G 70)), (1, .int x1), (2, .int x2)] := hl
  obtain ⟨H, hH⟩ : ∃ H, H = s.heap := ⟨_, rfl⟩
  rw [← hH] at hw ⊢
  obtain ⟨locs, hlc⟩ : ∃ locs : List Loc, locs = [] := ⟨_, rfl⟩
  rw [← hlc] at hw ⊢
  refine lv_iload_n hx hb dX11_symbolOf_0 rfl (lv_at hl 1 rfl) ?_
  refine z_callSi (As := [.int x1]) (rest := []) (t_X11_isCheck G l hN x1 h) cs_X11_isCheck hx hb hml hl.1 Z hw wd937 rfl rfl (Nat.le_of_ble_eq_true rfl) (by decide) dX11_symbolOf_1 (fun H locs hw => ?_)
  refine lv_if_ne (tgt := 14) hx hb dX11_symbolOf_4 (by decide) (fun c4 => ?_) (fun c4 => ?_)
  · have hf := (if_neg c4).symm.trans hf
    refine lv_iconst (v := (0 : Int32)) hx hb dX11_symbolOf_14 (by decide) ?_
    refine lv_istore_n (lv' := [(3, _), (0, _), (1, _), (2, _)]) hx hb dX11_symbolOf_15 rfl hl (by decide) rfl (fun ls hl => ?_)
    refine lv_iconst (v := (1 : Int32)) hx hb dX11_symbolOf_16 (by decide) ?_
    refine lv_istore (lv' := [(4, _), (3, _), (0, _), (1, _), (2, _)]) hx hb dX11_symbolOf_17 hl (by decide) rfl (fun ls hl => ?_)
    obtain ⟨q19, hq19, hf⟩ := ob_some hf
    refine w_X11_symbolOf_L19 G l hN  hx hb hr hlk hml Z FU x1 x2 (0 : Int32) (1 : Int32) h  _ _ ls H locs (lv_sub hl [2, 3, 4, 1, 0] rfl) hw hq19 (fun ls H locs hl hw => ?_)
    refine lv_iload_n hx hb dX11_symbolOf_43 rfl (lv_at hl 0 rfl) ?_
    refine lv_bipush (v := (16 : Int32)) hx hb dX11_symbolOf_44 (by decide) ?_
    refine z_irem hx hb dX11_symbolOf_46 (by decide) ?_
    obtain rfl := Option.some.inj hf
    exact z_iret hx hb hr hlk hw dX11_symbolOf_47
  · have hf := (if_pos c4).symm.trans hf
    refine lv_aload_n hx hb dX11_symbolOf_7 rfl (lv_at hl 0 rfl) ?_
    refine lv_iload_n hx hb dX11_symbolOf_8 rfl (lv_at hl 1 rfl) ?_
    refine lv_iload_n hx hb dX11_symbolOf_9 rfl (lv_at hl 2 rfl) ?_
    obtain ⟨q10, hq10, hf⟩ := ob_some hf
    refine z_callVi (o := 70) (ci := 9) (As := [.int x1, .int x2]) (rest := []) (t_X11_dataSymbol G l hN x1 x2 h hq10) cv_X11_dataSymbol hx hb hml hl.1 Z hw (by decide) (by decide) (by omega) rfl rfl wd940 rfl rfl (Nat.le_of_ble_eq_true rfl) (by decide) dX11_symbolOf_10 (fun H locs hw => ?_)
    obtain rfl := Option.some.inj hf
    exact z_iret hx hb hr hlk hw dX11_symbolOf_13
set_option maxHeartbeats 4000000 in
set_option maxRecDepth 100000 in
theorem t_X11_pit (G : GM) (l : Launch) (hN : 77 ≤ gN G) (x0 : Int32) (h : HP) : MC G l yX11_pit cX11_pit 1 (some .int) 0 [.int x0] h h (some (.int (f_X11_pit x0 h))) := by
  generalize hf : f_X11_pit x0 h = r
  unfold f_X11_pit at hf
  refine z_start (by decide) (Nat.le_of_ble_eq_true rfl) ?_
  intro p e s m args below meth c ls hx hb hr hlk hml Z hw hl
  have Z : ZK G s args m RX11 := Z
  have hl : lv_has ls 1 [(0, .int x0)] := hl
  obtain ⟨H, hH⟩ : ∃ H, H = s.heap := ⟨_, rfl⟩
  rw [← hH] at hw ⊢
  obtain ⟨locs, hlc⟩ : ∃ locs : List Loc, locs = [] := ⟨_, rfl⟩
  rw [← hlc] at hw ⊢
  refine lv_iconst (v := (3 : Int32)) hx hb dX11_pit_0 (by decide) ?_
  refine lv_iload_n hx hb dX11_pit_1 rfl (lv_at hl 0 rfl) ?_
  refine lv_iconst (v := (4 : Int32)) hx hb dX11_pit_2 (by decide) ?_
  refine lv_idiv hx hb dX11_pit_3 (by decide) ?_
  refine lv_iadd hx hb dX11_pit_4 ?_
  obtain rfl := hf
  exact z_iret hx hb hr hlk hw dX11_pit_5
set_option maxHeartbeats 4000000 in
set_option maxRecDepth 100000 in
theorem t_X11_flat (G : GM) (l : Launch) (hN : 77 ≤ gN G) (x0 : Int32) (h : HP) : MC G l yX11_flat cX11_flat 1 (some .int) 0 [.int x0] h h (some (.int (f_X11_flat x0 h))) := by
  generalize hf : f_X11_flat x0 h = r
  unfold f_X11_flat at hf
  refine z_start (by decide) (Nat.le_of_ble_eq_true rfl) ?_
  intro p e s m args below meth c ls hx hb hr hlk hml Z hw hl
  have Z : ZK G s args m RX11 := Z
  have hl : lv_has ls 1 [(0, .int x0)] := hl
  obtain ⟨H, hH⟩ : ∃ H, H = s.heap := ⟨_, rfl⟩
  rw [← hH] at hw ⊢
  obtain ⟨locs, hlc⟩ : ∃ locs : List Loc, locs = [] := ⟨_, rfl⟩
  rw [← hlc] at hw ⊢
  refine lv_iconst (v := (3 : Int32)) hx hb dX11_flat_0 (by decide) ?_
  refine lv_iload_n hx hb dX11_flat_1 rfl (lv_at hl 0 rfl) ?_
  refine lv_iconst (v := (4 : Int32)) hx hb dX11_flat_2 (by decide) ?_
  refine z_irem hx hb dX11_flat_3 (by decide) ?_
  refine lv_iadd hx hb dX11_flat_4 ?_
  obtain rfl := hf
  exact z_iret hx hb hr hlk hw dX11_flat_5
set_option maxHeartbeats 4000000 in
set_option maxRecDepth 100000 in
theorem w_X11_pits_L4 (G : GM) (l : Launch) (hN : 77 ≤ gN G)  {p : Program} {e : Env} {s : State} {m : MethodId} {args : Array Value} {below : List Frame} {meth : Method} {c : Code} (hx : p.tables.exec = Jvm.exec) (hb : c.code = cX11_pits) (hr : meth.sig.returnType = (some .int)) (hlk : meth.locks = false) (hml : c.maxLocals = 4) (Z : ZK G s args m RX11) : ∀ (n : Nat) (x1 : Int32) (x2 : Int32) (x3 : Int32)  (h : HP)  (rv : Option Value) (hq : HP) (ls : Array Slot) (H : Heap) (locs : List Loc) {q : Int32}, lv_has ls 4 [(0, .ref (ra G 70)), (1, .int x1), (2, .int x2), (3, .int x3)] → HW G h s H locs → f_X11_pits_L4 n x1 x2 x3 h = some q → (∀ (ls : Array Slot) (H : Heap) (locs : List Loc), lv_has ls 4 [(2, .int q)] → HW G h s H locs → WZ p l e 3 s m args below meth c G rv hq H locs (F0 m 27 ls [])) → WZ p l e 3 s m args below meth c G rv hq H locs (F0 m 4 ls []) := by
  intro n
  induction n with
  | zero => intro x1 x2 x3  h  rv hq ls H locs q hl hw hf kk; cases hf
  | succ n ih =>
    intro x1 x2 x3  h  rv hq ls H locs q hl hw hf kk
    rw [f_X11_pits_L4] at hf
    refine lv_iload_n hx hb dX11_pits_4 rfl (lv_at hl 3 rfl) ?_
    refine lv_iconst (v := (4 : Int32)) hx hb dX11_pits_5 (by decide) ?_
    refine lv_icmp_ge (tgt := 27) hx hb dX11_pits_6 (by decide) (fun c6 => ?_) (fun c6 => ?_)
    · have hf := (if_pos c6).symm.trans hf
      obtain rfl := Option.some.inj hf
      exact kk ls H locs (lv_sub hl [2] rfl) hw
    · have hf := (if_neg c6).symm.trans hf
      refine lv_iload_n hx hb dX11_pits_9 rfl (lv_at hl 2 rfl) ?_
      refine lv_aload_n hx hb dX11_pits_10 rfl (lv_at hl 0 rfl) ?_
      refine lv_iload_n hx hb dX11_pits_11 rfl (lv_at hl 1 rfl) ?_
      refine lv_iload_n hx hb dX11_pits_12 rfl (lv_at hl 3 rfl) ?_
      obtain ⟨q13, hq13, hf⟩ := ob_some hf
      refine z_callVi (o := 70) (ci := 9) (As := [.int x1, .int x3]) (rest := [.int x2]) (t_X11_symbolOf G l hN x1 x3 h hq13) cv_X11_symbolOf hx hb hml hl.1 Z hw (by decide) (by decide) (by omega) rfl rfl wd1119 rfl rfl (Nat.le_of_ble_eq_true rfl) (by decide) dX11_pits_13 (fun H locs hw => ?_)
      refine z_callSi (As := [.int q13]) (rest := [.int x2]) (t_X11_pit G l hN q13 h) cs_X11_pit hx hb hml hl.1 Z hw wd1123 rfl rfl (Nat.le_of_ble_eq_true rfl) (by decide) dX11_pits_16 (fun H locs hw => ?_)
      refine lv_iadd hx hb dX11_pits_19 ?_
      refine lv_istore_n (lv' := [(2, _), (0, _), (1, _), (3, _)]) hx hb dX11_pits_20 rfl hl (by decide) rfl (fun ls hl => ?_)
      refine lv_iinc (v := x3 + (1 : Int32)) (lv' := [(3, _), (2, _), (0, _), (1, _)]) hx hb dX11_pits_21 hl (k := 3) rfl rfl (by decide) rfl (fun ls hl => ?_)
      refine lv_goto (tgt := 4) hx hb dX11_pits_24 (by decide) ?_
      exact ih x1 (x2 + (f_X11_pit q13 h)) (x3 + (1 : Int32)) h  rv hq ls H locs (lv_sub hl [2, 3, 1, 0] rfl) hw hf kk
set_option maxHeartbeats 4000000 in
set_option maxRecDepth 100000 in
theorem t_X11_pits (G : GM) (l : Launch) (hN : 77 ≤ gN G) (x1 : Int32) (h : HP) {r : Int32} (hf : f_X11_pits x1 h = some r) : MC G l yX11_pits cX11_pits 4 (some .int) 3 [.ref (ra G 70), .int x1] h h (some (.int r)) := by
  unfold f_X11_pits at hf
  refine z_start (by decide) (Nat.le_of_ble_eq_true rfl) ?_
  intro p e s m args below meth c ls hx hb hr hlk hml Z hw hl
  have Z : ZK G s args m RX11 := Z
  have hl : lv_has ls 4 [(0, .ref (ra G 70)), (1, .int x1)] := hl
  obtain ⟨H, hH⟩ : ∃ H, H = s.heap := ⟨_, rfl⟩
  rw [← hH] at hw ⊢
  obtain ⟨locs, hlc⟩ : ∃ locs : List Loc, locs = [] := ⟨_, rfl⟩
  rw [← hlc] at hw ⊢
  refine lv_iconst (v := (0 : Int32)) hx hb dX11_pits_0 (by decide) ?_
  refine lv_istore_n (lv' := [(2, _), (0, _), (1, _)]) hx hb dX11_pits_1 rfl hl (by decide) rfl (fun ls hl => ?_)
  refine lv_iconst (v := (0 : Int32)) hx hb dX11_pits_2 (by decide) ?_
  refine lv_istore_n (lv' := [(3, _), (2, _), (0, _), (1, _)]) hx hb dX11_pits_3 rfl hl (by decide) rfl (fun ls hl => ?_)
  obtain ⟨q4, hq4, hf⟩ := ob_some hf
  refine w_X11_pits_L4 G l hN  hx hb hr hlk hml Z FU x1 (0 : Int32) (0 : Int32) h  _ _ ls H locs (lv_sub hl [2, 3, 1, 0] rfl) hw hq4 (fun ls H locs hl hw => ?_)
  refine lv_iload_n hx hb dX11_pits_27 rfl (lv_at hl 0 rfl) ?_
  obtain rfl := Option.some.inj hf
  exact z_iret hx hb hr hlk hw dX11_pits_28
set_option maxHeartbeats 4000000 in
set_option maxRecDepth 100000 in
theorem w_X11_flats_L4 (G : GM) (l : Launch) (hN : 77 ≤ gN G)  {p : Program} {e : Env} {s : State} {m : MethodId} {args : Array Value} {below : List Frame} {meth : Method} {c : Code} (hx : p.tables.exec = Jvm.exec) (hb : c.code = cX11_flats) (hr : meth.sig.returnType = (some .int)) (hlk : meth.locks = false) (hml : c.maxLocals = 4) (Z : ZK G s args m RX11) : ∀ (n : Nat) (x1 : Int32) (x2 : Int32) (x3 : Int32)  (h : HP)  (rv : Option Value) (hq : HP) (ls : Array Slot) (H : Heap) (locs : List Loc) {q : Int32}, lv_has ls 4 [(0, .ref (ra G 70)), (1, .int x1), (2, .int x2), (3, .int x3)] → HW G h s H locs → f_X11_flats_L4 n x1 x2 x3 h = some q → (∀ (ls : Array Slot) (H : Heap) (locs : List Loc), lv_has ls 4 [(2, .int q)] → HW G h s H locs → WZ p l e 3 s m args below meth c G rv hq H locs (F0 m 27 ls [])) → WZ p l e 3 s m args below meth c G rv hq H locs (F0 m 4 ls []) := by
  intro n
  induction n with
  | zero => intro x1 x2 x3  h  rv hq ls H locs q hl hw hf kk; cases hf
  | succ n ih =>
    intro x1 x2 x3  h  rv hq ls H locs q hl hw hf kk
    rw [f_X11_flats_L4] at hf
    refine lv_iload_n hx hb dX11_flats_4 rfl (lv_at hl 3 rfl) ?_
    refine lv_iconst (v := (4 : Int32)) hx hb dX11_flats_5 (by decide) ?_
    refine lv_icmp_ge (tgt := 27) hx hb dX11_flats_6 (by decide) (fun c6 => ?_) (fun c6 => ?_)
    · have hf := (if_pos c6).symm.trans hf
      obtain rfl := Option.some.inj hf
      exact kk ls H locs (lv_sub hl [2] rfl) hw
    · have hf := (if_neg c6).symm.trans hf
      refine lv_iload_n hx hb dX11_flats_9 rfl (lv_at hl 2 rfl) ?_
      refine lv_aload_n hx hb dX11_flats_10 rfl (lv_at hl 0 rfl) ?_
      refine lv_iload_n hx hb dX11_flats_11 rfl (lv_at hl 1 rfl) ?_
      refine lv_iload_n hx hb dX11_flats_12 rfl (lv_at hl 3 rfl) ?_
      obtain ⟨q13, hq13, hf⟩ := ob_some hf
      refine z_callVi (o := 70) (ci := 9) (As := [.int x1, .int x3]) (rest := [.int x2]) (t_X11_symbolOf G l hN x1 x3 h hq13) cv_X11_symbolOf hx hb hml hl.1 Z hw (by decide) (by decide) (by omega) rfl rfl wd1119 rfl rfl (Nat.le_of_ble_eq_true rfl) (by decide) dX11_flats_13 (fun H locs hw => ?_)
      refine z_callSi (As := [.int q13]) (rest := [.int x2]) (t_X11_flat G l hN q13 h) cs_X11_flat hx hb hml hl.1 Z hw wd1130 rfl rfl (Nat.le_of_ble_eq_true rfl) (by decide) dX11_flats_16 (fun H locs hw => ?_)
      refine lv_iadd hx hb dX11_flats_19 ?_
      refine lv_istore_n (lv' := [(2, _), (0, _), (1, _), (3, _)]) hx hb dX11_flats_20 rfl hl (by decide) rfl (fun ls hl => ?_)
      refine lv_iinc (v := x3 + (1 : Int32)) (lv' := [(3, _), (2, _), (0, _), (1, _)]) hx hb dX11_flats_21 hl (k := 3) rfl rfl (by decide) rfl (fun ls hl => ?_)
      refine lv_goto (tgt := 4) hx hb dX11_flats_24 (by decide) ?_
      exact ih x1 (x2 + (f_X11_flat q13 h)) (x3 + (1 : Int32)) h  rv hq ls H locs (lv_sub hl [2, 3, 1, 0] rfl) hw hf kk
set_option maxHeartbeats 4000000 in
set_option maxRecDepth 100000 in
theorem t_X11_flats (G : GM) (l : Launch) (hN : 77 ≤ gN G) (x1 : Int32) (h : HP) {r : Int32} (hf : f_X11_flats x1 h = some r) : MC G l yX11_flats cX11_flats 4 (some .int) 3 [.ref (ra G 70), .int x1] h h (some (.int r)) := by
  unfold f_X11_flats at hf
  refine z_start (by decide) (Nat.le_of_ble_eq_true rfl) ?_
  intro p e s m args below meth c ls hx hb hr hlk hml Z hw hl
  have Z : ZK G s args m RX11 := Z
  have hl : lv_has ls 4 [(0, .ref (ra G 70)), (1, .int x1)] := hl
  obtain ⟨H, hH⟩ : ∃ H, H = s.heap := ⟨_, rfl⟩
  rw [← hH] at hw ⊢
  obtain ⟨locs, hlc⟩ : ∃ locs : List Loc, locs = [] := ⟨_, rfl⟩
  rw [← hlc] at hw ⊢
  refine lv_iconst (v := (0 : Int32)) hx hb dX11_flats_0 (by decide) ?_
  refine lv_istore_n (lv' := [(2, _), (0, _), (1, _)]) hx hb dX11_flats_1 rfl hl (by decide) rfl (fun ls hl => ?_)
  refine lv_iconst (v := (0 : Int32)) hx hb dX11_flats_2 (by decide) ?_
  refine lv_istore_n (lv' := [(3, _), (2, _), (0, _), (1, _)]) hx hb dX11_flats_3 rfl hl (by decide) rfl (fun ls hl => ?_)
  obtain ⟨q4, hq4, hf⟩ := ob_some hf
  refine w_X11_flats_L4 G l hN  hx hb hr hlk hml Z FU x1 (0 : Int32) (0 : Int32) h  _ _ ls H locs (lv_sub hl [2, 3, 1, 0] rfl) hw hq4 (fun ls H locs hl hw => ?_)
  refine lv_iload_n hx hb dX11_flats_27 rfl (lv_at hl 0 rfl) ?_
  obtain rfl := Option.some.inj hf
  exact z_iret hx hb hr hlk hw dX11_flats_28
set_option maxHeartbeats 4000000 in
set_option maxRecDepth 100000 in
theorem w_X11_longestRun_L4 (G : GM) (l : Launch) (hN : 77 ≤ gN G)  {p : Program} {e : Env} {s : State} {m : MethodId} {args : Array Value} {below : List Frame} {meth : Method} {c : Code} (hx : p.tables.exec = Jvm.exec) (hb : c.code = cX11_longestRun) (hr : meth.sig.returnType = (some .int)) (hlk : meth.locks = false) (hml : c.maxLocals = 5) (Z : ZK G s args m RX11) : ∀ (n : Nat) (x1 : Int32) (x2 : Int32) (x3 : Int32)  (h : HP)  (rv : Option Value) (hq : HP) (ls : Array Slot) (H : Heap) (locs : List Loc) {q : Int32}, lv_has ls 5 [(0, .ref (ra G 70)), (1, .int x1), (2, .int x2), (3, .int x3)] → HW G h s H locs → f_X11_longestRun_L4 n x1 x2 x3 h = some q → (∀ (ls : Array Slot) (H : Heap) (locs : List Loc), lv_has ls 5 [(2, .int q)] → HW G h s H locs → WZ p l e 3 s m args below meth c G rv hq H locs (F0 m 61 ls [])) → WZ p l e 3 s m args below meth c G rv hq H locs (F0 m 4 ls []) := by
  intro n
  induction n with
  | zero => intro x1 x2 x3  h  rv hq ls H locs q hl hw hf kk; cases hf
  | succ n ih =>
    intro x1 x2 x3  h  rv hq ls H locs q hl hw hf kk
    rw [f_X11_longestRun_L4] at hf
    refine lv_iload_n hx hb dX11_longestRun_4 rfl (lv_at hl 3 rfl) ?_
    refine lv_iconst (v := (4 : Int32)) hx hb dX11_longestRun_5 (by decide) ?_
    refine lv_icmp_ge (tgt := 61) hx hb dX11_longestRun_6 (by decide) (fun c6 => ?_) (fun c6 => ?_)
    · have hf := (if_pos c6).symm.trans hf
      obtain rfl := Option.some.inj hf
      exact kk ls H locs (lv_sub hl [2] rfl) hw
    · have hf := (if_neg c6).symm.trans hf
      refine lv_aload_n hx hb dX11_longestRun_9 rfl (lv_at hl 0 rfl) ?_
      refine lv_iload_n hx hb dX11_longestRun_10 rfl (lv_at hl 1 rfl) ?_
      refine lv_iload_n hx hb dX11_longestRun_11 rfl (lv_at hl 3 rfl) ?_
      obtain ⟨q12, hq12, hf⟩ := ob_some hf
      refine z_callVi (o := 70) (ci := 9) (As := [.int x1, .int x3]) (rest := []) (t_X11_symbolOf G l hN x1 x3 h hq12) cv_X11_symbolOf hx hb hml hl.1 Z hw (by decide) (by decide) (by omega) rfl rfl wd1119 rfl rfl (Nat.le_of_ble_eq_true rfl) (by decide) dX11_longestRun_12 (fun H locs hw => ?_)
      refine lv_istore (lv' := [(4, _), (0, _), (1, _), (2, _), (3, _)]) hx hb dX11_longestRun_15 hl (by decide) rfl (fun ls hl => ?_)
      refine lv_iload hx hb dX11_longestRun_17 (lv_at hl 0 rfl) ?_
      refine z_callSi (As := [.int q12]) (rest := []) (t_X11_pit G l hN q12 h) cs_X11_pit hx hb hml hl.1 Z hw wd1123 rfl rfl (Nat.le_of_ble_eq_true rfl) (by decide) dX11_longestRun_19 (fun H locs hw => ?_)
      refine lv_iload_n hx hb dX11_longestRun_22 rfl (lv_at hl 3 rfl) ?_
      have HJ35 : ∀ (ls : Array Slot) (H : Heap) (locs : List Loc), lv_has ls 5 [(0, .ref (ra G 70)), (1, .int x1), (3, .int x3), (4, .int q12)] → HW G h s H locs → WZ p l e 3 s m args below meth c G rv hq H locs (F0 m 35 ls [.int (if (f_X11_pit q12 h) ≤ x2 then x2 else (f_X11_pit q12 h))]) := by
        intro ls H locs hl hw
        obtain ⟨v35, hqv35, hf⟩ := tb_ex hf
        refine z_top hqv35 ?_
        refine lv_istore_n (lv' := [(2, _), (0, _), (1, _), (3, _), (4, _)]) hx hb dX11_longestRun_35 rfl hl (by decide) rfl (fun ls hl => ?_)
        refine lv_iload hx hb dX11_longestRun_36 (lv_at hl 4 rfl) ?_
        refine z_callSi (As := [.int q12]) (rest := []) (t_X11_flat G l hN q12 h) cs_X11_flat hx hb hml hl.1 Z hw wd1130 rfl rfl (Nat.le_of_ble_eq_true rfl) (by decide) dX11_longestRun_38 (fun H locs hw => ?_)
        refine lv_iload_n hx hb dX11_longestRun_41 rfl (lv_at hl 0 rfl) ?_
        have HJ54 : ∀ (ls : Array Slot) (H : Heap) (locs : List Loc), lv_has ls 5 [(0, .ref (ra G 70)), (1, .int x1), (3, .int x3)] → HW G h s H locs → WZ p l e 3 s m args below meth c G rv hq H locs (F0 m 54 ls [.int (if (f_X11_flat q12 h) ≤ v35 then v35 else (f_X11_flat q12 h))]) := by
          intro ls H locs hl hw
          obtain ⟨v54, hqv54, hf⟩ := tb_ex hf
          refine z_top hqv54 ?_
          refine lv_istore_n (lv' := [(2, _), (0, _), (1, _), (3, _)]) hx hb dX11_longestRun_54 rfl hl (by decide) rfl (fun ls hl => ?_)
          refine lv_iinc (v := x3 + (1 : Int32)) (lv' := [(3, _), (2, _), (0, _), (1, _)]) hx hb dX11_longestRun_55 hl (k := 3) rfl rfl (by decide) rfl (fun ls hl => ?_)
          refine lv_goto (tgt := 4) hx hb dX11_longestRun_58 (by decide) ?_
          exact ih x1 v54 (x3 + (1 : Int32)) h  rv hq ls H locs (lv_sub hl [2, 3, 1, 0] rfl) hw hf kk
        refine lv_icmp_le (tgt := 53) hx hb dX11_longestRun_42 (by decide) (fun c42 => ?_) (fun c42 => ?_)
        · skip
          refine lv_iload_n hx hb dX11_longestRun_53 rfl (lv_at hl 0 rfl) ?_
          refine W.eq (g2 := F0 m 54 ls [.int (if (f_X11_flat q12 h) ≤ v35 then v35 else (f_X11_flat q12 h))]) ?_ (HJ54 ls H locs (lv_sub hl [1, 2, 3] rfl) hw)
          simp only [if_pos c42]
        · skip
          refine lv_iload hx hb dX11_longestRun_45 (lv_at hl 4 rfl) ?_
          refine z_callSi (As := [.int q12]) (rest := []) (t_X11_flat G l hN q12 h) cs_X11_flat hx hb hml hl.1 Z hw wd1130 rfl rfl (Nat.le_of_ble_eq_true rfl) (by decide) dX11_longestRun_47 (fun H locs hw => ?_)
          refine lv_goto (tgt := 54) hx hb dX11_longestRun_50 (by decide) ?_
          refine W.eq (g2 := F0 m 54 ls [.int (if (f_X11_flat q12 h) ≤ v35 then v35 else (f_X11_flat q12 h))]) ?_ (HJ54 ls H locs (lv_sub hl [1, 2, 3] rfl) hw)
          simp only [if_neg c42]
      refine lv_icmp_le (tgt := 34) hx hb dX11_longestRun_23 (by decide) (fun c23 => ?_) (fun c23 => ?_)
      · skip
        refine lv_iload_n hx hb dX11_longestRun_34 rfl (lv_at hl 3 rfl) ?_
        refine W.eq (g2 := F0 m 35 ls [.int (if (f_X11_pit q12 h) ≤ x2 then x2 else (f_X11_pit q12 h))]) ?_ (HJ35 ls H locs (lv_sub hl [1, 2, 4, 0] rfl) hw)
        simp only [if_pos c23]
      · skip
        refine lv_iload hx hb dX11_longestRun_26 (lv_at hl 0 rfl) ?_
        refine z_callSi (As := [.int q12]) (rest := []) (t_X11_pit G l hN q12 h) cs_X11_pit hx hb hml hl.1 Z hw wd1123 rfl rfl (Nat.le_of_ble_eq_true rfl) (by decide) dX11_longestRun_28 (fun H locs hw => ?_)
        refine lv_goto (tgt := 35) hx hb dX11_longestRun_31 (by decide) ?_
        refine W.eq (g2 := F0 m 35 ls [.int (if (f_X11_pit q12 h) ≤ x2 then x2 else (f_X11_pit q12 h))]) ?_ (HJ35 ls H locs (lv_sub hl [1, 2, 4, 0] rfl) hw)
        simp only [if_neg c23]
set_option maxHeartbeats 4000000 in
set_option maxRecDepth 100000 in
theorem t_X11_longestRun (G : GM) (l : Launch) (hN : 77 ≤ gN G) (x1 : Int32) (h : HP) {r : Int32} (hf : f_X11_longestRun x1 h = some r) : MC G l yX11_longestRun cX11_longestRun 5 (some .int) 3 [.ref (ra G 70), .int x1] h h (some (.int r)) := by
  unfold f_X11_longestRun at hf
  refine z_start (by decide) (Nat.le_of_ble_eq_true rfl) ?_
  intro p e s m args below meth c ls hx hb hr hlk hml Z hw hl
  have Z : ZK G s args m RX11 := Z
  have hl : lv_has ls 5 [(0, .ref (ra G 70)), (1, .int x1)] := hl
  obtain ⟨H, hH⟩ : ∃ H, H = s.heap := ⟨_, rfl⟩
  rw [← hH] at hw ⊢
  obtain ⟨locs, hlc⟩ : ∃ locs : List Loc, locs = [] := ⟨_, rfl⟩
  rw [← hlc] at hw ⊢
  refine lv_iconst (v := (0 : Int32)) hx hb dX11_longestRun_0 (by decide) ?_
  refine lv_istore_n (lv' := [(2, _), (0, _), (1, _)]) hx hb dX11_longestRun_1 rfl hl (by decide) rfl (fun ls hl => ?_)
  refine lv_iconst (v := (0 : Int32)) hx hb dX11_longestRun_2 (by decide) ?_
  refine lv_istore_n (lv' := [(3, _), (2, _), (0, _), (1, _)]) hx hb dX11_longestRun_3 rfl hl (by decide) rfl (fun ls hl => ?_)
  obtain ⟨q4, hq4, hf⟩ := ob_some hf
  refine w_X11_longestRun_L4 G l hN  hx hb hr hlk hml Z FU x1 (0 : Int32) (0 : Int32) h  _ _ ls H locs (lv_sub hl [2, 3, 1, 0] rfl) hw hq4 (fun ls H locs hl hw => ?_)
  refine lv_iload_n hx hb dX11_longestRun_61 rfl (lv_at hl 0 rfl) ?_
  obtain rfl := Option.some.inj hf
  exact z_iret hx hb hr hlk hw dX11_longestRun_62
set_option maxHeartbeats 4000000 in
set_option maxRecDepth 100000 in
theorem t_X11_damages (G : GM) (l : Launch) (hN : 77 ≤ gN G) (x1 : Int32) (x2 : Int32) (x3 : Int32) (h : HP) {r : Int32} (hf : f_X11_damages x1 x2 x3 h = some r) : MC G l yX11_damages cX11_damages 6 (some .boolean) 1 [.ref (ra G 70), .int x1, .int x2, .int x3] h h (some (.int r)) := by
  unfold f_X11_damages at hf
  refine z_start (by decide) (Nat.le_of_ble_eq_true rfl) ?_
  intro p e s m args below meth c ls hx hb hr hlk hml Z hw hl
  have Z : ZK G s args m RX11 := Z
  have hl : lv_has ls 6 [(0, .ref (ra G 70)), (1, .int x1), (2, .int x2), (3, .int x3)] := hl
  obtain ⟨H, hH⟩ : ∃ H, H = s.heap := ⟨_, rfl⟩
  rw [← hH] at hw ⊢
  obtain ⟨locs, hlc⟩ : ∃ locs : List Loc, locs = [] := ⟨_, rfl⟩
  rw [← hlc] at hw ⊢
  refine lv_bipush (v := (13 : Int32)) hx hb dX11_damages_0 (by decide) ?_
  refine lv_iconst (v := (4 : Int32)) hx hb dX11_damages_2 (by decide) ?_
  refine lv_iload_n hx hb dX11_damages_3 rfl (lv_at hl 1 rfl) ?_
  refine lv_imul hx hb dX11_damages_4 ?_
  refine lv_iadd hx hb dX11_damages_5 ?_
  refine lv_istore (lv' := [(4, _), (0, _), (1, _), (2, _), (3, _)]) hx hb dX11_damages_6 hl (by decide) rfl (fun ls hl => ?_)
  refine lv_aload_n hx hb dX11_damages_8 rfl (lv_at hl 1 rfl) ?_
  refine lv_iload_n hx hb dX11_damages_9 rfl (lv_at hl 3 rfl) ?_
  refine z_callVi (o := 70) (ci := 9) (As := [.int x2]) (rest := []) (t_X11_framesOf G l hN x2 h) cv_X11_framesOf hx hb hml hl.1 Z hw (by decide) (by decide) (by omega) rfl rfl wd975 rfl rfl (Nat.le_of_ble_eq_true rfl) (by decide) dX11_damages_10 (fun H locs hw => ?_)
  refine lv_istore (lv' := [(5, _), (4, _), (0, _), (1, _), (2, _), (3, _)]) hx hb dX11_damages_13 hl (by decide) rfl (fun ls hl => ?_)
  refine lv_iload_n hx hb dX11_damages_15 rfl (lv_at hl 4 rfl) ?_
  refine lv_aload_n hx hb dX11_damages_16 rfl (lv_at hl 2 rfl) ?_
  refine z_getr (o := 70) (o2 := 71) (C := RX11) (T := TX11) (N := 11) (ci := 9) (k := 0) hx hb Z hw (by decide) (by omega) rfl inX11 (by decide) rfl wd875 dX11_damages_17 ?_
  refine lv_iload hx hb dX11_damages_20 (lv_at hl 1 rfl) ?_
  refine lv_iconst (v := (2 : Int32)) hx hb dX11_damages_22 (by decide) ?_
  refine lv_iadd hx hb dX11_damages_23 ?_
  obtain ⟨h24, hf⟩ := gd_some hf
  refine y_iald (o := 71) (k := (((13 : Int32) + ((4 : Int32) * x1)) + (2 : Int32)).toNatClampNeg) hx hb Z hw (by decide) (by omega) rfl (inB_vp h24) dX11_damages_24 ?_
  refine lv_aload_n hx hb dX11_damages_25 rfl (lv_at hl 2 rfl) ?_
  refine z_getr (o := 70) (o2 := 71) (C := RX11) (T := TX11) (N := 11) (ci := 9) (k := 0) hx hb Z hw (by decide) (by omega) rfl inX11 (by decide) rfl wd875 dX11_damages_26 ?_
  refine lv_iload hx hb dX11_damages_29 (lv_at hl 1 rfl) ?_
  refine lv_iconst (v := (3 : Int32)) hx hb dX11_damages_31 (by decide) ?_
  refine lv_iadd hx hb dX11_damages_32 ?_
  obtain ⟨h33, hf⟩ := gd_some hf
  refine y_iald (o := 71) (k := (((13 : Int32) + ((4 : Int32) * x1)) + (3 : Int32)).toNatClampNeg) hx hb Z hw (by decide) (by omega) rfl (inB_vp h33) dX11_damages_33 ?_
  refine z_callSi (As := [.int x2, .int (h 71 (((13 : Int32) + ((4 : Int32) * x1)) + (2 : Int32)).toNatClampNeg), .int (h 71 (((13 : Int32) + ((4 : Int32) * x1)) + (3 : Int32)).toNatClampNeg)]) (rest := []) (t_X11_in G l hN x2 (h 71 (((13 : Int32) + ((4 : Int32) * x1)) + (2 : Int32)).toNatClampNeg) (h 71 (((13 : Int32) + ((4 : Int32) * x1)) + (3 : Int32)).toNatClampNeg) h) cs_X11_in hx hb hml hl.1 Z hw wd934 rfl rfl (Nat.le_of_ble_eq_true rfl) (by decide) dX11_damages_34 (fun H locs hw => ?_)
  refine lv_if_eq (tgt := 86) hx hb dX11_damages_37 (by decide) (fun c37 => ?_) (fun c37 => ?_)
  · have hf := (if_pos c37).symm.trans hf
    refine lv_iconst (v := (0 : Int32)) hx hb dX11_damages_86 (by decide) ?_
    obtain rfl := Option.some.inj hf
    exact z_zret hx hb hr rfl hlk hw dX11_damages_87
  · have hf := (if_neg c37).symm.trans hf
    refine lv_sipush (v := (360 : Int32)) hx hb dX11_damages_40 (by decide) ?_
    refine lv_iload_n hx hb dX11_damages_43 rfl (lv_at hl 5 rfl) ?_
    refine lv_imul hx hb dX11_damages_44 ?_
    refine lv_aload_n hx hb dX11_damages_45 rfl (lv_at hl 2 rfl) ?_
    refine z_getr (o := 70) (o2 := 71) (C := RX11) (T := TX11) (N := 11) (ci := 9) (k := 0) hx hb Z hw (by decide) (by omega) rfl inX11 (by decide) rfl wd875 dX11_damages_46 ?_
    refine lv_iload hx hb dX11_damages_49 (lv_at hl 1 rfl) ?_
    refine lv_iconst (v := (1 : Int32)) hx hb dX11_damages_51 (by decide) ?_
    refine lv_iadd hx hb dX11_damages_52 ?_
    obtain ⟨h53, hf⟩ := gd_some hf
    refine y_iald (o := 71) (k := (((13 : Int32) + ((4 : Int32) * x1)) + (1 : Int32)).toNatClampNeg) hx hb Z hw (by decide) (by omega) rfl (inB_vp h53) dX11_damages_53 ?_
    refine lv_iconst (v := (1 : Int32)) hx hb dX11_damages_54 (by decide) ?_
    refine lv_iadd hx hb dX11_damages_55 ?_
    refine lv_iload hx hb dX11_damages_56 (lv_at hl 0 rfl) ?_
    refine lv_imul hx hb dX11_damages_58 ?_
    refine lv_icmp_ge (tgt := 86) hx hb dX11_damages_59 (by decide) (fun c59 => ?_) (fun c59 => ?_)
    · have hf := (if_pos c59).symm.trans hf
      refine lv_iconst (v := (0 : Int32)) hx hb dX11_damages_86 (by decide) ?_
      obtain rfl := Option.some.inj hf
      exact z_zret hx hb hr rfl hlk hw dX11_damages_87
    · have hf := (if_neg c59).symm.trans hf
      refine lv_aload_n hx hb dX11_damages_62 rfl (lv_at hl 2 rfl) ?_
      refine z_getr (o := 70) (o2 := 71) (C := RX11) (T := TX11) (N := 11) (ci := 9) (k := 0) hx hb Z hw (by decide) (by omega) rfl inX11 (by decide) rfl wd875 dX11_damages_63 ?_
      refine lv_iload hx hb dX11_damages_66 (lv_at hl 1 rfl) ?_
      obtain ⟨h68, hf⟩ := gd_some hf
      refine y_iald (o := 71) (k := ((13 : Int32) + ((4 : Int32) * x1)).toNatClampNeg) hx hb Z hw (by decide) (by omega) rfl (inB_vp h68) dX11_damages_68 ?_
      refine lv_iload hx hb dX11_damages_69 (lv_at hl 0 rfl) ?_
      refine lv_imul hx hb dX11_damages_71 ?_
      refine lv_sipush (v := (360 : Int32)) hx hb dX11_damages_72 (by decide) ?_
      refine lv_iload_n hx hb dX11_damages_75 rfl (lv_at hl 5 rfl) ?_
      refine lv_iconst (v := (1 : Int32)) hx hb dX11_damages_76 (by decide) ?_
      refine lv_iadd hx hb dX11_damages_77 ?_
      refine lv_imul hx hb dX11_damages_78 ?_
      refine lv_icmp_ge (tgt := 86) hx hb dX11_damages_79 (by decide) (fun c79 => ?_) (fun c79 => ?_)
      · have hf := (if_pos c79).symm.trans hf
        refine lv_iconst (v := (0 : Int32)) hx hb dX11_damages_86 (by decide) ?_
        obtain rfl := Option.some.inj hf
        exact z_zret hx hb hr rfl hlk hw dX11_damages_87
      · have hf := (if_neg c79).symm.trans hf
        refine lv_iconst (v := (1 : Int32)) hx hb dX11_damages_82 (by decide) ?_
        refine lv_goto (tgt := 87) hx hb dX11_damages_83 (by decide) ?_
        obtain rfl := Option.some.inj hf
        exact z_zret hx hb hr rfl hlk hw dX11_damages_87
set_option maxHeartbeats 4000000 in
set_option maxRecDepth 100000 in
theorem w_X11_lay_L25 (G : GM) (l : Launch) (hN : 77 ≤ gN G)  {p : Program} {e : Env} {s : State} {m : MethodId} {args : Array Value} {below : List Frame} {meth : Method} {c : Code} (hx : p.tables.exec = Jvm.exec) (hb : c.code = cX11_lay) (hr : meth.sig.returnType = none) (hlk : meth.locks = false) (hml : c.maxLocals = 6) (Z : ZK G s args m RX11) : ∀ (n : Nat) (x1 : Int32) (x2 : Int32) (x3 : Int32) (x4 : Int32) (x5 : Int32)  (h : HP)  (rv : Option Value) (hq : HP) (ls : Array Slot) (H : Heap) (locs : List Loc) {q : Int32}, lv_has ls 6 [(0, .ref (ra G 70)), (1, .int x1), (2, .int x2), (3, .int x3), (4, .int x4), (5, .int x5)] → HW G h s H locs → f_X11_lay_L25 n x1 x2 x3 x4 x5 h = some q → (∀ (ls : Array Slot) (H : Heap) (locs : List Loc), lv_has ls 6 [(0, .ref (ra G 70)), (1, .int x1), (2, .int x2), (3, .int x3), (4, .int q)] → HW G h s H locs → WZ p l e 2 s m args below meth c G rv hq H locs (F0 m 72 ls [])) → WZ p l e 2 s m args below meth c G rv hq H locs (F0 m 25 ls []) := by
  intro n
  induction n with
  | zero => intro x1 x2 x3 x4 x5  h  rv hq ls H locs q hl hw hf kk; cases hf
  | succ n ih =>
    intro x1 x2 x3 x4 x5  h  rv hq ls H locs q hl hw hf kk
    rw [f_X11_lay_L25] at hf
    refine lv_iload hx hb dX11_lay_25 (lv_at hl 5 rfl) ?_
    refine lv_aload_n hx hb dX11_lay_27 rfl (lv_at hl 0 rfl) ?_
    refine z_getr (o := 70) (o2 := 71) (C := RX11) (T := TX11) (N := 11) (ci := 9) (k := 0) hx hb Z hw (by decide) (by omega) rfl inX11 (by decide) rfl wd875 dX11_lay_28 ?_
    refine lv_bipush (v := (12 : Int32)) hx hb dX11_lay_31 (by decide) ?_
    refine y_iald (o := 71) (k := 12) hx hb Z hw (by decide) (by omega) (by decide) (inB_vp (by decide)) dX11_lay_33 ?_
    refine lv_icmp_ge (tgt := 72) hx hb dX11_lay_34 (by decide) (fun c34 => ?_) (fun c34 => ?_)
    · have hf := (if_pos c34).symm.trans hf
      obtain rfl := Option.some.inj hf
      exact kk ls H locs (lv_sub hl [0, 1, 2, 3, 4] rfl) hw
    · have hf := (if_neg c34).symm.trans hf
      refine lv_iload hx hb dX11_lay_37 (lv_at hl 4 rfl) ?_
      obtain ⟨j39, hqj39, hf⟩ := ob_some hf
      have HJ64 : ∀ (ls : Array Slot) (H : Heap) (locs : List Loc), lv_has ls 6 [(0, .ref (ra G 70)), (1, .int x1), (2, .int x2), (3, .int x3), (5, .int x5)] → HW G h s H locs → WZ p l e 2 s m args below meth c G rv hq H locs (F0 m 64 ls [.int j39]) := by
        intro ls H locs hl hw
        refine lv_istore (lv' := [(4, _), (0, _), (1, _), (2, _), (3, _), (5, _)]) hx hb dX11_lay_64 hl (by decide) rfl (fun ls hl => ?_)
        refine lv_iinc (v := x5 + (1 : Int32)) (lv' := [(5, _), (4, _), (0, _), (1, _), (2, _), (3, _)]) hx hb dX11_lay_66 hl (k := 5) rfl rfl (by decide) rfl (fun ls hl => ?_)
        refine lv_goto (tgt := 25) hx hb dX11_lay_69 (by decide) ?_
        exact ih x1 x2 x3 j39 (x5 + (1 : Int32)) h  rv hq ls H locs (lv_sub hl [2, 3, 4, 5, 1, 0] rfl) hw hf kk
      have hf := hqj39
      refine lv_if_ne (tgt := 59) hx hb dX11_lay_39 (by decide) (fun c39 => ?_) (fun c39 => ?_)
      · have hf := (if_neg c39).symm.trans hf
        refine lv_iconst (v := (1 : Int32)) hx hb dX11_lay_59 (by decide) ?_
        refine lv_goto (tgt := 64) hx hb dX11_lay_60 (by decide) ?_
        obtain rfl := Option.some.inj hf
        exact HJ64 ls H locs (lv_sub hl [0, 1, 2, 3, 5] rfl) hw
      · have hf := (if_pos c39).symm.trans hf
        refine lv_iload hx hb dX11_lay_42 (lv_at hl 5 rfl) ?_
        refine lv_iload_n hx hb dX11_lay_44 rfl (lv_at hl 1 rfl) ?_
        refine lv_icmp_eq (tgt := 63) hx hb dX11_lay_45 (by decide) (fun c45 => ?_) (fun c45 => ?_)
        · have hf := (if_pos c45).symm.trans hf
          refine lv_iconst (v := (0 : Int32)) hx hb dX11_lay_63 (by decide) ?_
          obtain rfl := Option.some.inj hf
          exact HJ64 ls H locs (lv_sub hl [0, 1, 2, 3, 5] rfl) hw
        · have hf := (if_neg c45).symm.trans hf
          refine lv_aload_n hx hb dX11_lay_48 rfl (lv_at hl 0 rfl) ?_
          refine lv_iload hx hb dX11_lay_49 (lv_at hl 5 rfl) ?_
          refine lv_iload_n hx hb dX11_lay_51 rfl (lv_at hl 2 rfl) ?_
          refine lv_iload_n hx hb dX11_lay_52 rfl (lv_at hl 3 rfl) ?_
          obtain ⟨q53, hq53, hf⟩ := ob_some hf
          refine z_callVi (o := 70) (ci := 9) (As := [.int x5, .int x2, .int x3]) (rest := []) (t_X11_damages G l hN x5 x2 x3 h hq53) cv_X11_damages hx hb hml hl.1 Z hw (by decide) (by decide) (by omega) rfl rfl wd979 rfl rfl (Nat.le_of_ble_eq_true rfl) (by decide) dX11_lay_53 (fun H locs hw => ?_)
          refine lv_if_eq (tgt := 63) hx hb dX11_lay_56 (by decide) (fun c56 => ?_) (fun c56 => ?_)
          · have hf := (if_pos c56).symm.trans hf
            refine lv_iconst (v := (0 : Int32)) hx hb dX11_lay_63 (by decide) ?_
            obtain rfl := Option.some.inj hf
            exact HJ64 ls H locs (lv_sub hl [0, 1, 2, 3, 5] rfl) hw
          · have hf := (if_neg c56).symm.trans hf
            refine lv_iconst (v := (1 : Int32)) hx hb dX11_lay_59 (by decide) ?_
            refine lv_goto (tgt := 64) hx hb dX11_lay_60 (by decide) ?_
            obtain rfl := Option.some.inj hf
            exact HJ64 ls H locs (lv_sub hl [0, 1, 2, 3, 5] rfl) hw
set_option maxHeartbeats 4000000 in
set_option maxRecDepth 100000 in
theorem w_X11_lay_L10 (G : GM) (l : Launch) (hN : 77 ≤ gN G)  {p : Program} {e : Env} {s : State} {m : MethodId} {args : Array Value} {below : List Frame} {meth : Method} {c : Code} (hx : p.tables.exec = Jvm.exec) (hb : c.code = cX11_lay) (hr : meth.sig.returnType = none) (hlk : meth.locks = false) (hml : c.maxLocals = 6) (Z : ZK G s args m RX11) : ∀ (n : Nat) (x1 : Int32) (x2 : Int32) (x3 : Int32)  (h : HP)  (rv : Option Value) (hq : HP) (ls : Array Slot) (H : Heap) (locs : List Loc) {q : HP}, lv_has ls 6 [(0, .ref (ra G 70)), (1, .int x1), (2, .int x2), (3, .int x3)] → HW G h s H locs → f_X11_lay_L10 n x1 x2 x3 h = some q → (∀ (ls : Array Slot) (H : Heap) (locs : List Loc), lv_has ls 6 [(0, .ref (ra G 70)), (1, .int x1), (2, .int x2)] → HW G q s H locs → WZ p l e 2 s m args below meth c G rv hq H locs (F0 m 92 ls [])) → WZ p l e 2 s m args below meth c G rv hq H locs (F0 m 10 ls []) := by
  intro n
  induction n with
  | zero => intro x1 x2 x3  h  rv hq ls H locs q hl hw hf kk; cases hf
  | succ n ih =>
    intro x1 x2 x3  h  rv hq ls H locs q hl hw hf kk
    rw [f_X11_lay_L10] at hf
    refine lv_iload_n hx hb dX11_lay_10 rfl (lv_at hl 3 rfl) ?_
    refine lv_aload_n hx hb dX11_lay_11 rfl (lv_at hl 0 rfl) ?_
    refine lv_iload_n hx hb dX11_lay_12 rfl (lv_at hl 2 rfl) ?_
    refine z_callVi (o := 70) (ci := 9) (As := [.int x2]) (rest := [.int x3]) (t_X11_framesOf G l hN x2 h) cv_X11_framesOf hx hb hml hl.1 Z hw (by decide) (by decide) (by omega) rfl rfl wd975 rfl rfl (Nat.le_of_ble_eq_true rfl) (by decide) dX11_lay_13 (fun H locs hw => ?_)
    refine lv_icmp_ge (tgt := 92) hx hb dX11_lay_16 (by decide) (fun c16 => ?_) (fun c16 => ?_)
    · have hf := (if_pos c16).symm.trans hf
      obtain rfl := Option.some.inj hf
      exact kk ls H locs (lv_sub hl [0, 1, 2] rfl) hw
    · have hf := (if_neg c16).symm.trans hf
      refine lv_iconst (v := (0 : Int32)) hx hb dX11_lay_19 (by decide) ?_
      refine lv_istore (lv' := [(4, _), (0, _), (1, _), (2, _), (3, _)]) hx hb dX11_lay_20 hl (by decide) rfl (fun ls hl => ?_)
      refine lv_iconst (v := (0 : Int32)) hx hb dX11_lay_22 (by decide) ?_
      refine lv_istore (lv' := [(5, _), (4, _), (0, _), (1, _), (2, _), (3, _)]) hx hb dX11_lay_23 hl (by decide) rfl (fun ls hl => ?_)
      obtain ⟨q25, hq25, hf⟩ := ob_some hf
      refine w_X11_lay_L25 G l hN  hx hb hr hlk hml Z FU x1 x2 x3 (0 : Int32) (0 : Int32) h  _ _ ls H locs (lv_sub hl [2, 3, 4, 5, 1, 0] rfl) hw hq25 (fun ls H locs hl hw => ?_)
      refine lv_aload_n hx hb dX11_lay_72 rfl (lv_at hl 0 rfl) ?_
      refine z_getr (o := 70) (o2 := 76) (C := RX11) (T := TX11) (N := 11) (ci := 9) (k := 8) hx hb Z hw (by decide) (by omega) rfl inX11 (by decide) rfl wd883 dX11_lay_73 ?_
      refine lv_aload_n hx hb dX11_lay_76 rfl (lv_at hl 0 rfl) ?_
      refine lv_iload_n hx hb dX11_lay_77 rfl (lv_at hl 2 rfl) ?_
      refine z_callVi (o := 70) (ci := 9) (As := [.int x2]) (rest := [.ref (ra G 76)]) (t_X11_start G l hN x2 h) cv_X11_start hx hb hml hl.1 Z hw (by decide) (by decide) (by omega) rfl rfl wd930 rfl rfl (Nat.le_of_ble_eq_true rfl) (by decide) dX11_lay_78 (fun H locs hw => ?_)
      refine lv_iload_n hx hb dX11_lay_81 rfl (lv_at hl 3 rfl) ?_
      refine lv_iadd hx hb dX11_lay_82 ?_
      refine lv_iload hx hb dX11_lay_83 (lv_at hl 4 rfl) ?_
      obtain ⟨h85, hf⟩ := gd_some hf
      refine y_zast (o := 76) (k := ((f_X11_start x2 h) + x3).toNatClampNeg) hx hb Z hw (by decide) (by omega) rfl (inB_vp h85) dX11_lay_85 (fun H locs hw => ?_)
      refine lv_iinc (v := x3 + (1 : Int32)) (lv' := [(3, _), (0, _), (1, _), (2, _), (4, _)]) hx hb dX11_lay_86 hl (k := 3) rfl rfl (by decide) rfl (fun ls hl => ?_)
      refine lv_goto (tgt := 10) hx hb dX11_lay_89 (by decide) ?_
      exact ih x1 x2 (x3 + (1 : Int32)) (hset h 76 ((f_X11_start x2 h) + x3).toNatClampNeg (vp_nar .boolean q25))  rv hq ls H locs (lv_sub hl [1, 2, 3, 0] rfl) hw hf kk
set_option maxHeartbeats 4000000 in
set_option maxRecDepth 100000 in
theorem w_X11_lay_L2 (G : GM) (l : Launch) (hN : 77 ≤ gN G)  {p : Program} {e : Env} {s : State} {m : MethodId} {args : Array Value} {below : List Frame} {meth : Method} {c : Code} (hx : p.tables.exec = Jvm.exec) (hb : c.code = cX11_lay) (hr : meth.sig.returnType = none) (hlk : meth.locks = false) (hml : c.maxLocals = 6) (Z : ZK G s args m RX11) : ∀ (n : Nat) (x1 : Int32) (x2 : Int32)  (h : HP)  (rv : Option Value) (hq : HP) (ls : Array Slot) (H : Heap) (locs : List Loc) {q : HP}, lv_has ls 6 [(0, .ref (ra G 70)), (1, .int x1), (2, .int x2)] → HW G h s H locs → f_X11_lay_L2 n x1 x2 h = some q → (∀ (ls : Array Slot) (H : Heap) (locs : List Loc), lv_has ls 6 [] → HW G q s H locs → WZ p l e 2 s m args below meth c G rv hq H locs (F0 m 98 ls [])) → WZ p l e 2 s m args below meth c G rv hq H locs (F0 m 2 ls []) := by
  intro n
  induction n with
  | zero => intro x1 x2  h  rv hq ls H locs q hl hw hf kk; cases hf
  | succ n ih =>
    intro x1 x2  h  rv hq ls H locs q hl hw hf kk
    rw [f_X11_lay_L2] at hf
    refine lv_iload_n hx hb dX11_lay_2 rfl (lv_at hl 2 rfl) ?_
    refine lv_bipush (v := (30 : Int32)) hx hb dX11_lay_3 (by decide) ?_
    refine lv_icmp_ge (tgt := 98) hx hb dX11_lay_5 (by decide) (fun c5 => ?_) (fun c5 => ?_)
    · have hf := (if_pos c5).symm.trans hf
      obtain rfl := Option.some.inj hf
      exact kk ls H locs (lv_sub hl [] rfl) hw
    · have hf := (if_neg c5).symm.trans hf
      refine lv_iconst (v := (0 : Int32)) hx hb dX11_lay_8 (by decide) ?_
      refine lv_istore_n (lv' := [(3, _), (0, _), (1, _), (2, _)]) hx hb dX11_lay_9 rfl hl (by decide) rfl (fun ls hl => ?_)
      obtain ⟨q10, hq10, hf⟩ := ob_some hf
      refine w_X11_lay_L10 G l hN  hx hb hr hlk hml Z FU x1 x2 (0 : Int32) h  _ _ ls H locs (lv_sub hl [1, 2, 3, 0] rfl) hw hq10 (fun ls H locs hl hw => ?_)
      refine lv_iinc (v := x2 + (1 : Int32)) (lv' := [(2, _), (0, _), (1, _)]) hx hb dX11_lay_92 hl (k := 2) rfl rfl (by decide) rfl (fun ls hl => ?_)
      refine lv_goto (tgt := 2) hx hb dX11_lay_95 (by decide) ?_
      exact ih x1 (x2 + (1 : Int32)) q10  rv hq ls H locs (lv_sub hl [1, 2, 0] rfl) hw hf kk
set_option maxHeartbeats 4000000 in
set_option maxRecDepth 100000 in
theorem t_X11_lay (G : GM) (l : Launch) (hN : 77 ≤ gN G) (x1 : Int32) (h : HP) {h' : HP} (hf : f_X11_lay x1 h = some h') : MC G l yX11_lay cX11_lay 6 none 2 [.ref (ra G 70), .int x1] h h' none := by
  unfold f_X11_lay at hf
  refine z_start (by decide) (Nat.le_of_ble_eq_true rfl) ?_
  intro p e s m args below meth c ls hx hb hr hlk hml Z hw hl
  have Z : ZK G s args m RX11 := Z
  have hl : lv_has ls 6 [(0, .ref (ra G 70)), (1, .int x1)] := hl
  obtain ⟨H, hH⟩ : ∃ H, H = s.heap := ⟨_, rfl⟩
  rw [← hH] at hw ⊢
  obtain ⟨locs, hlc⟩ : ∃ locs : List Loc, locs = [] := ⟨_, rfl⟩
  rw [← hlc] at hw ⊢
  refine lv_iconst (v := (0 : Int32)) hx hb dX11_lay_0 (by decide) ?_
  refine lv_istore_n (lv' := [(2, _), (0, _), (1, _)]) hx hb dX11_lay_1 rfl hl (by decide) rfl (fun ls hl => ?_)
  obtain ⟨q2, hq2, hf⟩ := ob_some hf
  refine w_X11_lay_L2 G l hN  hx hb hr hlk hml Z FU x1 (0 : Int32) h  _ _ ls H locs (lv_sub hl [1, 2, 0] rfl) hw hq2 (fun ls H locs hl hw => ?_)
  obtain rfl := Option.some.inj hf
  exact z_vret hx hb hr hlk hw dX11_lay_98
set_option maxHeartbeats 4000000 in
set_option maxRecDepth 100000 in
theorem w_X11_damaged_L10 (G : GM) (l : Launch) (hN : 77 ≤ gN G)  {p : Program} {e : Env} {s : State} {m : MethodId} {args : Array Value} {below : List Frame} {meth : Method} {c : Code} (hx : p.tables.exec = Jvm.exec) (hb : c.code = cX11_damaged) (hr : meth.sig.returnType = (some .int)) (hlk : meth.locks = false) (hml : c.maxLocals = 3) (Z : ZK G s args m RX11) : ∀ (n : Nat) (x1 : Int32) (x2 : Int32)  (h : HP)  (rv : Option Value) (hq : HP) (ls : Array Slot) (H : Heap) (locs : List Loc) {q : Int32}, lv_has ls 3 [(0, .ref (ra G 70)), (1, .int x1), (2, .int x2)] → HW G h s H locs → f_X11_damaged_L10 n x1 x2 h = some q → (∀ (ls : Array Slot) (H : Heap) (locs : List Loc), lv_has ls 3 [(1, .int q)] → HW G h s H locs → WZ p l e 3 s m args below meth c G rv hq H locs (F0 m 41 ls [])) → WZ p l e 3 s m args below meth c G rv hq H locs (F0 m 10 ls []) := by
  intro n
  induction n with
  | zero => intro x1 x2  h  rv hq ls H locs q hl hw hf kk; cases hf
  | succ n ih =>
    intro x1 x2  h  rv hq ls H locs q hl hw hf kk
    rw [f_X11_damaged_L10] at hf
    refine lv_iload_n hx hb dX11_damaged_10 rfl (lv_at hl 2 rfl) ?_
    refine lv_aload_n hx hb dX11_damaged_11 rfl (lv_at hl 0 rfl) ?_
    refine z_callVi (o := 70) (ci := 9) (As := []) (rest := [.int x2]) (t_X11_frames G l hN  h) cv_X11_frames hx hb hml hl.1 Z hw (by decide) (by decide) (by omega) rfl rfl wd926 rfl rfl (Nat.le_of_ble_eq_true rfl) (by decide) dX11_damaged_12 (fun H locs hw => ?_)
    refine lv_icmp_ge (tgt := 41) hx hb dX11_damaged_15 (by decide) (fun c15 => ?_) (fun c15 => ?_)
    · have hf := (if_pos c15).symm.trans hf
      obtain rfl := Option.some.inj hf
      exact kk ls H locs (lv_sub hl [1] rfl) hw
    · have hf := (if_neg c15).symm.trans hf
      refine lv_iload_n hx hb dX11_damaged_18 rfl (lv_at hl 1 rfl) ?_
      refine lv_aload_n hx hb dX11_damaged_19 rfl (lv_at hl 0 rfl) ?_
      refine z_getr (o := 70) (o2 := 76) (C := RX11) (T := TX11) (N := 11) (ci := 9) (k := 8) hx hb Z hw (by decide) (by omega) rfl inX11 (by decide) rfl wd883 dX11_damaged_20 ?_
      refine lv_iload_n hx hb dX11_damaged_23 rfl (lv_at hl 2 rfl) ?_
      obtain ⟨h24, hf⟩ := gd_some hf
      refine y_zald (o := 76) (k := x2.toNatClampNeg) hx hb Z hw (by decide) (by omega) rfl (inB_vp h24) dX11_damaged_24 ?_
      have HJ33 : ∀ (ls : Array Slot) (H : Heap) (locs : List Loc), lv_has ls 3 [(0, .ref (ra G 70)), (2, .int x2)] → HW G h s H locs → WZ p l e 3 s m args below meth c G rv hq H locs (F0 m 33 ls [.int (if (h 76 x2.toNatClampNeg) = 0 then (0 : Int32) else (1 : Int32)), .int x1]) := by
        intro ls H locs hl hw
        refine lv_iadd hx hb dX11_damaged_33 ?_
        obtain ⟨v34, hqv34, hf⟩ := tb_ex hf
        refine z_top hqv34 ?_
        refine lv_istore_n (lv' := [(1, _), (0, _), (2, _)]) hx hb dX11_damaged_34 rfl hl (by decide) rfl (fun ls hl => ?_)
        refine lv_iinc (v := x2 + (1 : Int32)) (lv' := [(2, _), (1, _), (0, _)]) hx hb dX11_damaged_35 hl (k := 2) rfl rfl (by decide) rfl (fun ls hl => ?_)
        refine lv_goto (tgt := 10) hx hb dX11_damaged_38 (by decide) ?_
        exact ih v34 (x2 + (1 : Int32)) h  rv hq ls H locs (lv_sub hl [2, 1, 0] rfl) hw hf kk
      refine lv_if_eq (tgt := 32) hx hb dX11_damaged_25 (by decide) (fun c25 => ?_) (fun c25 => ?_)
      · skip
        refine lv_iconst (v := (0 : Int32)) hx hb dX11_damaged_32 (by decide) ?_
        refine W.eq (g2 := F0 m 33 ls [.int (if (h 76 x2.toNatClampNeg) = 0 then (0 : Int32) else (1 : Int32)), .int x1]) ?_ (HJ33 ls H locs (lv_sub hl [0, 2] rfl) hw)
        simp only [if_pos c25]
      · skip
        refine lv_iconst (v := (1 : Int32)) hx hb dX11_damaged_28 (by decide) ?_
        refine lv_goto (tgt := 33) hx hb dX11_damaged_29 (by decide) ?_
        refine W.eq (g2 := F0 m 33 ls [.int (if (h 76 x2.toNatClampNeg) = 0 then (0 : Int32) else (1 : Int32)), .int x1]) ?_ (HJ33 ls H locs (lv_sub hl [0, 2] rfl) hw)
        simp only [if_neg c25]
set_option maxHeartbeats 4000000 in
set_option maxRecDepth 100000 in
theorem t_X11_damaged (G : GM) (l : Launch) (hN : 77 ≤ gN G)  (h : HP) {r : Int32} {h' : HP} (hf : f_X11_damaged  h = some (r, h')) : MC G l yX11_damaged cX11_damaged 3 (some .int) 3 [.ref (ra G 70)] h h' (some (.int r)) := by
  unfold f_X11_damaged at hf
  refine z_start (by decide) (Nat.le_of_ble_eq_true rfl) ?_
  intro p e s m args below meth c ls hx hb hr hlk hml Z hw hl
  have Z : ZK G s args m RX11 := Z
  have hl : lv_has ls 3 [(0, .ref (ra G 70))] := hl
  obtain ⟨H, hH⟩ : ∃ H, H = s.heap := ⟨_, rfl⟩
  rw [← hH] at hw ⊢
  obtain ⟨locs, hlc⟩ : ∃ locs : List Loc, locs = [] := ⟨_, rfl⟩
  rw [← hlc] at hw ⊢
  refine lv_aload_n hx hb dX11_damaged_0 rfl (lv_at hl 0 rfl) ?_
  refine lv_bipush (v := (-5 : Int32)) hx hb dX11_damaged_1 (by decide) ?_
  obtain ⟨q3, hq3, hf⟩ := ob_some hf
  refine z_callVv (o := 70) (ci := 9) (As := [.int (-5 : Int32)]) (rest := []) (t_X11_lay G l hN (-5 : Int32) h hq3) cv_X11_lay hx hb hml hl.1 Z hw (by decide) (by decide) (by omega) rfl rfl wd971 rfl rfl (Nat.le_of_ble_eq_true rfl) (by decide) dX11_damaged_3 (fun H locs hw => ?_)
  refine lv_iconst (v := (0 : Int32)) hx hb dX11_damaged_6 (by decide) ?_
  refine lv_istore_n (lv' := [(1, _), (0, _)]) hx hb dX11_damaged_7 rfl hl (by decide) rfl (fun ls hl => ?_)
  refine lv_iconst (v := (0 : Int32)) hx hb dX11_damaged_8 (by decide) ?_
  refine lv_istore_n (lv' := [(2, _), (1, _), (0, _)]) hx hb dX11_damaged_9 rfl hl (by decide) rfl (fun ls hl => ?_)
  obtain ⟨q10, hq10, hf⟩ := ob_some hf
  refine w_X11_damaged_L10 G l hN  hx hb hr hlk hml Z FU (0 : Int32) (0 : Int32) q3  _ _ ls H locs (lv_sub hl [2, 1, 0] rfl) hw hq10 (fun ls H locs hl hw => ?_)
  refine lv_iload_n hx hb dX11_damaged_41 rfl (lv_at hl 0 rfl) ?_
  obtain ⟨rfl, rfl⟩ := Prod.mk.inj (Option.some.inj hf)
  exact z_iret hx hb hr hlk hw dX11_damaged_42
