/-! walks (by program) -/
set_option maxHeartbeats 4000000 in
set_option maxRecDepth 100000 in
theorem w_X10_gap_L46 (G : GM) (l : Launch) (hN : 70 ≤ gN G)  {p : Program} {e : Env} {s : State} {m : MethodId} {args : Array Value} {below : List Frame} {meth : Method} {c : Code} (hx : p.tables.exec = Jvm.exec) (hb : c.code = cX10_gap) (hr : meth.sig.returnType = (some .int)) (hlk : meth.locks = false) (hml : c.maxLocals = 7) (Z : ZK G s args m RX10) : ∀ (n : Nat) (x2 : Int32) (x3 : Int32) (x4 : Int32) (x5 : Int32) (x6 : Int32)  (h : HP) (v1 : Int32) (rv : Option Value) (hq : HP) (ls : Array Slot) (H : Heap) (locs : List Loc) {q : Int32 × Int32}, lv_has ls 7 [(0, .ref (ra G 0)), (1, .int v1), (2, .int x2), (3, .int x3), (4, .int x4), (5, .int x5), (6, .int x6)] → HW G h s H locs → f_X10_gap_L46 n x2 x3 x4 x5 x6 h = some q → (∀ (ls : Array Slot) (H : Heap) (locs : List Loc), lv_has ls 7 [(1, .int v1), (2, .int q.1), (3, .int q.2)] → HW G h s H locs → WZ p l e 4 s m args below meth c G rv hq H locs (F0 m 99 ls [])) → WZ p l e 4 s m args below meth c G rv hq H locs (F0 m 46 ls []) := by
  intro n
  induction n with
  | zero => intro x2 x3 x4 x5 x6  h v1 rv hq ls H locs q hl hw hf kk; cases hf
  | succ n ih =>
    intro x2 x3 x4 x5 x6  h v1 rv hq ls H locs q hl hw hf kk
    rw [f_X10_gap_L46] at hf
    refine lv_iload hx hb dX10_gap_46 (lv_at hl 6 rfl) ?_
    refine lv_iload hx hb dX10_gap_48 (lv_at hl 5 rfl) ?_
    refine lv_icmp_ge (tgt := 99) hx hb dX10_gap_50 (by decide) (fun c50 => ?_) (fun c50 => ?_)
    · have hf := (if_pos c50).symm.trans hf
      obtain rfl := Option.some.inj hf
      exact kk ls H locs (lv_sub hl [1, 2, 3] rfl) hw
    · have hf := (if_neg c50).symm.trans hf
      refine lv_aload_n hx hb dX10_gap_53 rfl (lv_at hl 0 rfl) ?_
      refine z_getr (o := 0) (o2 := 63) (C := RX10) (T := TX10) (N := 8) (ci := 8) (k := 6) hx hb Z hw (by decide) (by omega) rfl inX10 (by decide) rfl wd239 dX10_gap_54 ?_
      refine lv_iload hx hb dX10_gap_57 (lv_at hl 6 rfl) ?_
      refine z_callVi (o := 63) (ci := 6) (As := [.int x6]) (rest := []) (t_X7_howIs G l hN x6 h) cv_X7_howIs hx hb hml hl.1 Z hw (by decide) (by decide) (by omega) rfl rfl wd582 rfl rfl (Nat.le_of_ble_eq_true rfl) (by decide) dX10_gap_59 (fun H locs hw => ?_)
      refine lv_iconst (v := (3 : Int32)) hx hb dX10_gap_62 (by decide) ?_
      have HJ74 : ∀ (ls : Array Slot) (H : Heap) (locs : List Loc), lv_has ls 7 [(0, .ref (ra G 0)), (1, .int v1), (2, .int x2), (3, .int x3), (5, .int x5), (6, .int x6)] → HW G h s H locs → WZ p l e 4 s m args below meth c G rv hq H locs (F0 m 74 ls [.int (if (f_X7_howIs x6 h) = (3 : Int32) then (x4 + (1 : Int32)) else (0 : Int32))]) := by
        intro ls H locs hl hw
        obtain ⟨v74, hqv74, hf⟩ := tb_ex hf
        refine z_top hqv74 ?_
        refine lv_istore (lv' := [(4, _), (0, _), (1, _), (2, _), (3, _), (5, _), (6, _)]) hx hb dX10_gap_74 hl (by decide) rfl (fun ls hl => ?_)
        refine lv_iload hx hb dX10_gap_76 (lv_at hl 0 rfl) ?_
        refine lv_iload_n hx hb dX10_gap_78 rfl (lv_at hl 3 rfl) ?_
        have HJ93 : ∀ (ls : Array Slot) (H : Heap) (locs : List Loc), lv_has ls 7 [(0, .ref (ra G 0)), (1, .int v1), (2, .int (if v74 ≤ x2 then x2 else v74)), (3, .int (if v74 ≤ x2 then x3 else ((x6 - v74) + (1 : Int32)))), (4, .int v74), (5, .int x5), (6, .int x6)] → HW G h s H locs → WZ p l e 4 s m args below meth c G rv hq H locs (F0 m 93 ls []) := by
          intro ls H locs hl hw
          refine lv_iinc (v := x6 + (1 : Int32)) (lv' := [(6, _), (0, _), (1, _), (2, _), (3, _), (4, _), (5, _)]) hx hb dX10_gap_93 hl (k := 6) rfl rfl (by decide) rfl (fun ls hl => ?_)
          refine lv_goto (tgt := 46) hx hb dX10_gap_96 (by decide) ?_
          exact ih (if v74 ≤ x2 then x2 else v74) (if v74 ≤ x2 then x3 else ((x6 - v74) + (1 : Int32))) v74 x5 (x6 + (1 : Int32)) h v1 rv hq ls H locs (lv_sub hl [1, 2, 3, 4, 5, 6, 0] rfl) hw hf kk
        refine lv_icmp_le (tgt := 93) hx hb dX10_gap_79 (by decide) (fun c79 => ?_) (fun c79 => ?_)
        · skip
          exact HJ93 ls H locs (by simp only [if_pos c79]; exact lv_sub hl [1, 2, 3, 4, 0, 5, 6] rfl) hw
        · skip
          refine lv_iload hx hb dX10_gap_82 (lv_at hl 0 rfl) ?_
          refine lv_istore_n (lv' := [(2, _), (4, _), (0, _), (1, _), (3, _), (5, _), (6, _)]) hx hb dX10_gap_84 rfl hl (by decide) rfl (fun ls hl => ?_)
          refine lv_iload hx hb dX10_gap_85 (lv_at hl 6 rfl) ?_
          refine lv_iload hx hb dX10_gap_87 (lv_at hl 1 rfl) ?_
          refine lv_isub hx hb dX10_gap_89 ?_
          refine lv_iconst (v := (1 : Int32)) hx hb dX10_gap_90 (by decide) ?_
          refine lv_iadd hx hb dX10_gap_91 ?_
          refine lv_istore_n (lv' := [(3, _), (2, _), (4, _), (0, _), (1, _), (5, _), (6, _)]) hx hb dX10_gap_92 rfl hl (by decide) rfl (fun ls hl => ?_)
          exact HJ93 ls H locs (by simp only [if_neg c79]; exact lv_sub hl [3, 4, 1, 0, 2, 5, 6] rfl) hw
      refine lv_icmp_ne (tgt := 73) hx hb dX10_gap_63 (by decide) (fun c63 => ?_) (fun c63 => ?_)
      · skip
        refine lv_iconst (v := (0 : Int32)) hx hb dX10_gap_73 (by decide) ?_
        refine W.eq (g2 := F0 m 74 ls [.int (if (f_X7_howIs x6 h) = (3 : Int32) then (x4 + (1 : Int32)) else (0 : Int32))]) ?_ (HJ74 ls H locs (lv_sub hl [0, 1, 2, 3, 5, 6] rfl) hw)
        simp only [if_neg c63]
      · skip
        refine lv_iload hx hb dX10_gap_66 (lv_at hl 4 rfl) ?_
        refine lv_iconst (v := (1 : Int32)) hx hb dX10_gap_68 (by decide) ?_
        refine lv_iadd hx hb dX10_gap_69 ?_
        refine lv_goto (tgt := 74) hx hb dX10_gap_70 (by decide) ?_
        refine W.eq (g2 := F0 m 74 ls [.int (if (f_X7_howIs x6 h) = (3 : Int32) then (x4 + (1 : Int32)) else (0 : Int32))]) ?_ (HJ74 ls H locs (lv_sub hl [0, 1, 2, 3, 5, 6] rfl) hw)
        simp only [if_pos c63]
set_option maxHeartbeats 4000000 in
set_option maxRecDepth 100000 in
theorem t_X10_gap (G : GM) (l : Launch) (hN : 70 ≤ gN G) (x1 : Int32) (h : HP) {r : Int32} {h' : HP} (hf : f_X10_gap x1 h = some (r, h')) : MC G l yX10_gap cX10_gap 7 (some .int) 4 [.ref (ra G 0), .int x1] h h' (some (.int r)) := by
  unfold f_X10_gap at hf
  refine z_start (by decide) (Nat.le_of_ble_eq_true rfl) ?_
  intro p e s m args below meth c ls hx hb hr hlk hml Z hw hl
  have Z : ZK G s args m RX10 := Z
  have hl : lv_has ls 7 [(0, .ref (ra G 0)), (1, .int x1)] := hl
  obtain ⟨H, hH⟩ : ∃ H, H = s.heap := ⟨_, rfl⟩
  rw [← hH] at hw ⊢
  obtain ⟨locs, hlc⟩ : ∃ locs : List Loc, locs = [] := ⟨_, rfl⟩
  rw [← hlc] at hw ⊢
  refine lv_iload_n hx hb dX10_gap_0 rfl (lv_at hl 1 rfl) ?_
  refine lv_if_eq (tgt := 12) hx hb dX10_gap_1 (by decide) (fun c1 => ?_) (fun c1 => ?_)
  · have hf := (if_pos c1).symm.trans hf
    refine lv_iconst (v := (0 : Int32)) hx hb dX10_gap_12 (by decide) ?_
    refine lv_istore_n (lv' := [(2, _), (0, _), (1, _)]) hx hb dX10_gap_13 rfl hl (by decide) rfl (fun ls hl => ?_)
    refine lv_iconst (v := (0 : Int32)) hx hb dX10_gap_14 (by decide) ?_
    refine lv_istore_n (lv' := [(3, _), (2, _), (0, _), (1, _)]) hx hb dX10_gap_15 rfl hl (by decide) rfl (fun ls hl => ?_)
    refine lv_iconst (v := (0 : Int32)) hx hb dX10_gap_16 (by decide) ?_
    refine lv_istore (lv' := [(4, _), (3, _), (2, _), (0, _), (1, _)]) hx hb dX10_gap_17 hl (by decide) rfl (fun ls hl => ?_)
    refine lv_aload_n hx hb dX10_gap_19 rfl (lv_at hl 3 rfl) ?_
    refine z_getr (o := 0) (o2 := 1) (C := RX10) (T := TX10) (N := 8) (ci := 8) (k := 0) hx hb Z hw (by decide) (by omega) rfl inX10 (by decide) rfl wd233 dX10_gap_20 ?_
    refine z_getr (o := 1) (o2 := 2) (C := RX6) (T := TX6) (N := 4) (ci := 5) (k := 0) hx hb Z hw (by decide) (by omega) rfl inX6 (by decide) rfl wd145 dX10_gap_23 ?_
    refine z_callVi (o := 2) (ci := 4) (As := []) (rest := []) (t_X5_allFrames G l hN 2 (by decide) (by omega) h) cv_X5_allFrames hx hb hml hl.1 Z hw (by decide) (by decide) (by omega) rfl rfl wd326 rfl rfl (Nat.le_of_ble_eq_true rfl) (by decide) dX10_gap_26 (fun H locs hw => ?_)
    refine lv_istore (lv' := [(5, _), (4, _), (3, _), (2, _), (0, _), (1, _)]) hx hb dX10_gap_29 hl (by decide) rfl (fun ls hl => ?_)
    refine lv_aload_n hx hb dX10_gap_31 rfl (lv_at hl 4 rfl) ?_
    refine z_getr (o := 0) (o2 := 63) (C := RX10) (T := TX10) (N := 8) (ci := 8) (k := 6) hx hb Z hw (by decide) (by omega) rfl inX10 (by decide) rfl wd239 dX10_gap_32 ?_
    refine lv_aload_n hx hb dX10_gap_35 rfl (lv_at hl 4 rfl) ?_
    refine z_getr (o := 0) (o2 := 1) (C := RX10) (T := TX10) (N := 8) (ci := 8) (k := 0) hx hb Z hw (by decide) (by omega) rfl inX10 (by decide) rfl wd233 dX10_gap_36 ?_
    obtain ⟨q39, hq39, hf⟩ := ob_some hf
    refine z_callVi (o := 63) (ci := 6) (As := [.ref (ra G 1)]) (rest := []) (t_X7_of G l hN 1 (by decide) (by omega) h hq39) cv_X7_of hx hb hml hl.1 Z hw (by decide) (by decide) (by omega) rfl rfl wd343 rfl rfl (Nat.le_of_ble_eq_true rfl) (by decide) dX10_gap_39 (fun H locs hw => ?_)
    refine lv_pop hx hb dX10_gap_42 rfl ?_
    refine lv_iconst (v := (0 : Int32)) hx hb dX10_gap_43 (by decide) ?_
    refine lv_istore (lv' := [(6, _), (5, _), (4, _), (3, _), (2, _), (0, _), (1, _)]) hx hb dX10_gap_44 hl (by decide) rfl (fun ls hl => ?_)
    obtain ⟨q46, hq46, hf⟩ := ob_some hf
    refine w_X10_gap_L46 G l hN  hx hb hr hlk hml Z FU (0 : Int32) (0 : Int32) (0 : Int32) (f_X5_allFrames 2 h) (0 : Int32) q39 x1 _ _ ls H locs (lv_sub hl [5, 6, 4, 3, 2, 1, 0] rfl) hw hq46 (fun ls H locs hl hw => ?_)
    refine lv_iload_n hx hb dX10_gap_99 rfl (lv_at hl 1 rfl) ?_
    refine lv_if_ne (tgt := 106) hx hb dX10_gap_100 (by decide) (fun c100 => ?_) (fun c100 => ?_)
    · have hf := (if_neg c100).symm.trans hf
      refine lv_iload_n hx hb dX10_gap_106 rfl (lv_at hl 0 rfl) ?_
      refine lv_if_ne (tgt := 114) hx hb dX10_gap_107 (by decide) (fun c107 => ?_) (fun c107 => ?_)
      · have hf := (if_neg c107).symm.trans hf
        refine lv_iload_n hx hb dX10_gap_114 rfl (lv_at hl 1 rfl) ?_
        obtain ⟨rfl, rfl⟩ := Prod.mk.inj (Option.some.inj hf)
        exact z_iret hx hb hr hlk hw dX10_gap_115
      · have hf := (if_pos c107).symm.trans hf
        refine lv_iload_n hx hb dX10_gap_110 rfl (lv_at hl 2 rfl) ?_
        refine lv_goto (tgt := 115) hx hb dX10_gap_111 (by decide) ?_
        obtain ⟨rfl, rfl⟩ := Prod.mk.inj (Option.some.inj hf)
        exact z_iret hx hb hr hlk hw dX10_gap_115
    · have hf := (if_pos c100).symm.trans hf
      refine lv_bipush (v := (-5 : Int32)) hx hb dX10_gap_103 (by decide) ?_
      obtain ⟨rfl, rfl⟩ := Prod.mk.inj (Option.some.inj hf)
      exact z_iret hx hb hr hlk hw dX10_gap_105
  · have hf := (if_neg c1).symm.trans hf
    refine lv_iload_n hx hb dX10_gap_4 rfl (lv_at hl 1 rfl) ?_
    refine lv_iconst (v := (1 : Int32)) hx hb dX10_gap_5 (by decide) ?_
    refine lv_icmp_eq (tgt := 12) hx hb dX10_gap_6 (by decide) (fun c6 => ?_) (fun c6 => ?_)
    · have hf := (if_pos c6).symm.trans hf
      refine lv_iconst (v := (0 : Int32)) hx hb dX10_gap_12 (by decide) ?_
      refine lv_istore_n (lv' := [(2, _), (0, _), (1, _)]) hx hb dX10_gap_13 rfl hl (by decide) rfl (fun ls hl => ?_)
      refine lv_iconst (v := (0 : Int32)) hx hb dX10_gap_14 (by decide) ?_
      refine lv_istore_n (lv' := [(3, _), (2, _), (0, _), (1, _)]) hx hb dX10_gap_15 rfl hl (by decide) rfl (fun ls hl => ?_)
      refine lv_iconst (v := (0 : Int32)) hx hb dX10_gap_16 (by decide) ?_
      refine lv_istore (lv' := [(4, _), (3, _), (2, _), (0, _), (1, _)]) hx hb dX10_gap_17 hl (by decide) rfl (fun ls hl => ?_)
      refine lv_aload_n hx hb dX10_gap_19 rfl (lv_at hl 3 rfl) ?_
      refine z_getr (o := 0) (o2 := 1) (C := RX10) (T := TX10) (N := 8) (ci := 8) (k := 0) hx hb Z hw (by decide) (by omega) rfl inX10 (by decide) rfl wd233 dX10_gap_20 ?_
      refine z_getr (o := 1) (o2 := 2) (C := RX6) (T := TX6) (N := 4) (ci := 5) (k := 0) hx hb Z hw (by decide) (by omega) rfl inX6 (by decide) rfl wd145 dX10_gap_23 ?_
      refine z_callVi (o := 2) (ci := 4) (As := []) (rest := []) (t_X5_allFrames G l hN 2 (by decide) (by omega) h) cv_X5_allFrames hx hb hml hl.1 Z hw (by decide) (by decide) (by omega) rfl rfl wd326 rfl rfl (Nat.le_of_ble_eq_true rfl) (by decide) dX10_gap_26 (fun H locs hw => ?_)
      refine lv_istore (lv' := [(5, _), (4, _), (3, _), (2, _), (0, _), (1, _)]) hx hb dX10_gap_29 hl (by decide) rfl (fun ls hl => ?_)
      refine lv_aload_n hx hb dX10_gap_31 rfl (lv_at hl 4 rfl) ?_
      refine z_getr (o := 0) (o2 := 63) (C := RX10) (T := TX10) (N := 8) (ci := 8) (k := 6) hx hb Z hw (by decide) (by omega) rfl inX10 (by decide) rfl wd239 dX10_gap_32 ?_
      refine lv_aload_n hx hb dX10_gap_35 rfl (lv_at hl 4 rfl) ?_
      refine z_getr (o := 0) (o2 := 1) (C := RX10) (T := TX10) (N := 8) (ci := 8) (k := 0) hx hb Z hw (by decide) (by omega) rfl inX10 (by decide) rfl wd233 dX10_gap_36 ?_
      obtain ⟨q39, hq39, hf⟩ := ob_some hf
      refine z_callVi (o := 63) (ci := 6) (As := [.ref (ra G 1)]) (rest := []) (t_X7_of G l hN 1 (by decide) (by omega) h hq39) cv_X7_of hx hb hml hl.1 Z hw (by decide) (by decide) (by omega) rfl rfl wd343 rfl rfl (Nat.le_of_ble_eq_true rfl) (by decide) dX10_gap_39 (fun H locs hw => ?_)
      refine lv_pop hx hb dX10_gap_42 rfl ?_
      refine lv_iconst (v := (0 : Int32)) hx hb dX10_gap_43 (by decide) ?_
      refine lv_istore (lv' := [(6, _), (5, _), (4, _), (3, _), (2, _), (0, _), (1, _)]) hx hb dX10_gap_44 hl (by decide) rfl (fun ls hl => ?_)
      obtain ⟨q46, hq46, hf⟩ := ob_some hf
      refine w_X10_gap_L46 G l hN  hx hb hr hlk hml Z FU (0 : Int32) (0 : Int32) (0 : Int32) (f_X5_allFrames 2 h) (0 : Int32) q39 x1 _ _ ls H locs (lv_sub hl [5, 6, 4, 3, 2, 1, 0] rfl) hw hq46 (fun ls H locs hl hw => ?_)
      refine lv_iload_n hx hb dX10_gap_99 rfl (lv_at hl 1 rfl) ?_
      refine lv_if_ne (tgt := 106) hx hb dX10_gap_100 (by decide) (fun c100 => ?_) (fun c100 => ?_)
      · have hf := (if_neg c100).symm.trans hf
        refine lv_iload_n hx hb dX10_gap_106 rfl (lv_at hl 0 rfl) ?_
        refine lv_if_ne (tgt := 114) hx hb dX10_gap_107 (by decide) (fun c107 => ?_) (fun c107 => ?_)
        · have hf := (if_neg c107).symm.trans hf
          refine lv_iload_n hx hb dX10_gap_114 rfl (lv_at hl 1 rfl) ?_
          obtain ⟨rfl, rfl⟩ := Prod.mk.inj (Option.some.inj hf)
          exact z_iret hx hb hr hlk hw dX10_gap_115
        · have hf := (if_pos c107).symm.trans hf
          refine lv_iload_n hx hb dX10_gap_110 rfl (lv_at hl 2 rfl) ?_
          refine lv_goto (tgt := 115) hx hb dX10_gap_111 (by decide) ?_
          obtain ⟨rfl, rfl⟩ := Prod.mk.inj (Option.some.inj hf)
          exact z_iret hx hb hr hlk hw dX10_gap_115
      · have hf := (if_pos c100).symm.trans hf
        refine lv_bipush (v := (-5 : Int32)) hx hb dX10_gap_103 (by decide) ?_
        obtain ⟨rfl, rfl⟩ := Prod.mk.inj (Option.some.inj hf)
        exact z_iret hx hb hr hlk hw dX10_gap_105
    · have hf := (if_neg c6).symm.trans hf
      refine lv_bipush (v := (-2 : Int32)) hx hb dX10_gap_9 (by decide) ?_
      obtain ⟨rfl, rfl⟩ := Prod.mk.inj (Option.some.inj hf)
      exact z_iret hx hb hr hlk hw dX10_gap_11
set_option maxHeartbeats 4000000 in
set_option maxRecDepth 100000 in
theorem t_L_low (G : GM) (l : Launch) (hN : 70 ≤ gN G) (x0 : Int32) (x1 : Int32) (h : HP) {r : Int32} (hf : f_L_low x0 x1 h = some r) : MC G l yL_low cL_low 2 (some .int) 0 [.int x0, .int x1] h h (some (.int r)) := by
  unfold f_L_low at hf
  refine z_start (by decide) (Nat.le_of_ble_eq_true rfl) ?_
  intro p e s m args below meth c ls hx hb hr hlk hml Z hw hl
  have Z : ZK G s args m RL := Z
  have hl : lv_has ls 2 [(0, .int x0), (1, .int x1)] := hl
  obtain ⟨H, hH⟩ : ∃ H, H = s.heap := ⟨_, rfl⟩
  rw [← hH] at hw ⊢
  obtain ⟨locs, hlc⟩ : ∃ locs : List Loc, locs = [] := ⟨_, rfl⟩
  rw [← hlc] at hw ⊢
  refine lv_iload_n hx hb dL_low_0 rfl (lv_at hl 0 rfl) ?_
  refine lv_ldc (v := (2147483647 : Int32)) hx hb Z.2.1 (Z.1 _ wd442) dL_low_1 ?_
  refine lv_iand hx hb dL_low_3 ?_
  refine lv_iload_n hx hb dL_low_4 rfl (lv_at hl 1 rfl) ?_
  obtain ⟨hn5, hf⟩ := gd_some hf
  refine z_irem hx hb dL_low_5 (nz_ne hn5) ?_
  obtain rfl := Option.some.inj hf
  exact z_iret hx hb hr hlk hw dL_low_6
set_option maxHeartbeats 4000000 in
set_option maxRecDepth 100000 in
theorem t_L_does (G : GM) (l : Launch) (hN : 70 ≤ gN G) (x1 : Int32) (h : HP) {r : Int32} {h' : HP} (hf : f_L_does x1 h = some (r, h')) : MC G l yL_does cL_does 8 (some .int) 6 [.ref (ra G 0), .int x1] h h' (some (.int r)) := by
  unfold f_L_does at hf
  refine z_start (by decide) (Nat.le_of_ble_eq_true rfl) ?_
  intro p e s m args below meth c ls hx hb hr hlk hml Z hw hl
  have Z : ZK G s args m RL := Z
  have hl : lv_has ls 8 [(0, .ref (ra G 0)), (1, .int x1)] := hl
  obtain ⟨H, hH⟩ : ∃ H, H = s.heap := ⟨_, rfl⟩
  rw [← hH] at hw ⊢
  obtain ⟨locs, hlc⟩ : ∃ locs : List Loc, locs = [] := ⟨_, rfl⟩
  rw [← hlc] at hw ⊢
  refine lv_iconst (v := (0 : Int32)) hx hb dL_does_0 (by decide) ?_
  refine lv_istore_n (lv' := [(2, _), (0, _), (1, _)]) hx hb dL_does_1 rfl hl (by decide) rfl (fun ls hl => ?_)
  refine lv_iload_n hx hb dL_does_2 rfl (lv_at hl 2 rfl) ?_
  refine lv_iconst (v := (4 : Int32)) hx hb dL_does_3 (by decide) ?_
  refine lv_ishr hx hb dL_does_4 ?_
  refine lv_aload_n hx hb dL_does_5 rfl (lv_at hl 1 rfl) ?_
  refine lv_iconst (v := (0 : Int32)) hx hb dL_does_6 (by decide) ?_
  obtain ⟨q7, hq7, hf⟩ := ob_some hf
  refine z_callVi (o := 0) (ci := 8) (As := [.int (0 : Int32)]) (rest := [.int (x1 >>> ((4 : Int32) &&& 31))]) (t_X10_count G l hN (0 : Int32) h hq7) cv_X10_count hx hb hml hl.1 Z hw (by decide) (by decide) (by omega) rfl rfl wd322 rfl rfl (Nat.le_of_ble_eq_true rfl) (by decide) dL_does_7 (fun H locs hw => ?_)
  obtain ⟨q10, hq10, hf⟩ := ob_some hf
  refine z_callSi (As := [.int (x1 >>> ((4 : Int32) &&& 31)), .int q7.1]) (rest := []) (t_L_low G l hN (x1 >>> ((4 : Int32) &&& 31)) q7.1 q7.2 hq10) cs_L_low hx hb hml hl.1 Z hw wd439 rfl rfl (Nat.le_of_ble_eq_true rfl) (by decide) dL_does_10 (fun H locs hw => ?_)
  refine lv_istore_n (lv' := [(3, _), (2, _), (0, _), (1, _)]) hx hb dL_does_13 rfl hl (by decide) rfl (fun ls hl => ?_)
  refine lv_iload_n hx hb dL_does_14 rfl (lv_at hl 3 rfl) ?_
  refine lv_bipush (v := (15 : Int32)) hx hb dL_does_15 (by decide) ?_
  refine lv_iand hx hb dL_does_17 ?_
  by_cases c18_0 : x1 &&& (15 : Int32) = 0
  · have hf := (if_pos c18_0).symm.trans hf
    refine z_sw c18_0 ?_
    refine lv_tableIn (tgt := 76) hx hb dL_does_18 (by decide) (by decide) rfl (by decide) ?_
    refine lv_iload_n hx hb dL_does_76 rfl (lv_at hl 3 rfl) ?_
    refine lv_iconst (v := (4 : Int32)) hx hb dL_does_77 (by decide) ?_
    refine lv_ishr hx hb dL_does_78 ?_
    refine lv_sipush (v := (360 : Int32)) hx hb dL_does_79 (by decide) ?_
    obtain ⟨q82, hq82, hf⟩ := ob_some hf
    refine z_callSi (As := [.int (x1 >>> ((4 : Int32) &&& 31)), .int (360 : Int32)]) (rest := []) (t_L_low G l hN (x1 >>> ((4 : Int32) &&& 31)) (360 : Int32) q7.2 hq82) cs_L_low hx hb hml hl.1 Z hw wd439 rfl rfl (Nat.le_of_ble_eq_true rfl) (by decide) dL_does_82 (fun H locs hw => ?_)
    refine lv_istore (lv' := [(4, _), (3, _), (2, _), (0, _), (1, _)]) hx hb dL_does_85 hl (by decide) rfl (fun ls hl => ?_)
    refine lv_iload_n hx hb dL_does_87 rfl (lv_at hl 4 rfl) ?_
    refine lv_bipush (v := (8 : Int32)) hx hb dL_does_88 (by decide) ?_
    refine lv_ishr hx hb dL_does_90 ?_
    refine lv_bipush (v := (30 : Int32)) hx hb dL_does_91 (by decide) ?_
    obtain ⟨q93, hq93, hf⟩ := ob_some hf
    refine z_callSi (As := [.int (x1 >>> ((8 : Int32) &&& 31)), .int (30 : Int32)]) (rest := []) (t_L_low G l hN (x1 >>> ((8 : Int32) &&& 31)) (30 : Int32) q7.2 hq93) cs_L_low hx hb hml hl.1 Z hw wd439 rfl rfl (Nat.le_of_ble_eq_true rfl) (by decide) dL_does_93 (fun H locs hw => ?_)
    refine lv_istore (lv' := [(5, _), (4, _), (3, _), (2, _), (0, _), (1, _)]) hx hb dL_does_96 hl (by decide) rfl (fun ls hl => ?_)
    refine lv_aload_n hx hb dL_does_98 rfl (lv_at hl 4 rfl) ?_
    refine lv_iload hx hb dL_does_99 (lv_at hl 1 rfl) ?_
    refine lv_iload hx hb dL_does_101 (lv_at hl 1 rfl) ?_
    refine lv_iload_n hx hb dL_does_103 rfl (lv_at hl 5 rfl) ?_
    refine lv_bipush (v := (6 : Int32)) hx hb dL_does_104 (by decide) ?_
    refine lv_ishr hx hb dL_does_106 ?_
    refine lv_sipush (v := (360 : Int32)) hx hb dL_does_107 (by decide) ?_
    refine lv_iload hx hb dL_does_110 (lv_at hl 1 rfl) ?_
    refine lv_isub hx hb dL_does_112 ?_
    refine lv_bipush (v := (40 : Int32)) hx hb dL_does_113 (by decide) ?_
    have HJ129 : ∀ (ls : Array Slot) (H : Heap) (locs : List Loc), lv_has ls 8 [(1, .int x1), (5, .int q93)] → HW G q7.2 s H locs → WZ p l e 6 s m args below meth c G (some (.int r)) h' H locs (F0 m 129 ls [.int (if (40 : Int32) ≤ ((360 : Int32) - q82) then (40 : Int32) else ((360 : Int32) - q82)), .int (x1 >>> ((6 : Int32) &&& 31)), .int q82, .int q82, .ref (ra G 0)]) := by
      intro ls H locs hl hw
      obtain ⟨q129, hq129, hf⟩ := ob_some hf
      refine z_callSi (As := [.int (x1 >>> ((6 : Int32) &&& 31)), .int (if (40 : Int32) ≤ ((360 : Int32) - q82) then (40 : Int32) else ((360 : Int32) - q82))]) (rest := [.int q82, .int q82, .ref (ra G 0)]) (t_L_low G l hN (x1 >>> ((6 : Int32) &&& 31)) (if (40 : Int32) ≤ ((360 : Int32) - q82) then (40 : Int32) else ((360 : Int32) - q82)) q7.2 hq129) cs_L_low hx hb hml hl.1 Z hw wd439 rfl rfl (Nat.le_of_ble_eq_true rfl) (by decide) dL_does_129 (fun H locs hw => ?_)
      refine lv_iadd hx hb dL_does_132 ?_
      refine lv_iload hx hb dL_does_133 (lv_at hl 1 rfl) ?_
      refine lv_iload hx hb dL_does_135 (lv_at hl 1 rfl) ?_
      refine lv_iload_n hx hb dL_does_137 rfl (lv_at hl 0 rfl) ?_
      refine lv_bipush (v := (10 : Int32)) hx hb dL_does_138 (by decide) ?_
      refine lv_ishr hx hb dL_does_140 ?_
      refine lv_bipush (v := (30 : Int32)) hx hb dL_does_141 (by decide) ?_
      refine lv_iload hx hb dL_does_143 (lv_at hl 1 rfl) ?_
      refine lv_isub hx hb dL_does_145 ?_
      obtain ⟨q146, hq146, hf⟩ := ob_some hf
      refine z_callSi (As := [.int (x1 >>> ((10 : Int32) &&& 31)), .int ((30 : Int32) - q93)]) (rest := [.int q93, .int q93, .int (q82 + q129), .int q82, .ref (ra G 0)]) (t_L_low G l hN (x1 >>> ((10 : Int32) &&& 31)) ((30 : Int32) - q93) q7.2 hq146) cs_L_low hx hb hml hl.1 Z hw wd439 rfl rfl (Nat.le_of_ble_eq_true rfl) (by decide) dL_does_146 (fun H locs hw => ?_)
      refine lv_iadd hx hb dL_does_149 ?_
      obtain ⟨q150, hq150, hf⟩ := ob_some hf
      refine z_callVi (o := 0) (ci := 8) (As := [.int q82, .int (q82 + q129), .int q93, .int (q93 + q146)]) (rest := []) (t_X10_scratch G l hN q82 (q82 + q129) q93 (q93 + q146) q7.2 hq150) cv_X10_scratch hx hb hml hl.1 Z hw (by decide) (by decide) (by omega) rfl rfl wd446 rfl rfl (Nat.le_of_ble_eq_true rfl) (by decide) dL_does_150 (fun H locs hw => ?_)
      refine lv_istore_n (lv' := [(2, _), (1, _), (5, _)]) hx hb dL_does_153 rfl hl (by decide) rfl (fun ls hl => ?_)
      refine lv_iload_n hx hb dL_does_154 rfl (lv_at hl 0 rfl) ?_
      refine lv_bipush (v := (-3 : Int32)) hx hb dL_does_155 (by decide) ?_
      refine lv_icmp_ne (tgt := 164) hx hb dL_does_157 (by decide) (fun c157 => ?_) (fun c157 => ?_)
      · have hf := (if_neg c157).symm.trans hf
        refine lv_iload_n hx hb dL_does_164 rfl (lv_at hl 0 rfl) ?_
        obtain ⟨rfl, rfl⟩ := Prod.mk.inj (Option.some.inj hf)
        exact z_iret hx hb hr hlk hw dL_does_165
      · have hf := (if_pos c157).symm.trans hf
        refine lv_iconst (v := (0 : Int32)) hx hb dL_does_160 (by decide) ?_
        refine lv_goto (tgt := 165) hx hb dL_does_161 (by decide) ?_
        obtain ⟨rfl, rfl⟩ := Prod.mk.inj (Option.some.inj hf)
        exact z_iret hx hb hr hlk hw dL_does_165
    refine lv_icmp_ge (tgt := 127) hx hb dL_does_115 (by decide) (fun c115 => ?_) (fun c115 => ?_)
    · skip
      refine lv_bipush (v := (40 : Int32)) hx hb dL_does_127 (by decide) ?_
      refine W.eq (g2 := F0 m 129 ls [.int (if (40 : Int32) ≤ ((360 : Int32) - q82) then (40 : Int32) else ((360 : Int32) - q82)), .int (x1 >>> ((6 : Int32) &&& 31)), .int q82, .int q82, .ref (ra G 0)]) ?_ (HJ129 ls H locs (lv_sub hl [5, 0] rfl) hw)
      first | (simp only [if_pos c115]; done) | contradiction
    · skip
      refine lv_sipush (v := (360 : Int32)) hx hb dL_does_118 (by decide) ?_
      refine lv_iload hx hb dL_does_121 (lv_at hl 1 rfl) ?_
      refine lv_isub hx hb dL_does_123 ?_
      refine lv_goto (tgt := 129) hx hb dL_does_124 (by decide) ?_
      refine W.eq (g2 := F0 m 129 ls [.int (if (40 : Int32) ≤ ((360 : Int32) - q82) then (40 : Int32) else ((360 : Int32) - q82)), .int (x1 >>> ((6 : Int32) &&& 31)), .int q82, .int q82, .ref (ra G 0)]) ?_ (HJ129 ls H locs (lv_sub hl [5, 0] rfl) hw)
      first | (simp only [if_neg c115]; done) | contradiction
  have hf := (if_neg c18_0).symm.trans hf
  by_cases c18_1 : x1 &&& (15 : Int32) = 1
  · have hf := (if_pos c18_1).symm.trans hf
    refine z_sw c18_1 ?_
    refine lv_tableIn (tgt := 76) hx hb dL_does_18 (by decide) (by decide) rfl (by decide) ?_
    refine lv_iload_n hx hb dL_does_76 rfl (lv_at hl 3 rfl) ?_
    refine lv_iconst (v := (4 : Int32)) hx hb dL_does_77 (by decide) ?_
    refine lv_ishr hx hb dL_does_78 ?_
    refine lv_sipush (v := (360 : Int32)) hx hb dL_does_79 (by decide) ?_
    obtain ⟨q82, hq82, hf⟩ := ob_some hf
    refine z_callSi (As := [.int (x1 >>> ((4 : Int32) &&& 31)), .int (360 : Int32)]) (rest := []) (t_L_low G l hN (x1 >>> ((4 : Int32) &&& 31)) (360 : Int32) q7.2 hq82) cs_L_low hx hb hml hl.1 Z hw wd439 rfl rfl (Nat.le_of_ble_eq_true rfl) (by decide) dL_does_82 (fun H locs hw => ?_)
    refine lv_istore (lv' := [(4, _), (3, _), (2, _), (0, _), (1, _)]) hx hb dL_does_85 hl (by decide) rfl (fun ls hl => ?_)
    refine lv_iload_n hx hb dL_does_87 rfl (lv_at hl 4 rfl) ?_
    refine lv_bipush (v := (8 : Int32)) hx hb dL_does_88 (by decide) ?_
    refine lv_ishr hx hb dL_does_90 ?_
    refine lv_bipush (v := (30 : Int32)) hx hb dL_does_91 (by decide) ?_
    obtain ⟨q93, hq93, hf⟩ := ob_some hf
    refine z_callSi (As := [.int (x1 >>> ((8 : Int32) &&& 31)), .int (30 : Int32)]) (rest := []) (t_L_low G l hN (x1 >>> ((8 : Int32) &&& 31)) (30 : Int32) q7.2 hq93) cs_L_low hx hb hml hl.1 Z hw wd439 rfl rfl (Nat.le_of_ble_eq_true rfl) (by decide) dL_does_93 (fun H locs hw => ?_)
    refine lv_istore (lv' := [(5, _), (4, _), (3, _), (2, _), (0, _), (1, _)]) hx hb dL_does_96 hl (by decide) rfl (fun ls hl => ?_)
    refine lv_aload_n hx hb dL_does_98 rfl (lv_at hl 4 rfl) ?_
    refine lv_iload hx hb dL_does_99 (lv_at hl 1 rfl) ?_
    refine lv_iload hx hb dL_does_101 (lv_at hl 1 rfl) ?_
    refine lv_iload_n hx hb dL_does_103 rfl (lv_at hl 5 rfl) ?_
    refine lv_bipush (v := (6 : Int32)) hx hb dL_does_104 (by decide) ?_
    refine lv_ishr hx hb dL_does_106 ?_
    refine lv_sipush (v := (360 : Int32)) hx hb dL_does_107 (by decide) ?_
    refine lv_iload hx hb dL_does_110 (lv_at hl 1 rfl) ?_
    refine lv_isub hx hb dL_does_112 ?_
    refine lv_bipush (v := (40 : Int32)) hx hb dL_does_113 (by decide) ?_
    have HJ129 : ∀ (ls : Array Slot) (H : Heap) (locs : List Loc), lv_has ls 8 [(1, .int x1), (5, .int q93)] → HW G q7.2 s H locs → WZ p l e 6 s m args below meth c G (some (.int r)) h' H locs (F0 m 129 ls [.int (if (40 : Int32) ≤ ((360 : Int32) - q82) then (40 : Int32) else ((360 : Int32) - q82)), .int (x1 >>> ((6 : Int32) &&& 31)), .int q82, .int q82, .ref (ra G 0)]) := by
      intro ls H locs hl hw
      obtain ⟨q129, hq129, hf⟩ := ob_some hf
      refine z_callSi (As := [.int (x1 >>> ((6 : Int32) &&& 31)), .int (if (40 : Int32) ≤ ((360 : Int32) - q82) then (40 : Int32) else ((360 : Int32) - q82))]) (rest := [.int q82, .int q82, .ref (ra G 0)]) (t_L_low G l hN (x1 >>> ((6 : Int32) &&& 31)) (if (40 : Int32) ≤ ((360 : Int32) - q82) then (40 : Int32) else ((360 : Int32) - q82)) q7.2 hq129) cs_L_low hx hb hml hl.1 Z hw wd439 rfl rfl (Nat.le_of_ble_eq_true rfl) (by decide) dL_does_129 (fun H locs hw => ?_)
      refine lv_iadd hx hb dL_does_132 ?_
      refine lv_iload hx hb dL_does_133 (lv_at hl 1 rfl) ?_
      refine lv_iload hx hb dL_does_135 (lv_at hl 1 rfl) ?_
      refine lv_iload_n hx hb dL_does_137 rfl (lv_at hl 0 rfl) ?_
      refine lv_bipush (v := (10 : Int32)) hx hb dL_does_138 (by decide) ?_
      refine lv_ishr hx hb dL_does_140 ?_
      refine lv_bipush (v := (30 : Int32)) hx hb dL_does_141 (by decide) ?_
      refine lv_iload hx hb dL_does_143 (lv_at hl 1 rfl) ?_
      refine lv_isub hx hb dL_does_145 ?_
      obtain ⟨q146, hq146, hf⟩ := ob_some hf
      refine z_callSi (As := [.int (x1 >>> ((10 : Int32) &&& 31)), .int ((30 : Int32) - q93)]) (rest := [.int q93, .int q93, .int (q82 + q129), .int q82, .ref (ra G 0)]) (t_L_low G l hN (x1 >>> ((10 : Int32) &&& 31)) ((30 : Int32) - q93) q7.2 hq146) cs_L_low hx hb hml hl.1 Z hw wd439 rfl rfl (Nat.le_of_ble_eq_true rfl) (by decide) dL_does_146 (fun H locs hw => ?_)
      refine lv_iadd hx hb dL_does_149 ?_
      obtain ⟨q150, hq150, hf⟩ := ob_some hf
      refine z_callVi (o := 0) (ci := 8) (As := [.int q82, .int (q82 + q129), .int q93, .int (q93 + q146)]) (rest := []) (t_X10_scratch G l hN q82 (q82 + q129) q93 (q93 + q146) q7.2 hq150) cv_X10_scratch hx hb hml hl.1 Z hw (by decide) (by decide) (by omega) rfl rfl wd446 rfl rfl (Nat.le_of_ble_eq_true rfl) (by decide) dL_does_150 (fun H locs hw => ?_)
      refine lv_istore_n (lv' := [(2, _), (1, _), (5, _)]) hx hb dL_does_153 rfl hl (by decide) rfl (fun ls hl => ?_)
      refine lv_iload_n hx hb dL_does_154 rfl (lv_at hl 0 rfl) ?_
      refine lv_bipush (v := (-3 : Int32)) hx hb dL_does_155 (by decide) ?_
      refine lv_icmp_ne (tgt := 164) hx hb dL_does_157 (by decide) (fun c157 => ?_) (fun c157 => ?_)
      · have hf := (if_neg c157).symm.trans hf
        refine lv_iload_n hx hb dL_does_164 rfl (lv_at hl 0 rfl) ?_
        obtain ⟨rfl, rfl⟩ := Prod.mk.inj (Option.some.inj hf)
        exact z_iret hx hb hr hlk hw dL_does_165
      · have hf := (if_pos c157).symm.trans hf
        refine lv_iconst (v := (0 : Int32)) hx hb dL_does_160 (by decide) ?_
        refine lv_goto (tgt := 165) hx hb dL_does_161 (by decide) ?_
        obtain ⟨rfl, rfl⟩ := Prod.mk.inj (Option.some.inj hf)
        exact z_iret hx hb hr hlk hw dL_does_165
    refine lv_icmp_ge (tgt := 127) hx hb dL_does_115 (by decide) (fun c115 => ?_) (fun c115 => ?_)
    · skip
      refine lv_bipush (v := (40 : Int32)) hx hb dL_does_127 (by decide) ?_
      refine W.eq (g2 := F0 m 129 ls [.int (if (40 : Int32) ≤ ((360 : Int32) - q82) then (40 : Int32) else ((360 : Int32) - q82)), .int (x1 >>> ((6 : Int32) &&& 31)), .int q82, .int q82, .ref (ra G 0)]) ?_ (HJ129 ls H locs (lv_sub hl [5, 0] rfl) hw)
      first | (simp only [if_pos c115]; done) | contradiction
    · skip
      refine lv_sipush (v := (360 : Int32)) hx hb dL_does_118 (by decide) ?_
      refine lv_iload hx hb dL_does_121 (lv_at hl 1 rfl) ?_
      refine lv_isub hx hb dL_does_123 ?_
      refine lv_goto (tgt := 129) hx hb dL_does_124 (by decide) ?_
      refine W.eq (g2 := F0 m 129 ls [.int (if (40 : Int32) ≤ ((360 : Int32) - q82) then (40 : Int32) else ((360 : Int32) - q82)), .int (x1 >>> ((6 : Int32) &&& 31)), .int q82, .int q82, .ref (ra G 0)]) ?_ (HJ129 ls H locs (lv_sub hl [5, 0] rfl) hw)
      first | (simp only [if_neg c115]; done) | contradiction
  have hf := (if_neg c18_1).symm.trans hf
  by_cases c18_2 : x1 &&& (15 : Int32) = 2
  · have hf := (if_pos c18_2).symm.trans hf
    refine z_sw c18_2 ?_
    refine lv_tableIn (tgt := 76) hx hb dL_does_18 (by decide) (by decide) rfl (by decide) ?_
    refine lv_iload_n hx hb dL_does_76 rfl (lv_at hl 3 rfl) ?_
    refine lv_iconst (v := (4 : Int32)) hx hb dL_does_77 (by decide) ?_
    refine lv_ishr hx hb dL_does_78 ?_
    refine lv_sipush (v := (360 : Int32)) hx hb dL_does_79 (by decide) ?_
    obtain ⟨q82, hq82, hf⟩ := ob_some hf
    refine z_callSi (As := [.int (x1 >>> ((4 : Int32) &&& 31)), .int (360 : Int32)]) (rest := []) (t_L_low G l hN (x1 >>> ((4 : Int32) &&& 31)) (360 : Int32) q7.2 hq82) cs_L_low hx hb hml hl.1 Z hw wd439 rfl rfl (Nat.le_of_ble_eq_true rfl) (by decide) dL_does_82 (fun H locs hw => ?_)
    refine lv_istore (lv' := [(4, _), (3, _), (2, _), (0, _), (1, _)]) hx hb dL_does_85 hl (by decide) rfl (fun ls hl => ?_)
    refine lv_iload_n hx hb dL_does_87 rfl (lv_at hl 4 rfl) ?_
    refine lv_bipush (v := (8 : Int32)) hx hb dL_does_88 (by decide) ?_
    refine lv_ishr hx hb dL_does_90 ?_
    refine lv_bipush (v := (30 : Int32)) hx hb dL_does_91 (by decide) ?_
    obtain ⟨q93, hq93, hf⟩ := ob_some hf
    refine z_callSi (As := [.int (x1 >>> ((8 : Int32) &&& 31)), .int (30 : Int32)]) (rest := []) (t_L_low G l hN (x1 >>> ((8 : Int32) &&& 31)) (30 : Int32) q7.2 hq93) cs_L_low hx hb hml hl.1 Z hw wd439 rfl rfl (Nat.le_of_ble_eq_true rfl) (by decide) dL_does_93 (fun H locs hw => ?_)
    refine lv_istore (lv' := [(5, _), (4, _), (3, _), (2, _), (0, _), (1, _)]) hx hb dL_does_96 hl (by decide) rfl (fun ls hl => ?_)
    refine lv_aload_n hx hb dL_does_98 rfl (lv_at hl 4 rfl) ?_
    refine lv_iload hx hb dL_does_99 (lv_at hl 1 rfl) ?_
    refine lv_iload hx hb dL_does_101 (lv_at hl 1 rfl) ?_
    refine lv_iload_n hx hb dL_does_103 rfl (lv_at hl 5 rfl) ?_
    refine lv_bipush (v := (6 : Int32)) hx hb dL_does_104 (by decide) ?_
    refine lv_ishr hx hb dL_does_106 ?_
    refine lv_sipush (v := (360 : Int32)) hx hb dL_does_107 (by decide) ?_
    refine lv_iload hx hb dL_does_110 (lv_at hl 1 rfl) ?_
    refine lv_isub hx hb dL_does_112 ?_
    refine lv_bipush (v := (40 : Int32)) hx hb dL_does_113 (by decide) ?_
    have HJ129 : ∀ (ls : Array Slot) (H : Heap) (locs : List Loc), lv_has ls 8 [(1, .int x1), (5, .int q93)] → HW G q7.2 s H locs → WZ p l e 6 s m args below meth c G (some (.int r)) h' H locs (F0 m 129 ls [.int (if (40 : Int32) ≤ ((360 : Int32) - q82) then (40 : Int32) else ((360 : Int32) - q82)), .int (x1 >>> ((6 : Int32) &&& 31)), .int q82, .int q82, .ref (ra G 0)]) := by
      intro ls H locs hl hw
      obtain ⟨q129, hq129, hf⟩ := ob_some hf
      refine z_callSi (As := [.int (x1 >>> ((6 : Int32) &&& 31)), .int (if (40 : Int32) ≤ ((360 : Int32) - q82) then (40 : Int32) else ((360 : Int32) - q82))]) (rest := [.int q82, .int q82, .ref (ra G 0)]) (t_L_low G l hN (x1 >>> ((6 : Int32) &&& 31)) (if (40 : Int32) ≤ ((360 : Int32) - q82) then (40 : Int32) else ((360 : Int32) - q82)) q7.2 hq129) cs_L_low hx hb hml hl.1 Z hw wd439 rfl rfl (Nat.le_of_ble_eq_true rfl) (by decide) dL_does_129 (fun H locs hw => ?_)
      refine lv_iadd hx hb dL_does_132 ?_
      refine lv_iload hx hb dL_does_133 (lv_at hl 1 rfl) ?_
      refine lv_iload hx hb dL_does_135 (lv_at hl 1 rfl) ?_
      refine lv_iload_n hx hb dL_does_137 rfl (lv_at hl 0 rfl) ?_
      refine lv_bipush (v := (10 : Int32)) hx hb dL_does_138 (by decide) ?_
      refine lv_ishr hx hb dL_does_140 ?_
      refine lv_bipush (v := (30 : Int32)) hx hb dL_does_141 (by decide) ?_
      refine lv_iload hx hb dL_does_143 (lv_at hl 1 rfl) ?_
      refine lv_isub hx hb dL_does_145 ?_
      obtain ⟨q146, hq146, hf⟩ := ob_some hf
      refine z_callSi (As := [.int (x1 >>> ((10 : Int32) &&& 31)), .int ((30 : Int32) - q93)]) (rest := [.int q93, .int q93, .int (q82 + q129), .int q82, .ref (ra G 0)]) (t_L_low G l hN (x1 >>> ((10 : Int32) &&& 31)) ((30 : Int32) - q93) q7.2 hq146) cs_L_low hx hb hml hl.1 Z hw wd439 rfl rfl (Nat.le_of_ble_eq_true rfl) (by decide) dL_does_146 (fun H locs hw => ?_)
      refine lv_iadd hx hb dL_does_149 ?_
      obtain ⟨q150, hq150, hf⟩ := ob_some hf
      refine z_callVi (o := 0) (ci := 8) (As := [.int q82, .int (q82 + q129), .int q93, .int (q93 + q146)]) (rest := []) (t_X10_scratch G l hN q82 (q82 + q129) q93 (q93 + q146) q7.2 hq150) cv_X10_scratch hx hb hml hl.1 Z hw (by decide) (by decide) (by omega) rfl rfl wd446 rfl rfl (Nat.le_of_ble_eq_true rfl) (by decide) dL_does_150 (fun H locs hw => ?_)
      refine lv_istore_n (lv' := [(2, _), (1, _), (5, _)]) hx hb dL_does_153 rfl hl (by decide) rfl (fun ls hl => ?_)
      refine lv_iload_n hx hb dL_does_154 rfl (lv_at hl 0 rfl) ?_
      refine lv_bipush (v := (-3 : Int32)) hx hb dL_does_155 (by decide) ?_
      refine lv_icmp_ne (tgt := 164) hx hb dL_does_157 (by decide) (fun c157 => ?_) (fun c157 => ?_)
      · have hf := (if_neg c157).symm.trans hf
        refine lv_iload_n hx hb dL_does_164 rfl (lv_at hl 0 rfl) ?_
        obtain ⟨rfl, rfl⟩ := Prod.mk.inj (Option.some.inj hf)
        exact z_iret hx hb hr hlk hw dL_does_165
      · have hf := (if_pos c157).symm.trans hf
        refine lv_iconst (v := (0 : Int32)) hx hb dL_does_160 (by decide) ?_
        refine lv_goto (tgt := 165) hx hb dL_does_161 (by decide) ?_
        obtain ⟨rfl, rfl⟩ := Prod.mk.inj (Option.some.inj hf)
        exact z_iret hx hb hr hlk hw dL_does_165
    refine lv_icmp_ge (tgt := 127) hx hb dL_does_115 (by decide) (fun c115 => ?_) (fun c115 => ?_)
    · skip
      refine lv_bipush (v := (40 : Int32)) hx hb dL_does_127 (by decide) ?_
      refine W.eq (g2 := F0 m 129 ls [.int (if (40 : Int32) ≤ ((360 : Int32) - q82) then (40 : Int32) else ((360 : Int32) - q82)), .int (x1 >>> ((6 : Int32) &&& 31)), .int q82, .int q82, .ref (ra G 0)]) ?_ (HJ129 ls H locs (lv_sub hl [5, 0] rfl) hw)
      first | (simp only [if_pos c115]; done) | contradiction
    · skip
      refine lv_sipush (v := (360 : Int32)) hx hb dL_does_118 (by decide) ?_
      refine lv_iload hx hb dL_does_121 (lv_at hl 1 rfl) ?_
      refine lv_isub hx hb dL_does_123 ?_
      refine lv_goto (tgt := 129) hx hb dL_does_124 (by decide) ?_
      refine W.eq (g2 := F0 m 129 ls [.int (if (40 : Int32) ≤ ((360 : Int32) - q82) then (40 : Int32) else ((360 : Int32) - q82)), .int (x1 >>> ((6 : Int32) &&& 31)), .int q82, .int q82, .ref (ra G 0)]) ?_ (HJ129 ls H locs (lv_sub hl [5, 0] rfl) hw)
      first | (simp only [if_neg c115]; done) | contradiction
  have hf := (if_neg c18_2).symm.trans hf
  by_cases c18_3 : x1 &&& (15 : Int32) = 3
  · have hf := (if_pos c18_3).symm.trans hf
    refine z_sw c18_3 ?_
    refine lv_tableIn (tgt := 166) hx hb dL_does_18 (by decide) (by decide) rfl (by decide) ?_
    refine lv_aload_n hx hb dL_does_166 rfl (lv_at hl 2 rfl) ?_
    refine lv_iconst (v := (2 : Int32)) hx hb dL_does_167 (by decide) ?_
    obtain ⟨q168, hq168, hf⟩ := ob_some hf
    refine z_callVi (o := 0) (ci := 8) (As := [.int (2 : Int32)]) (rest := []) (t_X10_count G l hN (2 : Int32) q7.2 hq168) cv_X10_count hx hb hml hl.1 Z hw (by decide) (by decide) (by omega) rfl rfl wd322 rfl rfl (Nat.le_of_ble_eq_true rfl) (by decide) dL_does_168 (fun H locs hw => ?_)
    refine lv_if_ne (tgt := 178) hx hb dL_does_171 (by decide) (fun c171 => ?_) (fun c171 => ?_)
    · have hf := (if_neg c171).symm.trans hf
      refine lv_aload_n hx hb dL_does_178 rfl (lv_at hl 2 rfl) ?_
      refine lv_iload_n hx hb dL_does_179 rfl (lv_at hl 3 rfl) ?_
      refine lv_iconst (v := (4 : Int32)) hx hb dL_does_180 (by decide) ?_
      refine lv_ishr hx hb dL_does_181 ?_
      refine lv_aload_n hx hb dL_does_182 rfl (lv_at hl 2 rfl) ?_
      refine lv_iconst (v := (2 : Int32)) hx hb dL_does_183 (by decide) ?_
      obtain ⟨q184, hq184, hf⟩ := ob_some hf
      refine z_callVi (o := 0) (ci := 8) (As := [.int (2 : Int32)]) (rest := [.int (x1 >>> ((4 : Int32) &&& 31)), .ref (ra G 0)]) (t_X10_count G l hN (2 : Int32) q168.2 hq184) cv_X10_count hx hb hml hl.1 Z hw (by decide) (by decide) (by omega) rfl rfl wd322 rfl rfl (Nat.le_of_ble_eq_true rfl) (by decide) dL_does_184 (fun H locs hw => ?_)
      obtain ⟨q187, hq187, hf⟩ := ob_some hf
      refine z_callSi (As := [.int (x1 >>> ((4 : Int32) &&& 31)), .int q184.1]) (rest := [.ref (ra G 0)]) (t_L_low G l hN (x1 >>> ((4 : Int32) &&& 31)) q184.1 q184.2 hq187) cs_L_low hx hb hml hl.1 Z hw wd439 rfl rfl (Nat.le_of_ble_eq_true rfl) (by decide) dL_does_187 (fun H locs hw => ?_)
      obtain ⟨q190, hq190, hf⟩ := ob_some hf
      refine z_callVi (o := 0) (ci := 8) (As := [.int q187]) (rest := []) (t_X10_polish G l hN q187 q184.2 hq190) cv_X10_polish hx hb hml hl.1 Z hw (by decide) (by decide) (by omega) rfl rfl wd460 rfl rfl (Nat.le_of_ble_eq_true rfl) (by decide) dL_does_190 (fun H locs hw => ?_)
      obtain ⟨rfl, rfl⟩ := Prod.mk.inj (Option.some.inj hf)
      exact z_iret hx hb hr hlk hw dL_does_193
    · have hf := (if_pos c171).symm.trans hf
      refine lv_iconst (v := (0 : Int32)) hx hb dL_does_174 (by decide) ?_
      refine lv_goto (tgt := 193) hx hb dL_does_175 (by decide) ?_
      obtain ⟨rfl, rfl⟩ := Prod.mk.inj (Option.some.inj hf)
      exact z_iret hx hb hr hlk hw dL_does_193
  have hf := (if_neg c18_3).symm.trans hf
  by_cases c18_4 : x1 &&& (15 : Int32) = 4
  · have hf := (if_pos c18_4).symm.trans hf
    refine z_sw c18_4 ?_
    refine lv_tableIn (tgt := 194) hx hb dL_does_18 (by decide) (by decide) rfl (by decide) ?_
    refine lv_aload_n hx hb dL_does_194 rfl (lv_at hl 2 rfl) ?_
    refine lv_iload_n hx hb dL_does_195 rfl (lv_at hl 0 rfl) ?_
    refine lv_iload_n hx hb dL_does_196 rfl (lv_at hl 3 rfl) ?_
    refine lv_bipush (v := (6 : Int32)) hx hb dL_does_197 (by decide) ?_
    refine lv_ishr hx hb dL_does_199 ?_
    refine lv_iconst (v := (4 : Int32)) hx hb dL_does_200 (by decide) ?_
    obtain ⟨q201, hq201, hf⟩ := ob_some hf
    refine z_callSi (As := [.int (x1 >>> ((6 : Int32) &&& 31)), .int (4 : Int32)]) (rest := [.int q10, .ref (ra G 0)]) (t_L_low G l hN (x1 >>> ((6 : Int32) &&& 31)) (4 : Int32) q7.2 hq201) cs_L_low hx hb hml hl.1 Z hw wd439 rfl rfl (Nat.le_of_ble_eq_true rfl) (by decide) dL_does_201 (fun H locs hw => ?_)
    refine lv_iload_n hx hb dL_does_204 rfl (lv_at hl 3 rfl) ?_
    refine lv_bipush (v := (8 : Int32)) hx hb dL_does_205 (by decide) ?_
    refine lv_ishr hx hb dL_does_207 ?_
    refine lv_bipush (v := (16 : Int32)) hx hb dL_does_208 (by decide) ?_
    obtain ⟨q210, hq210, hf⟩ := ob_some hf
    refine z_callSi (As := [.int (x1 >>> ((8 : Int32) &&& 31)), .int (16 : Int32)]) (rest := [.int q201, .int q10, .ref (ra G 0)]) (t_L_low G l hN (x1 >>> ((8 : Int32) &&& 31)) (16 : Int32) q7.2 hq210) cs_L_low hx hb hml hl.1 Z hw wd439 rfl rfl (Nat.le_of_ble_eq_true rfl) (by decide) dL_does_210 (fun H locs hw => ?_)
    obtain ⟨q213, hq213, hf⟩ := ob_some hf
    refine z_callVi (o := 0) (ci := 8) (As := [.int q10, .int q201, .int q210]) (rest := []) (t_X10_press G l hN q10 q201 q210 q7.2 hq213) cv_X10_press hx hb hml hl.1 Z hw (by decide) (by decide) (by omega) rfl rfl wd477 rfl rfl (Nat.le_of_ble_eq_true rfl) (by decide) dL_does_213 (fun H locs hw => ?_)
    refine lv_istore_n (lv' := [(2, _), (3, _), (0, _), (1, _)]) hx hb dL_does_216 rfl hl (by decide) rfl (fun ls hl => ?_)
    refine lv_iload_n hx hb dL_does_217 rfl (lv_at hl 0 rfl) ?_
    refine lv_bipush (v := (-4 : Int32)) hx hb dL_does_218 (by decide) ?_
    refine lv_icmp_eq (tgt := 235) hx hb dL_does_220 (by decide) (fun c220 => ?_) (fun c220 => ?_)
    · have hf := (if_pos c220).symm.trans hf
      refine lv_iconst (v := (0 : Int32)) hx hb dL_does_235 (by decide) ?_
      refine lv_goto (tgt := 240) hx hb dL_does_236 (by decide) ?_
      obtain ⟨rfl, rfl⟩ := Prod.mk.inj (Option.some.inj hf)
      exact z_iret hx hb hr hlk hw dL_does_240
    · have hf := (if_neg c220).symm.trans hf
      refine lv_iload_n hx hb dL_does_223 rfl (lv_at hl 0 rfl) ?_
      refine lv_bipush (v := (-5 : Int32)) hx hb dL_does_224 (by decide) ?_
      refine lv_icmp_eq (tgt := 235) hx hb dL_does_226 (by decide) (fun c226 => ?_) (fun c226 => ?_)
      · have hf := (if_pos c226).symm.trans hf
        refine lv_iconst (v := (0 : Int32)) hx hb dL_does_235 (by decide) ?_
        refine lv_goto (tgt := 240) hx hb dL_does_236 (by decide) ?_
        obtain ⟨rfl, rfl⟩ := Prod.mk.inj (Option.some.inj hf)
        exact z_iret hx hb hr hlk hw dL_does_240
      · have hf := (if_neg c226).symm.trans hf
        refine lv_iload_n hx hb dL_does_229 rfl (lv_at hl 0 rfl) ?_
        refine lv_bipush (v := (-3 : Int32)) hx hb dL_does_230 (by decide) ?_
        refine lv_icmp_ne (tgt := 239) hx hb dL_does_232 (by decide) (fun c232 => ?_) (fun c232 => ?_)
        · have hf := (if_neg c232).symm.trans hf
          refine lv_iload_n hx hb dL_does_239 rfl (lv_at hl 0 rfl) ?_
          obtain ⟨rfl, rfl⟩ := Prod.mk.inj (Option.some.inj hf)
          exact z_iret hx hb hr hlk hw dL_does_240
        · have hf := (if_pos c232).symm.trans hf
          refine lv_iconst (v := (0 : Int32)) hx hb dL_does_235 (by decide) ?_
          refine lv_goto (tgt := 240) hx hb dL_does_236 (by decide) ?_
          obtain ⟨rfl, rfl⟩ := Prod.mk.inj (Option.some.inj hf)
          exact z_iret hx hb hr hlk hw dL_does_240
  have hf := (if_neg c18_4).symm.trans hf
  by_cases c18_5 : x1 &&& (15 : Int32) = 5
  · have hf := (if_pos c18_5).symm.trans hf
    refine z_sw c18_5 ?_
    refine lv_tableIn (tgt := 194) hx hb dL_does_18 (by decide) (by decide) rfl (by decide) ?_
    refine lv_aload_n hx hb dL_does_194 rfl (lv_at hl 2 rfl) ?_
    refine lv_iload_n hx hb dL_does_195 rfl (lv_at hl 0 rfl) ?_
    refine lv_iload_n hx hb dL_does_196 rfl (lv_at hl 3 rfl) ?_
    refine lv_bipush (v := (6 : Int32)) hx hb dL_does_197 (by decide) ?_
    refine lv_ishr hx hb dL_does_199 ?_
    refine lv_iconst (v := (4 : Int32)) hx hb dL_does_200 (by decide) ?_
    obtain ⟨q201, hq201, hf⟩ := ob_some hf
    refine z_callSi (As := [.int (x1 >>> ((6 : Int32) &&& 31)), .int (4 : Int32)]) (rest := [.int q10, .ref (ra G 0)]) (t_L_low G l hN (x1 >>> ((6 : Int32) &&& 31)) (4 : Int32) q7.2 hq201) cs_L_low hx hb hml hl.1 Z hw wd439 rfl rfl (Nat.le_of_ble_eq_true rfl) (by decide) dL_does_201 (fun H locs hw => ?_)
    refine lv_iload_n hx hb dL_does_204 rfl (lv_at hl 3 rfl) ?_
    refine lv_bipush (v := (8 : Int32)) hx hb dL_does_205 (by decide) ?_
    refine lv_ishr hx hb dL_does_207 ?_
    refine lv_bipush (v := (16 : Int32)) hx hb dL_does_208 (by decide) ?_
    obtain ⟨q210, hq210, hf⟩ := ob_some hf
    refine z_callSi (As := [.int (x1 >>> ((8 : Int32) &&& 31)), .int (16 : Int32)]) (rest := [.int q201, .int q10, .ref (ra G 0)]) (t_L_low G l hN (x1 >>> ((8 : Int32) &&& 31)) (16 : Int32) q7.2 hq210) cs_L_low hx hb hml hl.1 Z hw wd439 rfl rfl (Nat.le_of_ble_eq_true rfl) (by decide) dL_does_210 (fun H locs hw => ?_)
    obtain ⟨q213, hq213, hf⟩ := ob_some hf
    refine z_callVi (o := 0) (ci := 8) (As := [.int q10, .int q201, .int q210]) (rest := []) (t_X10_press G l hN q10 q201 q210 q7.2 hq213) cv_X10_press hx hb hml hl.1 Z hw (by decide) (by decide) (by omega) rfl rfl wd477 rfl rfl (Nat.le_of_ble_eq_true rfl) (by decide) dL_does_213 (fun H locs hw => ?_)
    refine lv_istore_n (lv' := [(2, _), (3, _), (0, _), (1, _)]) hx hb dL_does_216 rfl hl (by decide) rfl (fun ls hl => ?_)
    refine lv_iload_n hx hb dL_does_217 rfl (lv_at hl 0 rfl) ?_
    refine lv_bipush (v := (-4 : Int32)) hx hb dL_does_218 (by decide) ?_
    refine lv_icmp_eq (tgt := 235) hx hb dL_does_220 (by decide) (fun c220 => ?_) (fun c220 => ?_)
    · have hf := (if_pos c220).symm.trans hf
      refine lv_iconst (v := (0 : Int32)) hx hb dL_does_235 (by decide) ?_
      refine lv_goto (tgt := 240) hx hb dL_does_236 (by decide) ?_
      obtain ⟨rfl, rfl⟩ := Prod.mk.inj (Option.some.inj hf)
      exact z_iret hx hb hr hlk hw dL_does_240
    · have hf := (if_neg c220).symm.trans hf
      refine lv_iload_n hx hb dL_does_223 rfl (lv_at hl 0 rfl) ?_
      refine lv_bipush (v := (-5 : Int32)) hx hb dL_does_224 (by decide) ?_
      refine lv_icmp_eq (tgt := 235) hx hb dL_does_226 (by decide) (fun c226 => ?_) (fun c226 => ?_)
      · have hf := (if_pos c226).symm.trans hf
        refine lv_iconst (v := (0 : Int32)) hx hb dL_does_235 (by decide) ?_
        refine lv_goto (tgt := 240) hx hb dL_does_236 (by decide) ?_
        obtain ⟨rfl, rfl⟩ := Prod.mk.inj (Option.some.inj hf)
        exact z_iret hx hb hr hlk hw dL_does_240
      · have hf := (if_neg c226).symm.trans hf
        refine lv_iload_n hx hb dL_does_229 rfl (lv_at hl 0 rfl) ?_
        refine lv_bipush (v := (-3 : Int32)) hx hb dL_does_230 (by decide) ?_
        refine lv_icmp_ne (tgt := 239) hx hb dL_does_232 (by decide) (fun c232 => ?_) (fun c232 => ?_)
        · have hf := (if_neg c232).symm.trans hf
          refine lv_iload_n hx hb dL_does_239 rfl (lv_at hl 0 rfl) ?_
          obtain ⟨rfl, rfl⟩ := Prod.mk.inj (Option.some.inj hf)
          exact z_iret hx hb hr hlk hw dL_does_240
        · have hf := (if_pos c232).symm.trans hf
          refine lv_iconst (v := (0 : Int32)) hx hb dL_does_235 (by decide) ?_
          refine lv_goto (tgt := 240) hx hb dL_does_236 (by decide) ?_
          obtain ⟨rfl, rfl⟩ := Prod.mk.inj (Option.some.inj hf)
          exact z_iret hx hb hr hlk hw dL_does_240
  have hf := (if_neg c18_5).symm.trans hf
  by_cases c18_6 : x1 &&& (15 : Int32) = 6
  · have hf := (if_pos c18_6).symm.trans hf
    refine z_sw c18_6 ?_
    refine lv_tableIn (tgt := 194) hx hb dL_does_18 (by decide) (by decide) rfl (by decide) ?_
    refine lv_aload_n hx hb dL_does_194 rfl (lv_at hl 2 rfl) ?_
    refine lv_iload_n hx hb dL_does_195 rfl (lv_at hl 0 rfl) ?_
    refine lv_iload_n hx hb dL_does_196 rfl (lv_at hl 3 rfl) ?_
    refine lv_bipush (v := (6 : Int32)) hx hb dL_does_197 (by decide) ?_
    refine lv_ishr hx hb dL_does_199 ?_
    refine lv_iconst (v := (4 : Int32)) hx hb dL_does_200 (by decide) ?_
    obtain ⟨q201, hq201, hf⟩ := ob_some hf
    refine z_callSi (As := [.int (x1 >>> ((6 : Int32) &&& 31)), .int (4 : Int32)]) (rest := [.int q10, .ref (ra G 0)]) (t_L_low G l hN (x1 >>> ((6 : Int32) &&& 31)) (4 : Int32) q7.2 hq201) cs_L_low hx hb hml hl.1 Z hw wd439 rfl rfl (Nat.le_of_ble_eq_true rfl) (by decide) dL_does_201 (fun H locs hw => ?_)
    refine lv_iload_n hx hb dL_does_204 rfl (lv_at hl 3 rfl) ?_
    refine lv_bipush (v := (8 : Int32)) hx hb dL_does_205 (by decide) ?_
    refine lv_ishr hx hb dL_does_207 ?_
    refine lv_bipush (v := (16 : Int32)) hx hb dL_does_208 (by decide) ?_
    obtain ⟨q210, hq210, hf⟩ := ob_some hf
    refine z_callSi (As := [.int (x1 >>> ((8 : Int32) &&& 31)), .int (16 : Int32)]) (rest := [.int q201, .int q10, .ref (ra G 0)]) (t_L_low G l hN (x1 >>> ((8 : Int32) &&& 31)) (16 : Int32) q7.2 hq210) cs_L_low hx hb hml hl.1 Z hw wd439 rfl rfl (Nat.le_of_ble_eq_true rfl) (by decide) dL_does_210 (fun H locs hw => ?_)
    obtain ⟨q213, hq213, hf⟩ := ob_some hf
    refine z_callVi (o := 0) (ci := 8) (As := [.int q10, .int q201, .int q210]) (rest := []) (t_X10_press G l hN q10 q201 q210 q7.2 hq213) cv_X10_press hx hb hml hl.1 Z hw (by decide) (by decide) (by omega) rfl rfl wd477 rfl rfl (Nat.le_of_ble_eq_true rfl) (by decide) dL_does_213 (fun H locs hw => ?_)
    refine lv_istore_n (lv' := [(2, _), (3, _), (0, _), (1, _)]) hx hb dL_does_216 rfl hl (by decide) rfl (fun ls hl => ?_)
    refine lv_iload_n hx hb dL_does_217 rfl (lv_at hl 0 rfl) ?_
    refine lv_bipush (v := (-4 : Int32)) hx hb dL_does_218 (by decide) ?_
    refine lv_icmp_eq (tgt := 235) hx hb dL_does_220 (by decide) (fun c220 => ?_) (fun c220 => ?_)
    · have hf := (if_pos c220).symm.trans hf
      refine lv_iconst (v := (0 : Int32)) hx hb dL_does_235 (by decide) ?_
      refine lv_goto (tgt := 240) hx hb dL_does_236 (by decide) ?_
      obtain ⟨rfl, rfl⟩ := Prod.mk.inj (Option.some.inj hf)
      exact z_iret hx hb hr hlk hw dL_does_240
    · have hf := (if_neg c220).symm.trans hf
      refine lv_iload_n hx hb dL_does_223 rfl (lv_at hl 0 rfl) ?_
      refine lv_bipush (v := (-5 : Int32)) hx hb dL_does_224 (by decide) ?_
      refine lv_icmp_eq (tgt := 235) hx hb dL_does_226 (by decide) (fun c226 => ?_) (fun c226 => ?_)
      · have hf := (if_pos c226).symm.trans hf
        refine lv_iconst (v := (0 : Int32)) hx hb dL_does_235 (by decide) ?_
        refine lv_goto (tgt := 240) hx hb dL_does_236 (by decide) ?_
        obtain ⟨rfl, rfl⟩ := Prod.mk.inj (Option.some.inj hf)
        exact z_iret hx hb hr hlk hw dL_does_240
      · have hf := (if_neg c226).symm.trans hf
        refine lv_iload_n hx hb dL_does_229 rfl (lv_at hl 0 rfl) ?_
        refine lv_bipush (v := (-3 : Int32)) hx hb dL_does_230 (by decide) ?_
        refine lv_icmp_ne (tgt := 239) hx hb dL_does_232 (by decide) (fun c232 => ?_) (fun c232 => ?_)
        · have hf := (if_neg c232).symm.trans hf
          refine lv_iload_n hx hb dL_does_239 rfl (lv_at hl 0 rfl) ?_
          obtain ⟨rfl, rfl⟩ := Prod.mk.inj (Option.some.inj hf)
          exact z_iret hx hb hr hlk hw dL_does_240
        · have hf := (if_pos c232).symm.trans hf
          refine lv_iconst (v := (0 : Int32)) hx hb dL_does_235 (by decide) ?_
          refine lv_goto (tgt := 240) hx hb dL_does_236 (by decide) ?_
          obtain ⟨rfl, rfl⟩ := Prod.mk.inj (Option.some.inj hf)
          exact z_iret hx hb hr hlk hw dL_does_240
  have hf := (if_neg c18_6).symm.trans hf
  by_cases c18_7 : x1 &&& (15 : Int32) = 7
  · have hf := (if_pos c18_7).symm.trans hf
    refine z_sw c18_7 ?_
    refine lv_tableIn (tgt := 241) hx hb dL_does_18 (by decide) (by decide) rfl (by decide) ?_
    refine lv_iload_n hx hb dL_does_241 rfl (lv_at hl 3 rfl) ?_
    refine lv_iconst (v := (4 : Int32)) hx hb dL_does_242 (by decide) ?_
    refine lv_ishr hx hb dL_does_243 ?_
    refine lv_bipush (v := (6 : Int32)) hx hb dL_does_244 (by decide) ?_
    obtain ⟨q246, hq246, hf⟩ := ob_some hf
    refine z_callSi (As := [.int (x1 >>> ((4 : Int32) &&& 31)), .int (6 : Int32)]) (rest := []) (t_L_low G l hN (x1 >>> ((4 : Int32) &&& 31)) (6 : Int32) q7.2 hq246) cs_L_low hx hb hml hl.1 Z hw wd439 rfl rfl (Nat.le_of_ble_eq_true rfl) (by decide) dL_does_246 (fun H locs hw => ?_)
    refine lv_istore (lv' := [(6, _), (3, _), (2, _), (0, _), (1, _)]) hx hb dL_does_249 hl (by decide) rfl (fun ls hl => ?_)
    refine lv_iload hx hb dL_does_251 (lv_at hl 0 rfl) ?_
    obtain ⟨j253, hqj253, hf⟩ := ob_some hf
    have HJ355 : ∀ (ls : Array Slot) (H : Heap) (locs : List Loc), lv_has ls 8 [(0, .ref (ra G 0)), (6, .int q246)] → HW G q7.2 s H locs → WZ p l e 6 s m args below meth c G (some (.int r)) h' H locs (F0 m 355 ls [.int j253]) := by
      intro ls H locs hl hw
      refine lv_istore (lv' := [(7, _), (0, _), (6, _)]) hx hb dL_does_355 hl (by decide) rfl (fun ls hl => ?_)
      refine lv_aload_n hx hb dL_does_357 rfl (lv_at hl 1 rfl) ?_
      refine lv_iload hx hb dL_does_358 (lv_at hl 2 rfl) ?_
      refine lv_iload hx hb dL_does_360 (lv_at hl 0 rfl) ?_
      obtain ⟨q362, hq362, hf⟩ := ob_some hf
      refine z_callVi (o := 0) (ci := 8) (As := [.int q246, .int j253]) (rest := []) (t_X10_set G l hN q246 j253 q7.2 hq362) cv_X10_set hx hb hml hl.1 Z hw (by decide) (by decide) (by omega) rfl rfl wd258 rfl rfl (Nat.le_of_ble_eq_true rfl) (by decide) dL_does_362 (fun H locs hw => ?_)
      refine lv_istore_n (lv' := [(2, _), (7, _), (0, _), (6, _)]) hx hb dL_does_365 rfl hl (by decide) rfl (fun ls hl => ?_)
      refine lv_iload_n hx hb dL_does_366 rfl (lv_at hl 0 rfl) ?_
      refine lv_bipush (v := (-5 : Int32)) hx hb dL_does_367 (by decide) ?_
      refine lv_icmp_ne (tgt := 376) hx hb dL_does_369 (by decide) (fun c369 => ?_) (fun c369 => ?_)
      · have hf := (if_neg c369).symm.trans hf
        refine lv_iload_n hx hb dL_does_376 rfl (lv_at hl 0 rfl) ?_
        obtain ⟨rfl, rfl⟩ := Prod.mk.inj (Option.some.inj hf)
        exact z_iret hx hb hr hlk hw dL_does_377
      · have hf := (if_pos c369).symm.trans hf
        refine lv_iconst (v := (0 : Int32)) hx hb dL_does_372 (by decide) ?_
        refine lv_goto (tgt := 377) hx hb dL_does_373 (by decide) ?_
        obtain ⟨rfl, rfl⟩ := Prod.mk.inj (Option.some.inj hf)
        exact z_iret hx hb hr hlk hw dL_does_377
    have hf := hqj253
    refine lv_if_ne (tgt := 270) hx hb dL_does_253 (by decide) (fun c253 => ?_) (fun c253 => ?_)
    · have hf := (if_neg c253).symm.trans hf
      refine lv_iload hx hb dL_does_270 (lv_at hl 0 rfl) ?_
      refine lv_iconst (v := (1 : Int32)) hx hb dL_does_272 (by decide) ?_
      refine lv_icmp_ne (tgt := 287) hx hb dL_does_273 (by decide) (fun c273 => ?_) (fun c273 => ?_)
      · have hf := (if_neg c273).symm.trans hf
        refine lv_iload hx hb dL_does_287 (lv_at hl 0 rfl) ?_
        refine lv_iconst (v := (2 : Int32)) hx hb dL_does_289 (by decide) ?_
        refine lv_icmp_ne (tgt := 307) hx hb dL_does_290 (by decide) (fun c290 => ?_) (fun c290 => ?_)
        · have hf := (if_neg c290).symm.trans hf
          refine lv_iload hx hb dL_does_307 (lv_at hl 0 rfl) ?_
          refine lv_iconst (v := (3 : Int32)) hx hb dL_does_309 (by decide) ?_
          refine lv_icmp_ne (tgt := 325) hx hb dL_does_310 (by decide) (fun c310 => ?_) (fun c310 => ?_)
          · have hf := (if_neg c310).symm.trans hf
            refine lv_iload hx hb dL_does_325 (lv_at hl 0 rfl) ?_
            refine lv_iconst (v := (4 : Int32)) hx hb dL_does_327 (by decide) ?_
            refine lv_icmp_ne (tgt := 346) hx hb dL_does_328 (by decide) (fun c328 => ?_) (fun c328 => ?_)
            · have hf := (if_neg c328).symm.trans hf
              refine lv_iload_n hx hb dL_does_346 rfl (lv_at hl 4 rfl) ?_
              refine lv_bipush (v := (7 : Int32)) hx hb dL_does_347 (by decide) ?_
              refine lv_ishr hx hb dL_does_349 ?_
              refine lv_bipush (v := (21 : Int32)) hx hb dL_does_350 (by decide) ?_
              obtain ⟨q352, hq352, hf⟩ := ob_some hf
              refine z_callSi (As := [.int (x1 >>> ((7 : Int32) &&& 31)), .int (21 : Int32)]) (rest := []) (t_L_low G l hN (x1 >>> ((7 : Int32) &&& 31)) (21 : Int32) q7.2 hq352) cs_L_low hx hb hml hl.1 Z hw wd439 rfl rfl (Nat.le_of_ble_eq_true rfl) (by decide) dL_does_352 (fun H locs hw => ?_)
              obtain rfl := Option.some.inj hf
              exact HJ355 ls H locs (lv_sub hl [3, 0] rfl) hw
            · have hf := (if_pos c328).symm.trans hf
              refine lv_bipush (v := (60 : Int32)) hx hb dL_does_331 (by decide) ?_
              refine lv_iload_n hx hb dL_does_333 rfl (lv_at hl 4 rfl) ?_
              refine lv_bipush (v := (7 : Int32)) hx hb dL_does_334 (by decide) ?_
              refine lv_ishr hx hb dL_does_336 ?_
              refine lv_bipush (v := (81 : Int32)) hx hb dL_does_337 (by decide) ?_
              obtain ⟨q339, hq339, hf⟩ := ob_some hf
              refine z_callSi (As := [.int (x1 >>> ((7 : Int32) &&& 31)), .int (81 : Int32)]) (rest := [.int (60 : Int32)]) (t_L_low G l hN (x1 >>> ((7 : Int32) &&& 31)) (81 : Int32) q7.2 hq339) cs_L_low hx hb hml hl.1 Z hw wd439 rfl rfl (Nat.le_of_ble_eq_true rfl) (by decide) dL_does_339 (fun H locs hw => ?_)
              refine lv_iadd hx hb dL_does_342 ?_
              refine lv_goto (tgt := 355) hx hb dL_does_343 (by decide) ?_
              obtain rfl := Option.some.inj hf
              exact HJ355 ls H locs (lv_sub hl [3, 0] rfl) hw
          · have hf := (if_pos c310).symm.trans hf
            refine lv_iload_n hx hb dL_does_313 rfl (lv_at hl 4 rfl) ?_
            refine lv_bipush (v := (7 : Int32)) hx hb dL_does_314 (by decide) ?_
            refine lv_ishr hx hb dL_does_316 ?_
            refine lv_bipush (v := (6 : Int32)) hx hb dL_does_317 (by decide) ?_
            obtain ⟨q319, hq319, hf⟩ := ob_some hf
            refine z_callSi (As := [.int (x1 >>> ((7 : Int32) &&& 31)), .int (6 : Int32)]) (rest := []) (t_L_low G l hN (x1 >>> ((7 : Int32) &&& 31)) (6 : Int32) q7.2 hq319) cs_L_low hx hb hml hl.1 Z hw wd439 rfl rfl (Nat.le_of_ble_eq_true rfl) (by decide) dL_does_319 (fun H locs hw => ?_)
            refine lv_goto (tgt := 355) hx hb dL_does_322 (by decide) ?_
            obtain rfl := Option.some.inj hf
            exact HJ355 ls H locs (lv_sub hl [3, 0] rfl) hw
        · have hf := (if_pos c290).symm.trans hf
          refine lv_iconst (v := (1 : Int32)) hx hb dL_does_293 (by decide) ?_
          refine lv_iload_n hx hb dL_does_294 rfl (lv_at hl 4 rfl) ?_
          refine lv_bipush (v := (7 : Int32)) hx hb dL_does_295 (by decide) ?_
          refine lv_ishr hx hb dL_does_297 ?_
          refine lv_bipush (v := (9 : Int32)) hx hb dL_does_298 (by decide) ?_
          obtain ⟨q300, hq300, hf⟩ := ob_some hf
          refine z_callSi (As := [.int (x1 >>> ((7 : Int32) &&& 31)), .int (9 : Int32)]) (rest := [.int (1 : Int32)]) (t_L_low G l hN (x1 >>> ((7 : Int32) &&& 31)) (9 : Int32) q7.2 hq300) cs_L_low hx hb hml hl.1 Z hw wd439 rfl rfl (Nat.le_of_ble_eq_true rfl) (by decide) dL_does_300 (fun H locs hw => ?_)
          refine lv_iadd hx hb dL_does_303 ?_
          refine lv_goto (tgt := 355) hx hb dL_does_304 (by decide) ?_
          obtain rfl := Option.some.inj hf
          exact HJ355 ls H locs (lv_sub hl [3, 0] rfl) hw
      · have hf := (if_pos c273).symm.trans hf
        refine lv_iload_n hx hb dL_does_276 rfl (lv_at hl 4 rfl) ?_
        refine lv_bipush (v := (7 : Int32)) hx hb dL_does_277 (by decide) ?_
        refine lv_ishr hx hb dL_does_279 ?_
        refine lv_iconst (v := (2 : Int32)) hx hb dL_does_280 (by decide) ?_
        obtain ⟨q281, hq281, hf⟩ := ob_some hf
        refine z_callSi (As := [.int (x1 >>> ((7 : Int32) &&& 31)), .int (2 : Int32)]) (rest := []) (t_L_low G l hN (x1 >>> ((7 : Int32) &&& 31)) (2 : Int32) q7.2 hq281) cs_L_low hx hb hml hl.1 Z hw wd439 rfl rfl (Nat.le_of_ble_eq_true rfl) (by decide) dL_does_281 (fun H locs hw => ?_)
        refine lv_goto (tgt := 355) hx hb dL_does_284 (by decide) ?_
        obtain rfl := Option.some.inj hf
        exact HJ355 ls H locs (lv_sub hl [3, 0] rfl) hw
    · have hf := (if_pos c253).symm.trans hf
      refine lv_bipush (v := (8 : Int32)) hx hb dL_does_256 (by decide) ?_
      refine lv_iload_n hx hb dL_does_258 rfl (lv_at hl 4 rfl) ?_
      refine lv_bipush (v := (7 : Int32)) hx hb dL_does_259 (by decide) ?_
      refine lv_ishr hx hb dL_does_261 ?_
      refine lv_iconst (v := (5 : Int32)) hx hb dL_does_262 (by decide) ?_
      obtain ⟨q263, hq263, hf⟩ := ob_some hf
      refine z_callSi (As := [.int (x1 >>> ((7 : Int32) &&& 31)), .int (5 : Int32)]) (rest := [.int (8 : Int32)]) (t_L_low G l hN (x1 >>> ((7 : Int32) &&& 31)) (5 : Int32) q7.2 hq263) cs_L_low hx hb hml hl.1 Z hw wd439 rfl rfl (Nat.le_of_ble_eq_true rfl) (by decide) dL_does_263 (fun H locs hw => ?_)
      refine lv_iadd hx hb dL_does_266 ?_
      refine lv_goto (tgt := 355) hx hb dL_does_267 (by decide) ?_
      obtain rfl := Option.some.inj hf
      exact HJ355 ls H locs (lv_sub hl [3, 0] rfl) hw
  have hf := (if_neg c18_7).symm.trans hf
  by_cases c18_8 : x1 &&& (15 : Int32) = 8
  · have hf := (if_pos c18_8).symm.trans hf
    refine z_sw c18_8 ?_
    refine lv_tableIn (tgt := 378) hx hb dL_does_18 (by decide) (by decide) rfl (by decide) ?_
    refine lv_aload_n hx hb dL_does_378 rfl (lv_at hl 2 rfl) ?_
    refine lv_iconst (v := (1 : Int32)) hx hb dL_does_379 (by decide) ?_
    refine lv_iload_n hx hb dL_does_380 rfl (lv_at hl 3 rfl) ?_
    refine lv_iconst (v := (4 : Int32)) hx hb dL_does_381 (by decide) ?_
    refine lv_ishr hx hb dL_does_382 ?_
    refine lv_bipush (v := (60 : Int32)) hx hb dL_does_383 (by decide) ?_
    obtain ⟨q385, hq385, hf⟩ := ob_some hf
    refine z_callSi (As := [.int (x1 >>> ((4 : Int32) &&& 31)), .int (60 : Int32)]) (rest := [.int (1 : Int32), .ref (ra G 0)]) (t_L_low G l hN (x1 >>> ((4 : Int32) &&& 31)) (60 : Int32) q7.2 hq385) cs_L_low hx hb hml hl.1 Z hw wd439 rfl rfl (Nat.le_of_ble_eq_true rfl) (by decide) dL_does_385 (fun H locs hw => ?_)
    refine lv_iadd hx hb dL_does_388 ?_
    obtain ⟨q389, hq389, hf⟩ := ob_some hf
    refine z_callVi (o := 0) (ci := 8) (As := [.int ((1 : Int32) + q385)]) (rest := []) (t_X10_play G l hN ((1 : Int32) + q385) q7.2 hq389) cv_X10_play hx hb hml hl.1 Z hw (by decide) (by decide) (by omega) rfl rfl wd519 rfl rfl (Nat.le_of_ble_eq_true rfl) (by decide) dL_does_389 (fun H locs hw => ?_)
    refine lv_istore_n (lv' := [(2, _), (3, _), (0, _), (1, _)]) hx hb dL_does_392 rfl hl (by decide) rfl (fun ls hl => ?_)
    refine lv_iload_n hx hb dL_does_393 rfl (lv_at hl 0 rfl) ?_
    refine lv_bipush (v := (-5 : Int32)) hx hb dL_does_394 (by decide) ?_
    refine lv_icmp_ne (tgt := 403) hx hb dL_does_396 (by decide) (fun c396 => ?_) (fun c396 => ?_)
    · have hf := (if_neg c396).symm.trans hf
      refine lv_iload_n hx hb dL_does_403 rfl (lv_at hl 0 rfl) ?_
      obtain ⟨rfl, rfl⟩ := Prod.mk.inj (Option.some.inj hf)
      exact z_iret hx hb hr hlk hw dL_does_404
    · have hf := (if_pos c396).symm.trans hf
      refine lv_iconst (v := (0 : Int32)) hx hb dL_does_399 (by decide) ?_
      refine lv_goto (tgt := 404) hx hb dL_does_400 (by decide) ?_
      obtain ⟨rfl, rfl⟩ := Prod.mk.inj (Option.some.inj hf)
      exact z_iret hx hb hr hlk hw dL_does_404
  have hf := (if_neg c18_8).symm.trans hf
  by_cases c18_9 : x1 &&& (15 : Int32) = 9
  · have hf := (if_pos c18_9).symm.trans hf
    refine z_sw c18_9 ?_
    refine lv_tableIn (tgt := 378) hx hb dL_does_18 (by decide) (by decide) rfl (by decide) ?_
    refine lv_aload_n hx hb dL_does_378 rfl (lv_at hl 2 rfl) ?_
    refine lv_iconst (v := (1 : Int32)) hx hb dL_does_379 (by decide) ?_
    refine lv_iload_n hx hb dL_does_380 rfl (lv_at hl 3 rfl) ?_
    refine lv_iconst (v := (4 : Int32)) hx hb dL_does_381 (by decide) ?_
    refine lv_ishr hx hb dL_does_382 ?_
    refine lv_bipush (v := (60 : Int32)) hx hb dL_does_383 (by decide) ?_
    obtain ⟨q385, hq385, hf⟩ := ob_some hf
    refine z_callSi (As := [.int (x1 >>> ((4 : Int32) &&& 31)), .int (60 : Int32)]) (rest := [.int (1 : Int32), .ref (ra G 0)]) (t_L_low G l hN (x1 >>> ((4 : Int32) &&& 31)) (60 : Int32) q7.2 hq385) cs_L_low hx hb hml hl.1 Z hw wd439 rfl rfl (Nat.le_of_ble_eq_true rfl) (by decide) dL_does_385 (fun H locs hw => ?_)
    refine lv_iadd hx hb dL_does_388 ?_
    obtain ⟨q389, hq389, hf⟩ := ob_some hf
    refine z_callVi (o := 0) (ci := 8) (As := [.int ((1 : Int32) + q385)]) (rest := []) (t_X10_play G l hN ((1 : Int32) + q385) q7.2 hq389) cv_X10_play hx hb hml hl.1 Z hw (by decide) (by decide) (by omega) rfl rfl wd519 rfl rfl (Nat.le_of_ble_eq_true rfl) (by decide) dL_does_389 (fun H locs hw => ?_)
    refine lv_istore_n (lv' := [(2, _), (3, _), (0, _), (1, _)]) hx hb dL_does_392 rfl hl (by decide) rfl (fun ls hl => ?_)
    refine lv_iload_n hx hb dL_does_393 rfl (lv_at hl 0 rfl) ?_
    refine lv_bipush (v := (-5 : Int32)) hx hb dL_does_394 (by decide) ?_
    refine lv_icmp_ne (tgt := 403) hx hb dL_does_396 (by decide) (fun c396 => ?_) (fun c396 => ?_)
    · have hf := (if_neg c396).symm.trans hf
      refine lv_iload_n hx hb dL_does_403 rfl (lv_at hl 0 rfl) ?_
      obtain ⟨rfl, rfl⟩ := Prod.mk.inj (Option.some.inj hf)
      exact z_iret hx hb hr hlk hw dL_does_404
    · have hf := (if_pos c396).symm.trans hf
      refine lv_iconst (v := (0 : Int32)) hx hb dL_does_399 (by decide) ?_
      refine lv_goto (tgt := 404) hx hb dL_does_400 (by decide) ?_
      obtain ⟨rfl, rfl⟩ := Prod.mk.inj (Option.some.inj hf)
      exact z_iret hx hb hr hlk hw dL_does_404
  have hf := (if_neg c18_9).symm.trans hf
  by_cases c18_10 : x1 &&& (15 : Int32) = 10
  · have hf := (if_pos c18_10).symm.trans hf
    refine z_sw c18_10 ?_
    refine lv_tableIn (tgt := 378) hx hb dL_does_18 (by decide) (by decide) rfl (by decide) ?_
    refine lv_aload_n hx hb dL_does_378 rfl (lv_at hl 2 rfl) ?_
    refine lv_iconst (v := (1 : Int32)) hx hb dL_does_379 (by decide) ?_
    refine lv_iload_n hx hb dL_does_380 rfl (lv_at hl 3 rfl) ?_
    refine lv_iconst (v := (4 : Int32)) hx hb dL_does_381 (by decide) ?_
    refine lv_ishr hx hb dL_does_382 ?_
    refine lv_bipush (v := (60 : Int32)) hx hb dL_does_383 (by decide) ?_
    obtain ⟨q385, hq385, hf⟩ := ob_some hf
    refine z_callSi (As := [.int (x1 >>> ((4 : Int32) &&& 31)), .int (60 : Int32)]) (rest := [.int (1 : Int32), .ref (ra G 0)]) (t_L_low G l hN (x1 >>> ((4 : Int32) &&& 31)) (60 : Int32) q7.2 hq385) cs_L_low hx hb hml hl.1 Z hw wd439 rfl rfl (Nat.le_of_ble_eq_true rfl) (by decide) dL_does_385 (fun H locs hw => ?_)
    refine lv_iadd hx hb dL_does_388 ?_
    obtain ⟨q389, hq389, hf⟩ := ob_some hf
    refine z_callVi (o := 0) (ci := 8) (As := [.int ((1 : Int32) + q385)]) (rest := []) (t_X10_play G l hN ((1 : Int32) + q385) q7.2 hq389) cv_X10_play hx hb hml hl.1 Z hw (by decide) (by decide) (by omega) rfl rfl wd519 rfl rfl (Nat.le_of_ble_eq_true rfl) (by decide) dL_does_389 (fun H locs hw => ?_)
    refine lv_istore_n (lv' := [(2, _), (3, _), (0, _), (1, _)]) hx hb dL_does_392 rfl hl (by decide) rfl (fun ls hl => ?_)
    refine lv_iload_n hx hb dL_does_393 rfl (lv_at hl 0 rfl) ?_
    refine lv_bipush (v := (-5 : Int32)) hx hb dL_does_394 (by decide) ?_
    refine lv_icmp_ne (tgt := 403) hx hb dL_does_396 (by decide) (fun c396 => ?_) (fun c396 => ?_)
    · have hf := (if_neg c396).symm.trans hf
      refine lv_iload_n hx hb dL_does_403 rfl (lv_at hl 0 rfl) ?_
      obtain ⟨rfl, rfl⟩ := Prod.mk.inj (Option.some.inj hf)
      exact z_iret hx hb hr hlk hw dL_does_404
    · have hf := (if_pos c396).symm.trans hf
      refine lv_iconst (v := (0 : Int32)) hx hb dL_does_399 (by decide) ?_
      refine lv_goto (tgt := 404) hx hb dL_does_400 (by decide) ?_
      obtain ⟨rfl, rfl⟩ := Prod.mk.inj (Option.some.inj hf)
      exact z_iret hx hb hr hlk hw dL_does_404
  have hf := (if_neg c18_10).symm.trans hf
  refine lv_tableOut (tgt := 405) hx hb dL_does_18 (by have := [0]; have e0 := sw_ne (k := 0) (by decide) c18_0; have e1 := sw_ne (k := 1) (by decide) c18_1; have e2 := sw_ne (k := 2) (by decide) c18_2; have e3 := sw_ne (k := 3) (by decide) c18_3; have e4 := sw_ne (k := 4) (by decide) c18_4; have e5 := sw_ne (k := 5) (by decide) c18_5; have e6 := sw_ne (k := 6) (by decide) c18_6; have e7 := sw_ne (k := 7) (by decide) c18_7; have e8 := sw_ne (k := 8) (by decide) c18_8; have e9 := sw_ne (k := 9) (by decide) c18_9; have e10 := sw_ne (k := 10) (by decide) c18_10; omega) (by decide) ?_
  refine lv_aload_n hx hb dL_does_405 rfl (lv_at hl 2 rfl) ?_
  refine lv_iload_n hx hb dL_does_406 rfl (lv_at hl 0 rfl) ?_
  obtain ⟨q407, hq407, hf⟩ := ob_some hf
  refine z_callVi (o := 0) (ci := 8) (As := [.int q10]) (rest := []) (t_X10_seek G l hN q10 q7.2 hq407) cv_X10_seek hx hb hml hl.1 Z hw (by decide) (by decide) (by omega) rfl rfl wd551 rfl rfl (Nat.le_of_ble_eq_true rfl) (by decide) dL_does_407 (fun H locs hw => ?_)
  obtain ⟨rfl, rfl⟩ := Prod.mk.inj (Option.some.inj hf)
  exact z_iret hx hb hr hlk hw dL_does_410
set_option maxHeartbeats 4000000 in
set_option maxRecDepth 100000 in
theorem w_L_isFrameSo_L169 (G : GM) (l : Launch) (hN : 70 ≤ gN G)  {p : Program} {e : Env} {s : State} {m : MethodId} {args : Array Value} {below : List Frame} {meth : Method} {c : Code} (hx : p.tables.exec = Jvm.exec) (hb : c.code = cL_isFrameSo) (hr : meth.sig.returnType = (some .boolean)) (hlk : meth.locks = false) (hml : c.maxLocals = 21) (Z : ZK G s args m RL) : ∀ (n : Nat) (x4 : Int32) (x8 : Int32) (x9 : Int32)  (h : HP) (v1 : Int32) (v2 : Int32) (v5 : Int32) (v6 : Int32) (v7 : Int32) (rv : Option Value) (hq : HP) (ls : Array Slot) (H : Heap) (locs : List Loc) {q : Int32 × HP}, lv_has ls 21 [(0, .ref (ra G 0)), (1, .int v1), (2, .int v2), (4, .int x4), (5, .int v5), (6, .int v6), (7, .int v7), (8, .int x8), (9, .int x9)] → HW G h s H locs → f_L_isFrameSo_L169 n x4 x8 x9 h = some q → (∀ (ls : Array Slot) (H : Heap) (locs : List Loc), lv_has ls 21 [(0, .ref (ra G 0)), (1, .int v1), (2, .int v2), (5, .int v5), (6, .int v6), (7, .int v7), (8, .int q.1)] → HW G q.2 s H locs → WZ p l e 6 s m args below meth c G rv hq H locs (F0 m 203 ls [])) → WZ p l e 6 s m args below meth c G rv hq H locs (F0 m 169 ls []) := by
  intro n
  induction n with
  | zero => intro x4 x8 x9  h v1 v2 v5 v6 v7 rv hq ls H locs q hl hw hf kk; cases hf
  | succ n ih =>
    intro x4 x8 x9  h v1 v2 v5 v6 v7 rv hq ls H locs q hl hw hf kk
    rw [f_L_isFrameSo_L169] at hf
    refine lv_iload hx hb dL_isFrameSo_169 (lv_at hl 8 rfl) ?_
    refine lv_iconst (v := (5 : Int32)) hx hb dL_isFrameSo_171 (by decide) ?_
    refine lv_icmp_ge (tgt := 203) hx hb dL_isFrameSo_172 (by decide) (fun c172 => ?_) (fun c172 => ?_)
    · have hf := (if_pos c172).symm.trans hf
      obtain rfl := Option.some.inj hf
      exact kk ls H locs (lv_sub hl [0, 1, 2, 4, 5, 6, 7] rfl) hw
    · have hf := (if_neg c172).symm.trans hf
      refine lv_iload hx hb dL_isFrameSo_175 (lv_at hl 3 rfl) ?_
      refine lv_if_lt (tgt := 203) hx hb dL_isFrameSo_177 (by decide) (fun c177 => ?_) (fun c177 => ?_)
      · have hf := (if_pos c177).symm.trans hf
        obtain rfl := Option.some.inj hf
        exact kk ls H locs (lv_sub hl [0, 1, 2, 4, 5, 6, 7] rfl) hw
      · have hf := (if_neg c177).symm.trans hf
        refine lv_iload hx hb dL_isFrameSo_180 (lv_at hl 7 rfl) ?_
        refine lv_aload_n hx hb dL_isFrameSo_182 rfl (lv_at hl 0 rfl) ?_
        refine lv_iconst (v := (5 : Int32)) hx hb dL_isFrameSo_183 (by decide) ?_
        refine lv_iload hx hb dL_isFrameSo_184 (lv_at hl 3 rfl) ?_
        refine lv_imul hx hb dL_isFrameSo_186 ?_
        refine lv_iload hx hb dL_isFrameSo_187 (lv_at hl 8 rfl) ?_
        refine lv_iadd hx hb dL_isFrameSo_189 ?_
        refine lv_iconst (v := (4 : Int32)) hx hb dL_isFrameSo_190 (by decide) ?_
        obtain ⟨q191, hq191, hf⟩ := ob_some hf
        refine z_callVi (o := 0) (ci := 8) (As := [.int (((5 : Int32) * x4) + x9), .int (4 : Int32)]) (rest := [.int x8]) (t_X10_frame G l hN (((5 : Int32) * x4) + x9) (4 : Int32) h hq191) cv_X10_frame hx hb hml hl.1 Z hw (by decide) (by decide) (by omega) rfl rfl wd571 rfl rfl (Nat.le_of_ble_eq_true rfl) (by decide) dL_isFrameSo_191 (fun H locs hw => ?_)
        refine lv_iadd hx hb dL_isFrameSo_194 ?_
        refine lv_istore (lv' := [(8, _), (0, _), (1, _), (2, _), (4, _), (5, _), (6, _), (7, _), (9, _)]) hx hb dL_isFrameSo_195 hl (by decide) rfl (fun ls hl => ?_)
        refine lv_iinc (v := x9 + (1 : Int32)) (lv' := [(9, _), (8, _), (0, _), (1, _), (2, _), (4, _), (5, _), (6, _), (7, _)]) hx hb dL_isFrameSo_197 hl (k := 8) rfl rfl (by decide) rfl (fun ls hl => ?_)
        refine lv_goto (tgt := 169) hx hb dL_isFrameSo_200 (by decide) ?_
        exact ih x4 (x8 + q191.1) (x9 + (1 : Int32)) q191.2 v1 v2 v5 v6 v7 rv hq ls H locs (lv_sub hl [2, 3, 4, 5, 6, 7, 8, 1, 0] rfl) hw hf kk
set_option maxHeartbeats 4000000 in
set_option maxRecDepth 100000 in
theorem w_L_isFrameSo_L419 (G : GM) (l : Launch) (hN : 70 ≤ gN G)  {p : Program} {e : Env} {s : State} {m : MethodId} {args : Array Value} {below : List Frame} {meth : Method} {c : Code} (hx : p.tables.exec = Jvm.exec) (hb : c.code = cL_isFrameSo) (hr : meth.sig.returnType = (some .boolean)) (hlk : meth.locks = false) (hml : c.maxLocals = 21) (Z : ZK G s args m RL) : ∀ (n : Nat) (x1 : Int32) (x6 : Int32) (x15 : Int32) (x18 : Int32) (x19 : Int32)  (h : HP) (v5 : Int32) (v7 : Int32) (v9 : Int32) (v10 : Int32) (v12 : Int32) (v13 : Int32) (v14 : Int32) (v16 : Int32) (v17 : Int32) (rv : Option Value) (hq : HP) (ls : Array Slot) (H : Heap) (locs : List Loc) {q : Int32 × HP}, lv_has ls 21 [(0, .ref (ra G 0)), (1, .int x1), (5, .int v5), (6, .int x6), (7, .int v7), (9, .int v9), (10, .int v10), (12, .int v12), (13, .int v13), (14, .int v14), (15, .int x15), (16, .int v16), (17, .int v17), (18, .int x18), (19, .int x19)] → HW G h s H locs → f_L_isFrameSo_L419 n x1 x6 x15 x18 x19 h = some q → (∀ (ls : Array Slot) (H : Heap) (locs : List Loc), lv_has ls 21 [(0, .ref (ra G 0)), (1, .int x1), (5, .int v5), (6, .int x6), (7, .int v7), (9, .int v9), (10, .int v10), (12, .int v12), (13, .int v13), (14, .int v14), (15, .int x15), (16, .int v16), (17, .int v17), (18, .int q.1)] → HW G q.2 s H locs → WZ p l e 6 s m args below meth c G rv hq H locs (F0 m 452 ls [])) → WZ p l e 6 s m args below meth c G rv hq H locs (F0 m 419 ls []) := by
  intro n
  induction n with
  | zero => intro x1 x6 x15 x18 x19  h v5 v7 v9 v10 v12 v13 v14 v16 v17 rv hq ls H locs q hl hw hf kk; cases hf
  | succ n ih =>
    intro x1 x6 x15 x18 x19  h v5 v7 v9 v10 v12 v13 v14 v16 v17 rv hq ls H locs q hl hw hf kk
    rw [f_L_isFrameSo_L419] at hf
    refine lv_iload hx hb dL_isFrameSo_419 (lv_at hl 14 rfl) ?_
    refine lv_iconst (v := (5 : Int32)) hx hb dL_isFrameSo_421 (by decide) ?_
    refine lv_icmp_ge (tgt := 452) hx hb dL_isFrameSo_422 (by decide) (fun c422 => ?_) (fun c422 => ?_)
    · have hf := (if_pos c422).symm.trans hf
      obtain rfl := Option.some.inj hf
      exact kk ls H locs (lv_sub hl [0, 1, 2, 3, 4, 5, 6, 7, 8, 9, 10, 11, 12, 13] rfl) hw
    · have hf := (if_neg c422).symm.trans hf
      refine lv_iload hx hb dL_isFrameSo_425 (lv_at hl 3 rfl) ?_
      refine lv_if_eq (tgt := 452) hx hb dL_isFrameSo_427 (by decide) (fun c427 => ?_) (fun c427 => ?_)
      · have hf := (if_pos c427).symm.trans hf
        obtain rfl := Option.some.inj hf
        exact kk ls H locs (lv_sub hl [0, 1, 2, 3, 4, 5, 6, 7, 8, 9, 10, 11, 12, 13] rfl) hw
      · have hf := (if_neg c427).symm.trans hf
        refine lv_iload hx hb dL_isFrameSo_430 (lv_at hl 13 rfl) ?_
        refine lv_aload_n hx hb dL_isFrameSo_432 rfl (lv_at hl 0 rfl) ?_
        refine lv_iload_n hx hb dL_isFrameSo_433 rfl (lv_at hl 1 rfl) ?_
        refine lv_iload hx hb dL_isFrameSo_434 (lv_at hl 14 rfl) ?_
        refine lv_isub hx hb dL_isFrameSo_436 ?_
        refine lv_iload hx hb dL_isFrameSo_437 (lv_at hl 10 rfl) ?_
        refine lv_iconst (v := (0 : Int32)) hx hb dL_isFrameSo_439 (by decide) ?_
        obtain ⟨q440, hq440, hf⟩ := ob_some hf
        refine z_callVi (o := 0) (ci := 8) (As := [.int (x1 - x19), .int x15, .int (0 : Int32)]) (rest := [.int x18]) (t_X10_symbol G l hN (x1 - x19) x15 (0 : Int32) h hq440) cv_X10_symbol hx hb hml hl.1 Z hw (by decide) (by decide) (by omega) rfl rfl wd616 rfl rfl (Nat.le_of_ble_eq_true rfl) (by decide) dL_isFrameSo_440 (fun H locs hw => ?_)
        refine lv_iadd hx hb dL_isFrameSo_443 ?_
        refine lv_istore (lv' := [(18, _), (0, _), (1, _), (5, _), (6, _), (7, _), (9, _), (10, _), (12, _), (13, _), (14, _), (15, _), (16, _), (17, _), (19, _)]) hx hb dL_isFrameSo_444 hl (by decide) rfl (fun ls hl => ?_)
        refine lv_iinc (v := x19 + (1 : Int32)) (lv' := [(19, _), (18, _), (0, _), (1, _), (5, _), (6, _), (7, _), (9, _), (10, _), (12, _), (13, _), (14, _), (15, _), (16, _), (17, _)]) hx hb dL_isFrameSo_446 hl (k := 14) rfl rfl (by decide) rfl (fun ls hl => ?_)
        refine lv_goto (tgt := 419) hx hb dL_isFrameSo_449 (by decide) ?_
        exact ih x1 x6 x15 (x18 + q440.1) (x19 + (1 : Int32)) q440.2 v5 v7 v9 v10 v12 v13 v14 v16 v17 rv hq ls H locs (lv_sub hl [2, 3, 4, 5, 6, 7, 8, 9, 10, 11, 12, 13, 14, 1, 0] rfl) hw hf kk
set_option maxHeartbeats 4000000 in
set_option maxRecDepth 100000 in
theorem w_L_isFrameSo_L387 (G : GM) (l : Launch) (hN : 70 ≤ gN G)  {p : Program} {e : Env} {s : State} {m : MethodId} {args : Array Value} {below : List Frame} {meth : Method} {c : Code} (hx : p.tables.exec = Jvm.exec) (hb : c.code = cL_isFrameSo) (hr : meth.sig.returnType = (some .boolean)) (hlk : meth.locks = false) (hml : c.maxLocals = 21) (Z : ZK G s args m RL) : ∀ (n : Nat) (x1 : Int32) (x5 : Int32) (x6 : Int32) (x7 : Int32) (x9 : Int32) (x10 : Int32) (x12 : Int32) (x13 : Int32) (x14 : Int32) (x15 : Int32)  (h : HP)  (rv : Option Value) (hq : HP) (ls : Array Slot) (H : Heap) (locs : List Loc) {q : Int32 × Int32 × Int32 × Int32 × HP}, lv_has ls 21 [(0, .ref (ra G 0)), (1, .int x1), (5, .int x5), (6, .int x6), (7, .int x7), (9, .int x9), (10, .int x10), (12, .int x12), (13, .int x13), (14, .int x14), (15, .int x15)] → HW G h s H locs → f_L_isFrameSo_L387 n x1 x5 x6 x7 x9 x10 x12 x13 x14 x15 h = some q → (∀ (ls : Array Slot) (H : Heap) (locs : List Loc), lv_has ls 21 [(0, .ref (ra G 0)), (1, .int x1), (7, .int q.1), (12, .int q.2.1), (13, .int q.2.2.1), (14, .int q.2.2.2.1)] → HW G q.2.2.2.2 s H locs → WZ p l e 6 s m args below meth c G rv hq H locs (F0 m 617 ls [])) → WZ p l e 6 s m args below meth c G rv hq H locs (F0 m 387 ls []) := by
  intro n
  induction n with
  | zero => intro x1 x5 x6 x7 x9 x10 x12 x13 x14 x15  h  rv hq ls H locs q hl hw hf kk; cases hf
  | succ n ih =>
    intro x1 x5 x6 x7 x9 x10 x12 x13 x14 x15  h  rv hq ls H locs q hl hw hf kk
    rw [f_L_isFrameSo_L387] at hf
    refine lv_iload hx hb dL_isFrameSo_387 (lv_at hl 10 rfl) ?_
    refine lv_iconst (v := (4 : Int32)) hx hb dL_isFrameSo_389 (by decide) ?_
    refine lv_icmp_ge (tgt := 617) hx hb dL_isFrameSo_390 (by decide) (fun c390 => ?_) (fun c390 => ?_)
    · have hf := (if_pos c390).symm.trans hf
      obtain rfl := Option.some.inj hf
      exact kk ls H locs (lv_sub hl [0, 1, 4, 7, 8, 9] rfl) hw
    · have hf := (if_neg c390).symm.trans hf
      refine lv_aload_n hx hb dL_isFrameSo_393 rfl (lv_at hl 0 rfl) ?_
      refine lv_iload_n hx hb dL_isFrameSo_394 rfl (lv_at hl 1 rfl) ?_
      refine lv_iload hx hb dL_isFrameSo_395 (lv_at hl 10 rfl) ?_
      refine lv_iconst (v := (0 : Int32)) hx hb dL_isFrameSo_397 (by decide) ?_
      obtain ⟨q398, hq398, hf⟩ := ob_some hf
      refine z_callVi (o := 0) (ci := 8) (As := [.int x1, .int x15, .int (0 : Int32)]) (rest := []) (t_X10_symbol G l hN x1 x15 (0 : Int32) h hq398) cv_X10_symbol hx hb hml hl.1 Z hw (by decide) (by decide) (by omega) rfl rfl wd616 rfl rfl (Nat.le_of_ble_eq_true rfl) (by decide) dL_isFrameSo_398 (fun H locs hw => ?_)
      refine lv_istore (lv' := [(16, _), (0, _), (1, _), (5, _), (6, _), (7, _), (9, _), (10, _), (12, _), (13, _), (14, _), (15, _)]) hx hb dL_isFrameSo_401 hl (by decide) rfl (fun ls hl => ?_)
      refine lv_aload_n hx hb dL_isFrameSo_403 rfl (lv_at hl 1 rfl) ?_
      refine lv_iload_n hx hb dL_isFrameSo_404 rfl (lv_at hl 2 rfl) ?_
      refine lv_iload hx hb dL_isFrameSo_405 (lv_at hl 11 rfl) ?_
      refine lv_iconst (v := (1 : Int32)) hx hb dL_isFrameSo_407 (by decide) ?_
      obtain ⟨q408, hq408, hf⟩ := ob_some hf
      refine z_callVi (o := 0) (ci := 8) (As := [.int x1, .int x15, .int (1 : Int32)]) (rest := []) (t_X10_symbol G l hN x1 x15 (1 : Int32) q398.2 hq408) cv_X10_symbol hx hb hml hl.1 Z hw (by decide) (by decide) (by omega) rfl rfl wd616 rfl rfl (Nat.le_of_ble_eq_true rfl) (by decide) dL_isFrameSo_408 (fun H locs hw => ?_)
      refine lv_istore (lv' := [(17, _), (16, _), (0, _), (1, _), (5, _), (6, _), (7, _), (9, _), (10, _), (12, _), (13, _), (14, _), (15, _)]) hx hb dL_isFrameSo_411 hl (by decide) rfl (fun ls hl => ?_)
      refine lv_iconst (v := (0 : Int32)) hx hb dL_isFrameSo_413 (by decide) ?_
      refine lv_istore (lv' := [(18, _), (17, _), (16, _), (0, _), (1, _), (5, _), (6, _), (7, _), (9, _), (10, _), (12, _), (13, _), (14, _), (15, _)]) hx hb dL_isFrameSo_414 hl (by decide) rfl (fun ls hl => ?_)
      refine lv_iconst (v := (1 : Int32)) hx hb dL_isFrameSo_416 (by decide) ?_
      refine lv_istore (lv' := [(19, _), (18, _), (17, _), (16, _), (0, _), (1, _), (5, _), (6, _), (7, _), (9, _), (10, _), (12, _), (13, _), (14, _), (15, _)]) hx hb dL_isFrameSo_417 hl (by decide) rfl (fun ls hl => ?_)
      obtain ⟨q419, hq419, hf⟩ := ob_some hf
      refine w_L_isFrameSo_L419 G l hN  hx hb hr hlk hml Z FU x1 x6 x15 (0 : Int32) (1 : Int32) q408.2 x5 x7 x9 x10 x12 x13 x14 q398.1 q408.1 _ _ ls H locs (lv_sub hl [4, 5, 6, 7, 8, 9, 10, 11, 12, 13, 14, 3, 2, 1, 0] rfl) hw hq419 (fun ls H locs hl hw => ?_)
      refine lv_iload hx hb dL_isFrameSo_452 (lv_at hl 4 rfl) ?_
      obtain ⟨j454, hqj454, hf⟩ := ob_some hf
      have HJ547 : ∀ (ls : Array Slot) (H : Heap) (locs : List Loc), lv_has ls 21 [(0, .ref (ra G 0)), (1, .int x1), (5, .int x5), (6, .int x6), (9, .int x9), (10, .int x10), (12, .int x12), (13, .int x13), (14, .int x14), (15, .int x15), (16, .int q398.1)] → HW G j454.2 s H locs → WZ p l e 6 s m args below meth c G rv hq H locs (F0 m 547 ls [.int j454.1]) := by
        intro ls H locs hl hw
        refine lv_istore (lv' := [(7, _), (0, _), (1, _), (5, _), (6, _), (9, _), (10, _), (12, _), (13, _), (14, _), (15, _), (16, _)]) hx hb dL_isFrameSo_547 hl (by decide) rfl (fun ls hl => ?_)
        refine lv_iconst (v := (3 : Int32)) hx hb dL_isFrameSo_549 (by decide) ?_
        refine lv_iload hx hb dL_isFrameSo_550 (lv_at hl 11 rfl) ?_
        refine lv_iconst (v := (4 : Int32)) hx hb dL_isFrameSo_552 (by decide) ?_
        refine lv_idiv hx hb dL_isFrameSo_553 (by decide) ?_
        refine lv_iadd hx hb dL_isFrameSo_554 ?_
        refine lv_istore (lv' := [(19, _), (7, _), (0, _), (1, _), (5, _), (6, _), (9, _), (10, _), (12, _), (13, _), (14, _), (15, _), (16, _)]) hx hb dL_isFrameSo_555 hl (by decide) rfl (fun ls hl => ?_)
        refine lv_iconst (v := (3 : Int32)) hx hb dL_isFrameSo_557 (by decide) ?_
        refine lv_iload hx hb dL_isFrameSo_558 (lv_at hl 12 rfl) ?_
        refine lv_iconst (v := (4 : Int32)) hx hb dL_isFrameSo_560 (by decide) ?_
        refine z_irem hx hb dL_isFrameSo_561 (by decide) ?_
        refine lv_iadd hx hb dL_isFrameSo_562 ?_
        refine lv_istore (lv' := [(20, _), (19, _), (7, _), (0, _), (1, _), (5, _), (6, _), (9, _), (10, _), (12, _), (13, _), (14, _), (15, _), (16, _)]) hx hb dL_isFrameSo_563 hl (by decide) rfl (fun ls hl => ?_)
        refine lv_iload hx hb dL_isFrameSo_565 (lv_at hl 10 rfl) ?_
        refine lv_iload hx hb dL_isFrameSo_567 (lv_at hl 1 rfl) ?_
        refine lv_iadd hx hb dL_isFrameSo_569 ?_
        obtain ⟨v570, hqv570, hf⟩ := tb_ex hf
        refine z_top hqv570 ?_
        refine lv_istore (lv' := [(13, _), (20, _), (19, _), (7, _), (0, _), (1, _), (5, _), (6, _), (9, _), (10, _), (12, _), (14, _), (15, _), (16, _)]) hx hb dL_isFrameSo_570 hl (by decide) rfl (fun ls hl => ?_)
        refine lv_iload hx hb dL_isFrameSo_572 (lv_at hl 11 rfl) ?_
        refine lv_iload hx hb dL_isFrameSo_574 (lv_at hl 1 rfl) ?_
        refine lv_iadd hx hb dL_isFrameSo_576 ?_
        obtain ⟨v577, hqv577, hf⟩ := tb_ex hf
        refine z_top hqv577 ?_
        refine lv_istore (lv' := [(14, _), (13, _), (20, _), (19, _), (7, _), (0, _), (1, _), (5, _), (6, _), (9, _), (10, _), (12, _), (15, _), (16, _)]) hx hb dL_isFrameSo_577 hl (by decide) rfl (fun ls hl => ?_)
        refine lv_iload hx hb dL_isFrameSo_579 (lv_at hl 3 rfl) ?_
        refine lv_iload hx hb dL_isFrameSo_581 (lv_at hl 11 rfl) ?_
        have HJ593 : ∀ (ls : Array Slot) (H : Heap) (locs : List Loc), lv_has ls 21 [(0, .ref (ra G 0)), (1, .int x1), (5, .int x5), (6, .int x6), (7, .int j454.1), (9, .int x9), (10, .int x10), (13, .int v570), (14, .int v577), (15, .int x15), (20, .int ((3 : Int32) + (jrem q398.1 (4 : Int32))))] → HW G j454.2 s H locs → WZ p l e 6 s m args below meth c G rv hq H locs (F0 m 593 ls [.int (if ((3 : Int32) + (q398.1 / (4 : Int32))) ≤ x12 then x12 else ((3 : Int32) + (q398.1 / (4 : Int32))))]) := by
          intro ls H locs hl hw
          obtain ⟨v593, hqv593, hf⟩ := tb_ex hf
          refine z_top hqv593 ?_
          refine lv_istore (lv' := [(12, _), (0, _), (1, _), (5, _), (6, _), (7, _), (9, _), (10, _), (13, _), (14, _), (15, _), (20, _)]) hx hb dL_isFrameSo_593 hl (by decide) rfl (fun ls hl => ?_)
          refine lv_iload hx hb dL_isFrameSo_595 (lv_at hl 11 rfl) ?_
          refine lv_iload hx hb dL_isFrameSo_597 (lv_at hl 0 rfl) ?_
          have HJ609 : ∀ (ls : Array Slot) (H : Heap) (locs : List Loc), lv_has ls 21 [(0, .ref (ra G 0)), (1, .int x1), (5, .int x5), (6, .int x6), (7, .int j454.1), (9, .int x9), (10, .int x10), (13, .int v570), (14, .int v577), (15, .int x15)] → HW G j454.2 s H locs → WZ p l e 6 s m args below meth c G rv hq H locs (F0 m 609 ls [.int (if ((3 : Int32) + (jrem q398.1 (4 : Int32))) ≤ v593 then v593 else ((3 : Int32) + (jrem q398.1 (4 : Int32))))]) := by
            intro ls H locs hl hw
            obtain ⟨v609, hqv609, hf⟩ := tb_ex hf
            refine z_top hqv609 ?_
            refine lv_istore (lv' := [(12, _), (0, _), (1, _), (5, _), (6, _), (7, _), (9, _), (10, _), (13, _), (14, _), (15, _)]) hx hb dL_isFrameSo_609 hl (by decide) rfl (fun ls hl => ?_)
            refine lv_iinc (v := x15 + (1 : Int32)) (lv' := [(15, _), (12, _), (0, _), (1, _), (5, _), (6, _), (7, _), (9, _), (10, _), (13, _), (14, _)]) hx hb dL_isFrameSo_611 hl (k := 10) rfl rfl (by decide) rfl (fun ls hl => ?_)
            refine lv_goto (tgt := 387) hx hb dL_isFrameSo_614 (by decide) ?_
            exact ih x1 x5 x6 j454.1 x9 x10 v609 v570 v577 (x15 + (1 : Int32)) j454.2  rv hq ls H locs (lv_sub hl [2, 3, 4, 5, 6, 7, 8, 1, 9, 10, 0] rfl) hw hf kk
          refine lv_icmp_le (tgt := 607) hx hb dL_isFrameSo_599 (by decide) (fun c599 => ?_) (fun c599 => ?_)
          · skip
            refine lv_iload hx hb dL_isFrameSo_607 (lv_at hl 0 rfl) ?_
            refine W.eq (g2 := F0 m 609 ls [.int (if ((3 : Int32) + (jrem q398.1 (4 : Int32))) ≤ v593 then v593 else ((3 : Int32) + (jrem q398.1 (4 : Int32))))]) ?_ (HJ609 ls H locs (lv_sub hl [1, 2, 3, 4, 5, 6, 7, 8, 9, 10] rfl) hw)
            first | (simp only [if_pos c599]; done) | contradiction
          · skip
            refine lv_iload hx hb dL_isFrameSo_602 (lv_at hl 11 rfl) ?_
            refine lv_goto (tgt := 609) hx hb dL_isFrameSo_604 (by decide) ?_
            refine W.eq (g2 := F0 m 609 ls [.int (if ((3 : Int32) + (jrem q398.1 (4 : Int32))) ≤ v593 then v593 else ((3 : Int32) + (jrem q398.1 (4 : Int32))))]) ?_ (HJ609 ls H locs (lv_sub hl [1, 2, 3, 4, 5, 6, 7, 8, 9, 10] rfl) hw)
            first | (simp only [if_neg c599]; done) | contradiction
        refine lv_icmp_le (tgt := 591) hx hb dL_isFrameSo_583 (by decide) (fun c583 => ?_) (fun c583 => ?_)
        · skip
          refine lv_iload hx hb dL_isFrameSo_591 (lv_at hl 11 rfl) ?_
          refine W.eq (g2 := F0 m 593 ls [.int (if ((3 : Int32) + (q398.1 / (4 : Int32))) ≤ x12 then x12 else ((3 : Int32) + (q398.1 / (4 : Int32))))]) ?_ (HJ593 ls H locs (lv_sub hl [5, 6, 7, 8, 4, 9, 10, 1, 0, 12, 2] rfl) hw)
          first | (simp only [if_pos c583]; done) | contradiction
        · skip
          refine lv_iload hx hb dL_isFrameSo_586 (lv_at hl 3 rfl) ?_
          refine lv_goto (tgt := 593) hx hb dL_isFrameSo_588 (by decide) ?_
          refine W.eq (g2 := F0 m 593 ls [.int (if ((3 : Int32) + (q398.1 / (4 : Int32))) ≤ x12 then x12 else ((3 : Int32) + (q398.1 / (4 : Int32))))]) ?_ (HJ593 ls H locs (lv_sub hl [5, 6, 7, 8, 4, 9, 10, 1, 0, 12, 2] rfl) hw)
          first | (simp only [if_neg c583]; done) | contradiction
      have hf := hqj454
      refine lv_if_eq (tgt := 546) hx hb dL_isFrameSo_454 (by decide) (fun c454 => ?_) (fun c454 => ?_)
      · have hf := (if_pos c454).symm.trans hf
        refine lv_iconst (v := (0 : Int32)) hx hb dL_isFrameSo_546 (by decide) ?_
        obtain rfl := Option.some.inj hf
        exact HJ547 ls H locs (lv_sub hl [0, 1, 2, 3, 5, 6, 7, 8, 9, 10, 11] rfl) hw
      · have hf := (if_neg c454).symm.trans hf
        refine lv_iload hx hb dL_isFrameSo_457 (lv_at hl 11 rfl) ?_
        refine lv_if_lt (tgt := 546) hx hb dL_isFrameSo_459 (by decide) (fun c459 => ?_) (fun c459 => ?_)
        · have hf := (if_pos c459).symm.trans hf
          refine lv_iconst (v := (0 : Int32)) hx hb dL_isFrameSo_546 (by decide) ?_
          obtain rfl := Option.some.inj hf
          exact HJ547 ls H locs (lv_sub hl [0, 1, 2, 3, 5, 6, 7, 8, 9, 10, 11] rfl) hw
        · have hf := (if_neg c459).symm.trans hf
          refine lv_iload hx hb dL_isFrameSo_462 (lv_at hl 11 rfl) ?_
          refine lv_bipush (v := (16 : Int32)) hx hb dL_isFrameSo_464 (by decide) ?_
          refine lv_icmp_ge (tgt := 546) hx hb dL_isFrameSo_466 (by decide) (fun c466 => ?_) (fun c466 => ?_)
          · have hf := (if_pos c466).symm.trans hf
            refine lv_iconst (v := (0 : Int32)) hx hb dL_isFrameSo_546 (by decide) ?_
            obtain rfl := Option.some.inj hf
            exact HJ547 ls H locs (lv_sub hl [0, 1, 2, 3, 5, 6, 7, 8, 9, 10, 11] rfl) hw
          · have hf := (if_neg c466).symm.trans hf
            refine lv_iload hx hb dL_isFrameSo_469 (lv_at hl 3 rfl) ?_
            refine lv_if_eq (tgt := 484) hx hb dL_isFrameSo_471 (by decide) (fun c471 => ?_) (fun c471 => ?_)
            · have hf := (if_pos c471).symm.trans hf
              refine lv_iload hx hb dL_isFrameSo_484 (lv_at hl 2 rfl) ?_
              refine lv_iconst (v := (2 : Int32)) hx hb dL_isFrameSo_486 (by decide) ?_
              refine lv_icmp_ge (tgt := 500) hx hb dL_isFrameSo_487 (by decide) (fun c487 => ?_) (fun c487 => ?_)
              · have hf := (if_pos c487).symm.trans hf
                refine lv_iload hx hb dL_isFrameSo_500 (lv_at hl 2 rfl) ?_
                refine lv_iconst (v := (3 : Int32)) hx hb dL_isFrameSo_502 (by decide) ?_
                refine lv_icmp_ne (tgt := 516) hx hb dL_isFrameSo_503 (by decide) (fun c503 => ?_) (fun c503 => ?_)
                · have hf := (if_neg c503).symm.trans hf
                  refine lv_iload hx hb dL_isFrameSo_516 (lv_at hl 12 rfl) ?_
                  refine lv_aload_n hx hb dL_isFrameSo_518 rfl (lv_at hl 0 rfl) ?_
                  refine lv_iload hx hb dL_isFrameSo_519 (lv_at hl 5 rfl) ?_
                  refine lv_iload hx hb dL_isFrameSo_521 (lv_at hl 10 rfl) ?_
                  refine lv_iconst (v := (0 : Int32)) hx hb dL_isFrameSo_523 (by decide) ?_
                  obtain ⟨q524, hq524, hf⟩ := ob_some hf
                  refine z_callVi (o := 0) (ci := 8) (As := [.int x9, .int x15, .int (0 : Int32)]) (rest := [.int q408.1]) (t_X10_symbol G l hN x9 x15 (0 : Int32) q419.2 hq524) cv_X10_symbol hx hb hml hl.1 Z hw (by decide) (by decide) (by omega) rfl rfl wd616 rfl rfl (Nat.le_of_ble_eq_true rfl) (by decide) dL_isFrameSo_524 (fun H locs hw => ?_)
                  refine lv_aload_n hx hb dL_isFrameSo_527 rfl (lv_at hl 0 rfl) ?_
                  refine lv_iload hx hb dL_isFrameSo_528 (lv_at hl 6 rfl) ?_
                  refine lv_iload hx hb dL_isFrameSo_530 (lv_at hl 10 rfl) ?_
                  refine lv_iconst (v := (0 : Int32)) hx hb dL_isFrameSo_532 (by decide) ?_
                  obtain ⟨q533, hq533, hf⟩ := ob_some hf
                  refine z_callVi (o := 0) (ci := 8) (As := [.int x10, .int x15, .int (0 : Int32)]) (rest := [.int q524.1, .int q408.1]) (t_X10_symbol G l hN x10 x15 (0 : Int32) q524.2 hq533) cv_X10_symbol hx hb hml hl.1 Z hw (by decide) (by decide) (by omega) rfl rfl wd616 rfl rfl (Nat.le_of_ble_eq_true rfl) (by decide) dL_isFrameSo_533 (fun H locs hw => ?_)
                  refine lv_iadd hx hb dL_isFrameSo_536 ?_
                  refine lv_iconst (v := (2 : Int32)) hx hb dL_isFrameSo_537 (by decide) ?_
                  refine lv_idiv hx hb dL_isFrameSo_538 (by decide) ?_
                  refine lv_icmp_ne (tgt := 546) hx hb dL_isFrameSo_539 (by decide) (fun c539 => ?_) (fun c539 => ?_)
                  · have hf := (if_neg c539).symm.trans hf
                    refine lv_iconst (v := (0 : Int32)) hx hb dL_isFrameSo_546 (by decide) ?_
                    obtain rfl := Option.some.inj hf
                    exact HJ547 ls H locs (lv_sub hl [0, 1, 2, 3, 5, 6, 7, 8, 9, 10, 11] rfl) hw
                  · have hf := (if_pos c539).symm.trans hf
                    refine lv_iconst (v := (1 : Int32)) hx hb dL_isFrameSo_542 (by decide) ?_
                    refine lv_goto (tgt := 547) hx hb dL_isFrameSo_543 (by decide) ?_
                    obtain rfl := Option.some.inj hf
                    exact HJ547 ls H locs (lv_sub hl [0, 1, 2, 3, 5, 6, 7, 8, 9, 10, 11] rfl) hw
                · have hf := (if_pos c503).symm.trans hf
                  refine lv_iload hx hb dL_isFrameSo_506 (lv_at hl 12 rfl) ?_
                  refine lv_bipush (v := (-5 : Int32)) hx hb dL_isFrameSo_508 (by decide) ?_
                  refine lv_icmp_ne (tgt := 546) hx hb dL_isFrameSo_510 (by decide) (fun c510 => ?_) (fun c510 => ?_)
                  · have hf := (if_neg c510).symm.trans hf
                    refine lv_iconst (v := (0 : Int32)) hx hb dL_isFrameSo_546 (by decide) ?_
                    obtain rfl := Option.some.inj hf
                    exact HJ547 ls H locs (lv_sub hl [0, 1, 2, 3, 5, 6, 7, 8, 9, 10, 11] rfl) hw
                  · have hf := (if_pos c510).symm.trans hf
                    refine lv_goto (tgt := 542) hx hb dL_isFrameSo_513 (by decide) ?_
                    refine lv_iconst (v := (1 : Int32)) hx hb dL_isFrameSo_542 (by decide) ?_
                    refine lv_goto (tgt := 547) hx hb dL_isFrameSo_543 (by decide) ?_
                    obtain rfl := Option.some.inj hf
                    exact HJ547 ls H locs (lv_sub hl [0, 1, 2, 3, 5, 6, 7, 8, 9, 10, 11] rfl) hw
              · have hf := (if_neg c487).symm.trans hf
                refine lv_iload hx hb dL_isFrameSo_490 (lv_at hl 12 rfl) ?_
                refine lv_iload hx hb dL_isFrameSo_492 (lv_at hl 11 rfl) ?_
                refine lv_icmp_ne (tgt := 546) hx hb dL_isFrameSo_494 (by decide) (fun c494 => ?_) (fun c494 => ?_)
                · have hf := (if_neg c494).symm.trans hf
                  refine lv_iconst (v := (0 : Int32)) hx hb dL_isFrameSo_546 (by decide) ?_
                  obtain rfl := Option.some.inj hf
                  exact HJ547 ls H locs (lv_sub hl [0, 1, 2, 3, 5, 6, 7, 8, 9, 10, 11] rfl) hw
                · have hf := (if_pos c494).symm.trans hf
                  refine lv_goto (tgt := 542) hx hb dL_isFrameSo_497 (by decide) ?_
                  refine lv_iconst (v := (1 : Int32)) hx hb dL_isFrameSo_542 (by decide) ?_
                  refine lv_goto (tgt := 547) hx hb dL_isFrameSo_543 (by decide) ?_
                  obtain rfl := Option.some.inj hf
                  exact HJ547 ls H locs (lv_sub hl [0, 1, 2, 3, 5, 6, 7, 8, 9, 10, 11] rfl) hw
            · have hf := (if_neg c471).symm.trans hf
              refine lv_iload hx hb dL_isFrameSo_474 (lv_at hl 11 rfl) ?_
              refine lv_iload hx hb dL_isFrameSo_476 (lv_at hl 13 rfl) ?_
              refine lv_bipush (v := (16 : Int32)) hx hb dL_isFrameSo_478 (by decide) ?_
              refine z_irem hx hb dL_isFrameSo_480 (by decide) ?_
              refine lv_icmp_ne (tgt := 546) hx hb dL_isFrameSo_481 (by decide) (fun c481 => ?_) (fun c481 => ?_)
              · have hf := (if_neg c481).symm.trans hf
                refine lv_iconst (v := (0 : Int32)) hx hb dL_isFrameSo_546 (by decide) ?_
                obtain rfl := Option.some.inj hf
                exact HJ547 ls H locs (lv_sub hl [0, 1, 2, 3, 5, 6, 7, 8, 9, 10, 11] rfl) hw
              · have hf := (if_pos c481).symm.trans hf
                refine lv_iload hx hb dL_isFrameSo_484 (lv_at hl 2 rfl) ?_
                refine lv_iconst (v := (2 : Int32)) hx hb dL_isFrameSo_486 (by decide) ?_
                refine lv_icmp_ge (tgt := 500) hx hb dL_isFrameSo_487 (by decide) (fun c487 => ?_) (fun c487 => ?_)
                · have hf := (if_pos c487).symm.trans hf
                  refine lv_iload hx hb dL_isFrameSo_500 (lv_at hl 2 rfl) ?_
                  refine lv_iconst (v := (3 : Int32)) hx hb dL_isFrameSo_502 (by decide) ?_
                  refine lv_icmp_ne (tgt := 516) hx hb dL_isFrameSo_503 (by decide) (fun c503 => ?_) (fun c503 => ?_)
                  · have hf := (if_neg c503).symm.trans hf
                    refine lv_iload hx hb dL_isFrameSo_516 (lv_at hl 12 rfl) ?_
                    refine lv_aload_n hx hb dL_isFrameSo_518 rfl (lv_at hl 0 rfl) ?_
                    refine lv_iload hx hb dL_isFrameSo_519 (lv_at hl 5 rfl) ?_
                    refine lv_iload hx hb dL_isFrameSo_521 (lv_at hl 10 rfl) ?_
                    refine lv_iconst (v := (0 : Int32)) hx hb dL_isFrameSo_523 (by decide) ?_
                    obtain ⟨q524, hq524, hf⟩ := ob_some hf
                    refine z_callVi (o := 0) (ci := 8) (As := [.int x9, .int x15, .int (0 : Int32)]) (rest := [.int q408.1]) (t_X10_symbol G l hN x9 x15 (0 : Int32) q419.2 hq524) cv_X10_symbol hx hb hml hl.1 Z hw (by decide) (by decide) (by omega) rfl rfl wd616 rfl rfl (Nat.le_of_ble_eq_true rfl) (by decide) dL_isFrameSo_524 (fun H locs hw => ?_)
                    refine lv_aload_n hx hb dL_isFrameSo_527 rfl (lv_at hl 0 rfl) ?_
                    refine lv_iload hx hb dL_isFrameSo_528 (lv_at hl 6 rfl) ?_
                    refine lv_iload hx hb dL_isFrameSo_530 (lv_at hl 10 rfl) ?_
                    refine lv_iconst (v := (0 : Int32)) hx hb dL_isFrameSo_532 (by decide) ?_
                    obtain ⟨q533, hq533, hf⟩ := ob_some hf
                    refine z_callVi (o := 0) (ci := 8) (As := [.int x10, .int x15, .int (0 : Int32)]) (rest := [.int q524.1, .int q408.1]) (t_X10_symbol G l hN x10 x15 (0 : Int32) q524.2 hq533) cv_X10_symbol hx hb hml hl.1 Z hw (by decide) (by decide) (by omega) rfl rfl wd616 rfl rfl (Nat.le_of_ble_eq_true rfl) (by decide) dL_isFrameSo_533 (fun H locs hw => ?_)
                    refine lv_iadd hx hb dL_isFrameSo_536 ?_
                    refine lv_iconst (v := (2 : Int32)) hx hb dL_isFrameSo_537 (by decide) ?_
                    refine lv_idiv hx hb dL_isFrameSo_538 (by decide) ?_
                    refine lv_icmp_ne (tgt := 546) hx hb dL_isFrameSo_539 (by decide) (fun c539 => ?_) (fun c539 => ?_)
                    · have hf := (if_neg c539).symm.trans hf
                      refine lv_iconst (v := (0 : Int32)) hx hb dL_isFrameSo_546 (by decide) ?_
                      obtain rfl := Option.some.inj hf
                      exact HJ547 ls H locs (lv_sub hl [0, 1, 2, 3, 5, 6, 7, 8, 9, 10, 11] rfl) hw
                    · have hf := (if_pos c539).symm.trans hf
                      refine lv_iconst (v := (1 : Int32)) hx hb dL_isFrameSo_542 (by decide) ?_
                      refine lv_goto (tgt := 547) hx hb dL_isFrameSo_543 (by decide) ?_
                      obtain rfl := Option.some.inj hf
                      exact HJ547 ls H locs (lv_sub hl [0, 1, 2, 3, 5, 6, 7, 8, 9, 10, 11] rfl) hw
                  · have hf := (if_pos c503).symm.trans hf
                    refine lv_iload hx hb dL_isFrameSo_506 (lv_at hl 12 rfl) ?_
                    refine lv_bipush (v := (-5 : Int32)) hx hb dL_isFrameSo_508 (by decide) ?_
                    refine lv_icmp_ne (tgt := 546) hx hb dL_isFrameSo_510 (by decide) (fun c510 => ?_) (fun c510 => ?_)
                    · have hf := (if_neg c510).symm.trans hf
                      refine lv_iconst (v := (0 : Int32)) hx hb dL_isFrameSo_546 (by decide) ?_
                      obtain rfl := Option.some.inj hf
                      exact HJ547 ls H locs (lv_sub hl [0, 1, 2, 3, 5, 6, 7, 8, 9, 10, 11] rfl) hw
                    · have hf := (if_pos c510).symm.trans hf
                      refine lv_goto (tgt := 542) hx hb dL_isFrameSo_513 (by decide) ?_
                      refine lv_iconst (v := (1 : Int32)) hx hb dL_isFrameSo_542 (by decide) ?_
                      refine lv_goto (tgt := 547) hx hb dL_isFrameSo_543 (by decide) ?_
                      obtain rfl := Option.some.inj hf
                      exact HJ547 ls H locs (lv_sub hl [0, 1, 2, 3, 5, 6, 7, 8, 9, 10, 11] rfl) hw
                · have hf := (if_neg c487).symm.trans hf
                  refine lv_iload hx hb dL_isFrameSo_490 (lv_at hl 12 rfl) ?_
                  refine lv_iload hx hb dL_isFrameSo_492 (lv_at hl 11 rfl) ?_
                  refine lv_icmp_ne (tgt := 546) hx hb dL_isFrameSo_494 (by decide) (fun c494 => ?_) (fun c494 => ?_)
                  · have hf := (if_neg c494).symm.trans hf
                    refine lv_iconst (v := (0 : Int32)) hx hb dL_isFrameSo_546 (by decide) ?_
                    obtain rfl := Option.some.inj hf
                    exact HJ547 ls H locs (lv_sub hl [0, 1, 2, 3, 5, 6, 7, 8, 9, 10, 11] rfl) hw
                  · have hf := (if_pos c494).symm.trans hf
                    refine lv_goto (tgt := 542) hx hb dL_isFrameSo_497 (by decide) ?_
                    refine lv_iconst (v := (1 : Int32)) hx hb dL_isFrameSo_542 (by decide) ?_
                    refine lv_goto (tgt := 547) hx hb dL_isFrameSo_543 (by decide) ?_
                    obtain rfl := Option.some.inj hf
                    exact HJ547 ls H locs (lv_sub hl [0, 1, 2, 3, 5, 6, 7, 8, 9, 10, 11] rfl) hw
set_option maxHeartbeats 4000000 in
set_option maxRecDepth 100000 in
theorem t_L_isFrameSo (G : GM) (l : Launch) (hN : 70 ≤ gN G) (x1 : Int32) (h : HP) {r : Int32} {h' : HP} (hf : f_L_isFrameSo x1 h = some (r, h')) : MC G l yL_isFrameSo cL_isFrameSo 21 (some .boolean) 6 [.ref (ra G 0), .int x1] h h' (some (.int r)) := by
  unfold f_L_isFrameSo at hf
  refine z_start (by decide) (Nat.le_of_ble_eq_true rfl) ?_
  intro p e s m args below meth c ls hx hb hr hlk hml Z hw hl
  have Z : ZK G s args m RL := Z
  have hl : lv_has ls 21 [(0, .ref (ra G 0)), (1, .int x1)] := hl
  obtain ⟨H, hH⟩ : ∃ H, H = s.heap := ⟨_, rfl⟩
  rw [← hH] at hw ⊢
  obtain ⟨locs, hlc⟩ : ∃ locs : List Loc, locs = [] := ⟨_, rfl⟩
  rw [← hlc] at hw ⊢
  refine lv_aload_n hx hb dL_isFrameSo_0 rfl (lv_at hl 0 rfl) ?_
  refine lv_iconst (v := (0 : Int32)) hx hb dL_isFrameSo_1 (by decide) ?_
  obtain ⟨q2, hq2, hf⟩ := ob_some hf
  refine z_callVi (o := 0) (ci := 8) (As := [.int (0 : Int32)]) (rest := []) (t_X10_count G l hN (0 : Int32) h hq2) cv_X10_count hx hb hml hl.1 Z hw (by decide) (by decide) (by omega) rfl rfl wd322 rfl rfl (Nat.le_of_ble_eq_true rfl) (by decide) dL_isFrameSo_2 (fun H locs hw => ?_)
  refine lv_istore_n (lv' := [(2, _), (0, _), (1, _)]) hx hb dL_isFrameSo_5 rfl hl (by decide) rfl (fun ls hl => ?_)
  refine lv_aload_n hx hb dL_isFrameSo_6 rfl (lv_at hl 1 rfl) ?_
  refine lv_iload_n hx hb dL_isFrameSo_7 rfl (lv_at hl 2 rfl) ?_
  refine lv_iconst (v := (0 : Int32)) hx hb dL_isFrameSo_8 (by decide) ?_
  obtain ⟨q9, hq9, hf⟩ := ob_some hf
  refine z_callVi (o := 0) (ci := 8) (As := [.int x1, .int (0 : Int32)]) (rest := []) (t_X10_frame G l hN x1 (0 : Int32) q2.2 hq9) cv_X10_frame hx hb hml hl.1 Z hw (by decide) (by decide) (by omega) rfl rfl wd571 rfl rfl (Nat.le_of_ble_eq_true rfl) (by decide) dL_isFrameSo_9 (fun H locs hw => ?_)
  refine lv_istore_n (lv' := [(3, _), (2, _), (0, _), (1, _)]) hx hb dL_isFrameSo_12 rfl hl (by decide) rfl (fun ls hl => ?_)
  refine lv_aload_n hx hb dL_isFrameSo_13 rfl (lv_at hl 2 rfl) ?_
  refine lv_iload_n hx hb dL_isFrameSo_14 rfl (lv_at hl 3 rfl) ?_
  refine lv_iconst (v := (2 : Int32)) hx hb dL_isFrameSo_15 (by decide) ?_
  obtain ⟨q16, hq16, hf⟩ := ob_some hf
  refine z_callVi (o := 0) (ci := 8) (As := [.int x1, .int (2 : Int32)]) (rest := []) (t_X10_frame G l hN x1 (2 : Int32) q9.2 hq16) cv_X10_frame hx hb hml hl.1 Z hw (by decide) (by decide) (by omega) rfl rfl wd571 rfl rfl (Nat.le_of_ble_eq_true rfl) (by decide) dL_isFrameSo_16 (fun H locs hw => ?_)
  refine lv_istore (lv' := [(4, _), (3, _), (2, _), (0, _), (1, _)]) hx hb dL_isFrameSo_19 hl (by decide) rfl (fun ls hl => ?_)
  refine lv_aload_n hx hb dL_isFrameSo_21 rfl (lv_at hl 3 rfl) ?_
  refine lv_iload_n hx hb dL_isFrameSo_22 rfl (lv_at hl 4 rfl) ?_
  refine lv_iconst (v := (5 : Int32)) hx hb dL_isFrameSo_23 (by decide) ?_
  obtain ⟨q24, hq24, hf⟩ := ob_some hf
  refine z_callVi (o := 0) (ci := 8) (As := [.int x1, .int (5 : Int32)]) (rest := []) (t_X10_frame G l hN x1 (5 : Int32) q16.2 hq24) cv_X10_frame hx hb hml hl.1 Z hw (by decide) (by decide) (by omega) rfl rfl wd571 rfl rfl (Nat.le_of_ble_eq_true rfl) (by decide) dL_isFrameSo_24 (fun H locs hw => ?_)
  refine lv_istore (lv' := [(5, _), (4, _), (3, _), (2, _), (0, _), (1, _)]) hx hb dL_isFrameSo_27 hl (by decide) rfl (fun ls hl => ?_)
  refine lv_aload_n hx hb dL_isFrameSo_29 rfl (lv_at hl 4 rfl) ?_
  refine lv_iload_n hx hb dL_isFrameSo_30 rfl (lv_at hl 5 rfl) ?_
  refine lv_iconst (v := (3 : Int32)) hx hb dL_isFrameSo_31 (by decide) ?_
  obtain ⟨q32, hq32, hf⟩ := ob_some hf
  refine z_callVi (o := 0) (ci := 8) (As := [.int x1, .int (3 : Int32)]) (rest := []) (t_X10_frame G l hN x1 (3 : Int32) q24.2 hq32) cv_X10_frame hx hb hml hl.1 Z hw (by decide) (by decide) (by omega) rfl rfl wd571 rfl rfl (Nat.le_of_ble_eq_true rfl) (by decide) dL_isFrameSo_32 (fun H locs hw => ?_)
  refine lv_iconst (v := (1 : Int32)) hx hb dL_isFrameSo_35 (by decide) ?_
  have HJ44 : ∀ (ls : Array Slot) (H : Heap) (locs : List Loc), lv_has ls 21 [(0, .ref (ra G 0)), (1, .int x1), (2, .int q2.1), (3, .int q9.1), (4, .int q16.1), (5, .int q24.1)] → HW G q32.2 s H locs → WZ p l e 6 s m args below meth c G (some (.int r)) h' H locs (F0 m 44 ls [.int (if q32.1 = (1 : Int32) then (1 : Int32) else (0 : Int32))]) := by
    intro ls H locs hl hw
    obtain ⟨v44, hqv44, hf⟩ := tb_ex hf
    refine z_top hqv44 ?_
    refine lv_istore (lv' := [(6, _), (0, _), (1, _), (2, _), (3, _), (4, _), (5, _)]) hx hb dL_isFrameSo_44 hl (by decide) rfl (fun ls hl => ?_)
    refine lv_aload_n hx hb dL_isFrameSo_46 rfl (lv_at hl 1 rfl) ?_
    refine lv_iload_n hx hb dL_isFrameSo_47 rfl (lv_at hl 4 rfl) ?_
    refine lv_iconst (v := (1 : Int32)) hx hb dL_isFrameSo_48 (by decide) ?_
    obtain ⟨q49, hq49, hf⟩ := ob_some hf
    refine z_callVi (o := 0) (ci := 8) (As := [.int q9.1, .int (1 : Int32)]) (rest := []) (t_X10_turn G l hN q9.1 (1 : Int32) q32.2 hq49) cv_X10_turn hx hb hml hl.1 Z hw (by decide) (by decide) (by omega) rfl rfl wd606 rfl rfl (Nat.le_of_ble_eq_true rfl) (by decide) dL_isFrameSo_49 (fun H locs hw => ?_)
    refine lv_aload_n hx hb dL_isFrameSo_52 rfl (lv_at hl 1 rfl) ?_
    refine lv_iload_n hx hb dL_isFrameSo_53 rfl (lv_at hl 2 rfl) ?_
    refine lv_iconst (v := (1 : Int32)) hx hb dL_isFrameSo_54 (by decide) ?_
    obtain ⟨q55, hq55, hf⟩ := ob_some hf
    refine z_callVi (o := 0) (ci := 8) (As := [.int x1, .int (1 : Int32)]) (rest := [.int q49.1]) (t_X10_frame G l hN x1 (1 : Int32) q49.2 hq55) cv_X10_frame hx hb hml hl.1 Z hw (by decide) (by decide) (by omega) rfl rfl wd571 rfl rfl (Nat.le_of_ble_eq_true rfl) (by decide) dL_isFrameSo_55 (fun H locs hw => ?_)
    refine lv_iadd hx hb dL_isFrameSo_58 ?_
    refine lv_iload_n hx hb dL_isFrameSo_59 rfl (lv_at hl 2 rfl) ?_
    obtain ⟨j60, hqj60, hf⟩ := ob_some hf
    have HJ161 : ∀ (ls : Array Slot) (H : Heap) (locs : List Loc), lv_has ls 21 [(0, .ref (ra G 0)), (1, .int x1), (2, .int q2.1), (4, .int q16.1), (5, .int q24.1), (6, .int v44)] → HW G j60.2 s H locs → WZ p l e 6 s m args below meth c G (some (.int r)) h' H locs (F0 m 161 ls [.int j60.1]) := by
      intro ls H locs hl hw
      refine lv_istore (lv' := [(7, _), (0, _), (1, _), (2, _), (4, _), (5, _), (6, _)]) hx hb dL_isFrameSo_161 hl (by decide) rfl (fun ls hl => ?_)
      refine lv_iconst (v := (0 : Int32)) hx hb dL_isFrameSo_163 (by decide) ?_
      refine lv_istore (lv' := [(8, _), (7, _), (0, _), (1, _), (2, _), (4, _), (5, _), (6, _)]) hx hb dL_isFrameSo_164 hl (by decide) rfl (fun ls hl => ?_)
      refine lv_iconst (v := (0 : Int32)) hx hb dL_isFrameSo_166 (by decide) ?_
      refine lv_istore (lv' := [(9, _), (8, _), (7, _), (0, _), (1, _), (2, _), (4, _), (5, _), (6, _)]) hx hb dL_isFrameSo_167 hl (by decide) rfl (fun ls hl => ?_)
      obtain ⟨q169, hq169, hf⟩ := ob_some hf
      refine w_L_isFrameSo_L169 G l hN  hx hb hr hlk hml Z FU q16.1 (0 : Int32) (0 : Int32) j60.2 x1 q2.1 q24.1 v44 j60.1 _ _ ls H locs (lv_sub hl [3, 4, 5, 6, 7, 8, 2, 1, 0] rfl) hw hq169 (fun ls H locs hl hw => ?_)
      refine lv_iload hx hb dL_isFrameSo_203 (lv_at hl 5 rfl) ?_
      obtain ⟨j205, hqj205, hf⟩ := ob_some hf
      have HJ248 : ∀ (ls : Array Slot) (H : Heap) (locs : List Loc), lv_has ls 21 [(0, .ref (ra G 0)), (1, .int x1), (2, .int q2.1), (5, .int q24.1), (6, .int v44)] → HW G j205.2 s H locs → WZ p l e 6 s m args below meth c G (some (.int r)) h' H locs (F0 m 248 ls [.int j205.1]) := by
        intro ls H locs hl hw
        refine lv_istore (lv' := [(7, _), (0, _), (1, _), (2, _), (5, _), (6, _)]) hx hb dL_isFrameSo_248 hl (by decide) rfl (fun ls hl => ?_)
        refine lv_iload_n hx hb dL_isFrameSo_250 rfl (lv_at hl 2 rfl) ?_
        refine lv_iconst (v := (5 : Int32)) hx hb dL_isFrameSo_251 (by decide) ?_
        refine z_irem hx hb dL_isFrameSo_252 (by decide) ?_
        have HJ265 : ∀ (ls : Array Slot) (H : Heap) (locs : List Loc), lv_has ls 21 [(0, .ref (ra G 0)), (1, .int x1), (2, .int q2.1), (5, .int q24.1), (6, .int v44), (7, .int j205.1)] → HW G j205.2 s H locs → WZ p l e 6 s m args below meth c G (some (.int r)) h' H locs (F0 m 265 ls [.int (if (jrem x1 (5 : Int32)) = 0 then (x1 - (2 : Int32)) else (x1 - (1 : Int32)))]) := by
          intro ls H locs hl hw
          obtain ⟨v265, hqv265, hf⟩ := tb_ex hf
          refine z_top hqv265 ?_
          refine lv_istore (lv' := [(9, _), (0, _), (1, _), (2, _), (5, _), (6, _), (7, _)]) hx hb dL_isFrameSo_265 hl (by decide) rfl (fun ls hl => ?_)
          refine lv_iload_n hx hb dL_isFrameSo_267 rfl (lv_at hl 2 rfl) ?_
          refine lv_iconst (v := (5 : Int32)) hx hb dL_isFrameSo_268 (by decide) ?_
          refine z_irem hx hb dL_isFrameSo_269 (by decide) ?_
          refine lv_iconst (v := (3 : Int32)) hx hb dL_isFrameSo_270 (by decide) ?_
          have HJ283 : ∀ (ls : Array Slot) (H : Heap) (locs : List Loc), lv_has ls 21 [(0, .ref (ra G 0)), (1, .int x1), (2, .int q2.1), (5, .int q24.1), (6, .int v44), (7, .int j205.1), (9, .int v265)] → HW G j205.2 s H locs → WZ p l e 6 s m args below meth c G (some (.int r)) h' H locs (F0 m 283 ls [.int (if (jrem x1 (5 : Int32)) = (3 : Int32) then (x1 + (2 : Int32)) else (x1 + (1 : Int32)))]) := by
            intro ls H locs hl hw
            obtain ⟨v283, hqv283, hf⟩ := tb_ex hf
            refine z_top hqv283 ?_
            refine lv_istore (lv' := [(10, _), (0, _), (1, _), (2, _), (5, _), (6, _), (7, _), (9, _)]) hx hb dL_isFrameSo_283 hl (by decide) rfl (fun ls hl => ?_)
            refine lv_iload hx hb dL_isFrameSo_285 (lv_at hl 5 rfl) ?_
            obtain ⟨j287, hqj287, hf⟩ := ob_some hf
            have HJ328 : ∀ (ls : Array Slot) (H : Heap) (locs : List Loc), lv_has ls 21 [(0, .ref (ra G 0)), (1, .int x1), (5, .int q24.1), (6, .int v44), (7, .int j205.1), (9, .int v265), (10, .int v283)] → HW G j287.2 s H locs → WZ p l e 6 s m args below meth c G (some (.int r)) h' H locs (F0 m 328 ls [.int j287.1]) := by
              intro ls H locs hl hw
              refine lv_istore (lv' := [(11, _), (0, _), (1, _), (5, _), (6, _), (7, _), (9, _), (10, _)]) hx hb dL_isFrameSo_328 hl (by decide) rfl (fun ls hl => ?_)
              refine lv_iload hx hb dL_isFrameSo_330 (lv_at hl 5 rfl) ?_
              have HJ373 : ∀ (ls : Array Slot) (H : Heap) (locs : List Loc), lv_has ls 21 [(0, .ref (ra G 0)), (1, .int x1), (5, .int q24.1), (6, .int v44), (9, .int v265), (10, .int v283)] → HW G j287.2 s H locs → WZ p l e 6 s m args below meth c G (some (.int r)) h' H locs (F0 m 373 ls [.int (if j205.1 = 0 then (0 : Int32) else (if q24.1 = (2 : Int32) then (if j287.1 = 0 then (0 : Int32) else (if q24.1 = (3 : Int32) then (if j287.1 = 0 then (if q24.1 < 0 then (0 : Int32) else (if (4 : Int32) ≤ q24.1 then (0 : Int32) else (1 : Int32))) else (0 : Int32)) else (if q24.1 < 0 then (0 : Int32) else (if (4 : Int32) ≤ q24.1 then (0 : Int32) else (1 : Int32))))) else (if q24.1 = (3 : Int32) then (if j287.1 = 0 then (if q24.1 < 0 then (0 : Int32) else (if (4 : Int32) ≤ q24.1 then (0 : Int32) else (1 : Int32))) else (0 : Int32)) else (if q24.1 < 0 then (0 : Int32) else (if (4 : Int32) ≤ q24.1 then (0 : Int32) else (1 : Int32))))))]) := by
                intro ls H locs hl hw
                obtain ⟨v373, hqv373, hf⟩ := tb_ex hf
                refine z_top hqv373 ?_
                refine lv_istore (lv' := [(7, _), (0, _), (1, _), (5, _), (6, _), (9, _), (10, _)]) hx hb dL_isFrameSo_373 hl (by decide) rfl (fun ls hl => ?_)
                refine lv_iconst (v := (0 : Int32)) hx hb dL_isFrameSo_375 (by decide) ?_
                refine lv_istore (lv' := [(12, _), (7, _), (0, _), (1, _), (5, _), (6, _), (9, _), (10, _)]) hx hb dL_isFrameSo_376 hl (by decide) rfl (fun ls hl => ?_)
                refine lv_iconst (v := (0 : Int32)) hx hb dL_isFrameSo_378 (by decide) ?_
                refine lv_istore (lv' := [(13, _), (12, _), (7, _), (0, _), (1, _), (5, _), (6, _), (9, _), (10, _)]) hx hb dL_isFrameSo_379 hl (by decide) rfl (fun ls hl => ?_)
                refine lv_iconst (v := (0 : Int32)) hx hb dL_isFrameSo_381 (by decide) ?_
                refine lv_istore (lv' := [(14, _), (13, _), (12, _), (7, _), (0, _), (1, _), (5, _), (6, _), (9, _), (10, _)]) hx hb dL_isFrameSo_382 hl (by decide) rfl (fun ls hl => ?_)
                refine lv_iconst (v := (0 : Int32)) hx hb dL_isFrameSo_384 (by decide) ?_
                refine lv_istore (lv' := [(15, _), (14, _), (13, _), (12, _), (7, _), (0, _), (1, _), (5, _), (6, _), (9, _), (10, _)]) hx hb dL_isFrameSo_385 hl (by decide) rfl (fun ls hl => ?_)
                obtain ⟨q387, hq387, hf⟩ := ob_some hf
                refine w_L_isFrameSo_L387 G l hN  hx hb hr hlk hml Z FU x1 q24.1 v44 v373 v265 v283 (0 : Int32) (0 : Int32) (0 : Int32) (0 : Int32) j287.2  _ _ ls H locs (lv_sub hl [5, 6, 7, 8, 4, 9, 10, 3, 2, 1, 0] rfl) hw hq387 (fun ls H locs hl hw => ?_)
                refine lv_iload hx hb dL_isFrameSo_617 (lv_at hl 2 rfl) ?_
                refine lv_if_eq (tgt := 671) hx hb dL_isFrameSo_619 (by decide) (fun c619 => ?_) (fun c619 => ?_)
                · have hf := (if_pos c619).symm.trans hf
                  refine lv_iconst (v := (0 : Int32)) hx hb dL_isFrameSo_671 (by decide) ?_
                  obtain ⟨rfl, rfl⟩ := Prod.mk.inj (Option.some.inj hf)
                  exact z_zret hx hb hr rfl hlk hw dL_isFrameSo_672
                · have hf := (if_neg c619).symm.trans hf
                  refine lv_aload_n hx hb dL_isFrameSo_622 rfl (lv_at hl 0 rfl) ?_
                  refine lv_iload_n hx hb dL_isFrameSo_623 rfl (lv_at hl 1 rfl) ?_
                  refine lv_bipush (v := (6 : Int32)) hx hb dL_isFrameSo_624 (by decide) ?_
                  obtain ⟨q626, hq626, hf⟩ := ob_some hf
                  refine z_callVi (o := 0) (ci := 8) (As := [.int x1, .int (6 : Int32)]) (rest := []) (t_X10_frame G l hN x1 (6 : Int32) q387.2.2.2.2 hq626) cv_X10_frame hx hb hml hl.1 Z hw (by decide) (by decide) (by omega) rfl rfl wd571 rfl rfl (Nat.le_of_ble_eq_true rfl) (by decide) dL_isFrameSo_626 (fun H locs hw => ?_)
                  refine lv_iload hx hb dL_isFrameSo_629 (lv_at hl 4 rfl) ?_
                  refine lv_iload hx hb dL_isFrameSo_631 (lv_at hl 5 rfl) ?_
                  refine lv_iadd hx hb dL_isFrameSo_633 ?_
                  refine lv_icmp_ne (tgt := 671) hx hb dL_isFrameSo_634 (by decide) (fun c634 => ?_) (fun c634 => ?_)
                  · have hf := (if_neg c634).symm.trans hf
                    refine lv_iconst (v := (0 : Int32)) hx hb dL_isFrameSo_671 (by decide) ?_
                    obtain ⟨rfl, rfl⟩ := Prod.mk.inj (Option.some.inj hf)
                    exact z_zret hx hb hr rfl hlk hw dL_isFrameSo_672
                  · have hf := (if_pos c634).symm.trans hf
                    refine lv_aload_n hx hb dL_isFrameSo_637 rfl (lv_at hl 0 rfl) ?_
                    refine lv_iload_n hx hb dL_isFrameSo_638 rfl (lv_at hl 1 rfl) ?_
                    refine lv_bipush (v := (7 : Int32)) hx hb dL_isFrameSo_639 (by decide) ?_
                    obtain ⟨q641, hq641, hf⟩ := ob_some hf
                    refine z_callVi (o := 0) (ci := 8) (As := [.int x1, .int (7 : Int32)]) (rest := []) (t_X10_frame G l hN x1 (7 : Int32) q626.2 hq641) cv_X10_frame hx hb hml hl.1 Z hw (by decide) (by decide) (by omega) rfl rfl wd571 rfl rfl (Nat.le_of_ble_eq_true rfl) (by decide) dL_isFrameSo_641 (fun H locs hw => ?_)
                    refine lv_iload hx hb dL_isFrameSo_644 (lv_at hl 4 rfl) ?_
                    refine lv_iload hx hb dL_isFrameSo_646 (lv_at hl 5 rfl) ?_
                    refine lv_isub hx hb dL_isFrameSo_648 ?_
                    refine lv_bipush (v := (100 : Int32)) hx hb dL_isFrameSo_649 (by decide) ?_
                    refine lv_iadd hx hb dL_isFrameSo_651 ?_
                    refine lv_icmp_ne (tgt := 671) hx hb dL_isFrameSo_652 (by decide) (fun c652 => ?_) (fun c652 => ?_)
                    · have hf := (if_neg c652).symm.trans hf
                      refine lv_iconst (v := (0 : Int32)) hx hb dL_isFrameSo_671 (by decide) ?_
                      obtain ⟨rfl, rfl⟩ := Prod.mk.inj (Option.some.inj hf)
                      exact z_zret hx hb hr rfl hlk hw dL_isFrameSo_672
                    · have hf := (if_pos c652).symm.trans hf
                      refine lv_aload_n hx hb dL_isFrameSo_655 rfl (lv_at hl 0 rfl) ?_
                      refine lv_iload_n hx hb dL_isFrameSo_656 rfl (lv_at hl 1 rfl) ?_
                      refine lv_bipush (v := (8 : Int32)) hx hb dL_isFrameSo_657 (by decide) ?_
                      obtain ⟨q659, hq659, hf⟩ := ob_some hf
                      refine z_callVi (o := 0) (ci := 8) (As := [.int x1, .int (8 : Int32)]) (rest := []) (t_X10_frame G l hN x1 (8 : Int32) q641.2 hq659) cv_X10_frame hx hb hml hl.1 Z hw (by decide) (by decide) (by omega) rfl rfl wd571 rfl rfl (Nat.le_of_ble_eq_true rfl) (by decide) dL_isFrameSo_659 (fun H locs hw => ?_)
                      refine lv_iload hx hb dL_isFrameSo_662 (lv_at hl 3 rfl) ?_
                      refine lv_icmp_ne (tgt := 671) hx hb dL_isFrameSo_664 (by decide) (fun c664 => ?_) (fun c664 => ?_)
                      · have hf := (if_neg c664).symm.trans hf
                        refine lv_iconst (v := (0 : Int32)) hx hb dL_isFrameSo_671 (by decide) ?_
                        obtain ⟨rfl, rfl⟩ := Prod.mk.inj (Option.some.inj hf)
                        exact z_zret hx hb hr rfl hlk hw dL_isFrameSo_672
                      · have hf := (if_pos c664).symm.trans hf
                        refine lv_iconst (v := (1 : Int32)) hx hb dL_isFrameSo_667 (by decide) ?_
                        refine lv_goto (tgt := 672) hx hb dL_isFrameSo_668 (by decide) ?_
                        obtain ⟨rfl, rfl⟩ := Prod.mk.inj (Option.some.inj hf)
                        exact z_zret hx hb hr rfl hlk hw dL_isFrameSo_672
              refine lv_if_eq (tgt := 372) hx hb dL_isFrameSo_332 (by decide) (fun c332 => ?_) (fun c332 => ?_)
              · skip
                refine lv_iconst (v := (0 : Int32)) hx hb dL_isFrameSo_372 (by decide) ?_
                refine W.eq (g2 := F0 m 373 ls [.int (if j205.1 = 0 then (0 : Int32) else (if q24.1 = (2 : Int32) then (if j287.1 = 0 then (0 : Int32) else (if q24.1 = (3 : Int32) then (if j287.1 = 0 then (if q24.1 < 0 then (0 : Int32) else (if (4 : Int32) ≤ q24.1 then (0 : Int32) else (1 : Int32))) else (0 : Int32)) else (if q24.1 < 0 then (0 : Int32) else (if (4 : Int32) ≤ q24.1 then (0 : Int32) else (1 : Int32))))) else (if q24.1 = (3 : Int32) then (if j287.1 = 0 then (if q24.1 < 0 then (0 : Int32) else (if (4 : Int32) ≤ q24.1 then (0 : Int32) else (1 : Int32))) else (0 : Int32)) else (if q24.1 < 0 then (0 : Int32) else (if (4 : Int32) ≤ q24.1 then (0 : Int32) else (1 : Int32))))))]) ?_ (HJ373 ls H locs (lv_sub hl [1, 2, 3, 4, 6, 7] rfl) hw)
                first | (simp only [if_pos c332]; done) | contradiction
              · skip
                refine lv_iload hx hb dL_isFrameSo_335 (lv_at hl 3 rfl) ?_
                refine lv_iconst (v := (2 : Int32)) hx hb dL_isFrameSo_337 (by decide) ?_
                refine lv_icmp_ne (tgt := 346) hx hb dL_isFrameSo_338 (by decide) (fun c338 => ?_) (fun c338 => ?_)
                · skip
                  refine lv_iload hx hb dL_isFrameSo_346 (lv_at hl 3 rfl) ?_
                  refine lv_iconst (v := (3 : Int32)) hx hb dL_isFrameSo_348 (by decide) ?_
                  refine lv_icmp_ne (tgt := 357) hx hb dL_isFrameSo_349 (by decide) (fun c349 => ?_) (fun c349 => ?_)
                  · skip
                    refine lv_iload hx hb dL_isFrameSo_357 (lv_at hl 3 rfl) ?_
                    refine lv_if_lt (tgt := 372) hx hb dL_isFrameSo_359 (by decide) (fun c359 => ?_) (fun c359 => ?_)
                    · skip
                      refine lv_iconst (v := (0 : Int32)) hx hb dL_isFrameSo_372 (by decide) ?_
                      refine W.eq (g2 := F0 m 373 ls [.int (if j205.1 = 0 then (0 : Int32) else (if q24.1 = (2 : Int32) then (if j287.1 = 0 then (0 : Int32) else (if q24.1 = (3 : Int32) then (if j287.1 = 0 then (if q24.1 < 0 then (0 : Int32) else (if (4 : Int32) ≤ q24.1 then (0 : Int32) else (1 : Int32))) else (0 : Int32)) else (if q24.1 < 0 then (0 : Int32) else (if (4 : Int32) ≤ q24.1 then (0 : Int32) else (1 : Int32))))) else (if q24.1 = (3 : Int32) then (if j287.1 = 0 then (if q24.1 < 0 then (0 : Int32) else (if (4 : Int32) ≤ q24.1 then (0 : Int32) else (1 : Int32))) else (0 : Int32)) else (if q24.1 < 0 then (0 : Int32) else (if (4 : Int32) ≤ q24.1 then (0 : Int32) else (1 : Int32))))))]) ?_ (HJ373 ls H locs (lv_sub hl [1, 2, 3, 4, 6, 7] rfl) hw)
                      first | (simp only [if_neg c332, if_neg c338, if_neg c349, if_pos c359]; done) | contradiction
                    · skip
                      refine lv_iload hx hb dL_isFrameSo_362 (lv_at hl 3 rfl) ?_
                      refine lv_iconst (v := (4 : Int32)) hx hb dL_isFrameSo_364 (by decide) ?_
                      refine lv_icmp_ge (tgt := 372) hx hb dL_isFrameSo_365 (by decide) (fun c365 => ?_) (fun c365 => ?_)
                      · skip
                        refine lv_iconst (v := (0 : Int32)) hx hb dL_isFrameSo_372 (by decide) ?_
                        refine W.eq (g2 := F0 m 373 ls [.int (if j205.1 = 0 then (0 : Int32) else (if q24.1 = (2 : Int32) then (if j287.1 = 0 then (0 : Int32) else (if q24.1 = (3 : Int32) then (if j287.1 = 0 then (if q24.1 < 0 then (0 : Int32) else (if (4 : Int32) ≤ q24.1 then (0 : Int32) else (1 : Int32))) else (0 : Int32)) else (if q24.1 < 0 then (0 : Int32) else (if (4 : Int32) ≤ q24.1 then (0 : Int32) else (1 : Int32))))) else (if q24.1 = (3 : Int32) then (if j287.1 = 0 then (if q24.1 < 0 then (0 : Int32) else (if (4 : Int32) ≤ q24.1 then (0 : Int32) else (1 : Int32))) else (0 : Int32)) else (if q24.1 < 0 then (0 : Int32) else (if (4 : Int32) ≤ q24.1 then (0 : Int32) else (1 : Int32))))))]) ?_ (HJ373 ls H locs (lv_sub hl [1, 2, 3, 4, 6, 7] rfl) hw)
                        first | (simp only [if_neg c332, if_neg c338, if_neg c349, if_neg c359, if_pos c365]; done) | contradiction
                      · skip
                        refine lv_iconst (v := (1 : Int32)) hx hb dL_isFrameSo_368 (by decide) ?_
                        refine lv_goto (tgt := 373) hx hb dL_isFrameSo_369 (by decide) ?_
                        refine W.eq (g2 := F0 m 373 ls [.int (if j205.1 = 0 then (0 : Int32) else (if q24.1 = (2 : Int32) then (if j287.1 = 0 then (0 : Int32) else (if q24.1 = (3 : Int32) then (if j287.1 = 0 then (if q24.1 < 0 then (0 : Int32) else (if (4 : Int32) ≤ q24.1 then (0 : Int32) else (1 : Int32))) else (0 : Int32)) else (if q24.1 < 0 then (0 : Int32) else (if (4 : Int32) ≤ q24.1 then (0 : Int32) else (1 : Int32))))) else (if q24.1 = (3 : Int32) then (if j287.1 = 0 then (if q24.1 < 0 then (0 : Int32) else (if (4 : Int32) ≤ q24.1 then (0 : Int32) else (1 : Int32))) else (0 : Int32)) else (if q24.1 < 0 then (0 : Int32) else (if (4 : Int32) ≤ q24.1 then (0 : Int32) else (1 : Int32))))))]) ?_ (HJ373 ls H locs (lv_sub hl [1, 2, 3, 4, 6, 7] rfl) hw)
                        first | (simp only [if_neg c332, if_neg c338, if_neg c349, if_neg c359, if_neg c365]; done) | contradiction
                  · skip
                    refine lv_iload hx hb dL_isFrameSo_352 (lv_at hl 0 rfl) ?_
                    refine lv_if_ne (tgt := 372) hx hb dL_isFrameSo_354 (by decide) (fun c354 => ?_) (fun c354 => ?_)
                    · skip
                      refine lv_iconst (v := (0 : Int32)) hx hb dL_isFrameSo_372 (by decide) ?_
                      refine W.eq (g2 := F0 m 373 ls [.int (if j205.1 = 0 then (0 : Int32) else (if q24.1 = (2 : Int32) then (if j287.1 = 0 then (0 : Int32) else (if q24.1 = (3 : Int32) then (if j287.1 = 0 then (if q24.1 < 0 then (0 : Int32) else (if (4 : Int32) ≤ q24.1 then (0 : Int32) else (1 : Int32))) else (0 : Int32)) else (if q24.1 < 0 then (0 : Int32) else (if (4 : Int32) ≤ q24.1 then (0 : Int32) else (1 : Int32))))) else (if q24.1 = (3 : Int32) then (if j287.1 = 0 then (if q24.1 < 0 then (0 : Int32) else (if (4 : Int32) ≤ q24.1 then (0 : Int32) else (1 : Int32))) else (0 : Int32)) else (if q24.1 < 0 then (0 : Int32) else (if (4 : Int32) ≤ q24.1 then (0 : Int32) else (1 : Int32))))))]) ?_ (HJ373 ls H locs (lv_sub hl [1, 2, 3, 4, 6, 7] rfl) hw)
                      first | (simp only [if_neg c332, if_neg c338, if_pos c349, if_neg c354]; done) | contradiction
                    · skip
                      refine lv_iload hx hb dL_isFrameSo_357 (lv_at hl 3 rfl) ?_
                      refine lv_if_lt (tgt := 372) hx hb dL_isFrameSo_359 (by decide) (fun c359 => ?_) (fun c359 => ?_)
                      · skip
                        refine lv_iconst (v := (0 : Int32)) hx hb dL_isFrameSo_372 (by decide) ?_
                        refine W.eq (g2 := F0 m 373 ls [.int (if j205.1 = 0 then (0 : Int32) else (if q24.1 = (2 : Int32) then (if j287.1 = 0 then (0 : Int32) else (if q24.1 = (3 : Int32) then (if j287.1 = 0 then (if q24.1 < 0 then (0 : Int32) else (if (4 : Int32) ≤ q24.1 then (0 : Int32) else (1 : Int32))) else (0 : Int32)) else (if q24.1 < 0 then (0 : Int32) else (if (4 : Int32) ≤ q24.1 then (0 : Int32) else (1 : Int32))))) else (if q24.1 = (3 : Int32) then (if j287.1 = 0 then (if q24.1 < 0 then (0 : Int32) else (if (4 : Int32) ≤ q24.1 then (0 : Int32) else (1 : Int32))) else (0 : Int32)) else (if q24.1 < 0 then (0 : Int32) else (if (4 : Int32) ≤ q24.1 then (0 : Int32) else (1 : Int32))))))]) ?_ (HJ373 ls H locs (lv_sub hl [1, 2, 3, 4, 6, 7] rfl) hw)
                        first | (simp only [if_neg c332, if_neg c338, if_pos c349, if_pos c354, if_pos c359]; done) | contradiction
                      · skip
                        refine lv_iload hx hb dL_isFrameSo_362 (lv_at hl 3 rfl) ?_
                        refine lv_iconst (v := (4 : Int32)) hx hb dL_isFrameSo_364 (by decide) ?_
                        refine lv_icmp_ge (tgt := 372) hx hb dL_isFrameSo_365 (by decide) (fun c365 => ?_) (fun c365 => ?_)
                        · skip
                          refine lv_iconst (v := (0 : Int32)) hx hb dL_isFrameSo_372 (by decide) ?_
                          refine W.eq (g2 := F0 m 373 ls [.int (if j205.1 = 0 then (0 : Int32) else (if q24.1 = (2 : Int32) then (if j287.1 = 0 then (0 : Int32) else (if q24.1 = (3 : Int32) then (if j287.1 = 0 then (if q24.1 < 0 then (0 : Int32) else (if (4 : Int32) ≤ q24.1 then (0 : Int32) else (1 : Int32))) else (0 : Int32)) else (if q24.1 < 0 then (0 : Int32) else (if (4 : Int32) ≤ q24.1 then (0 : Int32) else (1 : Int32))))) else (if q24.1 = (3 : Int32) then (if j287.1 = 0 then (if q24.1 < 0 then (0 : Int32) else (if (4 : Int32) ≤ q24.1 then (0 : Int32) else (1 : Int32))) else (0 : Int32)) else (if q24.1 < 0 then (0 : Int32) else (if (4 : Int32) ≤ q24.1 then (0 : Int32) else (1 : Int32))))))]) ?_ (HJ373 ls H locs (lv_sub hl [1, 2, 3, 4, 6, 7] rfl) hw)
                          first | (simp only [if_neg c332, if_neg c338, if_pos c349, if_pos c354, if_neg c359, if_pos c365]; done) | contradiction
                        · skip
                          refine lv_iconst (v := (1 : Int32)) hx hb dL_isFrameSo_368 (by decide) ?_
                          refine lv_goto (tgt := 373) hx hb dL_isFrameSo_369 (by decide) ?_
                          refine W.eq (g2 := F0 m 373 ls [.int (if j205.1 = 0 then (0 : Int32) else (if q24.1 = (2 : Int32) then (if j287.1 = 0 then (0 : Int32) else (if q24.1 = (3 : Int32) then (if j287.1 = 0 then (if q24.1 < 0 then (0 : Int32) else (if (4 : Int32) ≤ q24.1 then (0 : Int32) else (1 : Int32))) else (0 : Int32)) else (if q24.1 < 0 then (0 : Int32) else (if (4 : Int32) ≤ q24.1 then (0 : Int32) else (1 : Int32))))) else (if q24.1 = (3 : Int32) then (if j287.1 = 0 then (if q24.1 < 0 then (0 : Int32) else (if (4 : Int32) ≤ q24.1 then (0 : Int32) else (1 : Int32))) else (0 : Int32)) else (if q24.1 < 0 then (0 : Int32) else (if (4 : Int32) ≤ q24.1 then (0 : Int32) else (1 : Int32))))))]) ?_ (HJ373 ls H locs (lv_sub hl [1, 2, 3, 4, 6, 7] rfl) hw)
                          first | (simp only [if_neg c332, if_neg c338, if_pos c349, if_pos c354, if_neg c359, if_neg c365]; done) | contradiction
                · skip
                  refine lv_iload hx hb dL_isFrameSo_341 (lv_at hl 0 rfl) ?_
                  refine lv_if_eq (tgt := 372) hx hb dL_isFrameSo_343 (by decide) (fun c343 => ?_) (fun c343 => ?_)
                  · skip
                    refine lv_iconst (v := (0 : Int32)) hx hb dL_isFrameSo_372 (by decide) ?_
                    refine W.eq (g2 := F0 m 373 ls [.int (if j205.1 = 0 then (0 : Int32) else (if q24.1 = (2 : Int32) then (if j287.1 = 0 then (0 : Int32) else (if q24.1 = (3 : Int32) then (if j287.1 = 0 then (if q24.1 < 0 then (0 : Int32) else (if (4 : Int32) ≤ q24.1 then (0 : Int32) else (1 : Int32))) else (0 : Int32)) else (if q24.1 < 0 then (0 : Int32) else (if (4 : Int32) ≤ q24.1 then (0 : Int32) else (1 : Int32))))) else (if q24.1 = (3 : Int32) then (if j287.1 = 0 then (if q24.1 < 0 then (0 : Int32) else (if (4 : Int32) ≤ q24.1 then (0 : Int32) else (1 : Int32))) else (0 : Int32)) else (if q24.1 < 0 then (0 : Int32) else (if (4 : Int32) ≤ q24.1 then (0 : Int32) else (1 : Int32))))))]) ?_ (HJ373 ls H locs (lv_sub hl [1, 2, 3, 4, 6, 7] rfl) hw)
                    first | (simp only [if_neg c332, if_pos c338, if_pos c343]; done) | contradiction
                  · skip
                    refine lv_iload hx hb dL_isFrameSo_346 (lv_at hl 3 rfl) ?_
                    refine lv_iconst (v := (3 : Int32)) hx hb dL_isFrameSo_348 (by decide) ?_
                    refine lv_icmp_ne (tgt := 357) hx hb dL_isFrameSo_349 (by decide) (fun c349 => ?_) (fun c349 => ?_)
                    · skip
                      refine lv_iload hx hb dL_isFrameSo_357 (lv_at hl 3 rfl) ?_
                      refine lv_if_lt (tgt := 372) hx hb dL_isFrameSo_359 (by decide) (fun c359 => ?_) (fun c359 => ?_)
                      · skip
                        refine lv_iconst (v := (0 : Int32)) hx hb dL_isFrameSo_372 (by decide) ?_
                        refine W.eq (g2 := F0 m 373 ls [.int (if j205.1 = 0 then (0 : Int32) else (if q24.1 = (2 : Int32) then (if j287.1 = 0 then (0 : Int32) else (if q24.1 = (3 : Int32) then (if j287.1 = 0 then (if q24.1 < 0 then (0 : Int32) else (if (4 : Int32) ≤ q24.1 then (0 : Int32) else (1 : Int32))) else (0 : Int32)) else (if q24.1 < 0 then (0 : Int32) else (if (4 : Int32) ≤ q24.1 then (0 : Int32) else (1 : Int32))))) else (if q24.1 = (3 : Int32) then (if j287.1 = 0 then (if q24.1 < 0 then (0 : Int32) else (if (4 : Int32) ≤ q24.1 then (0 : Int32) else (1 : Int32))) else (0 : Int32)) else (if q24.1 < 0 then (0 : Int32) else (if (4 : Int32) ≤ q24.1 then (0 : Int32) else (1 : Int32))))))]) ?_ (HJ373 ls H locs (lv_sub hl [1, 2, 3, 4, 6, 7] rfl) hw)
                        first | (simp only [if_neg c332, if_pos c338, if_neg c343, if_neg c349, if_pos c359]; done) | contradiction
                      · skip
                        refine lv_iload hx hb dL_isFrameSo_362 (lv_at hl 3 rfl) ?_
                        refine lv_iconst (v := (4 : Int32)) hx hb dL_isFrameSo_364 (by decide) ?_
                        refine lv_icmp_ge (tgt := 372) hx hb dL_isFrameSo_365 (by decide) (fun c365 => ?_) (fun c365 => ?_)
                        · skip
                          refine lv_iconst (v := (0 : Int32)) hx hb dL_isFrameSo_372 (by decide) ?_
                          refine W.eq (g2 := F0 m 373 ls [.int (if j205.1 = 0 then (0 : Int32) else (if q24.1 = (2 : Int32) then (if j287.1 = 0 then (0 : Int32) else (if q24.1 = (3 : Int32) then (if j287.1 = 0 then (if q24.1 < 0 then (0 : Int32) else (if (4 : Int32) ≤ q24.1 then (0 : Int32) else (1 : Int32))) else (0 : Int32)) else (if q24.1 < 0 then (0 : Int32) else (if (4 : Int32) ≤ q24.1 then (0 : Int32) else (1 : Int32))))) else (if q24.1 = (3 : Int32) then (if j287.1 = 0 then (if q24.1 < 0 then (0 : Int32) else (if (4 : Int32) ≤ q24.1 then (0 : Int32) else (1 : Int32))) else (0 : Int32)) else (if q24.1 < 0 then (0 : Int32) else (if (4 : Int32) ≤ q24.1 then (0 : Int32) else (1 : Int32))))))]) ?_ (HJ373 ls H locs (lv_sub hl [1, 2, 3, 4, 6, 7] rfl) hw)
                          first | (simp only [if_neg c332, if_pos c338, if_neg c343, if_neg c349, if_neg c359, if_pos c365]; done) | contradiction
                        · skip
                          refine lv_iconst (v := (1 : Int32)) hx hb dL_isFrameSo_368 (by decide) ?_
                          refine lv_goto (tgt := 373) hx hb dL_isFrameSo_369 (by decide) ?_
                          refine W.eq (g2 := F0 m 373 ls [.int (if j205.1 = 0 then (0 : Int32) else (if q24.1 = (2 : Int32) then (if j287.1 = 0 then (0 : Int32) else (if q24.1 = (3 : Int32) then (if j287.1 = 0 then (if q24.1 < 0 then (0 : Int32) else (if (4 : Int32) ≤ q24.1 then (0 : Int32) else (1 : Int32))) else (0 : Int32)) else (if q24.1 < 0 then (0 : Int32) else (if (4 : Int32) ≤ q24.1 then (0 : Int32) else (1 : Int32))))) else (if q24.1 = (3 : Int32) then (if j287.1 = 0 then (if q24.1 < 0 then (0 : Int32) else (if (4 : Int32) ≤ q24.1 then (0 : Int32) else (1 : Int32))) else (0 : Int32)) else (if q24.1 < 0 then (0 : Int32) else (if (4 : Int32) ≤ q24.1 then (0 : Int32) else (1 : Int32))))))]) ?_ (HJ373 ls H locs (lv_sub hl [1, 2, 3, 4, 6, 7] rfl) hw)
                          first | (simp only [if_neg c332, if_pos c338, if_neg c343, if_neg c349, if_neg c359, if_neg c365]; done) | contradiction
                    · skip
                      refine lv_iload hx hb dL_isFrameSo_352 (lv_at hl 0 rfl) ?_
                      refine lv_if_ne (tgt := 372) hx hb dL_isFrameSo_354 (by decide) (fun c354 => ?_) (fun c354 => ?_)
                      · skip
                        refine lv_iconst (v := (0 : Int32)) hx hb dL_isFrameSo_372 (by decide) ?_
                        refine W.eq (g2 := F0 m 373 ls [.int (if j205.1 = 0 then (0 : Int32) else (if q24.1 = (2 : Int32) then (if j287.1 = 0 then (0 : Int32) else (if q24.1 = (3 : Int32) then (if j287.1 = 0 then (if q24.1 < 0 then (0 : Int32) else (if (4 : Int32) ≤ q24.1 then (0 : Int32) else (1 : Int32))) else (0 : Int32)) else (if q24.1 < 0 then (0 : Int32) else (if (4 : Int32) ≤ q24.1 then (0 : Int32) else (1 : Int32))))) else (if q24.1 = (3 : Int32) then (if j287.1 = 0 then (if q24.1 < 0 then (0 : Int32) else (if (4 : Int32) ≤ q24.1 then (0 : Int32) else (1 : Int32))) else (0 : Int32)) else (if q24.1 < 0 then (0 : Int32) else (if (4 : Int32) ≤ q24.1 then (0 : Int32) else (1 : Int32))))))]) ?_ (HJ373 ls H locs (lv_sub hl [1, 2, 3, 4, 6, 7] rfl) hw)
                        first | (simp only [if_neg c332, if_pos c338, if_neg c343, if_pos c349, if_neg c354]; done) | contradiction
                      · skip
                        refine lv_iload hx hb dL_isFrameSo_357 (lv_at hl 3 rfl) ?_
                        refine lv_if_lt (tgt := 372) hx hb dL_isFrameSo_359 (by decide) (fun c359 => ?_) (fun c359 => ?_)
                        · skip
                          refine lv_iconst (v := (0 : Int32)) hx hb dL_isFrameSo_372 (by decide) ?_
                          refine W.eq (g2 := F0 m 373 ls [.int (if j205.1 = 0 then (0 : Int32) else (if q24.1 = (2 : Int32) then (if j287.1 = 0 then (0 : Int32) else (if q24.1 = (3 : Int32) then (if j287.1 = 0 then (if q24.1 < 0 then (0 : Int32) else (if (4 : Int32) ≤ q24.1 then (0 : Int32) else (1 : Int32))) else (0 : Int32)) else (if q24.1 < 0 then (0 : Int32) else (if (4 : Int32) ≤ q24.1 then (0 : Int32) else (1 : Int32))))) else (if q24.1 = (3 : Int32) then (if j287.1 = 0 then (if q24.1 < 0 then (0 : Int32) else (if (4 : Int32) ≤ q24.1 then (0 : Int32) else (1 : Int32))) else (0 : Int32)) else (if q24.1 < 0 then (0 : Int32) else (if (4 : Int32) ≤ q24.1 then (0 : Int32) else (1 : Int32))))))]) ?_ (HJ373 ls H locs (lv_sub hl [1, 2, 3, 4, 6, 7] rfl) hw)
                          first | (simp only [if_neg c332, if_pos c338, if_neg c343, if_pos c349, if_pos c354, if_pos c359]; done) | contradiction
                        · skip
                          refine lv_iload hx hb dL_isFrameSo_362 (lv_at hl 3 rfl) ?_
                          refine lv_iconst (v := (4 : Int32)) hx hb dL_isFrameSo_364 (by decide) ?_
                          refine lv_icmp_ge (tgt := 372) hx hb dL_isFrameSo_365 (by decide) (fun c365 => ?_) (fun c365 => ?_)
                          · skip
                            refine lv_iconst (v := (0 : Int32)) hx hb dL_isFrameSo_372 (by decide) ?_
                            refine W.eq (g2 := F0 m 373 ls [.int (if j205.1 = 0 then (0 : Int32) else (if q24.1 = (2 : Int32) then (if j287.1 = 0 then (0 : Int32) else (if q24.1 = (3 : Int32) then (if j287.1 = 0 then (if q24.1 < 0 then (0 : Int32) else (if (4 : Int32) ≤ q24.1 then (0 : Int32) else (1 : Int32))) else (0 : Int32)) else (if q24.1 < 0 then (0 : Int32) else (if (4 : Int32) ≤ q24.1 then (0 : Int32) else (1 : Int32))))) else (if q24.1 = (3 : Int32) then (if j287.1 = 0 then (if q24.1 < 0 then (0 : Int32) else (if (4 : Int32) ≤ q24.1 then (0 : Int32) else (1 : Int32))) else (0 : Int32)) else (if q24.1 < 0 then (0 : Int32) else (if (4 : Int32) ≤ q24.1 then (0 : Int32) else (1 : Int32))))))]) ?_ (HJ373 ls H locs (lv_sub hl [1, 2, 3, 4, 6, 7] rfl) hw)
                            first | (simp only [if_neg c332, if_pos c338, if_neg c343, if_pos c349, if_pos c354, if_neg c359, if_pos c365]; done) | contradiction
                          · skip
                            refine lv_iconst (v := (1 : Int32)) hx hb dL_isFrameSo_368 (by decide) ?_
                            refine lv_goto (tgt := 373) hx hb dL_isFrameSo_369 (by decide) ?_
                            refine W.eq (g2 := F0 m 373 ls [.int (if j205.1 = 0 then (0 : Int32) else (if q24.1 = (2 : Int32) then (if j287.1 = 0 then (0 : Int32) else (if q24.1 = (3 : Int32) then (if j287.1 = 0 then (if q24.1 < 0 then (0 : Int32) else (if (4 : Int32) ≤ q24.1 then (0 : Int32) else (1 : Int32))) else (0 : Int32)) else (if q24.1 < 0 then (0 : Int32) else (if (4 : Int32) ≤ q24.1 then (0 : Int32) else (1 : Int32))))) else (if q24.1 = (3 : Int32) then (if j287.1 = 0 then (if q24.1 < 0 then (0 : Int32) else (if (4 : Int32) ≤ q24.1 then (0 : Int32) else (1 : Int32))) else (0 : Int32)) else (if q24.1 < 0 then (0 : Int32) else (if (4 : Int32) ≤ q24.1 then (0 : Int32) else (1 : Int32))))))]) ?_ (HJ373 ls H locs (lv_sub hl [1, 2, 3, 4, 6, 7] rfl) hw)
                            first | (simp only [if_neg c332, if_pos c338, if_neg c343, if_pos c349, if_pos c354, if_neg c359, if_neg c365]; done) | contradiction
            have hf := hqj287
            refine lv_if_ne (tgt := 327) hx hb dL_isFrameSo_287 (by decide) (fun c287 => ?_) (fun c287 => ?_)
            · have hf := (if_neg c287).symm.trans hf
              refine lv_iconst (v := (0 : Int32)) hx hb dL_isFrameSo_327 (by decide) ?_
              obtain rfl := Option.some.inj hf
              exact HJ328 ls H locs (lv_sub hl [1, 2, 4, 5, 6, 7, 0] rfl) hw
            · have hf := (if_pos c287).symm.trans hf
              refine lv_iload hx hb dL_isFrameSo_290 (lv_at hl 7 rfl) ?_
              refine lv_if_lt (tgt := 327) hx hb dL_isFrameSo_292 (by decide) (fun c292 => ?_) (fun c292 => ?_)
              · have hf := (if_pos c292).symm.trans hf
                refine lv_iconst (v := (0 : Int32)) hx hb dL_isFrameSo_327 (by decide) ?_
                obtain rfl := Option.some.inj hf
                exact HJ328 ls H locs (lv_sub hl [1, 2, 4, 5, 6, 7, 0] rfl) hw
              · have hf := (if_neg c292).symm.trans hf
                refine lv_iload hx hb dL_isFrameSo_295 (lv_at hl 0 rfl) ?_
                refine lv_iload_n hx hb dL_isFrameSo_297 rfl (lv_at hl 3 rfl) ?_
                refine lv_icmp_ge (tgt := 327) hx hb dL_isFrameSo_298 (by decide) (fun c298 => ?_) (fun c298 => ?_)
                · have hf := (if_pos c298).symm.trans hf
                  refine lv_iconst (v := (0 : Int32)) hx hb dL_isFrameSo_327 (by decide) ?_
                  obtain rfl := Option.some.inj hf
                  exact HJ328 ls H locs (lv_sub hl [1, 2, 4, 5, 6, 7, 0] rfl) hw
                · have hf := (if_neg c298).symm.trans hf
                  refine lv_aload_n hx hb dL_isFrameSo_301 rfl (lv_at hl 1 rfl) ?_
                  refine lv_iload hx hb dL_isFrameSo_302 (lv_at hl 7 rfl) ?_
                  refine lv_iconst (v := (5 : Int32)) hx hb dL_isFrameSo_304 (by decide) ?_
                  obtain ⟨q305, hq305, hf⟩ := ob_some hf
                  refine z_callVi (o := 0) (ci := 8) (As := [.int v265, .int (5 : Int32)]) (rest := []) (t_X10_frame G l hN v265 (5 : Int32) j205.2 hq305) cv_X10_frame hx hb hml hl.1 Z hw (by decide) (by decide) (by omega) rfl rfl wd571 rfl rfl (Nat.le_of_ble_eq_true rfl) (by decide) dL_isFrameSo_305 (fun H locs hw => ?_)
                  refine lv_iconst (v := (2 : Int32)) hx hb dL_isFrameSo_308 (by decide) ?_
                  refine lv_icmp_ge (tgt := 327) hx hb dL_isFrameSo_309 (by decide) (fun c309 => ?_) (fun c309 => ?_)
                  · have hf := (if_pos c309).symm.trans hf
                    refine lv_iconst (v := (0 : Int32)) hx hb dL_isFrameSo_327 (by decide) ?_
                    obtain rfl := Option.some.inj hf
                    exact HJ328 ls H locs (lv_sub hl [1, 2, 4, 5, 6, 7, 0] rfl) hw
                  · have hf := (if_neg c309).symm.trans hf
                    refine lv_aload_n hx hb dL_isFrameSo_312 rfl (lv_at hl 1 rfl) ?_
                    refine lv_iload hx hb dL_isFrameSo_313 (lv_at hl 0 rfl) ?_
                    refine lv_iconst (v := (5 : Int32)) hx hb dL_isFrameSo_315 (by decide) ?_
                    obtain ⟨q316, hq316, hf⟩ := ob_some hf
                    refine z_callVi (o := 0) (ci := 8) (As := [.int v283, .int (5 : Int32)]) (rest := []) (t_X10_frame G l hN v283 (5 : Int32) q305.2 hq316) cv_X10_frame hx hb hml hl.1 Z hw (by decide) (by decide) (by omega) rfl rfl wd571 rfl rfl (Nat.le_of_ble_eq_true rfl) (by decide) dL_isFrameSo_316 (fun H locs hw => ?_)
                    refine lv_iconst (v := (2 : Int32)) hx hb dL_isFrameSo_319 (by decide) ?_
                    refine lv_icmp_ge (tgt := 327) hx hb dL_isFrameSo_320 (by decide) (fun c320 => ?_) (fun c320 => ?_)
                    · have hf := (if_pos c320).symm.trans hf
                      refine lv_iconst (v := (0 : Int32)) hx hb dL_isFrameSo_327 (by decide) ?_
                      obtain rfl := Option.some.inj hf
                      exact HJ328 ls H locs (lv_sub hl [1, 2, 4, 5, 6, 7, 0] rfl) hw
                    · have hf := (if_neg c320).symm.trans hf
                      refine lv_iconst (v := (1 : Int32)) hx hb dL_isFrameSo_323 (by decide) ?_
                      refine lv_goto (tgt := 328) hx hb dL_isFrameSo_324 (by decide) ?_
                      obtain rfl := Option.some.inj hf
                      exact HJ328 ls H locs (lv_sub hl [1, 2, 4, 5, 6, 7, 0] rfl) hw
          refine lv_icmp_ne (tgt := 280) hx hb dL_isFrameSo_271 (by decide) (fun c271 => ?_) (fun c271 => ?_)
          · skip
            refine lv_iload_n hx hb dL_isFrameSo_280 rfl (lv_at hl 2 rfl) ?_
            refine lv_iconst (v := (1 : Int32)) hx hb dL_isFrameSo_281 (by decide) ?_
            refine lv_iadd hx hb dL_isFrameSo_282 ?_
            refine W.eq (g2 := F0 m 283 ls [.int (if (jrem x1 (5 : Int32)) = (3 : Int32) then (x1 + (2 : Int32)) else (x1 + (1 : Int32)))]) ?_ (HJ283 ls H locs (lv_sub hl [1, 2, 3, 4, 5, 6, 0] rfl) hw)
            first | (simp only [if_neg c271]; done) | contradiction
          · skip
            refine lv_iload_n hx hb dL_isFrameSo_274 rfl (lv_at hl 2 rfl) ?_
            refine lv_iconst (v := (2 : Int32)) hx hb dL_isFrameSo_275 (by decide) ?_
            refine lv_iadd hx hb dL_isFrameSo_276 ?_
            refine lv_goto (tgt := 283) hx hb dL_isFrameSo_277 (by decide) ?_
            refine W.eq (g2 := F0 m 283 ls [.int (if (jrem x1 (5 : Int32)) = (3 : Int32) then (x1 + (2 : Int32)) else (x1 + (1 : Int32)))]) ?_ (HJ283 ls H locs (lv_sub hl [1, 2, 3, 4, 5, 6, 0] rfl) hw)
            first | (simp only [if_pos c271]; done) | contradiction
        refine lv_if_ne (tgt := 262) hx hb dL_isFrameSo_253 (by decide) (fun c253 => ?_) (fun c253 => ?_)
        · skip
          refine lv_iload_n hx hb dL_isFrameSo_262 rfl (lv_at hl 2 rfl) ?_
          refine lv_iconst (v := (1 : Int32)) hx hb dL_isFrameSo_263 (by decide) ?_
          refine lv_isub hx hb dL_isFrameSo_264 ?_
          refine W.eq (g2 := F0 m 265 ls [.int (if (jrem x1 (5 : Int32)) = 0 then (x1 - (2 : Int32)) else (x1 - (1 : Int32)))]) ?_ (HJ265 ls H locs (lv_sub hl [1, 2, 3, 4, 5, 0] rfl) hw)
          first | (simp only [if_neg c253]; done) | contradiction
        · skip
          refine lv_iload_n hx hb dL_isFrameSo_256 rfl (lv_at hl 2 rfl) ?_
          refine lv_iconst (v := (2 : Int32)) hx hb dL_isFrameSo_257 (by decide) ?_
          refine lv_isub hx hb dL_isFrameSo_258 ?_
          refine lv_goto (tgt := 265) hx hb dL_isFrameSo_259 (by decide) ?_
          refine W.eq (g2 := F0 m 265 ls [.int (if (jrem x1 (5 : Int32)) = 0 then (x1 - (2 : Int32)) else (x1 - (1 : Int32)))]) ?_ (HJ265 ls H locs (lv_sub hl [1, 2, 3, 4, 5, 0] rfl) hw)
          first | (simp only [if_pos c253]; done) | contradiction
      have hf := hqj205
      refine lv_if_eq (tgt := 247) hx hb dL_isFrameSo_205 (by decide) (fun c205 => ?_) (fun c205 => ?_)
      · have hf := (if_pos c205).symm.trans hf
        refine lv_iconst (v := (0 : Int32)) hx hb dL_isFrameSo_247 (by decide) ?_
        obtain rfl := Option.some.inj hf
        exact HJ248 ls H locs (lv_sub hl [0, 1, 2, 3, 4] rfl) hw
      · have hf := (if_neg c205).symm.trans hf
        refine lv_iload hx hb dL_isFrameSo_208 (lv_at hl 3 rfl) ?_
        refine lv_iconst (v := (1 : Int32)) hx hb dL_isFrameSo_210 (by decide) ?_
        have HJ219 : ∀ (ls : Array Slot) (H : Heap) (locs : List Loc), lv_has ls 21 [(0, .ref (ra G 0)), (1, .int x1), (2, .int q2.1), (5, .int q24.1), (6, .int v44), (8, .int q169.1)] → HW G q169.2 s H locs → WZ p l e 6 s m args below meth c G (some (.int r)) h' H locs (F0 m 219 ls [.int (if q24.1 = (1 : Int32) then (1 : Int32) else (0 : Int32))]) := by
          intro ls H locs hl hw
          refine lv_aload_n hx hb dL_isFrameSo_219 rfl (lv_at hl 0 rfl) ?_
          refine lv_iload_n hx hb dL_isFrameSo_220 rfl (lv_at hl 1 rfl) ?_
          refine lv_iconst (v := (4 : Int32)) hx hb dL_isFrameSo_221 (by decide) ?_
          obtain ⟨q222, hq222, hf⟩ := ob_some hf
          refine z_callVi (o := 0) (ci := 8) (As := [.int x1, .int (4 : Int32)]) (rest := [.int (if q24.1 = (1 : Int32) then (1 : Int32) else (0 : Int32))]) (t_X10_frame G l hN x1 (4 : Int32) q169.2 hq222) cv_X10_frame hx hb hml hl.1 Z hw (by decide) (by decide) (by omega) rfl rfl wd571 rfl rfl (Nat.le_of_ble_eq_true rfl) (by decide) dL_isFrameSo_222 (fun H locs hw => ?_)
          refine lv_iconst (v := (1 : Int32)) hx hb dL_isFrameSo_225 (by decide) ?_
          have HJ240 : ∀ (ls : Array Slot) (H : Heap) (locs : List Loc), lv_has ls 21 [(0, .ref (ra G 0)), (1, .int x1), (2, .int q2.1), (5, .int q24.1), (6, .int v44)] → HW G q222.2 s H locs → WZ p l e 6 s m args below meth c G (some (.int r)) h' H locs (F0 m 240 ls [.int (if q222.1 = (1 : Int32) then (if q169.1 = (1 : Int32) then (1 : Int32) else (0 : Int32)) else (0 : Int32)), .int (if q24.1 = (1 : Int32) then (1 : Int32) else (0 : Int32))]) := by
            intro ls H locs hl hw
            refine lv_icmp_ne (tgt := 247) hx hb dL_isFrameSo_240 (by decide) (fun c240 => ?_) (fun c240 => ?_)
            · have hf := (if_neg c240).symm.trans hf
              refine lv_iconst (v := (0 : Int32)) hx hb dL_isFrameSo_247 (by decide) ?_
              obtain rfl := Option.some.inj hf
              exact HJ248 ls H locs (lv_sub hl [0, 1, 2, 3, 4] rfl) hw
            · have hf := (if_pos c240).symm.trans hf
              refine lv_iconst (v := (1 : Int32)) hx hb dL_isFrameSo_243 (by decide) ?_
              refine lv_goto (tgt := 248) hx hb dL_isFrameSo_244 (by decide) ?_
              obtain rfl := Option.some.inj hf
              exact HJ248 ls H locs (lv_sub hl [0, 1, 2, 3, 4] rfl) hw
          refine lv_icmp_ne (tgt := 239) hx hb dL_isFrameSo_226 (by decide) (fun c226 => ?_) (fun c226 => ?_)
          · skip
            refine lv_iconst (v := (0 : Int32)) hx hb dL_isFrameSo_239 (by decide) ?_
            refine W.eq (g2 := F0 m 240 ls [.int (if q222.1 = (1 : Int32) then (if q169.1 = (1 : Int32) then (1 : Int32) else (0 : Int32)) else (0 : Int32)), .int (if q24.1 = (1 : Int32) then (1 : Int32) else (0 : Int32))]) ?_ (HJ240 ls H locs (lv_sub hl [0, 1, 2, 3, 4] rfl) hw)
            first | (simp only [if_neg c226]; done) | contradiction
          · skip
            refine lv_iload hx hb dL_isFrameSo_229 (lv_at hl 5 rfl) ?_
            refine lv_iconst (v := (1 : Int32)) hx hb dL_isFrameSo_231 (by decide) ?_
            refine lv_icmp_ne (tgt := 239) hx hb dL_isFrameSo_232 (by decide) (fun c232 => ?_) (fun c232 => ?_)
            · skip
              refine lv_iconst (v := (0 : Int32)) hx hb dL_isFrameSo_239 (by decide) ?_
              refine W.eq (g2 := F0 m 240 ls [.int (if q222.1 = (1 : Int32) then (if q169.1 = (1 : Int32) then (1 : Int32) else (0 : Int32)) else (0 : Int32)), .int (if q24.1 = (1 : Int32) then (1 : Int32) else (0 : Int32))]) ?_ (HJ240 ls H locs (lv_sub hl [0, 1, 2, 3, 4] rfl) hw)
              first | (simp only [if_pos c226, if_neg c232]; done) | contradiction
            · skip
              refine lv_iconst (v := (1 : Int32)) hx hb dL_isFrameSo_235 (by decide) ?_
              refine lv_goto (tgt := 240) hx hb dL_isFrameSo_236 (by decide) ?_
              refine W.eq (g2 := F0 m 240 ls [.int (if q222.1 = (1 : Int32) then (if q169.1 = (1 : Int32) then (1 : Int32) else (0 : Int32)) else (0 : Int32)), .int (if q24.1 = (1 : Int32) then (1 : Int32) else (0 : Int32))]) ?_ (HJ240 ls H locs (lv_sub hl [0, 1, 2, 3, 4] rfl) hw)
              first | (simp only [if_pos c226, if_pos c232]; done) | contradiction
        refine lv_icmp_ne (tgt := 218) hx hb dL_isFrameSo_211 (by decide) (fun c211 => ?_) (fun c211 => ?_)
        · skip
          refine lv_iconst (v := (0 : Int32)) hx hb dL_isFrameSo_218 (by decide) ?_
          refine W.eq (g2 := F0 m 219 ls [.int (if q24.1 = (1 : Int32) then (1 : Int32) else (0 : Int32))]) ?_ (HJ219 ls H locs (lv_sub hl [0, 1, 2, 3, 4, 6] rfl) hw)
          first | (simp only [if_neg c211]; done) | contradiction
        · skip
          refine lv_iconst (v := (1 : Int32)) hx hb dL_isFrameSo_214 (by decide) ?_
          refine lv_goto (tgt := 219) hx hb dL_isFrameSo_215 (by decide) ?_
          refine W.eq (g2 := F0 m 219 ls [.int (if q24.1 = (1 : Int32) then (1 : Int32) else (0 : Int32))]) ?_ (HJ219 ls H locs (lv_sub hl [0, 1, 2, 3, 4, 6] rfl) hw)
          first | (simp only [if_pos c211]; done) | contradiction
    have hf := hqj60
    refine lv_icmp_ne (tgt := 160) hx hb dL_isFrameSo_60 (by decide) (fun c60 => ?_) (fun c60 => ?_)
    · have hf := (if_neg c60).symm.trans hf
      refine lv_iconst (v := (0 : Int32)) hx hb dL_isFrameSo_160 (by decide) ?_
      obtain rfl := Option.some.inj hf
      exact HJ161 ls H locs (lv_sub hl [1, 2, 3, 5, 6, 0] rfl) hw
    · have hf := (if_pos c60).symm.trans hf
      refine lv_aload_n hx hb dL_isFrameSo_63 rfl (lv_at hl 1 rfl) ?_
      refine lv_iload_n hx hb dL_isFrameSo_64 rfl (lv_at hl 2 rfl) ?_
      refine lv_iconst (v := (1 : Int32)) hx hb dL_isFrameSo_65 (by decide) ?_
      obtain ⟨q66, hq66, hf⟩ := ob_some hf
      refine z_callVi (o := 0) (ci := 8) (As := [.int x1, .int (1 : Int32)]) (rest := []) (t_X10_frame G l hN x1 (1 : Int32) q55.2 hq66) cv_X10_frame hx hb hml hl.1 Z hw (by decide) (by decide) (by omega) rfl rfl wd571 rfl rfl (Nat.le_of_ble_eq_true rfl) (by decide) dL_isFrameSo_66 (fun H locs hw => ?_)
      refine lv_aload_n hx hb dL_isFrameSo_69 rfl (lv_at hl 1 rfl) ?_
      refine lv_iload_n hx hb dL_isFrameSo_70 rfl (lv_at hl 4 rfl) ?_
      refine lv_iconst (v := (0 : Int32)) hx hb dL_isFrameSo_71 (by decide) ?_
      obtain ⟨q72, hq72, hf⟩ := ob_some hf
      refine z_callVi (o := 0) (ci := 8) (As := [.int q9.1, .int (0 : Int32)]) (rest := [.int q66.1]) (t_X10_turn G l hN q9.1 (0 : Int32) q66.2 hq72) cv_X10_turn hx hb hml hl.1 Z hw (by decide) (by decide) (by omega) rfl rfl wd606 rfl rfl (Nat.le_of_ble_eq_true rfl) (by decide) dL_isFrameSo_72 (fun H locs hw => ?_)
      refine lv_icmp_ge (tgt := 160) hx hb dL_isFrameSo_75 (by decide) (fun c75 => ?_) (fun c75 => ?_)
      · have hf := (if_pos c75).symm.trans hf
        refine lv_iconst (v := (0 : Int32)) hx hb dL_isFrameSo_160 (by decide) ?_
        obtain rfl := Option.some.inj hf
        exact HJ161 ls H locs (lv_sub hl [1, 2, 3, 5, 6, 0] rfl) hw
      · have hf := (if_neg c75).symm.trans hf
        refine lv_iload hx hb dL_isFrameSo_78 (lv_at hl 5 rfl) ?_
        refine lv_bipush (v := (-5 : Int32)) hx hb dL_isFrameSo_80 (by decide) ?_
        have HJ90 : ∀ (ls : Array Slot) (H : Heap) (locs : List Loc), lv_has ls 21 [(0, .ref (ra G 0)), (1, .int x1), (2, .int q2.1), (4, .int q16.1), (5, .int q24.1), (6, .int v44)] → HW G q72.2 s H locs → WZ p l e 6 s m args below meth c G (some (.int r)) h' H locs (F0 m 90 ls [.int (if q16.1 = (-5 : Int32) then (1 : Int32) else (0 : Int32))]) := by
          intro ls H locs hl hw
          refine lv_iload_n hx hb dL_isFrameSo_90 rfl (lv_at hl 1 rfl) ?_
          refine lv_iload_n hx hb dL_isFrameSo_91 rfl (lv_at hl 2 rfl) ?_
          refine lv_iconst (v := (5 : Int32)) hx hb dL_isFrameSo_92 (by decide) ?_
          refine lv_idiv hx hb dL_isFrameSo_93 (by decide) ?_
          refine lv_iconst (v := (5 : Int32)) hx hb dL_isFrameSo_94 (by decide) ?_
          refine lv_imul hx hb dL_isFrameSo_95 ?_
          have HJ104 : ∀ (ls : Array Slot) (H : Heap) (locs : List Loc), lv_has ls 21 [(0, .ref (ra G 0)), (1, .int x1), (2, .int q2.1), (4, .int q16.1), (5, .int q24.1), (6, .int v44)] → HW G q72.2 s H locs → WZ p l e 6 s m args below meth c G (some (.int r)) h' H locs (F0 m 104 ls [.int (if x1 < ((q2.1 / (5 : Int32)) * (5 : Int32)) then (0 : Int32) else (1 : Int32)), .int (if q16.1 = (-5 : Int32) then (1 : Int32) else (0 : Int32))]) := by
            intro ls H locs hl hw
            refine lv_icmp_ne (tgt := 160) hx hb dL_isFrameSo_104 (by decide) (fun c104 => ?_) (fun c104 => ?_)
            · have hf := (if_neg c104).symm.trans hf
              refine lv_iconst (v := (0 : Int32)) hx hb dL_isFrameSo_160 (by decide) ?_
              obtain rfl := Option.some.inj hf
              exact HJ161 ls H locs (lv_sub hl [0, 1, 2, 3, 4, 5] rfl) hw
            · have hf := (if_pos c104).symm.trans hf
              refine lv_iload hx hb dL_isFrameSo_107 (lv_at hl 5 rfl) ?_
              refine lv_iload hx hb dL_isFrameSo_109 (lv_at hl 3 rfl) ?_
              have HJ126 : ∀ (ls : Array Slot) (H : Heap) (locs : List Loc), lv_has ls 21 [(0, .ref (ra G 0)), (1, .int x1), (2, .int q2.1), (4, .int q16.1), (5, .int q24.1), (6, .int v44)] → HW G q72.2 s H locs → WZ p l e 6 s m args below meth c G (some (.int r)) h' H locs (F0 m 126 ls [.int (if q16.1 < 0 then (0 : Int32) else (if (jrem x1 (5 : Int32)) = (4 : Int32) then (1 : Int32) else (0 : Int32))), .int v44]) := by
                intro ls H locs hl hw
                refine lv_icmp_ne (tgt := 160) hx hb dL_isFrameSo_126 (by decide) (fun c126 => ?_) (fun c126 => ?_)
                · have hf := (if_neg c126).symm.trans hf
                  refine lv_iconst (v := (0 : Int32)) hx hb dL_isFrameSo_160 (by decide) ?_
                  obtain rfl := Option.some.inj hf
                  exact HJ161 ls H locs (lv_sub hl [0, 1, 2, 3, 4, 5] rfl) hw
                · have hf := (if_pos c126).symm.trans hf
                  refine lv_iload hx hb dL_isFrameSo_129 (lv_at hl 4 rfl) ?_
                  have HJ139 : ∀ (ls : Array Slot) (H : Heap) (locs : List Loc), lv_has ls 21 [(0, .ref (ra G 0)), (1, .int x1), (2, .int q2.1), (4, .int q16.1), (5, .int q24.1), (6, .int v44)] → HW G q72.2 s H locs → WZ p l e 6 s m args below meth c G (some (.int r)) h' H locs (F0 m 139 ls [.int (if q24.1 = 0 then (1 : Int32) else (0 : Int32))]) := by
                    intro ls H locs hl hw
                    refine lv_aload_n hx hb dL_isFrameSo_139 rfl (lv_at hl 0 rfl) ?_
                    refine lv_iload_n hx hb dL_isFrameSo_140 rfl (lv_at hl 1 rfl) ?_
                    refine lv_iconst (v := (4 : Int32)) hx hb dL_isFrameSo_141 (by decide) ?_
                    obtain ⟨q142, hq142, hf⟩ := ob_some hf
                    refine z_callVi (o := 0) (ci := 8) (As := [.int x1, .int (4 : Int32)]) (rest := [.int (if q24.1 = 0 then (1 : Int32) else (0 : Int32))]) (t_X10_frame G l hN x1 (4 : Int32) q72.2 hq142) cv_X10_frame hx hb hml hl.1 Z hw (by decide) (by decide) (by omega) rfl rfl wd571 rfl rfl (Nat.le_of_ble_eq_true rfl) (by decide) dL_isFrameSo_142 (fun H locs hw => ?_)
                    have HJ153 : ∀ (ls : Array Slot) (H : Heap) (locs : List Loc), lv_has ls 21 [(0, .ref (ra G 0)), (1, .int x1), (2, .int q2.1), (4, .int q16.1), (5, .int q24.1), (6, .int v44)] → HW G q142.2 s H locs → WZ p l e 6 s m args below meth c G (some (.int r)) h' H locs (F0 m 153 ls [.int (if q142.1 = 0 then (1 : Int32) else (0 : Int32)), .int (if q24.1 = 0 then (1 : Int32) else (0 : Int32))]) := by
                      intro ls H locs hl hw
                      refine lv_icmp_ne (tgt := 160) hx hb dL_isFrameSo_153 (by decide) (fun c153 => ?_) (fun c153 => ?_)
                      · have hf := (if_neg c153).symm.trans hf
                        refine lv_iconst (v := (0 : Int32)) hx hb dL_isFrameSo_160 (by decide) ?_
                        obtain rfl := Option.some.inj hf
                        exact HJ161 ls H locs (lv_sub hl [0, 1, 2, 3, 4, 5] rfl) hw
                      · have hf := (if_pos c153).symm.trans hf
                        refine lv_iconst (v := (1 : Int32)) hx hb dL_isFrameSo_156 (by decide) ?_
                        refine lv_goto (tgt := 161) hx hb dL_isFrameSo_157 (by decide) ?_
                        obtain rfl := Option.some.inj hf
                        exact HJ161 ls H locs (lv_sub hl [0, 1, 2, 3, 4, 5] rfl) hw
                    refine lv_if_ne (tgt := 152) hx hb dL_isFrameSo_145 (by decide) (fun c145 => ?_) (fun c145 => ?_)
                    · skip
                      refine lv_iconst (v := (0 : Int32)) hx hb dL_isFrameSo_152 (by decide) ?_
                      refine W.eq (g2 := F0 m 153 ls [.int (if q142.1 = 0 then (1 : Int32) else (0 : Int32)), .int (if q24.1 = 0 then (1 : Int32) else (0 : Int32))]) ?_ (HJ153 ls H locs (lv_sub hl [0, 1, 2, 3, 4, 5] rfl) hw)
                      first | (simp only [if_neg c145]; done) | contradiction
                    · skip
                      refine lv_iconst (v := (1 : Int32)) hx hb dL_isFrameSo_148 (by decide) ?_
                      refine lv_goto (tgt := 153) hx hb dL_isFrameSo_149 (by decide) ?_
                      refine W.eq (g2 := F0 m 153 ls [.int (if q142.1 = 0 then (1 : Int32) else (0 : Int32)), .int (if q24.1 = 0 then (1 : Int32) else (0 : Int32))]) ?_ (HJ153 ls H locs (lv_sub hl [0, 1, 2, 3, 4, 5] rfl) hw)
                      first | (simp only [if_pos c145]; done) | contradiction
                  refine lv_if_ne (tgt := 138) hx hb dL_isFrameSo_131 (by decide) (fun c131 => ?_) (fun c131 => ?_)
                  · skip
                    refine lv_iconst (v := (0 : Int32)) hx hb dL_isFrameSo_138 (by decide) ?_
                    refine W.eq (g2 := F0 m 139 ls [.int (if q24.1 = 0 then (1 : Int32) else (0 : Int32))]) ?_ (HJ139 ls H locs (lv_sub hl [0, 1, 2, 3, 4, 5] rfl) hw)
                    first | (simp only [if_neg c131]; done) | contradiction
                  · skip
                    refine lv_iconst (v := (1 : Int32)) hx hb dL_isFrameSo_134 (by decide) ?_
                    refine lv_goto (tgt := 139) hx hb dL_isFrameSo_135 (by decide) ?_
                    refine W.eq (g2 := F0 m 139 ls [.int (if q24.1 = 0 then (1 : Int32) else (0 : Int32))]) ?_ (HJ139 ls H locs (lv_sub hl [0, 1, 2, 3, 4, 5] rfl) hw)
                    first | (simp only [if_pos c131]; done) | contradiction
              refine lv_if_lt (tgt := 125) hx hb dL_isFrameSo_111 (by decide) (fun c111 => ?_) (fun c111 => ?_)
              · skip
                refine lv_iconst (v := (0 : Int32)) hx hb dL_isFrameSo_125 (by decide) ?_
                refine W.eq (g2 := F0 m 126 ls [.int (if q16.1 < 0 then (0 : Int32) else (if (jrem x1 (5 : Int32)) = (4 : Int32) then (1 : Int32) else (0 : Int32))), .int v44]) ?_ (HJ126 ls H locs (lv_sub hl [0, 1, 2, 3, 4, 5] rfl) hw)
                first | (simp only [if_pos c111]; done) | contradiction
              · skip
                refine lv_iload_n hx hb dL_isFrameSo_114 rfl (lv_at hl 1 rfl) ?_
                refine lv_iconst (v := (5 : Int32)) hx hb dL_isFrameSo_115 (by decide) ?_
                refine z_irem hx hb dL_isFrameSo_116 (by decide) ?_
                refine lv_iconst (v := (4 : Int32)) hx hb dL_isFrameSo_117 (by decide) ?_
                refine lv_icmp_ne (tgt := 125) hx hb dL_isFrameSo_118 (by decide) (fun c118 => ?_) (fun c118 => ?_)
                · skip
                  refine lv_iconst (v := (0 : Int32)) hx hb dL_isFrameSo_125 (by decide) ?_
                  refine W.eq (g2 := F0 m 126 ls [.int (if q16.1 < 0 then (0 : Int32) else (if (jrem x1 (5 : Int32)) = (4 : Int32) then (1 : Int32) else (0 : Int32))), .int v44]) ?_ (HJ126 ls H locs (lv_sub hl [0, 1, 2, 3, 4, 5] rfl) hw)
                  first | (simp only [if_neg c111, if_neg c118]; done) | contradiction
                · skip
                  refine lv_iconst (v := (1 : Int32)) hx hb dL_isFrameSo_121 (by decide) ?_
                  refine lv_goto (tgt := 126) hx hb dL_isFrameSo_122 (by decide) ?_
                  refine W.eq (g2 := F0 m 126 ls [.int (if q16.1 < 0 then (0 : Int32) else (if (jrem x1 (5 : Int32)) = (4 : Int32) then (1 : Int32) else (0 : Int32))), .int v44]) ?_ (HJ126 ls H locs (lv_sub hl [0, 1, 2, 3, 4, 5] rfl) hw)
                  first | (simp only [if_neg c111, if_pos c118]; done) | contradiction
          refine lv_icmp_lt (tgt := 103) hx hb dL_isFrameSo_96 (by decide) (fun c96 => ?_) (fun c96 => ?_)
          · skip
            refine lv_iconst (v := (0 : Int32)) hx hb dL_isFrameSo_103 (by decide) ?_
            refine W.eq (g2 := F0 m 104 ls [.int (if x1 < ((q2.1 / (5 : Int32)) * (5 : Int32)) then (0 : Int32) else (1 : Int32)), .int (if q16.1 = (-5 : Int32) then (1 : Int32) else (0 : Int32))]) ?_ (HJ104 ls H locs (lv_sub hl [0, 1, 2, 3, 4, 5] rfl) hw)
            first | (simp only [if_pos c96]; done) | contradiction
          · skip
            refine lv_iconst (v := (1 : Int32)) hx hb dL_isFrameSo_99 (by decide) ?_
            refine lv_goto (tgt := 104) hx hb dL_isFrameSo_100 (by decide) ?_
            refine W.eq (g2 := F0 m 104 ls [.int (if x1 < ((q2.1 / (5 : Int32)) * (5 : Int32)) then (0 : Int32) else (1 : Int32)), .int (if q16.1 = (-5 : Int32) then (1 : Int32) else (0 : Int32))]) ?_ (HJ104 ls H locs (lv_sub hl [0, 1, 2, 3, 4, 5] rfl) hw)
            first | (simp only [if_neg c96]; done) | contradiction
        refine lv_icmp_ne (tgt := 89) hx hb dL_isFrameSo_82 (by decide) (fun c82 => ?_) (fun c82 => ?_)
        · skip
          refine lv_iconst (v := (0 : Int32)) hx hb dL_isFrameSo_89 (by decide) ?_
          refine W.eq (g2 := F0 m 90 ls [.int (if q16.1 = (-5 : Int32) then (1 : Int32) else (0 : Int32))]) ?_ (HJ90 ls H locs (lv_sub hl [1, 2, 3, 5, 6, 0] rfl) hw)
          first | (simp only [if_neg c82]; done) | contradiction
        · skip
          refine lv_iconst (v := (1 : Int32)) hx hb dL_isFrameSo_85 (by decide) ?_
          refine lv_goto (tgt := 90) hx hb dL_isFrameSo_86 (by decide) ?_
          refine W.eq (g2 := F0 m 90 ls [.int (if q16.1 = (-5 : Int32) then (1 : Int32) else (0 : Int32))]) ?_ (HJ90 ls H locs (lv_sub hl [1, 2, 3, 5, 6, 0] rfl) hw)
          first | (simp only [if_pos c82]; done) | contradiction
  refine lv_icmp_ne (tgt := 43) hx hb dL_isFrameSo_36 (by decide) (fun c36 => ?_) (fun c36 => ?_)
  · skip
    refine lv_iconst (v := (0 : Int32)) hx hb dL_isFrameSo_43 (by decide) ?_
    refine W.eq (g2 := F0 m 44 ls [.int (if q32.1 = (1 : Int32) then (1 : Int32) else (0 : Int32))]) ?_ (HJ44 ls H locs (lv_sub hl [4, 5, 3, 2, 1, 0] rfl) hw)
    first | (simp only [if_neg c36]; done) | contradiction
  · skip
    refine lv_iconst (v := (1 : Int32)) hx hb dL_isFrameSo_39 (by decide) ?_
    refine lv_goto (tgt := 44) hx hb dL_isFrameSo_40 (by decide) ?_
    refine W.eq (g2 := F0 m 44 ls [.int (if q32.1 = (1 : Int32) then (1 : Int32) else (0 : Int32))]) ?_ (HJ44 ls H locs (lv_sub hl [4, 5, 3, 2, 1, 0] rfl) hw)
    first | (simp only [if_pos c36]; done) | contradiction
