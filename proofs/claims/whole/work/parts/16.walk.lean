/-! walks (by program) -/
set_option maxHeartbeats 4000000 in
set_option maxRecDepth 100000 in
theorem w_X11_plays_L41 (G : GM) (l : Launch) (hN : 77 ≤ gN G)  {p : Program} {e : Env} {s : State} {m : MethodId} {args : Array Value} {below : List Frame} {meth : Method} {c : Code} (hx : p.tables.exec = Jvm.exec) (hb : c.code = cX11_plays) (hr : meth.sig.returnType = (some .int)) (hlk : meth.locks = false) (hml : c.maxLocals = 5) (Z : ZK G s args m RX11) : ∀ (n : Nat) (x2 : Int32) (x3 : Int32)  (h : HP)  (rv : Option Value) (hq : HP) (ls : Array Slot) (H : Heap) (locs : List Loc) {q : Int32 × HP}, lv_has ls 5 [(0, .ref (ra G 70)), (2, .int x2), (3, .int x3)] → HW G h s H locs → f_X11_plays_L41 n x2 x3 h = some q → (∀ (ls : Array Slot) (H : Heap) (locs : List Loc), lv_has ls 5 [(0, .ref (ra G 70)), (3, .int q.1)] → HW G q.2 s H locs → WZ p l e 3 s m args below meth c G rv hq H locs (F0 m 138 ls [])) → WZ p l e 3 s m args below meth c G rv hq H locs (F0 m 41 ls []) := by
  intro n
  induction n with
  | zero => intro x2 x3  h  rv hq ls H locs q hl hw hf kk; cases hf
  | succ n ih =>
    intro x2 x3  h  rv hq ls H locs q hl hw hf kk
    rw [f_X11_plays_L41] at hf
    refine lv_iload_n hx hb dX11_plays_41 rfl (lv_at hl 1 rfl) ?_
    refine lv_if_le (tgt := 138) hx hb dX11_plays_42 (by decide) (fun c42 => ?_) (fun c42 => ?_)
    · have hf := (if_pos c42).symm.trans hf
      obtain rfl := Option.some.inj hf
      exact kk ls H locs (lv_sub hl [0, 2] rfl) hw
    · have hf := (if_neg c42).symm.trans hf
      refine lv_aload_n hx hb dX11_plays_45 rfl (lv_at hl 0 rfl) ?_
      refine z_getr (o := 70) (o2 := 71) (C := RX11) (T := TX11) (N := 11) (ci := 9) (k := 0) hx hb Z hw (by decide) (by omega) rfl inX11 (by decide) rfl wd875 dX11_plays_46 ?_
      refine lv_bipush (v := (6 : Int32)) hx hb dX11_plays_49 (by decide) ?_
      refine y_iald (o := 71) (k := 6) hx hb Z hw (by decide) (by omega) (by decide) (inB_vp (by decide)) dX11_plays_51 ?_
      refine lv_aload_n hx hb dX11_plays_52 rfl (lv_at hl 0 rfl) ?_
      refine z_callVi (o := 70) (ci := 9) (As := []) (rest := [.int (h 71 6)]) (t_X11_frames G l hN  h) cv_X11_frames hx hb hml hl.1 Z hw (by decide) (by decide) (by omega) rfl rfl wd926 rfl rfl (Nat.le_of_ble_eq_true rfl) (by decide) dX11_plays_53 (fun H locs hw => ?_)
      refine lv_icmp_ge (tgt := 138) hx hb dX11_plays_56 (by decide) (fun c56 => ?_) (fun c56 => ?_)
      · have hf := (if_pos c56).symm.trans hf
        obtain rfl := Option.some.inj hf
        exact kk ls H locs (lv_sub hl [0, 2] rfl) hw
      · have hf := (if_neg c56).symm.trans hf
        refine lv_aload_n hx hb dX11_plays_59 rfl (lv_at hl 0 rfl) ?_
        refine lv_aload_n hx hb dX11_plays_60 rfl (lv_at hl 0 rfl) ?_
        refine z_getr (o := 70) (o2 := 71) (C := RX11) (T := TX11) (N := 11) (ci := 9) (k := 0) hx hb Z hw (by decide) (by omega) rfl inX11 (by decide) rfl wd875 dX11_plays_61 ?_
        refine lv_bipush (v := (6 : Int32)) hx hb dX11_plays_64 (by decide) ?_
        refine y_iald (o := 71) (k := 6) hx hb Z hw (by decide) (by omega) (by decide) (inB_vp (by decide)) dX11_plays_66 ?_
        obtain ⟨q67, hq67, hf⟩ := ob_some hf
        refine z_callVi (o := 70) (ci := 9) (As := [.int (h 71 6)]) (rest := []) (t_X11_turnOf G l hN (h 71 6) h hq67) cv_X11_turnOf hx hb hml hl.1 Z hw (by decide) (by decide) (by omega) rfl rfl wd1009 rfl rfl (Nat.le_of_ble_eq_true rfl) (by decide) dX11_plays_67 (fun H locs hw => ?_)
        refine lv_istore (lv' := [(4, _), (0, _), (2, _), (3, _)]) hx hb dX11_plays_70 hl (by decide) rfl (fun ls hl => ?_)
        refine lv_aload_n hx hb dX11_plays_72 rfl (lv_at hl 1 rfl) ?_
        refine lv_iload hx hb dX11_plays_73 (lv_at hl 0 rfl) ?_
        obtain ⟨q75, hq75, hf⟩ := tb_ex hf
        refine z_callVv (o := 70) (ci := 9) (As := [.int q67]) (rest := []) (t_X11_tick G l hN q67 h hq75) cv_X11_tick hx hb hml hl.1 Z hw (by decide) (by decide) (by omega) rfl rfl wd1013 rfl rfl (Nat.le_of_ble_eq_true rfl) (by decide) dX11_plays_75 (fun H locs hw => ?_)
        refine lv_aload_n hx hb dX11_plays_78 rfl (lv_at hl 1 rfl) ?_
        refine lv_iload hx hb dX11_plays_79 (lv_at hl 0 rfl) ?_
        refine z_callVi (o := 70) (ci := 9) (As := [.int q67]) (rest := []) (t_X11_isNear G l hN q67 q75) cv_X11_isNear hx hb hml hl.1 Z hw (by decide) (by decide) (by omega) rfl rfl wd1017 rfl rfl (Nat.le_of_ble_eq_true rfl) (by decide) dX11_plays_81 (fun H locs hw => ?_)
        obtain ⟨j84, hqj84, hf⟩ := ob_some hf
        have HJ135 : ∀ (ls : Array Slot) (H : Heap) (locs : List Loc), lv_has ls 5 [(0, .ref (ra G 70)), (2, .int j84.1), (3, .int j84.2.1)] → HW G j84.2.2 s H locs → WZ p l e 3 s m args below meth c G rv hq H locs (F0 m 135 ls []) := by
          intro ls H locs hl hw
          refine lv_goto (tgt := 41) hx hb dX11_plays_135 (by decide) ?_
          exact ih j84.1 j84.2.1 j84.2.2  rv hq ls H locs (lv_sub hl [0, 1, 2] rfl) hw hf kk
        have hf := hqj84
        refine lv_if_eq (tgt := 135) hx hb dX11_plays_84 (by decide) (fun c84 => ?_) (fun c84 => ?_)
        · have hf := (if_pos c84).symm.trans hf
          obtain rfl := Option.some.inj hf
          exact HJ135 ls H locs (lv_sub hl [1, 2, 3] rfl) hw
        · have hf := (if_neg c84).symm.trans hf
          refine lv_iload_n hx hb dX11_plays_87 rfl (lv_at hl 3 rfl) ?_
          refine lv_aload_n hx hb dX11_plays_88 rfl (lv_at hl 1 rfl) ?_
          refine z_getr (o := 70) (o2 := 76) (C := RX11) (T := TX11) (N := 11) (ci := 9) (k := 8) hx hb Z hw (by decide) (by omega) rfl inX11 (by decide) rfl wd883 dX11_plays_89 ?_
          refine lv_aload_n hx hb dX11_plays_92 rfl (lv_at hl 1 rfl) ?_
          refine z_getr (o := 70) (o2 := 71) (C := RX11) (T := TX11) (N := 11) (ci := 9) (k := 0) hx hb Z hw (by decide) (by omega) rfl inX11 (by decide) rfl wd875 dX11_plays_93 ?_
          refine lv_bipush (v := (6 : Int32)) hx hb dX11_plays_96 (by decide) ?_
          refine y_iald (o := 71) (k := 6) hx hb Z hw (by decide) (by omega) (by decide) (inB_vp (by decide)) dX11_plays_98 ?_
          obtain ⟨h99, hf⟩ := gd_some hf
          refine y_zald (o := 76) (k := (q75 71 6).toNatClampNeg) hx hb Z hw (by decide) (by omega) rfl (inB_vp h99) dX11_plays_99 ?_
          have HJ108 : ∀ (ls : Array Slot) (H : Heap) (locs : List Loc), lv_has ls 5 [(0, .ref (ra G 70)), (2, .int x2)] → HW G q75 s H locs → WZ p l e 3 s m args below meth c G rv hq H locs (F0 m 108 ls [.int (if (q75 76 (q75 71 6).toNatClampNeg) = 0 then (1 : Int32) else (0 : Int32)), .int x3]) := by
            intro ls H locs hl hw
            refine lv_iadd hx hb dX11_plays_108 ?_
            obtain ⟨v109, hqv109, hf⟩ := tb_ex hf
            refine z_top hqv109 ?_
            refine lv_istore_n (lv' := [(3, _), (0, _), (2, _)]) hx hb dX11_plays_109 rfl hl (by decide) rfl (fun ls hl => ?_)
            refine lv_aload_n hx hb dX11_plays_110 rfl (lv_at hl 1 rfl) ?_
            refine z_getr (o := 70) (o2 := 71) (C := RX11) (T := TX11) (N := 11) (ci := 9) (k := 0) hx hb Z hw (by decide) (by omega) rfl inX11 (by decide) rfl wd875 dX11_plays_111 ?_
            refine lv_bipush (v := (6 : Int32)) hx hb dX11_plays_114 (by decide) ?_
            refine lv_dup2_11 hx hb dX11_plays_116 rfl rfl ?_
            refine y_iald (o := 71) (k := 6) hx hb Z hw (by decide) (by omega) (by decide) (inB_vp (by decide)) dX11_plays_117 ?_
            refine lv_iconst (v := (1 : Int32)) hx hb dX11_plays_118 (by decide) ?_
            refine lv_iadd hx hb dX11_plays_119 ?_
            refine y_iast (o := 71) (k := 6) hx hb Z hw (by decide) (by omega) (by decide) (inB_vp (by decide)) dX11_plays_120 (fun H locs hw => ?_)
            refine lv_aload_n hx hb dX11_plays_121 rfl (lv_at hl 1 rfl) ?_
            obtain ⟨h122, hqh122, hf⟩ := tb_ex hf
            rw [hqh122] at hw
            refine z_getr (o := 70) (o2 := 71) (C := RX11) (T := TX11) (N := 11) (ci := 9) (k := 0) hx hb Z hw (by decide) (by omega) rfl inX11 (by decide) rfl wd875 dX11_plays_122 ?_
            refine lv_bipush (v := (9 : Int32)) hx hb dX11_plays_125 (by decide) ?_
            refine lv_dup2_11 hx hb dX11_plays_127 rfl rfl ?_
            refine y_iald (o := 71) (k := 9) hx hb Z hw (by decide) (by omega) (by decide) (inB_vp (by decide)) dX11_plays_128 ?_
            refine lv_iconst (v := (1 : Int32)) hx hb dX11_plays_129 (by decide) ?_
            refine lv_iadd hx hb dX11_plays_130 ?_
            refine y_iast (o := 71) (k := 9) hx hb Z hw (by decide) (by omega) (by decide) (inB_vp (by decide)) dX11_plays_131 (fun H locs hw => ?_)
            refine lv_iinc (v := x2 + (-1 : Int32)) (lv' := [(2, _), (3, _), (0, _)]) hx hb dX11_plays_132 hl (k := 2) rfl rfl (by decide) rfl (fun ls hl => ?_)
            obtain rfl := Option.some.inj hf
            exact HJ135 ls H locs (lv_sub hl [2, 0, 1] rfl) hw
          refine lv_if_eq (tgt := 107) hx hb dX11_plays_100 (by decide) (fun c100 => ?_) (fun c100 => ?_)
          · skip
            refine lv_iconst (v := (1 : Int32)) hx hb dX11_plays_107 (by decide) ?_
            refine W.eq (g2 := F0 m 108 ls [.int (if (q75 76 (q75 71 6).toNatClampNeg) = 0 then (1 : Int32) else (0 : Int32)), .int x3]) ?_ (HJ108 ls H locs (lv_sub hl [1, 2] rfl) hw)
            simp only [if_pos c100]
          · skip
            refine lv_iconst (v := (0 : Int32)) hx hb dX11_plays_103 (by decide) ?_
            refine lv_goto (tgt := 108) hx hb dX11_plays_104 (by decide) ?_
            refine W.eq (g2 := F0 m 108 ls [.int (if (q75 76 (q75 71 6).toNatClampNeg) = 0 then (1 : Int32) else (0 : Int32)), .int x3]) ?_ (HJ108 ls H locs (lv_sub hl [1, 2] rfl) hw)
            simp only [if_neg c100]
set_option maxHeartbeats 4000000 in
set_option maxRecDepth 100000 in
theorem t_X11_plays (G : GM) (l : Launch) (hN : 77 ≤ gN G) (x1 : Int32) (h : HP) {r : Int32} {h' : HP} (hf : f_X11_plays x1 h = some (r, h')) : MC G l yX11_plays cX11_plays 5 (some .int) 3 [.ref (ra G 70), .int x1] h h' (some (.int r)) := by
  unfold f_X11_plays at hf
  refine z_start (by decide) (Nat.le_of_ble_eq_true rfl) ?_
  intro p e s m args below meth c ls hx hb hr hlk hml Z hw hl
  have Z : ZK G s args m RX11 := Z
  have hl : lv_has ls 5 [(0, .ref (ra G 70)), (1, .int x1)] := hl
  obtain ⟨H, hH⟩ : ∃ H, H = s.heap := ⟨_, rfl⟩
  rw [← hH] at hw ⊢
  obtain ⟨locs, hlc⟩ : ∃ locs : List Loc, locs = [] := ⟨_, rfl⟩
  rw [← hlc] at hw ⊢
  refine lv_iload_n hx hb dX11_plays_0 rfl (lv_at hl 1 rfl) ?_
  refine lv_iconst (v := (1 : Int32)) hx hb dX11_plays_1 (by decide) ?_
  refine lv_sipush (v := (999 : Int32)) hx hb dX11_plays_2 (by decide) ?_
  refine z_callSi (As := [.int x1, .int (1 : Int32), .int (999 : Int32)]) (rest := []) (t_X11_in G l hN x1 (1 : Int32) (999 : Int32) h) cs_X11_in hx hb hml hl.1 Z hw wd934 rfl rfl (Nat.le_of_ble_eq_true rfl) (by decide) dX11_plays_5 (fun H locs hw => ?_)
  refine lv_if_ne (tgt := 14) hx hb dX11_plays_8 (by decide) (fun c8 => ?_) (fun c8 => ?_)
  · have hf := (if_neg c8).symm.trans hf
    refine lv_aload_n hx hb dX11_plays_14 rfl (lv_at hl 0 rfl) ?_
    refine z_getr (o := 70) (o2 := 71) (C := RX11) (T := TX11) (N := 11) (ci := 9) (k := 0) hx hb Z hw (by decide) (by omega) rfl inX11 (by decide) rfl wd875 dX11_plays_15 ?_
    refine lv_bipush (v := (6 : Int32)) hx hb dX11_plays_18 (by decide) ?_
    refine y_iald (o := 71) (k := 6) hx hb Z hw (by decide) (by omega) (by decide) (inB_vp (by decide)) dX11_plays_20 ?_
    refine lv_aload_n hx hb dX11_plays_21 rfl (lv_at hl 0 rfl) ?_
    refine z_callVi (o := 70) (ci := 9) (As := []) (rest := [.int (h 71 6)]) (t_X11_frames G l hN  h) cv_X11_frames hx hb hml hl.1 Z hw (by decide) (by decide) (by omega) rfl rfl wd926 rfl rfl (Nat.le_of_ble_eq_true rfl) (by decide) dX11_plays_22 (fun H locs hw => ?_)
    refine lv_icmp_ne (tgt := 31) hx hb dX11_plays_25 (by decide) (fun c25 => ?_) (fun c25 => ?_)
    · have hf := (if_neg c25).symm.trans hf
      refine lv_aload_n hx hb dX11_plays_31 rfl (lv_at hl 0 rfl) ?_
      refine lv_bipush (v := (-5 : Int32)) hx hb dX11_plays_32 (by decide) ?_
      obtain ⟨q34, hq34, hf⟩ := ob_some hf
      refine z_callVv (o := 70) (ci := 9) (As := [.int (-5 : Int32)]) (rest := []) (t_X11_lay G l hN (-5 : Int32) h hq34) cv_X11_lay hx hb hml hl.1 Z hw (by decide) (by decide) (by omega) rfl rfl wd971 rfl rfl (Nat.le_of_ble_eq_true rfl) (by decide) dX11_plays_34 (fun H locs hw => ?_)
      refine lv_iload_n hx hb dX11_plays_37 rfl (lv_at hl 1 rfl) ?_
      refine lv_istore_n (lv' := [(2, _), (0, _), (1, _)]) hx hb dX11_plays_38 rfl hl (by decide) rfl (fun ls hl => ?_)
      refine lv_iconst (v := (0 : Int32)) hx hb dX11_plays_39 (by decide) ?_
      refine lv_istore_n (lv' := [(3, _), (2, _), (0, _), (1, _)]) hx hb dX11_plays_40 rfl hl (by decide) rfl (fun ls hl => ?_)
      obtain ⟨q41, hq41, hf⟩ := ob_some hf
      refine w_X11_plays_L41 G l hN  hx hb hr hlk hml Z FU x1 (0 : Int32) q34  _ _ ls H locs (lv_sub hl [2, 1, 0] rfl) hw hq41 (fun ls H locs hl hw => ?_)
      refine lv_aload_n hx hb dX11_plays_138 rfl (lv_at hl 0 rfl) ?_
      refine z_getr (o := 70) (o2 := 71) (C := RX11) (T := TX11) (N := 11) (ci := 9) (k := 0) hx hb Z hw (by decide) (by omega) rfl inX11 (by decide) rfl wd875 dX11_plays_139 ?_
      refine lv_bipush (v := (10 : Int32)) hx hb dX11_plays_142 (by decide) ?_
      refine lv_dup2_11 hx hb dX11_plays_144 rfl rfl ?_
      refine y_iald (o := 71) (k := 10) hx hb Z hw (by decide) (by omega) (by decide) (inB_vp (by decide)) dX11_plays_145 ?_
      refine lv_iload_n hx hb dX11_plays_146 rfl (lv_at hl 1 rfl) ?_
      refine lv_iadd hx hb dX11_plays_147 ?_
      refine y_iast (o := 71) (k := 10) hx hb Z hw (by decide) (by omega) (by decide) (inB_vp (by decide)) dX11_plays_148 (fun H locs hw => ?_)
      refine lv_iload_n hx hb dX11_plays_149 rfl (lv_at hl 1 rfl) ?_
      obtain ⟨rfl, rfl⟩ := Prod.mk.inj (Option.some.inj hf)
      exact z_iret hx hb hr hlk hw dX11_plays_150
    · have hf := (if_pos c25).symm.trans hf
      refine lv_bipush (v := (-5 : Int32)) hx hb dX11_plays_28 (by decide) ?_
      obtain ⟨rfl, rfl⟩ := Prod.mk.inj (Option.some.inj hf)
      exact z_iret hx hb hr hlk hw dX11_plays_30
  · have hf := (if_pos c8).symm.trans hf
    refine lv_bipush (v := (-2 : Int32)) hx hb dX11_plays_11 (by decide) ?_
    obtain ⟨rfl, rfl⟩ := Prod.mk.inj (Option.some.inj hf)
    exact z_iret hx hb hr hlk hw dX11_plays_13
set_option maxHeartbeats 4000000 in
set_option maxRecDepth 100000 in
theorem w_X11_presses_L209 (G : GM) (l : Launch) (hN : 77 ≤ gN G)  {p : Program} {e : Env} {s : State} {m : MethodId} {args : Array Value} {below : List Frame} {meth : Method} {c : Code} (hx : p.tables.exec = Jvm.exec) (hb : c.code = cX11_presses) (hr : meth.sig.returnType = (some .int)) (hlk : meth.locks = false) (hml : c.maxLocals = 7) (Z : ZK G s args m RX11) : ∀ (n : Nat) (x5 : Int32) (x6 : Int32)  (h : HP) (v4 : Int32) (rv : Option Value) (hq : HP) (ls : Array Slot) (H : Heap) (locs : List Loc) {q : HP}, lv_has ls 7 [(0, .ref (ra G 70)), (4, .int v4), (5, .int x5), (6, .int x6)] → HW G h s H locs → f_X11_presses_L209 n x5 x6 h = some q → (∀ (ls : Array Slot) (H : Heap) (locs : List Loc), lv_has ls 7 [(4, .int v4)] → HW G q s H locs → WZ p l e 3 s m args below meth c G rv hq H locs (F0 m 277 ls [])) → WZ p l e 3 s m args below meth c G rv hq H locs (F0 m 209 ls []) := by
  intro n
  induction n with
  | zero => intro x5 x6  h v4 rv hq ls H locs q hl hw hf kk; cases hf
  | succ n ih =>
    intro x5 x6  h v4 rv hq ls H locs q hl hw hf kk
    rw [f_X11_presses_L209] at hf
    refine lv_iload hx hb dX11_presses_209 (lv_at hl 3 rfl) ?_
    refine lv_iconst (v := (3 : Int32)) hx hb dX11_presses_211 (by decide) ?_
    refine lv_icmp_ge (tgt := 277) hx hb dX11_presses_212 (by decide) (fun c212 => ?_) (fun c212 => ?_)
    · have hf := (if_pos c212).symm.trans hf
      obtain rfl := Option.some.inj hf
      exact kk ls H locs (lv_sub hl [1] rfl) hw
    · have hf := (if_neg c212).symm.trans hf
      refine lv_aload_n hx hb dX11_presses_215 rfl (lv_at hl 0 rfl) ?_
      refine z_getr (o := 70) (o2 := 71) (C := RX11) (T := TX11) (N := 11) (ci := 9) (k := 0) hx hb Z hw (by decide) (by omega) rfl inX11 (by decide) rfl wd875 dX11_presses_216 ?_
      refine lv_bipush (v := (46 : Int32)) hx hb dX11_presses_219 (by decide) ?_
      refine lv_iconst (v := (3 : Int32)) hx hb dX11_presses_221 (by decide) ?_
      refine lv_iload hx hb dX11_presses_222 (lv_at hl 2 rfl) ?_
      refine lv_imul hx hb dX11_presses_224 ?_
      refine lv_iadd hx hb dX11_presses_225 ?_
      refine lv_iload hx hb dX11_presses_226 (lv_at hl 3 rfl) ?_
      refine lv_iadd hx hb dX11_presses_228 ?_
      refine lv_aload_n hx hb dX11_presses_229 rfl (lv_at hl 0 rfl) ?_
      refine z_getr (o := 70) (o2 := 71) (C := RX11) (T := TX11) (N := 11) (ci := 9) (k := 0) hx hb Z hw (by decide) (by omega) rfl inX11 (by decide) rfl wd875 dX11_presses_230 ?_
      refine lv_bipush (v := (46 : Int32)) hx hb dX11_presses_233 (by decide) ?_
      refine lv_iconst (v := (3 : Int32)) hx hb dX11_presses_235 (by decide) ?_
      refine lv_aload_n hx hb dX11_presses_236 rfl (lv_at hl 0 rfl) ?_
      refine z_getr (o := 70) (o2 := 71) (C := RX11) (T := TX11) (N := 11) (ci := 9) (k := 0) hx hb Z hw (by decide) (by omega) rfl inX11 (by decide) rfl wd875 dX11_presses_237 ?_
      refine lv_bipush (v := (45 : Int32)) hx hb dX11_presses_240 (by decide) ?_
      refine y_iald (o := 71) (k := 45) hx hb Z hw (by decide) (by omega) (by decide) (inB_vp (by decide)) dX11_presses_242 ?_
      refine lv_imul hx hb dX11_presses_243 ?_
      refine lv_iadd hx hb dX11_presses_244 ?_
      refine lv_iload hx hb dX11_presses_245 (lv_at hl 3 rfl) ?_
      refine lv_iadd hx hb dX11_presses_247 ?_
      obtain ⟨h248, hf⟩ := gd_some hf
      refine y_iald (o := 71) (k := (((46 : Int32) + ((3 : Int32) * (h 71 45))) + x6).toNatClampNeg) hx hb Z hw (by decide) (by omega) rfl (inB_vp h248) dX11_presses_248 ?_
      obtain ⟨h249, hf⟩ := gd_some hf
      refine y_iast (o := 71) (k := (((46 : Int32) + ((3 : Int32) * x5)) + x6).toNatClampNeg) hx hb Z hw (by decide) (by omega) rfl (inB_vp h249) dX11_presses_249 (fun H locs hw => ?_)
      refine lv_aload_n hx hb dX11_presses_250 rfl (lv_at hl 0 rfl) ?_
      obtain ⟨h251, hqh251, hf⟩ := tb_ex hf
      rw [hqh251] at hw
      refine z_getr (o := 70) (o2 := 71) (C := RX11) (T := TX11) (N := 11) (ci := 9) (k := 0) hx hb Z hw (by decide) (by omega) rfl inX11 (by decide) rfl wd875 dX11_presses_251 ?_
      refine lv_bipush (v := (46 : Int32)) hx hb dX11_presses_254 (by decide) ?_
      refine lv_iconst (v := (3 : Int32)) hx hb dX11_presses_256 (by decide) ?_
      refine lv_aload_n hx hb dX11_presses_257 rfl (lv_at hl 0 rfl) ?_
      refine z_getr (o := 70) (o2 := 71) (C := RX11) (T := TX11) (N := 11) (ci := 9) (k := 0) hx hb Z hw (by decide) (by omega) rfl inX11 (by decide) rfl wd875 dX11_presses_258 ?_
      refine lv_bipush (v := (45 : Int32)) hx hb dX11_presses_261 (by decide) ?_
      refine y_iald (o := 71) (k := 45) hx hb Z hw (by decide) (by omega) (by decide) (inB_vp (by decide)) dX11_presses_263 ?_
      refine lv_imul hx hb dX11_presses_264 ?_
      refine lv_iadd hx hb dX11_presses_265 ?_
      refine lv_iload hx hb dX11_presses_266 (lv_at hl 3 rfl) ?_
      refine lv_iadd hx hb dX11_presses_268 ?_
      refine lv_iconst (v := (0 : Int32)) hx hb dX11_presses_269 (by decide) ?_
      obtain ⟨h270, hf⟩ := gd_some hf
      refine y_iast (o := 71) (k := (((46 : Int32) + ((3 : Int32) * (h251 71 45))) + x6).toNatClampNeg) hx hb Z hw (by decide) (by omega) rfl (inB_vp h270) dX11_presses_270 (fun H locs hw => ?_)
      refine lv_iinc (v := x6 + (1 : Int32)) (lv' := [(6, _), (0, _), (4, _), (5, _)]) hx hb dX11_presses_271 hl (k := 3) rfl rfl (by decide) rfl (fun ls hl => ?_)
      refine lv_goto (tgt := 209) hx hb dX11_presses_274 (by decide) ?_
      exact ih x5 (x6 + (1 : Int32)) (hset h251 71 (((46 : Int32) + ((3 : Int32) * (h251 71 45))) + x6).toNatClampNeg (0 : Int32)) v4 rv hq ls H locs (lv_sub hl [1, 2, 3, 0] rfl) hw hf kk
set_option maxHeartbeats 4000000 in
set_option maxRecDepth 100000 in
theorem t_X11_presses (G : GM) (l : Launch) (hN : 77 ≤ gN G) (x1 : Int32) (x2 : Int32) (x3 : Int32) (h : HP) {r : Int32} {h' : HP} (hf : f_X11_presses x1 x2 x3 h = some (r, h')) : MC G l yX11_presses cX11_presses 7 (some .int) 3 [.ref (ra G 70), .int x1, .int x2, .int x3] h h' (some (.int r)) := by
  unfold f_X11_presses at hf
  refine z_start (by decide) (Nat.le_of_ble_eq_true rfl) ?_
  intro p e s m args below meth c ls hx hb hr hlk hml Z hw hl
  have Z : ZK G s args m RX11 := Z
  have hl : lv_has ls 7 [(0, .ref (ra G 70)), (1, .int x1), (2, .int x2), (3, .int x3)] := hl
  obtain ⟨H, hH⟩ : ∃ H, H = s.heap := ⟨_, rfl⟩
  rw [← hH] at hw ⊢
  obtain ⟨locs, hlc⟩ : ∃ locs : List Loc, locs = [] := ⟨_, rfl⟩
  rw [← hlc] at hw ⊢
  refine lv_aload_n hx hb dX11_presses_0 rfl (lv_at hl 0 rfl) ?_
  refine lv_iload_n hx hb dX11_presses_1 rfl (lv_at hl 1 rfl) ?_
  refine z_callVi (o := 70) (ci := 9) (As := [.int x1]) (rest := []) (t_X11_isFrame G l hN x1 h) cv_X11_isFrame hx hb hml hl.1 Z hw (by decide) (by decide) (by omega) rfl rfl wd922 rfl rfl (Nat.le_of_ble_eq_true rfl) (by decide) dX11_presses_2 (fun H locs hw => ?_)
  refine lv_if_ne (tgt := 10) hx hb dX11_presses_5 (by decide) (fun c5 => ?_) (fun c5 => ?_)
  · have hf := (if_neg c5).symm.trans hf
    refine lv_iload_n hx hb dX11_presses_10 rfl (lv_at hl 2 rfl) ?_
    refine lv_iconst (v := (0 : Int32)) hx hb dX11_presses_11 (by decide) ?_
    refine lv_iconst (v := (3 : Int32)) hx hb dX11_presses_12 (by decide) ?_
    refine z_callSi (As := [.int x2, .int (0 : Int32), .int (3 : Int32)]) (rest := []) (t_X11_in G l hN x2 (0 : Int32) (3 : Int32) h) cs_X11_in hx hb hml hl.1 Z hw wd934 rfl rfl (Nat.le_of_ble_eq_true rfl) (by decide) dX11_presses_13 (fun H locs hw => ?_)
    refine lv_if_eq (tgt := 29) hx hb dX11_presses_16 (by decide) (fun c16 => ?_) (fun c16 => ?_)
    · have hf := (if_pos c16).symm.trans hf
      refine lv_bipush (v := (-2 : Int32)) hx hb dX11_presses_29 (by decide) ?_
      obtain ⟨rfl, rfl⟩ := Prod.mk.inj (Option.some.inj hf)
      exact z_iret hx hb hr hlk hw dX11_presses_31
    · have hf := (if_neg c16).symm.trans hf
      refine lv_iload_n hx hb dX11_presses_19 rfl (lv_at hl 3 rfl) ?_
      refine lv_iconst (v := (0 : Int32)) hx hb dX11_presses_20 (by decide) ?_
      refine lv_bipush (v := (15 : Int32)) hx hb dX11_presses_21 (by decide) ?_
      refine z_callSi (As := [.int x3, .int (0 : Int32), .int (15 : Int32)]) (rest := []) (t_X11_in G l hN x3 (0 : Int32) (15 : Int32) h) cs_X11_in hx hb hml hl.1 Z hw wd934 rfl rfl (Nat.le_of_ble_eq_true rfl) (by decide) dX11_presses_23 (fun H locs hw => ?_)
      refine lv_if_ne (tgt := 32) hx hb dX11_presses_26 (by decide) (fun c26 => ?_) (fun c26 => ?_)
      · have hf := (if_neg c26).symm.trans hf
        refine lv_iload_n hx hb dX11_presses_32 rfl (lv_at hl 1 rfl) ?_
        refine z_callSi (As := [.int x1]) (rest := []) (t_X11_isCheck G l hN x1 h) cs_X11_isCheck hx hb hml hl.1 Z hw wd937 rfl rfl (Nat.le_of_ble_eq_true rfl) (by decide) dX11_presses_33 (fun H locs hw => ?_)
        refine lv_if_eq (tgt := 42) hx hb dX11_presses_36 (by decide) (fun c36 => ?_) (fun c36 => ?_)
        · have hf := (if_pos c36).symm.trans hf
          refine lv_aload_n hx hb dX11_presses_42 rfl (lv_at hl 0 rfl) ?_
          refine lv_iload_n hx hb dX11_presses_43 rfl (lv_at hl 1 rfl) ?_
          refine lv_iload_n hx hb dX11_presses_44 rfl (lv_at hl 2 rfl) ?_
          obtain ⟨q45, hq45, hf⟩ := ob_some hf
          refine z_callVi (o := 70) (ci := 9) (As := [.int x1, .int x2]) (rest := []) (t_X11_dataSymbol G l hN x1 x2 h hq45) cv_X11_dataSymbol hx hb hml hl.1 Z hw (by decide) (by decide) (by omega) rfl rfl wd940 rfl rfl (Nat.le_of_ble_eq_true rfl) (by decide) dX11_presses_45 (fun H locs hw => ?_)
          refine lv_istore (lv' := [(4, _), (0, _), (1, _), (2, _), (3, _)]) hx hb dX11_presses_48 hl (by decide) rfl (fun ls hl => ?_)
          refine lv_iload hx hb dX11_presses_50 (lv_at hl 0 rfl) ?_
          refine lv_iload_n hx hb dX11_presses_52 rfl (lv_at hl 4 rfl) ?_
          refine lv_icmp_ne (tgt := 59) hx hb dX11_presses_53 (by decide) (fun c53 => ?_) (fun c53 => ?_)
          · have hf := (if_neg c53).symm.trans hf
            refine lv_aload_n hx hb dX11_presses_59 rfl (lv_at hl 1 rfl) ?_
            refine lv_iload_n hx hb dX11_presses_60 rfl (lv_at hl 2 rfl) ?_
            refine lv_iload_n hx hb dX11_presses_61 rfl (lv_at hl 3 rfl) ?_
            obtain ⟨q62, hq62, hf⟩ := ob_some hf
            refine z_callVi (o := 70) (ci := 9) (As := [.int x1, .int x2]) (rest := []) (t_X11_findPressed G l hN x1 x2 h hq62) cv_X11_findPressed hx hb hml hl.1 Z hw (by decide) (by decide) (by omega) rfl rfl wd944 rfl rfl (Nat.le_of_ble_eq_true rfl) (by decide) dX11_presses_62 (fun H locs hw => ?_)
            refine lv_istore (lv' := [(5, _), (4, _), (0, _), (1, _), (2, _), (3, _)]) hx hb dX11_presses_65 hl (by decide) rfl (fun ls hl => ?_)
            refine lv_iload hx hb dX11_presses_67 (lv_at hl 0 rfl) ?_
            refine lv_bipush (v := (-5 : Int32)) hx hb dX11_presses_69 (by decide) ?_
            refine lv_icmp_ne (tgt := 89) hx hb dX11_presses_71 (by decide) (fun c71 => ?_) (fun c71 => ?_)
            · have hf := (if_neg c71).symm.trans hf
              refine lv_iload hx hb dX11_presses_89 (lv_at hl 0 rfl) ?_
              refine lv_bipush (v := (-5 : Int32)) hx hb dX11_presses_91 (by decide) ?_
              have HJ108 : ∀ (ls : Array Slot) (H : Heap) (locs : List Loc), lv_has ls 7 [(0, .ref (ra G 70)), (1, .int x1), (2, .int x2), (3, .int x3), (4, .int q45)] → HW G h s H locs → WZ p l e 3 s m args below meth c G (some (.int r)) h' H locs (F0 m 108 ls [.int (if q62 = (-5 : Int32) then (h 71 45) else q62)]) := by
                intro ls H locs hl hw
                obtain ⟨v108, hqv108, hf⟩ := tb_ex hf
                refine z_top hqv108 ?_
                refine lv_istore (lv' := [(5, _), (0, _), (1, _), (2, _), (3, _), (4, _)]) hx hb dX11_presses_108 hl (by decide) rfl (fun ls hl => ?_)
                refine lv_aload_n hx hb dX11_presses_110 rfl (lv_at hl 1 rfl) ?_
                refine z_getr (o := 70) (o2 := 71) (C := RX11) (T := TX11) (N := 11) (ci := 9) (k := 0) hx hb Z hw (by decide) (by omega) rfl inX11 (by decide) rfl wd875 dX11_presses_111 ?_
                refine lv_bipush (v := (45 : Int32)) hx hb dX11_presses_114 (by decide) ?_
                refine lv_iload hx hb dX11_presses_116 (lv_at hl 0 rfl) ?_
                refine lv_aload_n hx hb dX11_presses_118 rfl (lv_at hl 1 rfl) ?_
                refine z_getr (o := 70) (o2 := 71) (C := RX11) (T := TX11) (N := 11) (ci := 9) (k := 0) hx hb Z hw (by decide) (by omega) rfl inX11 (by decide) rfl wd875 dX11_presses_119 ?_
                refine lv_bipush (v := (45 : Int32)) hx hb dX11_presses_122 (by decide) ?_
                refine y_iald (o := 71) (k := 45) hx hb Z hw (by decide) (by omega) (by decide) (inB_vp (by decide)) dX11_presses_124 ?_
                have HJ142 : ∀ (ls : Array Slot) (H : Heap) (locs : List Loc), lv_has ls 7 [(0, .ref (ra G 70)), (1, .int x1), (2, .int x2), (3, .int x3), (4, .int q45), (5, .int v108)] → HW G h s H locs → WZ p l e 3 s m args below meth c G (some (.int r)) h' H locs (F0 m 142 ls [.int (if v108 = (h 71 45) then (v108 + (1 : Int32)) else (h 71 45)), .int (45 : Int32), .ref (ra G 71)]) := by
                  intro ls H locs hl hw
                  refine y_iast (o := 71) (k := 45) hx hb Z hw (by decide) (by omega) (by decide) (inB_vp (by decide)) dX11_presses_142 (fun H locs hw => ?_)
                  refine lv_aload_n hx hb dX11_presses_143 rfl (lv_at hl 0 rfl) ?_
                  obtain ⟨h144, hqh144, hf⟩ := tb_ex hf
                  rw [hqh144] at hw
                  refine z_getr (o := 70) (o2 := 71) (C := RX11) (T := TX11) (N := 11) (ci := 9) (k := 0) hx hb Z hw (by decide) (by omega) rfl inX11 (by decide) rfl wd875 dX11_presses_144 ?_
                  refine lv_bipush (v := (46 : Int32)) hx hb dX11_presses_147 (by decide) ?_
                  refine lv_iconst (v := (3 : Int32)) hx hb dX11_presses_149 (by decide) ?_
                  refine lv_iload hx hb dX11_presses_150 (lv_at hl 5 rfl) ?_
                  refine lv_imul hx hb dX11_presses_152 ?_
                  refine lv_iadd hx hb dX11_presses_153 ?_
                  refine lv_iload_n hx hb dX11_presses_154 rfl (lv_at hl 1 rfl) ?_
                  obtain ⟨h155, hf⟩ := gd_some hf
                  refine y_iast (o := 71) (k := ((46 : Int32) + ((3 : Int32) * v108)).toNatClampNeg) hx hb Z hw (by decide) (by omega) rfl (inB_vp h155) dX11_presses_155 (fun H locs hw => ?_)
                  refine lv_aload_n hx hb dX11_presses_156 rfl (lv_at hl 0 rfl) ?_
                  obtain ⟨h157, hqh157, hf⟩ := tb_ex hf
                  rw [hqh157] at hw
                  refine z_getr (o := 70) (o2 := 71) (C := RX11) (T := TX11) (N := 11) (ci := 9) (k := 0) hx hb Z hw (by decide) (by omega) rfl inX11 (by decide) rfl wd875 dX11_presses_157 ?_
                  refine lv_bipush (v := (46 : Int32)) hx hb dX11_presses_160 (by decide) ?_
                  refine lv_iconst (v := (3 : Int32)) hx hb dX11_presses_162 (by decide) ?_
                  refine lv_iload hx hb dX11_presses_163 (lv_at hl 5 rfl) ?_
                  refine lv_imul hx hb dX11_presses_165 ?_
                  refine lv_iadd hx hb dX11_presses_166 ?_
                  refine lv_iconst (v := (1 : Int32)) hx hb dX11_presses_167 (by decide) ?_
                  refine lv_iadd hx hb dX11_presses_168 ?_
                  refine lv_iload_n hx hb dX11_presses_169 rfl (lv_at hl 2 rfl) ?_
                  obtain ⟨h170, hf⟩ := gd_some hf
                  refine y_iast (o := 71) (k := (((46 : Int32) + ((3 : Int32) * v108)) + (1 : Int32)).toNatClampNeg) hx hb Z hw (by decide) (by omega) rfl (inB_vp h170) dX11_presses_170 (fun H locs hw => ?_)
                  refine lv_aload_n hx hb dX11_presses_171 rfl (lv_at hl 0 rfl) ?_
                  obtain ⟨h172, hqh172, hf⟩ := tb_ex hf
                  rw [hqh172] at hw
                  refine z_getr (o := 70) (o2 := 71) (C := RX11) (T := TX11) (N := 11) (ci := 9) (k := 0) hx hb Z hw (by decide) (by omega) rfl inX11 (by decide) rfl wd875 dX11_presses_172 ?_
                  refine lv_bipush (v := (46 : Int32)) hx hb dX11_presses_175 (by decide) ?_
                  refine lv_iconst (v := (3 : Int32)) hx hb dX11_presses_177 (by decide) ?_
                  refine lv_iload hx hb dX11_presses_178 (lv_at hl 5 rfl) ?_
                  refine lv_imul hx hb dX11_presses_180 ?_
                  refine lv_iadd hx hb dX11_presses_181 ?_
                  refine lv_iconst (v := (2 : Int32)) hx hb dX11_presses_182 (by decide) ?_
                  refine lv_iadd hx hb dX11_presses_183 ?_
                  refine lv_iload_n hx hb dX11_presses_184 rfl (lv_at hl 3 rfl) ?_
                  obtain ⟨h185, hf⟩ := gd_some hf
                  refine y_iast (o := 71) (k := (((46 : Int32) + ((3 : Int32) * v108)) + (2 : Int32)).toNatClampNeg) hx hb Z hw (by decide) (by omega) rfl (inB_vp h185) dX11_presses_185 (fun H locs hw => ?_)
                  refine lv_iload_n hx hb dX11_presses_186 rfl (lv_at hl 3 rfl) ?_
                  refine lv_iload_n hx hb dX11_presses_187 rfl (lv_at hl 1 rfl) ?_
                  refine lv_iload_n hx hb dX11_presses_188 rfl (lv_at hl 2 rfl) ?_
                  obtain ⟨h189, hqh189, hf⟩ := tb_ex hf
                  rw [hqh189] at hw
                  refine z_callSi (As := [.int x1, .int x2]) (rest := [.int x3]) (t_X11_atFirst G l hN x1 x2 h189) cs_X11_atFirst hx hb hml hl.1 Z hw wd948 rfl rfl (Nat.le_of_ble_eq_true rfl) (by decide) dX11_presses_189 (fun H locs hw => ?_)
                  refine lv_icmp_ne (tgt := 277) hx hb dX11_presses_192 (by decide) (fun c192 => ?_) (fun c192 => ?_)
                  · have hf := (if_neg c192).symm.trans hf
                    refine lv_iload hx hb dX11_presses_277 (lv_at hl 4 rfl) ?_
                    obtain ⟨rfl, rfl⟩ := Prod.mk.inj (Option.some.inj hf)
                    exact z_iret hx hb hr hlk hw dX11_presses_279
                  · have hf := (if_pos c192).symm.trans hf
                    refine lv_aload_n hx hb dX11_presses_195 rfl (lv_at hl 0 rfl) ?_
                    refine z_getr (o := 70) (o2 := 71) (C := RX11) (T := TX11) (N := 11) (ci := 9) (k := 0) hx hb Z hw (by decide) (by omega) rfl inX11 (by decide) rfl wd875 dX11_presses_196 ?_
                    refine lv_bipush (v := (45 : Int32)) hx hb dX11_presses_199 (by decide) ?_
                    refine lv_dup2_11 hx hb dX11_presses_201 rfl rfl ?_
                    refine y_iald (o := 71) (k := 45) hx hb Z hw (by decide) (by omega) (by decide) (inB_vp (by decide)) dX11_presses_202 ?_
                    refine lv_iconst (v := (1 : Int32)) hx hb dX11_presses_203 (by decide) ?_
                    refine lv_isub hx hb dX11_presses_204 ?_
                    refine y_iast (o := 71) (k := 45) hx hb Z hw (by decide) (by omega) (by decide) (inB_vp (by decide)) dX11_presses_205 (fun H locs hw => ?_)
                    refine lv_iconst (v := (0 : Int32)) hx hb dX11_presses_206 (by decide) ?_
                    refine lv_istore (lv' := [(6, _), (0, _), (1, _), (2, _), (3, _), (4, _), (5, _)]) hx hb dX11_presses_207 hl (by decide) rfl (fun ls hl => ?_)
                    obtain ⟨q209, hq209, hf⟩ := ob_some hf
                    refine w_X11_presses_L209 G l hN  hx hb hr hlk hml Z FU v108 (0 : Int32) (hset h189 71 45 ((h189 71 45) - (1 : Int32))) q45 _ _ ls H locs (lv_sub hl [1, 5, 6, 0] rfl) hw hq209 (fun ls H locs hl hw => ?_)
                    refine lv_iload hx hb dX11_presses_277 (lv_at hl 0 rfl) ?_
                    obtain ⟨rfl, rfl⟩ := Prod.mk.inj (Option.some.inj hf)
                    exact z_iret hx hb hr hlk hw dX11_presses_279
                refine lv_icmp_ne (tgt := 135) hx hb dX11_presses_125 (by decide) (fun c125 => ?_) (fun c125 => ?_)
                · skip
                  refine lv_aload_n hx hb dX11_presses_135 rfl (lv_at hl 1 rfl) ?_
                  refine z_getr (o := 70) (o2 := 71) (C := RX11) (T := TX11) (N := 11) (ci := 9) (k := 0) hx hb Z hw (by decide) (by omega) rfl inX11 (by decide) rfl wd875 dX11_presses_136 ?_
                  refine lv_bipush (v := (45 : Int32)) hx hb dX11_presses_139 (by decide) ?_
                  refine y_iald (o := 71) (k := 45) hx hb Z hw (by decide) (by omega) (by decide) (inB_vp (by decide)) dX11_presses_141 ?_
                  refine W.eq (g2 := F0 m 142 ls [.int (if v108 = (h 71 45) then (v108 + (1 : Int32)) else (h 71 45)), .int (45 : Int32), .ref (ra G 71)]) ?_ (HJ142 ls H locs (lv_sub hl [1, 2, 3, 4, 5, 0] rfl) hw)
                  simp only [if_neg c125]
                · skip
                  refine lv_iload hx hb dX11_presses_128 (lv_at hl 0 rfl) ?_
                  refine lv_iconst (v := (1 : Int32)) hx hb dX11_presses_130 (by decide) ?_
                  refine lv_iadd hx hb dX11_presses_131 ?_
                  refine lv_goto (tgt := 142) hx hb dX11_presses_132 (by decide) ?_
                  refine W.eq (g2 := F0 m 142 ls [.int (if v108 = (h 71 45) then (v108 + (1 : Int32)) else (h 71 45)), .int (45 : Int32), .ref (ra G 71)]) ?_ (HJ142 ls H locs (lv_sub hl [1, 2, 3, 4, 5, 0] rfl) hw)
                  simp only [if_pos c125]
              refine lv_icmp_ne (tgt := 106) hx hb dX11_presses_93 (by decide) (fun c93 => ?_) (fun c93 => ?_)
              · skip
                refine lv_iload hx hb dX11_presses_106 (lv_at hl 0 rfl) ?_
                refine W.eq (g2 := F0 m 108 ls [.int (if q62 = (-5 : Int32) then (h 71 45) else q62)]) ?_ (HJ108 ls H locs (lv_sub hl [2, 3, 4, 5, 1] rfl) hw)
                simp only [if_neg c93]
              · skip
                refine lv_aload_n hx hb dX11_presses_96 rfl (lv_at hl 2 rfl) ?_
                refine z_getr (o := 70) (o2 := 71) (C := RX11) (T := TX11) (N := 11) (ci := 9) (k := 0) hx hb Z hw (by decide) (by omega) rfl inX11 (by decide) rfl wd875 dX11_presses_97 ?_
                refine lv_bipush (v := (45 : Int32)) hx hb dX11_presses_100 (by decide) ?_
                refine y_iald (o := 71) (k := 45) hx hb Z hw (by decide) (by omega) (by decide) (inB_vp (by decide)) dX11_presses_102 ?_
                refine lv_goto (tgt := 108) hx hb dX11_presses_103 (by decide) ?_
                refine W.eq (g2 := F0 m 108 ls [.int (if q62 = (-5 : Int32) then (h 71 45) else q62)]) ?_ (HJ108 ls H locs (lv_sub hl [2, 3, 4, 5, 1] rfl) hw)
                simp only [if_pos c93]
            · have hf := (if_pos c71).symm.trans hf
              refine lv_aload_n hx hb dX11_presses_74 rfl (lv_at hl 2 rfl) ?_
              refine z_getr (o := 70) (o2 := 71) (C := RX11) (T := TX11) (N := 11) (ci := 9) (k := 0) hx hb Z hw (by decide) (by omega) rfl inX11 (by decide) rfl wd875 dX11_presses_75 ?_
              refine lv_bipush (v := (45 : Int32)) hx hb dX11_presses_78 (by decide) ?_
              refine y_iald (o := 71) (k := 45) hx hb Z hw (by decide) (by omega) (by decide) (inB_vp (by decide)) dX11_presses_80 ?_
              refine lv_bipush (v := (40 : Int32)) hx hb dX11_presses_81 (by decide) ?_
              refine lv_icmp_ne (tgt := 89) hx hb dX11_presses_83 (by decide) (fun c83 => ?_) (fun c83 => ?_)
              · have hf := (if_neg c83).symm.trans hf
                refine lv_iload hx hb dX11_presses_89 (lv_at hl 0 rfl) ?_
                refine lv_bipush (v := (-5 : Int32)) hx hb dX11_presses_91 (by decide) ?_
                have HJ108 : ∀ (ls : Array Slot) (H : Heap) (locs : List Loc), lv_has ls 7 [(0, .ref (ra G 70)), (1, .int x1), (2, .int x2), (3, .int x3), (4, .int q45)] → HW G h s H locs → WZ p l e 3 s m args below meth c G (some (.int r)) h' H locs (F0 m 108 ls [.int (if q62 = (-5 : Int32) then (h 71 45) else q62)]) := by
                  intro ls H locs hl hw
                  obtain ⟨v108, hqv108, hf⟩ := tb_ex hf
                  refine z_top hqv108 ?_
                  refine lv_istore (lv' := [(5, _), (0, _), (1, _), (2, _), (3, _), (4, _)]) hx hb dX11_presses_108 hl (by decide) rfl (fun ls hl => ?_)
                  refine lv_aload_n hx hb dX11_presses_110 rfl (lv_at hl 1 rfl) ?_
                  refine z_getr (o := 70) (o2 := 71) (C := RX11) (T := TX11) (N := 11) (ci := 9) (k := 0) hx hb Z hw (by decide) (by omega) rfl inX11 (by decide) rfl wd875 dX11_presses_111 ?_
                  refine lv_bipush (v := (45 : Int32)) hx hb dX11_presses_114 (by decide) ?_
                  refine lv_iload hx hb dX11_presses_116 (lv_at hl 0 rfl) ?_
                  refine lv_aload_n hx hb dX11_presses_118 rfl (lv_at hl 1 rfl) ?_
                  refine z_getr (o := 70) (o2 := 71) (C := RX11) (T := TX11) (N := 11) (ci := 9) (k := 0) hx hb Z hw (by decide) (by omega) rfl inX11 (by decide) rfl wd875 dX11_presses_119 ?_
                  refine lv_bipush (v := (45 : Int32)) hx hb dX11_presses_122 (by decide) ?_
                  refine y_iald (o := 71) (k := 45) hx hb Z hw (by decide) (by omega) (by decide) (inB_vp (by decide)) dX11_presses_124 ?_
                  have HJ142 : ∀ (ls : Array Slot) (H : Heap) (locs : List Loc), lv_has ls 7 [(0, .ref (ra G 70)), (1, .int x1), (2, .int x2), (3, .int x3), (4, .int q45), (5, .int v108)] → HW G h s H locs → WZ p l e 3 s m args below meth c G (some (.int r)) h' H locs (F0 m 142 ls [.int (if v108 = (h 71 45) then (v108 + (1 : Int32)) else (h 71 45)), .int (45 : Int32), .ref (ra G 71)]) := by
                    intro ls H locs hl hw
                    refine y_iast (o := 71) (k := 45) hx hb Z hw (by decide) (by omega) (by decide) (inB_vp (by decide)) dX11_presses_142 (fun H locs hw => ?_)
                    refine lv_aload_n hx hb dX11_presses_143 rfl (lv_at hl 0 rfl) ?_
                    obtain ⟨h144, hqh144, hf⟩ := tb_ex hf
                    rw [hqh144] at hw
                    refine z_getr (o := 70) (o2 := 71) (C := RX11) (T := TX11) (N := 11) (ci := 9) (k := 0) hx hb Z hw (by decide) (by omega) rfl inX11 (by decide) rfl wd875 dX11_presses_144 ?_
                    refine lv_bipush (v := (46 : Int32)) hx hb dX11_presses_147 (by decide) ?_
                    refine lv_iconst (v := (3 : Int32)) hx hb dX11_presses_149 (by decide) ?_
                    refine lv_iload hx hb dX11_presses_150 (lv_at hl 5 rfl) ?_
                    refine lv_imul hx hb dX11_presses_152 ?_
                    refine lv_iadd hx hb dX11_presses_153 ?_
                    refine lv_iload_n hx hb dX11_presses_154 rfl (lv_at hl 1 rfl) ?_
                    obtain ⟨h155, hf⟩ := gd_some hf
                    refine y_iast (o := 71) (k := ((46 : Int32) + ((3 : Int32) * v108)).toNatClampNeg) hx hb Z hw (by decide) (by omega) rfl (inB_vp h155) dX11_presses_155 (fun H locs hw => ?_)
                    refine lv_aload_n hx hb dX11_presses_156 rfl (lv_at hl 0 rfl) ?_
                    obtain ⟨h157, hqh157, hf⟩ := tb_ex hf
                    rw [hqh157] at hw
                    refine z_getr (o := 70) (o2 := 71) (C := RX11) (T := TX11) (N := 11) (ci := 9) (k := 0) hx hb Z hw (by decide) (by omega) rfl inX11 (by decide) rfl wd875 dX11_presses_157 ?_
                    refine lv_bipush (v := (46 : Int32)) hx hb dX11_presses_160 (by decide) ?_
                    refine lv_iconst (v := (3 : Int32)) hx hb dX11_presses_162 (by decide) ?_
                    refine lv_iload hx hb dX11_presses_163 (lv_at hl 5 rfl) ?_
                    refine lv_imul hx hb dX11_presses_165 ?_
                    refine lv_iadd hx hb dX11_presses_166 ?_
                    refine lv_iconst (v := (1 : Int32)) hx hb dX11_presses_167 (by decide) ?_
                    refine lv_iadd hx hb dX11_presses_168 ?_
                    refine lv_iload_n hx hb dX11_presses_169 rfl (lv_at hl 2 rfl) ?_
                    obtain ⟨h170, hf⟩ := gd_some hf
                    refine y_iast (o := 71) (k := (((46 : Int32) + ((3 : Int32) * v108)) + (1 : Int32)).toNatClampNeg) hx hb Z hw (by decide) (by omega) rfl (inB_vp h170) dX11_presses_170 (fun H locs hw => ?_)
                    refine lv_aload_n hx hb dX11_presses_171 rfl (lv_at hl 0 rfl) ?_
                    obtain ⟨h172, hqh172, hf⟩ := tb_ex hf
                    rw [hqh172] at hw
                    refine z_getr (o := 70) (o2 := 71) (C := RX11) (T := TX11) (N := 11) (ci := 9) (k := 0) hx hb Z hw (by decide) (by omega) rfl inX11 (by decide) rfl wd875 dX11_presses_172 ?_
                    refine lv_bipush (v := (46 : Int32)) hx hb dX11_presses_175 (by decide) ?_
                    refine lv_iconst (v := (3 : Int32)) hx hb dX11_presses_177 (by decide) ?_
                    refine lv_iload hx hb dX11_presses_178 (lv_at hl 5 rfl) ?_
                    refine lv_imul hx hb dX11_presses_180 ?_
                    refine lv_iadd hx hb dX11_presses_181 ?_
                    refine lv_iconst (v := (2 : Int32)) hx hb dX11_presses_182 (by decide) ?_
                    refine lv_iadd hx hb dX11_presses_183 ?_
                    refine lv_iload_n hx hb dX11_presses_184 rfl (lv_at hl 3 rfl) ?_
                    obtain ⟨h185, hf⟩ := gd_some hf
                    refine y_iast (o := 71) (k := (((46 : Int32) + ((3 : Int32) * v108)) + (2 : Int32)).toNatClampNeg) hx hb Z hw (by decide) (by omega) rfl (inB_vp h185) dX11_presses_185 (fun H locs hw => ?_)
                    refine lv_iload_n hx hb dX11_presses_186 rfl (lv_at hl 3 rfl) ?_
                    refine lv_iload_n hx hb dX11_presses_187 rfl (lv_at hl 1 rfl) ?_
                    refine lv_iload_n hx hb dX11_presses_188 rfl (lv_at hl 2 rfl) ?_
                    obtain ⟨h189, hqh189, hf⟩ := tb_ex hf
                    rw [hqh189] at hw
                    refine z_callSi (As := [.int x1, .int x2]) (rest := [.int x3]) (t_X11_atFirst G l hN x1 x2 h189) cs_X11_atFirst hx hb hml hl.1 Z hw wd948 rfl rfl (Nat.le_of_ble_eq_true rfl) (by decide) dX11_presses_189 (fun H locs hw => ?_)
                    refine lv_icmp_ne (tgt := 277) hx hb dX11_presses_192 (by decide) (fun c192 => ?_) (fun c192 => ?_)
                    · have hf := (if_neg c192).symm.trans hf
                      refine lv_iload hx hb dX11_presses_277 (lv_at hl 4 rfl) ?_
                      obtain ⟨rfl, rfl⟩ := Prod.mk.inj (Option.some.inj hf)
                      exact z_iret hx hb hr hlk hw dX11_presses_279
                    · have hf := (if_pos c192).symm.trans hf
                      refine lv_aload_n hx hb dX11_presses_195 rfl (lv_at hl 0 rfl) ?_
                      refine z_getr (o := 70) (o2 := 71) (C := RX11) (T := TX11) (N := 11) (ci := 9) (k := 0) hx hb Z hw (by decide) (by omega) rfl inX11 (by decide) rfl wd875 dX11_presses_196 ?_
                      refine lv_bipush (v := (45 : Int32)) hx hb dX11_presses_199 (by decide) ?_
                      refine lv_dup2_11 hx hb dX11_presses_201 rfl rfl ?_
                      refine y_iald (o := 71) (k := 45) hx hb Z hw (by decide) (by omega) (by decide) (inB_vp (by decide)) dX11_presses_202 ?_
                      refine lv_iconst (v := (1 : Int32)) hx hb dX11_presses_203 (by decide) ?_
                      refine lv_isub hx hb dX11_presses_204 ?_
                      refine y_iast (o := 71) (k := 45) hx hb Z hw (by decide) (by omega) (by decide) (inB_vp (by decide)) dX11_presses_205 (fun H locs hw => ?_)
                      refine lv_iconst (v := (0 : Int32)) hx hb dX11_presses_206 (by decide) ?_
                      refine lv_istore (lv' := [(6, _), (0, _), (1, _), (2, _), (3, _), (4, _), (5, _)]) hx hb dX11_presses_207 hl (by decide) rfl (fun ls hl => ?_)
                      obtain ⟨q209, hq209, hf⟩ := ob_some hf
                      refine w_X11_presses_L209 G l hN  hx hb hr hlk hml Z FU v108 (0 : Int32) (hset h189 71 45 ((h189 71 45) - (1 : Int32))) q45 _ _ ls H locs (lv_sub hl [1, 5, 6, 0] rfl) hw hq209 (fun ls H locs hl hw => ?_)
                      refine lv_iload hx hb dX11_presses_277 (lv_at hl 0 rfl) ?_
                      obtain ⟨rfl, rfl⟩ := Prod.mk.inj (Option.some.inj hf)
                      exact z_iret hx hb hr hlk hw dX11_presses_279
                  refine lv_icmp_ne (tgt := 135) hx hb dX11_presses_125 (by decide) (fun c125 => ?_) (fun c125 => ?_)
                  · skip
                    refine lv_aload_n hx hb dX11_presses_135 rfl (lv_at hl 1 rfl) ?_
                    refine z_getr (o := 70) (o2 := 71) (C := RX11) (T := TX11) (N := 11) (ci := 9) (k := 0) hx hb Z hw (by decide) (by omega) rfl inX11 (by decide) rfl wd875 dX11_presses_136 ?_
                    refine lv_bipush (v := (45 : Int32)) hx hb dX11_presses_139 (by decide) ?_
                    refine y_iald (o := 71) (k := 45) hx hb Z hw (by decide) (by omega) (by decide) (inB_vp (by decide)) dX11_presses_141 ?_
                    refine W.eq (g2 := F0 m 142 ls [.int (if v108 = (h 71 45) then (v108 + (1 : Int32)) else (h 71 45)), .int (45 : Int32), .ref (ra G 71)]) ?_ (HJ142 ls H locs (lv_sub hl [1, 2, 3, 4, 5, 0] rfl) hw)
                    simp only [if_neg c125]
                  · skip
                    refine lv_iload hx hb dX11_presses_128 (lv_at hl 0 rfl) ?_
                    refine lv_iconst (v := (1 : Int32)) hx hb dX11_presses_130 (by decide) ?_
                    refine lv_iadd hx hb dX11_presses_131 ?_
                    refine lv_goto (tgt := 142) hx hb dX11_presses_132 (by decide) ?_
                    refine W.eq (g2 := F0 m 142 ls [.int (if v108 = (h 71 45) then (v108 + (1 : Int32)) else (h 71 45)), .int (45 : Int32), .ref (ra G 71)]) ?_ (HJ142 ls H locs (lv_sub hl [1, 2, 3, 4, 5, 0] rfl) hw)
                    simp only [if_pos c125]
                refine lv_icmp_ne (tgt := 106) hx hb dX11_presses_93 (by decide) (fun c93 => ?_) (fun c93 => ?_)
                · skip
                  refine lv_iload hx hb dX11_presses_106 (lv_at hl 0 rfl) ?_
                  refine W.eq (g2 := F0 m 108 ls [.int (if q62 = (-5 : Int32) then (h 71 45) else q62)]) ?_ (HJ108 ls H locs (lv_sub hl [2, 3, 4, 5, 1] rfl) hw)
                  simp only [if_neg c93]
                · skip
                  refine lv_aload_n hx hb dX11_presses_96 rfl (lv_at hl 2 rfl) ?_
                  refine z_getr (o := 70) (o2 := 71) (C := RX11) (T := TX11) (N := 11) (ci := 9) (k := 0) hx hb Z hw (by decide) (by omega) rfl inX11 (by decide) rfl wd875 dX11_presses_97 ?_
                  refine lv_bipush (v := (45 : Int32)) hx hb dX11_presses_100 (by decide) ?_
                  refine y_iald (o := 71) (k := 45) hx hb Z hw (by decide) (by omega) (by decide) (inB_vp (by decide)) dX11_presses_102 ?_
                  refine lv_goto (tgt := 108) hx hb dX11_presses_103 (by decide) ?_
                  refine W.eq (g2 := F0 m 108 ls [.int (if q62 = (-5 : Int32) then (h 71 45) else q62)]) ?_ (HJ108 ls H locs (lv_sub hl [2, 3, 4, 5, 1] rfl) hw)
                  simp only [if_pos c93]
              · have hf := (if_pos c83).symm.trans hf
                refine lv_bipush (v := (-3 : Int32)) hx hb dX11_presses_86 (by decide) ?_
                obtain ⟨rfl, rfl⟩ := Prod.mk.inj (Option.some.inj hf)
                exact z_iret hx hb hr hlk hw dX11_presses_88
          · have hf := (if_pos c53).symm.trans hf
            refine lv_bipush (v := (-5 : Int32)) hx hb dX11_presses_56 (by decide) ?_
            obtain ⟨rfl, rfl⟩ := Prod.mk.inj (Option.some.inj hf)
            exact z_iret hx hb hr hlk hw dX11_presses_58
        · have hf := (if_neg c36).symm.trans hf
          refine lv_bipush (v := (-4 : Int32)) hx hb dX11_presses_39 (by decide) ?_
          obtain ⟨rfl, rfl⟩ := Prod.mk.inj (Option.some.inj hf)
          exact z_iret hx hb hr hlk hw dX11_presses_41
      · have hf := (if_pos c26).symm.trans hf
        refine lv_bipush (v := (-2 : Int32)) hx hb dX11_presses_29 (by decide) ?_
        obtain ⟨rfl, rfl⟩ := Prod.mk.inj (Option.some.inj hf)
        exact z_iret hx hb hr hlk hw dX11_presses_31
  · have hf := (if_pos c5).symm.trans hf
    refine lv_iconst (v := (-1 : Int32)) hx hb dX11_presses_8 (by decide) ?_
    obtain ⟨rfl, rfl⟩ := Prod.mk.inj (Option.some.inj hf)
    exact z_iret hx hb hr hlk hw dX11_presses_9
set_option maxHeartbeats 4000000 in
set_option maxRecDepth 100000 in
theorem t_X11_scratches (G : GM) (l : Launch) (hN : 77 ≤ gN G) (x1 : Int32) (x2 : Int32) (x3 : Int32) (x4 : Int32) (h : HP) {r : Int32} {h' : HP} (hf : f_X11_scratches x1 x2 x3 x4 h = some (r, h')) : MC G l yX11_scratches cX11_scratches 6 (some .int) 1 [.ref (ra G 70), .int x1, .int x2, .int x3, .int x4] h h' (some (.int r)) := by
  unfold f_X11_scratches at hf
  refine z_start (by decide) (Nat.le_of_ble_eq_true rfl) ?_
  intro p e s m args below meth c ls hx hb hr hlk hml Z hw hl
  have Z : ZK G s args m RX11 := Z
  have hl : lv_has ls 6 [(0, .ref (ra G 70)), (1, .int x1), (2, .int x2), (3, .int x3), (4, .int x4)] := hl
  obtain ⟨H, hH⟩ : ∃ H, H = s.heap := ⟨_, rfl⟩
  rw [← hH] at hw ⊢
  obtain ⟨locs, hlc⟩ : ∃ locs : List Loc, locs = [] := ⟨_, rfl⟩
  rw [← hlc] at hw ⊢
  refine lv_iload_n hx hb dX11_scratches_0 rfl (lv_at hl 1 rfl) ?_
  refine lv_iconst (v := (0 : Int32)) hx hb dX11_scratches_1 (by decide) ?_
  refine lv_sipush (v := (359 : Int32)) hx hb dX11_scratches_2 (by decide) ?_
  refine z_callSi (As := [.int x1, .int (0 : Int32), .int (359 : Int32)]) (rest := []) (t_X11_in G l hN x1 (0 : Int32) (359 : Int32) h) cs_X11_in hx hb hml hl.1 Z hw wd934 rfl rfl (Nat.le_of_ble_eq_true rfl) (by decide) dX11_scratches_5 (fun H locs hw => ?_)
  refine lv_if_eq (tgt := 43) hx hb dX11_scratches_8 (by decide) (fun c8 => ?_) (fun c8 => ?_)
  · have hf := (if_pos c8).symm.trans hf
    refine lv_bipush (v := (-2 : Int32)) hx hb dX11_scratches_43 (by decide) ?_
    obtain ⟨rfl, rfl⟩ := Prod.mk.inj (Option.some.inj hf)
    exact z_iret hx hb hr hlk hw dX11_scratches_45
  · have hf := (if_neg c8).symm.trans hf
    refine lv_iload_n hx hb dX11_scratches_11 rfl (lv_at hl 2 rfl) ?_
    refine lv_iload_n hx hb dX11_scratches_12 rfl (lv_at hl 1 rfl) ?_
    refine lv_sipush (v := (359 : Int32)) hx hb dX11_scratches_13 (by decide) ?_
    refine z_callSi (As := [.int x2, .int x1, .int (359 : Int32)]) (rest := []) (t_X11_in G l hN x2 x1 (359 : Int32) h) cs_X11_in hx hb hml hl.1 Z hw wd934 rfl rfl (Nat.le_of_ble_eq_true rfl) (by decide) dX11_scratches_16 (fun H locs hw => ?_)
    refine lv_if_eq (tgt := 43) hx hb dX11_scratches_19 (by decide) (fun c19 => ?_) (fun c19 => ?_)
    · have hf := (if_pos c19).symm.trans hf
      refine lv_bipush (v := (-2 : Int32)) hx hb dX11_scratches_43 (by decide) ?_
      obtain ⟨rfl, rfl⟩ := Prod.mk.inj (Option.some.inj hf)
      exact z_iret hx hb hr hlk hw dX11_scratches_45
    · have hf := (if_neg c19).symm.trans hf
      refine lv_iload_n hx hb dX11_scratches_22 rfl (lv_at hl 3 rfl) ?_
      refine lv_iconst (v := (0 : Int32)) hx hb dX11_scratches_23 (by decide) ?_
      refine lv_bipush (v := (29 : Int32)) hx hb dX11_scratches_24 (by decide) ?_
      refine z_callSi (As := [.int x3, .int (0 : Int32), .int (29 : Int32)]) (rest := []) (t_X11_in G l hN x3 (0 : Int32) (29 : Int32) h) cs_X11_in hx hb hml hl.1 Z hw wd934 rfl rfl (Nat.le_of_ble_eq_true rfl) (by decide) dX11_scratches_26 (fun H locs hw => ?_)
      refine lv_if_eq (tgt := 43) hx hb dX11_scratches_29 (by decide) (fun c29 => ?_) (fun c29 => ?_)
      · have hf := (if_pos c29).symm.trans hf
        refine lv_bipush (v := (-2 : Int32)) hx hb dX11_scratches_43 (by decide) ?_
        obtain ⟨rfl, rfl⟩ := Prod.mk.inj (Option.some.inj hf)
        exact z_iret hx hb hr hlk hw dX11_scratches_45
      · have hf := (if_neg c29).symm.trans hf
        refine lv_iload hx hb dX11_scratches_32 (lv_at hl 4 rfl) ?_
        refine lv_iload_n hx hb dX11_scratches_34 rfl (lv_at hl 3 rfl) ?_
        refine lv_bipush (v := (29 : Int32)) hx hb dX11_scratches_35 (by decide) ?_
        refine z_callSi (As := [.int x4, .int x3, .int (29 : Int32)]) (rest := []) (t_X11_in G l hN x4 x3 (29 : Int32) h) cs_X11_in hx hb hml hl.1 Z hw wd934 rfl rfl (Nat.le_of_ble_eq_true rfl) (by decide) dX11_scratches_37 (fun H locs hw => ?_)
        refine lv_if_ne (tgt := 46) hx hb dX11_scratches_40 (by decide) (fun c40 => ?_) (fun c40 => ?_)
        · have hf := (if_neg c40).symm.trans hf
          refine lv_aload_n hx hb dX11_scratches_46 rfl (lv_at hl 0 rfl) ?_
          refine z_getr (o := 70) (o2 := 71) (C := RX11) (T := TX11) (N := 11) (ci := 9) (k := 0) hx hb Z hw (by decide) (by omega) rfl inX11 (by decide) rfl wd875 dX11_scratches_47 ?_
          refine lv_bipush (v := (12 : Int32)) hx hb dX11_scratches_50 (by decide) ?_
          refine y_iald (o := 71) (k := 12) hx hb Z hw (by decide) (by omega) (by decide) (inB_vp (by decide)) dX11_scratches_52 ?_
          refine lv_bipush (v := (8 : Int32)) hx hb dX11_scratches_53 (by decide) ?_
          refine lv_icmp_ne (tgt := 61) hx hb dX11_scratches_55 (by decide) (fun c55 => ?_) (fun c55 => ?_)
          · have hf := (if_neg c55).symm.trans hf
            refine lv_bipush (v := (13 : Int32)) hx hb dX11_scratches_61 (by decide) ?_
            refine lv_iconst (v := (4 : Int32)) hx hb dX11_scratches_63 (by decide) ?_
            refine lv_aload_n hx hb dX11_scratches_64 rfl (lv_at hl 0 rfl) ?_
            refine z_getr (o := 70) (o2 := 71) (C := RX11) (T := TX11) (N := 11) (ci := 9) (k := 0) hx hb Z hw (by decide) (by omega) rfl inX11 (by decide) rfl wd875 dX11_scratches_65 ?_
            refine lv_bipush (v := (12 : Int32)) hx hb dX11_scratches_68 (by decide) ?_
            refine y_iald (o := 71) (k := 12) hx hb Z hw (by decide) (by omega) (by decide) (inB_vp (by decide)) dX11_scratches_70 ?_
            refine lv_imul hx hb dX11_scratches_71 ?_
            refine lv_iadd hx hb dX11_scratches_72 ?_
            refine lv_istore (lv' := [(5, _), (0, _), (1, _), (2, _), (3, _), (4, _)]) hx hb dX11_scratches_73 hl (by decide) rfl (fun ls hl => ?_)
            refine lv_aload_n hx hb dX11_scratches_75 rfl (lv_at hl 1 rfl) ?_
            refine z_getr (o := 70) (o2 := 71) (C := RX11) (T := TX11) (N := 11) (ci := 9) (k := 0) hx hb Z hw (by decide) (by omega) rfl inX11 (by decide) rfl wd875 dX11_scratches_76 ?_
            refine lv_iload hx hb dX11_scratches_79 (lv_at hl 0 rfl) ?_
            refine lv_iload_n hx hb dX11_scratches_81 rfl (lv_at hl 2 rfl) ?_
            obtain ⟨h82, hf⟩ := gd_some hf
            refine y_iast (o := 71) (k := ((13 : Int32) + ((4 : Int32) * (h 71 12))).toNatClampNeg) hx hb Z hw (by decide) (by omega) rfl (inB_vp h82) dX11_scratches_82 (fun H locs hw => ?_)
            refine lv_aload_n hx hb dX11_scratches_83 rfl (lv_at hl 1 rfl) ?_
            obtain ⟨h84, hqh84, hf⟩ := tb_ex hf
            rw [hqh84] at hw
            refine z_getr (o := 70) (o2 := 71) (C := RX11) (T := TX11) (N := 11) (ci := 9) (k := 0) hx hb Z hw (by decide) (by omega) rfl inX11 (by decide) rfl wd875 dX11_scratches_84 ?_
            refine lv_iload hx hb dX11_scratches_87 (lv_at hl 0 rfl) ?_
            refine lv_iconst (v := (1 : Int32)) hx hb dX11_scratches_89 (by decide) ?_
            refine lv_iadd hx hb dX11_scratches_90 ?_
            refine lv_iload_n hx hb dX11_scratches_91 rfl (lv_at hl 3 rfl) ?_
            obtain ⟨h92, hf⟩ := gd_some hf
            refine y_iast (o := 71) (k := (((13 : Int32) + ((4 : Int32) * (h 71 12))) + (1 : Int32)).toNatClampNeg) hx hb Z hw (by decide) (by omega) rfl (inB_vp h92) dX11_scratches_92 (fun H locs hw => ?_)
            refine lv_aload_n hx hb dX11_scratches_93 rfl (lv_at hl 1 rfl) ?_
            obtain ⟨h94, hqh94, hf⟩ := tb_ex hf
            rw [hqh94] at hw
            refine z_getr (o := 70) (o2 := 71) (C := RX11) (T := TX11) (N := 11) (ci := 9) (k := 0) hx hb Z hw (by decide) (by omega) rfl inX11 (by decide) rfl wd875 dX11_scratches_94 ?_
            refine lv_iload hx hb dX11_scratches_97 (lv_at hl 0 rfl) ?_
            refine lv_iconst (v := (2 : Int32)) hx hb dX11_scratches_99 (by decide) ?_
            refine lv_iadd hx hb dX11_scratches_100 ?_
            refine lv_iload_n hx hb dX11_scratches_101 rfl (lv_at hl 4 rfl) ?_
            obtain ⟨h102, hf⟩ := gd_some hf
            refine y_iast (o := 71) (k := (((13 : Int32) + ((4 : Int32) * (h 71 12))) + (2 : Int32)).toNatClampNeg) hx hb Z hw (by decide) (by omega) rfl (inB_vp h102) dX11_scratches_102 (fun H locs hw => ?_)
            refine lv_aload_n hx hb dX11_scratches_103 rfl (lv_at hl 1 rfl) ?_
            obtain ⟨h104, hqh104, hf⟩ := tb_ex hf
            rw [hqh104] at hw
            refine z_getr (o := 70) (o2 := 71) (C := RX11) (T := TX11) (N := 11) (ci := 9) (k := 0) hx hb Z hw (by decide) (by omega) rfl inX11 (by decide) rfl wd875 dX11_scratches_104 ?_
            refine lv_iload hx hb dX11_scratches_107 (lv_at hl 0 rfl) ?_
            refine lv_iconst (v := (3 : Int32)) hx hb dX11_scratches_109 (by decide) ?_
            refine lv_iadd hx hb dX11_scratches_110 ?_
            refine lv_iload hx hb dX11_scratches_111 (lv_at hl 5 rfl) ?_
            obtain ⟨h113, hf⟩ := gd_some hf
            refine y_iast (o := 71) (k := (((13 : Int32) + ((4 : Int32) * (h 71 12))) + (3 : Int32)).toNatClampNeg) hx hb Z hw (by decide) (by omega) rfl (inB_vp h113) dX11_scratches_113 (fun H locs hw => ?_)
            refine lv_aload_n hx hb dX11_scratches_114 rfl (lv_at hl 1 rfl) ?_
            obtain ⟨h115, hqh115, hf⟩ := tb_ex hf
            rw [hqh115] at hw
            refine z_getr (o := 70) (o2 := 71) (C := RX11) (T := TX11) (N := 11) (ci := 9) (k := 0) hx hb Z hw (by decide) (by omega) rfl inX11 (by decide) rfl wd875 dX11_scratches_115 ?_
            refine lv_bipush (v := (12 : Int32)) hx hb dX11_scratches_118 (by decide) ?_
            refine lv_dup2_11 hx hb dX11_scratches_120 rfl rfl ?_
            refine y_iald (o := 71) (k := 12) hx hb Z hw (by decide) (by omega) (by decide) (inB_vp (by decide)) dX11_scratches_121 ?_
            refine lv_iconst (v := (1 : Int32)) hx hb dX11_scratches_122 (by decide) ?_
            refine lv_iadd hx hb dX11_scratches_123 ?_
            refine y_iast (o := 71) (k := 12) hx hb Z hw (by decide) (by omega) (by decide) (inB_vp (by decide)) dX11_scratches_124 (fun H locs hw => ?_)
            refine lv_iconst (v := (0 : Int32)) hx hb dX11_scratches_125 (by decide) ?_
            obtain ⟨rfl, rfl⟩ := Prod.mk.inj (Option.some.inj hf)
            exact z_iret hx hb hr hlk hw dX11_scratches_126
          · have hf := (if_pos c55).symm.trans hf
            refine lv_bipush (v := (-3 : Int32)) hx hb dX11_scratches_58 (by decide) ?_
            obtain ⟨rfl, rfl⟩ := Prod.mk.inj (Option.some.inj hf)
            exact z_iret hx hb hr hlk hw dX11_scratches_60
        · have hf := (if_pos c40).symm.trans hf
          refine lv_bipush (v := (-2 : Int32)) hx hb dX11_scratches_43 (by decide) ?_
          obtain ⟨rfl, rfl⟩ := Prod.mk.inj (Option.some.inj hf)
          exact z_iret hx hb hr hlk hw dX11_scratches_45
set_option maxHeartbeats 4000000 in
set_option maxRecDepth 100000 in
theorem w_X11_polishes_L37 (G : GM) (l : Launch) (hN : 77 ≤ gN G)  {p : Program} {e : Env} {s : State} {m : MethodId} {args : Array Value} {below : List Frame} {meth : Method} {c : Code} (hx : p.tables.exec = Jvm.exec) (hb : c.code = cX11_polishes) (hr : meth.sig.returnType = (some .int)) (hlk : meth.locks = false) (hml : c.maxLocals = 3) (Z : ZK G s args m RX11) : ∀ (n : Nat) (x2 : Int32)  (h : HP)  (rv : Option Value) (hq : HP) (ls : Array Slot) (H : Heap) (locs : List Loc) {q : HP}, lv_has ls 3 [(0, .ref (ra G 70)), (2, .int x2)] → HW G h s H locs → f_X11_polishes_L37 n x2 h = some q → (∀ (ls : Array Slot) (H : Heap) (locs : List Loc), lv_has ls 3 [(0, .ref (ra G 70))] → HW G q s H locs → WZ p l e 1 s m args below meth c G rv hq H locs (F0 m 73 ls [])) → WZ p l e 1 s m args below meth c G rv hq H locs (F0 m 37 ls []) := by
  intro n
  induction n with
  | zero => intro x2  h  rv hq ls H locs q hl hw hf kk; cases hf
  | succ n ih =>
    intro x2  h  rv hq ls H locs q hl hw hf kk
    rw [f_X11_polishes_L37] at hf
    refine lv_iload_n hx hb dX11_polishes_37 rfl (lv_at hl 1 rfl) ?_
    refine lv_bipush (v := (13 : Int32)) hx hb dX11_polishes_38 (by decide) ?_
    refine lv_iconst (v := (4 : Int32)) hx hb dX11_polishes_40 (by decide) ?_
    refine lv_aload_n hx hb dX11_polishes_41 rfl (lv_at hl 0 rfl) ?_
    refine z_getr (o := 70) (o2 := 71) (C := RX11) (T := TX11) (N := 11) (ci := 9) (k := 0) hx hb Z hw (by decide) (by omega) rfl inX11 (by decide) rfl wd875 dX11_polishes_42 ?_
    refine lv_bipush (v := (12 : Int32)) hx hb dX11_polishes_45 (by decide) ?_
    refine y_iald (o := 71) (k := 12) hx hb Z hw (by decide) (by omega) (by decide) (inB_vp (by decide)) dX11_polishes_47 ?_
    refine lv_imul hx hb dX11_polishes_48 ?_
    refine lv_iadd hx hb dX11_polishes_49 ?_
    refine lv_icmp_ge (tgt := 73) hx hb dX11_polishes_50 (by decide) (fun c50 => ?_) (fun c50 => ?_)
    · have hf := (if_pos c50).symm.trans hf
      obtain rfl := Option.some.inj hf
      exact kk ls H locs (lv_sub hl [0] rfl) hw
    · have hf := (if_neg c50).symm.trans hf
      refine lv_aload_n hx hb dX11_polishes_53 rfl (lv_at hl 0 rfl) ?_
      refine z_getr (o := 70) (o2 := 71) (C := RX11) (T := TX11) (N := 11) (ci := 9) (k := 0) hx hb Z hw (by decide) (by omega) rfl inX11 (by decide) rfl wd875 dX11_polishes_54 ?_
      refine lv_iload_n hx hb dX11_polishes_57 rfl (lv_at hl 1 rfl) ?_
      refine lv_aload_n hx hb dX11_polishes_58 rfl (lv_at hl 0 rfl) ?_
      refine z_getr (o := 70) (o2 := 71) (C := RX11) (T := TX11) (N := 11) (ci := 9) (k := 0) hx hb Z hw (by decide) (by omega) rfl inX11 (by decide) rfl wd875 dX11_polishes_59 ?_
      refine lv_iload_n hx hb dX11_polishes_62 rfl (lv_at hl 1 rfl) ?_
      refine lv_iconst (v := (4 : Int32)) hx hb dX11_polishes_63 (by decide) ?_
      refine lv_iadd hx hb dX11_polishes_64 ?_
      obtain ⟨h65, hf⟩ := gd_some hf
      refine y_iald (o := 71) (k := (x2 + (4 : Int32)).toNatClampNeg) hx hb Z hw (by decide) (by omega) rfl (inB_vp h65) dX11_polishes_65 ?_
      obtain ⟨h66, hf⟩ := gd_some hf
      refine y_iast (o := 71) (k := x2.toNatClampNeg) hx hb Z hw (by decide) (by omega) rfl (inB_vp h66) dX11_polishes_66 (fun H locs hw => ?_)
      refine lv_iinc (v := x2 + (1 : Int32)) (lv' := [(2, _), (0, _)]) hx hb dX11_polishes_67 hl (k := 1) rfl rfl (by decide) rfl (fun ls hl => ?_)
      refine lv_goto (tgt := 37) hx hb dX11_polishes_70 (by decide) ?_
      exact ih (x2 + (1 : Int32)) (hset h 71 x2.toNatClampNeg (h 71 (x2 + (4 : Int32)).toNatClampNeg))  rv hq ls H locs (lv_sub hl [1, 0] rfl) hw hf kk
set_option maxHeartbeats 4000000 in
set_option maxRecDepth 100000 in
theorem w_X11_polishes_L75 (G : GM) (l : Launch) (hN : 77 ≤ gN G)  {p : Program} {e : Env} {s : State} {m : MethodId} {args : Array Value} {below : List Frame} {meth : Method} {c : Code} (hx : p.tables.exec = Jvm.exec) (hb : c.code = cX11_polishes) (hr : meth.sig.returnType = (some .int)) (hlk : meth.locks = false) (hml : c.maxLocals = 3) (Z : ZK G s args m RX11) : ∀ (n : Nat) (x2 : Int32)  (h : HP)  (rv : Option Value) (hq : HP) (ls : Array Slot) (H : Heap) (locs : List Loc) {q : HP}, lv_has ls 3 [(0, .ref (ra G 70)), (2, .int x2)] → HW G h s H locs → f_X11_polishes_L75 n x2 h = some q → (∀ (ls : Array Slot) (H : Heap) (locs : List Loc), lv_has ls 3 [] → HW G q s H locs → WZ p l e 1 s m args below meth c G rv hq H locs (F0 m 106 ls [])) → WZ p l e 1 s m args below meth c G rv hq H locs (F0 m 75 ls []) := by
  intro n
  induction n with
  | zero => intro x2  h  rv hq ls H locs q hl hw hf kk; cases hf
  | succ n ih =>
    intro x2  h  rv hq ls H locs q hl hw hf kk
    rw [f_X11_polishes_L75] at hf
    refine lv_iload_n hx hb dX11_polishes_75 rfl (lv_at hl 1 rfl) ?_
    refine lv_iconst (v := (4 : Int32)) hx hb dX11_polishes_76 (by decide) ?_
    refine lv_icmp_ge (tgt := 106) hx hb dX11_polishes_77 (by decide) (fun c77 => ?_) (fun c77 => ?_)
    · have hf := (if_pos c77).symm.trans hf
      obtain rfl := Option.some.inj hf
      exact kk ls H locs (lv_sub hl [] rfl) hw
    · have hf := (if_neg c77).symm.trans hf
      refine lv_aload_n hx hb dX11_polishes_80 rfl (lv_at hl 0 rfl) ?_
      refine z_getr (o := 70) (o2 := 71) (C := RX11) (T := TX11) (N := 11) (ci := 9) (k := 0) hx hb Z hw (by decide) (by omega) rfl inX11 (by decide) rfl wd875 dX11_polishes_81 ?_
      refine lv_bipush (v := (13 : Int32)) hx hb dX11_polishes_84 (by decide) ?_
      refine lv_iconst (v := (4 : Int32)) hx hb dX11_polishes_86 (by decide) ?_
      refine lv_aload_n hx hb dX11_polishes_87 rfl (lv_at hl 0 rfl) ?_
      refine z_getr (o := 70) (o2 := 71) (C := RX11) (T := TX11) (N := 11) (ci := 9) (k := 0) hx hb Z hw (by decide) (by omega) rfl inX11 (by decide) rfl wd875 dX11_polishes_88 ?_
      refine lv_bipush (v := (12 : Int32)) hx hb dX11_polishes_91 (by decide) ?_
      refine y_iald (o := 71) (k := 12) hx hb Z hw (by decide) (by omega) (by decide) (inB_vp (by decide)) dX11_polishes_93 ?_
      refine lv_imul hx hb dX11_polishes_94 ?_
      refine lv_iadd hx hb dX11_polishes_95 ?_
      refine lv_iload_n hx hb dX11_polishes_96 rfl (lv_at hl 1 rfl) ?_
      refine lv_iadd hx hb dX11_polishes_97 ?_
      refine lv_iconst (v := (0 : Int32)) hx hb dX11_polishes_98 (by decide) ?_
      obtain ⟨h99, hf⟩ := gd_some hf
      refine y_iast (o := 71) (k := (((13 : Int32) + ((4 : Int32) * (h 71 12))) + x2).toNatClampNeg) hx hb Z hw (by decide) (by omega) rfl (inB_vp h99) dX11_polishes_99 (fun H locs hw => ?_)
      refine lv_iinc (v := x2 + (1 : Int32)) (lv' := [(2, _), (0, _)]) hx hb dX11_polishes_100 hl (k := 1) rfl rfl (by decide) rfl (fun ls hl => ?_)
      refine lv_goto (tgt := 75) hx hb dX11_polishes_103 (by decide) ?_
      exact ih (x2 + (1 : Int32)) (hset h 71 (((13 : Int32) + ((4 : Int32) * (h 71 12))) + x2).toNatClampNeg (0 : Int32))  rv hq ls H locs (lv_sub hl [1, 0] rfl) hw hf kk
set_option maxHeartbeats 4000000 in
set_option maxRecDepth 100000 in
theorem t_X11_polishes (G : GM) (l : Launch) (hN : 77 ≤ gN G) (x1 : Int32) (h : HP) {r : Int32} {h' : HP} (hf : f_X11_polishes x1 h = some (r, h')) : MC G l yX11_polishes cX11_polishes 3 (some .int) 1 [.ref (ra G 70), .int x1] h h' (some (.int r)) := by
  unfold f_X11_polishes at hf
  refine z_start (by decide) (Nat.le_of_ble_eq_true rfl) ?_
  intro p e s m args below meth c ls hx hb hr hlk hml Z hw hl
  have Z : ZK G s args m RX11 := Z
  have hl : lv_has ls 3 [(0, .ref (ra G 70)), (1, .int x1)] := hl
  obtain ⟨H, hH⟩ : ∃ H, H = s.heap := ⟨_, rfl⟩
  rw [← hH] at hw ⊢
  obtain ⟨locs, hlc⟩ : ∃ locs : List Loc, locs = [] := ⟨_, rfl⟩
  rw [← hlc] at hw ⊢
  refine lv_iload_n hx hb dX11_polishes_0 rfl (lv_at hl 1 rfl) ?_
  refine lv_iconst (v := (0 : Int32)) hx hb dX11_polishes_1 (by decide) ?_
  refine lv_aload_n hx hb dX11_polishes_2 rfl (lv_at hl 0 rfl) ?_
  refine z_getr (o := 70) (o2 := 71) (C := RX11) (T := TX11) (N := 11) (ci := 9) (k := 0) hx hb Z hw (by decide) (by omega) rfl inX11 (by decide) rfl wd875 dX11_polishes_3 ?_
  refine lv_bipush (v := (12 : Int32)) hx hb dX11_polishes_6 (by decide) ?_
  refine y_iald (o := 71) (k := 12) hx hb Z hw (by decide) (by omega) (by decide) (inB_vp (by decide)) dX11_polishes_8 ?_
  refine lv_iconst (v := (1 : Int32)) hx hb dX11_polishes_9 (by decide) ?_
  refine lv_isub hx hb dX11_polishes_10 ?_
  refine z_callSi (As := [.int x1, .int (0 : Int32), .int ((h 71 12) - (1 : Int32))]) (rest := []) (t_X11_in G l hN x1 (0 : Int32) ((h 71 12) - (1 : Int32)) h) cs_X11_in hx hb hml hl.1 Z hw wd934 rfl rfl (Nat.le_of_ble_eq_true rfl) (by decide) dX11_polishes_11 (fun H locs hw => ?_)
  refine lv_if_ne (tgt := 19) hx hb dX11_polishes_14 (by decide) (fun c14 => ?_) (fun c14 => ?_)
  · have hf := (if_neg c14).symm.trans hf
    refine lv_aload_n hx hb dX11_polishes_19 rfl (lv_at hl 0 rfl) ?_
    refine z_getr (o := 70) (o2 := 71) (C := RX11) (T := TX11) (N := 11) (ci := 9) (k := 0) hx hb Z hw (by decide) (by omega) rfl inX11 (by decide) rfl wd875 dX11_polishes_20 ?_
    refine lv_bipush (v := (12 : Int32)) hx hb dX11_polishes_23 (by decide) ?_
    refine lv_dup2_11 hx hb dX11_polishes_25 rfl rfl ?_
    refine y_iald (o := 71) (k := 12) hx hb Z hw (by decide) (by omega) (by decide) (inB_vp (by decide)) dX11_polishes_26 ?_
    refine lv_iconst (v := (1 : Int32)) hx hb dX11_polishes_27 (by decide) ?_
    refine lv_isub hx hb dX11_polishes_28 ?_
    refine y_iast (o := 71) (k := 12) hx hb Z hw (by decide) (by omega) (by decide) (inB_vp (by decide)) dX11_polishes_29 (fun H locs hw => ?_)
    refine lv_bipush (v := (13 : Int32)) hx hb dX11_polishes_30 (by decide) ?_
    refine lv_iconst (v := (4 : Int32)) hx hb dX11_polishes_32 (by decide) ?_
    refine lv_iload_n hx hb dX11_polishes_33 rfl (lv_at hl 1 rfl) ?_
    refine lv_imul hx hb dX11_polishes_34 ?_
    refine lv_iadd hx hb dX11_polishes_35 ?_
    refine lv_istore_n (lv' := [(2, _), (0, _), (1, _)]) hx hb dX11_polishes_36 rfl hl (by decide) rfl (fun ls hl => ?_)
    obtain ⟨q37, hq37, hf⟩ := ob_some hf
    refine w_X11_polishes_L37 G l hN  hx hb hr hlk hml Z FU ((13 : Int32) + ((4 : Int32) * x1)) (hset h 71 12 ((h 71 12) - (1 : Int32)))  _ _ ls H locs (lv_sub hl [1, 0] rfl) hw hq37 (fun ls H locs hl hw => ?_)
    refine lv_iconst (v := (0 : Int32)) hx hb dX11_polishes_73 (by decide) ?_
    refine lv_istore_n (lv' := [(2, _), (0, _)]) hx hb dX11_polishes_74 rfl hl (by decide) rfl (fun ls hl => ?_)
    obtain ⟨q75, hq75, hf⟩ := ob_some hf
    refine w_X11_polishes_L75 G l hN  hx hb hr hlk hml Z FU (0 : Int32) q37  _ _ ls H locs (lv_sub hl [1, 0] rfl) hw hq75 (fun ls H locs hl hw => ?_)
    refine lv_iconst (v := (0 : Int32)) hx hb dX11_polishes_106 (by decide) ?_
    obtain ⟨rfl, rfl⟩ := Prod.mk.inj (Option.some.inj hf)
    exact z_iret hx hb hr hlk hw dX11_polishes_107
  · have hf := (if_pos c14).symm.trans hf
    refine lv_iconst (v := (-1 : Int32)) hx hb dX11_polishes_17 (by decide) ?_
    obtain ⟨rfl, rfl⟩ := Prod.mk.inj (Option.some.inj hf)
    exact z_iret hx hb hr hlk hw dX11_polishes_18
set_option maxHeartbeats 4000000 in
set_option maxRecDepth 100000 in
theorem t_X11_press (G : GM) (l : Launch) (hN : 77 ≤ gN G) (x1 : Int32) (x2 : Int32) (x3 : Int32) (h : HP) {r : Int32} {h' : HP} (hf : f_X11_press x1 x2 x3 h = some (r, h')) : MC G l yX11_press cX11_press 4 (some .int) 4 [.ref (ra G 70), .int x1, .int x2, .int x3] h h' (some (.int r)) := by
  unfold f_X11_press at hf
  refine z_start (by decide) (Nat.le_of_ble_eq_true rfl) ?_
  intro p e s m args below meth c ls hx hb hr hlk hml Z hw hl
  have Z : ZK G s args m RX11 := Z
  have hl : lv_has ls 4 [(0, .ref (ra G 70)), (1, .int x1), (2, .int x2), (3, .int x3)] := hl
  obtain ⟨H, hH⟩ : ∃ H, H = s.heap := ⟨_, rfl⟩
  rw [← hH] at hw ⊢
  obtain ⟨locs, hlc⟩ : ∃ locs : List Loc, locs = [] := ⟨_, rfl⟩
  rw [← hlc] at hw ⊢
  refine lv_aload_n hx hb dX11_press_0 rfl (lv_at hl 0 rfl) ?_
  obtain ⟨q1, hq1, hf⟩ := ob_some hf
  refine z_callVv (o := 70) (ci := 9) (As := []) (rest := []) (t_X11_putAside G l hN  h hq1) cv_X11_putAside hx hb hml hl.1 Z hw (by decide) (by decide) (by omega) rfl rfl wd914 rfl rfl (Nat.le_of_ble_eq_true rfl) (by decide) dX11_press_1 (fun H locs hw => ?_)
  refine lv_aload_n hx hb dX11_press_4 rfl (lv_at hl 0 rfl) ?_
  refine lv_aload_n hx hb dX11_press_5 rfl (lv_at hl 0 rfl) ?_
  refine lv_iload_n hx hb dX11_press_6 rfl (lv_at hl 1 rfl) ?_
  refine lv_iload_n hx hb dX11_press_7 rfl (lv_at hl 2 rfl) ?_
  refine lv_iload_n hx hb dX11_press_8 rfl (lv_at hl 3 rfl) ?_
  obtain ⟨q9, hq9, hf⟩ := ob_some hf
  refine z_callVi (o := 70) (ci := 9) (As := [.int x1, .int x2, .int x3]) (rest := [.ref (ra G 70)]) (t_X11_presses G l hN x1 x2 x3 q1 hq9) cv_X11_presses hx hb hml hl.1 Z hw (by decide) (by decide) (by omega) rfl rfl wd918 rfl rfl (Nat.le_of_ble_eq_true rfl) (by decide) dX11_press_9 (fun H locs hw => ?_)
  obtain ⟨q12, hq12, hf⟩ := ob_some hf
  refine z_callVi (o := 70) (ci := 9) (As := [.int q9.1]) (rest := []) (t_X11_act G l hN q9.1 q9.2 hq12) cv_X11_act hx hb hml hl.1 Z hw (by decide) (by decide) (by omega) rfl rfl wd951 rfl rfl (Nat.le_of_ble_eq_true rfl) (by decide) dX11_press_12 (fun H locs hw => ?_)
  obtain ⟨rfl, rfl⟩ := Prod.mk.inj (Option.some.inj hf)
  exact z_iret hx hb hr hlk hw dX11_press_15
set_option maxHeartbeats 4000000 in
set_option maxRecDepth 100000 in
theorem t_X11_scratch (G : GM) (l : Launch) (hN : 77 ≤ gN G) (x1 : Int32) (x2 : Int32) (x3 : Int32) (x4 : Int32) (h : HP) {r : Int32} {h' : HP} (hf : f_X11_scratch x1 x2 x3 x4 h = some (r, h')) : MC G l yX11_scratch cX11_scratch 6 (some .int) 4 [.ref (ra G 70), .int x1, .int x2, .int x3, .int x4] h h' (some (.int r)) := by
  unfold f_X11_scratch at hf
  refine z_start (by decide) (Nat.le_of_ble_eq_true rfl) ?_
  intro p e s m args below meth c ls hx hb hr hlk hml Z hw hl
  have Z : ZK G s args m RX11 := Z
  have hl : lv_has ls 6 [(0, .ref (ra G 70)), (1, .int x1), (2, .int x2), (3, .int x3), (4, .int x4)] := hl
  obtain ⟨H, hH⟩ : ∃ H, H = s.heap := ⟨_, rfl⟩
  rw [← hH] at hw ⊢
  obtain ⟨locs, hlc⟩ : ∃ locs : List Loc, locs = [] := ⟨_, rfl⟩
  rw [← hlc] at hw ⊢
  refine lv_aload_n hx hb dX11_scratch_0 rfl (lv_at hl 0 rfl) ?_
  obtain ⟨q1, hq1, hf⟩ := ob_some hf
  refine z_callVv (o := 70) (ci := 9) (As := []) (rest := []) (t_X11_putAside G l hN  h hq1) cv_X11_putAside hx hb hml hl.1 Z hw (by decide) (by decide) (by omega) rfl rfl wd914 rfl rfl (Nat.le_of_ble_eq_true rfl) (by decide) dX11_scratch_1 (fun H locs hw => ?_)
  refine lv_aload_n hx hb dX11_scratch_4 rfl (lv_at hl 0 rfl) ?_
  refine lv_aload_n hx hb dX11_scratch_5 rfl (lv_at hl 0 rfl) ?_
  refine lv_iload_n hx hb dX11_scratch_6 rfl (lv_at hl 1 rfl) ?_
  refine lv_iload_n hx hb dX11_scratch_7 rfl (lv_at hl 2 rfl) ?_
  refine lv_iload_n hx hb dX11_scratch_8 rfl (lv_at hl 3 rfl) ?_
  refine lv_iload hx hb dX11_scratch_9 (lv_at hl 4 rfl) ?_
  obtain ⟨q11, hq11, hf⟩ := ob_some hf
  refine z_callVi (o := 70) (ci := 9) (As := [.int x1, .int x2, .int x3, .int x4]) (rest := [.ref (ra G 70)]) (t_X11_scratches G l hN x1 x2 x3 x4 q1 hq11) cv_X11_scratches hx hb hml hl.1 Z hw (by decide) (by decide) (by omega) rfl rfl wd963 rfl rfl (Nat.le_of_ble_eq_true rfl) (by decide) dX11_scratch_11 (fun H locs hw => ?_)
  obtain ⟨q14, hq14, hf⟩ := ob_some hf
  refine z_callVi (o := 70) (ci := 9) (As := [.int q11.1]) (rest := []) (t_X11_act G l hN q11.1 q11.2 hq14) cv_X11_act hx hb hml hl.1 Z hw (by decide) (by decide) (by omega) rfl rfl wd951 rfl rfl (Nat.le_of_ble_eq_true rfl) (by decide) dX11_scratch_14 (fun H locs hw => ?_)
  refine lv_istore (lv' := [(5, _), (0, _), (1, _), (2, _), (3, _), (4, _)]) hx hb dX11_scratch_17 hl (by decide) rfl (fun ls hl => ?_)
  refine lv_iload hx hb dX11_scratch_19 (lv_at hl 0 rfl) ?_
  refine lv_if_ge (tgt := 29) hx hb dX11_scratch_21 (by decide) (fun c21 => ?_) (fun c21 => ?_)
  · have hf := (if_pos c21).symm.trans hf
    refine lv_aload_n hx hb dX11_scratch_29 rfl (lv_at hl 1 rfl) ?_
    obtain ⟨q30, hq30, hf⟩ := ob_some hf
    refine z_callVi (o := 70) (ci := 9) (As := []) (rest := []) (t_X11_damaged G l hN  q14.2 hq30) cv_X11_damaged hx hb hml hl.1 Z hw (by decide) (by decide) (by omega) rfl rfl wd967 rfl rfl (Nat.le_of_ble_eq_true rfl) (by decide) dX11_scratch_30 (fun H locs hw => ?_)
    obtain ⟨rfl, rfl⟩ := Prod.mk.inj (Option.some.inj hf)
    exact z_iret hx hb hr hlk hw dX11_scratch_33
  · have hf := (if_neg c21).symm.trans hf
    refine lv_iload hx hb dX11_scratch_24 (lv_at hl 0 rfl) ?_
    refine lv_goto (tgt := 33) hx hb dX11_scratch_26 (by decide) ?_
    obtain ⟨rfl, rfl⟩ := Prod.mk.inj (Option.some.inj hf)
    exact z_iret hx hb hr hlk hw dX11_scratch_33
set_option maxHeartbeats 4000000 in
set_option maxRecDepth 100000 in
theorem t_X11_polish (G : GM) (l : Launch) (hN : 77 ≤ gN G) (x1 : Int32) (h : HP) {r : Int32} {h' : HP} (hf : f_X11_polish x1 h = some (r, h')) : MC G l yX11_polish cX11_polish 3 (some .int) 4 [.ref (ra G 70), .int x1] h h' (some (.int r)) := by
  unfold f_X11_polish at hf
  refine z_start (by decide) (Nat.le_of_ble_eq_true rfl) ?_
  intro p e s m args below meth c ls hx hb hr hlk hml Z hw hl
  have Z : ZK G s args m RX11 := Z
  have hl : lv_has ls 3 [(0, .ref (ra G 70)), (1, .int x1)] := hl
  obtain ⟨H, hH⟩ : ∃ H, H = s.heap := ⟨_, rfl⟩
  rw [← hH] at hw ⊢
  obtain ⟨locs, hlc⟩ : ∃ locs : List Loc, locs = [] := ⟨_, rfl⟩
  rw [← hlc] at hw ⊢
  refine lv_aload_n hx hb dX11_polish_0 rfl (lv_at hl 0 rfl) ?_
  obtain ⟨q1, hq1, hf⟩ := ob_some hf
  refine z_callVv (o := 70) (ci := 9) (As := []) (rest := []) (t_X11_putAside G l hN  h hq1) cv_X11_putAside hx hb hml hl.1 Z hw (by decide) (by decide) (by omega) rfl rfl wd914 rfl rfl (Nat.le_of_ble_eq_true rfl) (by decide) dX11_polish_1 (fun H locs hw => ?_)
  refine lv_aload_n hx hb dX11_polish_4 rfl (lv_at hl 0 rfl) ?_
  refine lv_aload_n hx hb dX11_polish_5 rfl (lv_at hl 0 rfl) ?_
  refine lv_iload_n hx hb dX11_polish_6 rfl (lv_at hl 1 rfl) ?_
  obtain ⟨q7, hq7, hf⟩ := ob_some hf
  refine z_callVi (o := 70) (ci := 9) (As := [.int x1]) (rest := [.ref (ra G 70)]) (t_X11_polishes G l hN x1 q1 hq7) cv_X11_polishes hx hb hml hl.1 Z hw (by decide) (by decide) (by omega) rfl rfl wd987 rfl rfl (Nat.le_of_ble_eq_true rfl) (by decide) dX11_polish_7 (fun H locs hw => ?_)
  obtain ⟨q10, hq10, hf⟩ := ob_some hf
  refine z_callVi (o := 70) (ci := 9) (As := [.int q7.1]) (rest := []) (t_X11_act G l hN q7.1 q7.2 hq10) cv_X11_act hx hb hml hl.1 Z hw (by decide) (by decide) (by omega) rfl rfl wd951 rfl rfl (Nat.le_of_ble_eq_true rfl) (by decide) dX11_polish_10 (fun H locs hw => ?_)
  refine lv_istore_n (lv' := [(2, _), (0, _), (1, _)]) hx hb dX11_polish_13 rfl hl (by decide) rfl (fun ls hl => ?_)
  refine lv_iload_n hx hb dX11_polish_14 rfl (lv_at hl 0 rfl) ?_
  refine lv_if_ge (tgt := 22) hx hb dX11_polish_15 (by decide) (fun c15 => ?_) (fun c15 => ?_)
  · have hf := (if_pos c15).symm.trans hf
    refine lv_aload_n hx hb dX11_polish_22 rfl (lv_at hl 1 rfl) ?_
    obtain ⟨q23, hq23, hf⟩ := ob_some hf
    refine z_callVi (o := 70) (ci := 9) (As := []) (rest := []) (t_X11_damaged G l hN  q10.2 hq23) cv_X11_damaged hx hb hml hl.1 Z hw (by decide) (by decide) (by omega) rfl rfl wd967 rfl rfl (Nat.le_of_ble_eq_true rfl) (by decide) dX11_polish_23 (fun H locs hw => ?_)
    obtain ⟨rfl, rfl⟩ := Prod.mk.inj (Option.some.inj hf)
    exact z_iret hx hb hr hlk hw dX11_polish_26
  · have hf := (if_neg c15).symm.trans hf
    refine lv_iload_n hx hb dX11_polish_18 rfl (lv_at hl 0 rfl) ?_
    refine lv_goto (tgt := 26) hx hb dX11_polish_19 (by decide) ?_
    obtain ⟨rfl, rfl⟩ := Prod.mk.inj (Option.some.inj hf)
    exact z_iret hx hb hr hlk hw dX11_polish_26
set_option maxHeartbeats 4000000 in
set_option maxRecDepth 100000 in
theorem t_X11_low (G : GM) (l : Launch) (hN : 77 ≤ gN G) (x0 : Int32) (h : HP) : MC G l yX11_low cX11_low 1 (some .int) 0 [.int x0] h h (some (.int (f_X11_low x0 h))) := by
  generalize hf : f_X11_low x0 h = r
  unfold f_X11_low at hf
  refine z_start (by decide) (Nat.le_of_ble_eq_true rfl) ?_
  intro p e s m args below meth c ls hx hb hr hlk hml Z hw hl
  have Z : ZK G s args m RX11 := Z
  have hl : lv_has ls 1 [(0, .int x0)] := hl
  obtain ⟨H, hH⟩ : ∃ H, H = s.heap := ⟨_, rfl⟩
  rw [← hH] at hw ⊢
  obtain ⟨locs, hlc⟩ : ∃ locs : List Loc, locs = [] := ⟨_, rfl⟩
  rw [← hlc] at hw ⊢
  refine lv_iload_n hx hb dX11_low_0 rfl (lv_at hl 0 rfl) ?_
  refine lv_if_ne (tgt := 9) hx hb dX11_low_1 (by decide) (fun c1 => ?_) (fun c1 => ?_)
  · have hf := (if_neg c1).symm.trans hf
    refine lv_iload_n hx hb dX11_low_9 rfl (lv_at hl 0 rfl) ?_
    refine lv_iconst (v := (2 : Int32)) hx hb dX11_low_10 (by decide) ?_
    refine lv_icmp_ne (tgt := 18) hx hb dX11_low_11 (by decide) (fun c11 => ?_) (fun c11 => ?_)
    · have hf := (if_neg c11).symm.trans hf
      refine lv_iload_n hx hb dX11_low_18 rfl (lv_at hl 0 rfl) ?_
      refine lv_iconst (v := (4 : Int32)) hx hb dX11_low_19 (by decide) ?_
      refine lv_icmp_ne (tgt := 28) hx hb dX11_low_20 (by decide) (fun c20 => ?_) (fun c20 => ?_)
      · have hf := (if_neg c20).symm.trans hf
        refine lv_iconst (v := (0 : Int32)) hx hb dX11_low_28 (by decide) ?_
        obtain rfl := hf
        exact z_iret hx hb hr hlk hw dX11_low_29
      · have hf := (if_pos c20).symm.trans hf
        refine lv_bipush (v := (60 : Int32)) hx hb dX11_low_23 (by decide) ?_
        refine lv_goto (tgt := 29) hx hb dX11_low_25 (by decide) ?_
        obtain rfl := hf
        exact z_iret hx hb hr hlk hw dX11_low_29
    · have hf := (if_pos c11).symm.trans hf
      refine lv_iconst (v := (1 : Int32)) hx hb dX11_low_14 (by decide) ?_
      refine lv_goto (tgt := 29) hx hb dX11_low_15 (by decide) ?_
      obtain rfl := hf
      exact z_iret hx hb hr hlk hw dX11_low_29
  · have hf := (if_pos c1).symm.trans hf
    refine lv_bipush (v := (8 : Int32)) hx hb dX11_low_4 (by decide) ?_
    refine lv_goto (tgt := 29) hx hb dX11_low_6 (by decide) ?_
    obtain rfl := hf
    exact z_iret hx hb hr hlk hw dX11_low_29
set_option maxHeartbeats 4000000 in
set_option maxRecDepth 100000 in
theorem t_X11_high (G : GM) (l : Launch) (hN : 77 ≤ gN G) (x0 : Int32) (h : HP) : MC G l yX11_high cX11_high 1 (some .int) 0 [.int x0] h h (some (.int (f_X11_high x0 h))) := by
  generalize hf : f_X11_high x0 h = r
  unfold f_X11_high at hf
  refine z_start (by decide) (Nat.le_of_ble_eq_true rfl) ?_
  intro p e s m args below meth c ls hx hb hr hlk hml Z hw hl
  have Z : ZK G s args m RX11 := Z
  have hl : lv_has ls 1 [(0, .int x0)] := hl
  obtain ⟨H, hH⟩ : ∃ H, H = s.heap := ⟨_, rfl⟩
  rw [← hH] at hw ⊢
  obtain ⟨locs, hlc⟩ : ∃ locs : List Loc, locs = [] := ⟨_, rfl⟩
  rw [← hlc] at hw ⊢
  refine lv_iload_n hx hb dX11_high_0 rfl (lv_at hl 0 rfl) ?_
  refine lv_if_ne (tgt := 9) hx hb dX11_high_1 (by decide) (fun c1 => ?_) (fun c1 => ?_)
  · have hf := (if_neg c1).symm.trans hf
    refine lv_iload_n hx hb dX11_high_9 rfl (lv_at hl 0 rfl) ?_
    refine lv_iconst (v := (1 : Int32)) hx hb dX11_high_10 (by decide) ?_
    refine lv_icmp_ne (tgt := 19) hx hb dX11_high_11 (by decide) (fun c11 => ?_) (fun c11 => ?_)
    · have hf := (if_neg c11).symm.trans hf
      refine lv_iload_n hx hb dX11_high_19 rfl (lv_at hl 0 rfl) ?_
      refine lv_iconst (v := (2 : Int32)) hx hb dX11_high_20 (by decide) ?_
      refine lv_icmp_ne (tgt := 29) hx hb dX11_high_21 (by decide) (fun c21 => ?_) (fun c21 => ?_)
      · have hf := (if_neg c21).symm.trans hf
        refine lv_iload_n hx hb dX11_high_29 rfl (lv_at hl 0 rfl) ?_
        refine lv_iconst (v := (3 : Int32)) hx hb dX11_high_30 (by decide) ?_
        refine lv_icmp_ne (tgt := 38) hx hb dX11_high_31 (by decide) (fun c31 => ?_) (fun c31 => ?_)
        · have hf := (if_neg c31).symm.trans hf
          refine lv_iload_n hx hb dX11_high_38 rfl (lv_at hl 0 rfl) ?_
          refine lv_iconst (v := (4 : Int32)) hx hb dX11_high_39 (by decide) ?_
          refine lv_icmp_ne (tgt := 49) hx hb dX11_high_40 (by decide) (fun c40 => ?_) (fun c40 => ?_)
          · have hf := (if_neg c40).symm.trans hf
            refine lv_bipush (v := (20 : Int32)) hx hb dX11_high_49 (by decide) ?_
            obtain rfl := hf
            exact z_iret hx hb hr hlk hw dX11_high_51
          · have hf := (if_pos c40).symm.trans hf
            refine lv_sipush (v := (140 : Int32)) hx hb dX11_high_43 (by decide) ?_
            refine lv_goto (tgt := 51) hx hb dX11_high_46 (by decide) ?_
            obtain rfl := hf
            exact z_iret hx hb hr hlk hw dX11_high_51
        · have hf := (if_pos c31).symm.trans hf
          refine lv_iconst (v := (5 : Int32)) hx hb dX11_high_34 (by decide) ?_
          refine lv_goto (tgt := 51) hx hb dX11_high_35 (by decide) ?_
          obtain rfl := hf
          exact z_iret hx hb hr hlk hw dX11_high_51
      · have hf := (if_pos c21).symm.trans hf
        refine lv_bipush (v := (9 : Int32)) hx hb dX11_high_24 (by decide) ?_
        refine lv_goto (tgt := 51) hx hb dX11_high_26 (by decide) ?_
        obtain rfl := hf
        exact z_iret hx hb hr hlk hw dX11_high_51
    · have hf := (if_pos c11).symm.trans hf
      refine lv_bipush (v := (6 : Int32)) hx hb dX11_high_14 (by decide) ?_
      refine lv_goto (tgt := 51) hx hb dX11_high_16 (by decide) ?_
      obtain rfl := hf
      exact z_iret hx hb hr hlk hw dX11_high_51
  · have hf := (if_pos c1).symm.trans hf
    refine lv_bipush (v := (40 : Int32)) hx hb dX11_high_4 (by decide) ?_
    refine lv_goto (tgt := 51) hx hb dX11_high_6 (by decide) ?_
    obtain rfl := hf
    exact z_iret hx hb hr hlk hw dX11_high_51
set_option maxHeartbeats 4000000 in
set_option maxRecDepth 100000 in
theorem t_X11_set (G : GM) (l : Launch) (hN : 77 ≤ gN G) (x1 : Int32) (x2 : Int32) (h : HP) {r : Int32} {h' : HP} (hf : f_X11_set x1 x2 h = some (r, h')) : MC G l yX11_set cX11_set 4 (some .int) 2 [.ref (ra G 70), .int x1, .int x2] h h' (some (.int r)) := by
  unfold f_X11_set at hf
  refine z_start (by decide) (Nat.le_of_ble_eq_true rfl) ?_
  intro p e s m args below meth c ls hx hb hr hlk hml Z hw hl
  have Z : ZK G s args m RX11 := Z
  have hl : lv_has ls 4 [(0, .ref (ra G 70)), (1, .int x1), (2, .int x2)] := hl
  obtain ⟨H, hH⟩ : ∃ H, H = s.heap := ⟨_, rfl⟩
  rw [← hH] at hw ⊢
  obtain ⟨locs, hlc⟩ : ∃ locs : List Loc, locs = [] := ⟨_, rfl⟩
  rw [← hlc] at hw ⊢
  refine lv_iload_n hx hb dX11_set_0 rfl (lv_at hl 1 rfl) ?_
  refine lv_iconst (v := (0 : Int32)) hx hb dX11_set_1 (by decide) ?_
  refine lv_iconst (v := (5 : Int32)) hx hb dX11_set_2 (by decide) ?_
  refine z_callSi (As := [.int x1, .int (0 : Int32), .int (5 : Int32)]) (rest := []) (t_X11_in G l hN x1 (0 : Int32) (5 : Int32) h) cs_X11_in hx hb hml hl.1 Z hw wd934 rfl rfl (Nat.le_of_ble_eq_true rfl) (by decide) dX11_set_3 (fun H locs hw => ?_)
  refine lv_if_eq (tgt := 24) hx hb dX11_set_6 (by decide) (fun c6 => ?_) (fun c6 => ?_)
  · have hf := (if_pos c6).symm.trans hf
    refine lv_bipush (v := (-2 : Int32)) hx hb dX11_set_24 (by decide) ?_
    obtain ⟨rfl, rfl⟩ := Prod.mk.inj (Option.some.inj hf)
    exact z_iret hx hb hr hlk hw dX11_set_26
  · have hf := (if_neg c6).symm.trans hf
    refine lv_iload_n hx hb dX11_set_9 rfl (lv_at hl 2 rfl) ?_
    refine lv_iload_n hx hb dX11_set_10 rfl (lv_at hl 1 rfl) ?_
    refine z_callSi (As := [.int x1]) (rest := [.int x2]) (t_X11_low G l hN x1 h) cs_X11_low hx hb hml hl.1 Z hw wd995 rfl rfl (Nat.le_of_ble_eq_true rfl) (by decide) dX11_set_11 (fun H locs hw => ?_)
    refine lv_iload_n hx hb dX11_set_14 rfl (lv_at hl 1 rfl) ?_
    refine z_callSi (As := [.int x1]) (rest := [.int (f_X11_low x1 h), .int x2]) (t_X11_high G l hN x1 h) cs_X11_high hx hb hml hl.1 Z hw wd998 rfl rfl (Nat.le_of_ble_eq_true rfl) (by decide) dX11_set_15 (fun H locs hw => ?_)
    refine z_callSi (As := [.int x2, .int (f_X11_low x1 h), .int (f_X11_high x1 h)]) (rest := []) (t_X11_in G l hN x2 (f_X11_low x1 h) (f_X11_high x1 h) h) cs_X11_in hx hb hml hl.1 Z hw wd934 rfl rfl (Nat.le_of_ble_eq_true rfl) (by decide) dX11_set_18 (fun H locs hw => ?_)
    refine lv_if_ne (tgt := 27) hx hb dX11_set_21 (by decide) (fun c21 => ?_) (fun c21 => ?_)
    · have hf := (if_neg c21).symm.trans hf
      refine lv_aload_n hx hb dX11_set_27 rfl (lv_at hl 0 rfl) ?_
      refine z_getr (o := 70) (o2 := 71) (C := RX11) (T := TX11) (N := 11) (ci := 9) (k := 0) hx hb Z hw (by decide) (by omega) rfl inX11 (by decide) rfl wd875 dX11_set_28 ?_
      refine lv_iload_n hx hb dX11_set_31 rfl (lv_at hl 1 rfl) ?_
      obtain ⟨h32, hf⟩ := gd_some hf
      refine y_iald (o := 71) (k := x1.toNatClampNeg) hx hb Z hw (by decide) (by omega) rfl (inB_vp h32) dX11_set_32 ?_
      refine lv_istore_n (lv' := [(3, _), (0, _), (1, _), (2, _)]) hx hb dX11_set_33 rfl hl (by decide) rfl (fun ls hl => ?_)
      refine lv_iload_n hx hb dX11_set_34 rfl (lv_at hl 0 rfl) ?_
      refine lv_iload_n hx hb dX11_set_35 rfl (lv_at hl 3 rfl) ?_
      refine lv_icmp_ne (tgt := 42) hx hb dX11_set_36 (by decide) (fun c36 => ?_) (fun c36 => ?_)
      · have hf := (if_neg c36).symm.trans hf
        refine lv_aload_n hx hb dX11_set_42 rfl (lv_at hl 1 rfl) ?_
        obtain ⟨q43, hq43, hf⟩ := ob_some hf
        refine z_callVv (o := 70) (ci := 9) (As := []) (rest := []) (t_X11_putAside G l hN  h hq43) cv_X11_putAside hx hb hml hl.1 Z hw (by decide) (by decide) (by omega) rfl rfl wd914 rfl rfl (Nat.le_of_ble_eq_true rfl) (by decide) dX11_set_43 (fun H locs hw => ?_)
        refine lv_aload_n hx hb dX11_set_46 rfl (lv_at hl 1 rfl) ?_
        refine z_getr (o := 70) (o2 := 71) (C := RX11) (T := TX11) (N := 11) (ci := 9) (k := 0) hx hb Z hw (by decide) (by omega) rfl inX11 (by decide) rfl wd875 dX11_set_47 ?_
        refine lv_iload_n hx hb dX11_set_50 rfl (lv_at hl 2 rfl) ?_
        refine lv_iload_n hx hb dX11_set_51 rfl (lv_at hl 3 rfl) ?_
        obtain ⟨h52, hf⟩ := gd_some hf
        refine y_iast (o := 71) (k := x1.toNatClampNeg) hx hb Z hw (by decide) (by omega) rfl (inB_vp h52) dX11_set_52 (fun H locs hw => ?_)
        refine lv_iload_n hx hb dX11_set_53 rfl (lv_at hl 2 rfl) ?_
        refine lv_iconst (v := (1 : Int32)) hx hb dX11_set_54 (by decide) ?_
        obtain ⟨j55, hqj55, hf⟩ := tb_ex hf
        have HJ79 : ∀ (ls : Array Slot) (H : Heap) (locs : List Loc), lv_has ls 4 [(0, .ref (ra G 70)), (3, .int (h 71 x1.toNatClampNeg))] → HW G j55 s H locs → WZ p l e 2 s m args below meth c G (some (.int r)) h' H locs (F0 m 79 ls []) := by
          intro ls H locs hl hw
          refine lv_aload_n hx hb dX11_set_79 rfl (lv_at hl 0 rfl) ?_
          refine lv_iload_n hx hb dX11_set_80 rfl (lv_at hl 1 rfl) ?_
          obtain ⟨q81, hq81, hf⟩ := ob_some hf
          refine z_callVi (o := 70) (ci := 9) (As := [.int (h 71 x1.toNatClampNeg)]) (rest := []) (t_X11_act G l hN (h 71 x1.toNatClampNeg) j55 hq81) cv_X11_act hx hb hml hl.1 Z hw (by decide) (by decide) (by omega) rfl rfl wd951 rfl rfl (Nat.le_of_ble_eq_true rfl) (by decide) dX11_set_81 (fun H locs hw => ?_)
          obtain ⟨rfl, rfl⟩ := Prod.mk.inj (Option.some.inj hf)
          exact z_iret hx hb hr hlk hw dX11_set_84
        have hf := hqj55
        refine lv_icmp_gt (tgt := 79) hx hb dX11_set_55 (by decide) (fun c55 => ?_) (fun c55 => ?_)
        · have hf := (if_pos c55).symm.trans hf
          subst hf
          exact HJ79 ls H locs (lv_sub hl [1, 0] rfl) hw
        · have hf := (if_neg c55).symm.trans hf
          refine lv_aload_n hx hb dX11_set_58 rfl (lv_at hl 1 rfl) ?_
          obtain ⟨h59, hqh59, hf⟩ := tb_ex hf
          rw [hqh59] at hw
          refine z_getr (o := 70) (o2 := 71) (C := RX11) (T := TX11) (N := 11) (ci := 9) (k := 0) hx hb Z hw (by decide) (by omega) rfl inX11 (by decide) rfl wd875 dX11_set_59 ?_
          refine lv_bipush (v := (6 : Int32)) hx hb dX11_set_62 (by decide) ?_
          refine lv_iconst (v := (0 : Int32)) hx hb dX11_set_64 (by decide) ?_
          refine y_iast (o := 71) (k := 6) hx hb Z hw (by decide) (by omega) (by decide) (inB_vp (by decide)) dX11_set_65 (fun H locs hw => ?_)
          refine lv_aload_n hx hb dX11_set_66 rfl (lv_at hl 1 rfl) ?_
          obtain ⟨h67, hqh67, hf⟩ := tb_ex hf
          rw [hqh67] at hw
          refine z_getr (o := 70) (o2 := 71) (C := RX11) (T := TX11) (N := 11) (ci := 9) (k := 0) hx hb Z hw (by decide) (by omega) rfl inX11 (by decide) rfl wd875 dX11_set_67 ?_
          refine lv_bipush (v := (7 : Int32)) hx hb dX11_set_70 (by decide) ?_
          refine lv_aload_n hx hb dX11_set_72 rfl (lv_at hl 1 rfl) ?_
          refine z_getr (o := 70) (o2 := 71) (C := RX11) (T := TX11) (N := 11) (ci := 9) (k := 0) hx hb Z hw (by decide) (by omega) rfl inX11 (by decide) rfl wd875 dX11_set_73 ?_
          refine lv_iconst (v := (0 : Int32)) hx hb dX11_set_76 (by decide) ?_
          refine y_iald (o := 71) (k := 0) hx hb Z hw (by decide) (by omega) (by decide) (inB_vp (by decide)) dX11_set_77 ?_
          refine y_iast (o := 71) (k := 7) hx hb Z hw (by decide) (by omega) (by decide) (inB_vp (by decide)) dX11_set_78 (fun H locs hw => ?_)
          subst hf
          exact HJ79 ls H locs (lv_sub hl [1, 0] rfl) hw
      · have hf := (if_pos c36).symm.trans hf
        refine lv_bipush (v := (-5 : Int32)) hx hb dX11_set_39 (by decide) ?_
        obtain ⟨rfl, rfl⟩ := Prod.mk.inj (Option.some.inj hf)
        exact z_iret hx hb hr hlk hw dX11_set_41
    · have hf := (if_pos c21).symm.trans hf
      refine lv_bipush (v := (-2 : Int32)) hx hb dX11_set_24 (by decide) ?_
      obtain ⟨rfl, rfl⟩ := Prod.mk.inj (Option.some.inj hf)
      exact z_iret hx hb hr hlk hw dX11_set_26
set_option maxHeartbeats 4000000 in
set_option maxRecDepth 100000 in
theorem t_X11_play (G : GM) (l : Launch) (hN : 77 ≤ gN G) (x1 : Int32) (h : HP) {r : Int32} {h' : HP} (hf : f_X11_play x1 h = some (r, h')) : MC G l yX11_play cX11_play 2 (some .int) 4 [.ref (ra G 70), .int x1] h h' (some (.int r)) := by
  unfold f_X11_play at hf
  refine z_start (by decide) (Nat.le_of_ble_eq_true rfl) ?_
  intro p e s m args below meth c ls hx hb hr hlk hml Z hw hl
  have Z : ZK G s args m RX11 := Z
  have hl : lv_has ls 2 [(0, .ref (ra G 70)), (1, .int x1)] := hl
  obtain ⟨H, hH⟩ : ∃ H, H = s.heap := ⟨_, rfl⟩
  rw [← hH] at hw ⊢
  obtain ⟨locs, hlc⟩ : ∃ locs : List Loc, locs = [] := ⟨_, rfl⟩
  rw [← hlc] at hw ⊢
  refine lv_aload_n hx hb dX11_play_0 rfl (lv_at hl 0 rfl) ?_
  obtain ⟨q1, hq1, hf⟩ := ob_some hf
  refine z_callVv (o := 70) (ci := 9) (As := []) (rest := []) (t_X11_putAside G l hN  h hq1) cv_X11_putAside hx hb hml hl.1 Z hw (by decide) (by decide) (by omega) rfl rfl wd914 rfl rfl (Nat.le_of_ble_eq_true rfl) (by decide) dX11_play_1 (fun H locs hw => ?_)
  refine lv_aload_n hx hb dX11_play_4 rfl (lv_at hl 0 rfl) ?_
  refine lv_aload_n hx hb dX11_play_5 rfl (lv_at hl 0 rfl) ?_
  refine lv_iload_n hx hb dX11_play_6 rfl (lv_at hl 1 rfl) ?_
  obtain ⟨q7, hq7, hf⟩ := ob_some hf
  refine z_callVi (o := 70) (ci := 9) (As := [.int x1]) (rest := [.ref (ra G 70)]) (t_X11_plays G l hN x1 q1 hq7) cv_X11_plays hx hb hml hl.1 Z hw (by decide) (by decide) (by omega) rfl rfl wd1005 rfl rfl (Nat.le_of_ble_eq_true rfl) (by decide) dX11_play_7 (fun H locs hw => ?_)
  obtain ⟨q10, hq10, hf⟩ := ob_some hf
  refine z_callVi (o := 70) (ci := 9) (As := [.int q7.1]) (rest := []) (t_X11_act G l hN q7.1 q7.2 hq10) cv_X11_act hx hb hml hl.1 Z hw (by decide) (by decide) (by omega) rfl rfl wd951 rfl rfl (Nat.le_of_ble_eq_true rfl) (by decide) dX11_play_10 (fun H locs hw => ?_)
  obtain ⟨rfl, rfl⟩ := Prod.mk.inj (Option.some.inj hf)
  exact z_iret hx hb hr hlk hw dX11_play_13
set_option maxHeartbeats 4000000 in
set_option maxRecDepth 100000 in
theorem t_X11_seek (G : GM) (l : Launch) (hN : 77 ≤ gN G) (x1 : Int32) (h : HP) {r : Int32} {h' : HP} (hf : f_X11_seek x1 h = some (r, h')) : MC G l yX11_seek cX11_seek 2 (some .int) 4 [.ref (ra G 70), .int x1] h h' (some (.int r)) := by
  unfold f_X11_seek at hf
  refine z_start (by decide) (Nat.le_of_ble_eq_true rfl) ?_
  intro p e s m args below meth c ls hx hb hr hlk hml Z hw hl
  have Z : ZK G s args m RX11 := Z
  have hl : lv_has ls 2 [(0, .ref (ra G 70)), (1, .int x1)] := hl
  obtain ⟨H, hH⟩ : ∃ H, H = s.heap := ⟨_, rfl⟩
  rw [← hH] at hw ⊢
  obtain ⟨locs, hlc⟩ : ∃ locs : List Loc, locs = [] := ⟨_, rfl⟩
  rw [← hlc] at hw ⊢
  refine lv_aload_n hx hb dX11_seek_0 rfl (lv_at hl 0 rfl) ?_
  obtain ⟨q1, hq1, hf⟩ := ob_some hf
  refine z_callVv (o := 70) (ci := 9) (As := []) (rest := []) (t_X11_putAside G l hN  h hq1) cv_X11_putAside hx hb hml hl.1 Z hw (by decide) (by decide) (by omega) rfl rfl wd914 rfl rfl (Nat.le_of_ble_eq_true rfl) (by decide) dX11_seek_1 (fun H locs hw => ?_)
  refine lv_aload_n hx hb dX11_seek_4 rfl (lv_at hl 0 rfl) ?_
  refine lv_aload_n hx hb dX11_seek_5 rfl (lv_at hl 0 rfl) ?_
  refine lv_iload_n hx hb dX11_seek_6 rfl (lv_at hl 1 rfl) ?_
  obtain ⟨q7, hq7, hf⟩ := ob_some hf
  refine z_callVi (o := 70) (ci := 9) (As := [.int x1]) (rest := [.ref (ra G 70)]) (t_X11_seeks G l hN x1 q1 hq7) cv_X11_seeks hx hb hml hl.1 Z hw (by decide) (by decide) (by omega) rfl rfl wd1028 rfl rfl (Nat.le_of_ble_eq_true rfl) (by decide) dX11_seek_7 (fun H locs hw => ?_)
  obtain ⟨q10, hq10, hf⟩ := ob_some hf
  refine z_callVi (o := 70) (ci := 9) (As := [.int q7.1]) (rest := []) (t_X11_act G l hN q7.1 q7.2 hq10) cv_X11_act hx hb hml hl.1 Z hw (by decide) (by decide) (by omega) rfl rfl wd951 rfl rfl (Nat.le_of_ble_eq_true rfl) (by decide) dX11_seek_10 (fun H locs hw => ?_)
  obtain ⟨rfl, rfl⟩ := Prod.mk.inj (Option.some.inj hf)
  exact z_iret hx hb hr hlk hw dX11_seek_13
set_option maxHeartbeats 4000000 in
set_option maxRecDepth 100000 in
theorem t_X11_type (G : GM) (l : Launch) (hN : 77 ≤ gN G) (x1 : Int32) (h : HP) {r : Int32} {h' : HP} (hf : f_X11_type x1 h = some (r, h')) : MC G l yX11_type cX11_type 2 (some .int) 0 [.ref (ra G 70), .int x1] h h' (some (.int r)) := by
  unfold f_X11_type at hf
  refine z_start (by decide) (Nat.le_of_ble_eq_true rfl) ?_
  intro p e s m args below meth c ls hx hb hr hlk hml Z hw hl
  have Z : ZK G s args m RX11 := Z
  have hl : lv_has ls 2 [(0, .ref (ra G 70)), (1, .int x1)] := hl
  obtain ⟨H, hH⟩ : ∃ H, H = s.heap := ⟨_, rfl⟩
  rw [← hH] at hw ⊢
  obtain ⟨locs, hlc⟩ : ∃ locs : List Loc, locs = [] := ⟨_, rfl⟩
  rw [← hlc] at hw ⊢
  refine lv_aload_n hx hb dX11_type_0 rfl (lv_at hl 0 rfl) ?_
  refine z_geti (o := 70) (C := RX11) (T := TX11) (N := 11) (ci := 9) (k := 7) hx hb Z hw (by decide) (by omega) rfl inX11 (by decide) wd882 dX11_type_1 ?_
  refine lv_bipush (v := (60 : Int32)) hx hb dX11_type_4 (by decide) ?_
  refine lv_icmp_ne (tgt := 12) hx hb dX11_type_6 (by decide) (fun c6 => ?_) (fun c6 => ?_)
  · have hf := (if_neg c6).symm.trans hf
    refine lv_aload_n hx hb dX11_type_12 rfl (lv_at hl 0 rfl) ?_
    refine z_getr (o := 70) (o2 := 75) (C := RX11) (T := TX11) (N := 11) (ci := 9) (k := 6) hx hb Z hw (by decide) (by omega) rfl inX11 (by decide) rfl wd881 dX11_type_13 ?_
    refine lv_aload_n hx hb dX11_type_16 rfl (lv_at hl 0 rfl) ?_
    refine z_geti (o := 70) (C := RX11) (T := TX11) (N := 11) (ci := 9) (k := 7) hx hb Z hw (by decide) (by omega) rfl inX11 (by decide) wd882 dX11_type_17 ?_
    refine lv_iload_n hx hb dX11_type_20 rfl (lv_at hl 1 rfl) ?_
    obtain ⟨h21, hf⟩ := gd_some hf
    refine y_iast (o := 75) (k := (h 70 7).toNatClampNeg) hx hb Z hw (by decide) (by omega) rfl (inB_vp h21) dX11_type_21 (fun H locs hw => ?_)
    refine lv_aload_n hx hb dX11_type_22 rfl (lv_at hl 0 rfl) ?_
    refine lv_dup hx hb dX11_type_23 rfl ?_
    obtain ⟨h24, hqh24, hf⟩ := tb_ex hf
    rw [hqh24] at hw
    refine z_geti (o := 70) (C := RX11) (T := TX11) (N := 11) (ci := 9) (k := 7) hx hb Z hw (by decide) (by omega) rfl inX11 (by decide) wd882 dX11_type_24 ?_
    refine lv_iconst (v := (1 : Int32)) hx hb dX11_type_27 (by decide) ?_
    refine lv_iadd hx hb dX11_type_28 ?_
    refine z_puti (o := 70) (v := (h24 70 7) + (1 : Int32)) (ty := .int) (C := RX11) (T := TX11) (N := 11) (ci := 9) (k := 7) hx hb Z hw (by decide) (by omega) rfl inX11 tyX11 tyX11_ok nmX11 (by decide) wd882 rfl (by decide +kernel) rfl rfl dX11_type_29 (fun H locs hw => ?_)
    refine lv_aload_n hx hb dX11_type_32 rfl (lv_at hl 0 rfl) ?_
    obtain ⟨h33, hqh33, hf⟩ := tb_ex hf
    rw [hqh33] at hw
    refine z_geti (o := 70) (C := RX11) (T := TX11) (N := 11) (ci := 9) (k := 7) hx hb Z hw (by decide) (by omega) rfl inX11 (by decide) wd882 dX11_type_33 ?_
    obtain ⟨rfl, rfl⟩ := Prod.mk.inj (Option.some.inj hf)
    exact z_iret hx hb hr hlk hw dX11_type_36
  · have hf := (if_pos c6).symm.trans hf
    refine lv_bipush (v := (-3 : Int32)) hx hb dX11_type_9 (by decide) ?_
    obtain ⟨rfl, rfl⟩ := Prod.mk.inj (Option.some.inj hf)
    exact z_iret hx hb hr hlk hw dX11_type_11
set_option maxHeartbeats 4000000 in
set_option maxRecDepth 100000 in
theorem t_X11_clearText (G : GM) (l : Launch) (hN : 77 ≤ gN G)  (h : HP) {r : Int32} {h' : HP} (hf : f_X11_clearText  h = (r, h')) : MC G l yX11_clearText cX11_clearText 2 (some .int) 0 [.ref (ra G 70)] h h' (some (.int r)) := by
  unfold f_X11_clearText at hf
  refine z_start (by decide) (Nat.le_of_ble_eq_true rfl) ?_
  intro p e s m args below meth c ls hx hb hr hlk hml Z hw hl
  have Z : ZK G s args m RX11 := Z
  have hl : lv_has ls 2 [(0, .ref (ra G 70))] := hl
  obtain ⟨H, hH⟩ : ∃ H, H = s.heap := ⟨_, rfl⟩
  rw [← hH] at hw ⊢
  obtain ⟨locs, hlc⟩ : ∃ locs : List Loc, locs = [] := ⟨_, rfl⟩
  rw [← hlc] at hw ⊢
  refine lv_aload_n hx hb dX11_clearText_0 rfl (lv_at hl 0 rfl) ?_
  refine z_geti (o := 70) (C := RX11) (T := TX11) (N := 11) (ci := 9) (k := 7) hx hb Z hw (by decide) (by omega) rfl inX11 (by decide) wd882 dX11_clearText_1 ?_
  refine lv_istore_n (lv' := [(1, _), (0, _)]) hx hb dX11_clearText_4 rfl hl (by decide) rfl (fun ls hl => ?_)
  refine lv_aload_n hx hb dX11_clearText_5 rfl (lv_at hl 1 rfl) ?_
  refine lv_iconst (v := (0 : Int32)) hx hb dX11_clearText_6 (by decide) ?_
  refine z_puti (o := 70) (v := (0 : Int32)) (ty := .int) (C := RX11) (T := TX11) (N := 11) (ci := 9) (k := 7) hx hb Z hw (by decide) (by omega) rfl inX11 tyX11 tyX11_ok nmX11 (by decide) wd882 rfl (by decide +kernel) rfl rfl dX11_clearText_7 (fun H locs hw => ?_)
  refine lv_iload_n hx hb dX11_clearText_10 rfl (lv_at hl 0 rfl) ?_
  obtain ⟨rfl, rfl⟩ := Prod.mk.inj hf
  exact z_iret hx hb hr hlk hw dX11_clearText_11
set_option maxHeartbeats 4000000 in
set_option maxRecDepth 100000 in
theorem t_X11_sign (G : GM) (l : Launch) (hN : 77 ≤ gN G) (x1 : Int32) (x2 : Int32) (h : HP) {r : Int32} {h' : HP} (hf : f_X11_sign x1 x2 h = some (r, h')) : MC G l yX11_sign cX11_sign 4 (some .int) 1 [.ref (ra G 70), .int x1, .int x2] h h' (some (.int r)) := by
  unfold f_X11_sign at hf
  refine z_start (by decide) (Nat.le_of_ble_eq_true rfl) ?_
  intro p e s m args below meth c ls hx hb hr hlk hml Z hw hl
  have Z : ZK G s args m RX11 := Z
  have hl : lv_has ls 4 [(0, .ref (ra G 70)), (1, .int x1), (2, .int x2)] := hl
  obtain ⟨H, hH⟩ : ∃ H, H = s.heap := ⟨_, rfl⟩
  rw [← hH] at hw ⊢
  obtain ⟨locs, hlc⟩ : ∃ locs : List Loc, locs = [] := ⟨_, rfl⟩
  rw [← hlc] at hw ⊢
  refine lv_aload_n hx hb dX11_sign_0 rfl (lv_at hl 0 rfl) ?_
  refine z_geti (o := 70) (C := RX11) (T := TX11) (N := 11) (ci := 9) (k := 9) hx hb Z hw (by decide) (by omega) rfl inX11 (by decide) wd884 dX11_sign_1 ?_
  refine lv_aload_n hx hb dX11_sign_4 rfl (lv_at hl 0 rfl) ?_
  refine z_geti (o := 70) (C := RX11) (T := TX11) (N := 11) (ci := 9) (k := 7) hx hb Z hw (by decide) (by omega) rfl inX11 (by decide) wd882 dX11_sign_5 ?_
  obtain ⟨j8, hqj8, hf⟩ := ob_some hf
  have HJ24 : ∀ (ls : Array Slot) (H : Heap) (locs : List Loc), lv_has ls 4 [(0, .ref (ra G 70)), (1, .int x1), (2, .int x2)] → HW G h s H locs → WZ p l e 1 s m args below meth c G (some (.int r)) h' H locs (F0 m 24 ls [.int j8]) := by
    intro ls H locs hl hw
    refine lv_istore_n (lv' := [(3, _), (0, _), (1, _), (2, _)]) hx hb dX11_sign_24 rfl hl (by decide) rfl (fun ls hl => ?_)
    refine lv_aload_n hx hb dX11_sign_25 rfl (lv_at hl 1 rfl) ?_
    refine lv_aload_n hx hb dX11_sign_26 rfl (lv_at hl 1 rfl) ?_
    refine z_geti (o := 70) (C := RX11) (T := TX11) (N := 11) (ci := 9) (k := 10) hx hb Z hw (by decide) (by omega) rfl inX11 (by decide) wd885 dX11_sign_27 ?_
    have HJ58 : ∀ (ls : Array Slot) (H : Heap) (locs : List Loc), lv_has ls 4 [(0, .ref (ra G 70)), (3, .int j8)] → HW G h s H locs → WZ p l e 1 s m args below meth c G (some (.int r)) h' H locs (F0 m 58 ls [.int (if (h 70 10) = 0 then (if (h 70 7) ≤ (h 70 9) then (1 : Int32) else (if (f_X11_in j8 x1 x2 h) = 0 then (1 : Int32) else (0 : Int32))) else (1 : Int32)), .ref (ra G 70)]) := by
      intro ls H locs hl hw
      refine z_puti (o := 70) (v := (if (h 70 10) = 0 then (if (h 70 7) ≤ (h 70 9) then (1 : Int32) else (if (f_X11_in j8 x1 x2 h) = 0 then (1 : Int32) else (0 : Int32))) else (1 : Int32))) (ty := .boolean) (C := RX11) (T := TX11) (N := 11) (ci := 9) (k := 10) hx hb Z hw (by decide) (by omega) rfl inX11 tyX11 tyX11_ok nmX11 (by decide) wd885 rfl (by decide +kernel) (by (repeat' split) <;> rfl) (by (repeat' split) <;> rfl) dX11_sign_58 (fun H locs hw => ?_)
      refine lv_aload_n hx hb dX11_sign_61 rfl (lv_at hl 0 rfl) ?_
      refine lv_dup hx hb dX11_sign_62 rfl ?_
      obtain ⟨h63, hqh63, hf⟩ := tb_ex hf
      rw [hqh63] at hw
      refine z_geti (o := 70) (C := RX11) (T := TX11) (N := 11) (ci := 9) (k := 9) hx hb Z hw (by decide) (by omega) rfl inX11 (by decide) wd884 dX11_sign_63 ?_
      refine lv_aload_n hx hb dX11_sign_66 rfl (lv_at hl 0 rfl) ?_
      refine z_geti (o := 70) (C := RX11) (T := TX11) (N := 11) (ci := 9) (k := 10) hx hb Z hw (by decide) (by omega) rfl inX11 (by decide) wd885 dX11_sign_67 ?_
      have HJ78 : ∀ (ls : Array Slot) (H : Heap) (locs : List Loc), lv_has ls 4 [(3, .int j8)] → HW G h63 s H locs → WZ p l e 1 s m args below meth c G (some (.int r)) h' H locs (F0 m 78 ls [.int (if (h63 70 10) = 0 then (1 : Int32) else (0 : Int32)), .int (h63 70 9), .ref (ra G 70)]) := by
        intro ls H locs hl hw
        refine lv_iadd hx hb dX11_sign_78 ?_
        refine z_puti (o := 70) (v := (h63 70 9) + (if (h63 70 10) = 0 then (1 : Int32) else (0 : Int32))) (ty := .int) (C := RX11) (T := TX11) (N := 11) (ci := 9) (k := 9) hx hb Z hw (by decide) (by omega) rfl inX11 tyX11 tyX11_ok nmX11 (by decide) wd884 rfl (by decide +kernel) rfl rfl dX11_sign_79 (fun H locs hw => ?_)
        refine lv_iload_n hx hb dX11_sign_82 rfl (lv_at hl 0 rfl) ?_
        obtain ⟨rfl, rfl⟩ := Prod.mk.inj (Option.some.inj hf)
        exact z_iret hx hb hr hlk hw dX11_sign_83
      refine lv_if_eq (tgt := 77) hx hb dX11_sign_70 (by decide) (fun c70 => ?_) (fun c70 => ?_)
      · skip
        refine lv_iconst (v := (1 : Int32)) hx hb dX11_sign_77 (by decide) ?_
        refine W.eq (g2 := F0 m 78 ls [.int (if (h63 70 10) = 0 then (1 : Int32) else (0 : Int32)), .int (h63 70 9), .ref (ra G 70)]) ?_ (HJ78 ls H locs (lv_sub hl [1] rfl) hw)
        simp only [if_pos c70]
      · skip
        refine lv_iconst (v := (0 : Int32)) hx hb dX11_sign_73 (by decide) ?_
        refine lv_goto (tgt := 78) hx hb dX11_sign_74 (by decide) ?_
        refine W.eq (g2 := F0 m 78 ls [.int (if (h63 70 10) = 0 then (1 : Int32) else (0 : Int32)), .int (h63 70 9), .ref (ra G 70)]) ?_ (HJ78 ls H locs (lv_sub hl [1] rfl) hw)
        simp only [if_neg c70]
    refine lv_if_ne (tgt := 53) hx hb dX11_sign_30 (by decide) (fun c30 => ?_) (fun c30 => ?_)
    · skip
      refine lv_iconst (v := (1 : Int32)) hx hb dX11_sign_53 (by decide) ?_
      refine lv_goto (tgt := 58) hx hb dX11_sign_54 (by decide) ?_
      refine W.eq (g2 := F0 m 58 ls [.int (if (h 70 10) = 0 then (if (h 70 7) ≤ (h 70 9) then (1 : Int32) else (if (f_X11_in j8 x1 x2 h) = 0 then (1 : Int32) else (0 : Int32))) else (1 : Int32)), .ref (ra G 70)]) ?_ (HJ58 ls H locs (lv_sub hl [1, 0] rfl) hw)
      simp only [if_neg c30]
    · skip
      refine lv_aload_n hx hb dX11_sign_33 rfl (lv_at hl 1 rfl) ?_
      refine z_geti (o := 70) (C := RX11) (T := TX11) (N := 11) (ci := 9) (k := 9) hx hb Z hw (by decide) (by omega) rfl inX11 (by decide) wd884 dX11_sign_34 ?_
      refine lv_aload_n hx hb dX11_sign_37 rfl (lv_at hl 1 rfl) ?_
      refine z_geti (o := 70) (C := RX11) (T := TX11) (N := 11) (ci := 9) (k := 7) hx hb Z hw (by decide) (by omega) rfl inX11 (by decide) wd882 dX11_sign_38 ?_
      refine lv_icmp_ge (tgt := 53) hx hb dX11_sign_41 (by decide) (fun c41 => ?_) (fun c41 => ?_)
      · skip
        refine lv_iconst (v := (1 : Int32)) hx hb dX11_sign_53 (by decide) ?_
        refine lv_goto (tgt := 58) hx hb dX11_sign_54 (by decide) ?_
        refine W.eq (g2 := F0 m 58 ls [.int (if (h 70 10) = 0 then (if (h 70 7) ≤ (h 70 9) then (1 : Int32) else (if (f_X11_in j8 x1 x2 h) = 0 then (1 : Int32) else (0 : Int32))) else (1 : Int32)), .ref (ra G 70)]) ?_ (HJ58 ls H locs (lv_sub hl [1, 0] rfl) hw)
        simp only [if_pos c30, if_pos c41]
      · skip
        refine lv_iload_n hx hb dX11_sign_44 rfl (lv_at hl 0 rfl) ?_
        refine lv_iload_n hx hb dX11_sign_45 rfl (lv_at hl 2 rfl) ?_
        refine lv_iload_n hx hb dX11_sign_46 rfl (lv_at hl 3 rfl) ?_
        refine z_callSi (As := [.int j8, .int x1, .int x2]) (rest := [.ref (ra G 70)]) (t_X11_in G l hN j8 x1 x2 h) cs_X11_in hx hb hml hl.1 Z hw wd934 rfl rfl (Nat.le_of_ble_eq_true rfl) (by decide) dX11_sign_47 (fun H locs hw => ?_)
        refine lv_if_ne (tgt := 57) hx hb dX11_sign_50 (by decide) (fun c50 => ?_) (fun c50 => ?_)
        · skip
          refine lv_iconst (v := (0 : Int32)) hx hb dX11_sign_57 (by decide) ?_
          refine W.eq (g2 := F0 m 58 ls [.int (if (h 70 10) = 0 then (if (h 70 7) ≤ (h 70 9) then (1 : Int32) else (if (f_X11_in j8 x1 x2 h) = 0 then (1 : Int32) else (0 : Int32))) else (1 : Int32)), .ref (ra G 70)]) ?_ (HJ58 ls H locs (lv_sub hl [1, 0] rfl) hw)
          simp only [if_pos c30, if_neg c41, if_neg c50]
        · skip
          refine lv_iconst (v := (1 : Int32)) hx hb dX11_sign_53 (by decide) ?_
          refine lv_goto (tgt := 58) hx hb dX11_sign_54 (by decide) ?_
          refine W.eq (g2 := F0 m 58 ls [.int (if (h 70 10) = 0 then (if (h 70 7) ≤ (h 70 9) then (1 : Int32) else (if (f_X11_in j8 x1 x2 h) = 0 then (1 : Int32) else (0 : Int32))) else (1 : Int32)), .ref (ra G 70)]) ?_ (HJ58 ls H locs (lv_sub hl [1, 0] rfl) hw)
          simp only [if_pos c30, if_neg c41, if_pos c50]
  have hf := hqj8
  refine lv_icmp_ge (tgt := 23) hx hb dX11_sign_8 (by decide) (fun c8 => ?_) (fun c8 => ?_)
  · have hf := (if_pos c8).symm.trans hf
    refine lv_iconst (v := (0 : Int32)) hx hb dX11_sign_23 (by decide) ?_
    obtain rfl := Option.some.inj hf
    exact HJ24 ls H locs (lv_sub hl [0, 1, 2] rfl) hw
  · have hf := (if_neg c8).symm.trans hf
    refine lv_aload_n hx hb dX11_sign_11 rfl (lv_at hl 0 rfl) ?_
    refine z_getr (o := 70) (o2 := 75) (C := RX11) (T := TX11) (N := 11) (ci := 9) (k := 6) hx hb Z hw (by decide) (by omega) rfl inX11 (by decide) rfl wd881 dX11_sign_12 ?_
    refine lv_aload_n hx hb dX11_sign_15 rfl (lv_at hl 0 rfl) ?_
    refine z_geti (o := 70) (C := RX11) (T := TX11) (N := 11) (ci := 9) (k := 9) hx hb Z hw (by decide) (by omega) rfl inX11 (by decide) wd884 dX11_sign_16 ?_
    obtain ⟨h19, hf⟩ := gd_some hf
    refine y_iald (o := 75) (k := (h 70 9).toNatClampNeg) hx hb Z hw (by decide) (by omega) rfl (inB_vp h19) dX11_sign_19 ?_
    refine lv_goto (tgt := 24) hx hb dX11_sign_20 (by decide) ?_
    obtain rfl := Option.some.inj hf
    exact HJ24 ls H locs (lv_sub hl [0, 1, 2] rfl) hw
