/-! walks (by program) -/
set_option maxHeartbeats 4000000 in
set_option maxRecDepth 100000 in
theorem t_X11_scratches (G : GM) (l : Launch) (hN : 77 ≤ gN G) (x1 : Int32) (x2 : Int32) (x3 : Int32) (x4 : Int32) (h : HP) {r : Int32} {h' : HP} (hf : f_X11_scratches x1 x2 x3 x4 h = some (r, h')) : MC G l yX11_scratches cX11_scratches 6 (some .int) 1 [.ref (ra G 70), .int x1, .int x2, .int x3, .int x4] h h' (some (.int r)) := by
  unfold f_X11_scratches at hf
  refine z_start (by decide) (Nat.le_of_ble_eq_true rfl) ?_
  intro p e s m args below meth c ls hx hb hr hlk hml Z hw hl
  have Z : ZK G s args m RX11 := Z
  have hl : lv_has ls 6 [(0, .ref (ra G 70)), (1, .int x1), (2, .int x2), (3, .int x3), (4, .int x4)] := hl
  obtain ⟨H, hH⟩ : ∃ H, H = s.heap := ⟨_, rfl⟩
  rw [← hH] at hw ⊢
  obtain ⟨locs, hlc⟩ : ∃ locs : List Loc, locs = [] := ⟨_, rfl⟩
  rw [← hlc] at hw ⊢
  refine lv_iload_n hx hb dX11_scratches_0 rfl (lv_at hl 1 rfl) ?_
  refine lv_iconst (v := (0 : Int32)) hx hb dX11_scratches_1 (by decide) ?_
  refine lv_sipush (v := (359 : Int32)) hx hb dX11_scratches_2 (by decide) ?_
  refine z_callSi (As := [.int x1, .int (0 : Int32), .int (359 : Int32)]) (rest := []) (t_X11_in G l hN x1 (0 : Int32) (359 : Int32) h) cs_X11_in hx hb hml hl.1 Z hw wd934 rfl rfl (Nat.le_of_ble_eq_true rfl) (by decide) dX11_scratches_5 (fun H locs hw => ?_)
  refine lv_if_eq (tgt := 43) hx hb dX11_scratches_8 (by decide) (fun c8 => ?_) (fun c8 => ?_)
  · have hf := (if_pos c8).symm.trans hf
    refine lv_bipush (v := (-2 : Int32)) hx hb dX11_scratches_43 (by decide) ?_
    obtain ⟨rfl, rfl⟩ := Prod.mk.inj (Option.some.inj hf)
    exact z_iret hx hb hr hlk hw dX11_scratches_45
  · have hf := (if_neg c8).symm.trans hf
    refine lv_iload_n hx hb dX11_scratches_11 rfl (lv_at hl 2 rfl) ?_
    refine lv_iload_n hx hb dX11_scratches_12 rfl (lv_at hl 1 rfl) ?_
    refine lv_sipush (v := (359 : Int32)) hx hb dX11_scratches_13 (by decide) ?_
    refine z_callSi (As := [.int x2, .int x1, .int (359 : Int32)]) (rest := []) (t_X11_in G l hN x2 x1 (359 : Int32) h) cs_X11_in hx hb hml hl.1 Z hw wd934 rfl rfl (Nat.le_of_ble_eq_true rfl) (by decide) dX11_scratches_16 (fun H locs hw => ?_)
    refine lv_if_eq (tgt := 43) hx hb dX11_scratches_19 (by decide) (fun c19 => ?_) (fun c19 => ?_)
    · have hf := (if_pos c19).symm.trans hf
      refine lv_bipush (v := (-2 : Int32)) hx hb dX11_scratches_43 (by decide) ?_
      obtain ⟨rfl, rfl⟩ := Prod.mk.inj (Option.some.inj hf)
      exact z_iret hx hb hr hlk hw dX11_scratches_45
    · have hf := (if_neg c19).symm.trans hf
      refine lv_iload_n hx hb dX11_scratches_22 rfl (lv_at hl 3 rfl) ?_
      refine lv_iconst (v := (0 : Int32)) hx hb dX11_scratches_23 (by decide) ?_
      refine lv_bipush (v := (29 : Int32)) hx hb dX11_scratches_24 (by decide) ?_
      refine z_callSi (As := [.int x3, .int (0 : Int32), .int (29 : Int32)]) (rest := []) (t_X11_in G l hN x3 (0 : Int32) (29 : Int32) h) cs_X11_in hx hb hml hl.1 Z hw wd934 rfl rfl (Nat.le_of_ble_eq_true rfl) (by decide) dX11_scratches_26 (fun H locs hw => ?_)
      refine lv_if_eq (tgt := 43) hx hb dX11_scratches_29 (by decide) (fun c29 => ?_) (fun c29 => ?_)
      · have hf := (if_pos c29).symm.trans hf
        refine lv_bipush (v := (-2 : Int32)) hx hb dX11_scratches_43 (by decide) ?_
        obtain ⟨rfl, rfl⟩ := Prod.mk.inj (Option.some.inj hf)
        exact z_iret hx hb hr hlk hw dX11_scratches_45
      · have hf := (if_neg c29).symm.trans hf
        refine lv_iload hx hb dX11_scratches_32 (lv_at hl 4 rfl) ?_
        refine lv_iload_n hx hb dX11_scratches_34 rfl (lv_at hl 3 rfl) ?_
        refine lv_bipush (v := (29 : Int32)) hx hb dX11_scratches_35 (by decide) ?_
        refine z_callSi (As := [.int x4, .int x3, .int (29 : Int32)]) (rest := []) (t_X11_in G l hN x4 x3 (29 : Int32) h) cs_X11_in hx hb hml hl.1 Z hw wd934 rfl rfl (Nat.le_of_ble_eq_true rfl) (by decide) dX11_scratches_37 (fun H locs hw => ?_)
        refine lv_if_ne (tgt := 46) hx hb dX11_scratches_40 (by decide) (fun c40 => ?_) (fun c40 => ?_)
        · have hf := (if_neg c40).symm.trans hf
          refine lv_aload_n hx hb dX11_scratches_46 rfl (lv_at hl 0 rfl) ?_
          refine z_getr (o := 70) (o2 := 71) (C := RX11) (T := TX11) (N := 11) (ci := 9) (k := 0) hx hb Z hw (by decide) (by omega) rfl inX11 (by decide) rfl wd875 dX11_scratches_47 ?_
          refine lv_bipush (v := (12 : Int32)) hx hb dX11_scratches_50 (by decide) ?_
          refine y_iald (o := 71) (k := 12) hx hb Z hw (by decide) (by omega) (by decide) (inB_vp (by decide)) dX11_scratches_52 ?_
          refine lv_bipush (v := (8 : Int32)) hx hb dX11_scratches_53 (by decide) ?_
          refine lv_icmp_ne (tgt := 61) hx hb dX11_scratches_55 (by decide) (fun c55 => ?_) (fun c55 => ?_)
          · have hf := (if_neg c55).symm.trans hf
            refine lv_bipush (v := (13 : Int32)) hx hb dX11_scratches_61 (by decide) ?_
            refine lv_iconst (v := (4 : Int32)) hx hb dX11_scratches_63 (by decide) ?_
            refine lv_aload_n hx hb dX11_scratches_64 rfl (lv_at hl 0 rfl) ?_
            refine z_getr (o := 70) (o2 := 71) (C := RX11) (T := TX11) (N := 11) (ci := 9) (k := 0) hx hb Z hw (by decide) (by omega) rfl inX11 (by decide) rfl wd875 dX11_scratches_65 ?_
            refine lv_bipush (v := (12 : Int32)) hx hb dX11_scratches_68 (by decide) ?_
            refine y_iald (o := 71) (k := 12) hx hb Z hw (by decide) (by omega) (by decide) (inB_vp (by decide)) dX11_scratches_70 ?_
            refine lv_imul hx hb dX11_scratches_71 ?_
            refine lv_iadd hx hb dX11_scratches_72 ?_
            refine lv_istore (lv' := [(5, _), (0, _), (1, _), (2, _), (3, _), (4, _)]) hx hb dX11_scratches_73 hl (by decide) rfl (fun ls hl => ?_)
            refine lv_aload_n hx hb dX11_scratches_75 rfl (lv_at hl 1 rfl) ?_
            refine z_getr (o := 70) (o2 := 71) (C := RX11) (T := TX11) (N := 11) (ci := 9) (k := 0) hx hb Z hw (by decide) (by omega) rfl inX11 (by decide) rfl wd875 dX11_scratches_76 ?_
            refine lv_iload hx hb dX11_scratches_79 (lv_at hl 0 rfl) ?_
            refine lv_iload_n hx hb dX11_scratches_81 rfl (lv_at hl 2 rfl) ?_
            obtain ⟨h82, hf⟩ := gd_some hf
            refine y_iast (o := 71) (k := ((13 : Int32) + ((4 : Int32) * (h 71 12))).toNatClampNeg) hx hb Z hw (by decide) (by omega) rfl (inB_vp h82) dX11_scratches_82 (fun H locs hw => ?_)
            refine lv_aload_n hx hb dX11_scratches_83 rfl (lv_at hl 1 rfl) ?_
            obtain ⟨h84, hqh84, hf⟩ := tb_ex hf
            rw [hqh84] at hw
            refine z_getr (o := 70) (o2 := 71) (C := RX11) (T := TX11) (N := 11) (ci := 9) (k := 0) hx hb Z hw (by decide) (by omega) rfl inX11 (by decide) rfl wd875 dX11_scratches_84 ?_
            refine lv_iload hx hb dX11_scratches_87 (lv_at hl 0 rfl) ?_
            refine lv_iconst (v := (1 : Int32)) hx hb dX11_scratches_89 (by decide) ?_
            refine lv_iadd hx hb dX11_scratches_90 ?_
            refine lv_iload_n hx hb dX11_scratches_91 rfl (lv_at hl 3 rfl) ?_
            obtain ⟨h92, hf⟩ := gd_some hf
            refine y_iast (o := 71) (k := (((13 : Int32) + ((4 : Int32) * (h 71 12))) + (1 : Int32)).toNatClampNeg) hx hb Z hw (by decide) (by omega) rfl (inB_vp h92) dX11_scratches_92 (fun H locs hw => ?_)
            refine lv_aload_n hx hb dX11_scratches_93 rfl (lv_at hl 1 rfl) ?_
            obtain ⟨h94, hqh94, hf⟩ := tb_ex hf
            rw [hqh94] at hw
            refine z_getr (o := 70) (o2 := 71) (C := RX11) (T := TX11) (N := 11) (ci := 9) (k := 0) hx hb Z hw (by decide) (by omega) rfl inX11 (by decide) rfl wd875 dX11_scratches_94 ?_
            refine lv_iload hx hb dX11_scratches_97 (lv_at hl 0 rfl) ?_
            refine lv_iconst (v := (2 : Int32)) hx hb dX11_scratches_99 (by decide) ?_
            refine lv_iadd hx hb dX11_scratches_100 ?_
            refine lv_iload_n hx hb dX11_scratches_101 rfl (lv_at hl 4 rfl) ?_
            obtain ⟨h102, hf⟩ := gd_some hf
            refine y_iast (o := 71) (k := (((13 : Int32) + ((4 : Int32) * (h 71 12))) + (2 : Int32)).toNatClampNeg) hx hb Z hw (by decide) (by omega) rfl (inB_vp h102) dX11_scratches_102 (fun H locs hw => ?_)
            refine lv_aload_n hx hb dX11_scratches_103 rfl (lv_at hl 1 rfl) ?_
            obtain ⟨h104, hqh104, hf⟩ := tb_ex hf
            rw [hqh104] at hw
            refine z_getr (o := 70) (o2 := 71) (C := RX11) (T := TX11) (N := 11) (ci := 9) (k := 0) hx hb Z hw (by decide) (by omega) rfl inX11 (by decide) rfl wd875 dX11_scratches_104 ?_
            refine lv_iload hx hb dX11_scratches_107 (lv_at hl 0 rfl) ?_
            refine lv_iconst (v := (3 : Int32)) hx hb dX11_scratches_109 (by decide) ?_
            refine lv_iadd hx hb dX11_scratches_110 ?_
            refine lv_iload hx hb dX11_scratches_111 (lv_at hl 5 rfl) ?_
            obtain ⟨h113, hf⟩ := gd_some hf
            refine y_iast (o := 71) (k := (((13 : Int32) + ((4 : Int32) * (h 71 12))) + (3 : Int32)).toNatClampNeg) hx hb Z hw (by decide) (by omega) rfl (inB_vp h113) dX11_scratches_113 (fun H locs hw => ?_)
            refine lv_aload_n hx hb dX11_scratches_114 rfl (lv_at hl 1 rfl) ?_
            obtain ⟨h115, hqh115, hf⟩ := tb_ex hf
            rw [hqh115] at hw
            refine z_getr (o := 70) (o2 := 71) (C := RX11) (T := TX11) (N := 11) (ci := 9) (k := 0) hx hb Z hw (by decide) (by omega) rfl inX11 (by decide) rfl wd875 dX11_scratches_115 ?_
            refine lv_bipush (v := (12 : Int32)) hx hb dX11_scratches_118 (by decide) ?_
            refine lv_dup2_11 hx hb dX11_scratches_120 rfl rfl ?_
            refine y_iald (o := 71) (k := 12) hx hb Z hw (by decide) (by omega) (by decide) (inB_vp (by decide)) dX11_scratches_121 ?_
            refine lv_iconst (v := (1 : Int32)) hx hb dX11_scratches_122 (by decide) ?_
            refine lv_iadd hx hb dX11_scratches_123 ?_
            refine y_iast (o := 71) (k := 12) hx hb Z hw (by decide) (by omega) (by decide) (inB_vp (by decide)) dX11_scratches_124 (fun H locs hw => ?_)
            refine lv_iconst (v := (0 : Int32)) hx hb dX11_scratches_125 (by decide) ?_
            obtain ⟨rfl, rfl⟩ := Prod.mk.inj (Option.some.inj hf)
            exact z_iret hx hb hr hlk hw dX11_scratches_126
          · have hf := (if_pos c55).symm.trans hf
            refine lv_bipush (v := (-3 : Int32)) hx hb dX11_scratches_58 (by decide) ?_
            obtain ⟨rfl, rfl⟩ := Prod.mk.inj (Option.some.inj hf)
            exact z_iret hx hb hr hlk hw dX11_scratches_60
        · have hf := (if_pos c40).symm.trans hf
          refine lv_bipush (v := (-2 : Int32)) hx hb dX11_scratches_43 (by decide) ?_
          obtain ⟨rfl, rfl⟩ := Prod.mk.inj (Option.some.inj hf)
          exact z_iret hx hb hr hlk hw dX11_scratches_45
set_option maxHeartbeats 4000000 in
set_option maxRecDepth 100000 in
theorem w_X11_polishes_L37 (G : GM) (l : Launch) (hN : 77 ≤ gN G)  {p : Program} {e : Env} {s : State} {m : MethodId} {args : Array Value} {below : List Frame} {meth : Method} {c : Code} (hx : p.tables.exec = Jvm.exec) (hb : c.code = cX11_polishes) (hr : meth.sig.returnType = (some .int)) (hlk : meth.locks = false) (hml : c.maxLocals = 3) (Z : ZK G s args m RX11) : ∀ (n : Nat) (x2 : Int32)  (h : HP)  (rv : Option Value) (hq : HP) (ls : Array Slot) (H : Heap) (locs : List Loc) {q : HP}, lv_has ls 3 [(0, .ref (ra G 70)), (2, .int x2)] → HW G h s H locs → f_X11_polishes_L37 n x2 h = some q → (∀ (ls : Array Slot) (H : Heap) (locs : List Loc), lv_has ls 3 [(0, .ref (ra G 70))] → HW G q s H locs → WZ p l e 1 s m args below meth c G rv hq H locs (F0 m 73 ls [])) → WZ p l e 1 s m args below meth c G rv hq H locs (F0 m 37 ls []) := by
  intro n
  induction n with
  | zero => intro x2  h  rv hq ls H locs q hl hw hf kk; cases hf
  | succ n ih =>
    intro x2  h  rv hq ls H locs q hl hw hf kk
    rw [f_X11_polishes_L37] at hf
    refine lv_iload_n hx hb dX11_polishes_37 rfl (lv_at hl 1 rfl) ?_
    refine lv_bipush (v := (13 : Int32)) hx hb dX11_polishes_38 (by decide) ?_
    refine lv_iconst (v := (4 : Int32)) hx hb dX11_polishes_40 (by decide) ?_
    refine lv_aload_n hx hb dX11_polishes_41 rfl (lv_at hl 0 rfl) ?_
    refine z_getr (o := 70) (o2 := 71) (C := RX11) (T := TX11) (N := 11) (ci := 9) (k := 0) hx hb Z hw (by decide) (by omega) rfl inX11 (by decide) rfl wd875 dX11_polishes_42 ?_
    refine lv_bipush (v := (12 : Int32)) hx hb dX11_polishes_45 (by decide) ?_
    refine y_iald (o := 71) (k := 12) hx hb Z hw (by decide) (by omega) (by decide) (inB_vp (by decide)) dX11_polishes_47 ?_
    refine lv_imul hx hb dX11_polishes_48 ?_
    refine lv_iadd hx hb dX11_polishes_49 ?_
    refine lv_icmp_ge (tgt := 73) hx hb dX11_polishes_50 (by decide) (fun c50 => ?_) (fun c50 => ?_)
    · have hf := (if_pos c50).symm.trans hf
      obtain rfl := Option.some.inj hf
      exact kk ls H locs (lv_sub hl [0] rfl) hw
    · have hf := (if_neg c50).symm.trans hf
      refine lv_aload_n hx hb dX11_polishes_53 rfl (lv_at hl 0 rfl) ?_
      refine z_getr (o := 70) (o2 := 71) (C := RX11) (T := TX11) (N := 11) (ci := 9) (k := 0) hx hb Z hw (by decide) (by omega) rfl inX11 (by decide) rfl wd875 dX11_polishes_54 ?_
      refine lv_iload_n hx hb dX11_polishes_57 rfl (lv_at hl 1 rfl) ?_
      refine lv_aload_n hx hb dX11_polishes_58 rfl (lv_at hl 0 rfl) ?_
      refine z_getr (o := 70) (o2 := 71) (C := RX11) (T := TX11) (N := 11) (ci := 9) (k := 0) hx hb Z hw (by decide) (by omega) rfl inX11 (by decide) rfl wd875 dX11_polishes_59 ?_
      refine lv_iload_n hx hb dX11_polishes_62 rfl (lv_at hl 1 rfl) ?_
      refine lv_iconst (v := (4 : Int32)) hx hb dX11_polishes_63 (by decide) ?_
      refine lv_iadd hx hb dX11_polishes_64 ?_
      obtain ⟨h65, hf⟩ := gd_some hf
      refine y_iald (o := 71) (k := (x2 + (4 : Int32)).toNatClampNeg) hx hb Z hw (by decide) (by omega) rfl (inB_vp h65) dX11_polishes_65 ?_
      obtain ⟨h66, hf⟩ := gd_some hf
      refine y_iast (o := 71) (k := x2.toNatClampNeg) hx hb Z hw (by decide) (by omega) rfl (inB_vp h66) dX11_polishes_66 (fun H locs hw => ?_)
      refine lv_iinc (v := x2 + (1 : Int32)) (lv' := [(2, _), (0, _)]) hx hb dX11_polishes_67 hl (k := 1) rfl rfl (by decide) rfl (fun ls hl => ?_)
      refine lv_goto (tgt := 37) hx hb dX11_polishes_70 (by decide) ?_
      exact ih (x2 + (1 : Int32)) (hset h 71 x2.toNatClampNeg (h 71 (x2 + (4 : Int32)).toNatClampNeg))  rv hq ls H locs (lv_sub hl [1, 0] rfl) hw hf kk
set_option maxHeartbeats 4000000 in
set_option maxRecDepth 100000 in
theorem w_X11_polishes_L75 (G : GM) (l : Launch) (hN : 77 ≤ gN G)  {p : Program} {e : Env} {s : State} {m : MethodId} {args : Array Value} {below : List Frame} {meth : Method} {c : Code} (hx : p.tables.exec = Jvm.exec) (hb : c.code = cX11_polishes) (hr : meth.sig.returnType = (some .int)) (hlk : meth.locks = false) (hml : c.maxLocals = 3) (Z : ZK G s args m RX11) : ∀ (n : Nat) (x2 : Int32)  (h : HP)  (rv : Option Value) (hq : HP) (ls : Array Slot) (H : Heap) (locs : List Loc) {q : HP}, lv_has ls 3 [(0, .ref (ra G 70)), (2, .int x2)] → HW G h s H locs → f_X11_polishes_L75 n x2 h = some q → (∀ (ls : Array Slot) (H : Heap) (locs : List Loc), lv_has ls 3 [] → HW G q s H locs → WZ p l e 1 s m args below meth c G rv hq H locs (F0 m 106 ls [])) → WZ p l e 1 s m args below meth c G rv hq H locs (F0 m 75 ls []) := by
  intro n
  induction n with
  | zero => intro x2  h  rv hq ls H locs q hl hw hf kk; cases hf
  | succ n ih =>
    intro x2  h  rv hq ls H locs q hl hw hf kk
    rw [f_X11_polishes_L75] at hf
    refine lv_iload_n hx hb dX11_polishes_75 rfl (lv_at hl 1 rfl) ?_
    refine lv_iconst (v := (4 : Int32)) hx hb dX11_polishes_76 (by decide) ?_
    refine lv_icmp_ge (tgt := 106) hx hb dX11_polishes_77 (by decide) (fun c77 => ?_) (fun c77 => ?_)
    · have hf := (if_pos c77).symm.trans hf
      obtain rfl := Option.some.inj hf
      exact kk ls H locs (lv_sub hl [] rfl) hw
    · have hf := (if_neg c77).symm.trans hf
      refine lv_aload_n hx hb dX11_polishes_80 rfl (lv_at hl 0 rfl) ?_
      refine z_getr (o := 70) (o2 := 71) (C := RX11) (T := TX11) (N := 11) (ci := 9) (k := 0) hx hb Z hw (by decide) (by omega) rfl inX11 (by decide) rfl wd875 dX11_polishes_81 ?_
      refine lv_bipush (v := (13 : Int32)) hx hb dX11_polishes_84 (by decide) ?_
      refine lv_iconst (v := (4 : Int32)) hx hb dX11_polishes_86 (by decide) ?_
      refine lv_aload_n hx hb dX11_polishes_87 rfl (lv_at hl 0 rfl) ?_
      refine z_getr (o := 70) (o2 := 71) (C := RX11) (T := TX11) (N := 11) (ci := 9) (k := 0) hx hb Z hw (by decide) (by omega) rfl inX11 (by decide) rfl wd875 dX11_polishes_88 ?_
      refine lv_bipush (v := (12 : Int32)) hx hb dX11_polishes_91 (by decide) ?_
      refine y_iald (o := 71) (k := 12) hx hb Z hw (by decide) (by omega) (by decide) (inB_vp (by decide)) dX11_polishes_93 ?_
      refine lv_imul hx hb dX11_polishes_94 ?_
      refine lv_iadd hx hb dX11_polishes_95 ?_
      refine lv_iload_n hx hb dX11_polishes_96 rfl (lv_at hl 1 rfl) ?_
      refine lv_iadd hx hb dX11_polishes_97 ?_
      refine lv_iconst (v := (0 : Int32)) hx hb dX11_polishes_98 (by decide) ?_
      obtain ⟨h99, hf⟩ := gd_some hf
      refine y_iast (o := 71) (k := (((13 : Int32) + ((4 : Int32) * (h 71 12))) + x2).toNatClampNeg) hx hb Z hw (by decide) (by omega) rfl (inB_vp h99) dX11_polishes_99 (fun H locs hw => ?_)
      refine lv_iinc (v := x2 + (1 : Int32)) (lv' := [(2, _), (0, _)]) hx hb dX11_polishes_100 hl (k := 1) rfl rfl (by decide) rfl (fun ls hl => ?_)
      refine lv_goto (tgt := 75) hx hb dX11_polishes_103 (by decide) ?_
      exact ih (x2 + (1 : Int32)) (hset h 71 (((13 : Int32) + ((4 : Int32) * (h 71 12))) + x2).toNatClampNeg (0 : Int32))  rv hq ls H locs (lv_sub hl [1, 0] rfl) hw hf kk
set_option maxHeartbeats 4000000 in
set_option maxRecDepth 100000 in
theorem t_X11_polishes (G : GM) (l : Launch) (hN : 77 ≤ gN G) (x1 : Int32) (h : HP) {r : Int32} {h' : HP} (hf : f_X11_polishes x1 h = some (r, h')) : MC G l yX11_polishes cX11_polishes 3 (some .int) 1 [.ref (ra G 70), .int x1] h h' (some (.int r)) := by
  unfold f_X11_polishes at hf
  refine z_start (by decide) (Nat.le_of_ble_eq_true rfl) ?_
  intro p e s m args below meth c ls hx hb hr hlk hml Z hw hl
  have Z : ZK G s args m RX11 := Z
  have hl : lv_has ls 3 [(0, .ref (ra G 70)), (1, .int x1)] := hl
  obtain ⟨H, hH⟩ : ∃ H, H = s.heap := ⟨_, rfl⟩
  rw [← hH] at hw ⊢
  obtain ⟨locs, hlc⟩ : ∃ locs : List Loc, locs = [] := ⟨_, rfl⟩
  rw [← hlc] at hw ⊢
  refine lv_iload_n hx hb dX11_polishes_0 rfl (lv_at hl 1 rfl) ?_
  refine lv_iconst (v := (0 : Int32)) hx hb dX11_polishes_1 (by decide) ?_
  refine lv_aload_n hx hb dX11_polishes_2 rfl (lv_at hl 0 rfl) ?_
  refine z_getr (o := 70) (o2 := 71) (C := RX11) (T := TX11) (N := 11) (ci := 9) (k := 0) hx hb Z hw (by decide) (by omega) rfl inX11 (by decide) rfl wd875 dX11_polishes_3 ?_
  refine lv_bipush (v := (12 : Int32)) hx hb dX11_polishes_6 (by decide) ?_
  refine y_iald (o := 71) (k := 12) hx hb Z hw (by decide) (by omega) (by decide) (inB_vp (by decide)) dX11_polishes_8 ?_
  refine lv_iconst (v := (1 : Int32)) hx hb dX11_polishes_9 (by decide) ?_
  refine lv_isub hx hb dX11_polishes_10 ?_
  refine z_callSi (As := [.int x1, .int (0 : Int32), .int ((h 71 12) - (1 : Int32))]) (rest := []) (t_X11_in G l hN x1 (0 : Int32) ((h 71 12) - (1 : Int32)) h) cs_X11_in hx hb hml hl.1 Z hw wd934 rfl rfl (Nat.le_of_ble_eq_true rfl) (by decide) dX11_polishes_11 (fun H locs hw => ?_)
  refine lv_if_ne (tgt := 19) hx hb dX11_polishes_14 (by decide) (fun c14 => ?_) (fun c14 => ?_)
  · have hf := (if_neg c14).symm.trans hf
    refine lv_aload_n hx hb dX11_polishes_19 rfl (lv_at hl 0 rfl) ?_
    refine z_getr (o := 70) (o2 := 71) (C := RX11) (T := TX11) (N := 11) (ci := 9) (k := 0) hx hb Z hw (by decide) (by omega) rfl inX11 (by decide) rfl wd875 dX11_polishes_20 ?_
    refine lv_bipush (v := (12 : Int32)) hx hb dX11_polishes_23 (by decide) ?_
    refine lv_dup2_11 hx hb dX11_polishes_25 rfl rfl ?_
    refine y_iald (o := 71) (k := 12) hx hb Z hw (by decide) (by omega) (by decide) (inB_vp (by decide)) dX11_polishes_26 ?_
    refine lv_iconst (v := (1 : Int32)) hx hb dX11_polishes_27 (by decide) ?_
    refine lv_isub hx hb dX11_polishes_28 ?_
    refine y_iast (o := 71) (k := 12) hx hb Z hw (by decide) (by omega) (by decide) (inB_vp (by decide)) dX11_polishes_29 (fun H locs hw => ?_)
    refine lv_bipush (v := (13 : Int32)) hx hb dX11_polishes_30 (by decide) ?_
    refine lv_iconst (v := (4 : Int32)) hx hb dX11_polishes_32 (by decide) ?_
    refine lv_iload_n hx hb dX11_polishes_33 rfl (lv_at hl 1 rfl) ?_
    refine lv_imul hx hb dX11_polishes_34 ?_
    refine lv_iadd hx hb dX11_polishes_35 ?_
    refine lv_istore_n (lv' := [(2, _), (0, _), (1, _)]) hx hb dX11_polishes_36 rfl hl (by decide) rfl (fun ls hl => ?_)
    obtain ⟨q37, hq37, hf⟩ := ob_some hf
    refine w_X11_polishes_L37 G l hN  hx hb hr hlk hml Z FU ((13 : Int32) + ((4 : Int32) * x1)) (hset h 71 12 ((h 71 12) - (1 : Int32)))  _ _ ls H locs (lv_sub hl [1, 0] rfl) hw hq37 (fun ls H locs hl hw => ?_)
    refine lv_iconst (v := (0 : Int32)) hx hb dX11_polishes_73 (by decide) ?_
    refine lv_istore_n (lv' := [(2, _), (0, _)]) hx hb dX11_polishes_74 rfl hl (by decide) rfl (fun ls hl => ?_)
    obtain ⟨q75, hq75, hf⟩ := ob_some hf
    refine w_X11_polishes_L75 G l hN  hx hb hr hlk hml Z FU (0 : Int32) q37  _ _ ls H locs (lv_sub hl [1, 0] rfl) hw hq75 (fun ls H locs hl hw => ?_)
    refine lv_iconst (v := (0 : Int32)) hx hb dX11_polishes_106 (by decide) ?_
    obtain ⟨rfl, rfl⟩ := Prod.mk.inj (Option.some.inj hf)
    exact z_iret hx hb hr hlk hw dX11_polishes_107
  · have hf := (if_pos c14).symm.trans hf
    refine lv_iconst (v := (-1 : Int32)) hx hb dX11_polishes_17 (by decide) ?_
    obtain ⟨rfl, rfl⟩ := Prod.mk.inj (Option.some.inj hf)
    exact z_iret hx hb hr hlk hw dX11_polishes_18
set_option maxHeartbeats 4000000 in
set_option maxRecDepth 100000 in
theorem t_X11_press (G : GM) (l : Launch) (hN : 77 ≤ gN G) (x1 : Int32) (x2 : Int32) (x3 : Int32) (h : HP) {r : Int32} {h' : HP} (hf : f_X11_press x1 x2 x3 h = some (r, h')) : MC G l yX11_press cX11_press 4 (some .int) 4 [.ref (ra G 70), .int x1, .int x2, .int x3] h h' (some (.int r)) := by
  unfold f_X11_press at hf
  refine z_start (by decide) (Nat.le_of_ble_eq_true rfl) ?_
  intro p e s m args below meth c ls hx hb hr hlk hml Z hw hl
  have Z : ZK G s args m RX11 := Z
  have hl : lv_has ls 4 [(0, .ref (ra G 70)), (1, .int x1), (2, .int x2), (3, .int x3)] := hl
  obtain ⟨H, hH⟩ : ∃ H, H = s.heap := ⟨_, rfl⟩
  rw [← hH] at hw ⊢
  obtain ⟨locs, hlc⟩ : ∃ locs : List Loc, locs = [] := ⟨_, rfl⟩
  rw [← hlc] at hw ⊢
  refine lv_aload_n hx hb dX11_press_0 rfl (lv_at hl 0 rfl) ?_
  obtain ⟨q1, hq1, hf⟩ := ob_some hf
  refine z_callVv (o := 70) (ci := 9) (As := []) (rest := []) (t_X11_putAside G l hN  h hq1) cv_X11_putAside hx hb hml hl.1 Z hw (by decide) (by decide) (by omega) rfl rfl wd914 rfl rfl (Nat.le_of_ble_eq_true rfl) (by decide) dX11_press_1 (fun H locs hw => ?_)
  refine lv_aload_n hx hb dX11_press_4 rfl (lv_at hl 0 rfl) ?_
  refine lv_aload_n hx hb dX11_press_5 rfl (lv_at hl 0 rfl) ?_
  refine lv_iload_n hx hb dX11_press_6 rfl (lv_at hl 1 rfl) ?_
  refine lv_iload_n hx hb dX11_press_7 rfl (lv_at hl 2 rfl) ?_
  refine lv_iload_n hx hb dX11_press_8 rfl (lv_at hl 3 rfl) ?_
  obtain ⟨q9, hq9, hf⟩ := ob_some hf
  refine z_callVi (o := 70) (ci := 9) (As := [.int x1, .int x2, .int x3]) (rest := [.ref (ra G 70)]) (t_X11_presses G l hN x1 x2 x3 q1 hq9) cv_X11_presses hx hb hml hl.1 Z hw (by decide) (by decide) (by omega) rfl rfl wd918 rfl rfl (Nat.le_of_ble_eq_true rfl) (by decide) dX11_press_9 (fun H locs hw => ?_)
  obtain ⟨q12, hq12, hf⟩ := ob_some hf
  refine z_callVi (o := 70) (ci := 9) (As := [.int q9.1]) (rest := []) (t_X11_act G l hN q9.1 q9.2 hq12) cv_X11_act hx hb hml hl.1 Z hw (by decide) (by decide) (by omega) rfl rfl wd951 rfl rfl (Nat.le_of_ble_eq_true rfl) (by decide) dX11_press_12 (fun H locs hw => ?_)
  obtain ⟨rfl, rfl⟩ := Prod.mk.inj (Option.some.inj hf)
  exact z_iret hx hb hr hlk hw dX11_press_15
set_option maxHeartbeats 4000000 in
set_option maxRecDepth 100000 in
theorem t_X11_scratch (G : GM) (l : Launch) (hN : 77 ≤ gN G) (x1 : Int32) (x2 : Int32) (x3 : Int32) (x4 : Int32) (h : HP) {r : Int32} {h' : HP} (hf : f_X11_scratch x1 x2 x3 x4 h = some (r, h')) : MC G l yX11_scratch cX11_scratch 6 (some .int) 4 [.ref (ra G 70), .int x1, .int x2, .int x3, .int x4] h h' (some (.int r)) := by
  unfold f_X11_scratch at hf
  refine z_start (by decide) (Nat.le_of_ble_eq_true rfl) ?_
  intro p e s m args below meth c ls hx hb hr hlk hml Z hw hl
  have Z : ZK G s args m RX11 := Z
  have hl : lv_has ls 6 [(0, .ref (ra G 70)), (1, .int x1), (2, .int x2), (3, .int x3), (4, .int x4)] := hl
  obtain ⟨H, hH⟩ : ∃ H, H = s.heap := ⟨_, rfl⟩
  rw [← hH] at hw ⊢
  obtain ⟨locs, hlc⟩ : ∃ locs : List Loc, locs = [] := ⟨_, rfl⟩
  rw [← hlc] at hw ⊢
  refine lv_aload_n hx hb dX11_scratch_0 rfl (lv_at hl 0 rfl) ?_
  obtain ⟨q1, hq1, hf⟩ := ob_some hf
  refine z_callVv (o := 70) (ci := 9) (As := []) (rest := []) (t_X11_putAside G l hN  h hq1) cv_X11_putAside hx hb hml hl.1 Z hw (by decide) (by decide) (by omega) rfl rfl wd914 rfl rfl (Nat.le_of_ble_eq_true rfl) (by decide) dX11_scratch_1 (fun H locs hw => ?_)
  refine lv_aload_n hx hb dX11_scratch_4 rfl (lv_at hl 0 rfl) ?_
  refine lv_aload_n hx hb dX11_scratch_5 rfl (lv_at hl 0 rfl) ?_
  refine lv_iload_n hx hb dX11_scratch_6 rfl (lv_at hl 1 rfl) ?_
  refine lv_iload_n hx hb dX11_scratch_7 rfl (lv_at hl 2 rfl) ?_
  refine lv_iload_n hx hb dX11_scratch_8 rfl (lv_at hl 3 rfl) ?_
  refine lv_iload hx hb dX11_scratch_9 (lv_at hl 4 rfl) ?_
  obtain ⟨q11, hq11, hf⟩ := ob_some hf
  refine z_callVi (o := 70) (ci := 9) (As := [.int x1, .int x2, .int x3, .int x4]) (rest := [.ref (ra G 70)]) (t_X11_scratches G l hN x1 x2 x3 x4 q1 hq11) cv_X11_scratches hx hb hml hl.1 Z hw (by decide) (by decide) (by omega) rfl rfl wd963 rfl rfl (Nat.le_of_ble_eq_true rfl) (by decide) dX11_scratch_11 (fun H locs hw => ?_)
  obtain ⟨q14, hq14, hf⟩ := ob_some hf
  refine z_callVi (o := 70) (ci := 9) (As := [.int q11.1]) (rest := []) (t_X11_act G l hN q11.1 q11.2 hq14) cv_X11_act hx hb hml hl.1 Z hw (by decide) (by decide) (by omega) rfl rfl wd951 rfl rfl (Nat.le_of_ble_eq_true rfl) (by decide) dX11_scratch_14 (fun H locs hw => ?_)
  refine lv_istore (lv' := [(5, _), (0, _), (1, _), (2, _), (3, _), (4, _)]) hx hb dX11_scratch_17 hl (by decide) rfl (fun ls hl => ?_)
  refine lv_iload hx hb dX11_scratch_19 (lv_at hl 0 rfl) ?_
  refine lv_if_ge (tgt := 29) hx hb dX11_scratch_21 (by decide) (fun c21 => ?_) (fun c21 => ?_)
  · have hf := (if_pos c21).symm.trans hf
    refine lv_aload_n hx hb dX11_scratch_29 rfl (lv_at hl 1 rfl) ?_
    obtain ⟨q30, hq30, hf⟩ := ob_some hf
    refine z_callVi (o := 70) (ci := 9) (As := []) (rest := []) (t_X11_damaged G l hN  q14.2 hq30) cv_X11_damaged hx hb hml hl.1 Z hw (by decide) (by decide) (by omega) rfl rfl wd967 rfl rfl (Nat.le_of_ble_eq_true rfl) (by decide) dX11_scratch_30 (fun H locs hw => ?_)
    obtain ⟨rfl, rfl⟩ := Prod.mk.inj (Option.some.inj hf)
    exact z_iret hx hb hr hlk hw dX11_scratch_33
  · have hf := (if_neg c21).symm.trans hf
    refine lv_iload hx hb dX11_scratch_24 (lv_at hl 0 rfl) ?_
    refine lv_goto (tgt := 33) hx hb dX11_scratch_26 (by decide) ?_
    obtain ⟨rfl, rfl⟩ := Prod.mk.inj (Option.some.inj hf)
    exact z_iret hx hb hr hlk hw dX11_scratch_33
set_option maxHeartbeats 4000000 in
set_option maxRecDepth 100000 in
theorem t_X11_polish (G : GM) (l : Launch) (hN : 77 ≤ gN G) (x1 : Int32) (h : HP) {r : Int32} {h' : HP} (hf : f_X11_polish x1 h = some (r, h')) : MC G l yX11_polish cX11_polish 3 (some .int) 4 [.ref (ra G 70), .int x1] h h' (some (.int r)) := by
  unfold f_X11_polish at hf
  refine z_start (by decide) (Nat.le_of_ble_eq_true rfl) ?_
  intro p e s m args below meth c ls hx hb hr hlk hml Z hw hl
  have Z : ZK G s args m RX11 := Z
  have hl : lv_has ls 3 [(0, .ref (ra G 70)), (1, .int x1)] := hl
  obtain ⟨H, hH⟩ : ∃ H, H = s.heap := ⟨_, rfl⟩
  rw [← hH] at hw ⊢
  obtain ⟨locs, hlc⟩ : ∃ locs : List Loc, locs = [] := ⟨_, rfl⟩
  rw [← hlc] at hw ⊢
  refine lv_aload_n hx hb dX11_polish_0 rfl (lv_at hl 0 rfl) ?_
  obtain ⟨q1, hq1, hf⟩ := ob_some hf
  refine z_callVv (o := 70) (ci := 9) (As := []) (rest := []) (t_X11_putAside G l hN  h hq1) cv_X11_putAside hx hb hml hl.1 Z hw (by decide) (by decide) (by omega) rfl rfl wd914 rfl rfl (Nat.le_of_ble_eq_true rfl) (by decide) dX11_polish_1 (fun H locs hw => ?_)
  refine lv_aload_n hx hb dX11_polish_4 rfl (lv_at hl 0 rfl) ?_
  refine lv_aload_n hx hb dX11_polish_5 rfl (lv_at hl 0 rfl) ?_
  refine lv_iload_n hx hb dX11_polish_6 rfl (lv_at hl 1 rfl) ?_
  obtain ⟨q7, hq7, hf⟩ := ob_some hf
  refine z_callVi (o := 70) (ci := 9) (As := [.int x1]) (rest := [.ref (ra G 70)]) (t_X11_polishes G l hN x1 q1 hq7) cv_X11_polishes hx hb hml hl.1 Z hw (by decide) (by decide) (by omega) rfl rfl wd987 rfl rfl (Nat.le_of_ble_eq_true rfl) (by decide) dX11_polish_7 (fun H locs hw => ?_)
  obtain ⟨q10, hq10, hf⟩ := ob_some hf
  refine z_callVi (o := 70) (ci := 9) (As := [.int q7.1]) (rest := []) (t_X11_act G l hN q7.1 q7.2 hq10) cv_X11_act hx hb hml hl.1 Z hw (by decide) (by decide) (by omega) rfl rfl wd951 rfl rfl (Nat.le_of_ble_eq_true rfl) (by decide) dX11_polish_10 (fun H locs hw => ?_)
  refine lv_istore_n (lv' := [(2, _), (0, _), (1, _)]) hx hb dX11_polish_13 rfl hl (by decide) rfl (fun ls hl => ?_)
  refine lv_iload_n hx hb dX11_polish_14 rfl (lv_at hl 0 rfl) ?_
  refine lv_if_ge (tgt := 22) hx hb dX11_polish_15 (by decide) (fun c15 => ?_) (fun c15 => ?_)
  · have hf := (if_pos c15).symm.trans hf
    refine lv_aload_n hx hb dX11_polish_22 rfl (lv_at hl 1 rfl) ?_
    obtain ⟨q23, hq23, hf⟩ := ob_some hf
    refine z_callVi (o := 70) (ci := 9) (As := []) (rest := []) (t_X11_damaged G l hN  q10.2 hq23) cv_X11_damaged hx hb hml hl.1 Z hw (by decide) (by decide) (by omega) rfl rfl wd967 rfl rfl (Nat.le_of_ble_eq_true rfl) (by decide) dX11_polish_23 (fun H locs hw => ?_)
    obtain ⟨rfl, rfl⟩ := Prod.mk.inj (Option.some.inj hf)
    exact z_iret hx hb hr hlk hw dX11_polish_26
  · have hf := (if_neg c15).symm.trans hf
    refine lv_iload_n hx hb dX11_polish_18 rfl (lv_at hl 0 rfl) ?_
    refine lv_goto (tgt := 26) hx hb dX11_polish_19 (by decide) ?_
    obtain ⟨rfl, rfl⟩ := Prod.mk.inj (Option.some.inj hf)
    exact z_iret hx hb hr hlk hw dX11_polish_26
set_option maxHeartbeats 4000000 in
set_option maxRecDepth 100000 in
theorem t_X11_low (G : GM) (l : Launch) (hN : 77 ≤ gN G) (x0 : Int32) (h : HP) : MC G l yX11_low cX11_low 1 (some .int) 0 [.int x0] h h (some (.int (f_X11_low x0 h))) := by
  generalize hf : f_X11_low x0 h = r
  unfold f_X11_low at hf
  refine z_start (by decide) (Nat.le_of_ble_eq_true rfl) ?_
  intro p e s m args below meth c ls hx hb hr hlk hml Z hw hl
  have Z : ZK G s args m RX11 := Z
  have hl : lv_has ls 1 [(0, .int x0)] := hl
  obtain ⟨H, hH⟩ : ∃ H, H = s.heap := ⟨_, rfl⟩
  rw [← hH] at hw ⊢
  obtain ⟨locs, hlc⟩ : ∃ locs : List Loc, locs = [] := ⟨_, rfl⟩
  rw [← hlc] at hw ⊢
  refine lv_iload_n hx hb dX11_low_0 rfl (lv_at hl 0 rfl) ?_
  refine lv_if_ne (tgt := 9) hx hb dX11_low_1 (by decide) (fun c1 => ?_) (fun c1 => ?_)
  · have hf := (if_neg c1).symm.trans hf
    refine lv_iload_n hx hb dX11_low_9 rfl (lv_at hl 0 rfl) ?_
    refine lv_iconst (v := (2 : Int32)) hx hb dX11_low_10 (by decide) ?_
    refine lv_icmp_ne (tgt := 18) hx hb dX11_low_11 (by decide) (fun c11 => ?_) (fun c11 => ?_)
    · have hf := (if_neg c11).symm.trans hf
      refine lv_iload_n hx hb dX11_low_18 rfl (lv_at hl 0 rfl) ?_
      refine lv_iconst (v := (4 : Int32)) hx hb dX11_low_19 (by decide) ?_
      refine lv_icmp_ne (tgt := 28) hx hb dX11_low_20 (by decide) (fun c20 => ?_) (fun c20 => ?_)
      · have hf := (if_neg c20).symm.trans hf
        refine lv_iconst (v := (0 : Int32)) hx hb dX11_low_28 (by decide) ?_
        obtain rfl := hf
        exact z_iret hx hb hr hlk hw dX11_low_29
      · have hf := (if_pos c20).symm.trans hf
        refine lv_bipush (v := (60 : Int32)) hx hb dX11_low_23 (by decide) ?_
        refine lv_goto (tgt := 29) hx hb dX11_low_25 (by decide) ?_
        obtain rfl := hf
        exact z_iret hx hb hr hlk hw dX11_low_29
    · have hf := (if_pos c11).symm.trans hf
      refine lv_iconst (v := (1 : Int32)) hx hb dX11_low_14 (by decide) ?_
      refine lv_goto (tgt := 29) hx hb dX11_low_15 (by decide) ?_
      obtain rfl := hf
      exact z_iret hx hb hr hlk hw dX11_low_29
  · have hf := (if_pos c1).symm.trans hf
    refine lv_bipush (v := (8 : Int32)) hx hb dX11_low_4 (by decide) ?_
    refine lv_goto (tgt := 29) hx hb dX11_low_6 (by decide) ?_
    obtain rfl := hf
    exact z_iret hx hb hr hlk hw dX11_low_29
set_option maxHeartbeats 4000000 in
set_option maxRecDepth 100000 in
theorem t_X11_high (G : GM) (l : Launch) (hN : 77 ≤ gN G) (x0 : Int32) (h : HP) : MC G l yX11_high cX11_high 1 (some .int) 0 [.int x0] h h (some (.int (f_X11_high x0 h))) := by
  generalize hf : f_X11_high x0 h = r
  unfold f_X11_high at hf
  refine z_start (by decide) (Nat.le_of_ble_eq_true rfl) ?_
  intro p e s m args below meth c ls hx hb hr hlk hml Z hw hl
  have Z : ZK G s args m RX11 := Z
  have hl : lv_has ls 1 [(0, .int x0)] := hl
  obtain ⟨H, hH⟩ : ∃ H, H = s.heap := ⟨_, rfl⟩
  rw [← hH] at hw ⊢
  obtain ⟨locs, hlc⟩ : ∃ locs : List Loc, locs = [] := ⟨_, rfl⟩
  rw [← hlc] at hw ⊢
  refine lv_iload_n hx hb dX11_high_0 rfl (lv_at hl 0 rfl) ?_
  refine lv_if_ne (tgt := 9) hx hb dX11_high_1 (by decide) (fun c1 => ?_) (fun c1 => ?_)
  · have hf := (if_neg c1).symm.trans hf
    refine lv_iload_n hx hb dX11_high_9 rfl (lv_at hl 0 rfl) ?_
    refine lv_iconst (v := (1 : Int32)) hx hb dX11_high_10 (by decide) ?_
    refine lv_icmp_ne (tgt := 19) hx hb dX11_high_11 (by decide) (fun c11 => ?_) (fun c11 => ?_)
    · have hf := (if_neg c11).symm.trans hf
      refine lv_iload_n hx hb dX11_high_19 rfl (lv_at hl 0 rfl) ?_
      refine lv_iconst (v := (2 : Int32)) hx hb dX11_high_20 (by decide) ?_
      refine lv_icmp_ne (tgt := 29) hx hb dX11_high_21 (by decide) (fun c21 => ?_) (fun c21 => ?_)
      · have hf := (if_neg c21).symm.trans hf
        refine lv_iload_n hx hb dX11_high_29 rfl (lv_at hl 0 rfl) ?_
        refine lv_iconst (v := (3 : Int32)) hx hb dX11_high_30 (by decide) ?_
        refine lv_icmp_ne (tgt := 38) hx hb dX11_high_31 (by decide) (fun c31 => ?_) (fun c31 => ?_)
        · have hf := (if_neg c31).symm.trans hf
          refine lv_iload_n hx hb dX11_high_38 rfl (lv_at hl 0 rfl) ?_
          refine lv_iconst (v := (4 : Int32)) hx hb dX11_high_39 (by decide) ?_
          refine lv_icmp_ne (tgt := 49) hx hb dX11_high_40 (by decide) (fun c40 => ?_) (fun c40 => ?_)
          · have hf := (if_neg c40).symm.trans hf
            refine lv_bipush (v := (20 : Int32)) hx hb dX11_high_49 (by decide) ?_
            obtain rfl := hf
            exact z_iret hx hb hr hlk hw dX11_high_51
          · have hf := (if_pos c40).symm.trans hf
            refine lv_sipush (v := (140 : Int32)) hx hb dX11_high_43 (by decide) ?_
            refine lv_goto (tgt := 51) hx hb dX11_high_46 (by decide) ?_
            obtain rfl := hf
            exact z_iret hx hb hr hlk hw dX11_high_51
        · have hf := (if_pos c31).symm.trans hf
          refine lv_iconst (v := (5 : Int32)) hx hb dX11_high_34 (by decide) ?_
          refine lv_goto (tgt := 51) hx hb dX11_high_35 (by decide) ?_
          obtain rfl := hf
          exact z_iret hx hb hr hlk hw dX11_high_51
      · have hf := (if_pos c21).symm.trans hf
        refine lv_bipush (v := (9 : Int32)) hx hb dX11_high_24 (by decide) ?_
        refine lv_goto (tgt := 51) hx hb dX11_high_26 (by decide) ?_
        obtain rfl := hf
        exact z_iret hx hb hr hlk hw dX11_high_51
    · have hf := (if_pos c11).symm.trans hf
      refine lv_bipush (v := (6 : Int32)) hx hb dX11_high_14 (by decide) ?_
      refine lv_goto (tgt := 51) hx hb dX11_high_16 (by decide) ?_
      obtain rfl := hf
      exact z_iret hx hb hr hlk hw dX11_high_51
  · have hf := (if_pos c1).symm.trans hf
    refine lv_bipush (v := (40 : Int32)) hx hb dX11_high_4 (by decide) ?_
    refine lv_goto (tgt := 51) hx hb dX11_high_6 (by decide) ?_
    obtain rfl := hf
    exact z_iret hx hb hr hlk hw dX11_high_51
set_option maxHeartbeats 4000000 in
set_option maxRecDepth 100000 in
theorem t_X11_set (G : GM) (l : Launch) (hN : 77 ≤ gN G) (x1 : Int32) (x2 : Int32) (h : HP) {r : Int32} {h' : HP} (hf : f_X11_set x1 x2 h = some (r, h')) : MC G l yX11_set cX11_set 4 (some .int) 2 [.ref (ra G 70), .int x1, .int x2] h h' (some (.int r)) := by
  unfold f_X11_set at hf
  refine z_start (by decide) (Nat.le_of_ble_eq_true rfl) ?_
  intro p e s m args below meth c ls hx hb hr hlk hml Z hw hl
  have Z : ZK G s args m RX11 := Z
  have hl : lv_has ls 4 [(0, .ref (ra G 70)), (1, .int x1), (2, .int x2)] := hl
  obtain ⟨H, hH⟩ : ∃ H, H = s.heap := ⟨_, rfl⟩
  rw [← hH] at hw ⊢
  obtain ⟨locs, hlc⟩ : ∃ locs : List Loc, locs = [] := ⟨_, rfl⟩
  rw [← hlc] at hw ⊢
  refine lv_iload_n hx hb dX11_set_0 rfl (lv_at hl 1 rfl) ?_
  refine lv_iconst (v := (0 : Int32)) hx hb dX11_set_1 (by decide) ?_
  refine lv_iconst (v := (5 : Int32)) hx hb dX11_set_2 (by decide) ?_
  refine z_callSi (As := [.int x1, .int (0 : Int32), .int (5 : Int32)]) (rest := []) (t_X11_in G l hN x1 (0 : Int32) (5 : Int32) h) cs_X11_in hx hb hml hl.1 Z hw wd934 rfl rfl (Nat.le_of_ble_eq_true rfl) (by decide) dX11_set_3 (fun H locs hw => ?_)
  refine lv_if_eq (tgt := 24) hx hb dX11_set_6 (by decide) (fun c6 => ?_) (fun c6 => ?_)
  · have hf := (if_pos c6).symm.trans hf
    refine lv_bipush (v := (-2 : Int32)) hx hb dX11_set_24 (by decide) ?_
    obtain ⟨rfl, rfl⟩ := Prod.mk.inj (Option.some.inj hf)
    exact z_iret hx hb hr hlk hw dX11_set_26
  · have hf := (if_neg c6).symm.trans hf
    refine lv_iload_n hx hb dX11_set_9 rfl (lv_at hl 2 rfl) ?_
    refine lv_iload_n hx hb dX11_set_10 rfl (lv_at hl 1 rfl) ?_
    refine z_callSi (As := [.int x1]) (rest := [.int x2]) (t_X11_low G l hN x1 h) cs_X11_low hx hb hml hl.1 Z hw wd995 rfl rfl (Nat.le_of_ble_eq_true rfl) (by decide) dX11_set_11 (fun H locs hw => ?_)
    refine lv_iload_n hx hb dX11_set_14 rfl (lv_at hl 1 rfl) ?_
    refine z_callSi (As := [.int x1]) (rest := [.int (f_X11_low x1 h), .int x2]) (t_X11_high G l hN x1 h) cs_X11_high hx hb hml hl.1 Z hw wd998 rfl rfl (Nat.le_of_ble_eq_true rfl) (by decide) dX11_set_15 (fun H locs hw => ?_)
    refine z_callSi (As := [.int x2, .int (f_X11_low x1 h), .int (f_X11_high x1 h)]) (rest := []) (t_X11_in G l hN x2 (f_X11_low x1 h) (f_X11_high x1 h) h) cs_X11_in hx hb hml hl.1 Z hw wd934 rfl rfl (Nat.le_of_ble_eq_true rfl) (by decide) dX11_set_18 (fun H locs hw => ?_)
    refine lv_if_ne (tgt := 27) hx hb dX11_set_21 (by decide) (fun c21 => ?_) (fun c21 => ?_)
    · have hf := (if_neg c21).symm.trans hf
      refine lv_aload_n hx hb dX11_set_27 rfl (lv_at hl 0 rfl) ?_
      refine z_getr (o := 70) (o2 := 71) (C := RX11) (T := TX11) (N := 11) (ci := 9) (k := 0) hx hb Z hw (by decide) (by omega) rfl inX11 (by decide) rfl wd875 dX11_set_28 ?_
      refine lv_iload_n hx hb dX11_set_31 rfl (lv_at hl 1 rfl) ?_
      obtain ⟨h32, hf⟩ := gd_some hf
      refine y_iald (o := 71) (k := x1.toNatClampNeg) hx hb Z hw (by decide) (by omega) rfl (inB_vp h32) dX11_set_32 ?_
      refine lv_istore_n (lv' := [(3, _), (0, _), (1, _), (2, _)]) hx hb dX11_set_33 rfl hl (by decide) rfl (fun ls hl => ?_)
      refine lv_iload_n hx hb dX11_set_34 rfl (lv_at hl 0 rfl) ?_
      refine lv_iload_n hx hb dX11_set_35 rfl (lv_at hl 3 rfl) ?_
      refine lv_icmp_ne (tgt := 42) hx hb dX11_set_36 (by decide) (fun c36 => ?_) (fun c36 => ?_)
      · have hf := (if_neg c36).symm.trans hf
        refine lv_aload_n hx hb dX11_set_42 rfl (lv_at hl 1 rfl) ?_
        obtain ⟨q43, hq43, hf⟩ := ob_some hf
        refine z_callVv (o := 70) (ci := 9) (As := []) (rest := []) (t_X11_putAside G l hN  h hq43) cv_X11_putAside hx hb hml hl.1 Z hw (by decide) (by decide) (by omega) rfl rfl wd914 rfl rfl (Nat.le_of_ble_eq_true rfl) (by decide) dX11_set_43 (fun H locs hw => ?_)
        refine lv_aload_n hx hb dX11_set_46 rfl (lv_at hl 1 rfl) ?_
        refine z_getr (o := 70) (o2 := 71) (C := RX11) (T := TX11) (N := 11) (ci := 9) (k := 0) hx hb Z hw (by decide) (by omega) rfl inX11 (by decide) rfl wd875 dX11_set_47 ?_
        refine lv_iload_n hx hb dX11_set_50 rfl (lv_at hl 2 rfl) ?_
        refine lv_iload_n hx hb dX11_set_51 rfl (lv_at hl 3 rfl) ?_
        obtain ⟨h52, hf⟩ := gd_some hf
        refine y_iast (o := 71) (k := x1.toNatClampNeg) hx hb Z hw (by decide) (by omega) rfl (inB_vp h52) dX11_set_52 (fun H locs hw => ?_)
        refine lv_iload_n hx hb dX11_set_53 rfl (lv_at hl 2 rfl) ?_
        refine lv_iconst (v := (1 : Int32)) hx hb dX11_set_54 (by decide) ?_
        obtain ⟨j55, hqj55, hf⟩ := tb_ex hf
        have HJ79 : ∀ (ls : Array Slot) (H : Heap) (locs : List Loc), lv_has ls 4 [(0, .ref (ra G 70)), (3, .int (h 71 x1.toNatClampNeg))] → HW G j55 s H locs → WZ p l e 2 s m args below meth c G (some (.int r)) h' H locs (F0 m 79 ls []) := by
          intro ls H locs hl hw
          refine lv_aload_n hx hb dX11_set_79 rfl (lv_at hl 0 rfl) ?_
          refine lv_iload_n hx hb dX11_set_80 rfl (lv_at hl 1 rfl) ?_
          obtain ⟨q81, hq81, hf⟩ := ob_some hf
          refine z_callVi (o := 70) (ci := 9) (As := [.int (h 71 x1.toNatClampNeg)]) (rest := []) (t_X11_act G l hN (h 71 x1.toNatClampNeg) j55 hq81) cv_X11_act hx hb hml hl.1 Z hw (by decide) (by decide) (by omega) rfl rfl wd951 rfl rfl (Nat.le_of_ble_eq_true rfl) (by decide) dX11_set_81 (fun H locs hw => ?_)
          obtain ⟨rfl, rfl⟩ := Prod.mk.inj (Option.some.inj hf)
          exact z_iret hx hb hr hlk hw dX11_set_84
        have hf := hqj55
        refine lv_icmp_gt (tgt := 79) hx hb dX11_set_55 (by decide) (fun c55 => ?_) (fun c55 => ?_)
        · have hf := (if_pos c55).symm.trans hf
          subst hf
          exact HJ79 ls H locs (lv_sub hl [1, 0] rfl) hw
        · have hf := (if_neg c55).symm.trans hf
          refine lv_aload_n hx hb dX11_set_58 rfl (lv_at hl 1 rfl) ?_
          obtain ⟨h59, hqh59, hf⟩ := tb_ex hf
          rw [hqh59] at hw
          refine z_getr (o := 70) (o2 := 71) (C := RX11) (T := TX11) (N := 11) (ci := 9) (k := 0) hx hb Z hw (by decide) (by omega) rfl inX11 (by decide) rfl wd875 dX11_set_59 ?_
          refine lv_bipush (v := (6 : Int32)) hx hb dX11_set_62 (by decide) ?_
          refine lv_iconst (v := (0 : Int32)) hx hb dX11_set_64 (by decide) ?_
          refine y_iast (o := 71) (k := 6) hx hb Z hw (by decide) (by omega) (by decide) (inB_vp (by decide)) dX11_set_65 (fun H locs hw => ?_)
          refine lv_aload_n hx hb dX11_set_66 rfl (lv_at hl 1 rfl) ?_
          obtain ⟨h67, hqh67, hf⟩ := tb_ex hf
          rw [hqh67] at hw
          refine z_getr (o := 70) (o2 := 71) (C := RX11) (T := TX11) (N := 11) (ci := 9) (k := 0) hx hb Z hw (by decide) (by omega) rfl inX11 (by decide) rfl wd875 dX11_set_67 ?_
          refine lv_bipush (v := (7 : Int32)) hx hb dX11_set_70 (by decide) ?_
          refine lv_aload_n hx hb dX11_set_72 rfl (lv_at hl 1 rfl) ?_
          refine z_getr (o := 70) (o2 := 71) (C := RX11) (T := TX11) (N := 11) (ci := 9) (k := 0) hx hb Z hw (by decide) (by omega) rfl inX11 (by decide) rfl wd875 dX11_set_73 ?_
          refine lv_iconst (v := (0 : Int32)) hx hb dX11_set_76 (by decide) ?_
          refine y_iald (o := 71) (k := 0) hx hb Z hw (by decide) (by omega) (by decide) (inB_vp (by decide)) dX11_set_77 ?_
          refine y_iast (o := 71) (k := 7) hx hb Z hw (by decide) (by omega) (by decide) (inB_vp (by decide)) dX11_set_78 (fun H locs hw => ?_)
          subst hf
          exact HJ79 ls H locs (lv_sub hl [1, 0] rfl) hw
      · have hf := (if_pos c36).symm.trans hf
        refine lv_bipush (v := (-5 : Int32)) hx hb dX11_set_39 (by decide) ?_
        obtain ⟨rfl, rfl⟩ := Prod.mk.inj (Option.some.inj hf)
        exact z_iret hx hb hr hlk hw dX11_set_41
    · have hf := (if_pos c21).symm.trans hf
      refine lv_bipush (v := (-2 : Int32)) hx hb dX11_set_24 (by decide) ?_
      obtain ⟨rfl, rfl⟩ := Prod.mk.inj (Option.some.inj hf)
      exact z_iret hx hb hr hlk hw dX11_set_26
set_option maxHeartbeats 4000000 in
set_option maxRecDepth 100000 in
theorem t_X11_play (G : GM) (l : Launch) (hN : 77 ≤ gN G) (x1 : Int32) (h : HP) {r : Int32} {h' : HP} (hf : f_X11_play x1 h = some (r, h')) : MC G l yX11_play cX11_play 2 (some .int) 4 [.ref (ra G 70), .int x1] h h' (some (.int r)) := by
  unfold f_X11_play at hf
  refine z_start (by decide) (Nat.le_of_ble_eq_true rfl) ?_
  intro p e s m args below meth c ls hx hb hr hlk hml Z hw hl
  have Z : ZK G s args m RX11 := Z
  have hl : lv_has ls 2 [(0, .ref (ra G 70)), (1, .int x1)] := hl
  obtain ⟨H, hH⟩ : ∃ H, H = s.heap := ⟨_, rfl⟩
  rw [← hH] at hw ⊢
  obtain ⟨locs, hlc⟩ : ∃ locs : List Loc, locs = [] := ⟨_, rfl⟩
  rw [← hlc] at hw ⊢
  refine lv_aload_n hx hb dX11_play_0 rfl (lv_at hl 0 rfl) ?_
  obtain ⟨q1, hq1, hf⟩ := ob_some hf
  refine z_callVv (o := 70) (ci := 9) (As := []) (rest := []) (t_X11_putAside G l hN  h hq1) cv_X11_putAside hx hb hml hl.1 Z hw (by decide) (by decide) (by omega) rfl rfl wd914 rfl rfl (Nat.le_of_ble_eq_true rfl) (by decide) dX11_play_1 (fun H locs hw => ?_)
  refine lv_aload_n hx hb dX11_play_4 rfl (lv_at hl 0 rfl) ?_
  refine lv_aload_n hx hb dX11_play_5 rfl (lv_at hl 0 rfl) ?_
  refine lv_iload_n hx hb dX11_play_6 rfl (lv_at hl 1 rfl) ?_
  obtain ⟨q7, hq7, hf⟩ := ob_some hf
  refine z_callVi (o := 70) (ci := 9) (As := [.int x1]) (rest := [.ref (ra G 70)]) (t_X11_plays G l hN x1 q1 hq7) cv_X11_plays hx hb hml hl.1 Z hw (by decide) (by decide) (by omega) rfl rfl wd1005 rfl rfl (Nat.le_of_ble_eq_true rfl) (by decide) dX11_play_7 (fun H locs hw => ?_)
  obtain ⟨q10, hq10, hf⟩ := ob_some hf
  refine z_callVi (o := 70) (ci := 9) (As := [.int q7.1]) (rest := []) (t_X11_act G l hN q7.1 q7.2 hq10) cv_X11_act hx hb hml hl.1 Z hw (by decide) (by decide) (by omega) rfl rfl wd951 rfl rfl (Nat.le_of_ble_eq_true rfl) (by decide) dX11_play_10 (fun H locs hw => ?_)
  obtain ⟨rfl, rfl⟩ := Prod.mk.inj (Option.some.inj hf)
  exact z_iret hx hb hr hlk hw dX11_play_13
set_option maxHeartbeats 4000000 in
set_option maxRecDepth 100000 in
theorem t_X11_seek (G : GM) (l : Launch) (hN : 77 ≤ gN G) (x1 : Int32) (h : HP) {r : Int32} {h' : HP} (hf : f_X11_seek x1 h = some (r, h')) : MC G l yX11_seek cX11_seek 2 (some .int) 4 [.ref (ra G 70), .int x1] h h' (some (.int r)) := by
  unfold f_X11_seek at hf
  refine z_start (by decide) (Nat.le_of_ble_eq_true rfl) ?_
  intro p e s m args below meth c ls hx hb hr hlk hml Z hw hl
  have Z : ZK G s args m RX11 := Z
  have hl : lv_has ls 2 [(0, .ref (ra G 70)), (1, .int x1)] := hl
  obtain ⟨H, hH⟩ : ∃ H, H = s.heap := ⟨_, rfl⟩
  rw [← hH] at hw ⊢
  obtain ⟨locs, hlc⟩ : ∃ locs : List Loc, locs = [] := ⟨_, rfl⟩
  rw [← hlc] at hw ⊢
  refine lv_aload_n hx hb dX11_seek_0 rfl (lv_at hl 0 rfl) ?_
  obtain ⟨q1, hq1, hf⟩ := ob_some hf
  refine z_callVv (o := 70) (ci := 9) (As := []) (rest := []) (t_X11_putAside G l hN  h hq1) cv_X11_putAside hx hb hml hl.1 Z hw (by decide) (by decide) (by omega) rfl rfl wd914 rfl rfl (Nat.le_of_ble_eq_true rfl) (by decide) dX11_seek_1 (fun H locs hw => ?_)
  refine lv_aload_n hx hb dX11_seek_4 rfl (lv_at hl 0 rfl) ?_
  refine lv_aload_n hx hb dX11_seek_5 rfl (lv_at hl 0 rfl) ?_
  refine lv_iload_n hx hb dX11_seek_6 rfl (lv_at hl 1 rfl) ?_
  obtain ⟨q7, hq7, hf⟩ := ob_some hf
  refine z_callVi (o := 70) (ci := 9) (As := [.int x1]) (rest := [.ref (ra G 70)]) (t_X11_seeks G l hN x1 q1 hq7) cv_X11_seeks hx hb hml hl.1 Z hw (by decide) (by decide) (by omega) rfl rfl wd1028 rfl rfl (Nat.le_of_ble_eq_true rfl) (by decide) dX11_seek_7 (fun H locs hw => ?_)
  obtain ⟨q10, hq10, hf⟩ := ob_some hf
  refine z_callVi (o := 70) (ci := 9) (As := [.int q7.1]) (rest := []) (t_X11_act G l hN q7.1 q7.2 hq10) cv_X11_act hx hb hml hl.1 Z hw (by decide) (by decide) (by omega) rfl rfl wd951 rfl rfl (Nat.le_of_ble_eq_true rfl) (by decide) dX11_seek_10 (fun H locs hw => ?_)
  obtain ⟨rfl, rfl⟩ := Prod.mk.inj (Option.some.inj hf)
  exact z_iret hx hb hr hlk hw dX11_seek_13
set_option maxHeartbeats 4000000 in
set_option maxRecDepth 100000 in
theorem t_X11_type (G : GM) (l : Launch) (hN : 77 ≤ gN G) (x1 : Int32) (h : HP) {r : Int32} {h' : HP} (hf : f_X11_type x1 h = some (r, h')) : MC G l yX11_type cX11_type 2 (some .int) 0 [.ref (ra G 70), .int x1] h h' (some (.int r)) := by
  unfold f_X11_type at hf
  refine z_start (by decide) (Nat.le_of_ble_eq_true rfl) ?_
  intro p e s m args below meth c ls hx hb hr hlk hml Z hw hl
  have Z : ZK G s args m RX11 := Z
  have hl : lv_has ls 2 [(0, .ref (ra G 70)), (1, .int x1)] := hl
  obtain ⟨H, hH⟩ : ∃ H, H = s.heap := ⟨_, rfl⟩
  rw [← hH] at hw ⊢
  obtain ⟨locs, hlc⟩ : ∃ locs : List Loc, locs = [] := ⟨_, rfl⟩
  rw [← hlc] at hw ⊢
  refine lv_aload_n hx hb dX11_type_0 rfl (lv_at hl 0 rfl) ?_
  refine z_geti (o := 70) (C := RX11) (T := TX11) (N := 11) (ci := 9) (k := 7) hx hb Z hw (by decide) (by omega) rfl inX11 (by decide) wd882 dX11_type_1 ?_
  refine lv_bipush (v := (60 : Int32)) hx hb dX11_type_4 (by decide) ?_
  refine lv_icmp_ne (tgt := 12) hx hb dX11_type_6 (by decide) (fun c6 => ?_) (fun c6 => ?_)
  · have hf := (if_neg c6).symm.trans hf
    refine lv_aload_n hx hb dX11_type_12 rfl (lv_at hl 0 rfl) ?_
    refine z_getr (o := 70) (o2 := 75) (C := RX11) (T := TX11) (N := 11) (ci := 9) (k := 6) hx hb Z hw (by decide) (by omega) rfl inX11 (by decide) rfl wd881 dX11_type_13 ?_
    refine lv_aload_n hx hb dX11_type_16 rfl (lv_at hl 0 rfl) ?_
    refine z_geti (o := 70) (C := RX11) (T := TX11) (N := 11) (ci := 9) (k := 7) hx hb Z hw (by decide) (by omega) rfl inX11 (by decide) wd882 dX11_type_17 ?_
    refine lv_iload_n hx hb dX11_type_20 rfl (lv_at hl 1 rfl) ?_
    obtain ⟨h21, hf⟩ := gd_some hf
    refine y_iast (o := 75) (k := (h 70 7).toNatClampNeg) hx hb Z hw (by decide) (by omega) rfl (inB_vp h21) dX11_type_21 (fun H locs hw => ?_)
    refine lv_aload_n hx hb dX11_type_22 rfl (lv_at hl 0 rfl) ?_
    refine lv_dup hx hb dX11_type_23 rfl ?_
    obtain ⟨h24, hqh24, hf⟩ := tb_ex hf
    rw [hqh24] at hw
    refine z_geti (o := 70) (C := RX11) (T := TX11) (N := 11) (ci := 9) (k := 7) hx hb Z hw (by decide) (by omega) rfl inX11 (by decide) wd882 dX11_type_24 ?_
    refine lv_iconst (v := (1 : Int32)) hx hb dX11_type_27 (by decide) ?_
    refine lv_iadd hx hb dX11_type_28 ?_
    refine z_puti (o := 70) (v := (h24 70 7) + (1 : Int32)) (ty := .int) (C := RX11) (T := TX11) (N := 11) (ci := 9) (k := 7) hx hb Z hw (by decide) (by omega) rfl inX11 tyX11 tyX11_ok nmX11 (by decide) wd882 rfl (by decide +kernel) rfl rfl dX11_type_29 (fun H locs hw => ?_)
    refine lv_aload_n hx hb dX11_type_32 rfl (lv_at hl 0 rfl) ?_
    obtain ⟨h33, hqh33, hf⟩ := tb_ex hf
    rw [hqh33] at hw
    refine z_geti (o := 70) (C := RX11) (T := TX11) (N := 11) (ci := 9) (k := 7) hx hb Z hw (by decide) (by omega) rfl inX11 (by decide) wd882 dX11_type_33 ?_
    obtain ⟨rfl, rfl⟩ := Prod.mk.inj (Option.some.inj hf)
    exact z_iret hx hb hr hlk hw dX11_type_36
  · have hf := (if_pos c6).symm.trans hf
    refine lv_bipush (v := (-3 : Int32)) hx hb dX11_type_9 (by decide) ?_
    obtain ⟨rfl, rfl⟩ := Prod.mk.inj (Option.some.inj hf)
    exact z_iret hx hb hr hlk hw dX11_type_11
set_option maxHeartbeats 4000000 in
set_option maxRecDepth 100000 in
theorem t_X11_clearText (G : GM) (l : Launch) (hN : 77 ≤ gN G)  (h : HP) {r : Int32} {h' : HP} (hf : f_X11_clearText  h = (r, h')) : MC G l yX11_clearText cX11_clearText 2 (some .int) 0 [.ref (ra G 70)] h h' (some (.int r)) := by
  unfold f_X11_clearText at hf
  refine z_start (by decide) (Nat.le_of_ble_eq_true rfl) ?_
  intro p e s m args below meth c ls hx hb hr hlk hml Z hw hl
  have Z : ZK G s args m RX11 := Z
  have hl : lv_has ls 2 [(0, .ref (ra G 70))] := hl
  obtain ⟨H, hH⟩ : ∃ H, H = s.heap := ⟨_, rfl⟩
  rw [← hH] at hw ⊢
  obtain ⟨locs, hlc⟩ : ∃ locs : List Loc, locs = [] := ⟨_, rfl⟩
  rw [← hlc] at hw ⊢
  refine lv_aload_n hx hb dX11_clearText_0 rfl (lv_at hl 0 rfl) ?_
  refine z_geti (o := 70) (C := RX11) (T := TX11) (N := 11) (ci := 9) (k := 7) hx hb Z hw (by decide) (by omega) rfl inX11 (by decide) wd882 dX11_clearText_1 ?_
  refine lv_istore_n (lv' := [(1, _), (0, _)]) hx hb dX11_clearText_4 rfl hl (by decide) rfl (fun ls hl => ?_)
  refine lv_aload_n hx hb dX11_clearText_5 rfl (lv_at hl 1 rfl) ?_
  refine lv_iconst (v := (0 : Int32)) hx hb dX11_clearText_6 (by decide) ?_
  refine z_puti (o := 70) (v := (0 : Int32)) (ty := .int) (C := RX11) (T := TX11) (N := 11) (ci := 9) (k := 7) hx hb Z hw (by decide) (by omega) rfl inX11 tyX11 tyX11_ok nmX11 (by decide) wd882 rfl (by decide +kernel) rfl rfl dX11_clearText_7 (fun H locs hw => ?_)
  refine lv_iload_n hx hb dX11_clearText_10 rfl (lv_at hl 0 rfl) ?_
  obtain ⟨rfl, rfl⟩ := Prod.mk.inj hf
  exact z_iret hx hb hr hlk hw dX11_clearText_11
set_option maxHeartbeats 4000000 in
set_option maxRecDepth 100000 in
theorem t_X11_sign (G : GM) (l : Launch) (hN : 77 ≤ gN G) (x1 : Int32) (x2 : Int32) (h : HP) {r : Int32} {h' : HP} (hf : f_X11_sign x1 x2 h = some (r, h')) : MC G l yX11_sign cX11_sign 4 (some .int) 1 [.ref (ra G 70), .int x1, .int x2] h h' (some (.int r)) := by
  unfold f_X11_sign at hf
  refine z_start (by decide) (Nat.le_of_ble_eq_true rfl) ?_
  intro p e s m args below meth c ls hx hb hr hlk hml Z hw hl
  have Z : ZK G s args m RX11 := Z
  have hl : lv_has ls 4 [(0, .ref (ra G 70)), (1, .int x1), (2, .int x2)] := hl
  obtain ⟨H, hH⟩ : ∃ H, H = s.heap := ⟨_, rfl⟩
  rw [← hH] at hw ⊢
  obtain ⟨locs, hlc⟩ : ∃ locs : List Loc, locs = [] := ⟨_, rfl⟩
  rw [← hlc] at hw ⊢
  refine lv_aload_n hx hb dX11_sign_0 rfl (lv_at hl 0 rfl) ?_
  refine z_geti (o := 70) (C := RX11) (T := TX11) (N := 11) (ci := 9) (k := 9) hx hb Z hw (by decide) (by omega) rfl inX11 (by decide) wd884 dX11_sign_1 ?_
  refine lv_aload_n hx hb dX11_sign_4 rfl (lv_at hl 0 rfl) ?_
  refine z_geti (o := 70) (C := RX11) (T := TX11) (N := 11) (ci := 9) (k := 7) hx hb Z hw (by decide) (by omega) rfl inX11 (by decide) wd882 dX11_sign_5 ?_
  obtain ⟨j8, hqj8, hf⟩ := ob_some hf
  have HJ24 : ∀ (ls : Array Slot) (H : Heap) (locs : List Loc), lv_has ls 4 [(0, .ref (ra G 70)), (1, .int x1), (2, .int x2)] → HW G h s H locs → WZ p l e 1 s m args below meth c G (some (.int r)) h' H locs (F0 m 24 ls [.int j8]) := by
    intro ls H locs hl hw
    refine lv_istore_n (lv' := [(3, _), (0, _), (1, _), (2, _)]) hx hb dX11_sign_24 rfl hl (by decide) rfl (fun ls hl => ?_)
    refine lv_aload_n hx hb dX11_sign_25 rfl (lv_at hl 1 rfl) ?_
    refine lv_aload_n hx hb dX11_sign_26 rfl (lv_at hl 1 rfl) ?_
    refine z_geti (o := 70) (C := RX11) (T := TX11) (N := 11) (ci := 9) (k := 10) hx hb Z hw (by decide) (by omega) rfl inX11 (by decide) wd885 dX11_sign_27 ?_
    have HJ58 : ∀ (ls : Array Slot) (H : Heap) (locs : List Loc), lv_has ls 4 [(0, .ref (ra G 70)), (3, .int j8)] → HW G h s H locs → WZ p l e 1 s m args below meth c G (some (.int r)) h' H locs (F0 m 58 ls [.int (if (h 70 10) = 0 then (if (h 70 7) ≤ (h 70 9) then (1 : Int32) else (if (f_X11_in j8 x1 x2 h) = 0 then (1 : Int32) else (0 : Int32))) else (1 : Int32)), .ref (ra G 70)]) := by
      intro ls H locs hl hw
      refine z_puti (o := 70) (v := (if (h 70 10) = 0 then (if (h 70 7) ≤ (h 70 9) then (1 : Int32) else (if (f_X11_in j8 x1 x2 h) = 0 then (1 : Int32) else (0 : Int32))) else (1 : Int32))) (ty := .boolean) (C := RX11) (T := TX11) (N := 11) (ci := 9) (k := 10) hx hb Z hw (by decide) (by omega) rfl inX11 tyX11 tyX11_ok nmX11 (by decide) wd885 rfl (by decide +kernel) (by (repeat' split) <;> rfl) (by (repeat' split) <;> rfl) dX11_sign_58 (fun H locs hw => ?_)
      refine lv_aload_n hx hb dX11_sign_61 rfl (lv_at hl 0 rfl) ?_
      refine lv_dup hx hb dX11_sign_62 rfl ?_
      obtain ⟨h63, hqh63, hf⟩ := tb_ex hf
      rw [hqh63] at hw
      refine z_geti (o := 70) (C := RX11) (T := TX11) (N := 11) (ci := 9) (k := 9) hx hb Z hw (by decide) (by omega) rfl inX11 (by decide) wd884 dX11_sign_63 ?_
      refine lv_aload_n hx hb dX11_sign_66 rfl (lv_at hl 0 rfl) ?_
      refine z_geti (o := 70) (C := RX11) (T := TX11) (N := 11) (ci := 9) (k := 10) hx hb Z hw (by decide) (by omega) rfl inX11 (by decide) wd885 dX11_sign_67 ?_
      have HJ78 : ∀ (ls : Array Slot) (H : Heap) (locs : List Loc), lv_has ls 4 [(3, .int j8)] → HW G h63 s H locs → WZ p l e 1 s m args below meth c G (some (.int r)) h' H locs (F0 m 78 ls [.int (if (h63 70 10) = 0 then (1 : Int32) else (0 : Int32)), .int (h63 70 9), .ref (ra G 70)]) := by
        intro ls H locs hl hw
        refine lv_iadd hx hb dX11_sign_78 ?_
        refine z_puti (o := 70) (v := (h63 70 9) + (if (h63 70 10) = 0 then (1 : Int32) else (0 : Int32))) (ty := .int) (C := RX11) (T := TX11) (N := 11) (ci := 9) (k := 9) hx hb Z hw (by decide) (by omega) rfl inX11 tyX11 tyX11_ok nmX11 (by decide) wd884 rfl (by decide +kernel) rfl rfl dX11_sign_79 (fun H locs hw => ?_)
        refine lv_iload_n hx hb dX11_sign_82 rfl (lv_at hl 0 rfl) ?_
        obtain ⟨rfl, rfl⟩ := Prod.mk.inj (Option.some.inj hf)
        exact z_iret hx hb hr hlk hw dX11_sign_83
      refine lv_if_eq (tgt := 77) hx hb dX11_sign_70 (by decide) (fun c70 => ?_) (fun c70 => ?_)
      · skip
        refine lv_iconst (v := (1 : Int32)) hx hb dX11_sign_77 (by decide) ?_
        refine W.eq (g2 := F0 m 78 ls [.int (if (h63 70 10) = 0 then (1 : Int32) else (0 : Int32)), .int (h63 70 9), .ref (ra G 70)]) ?_ (HJ78 ls H locs (lv_sub hl [1] rfl) hw)
        simp only [if_pos c70]
      · skip
        refine lv_iconst (v := (0 : Int32)) hx hb dX11_sign_73 (by decide) ?_
        refine lv_goto (tgt := 78) hx hb dX11_sign_74 (by decide) ?_
        refine W.eq (g2 := F0 m 78 ls [.int (if (h63 70 10) = 0 then (1 : Int32) else (0 : Int32)), .int (h63 70 9), .ref (ra G 70)]) ?_ (HJ78 ls H locs (lv_sub hl [1] rfl) hw)
        simp only [if_neg c70]
    refine lv_if_ne (tgt := 53) hx hb dX11_sign_30 (by decide) (fun c30 => ?_) (fun c30 => ?_)
    · skip
      refine lv_iconst (v := (1 : Int32)) hx hb dX11_sign_53 (by decide) ?_
      refine lv_goto (tgt := 58) hx hb dX11_sign_54 (by decide) ?_
      refine W.eq (g2 := F0 m 58 ls [.int (if (h 70 10) = 0 then (if (h 70 7) ≤ (h 70 9) then (1 : Int32) else (if (f_X11_in j8 x1 x2 h) = 0 then (1 : Int32) else (0 : Int32))) else (1 : Int32)), .ref (ra G 70)]) ?_ (HJ58 ls H locs (lv_sub hl [1, 0] rfl) hw)
      simp only [if_neg c30]
    · skip
      refine lv_aload_n hx hb dX11_sign_33 rfl (lv_at hl 1 rfl) ?_
      refine z_geti (o := 70) (C := RX11) (T := TX11) (N := 11) (ci := 9) (k := 9) hx hb Z hw (by decide) (by omega) rfl inX11 (by decide) wd884 dX11_sign_34 ?_
      refine lv_aload_n hx hb dX11_sign_37 rfl (lv_at hl 1 rfl) ?_
      refine z_geti (o := 70) (C := RX11) (T := TX11) (N := 11) (ci := 9) (k := 7) hx hb Z hw (by decide) (by omega) rfl inX11 (by decide) wd882 dX11_sign_38 ?_
      refine lv_icmp_ge (tgt := 53) hx hb dX11_sign_41 (by decide) (fun c41 => ?_) (fun c41 => ?_)
      · skip
        refine lv_iconst (v := (1 : Int32)) hx hb dX11_sign_53 (by decide) ?_
        refine lv_goto (tgt := 58) hx hb dX11_sign_54 (by decide) ?_
        refine W.eq (g2 := F0 m 58 ls [.int (if (h 70 10) = 0 then (if (h 70 7) ≤ (h 70 9) then (1 : Int32) else (if (f_X11_in j8 x1 x2 h) = 0 then (1 : Int32) else (0 : Int32))) else (1 : Int32)), .ref (ra G 70)]) ?_ (HJ58 ls H locs (lv_sub hl [1, 0] rfl) hw)
        simp only [if_pos c30, if_pos c41]
      · skip
        refine lv_iload_n hx hb dX11_sign_44 rfl (lv_at hl 0 rfl) ?_
        refine lv_iload_n hx hb dX11_sign_45 rfl (lv_at hl 2 rfl) ?_
        refine lv_iload_n hx hb dX11_sign_46 rfl (lv_at hl 3 rfl) ?_
        refine z_callSi (As := [.int j8, .int x1, .int x2]) (rest := [.ref (ra G 70)]) (t_X11_in G l hN j8 x1 x2 h) cs_X11_in hx hb hml hl.1 Z hw wd934 rfl rfl (Nat.le_of_ble_eq_true rfl) (by decide) dX11_sign_47 (fun H locs hw => ?_)
        refine lv_if_ne (tgt := 57) hx hb dX11_sign_50 (by decide) (fun c50 => ?_) (fun c50 => ?_)
        · skip
          refine lv_iconst (v := (0 : Int32)) hx hb dX11_sign_57 (by decide) ?_
          refine W.eq (g2 := F0 m 58 ls [.int (if (h 70 10) = 0 then (if (h 70 7) ≤ (h 70 9) then (1 : Int32) else (if (f_X11_in j8 x1 x2 h) = 0 then (1 : Int32) else (0 : Int32))) else (1 : Int32)), .ref (ra G 70)]) ?_ (HJ58 ls H locs (lv_sub hl [1, 0] rfl) hw)
          simp only [if_pos c30, if_neg c41, if_neg c50]
        · skip
          refine lv_iconst (v := (1 : Int32)) hx hb dX11_sign_53 (by decide) ?_
          refine lv_goto (tgt := 58) hx hb dX11_sign_54 (by decide) ?_
          refine W.eq (g2 := F0 m 58 ls [.int (if (h 70 10) = 0 then (if (h 70 7) ≤ (h 70 9) then (1 : Int32) else (if (f_X11_in j8 x1 x2 h) = 0 then (1 : Int32) else (0 : Int32))) else (1 : Int32)), .ref (ra G 70)]) ?_ (HJ58 ls H locs (lv_sub hl [1, 0] rfl) hw)
          simp only [if_pos c30, if_neg c41, if_pos c50]
  have hf := hqj8
  refine lv_icmp_ge (tgt := 23) hx hb dX11_sign_8 (by decide) (fun c8 => ?_) (fun c8 => ?_)
  · have hf := (if_pos c8).symm.trans hf
    refine lv_iconst (v := (0 : Int32)) hx hb dX11_sign_23 (by decide) ?_
    obtain rfl := Option.some.inj hf
    exact HJ24 ls H locs (lv_sub hl [0, 1, 2] rfl) hw
  · have hf := (if_neg c8).symm.trans hf
    refine lv_aload_n hx hb dX11_sign_11 rfl (lv_at hl 0 rfl) ?_
    refine z_getr (o := 70) (o2 := 75) (C := RX11) (T := TX11) (N := 11) (ci := 9) (k := 6) hx hb Z hw (by decide) (by omega) rfl inX11 (by decide) rfl wd881 dX11_sign_12 ?_
    refine lv_aload_n hx hb dX11_sign_15 rfl (lv_at hl 0 rfl) ?_
    refine z_geti (o := 70) (C := RX11) (T := TX11) (N := 11) (ci := 9) (k := 9) hx hb Z hw (by decide) (by omega) rfl inX11 (by decide) wd884 dX11_sign_16 ?_
    obtain ⟨h19, hf⟩ := gd_some hf
    refine y_iald (o := 75) (k := (h 70 9).toNatClampNeg) hx hb Z hw (by decide) (by omega) rfl (inB_vp h19) dX11_sign_19 ?_
    refine lv_goto (tgt := 24) hx hb dX11_sign_20 (by decide) ?_
    obtain rfl := Option.some.inj hf
    exact HJ24 ls H locs (lv_sub hl [0, 1, 2] rfl) hw
set_option maxHeartbeats 4000000 in
set_option maxRecDepth 100000 in
theorem t_X11_isNext (G : GM) (l : Launch) (hN : 77 ≤ gN G) (x1 : Int32) (h : HP) {r : Int32} (hf : f_X11_isNext x1 h = some r) : MC G l yX11_isNext cX11_isNext 2 (some .boolean) 0 [.ref (ra G 70), .int x1] h h (some (.int r)) := by
  unfold f_X11_isNext at hf
  refine z_start (by decide) (Nat.le_of_ble_eq_true rfl) ?_
  intro p e s m args below meth c ls hx hb hr hlk hml Z hw hl
  have Z : ZK G s args m RX11 := Z
  have hl : lv_has ls 2 [(0, .ref (ra G 70)), (1, .int x1)] := hl
  obtain ⟨H, hH⟩ : ∃ H, H = s.heap := ⟨_, rfl⟩
  rw [← hH] at hw ⊢
  obtain ⟨locs, hlc⟩ : ∃ locs : List Loc, locs = [] := ⟨_, rfl⟩
  rw [← hlc] at hw ⊢
  refine lv_aload_n hx hb dX11_isNext_0 rfl (lv_at hl 0 rfl) ?_
  refine z_geti (o := 70) (C := RX11) (T := TX11) (N := 11) (ci := 9) (k := 10) hx hb Z hw (by decide) (by omega) rfl inX11 (by decide) wd885 dX11_isNext_1 ?_
  refine lv_if_ne (tgt := 35) hx hb dX11_isNext_4 (by decide) (fun c4 => ?_) (fun c4 => ?_)
  · have hf := (if_neg c4).symm.trans hf
    refine lv_iconst (v := (0 : Int32)) hx hb dX11_isNext_35 (by decide) ?_
    obtain rfl := Option.some.inj hf
    exact z_zret hx hb hr rfl hlk hw dX11_isNext_36
  · have hf := (if_pos c4).symm.trans hf
    refine lv_aload_n hx hb dX11_isNext_7 rfl (lv_at hl 0 rfl) ?_
    refine z_geti (o := 70) (C := RX11) (T := TX11) (N := 11) (ci := 9) (k := 9) hx hb Z hw (by decide) (by omega) rfl inX11 (by decide) wd884 dX11_isNext_8 ?_
    refine lv_aload_n hx hb dX11_isNext_11 rfl (lv_at hl 0 rfl) ?_
    refine z_geti (o := 70) (C := RX11) (T := TX11) (N := 11) (ci := 9) (k := 7) hx hb Z hw (by decide) (by omega) rfl inX11 (by decide) wd882 dX11_isNext_12 ?_
    refine lv_icmp_ge (tgt := 35) hx hb dX11_isNext_15 (by decide) (fun c15 => ?_) (fun c15 => ?_)
    · have hf := (if_pos c15).symm.trans hf
      refine lv_iconst (v := (0 : Int32)) hx hb dX11_isNext_35 (by decide) ?_
      obtain rfl := Option.some.inj hf
      exact z_zret hx hb hr rfl hlk hw dX11_isNext_36
    · have hf := (if_neg c15).symm.trans hf
      refine lv_aload_n hx hb dX11_isNext_18 rfl (lv_at hl 0 rfl) ?_
      refine z_getr (o := 70) (o2 := 75) (C := RX11) (T := TX11) (N := 11) (ci := 9) (k := 6) hx hb Z hw (by decide) (by omega) rfl inX11 (by decide) rfl wd881 dX11_isNext_19 ?_
      refine lv_aload_n hx hb dX11_isNext_22 rfl (lv_at hl 0 rfl) ?_
      refine z_geti (o := 70) (C := RX11) (T := TX11) (N := 11) (ci := 9) (k := 9) hx hb Z hw (by decide) (by omega) rfl inX11 (by decide) wd884 dX11_isNext_23 ?_
      obtain ⟨h26, hf⟩ := gd_some hf
      refine y_iald (o := 75) (k := (h 70 9).toNatClampNeg) hx hb Z hw (by decide) (by omega) rfl (inB_vp h26) dX11_isNext_26 ?_
      refine lv_iload_n hx hb dX11_isNext_27 rfl (lv_at hl 1 rfl) ?_
      refine lv_icmp_ne (tgt := 35) hx hb dX11_isNext_28 (by decide) (fun c28 => ?_) (fun c28 => ?_)
      · have hf := (if_neg c28).symm.trans hf
        refine lv_iconst (v := (0 : Int32)) hx hb dX11_isNext_35 (by decide) ?_
        obtain rfl := Option.some.inj hf
        exact z_zret hx hb hr rfl hlk hw dX11_isNext_36
      · have hf := (if_pos c28).symm.trans hf
        refine lv_iconst (v := (1 : Int32)) hx hb dX11_isNext_31 (by decide) ?_
        refine lv_goto (tgt := 36) hx hb dX11_isNext_32 (by decide) ?_
        obtain rfl := Option.some.inj hf
        exact z_zret hx hb hr rfl hlk hw dX11_isNext_36
set_option maxHeartbeats 4000000 in
set_option maxRecDepth 100000 in
theorem t_X11_signs (G : GM) (l : Launch) (hN : 77 ≤ gN G) (x1 : Int32) (x2 : Int32) (x3 : Int32) (x4 : Int32) (h : HP) {h' : HP} (hf : f_X11_signs x1 x2 x3 x4 h = some h') : MC G l yX11_signs cX11_signs 9 none 2 [.ref (ra G 70), .int x1, .int x2, .int x3, .int x4] h h' none := by
  unfold f_X11_signs at hf
  refine z_start (by decide) (Nat.le_of_ble_eq_true rfl) ?_
  intro p e s m args below meth c ls hx hb hr hlk hml Z hw hl
  have Z : ZK G s args m RX11 := Z
  have hl : lv_has ls 9 [(0, .ref (ra G 70)), (1, .int x1), (2, .int x2), (3, .int x3), (4, .int x4)] := hl
  obtain ⟨H, hH⟩ : ∃ H, H = s.heap := ⟨_, rfl⟩
  rw [← hH] at hw ⊢
  obtain ⟨locs, hlc⟩ : ∃ locs : List Loc, locs = [] := ⟨_, rfl⟩
  rw [← hlc] at hw ⊢
  refine lv_aload_n hx hb dX11_signs_0 rfl (lv_at hl 0 rfl) ?_
  refine lv_iload_n hx hb dX11_signs_1 rfl (lv_at hl 1 rfl) ?_
  refine lv_iload_n hx hb dX11_signs_2 rfl (lv_at hl 1 rfl) ?_
  obtain ⟨q3, hq3, hf⟩ := ob_some hf
  refine z_callVi (o := 70) (ci := 9) (As := [.int x1, .int x1]) (rest := []) (t_X11_sign G l hN x1 x1 h hq3) cv_X11_sign hx hb hml hl.1 Z hw (by decide) (by decide) (by omega) rfl rfl wd1056 rfl rfl (Nat.le_of_ble_eq_true rfl) (by decide) dX11_signs_3 (fun H locs hw => ?_)
  refine lv_istore (lv' := [(5, _), (0, _), (1, _), (2, _), (3, _), (4, _)]) hx hb dX11_signs_6 hl (by decide) rfl (fun ls hl => ?_)
  refine lv_aload_n hx hb dX11_signs_8 rfl (lv_at hl 1 rfl) ?_
  refine lv_iload_n hx hb dX11_signs_9 rfl (lv_at hl 3 rfl) ?_
  refine lv_iload_n hx hb dX11_signs_10 rfl (lv_at hl 3 rfl) ?_
  obtain ⟨q11, hq11, hf⟩ := ob_some hf
  refine z_callVi (o := 70) (ci := 9) (As := [.int x2, .int x2]) (rest := []) (t_X11_sign G l hN x2 x2 q3.2 hq11) cv_X11_sign hx hb hml hl.1 Z hw (by decide) (by decide) (by omega) rfl rfl wd1056 rfl rfl (Nat.le_of_ble_eq_true rfl) (by decide) dX11_signs_11 (fun H locs hw => ?_)
  refine lv_istore (lv' := [(6, _), (5, _), (0, _), (1, _), (2, _), (3, _), (4, _)]) hx hb dX11_signs_14 hl (by decide) rfl (fun ls hl => ?_)
  refine lv_iload_n hx hb dX11_signs_16 rfl (lv_at hl 5 rfl) ?_
  obtain ⟨j17, hqj17, hf⟩ := ob_some hf
  have HJ30 : ∀ (ls : Array Slot) (H : Heap) (locs : List Loc), lv_has ls 9 [(0, .ref (ra G 70)), (4, .int x4)] → HW G j17.2 s H locs → WZ p l e 2 s m args below meth c G none h' H locs (F0 m 30 ls [.int j17.1]) := by
    intro ls H locs hl hw
    refine lv_istore (lv' := [(7, _), (0, _), (4, _)]) hx hb dX11_signs_30 hl (by decide) rfl (fun ls hl => ?_)
    refine lv_iload hx hb dX11_signs_32 (lv_at hl 2 rfl) ?_
    refine lv_if_ne (tgt := 41) hx hb dX11_signs_34 (by decide) (fun c34 => ?_) (fun c34 => ?_)
    · have hf := (if_neg c34).symm.trans hf
      refine lv_aload_n hx hb dX11_signs_41 rfl (lv_at hl 1 rfl) ?_
      refine lv_iload hx hb dX11_signs_42 (lv_at hl 2 rfl) ?_
      refine lv_iload hx hb dX11_signs_44 (lv_at hl 2 rfl) ?_
      obtain ⟨q46, hq46, hf⟩ := ob_some hf
      refine z_callVi (o := 70) (ci := 9) (As := [.int x4, .int x4]) (rest := []) (t_X11_sign G l hN x4 x4 j17.2 hq46) cv_X11_sign hx hb hml hl.1 Z hw (by decide) (by decide) (by omega) rfl rfl wd1056 rfl rfl (Nat.le_of_ble_eq_true rfl) (by decide) dX11_signs_46 (fun H locs hw => ?_)
      refine lv_istore (lv' := [(8, _), (7, _), (0, _), (4, _)]) hx hb dX11_signs_49 hl (by decide) rfl (fun ls hl => ?_)
      obtain rfl := Option.some.inj hf
      exact z_vret hx hb hr hlk hw dX11_signs_51
    · have hf := (if_pos c34).symm.trans hf
      refine lv_iconst (v := (0 : Int32)) hx hb dX11_signs_37 (by decide) ?_
      refine lv_goto (tgt := 49) hx hb dX11_signs_38 (by decide) ?_
      refine lv_istore (lv' := [(8, _), (7, _), (0, _), (4, _)]) hx hb dX11_signs_49 hl (by decide) rfl (fun ls hl => ?_)
      obtain rfl := Option.some.inj hf
      exact z_vret hx hb hr hlk hw dX11_signs_51
  have hf := hqj17
  refine lv_if_ne (tgt := 24) hx hb dX11_signs_17 (by decide) (fun c17 => ?_) (fun c17 => ?_)
  · have hf := (if_neg c17).symm.trans hf
    refine lv_aload_n hx hb dX11_signs_24 rfl (lv_at hl 2 rfl) ?_
    refine lv_iload_n hx hb dX11_signs_25 rfl (lv_at hl 5 rfl) ?_
    refine lv_iload_n hx hb dX11_signs_26 rfl (lv_at hl 5 rfl) ?_
    obtain ⟨q27, hq27, hf⟩ := ob_some hf
    refine z_callVi (o := 70) (ci := 9) (As := [.int x3, .int x3]) (rest := []) (t_X11_sign G l hN x3 x3 q11.2 hq27) cv_X11_sign hx hb hml hl.1 Z hw (by decide) (by decide) (by omega) rfl rfl wd1056 rfl rfl (Nat.le_of_ble_eq_true rfl) (by decide) dX11_signs_27 (fun H locs hw => ?_)
    obtain rfl := Option.some.inj hf
    exact HJ30 ls H locs (lv_sub hl [2, 6] rfl) hw
  · have hf := (if_pos c17).symm.trans hf
    refine lv_iconst (v := (0 : Int32)) hx hb dX11_signs_20 (by decide) ?_
    refine lv_goto (tgt := 30) hx hb dX11_signs_21 (by decide) ?_
    obtain rfl := Option.some.inj hf
    exact HJ30 ls H locs (lv_sub hl [2, 6] rfl) hw
set_option maxHeartbeats 4000000 in
set_option maxRecDepth 100000 in
theorem w_X11_number_L14 (G : GM) (l : Launch) (hN : 77 ≤ gN G)  {p : Program} {e : Env} {s : State} {m : MethodId} {args : Array Value} {below : List Frame} {meth : Method} {c : Code} (hx : p.tables.exec = Jvm.exec) (hb : c.code = cX11_number) (hr : meth.sig.returnType = (some .int)) (hlk : meth.locks = false) (hml : c.maxLocals = 4) (Z : ZK G s args m RX11) : ∀ (n : Nat) (x2 : Int32) (x3 : Int32)  (h : HP)  (rv : Option Value) (hq : HP) (ls : Array Slot) (H : Heap) (locs : List Loc) {q : Int32 × HP}, lv_has ls 4 [(0, .ref (ra G 70)), (2, .int x2), (3, .int x3)] → HW G h s H locs → f_X11_number_L14 n x2 x3 h = some q → (∀ (ls : Array Slot) (H : Heap) (locs : List Loc), lv_has ls 4 [(3, .int q.1)] → HW G q.2 s H locs → WZ p l e 2 s m args below meth c G rv hq H locs (F0 m 107 ls [])) → WZ p l e 2 s m args below meth c G rv hq H locs (F0 m 14 ls []) := by
  intro n
  induction n with
  | zero => intro x2 x3  h  rv hq ls H locs q hl hw hf kk; cases hf
  | succ n ih =>
    intro x2 x3  h  rv hq ls H locs q hl hw hf kk
    rw [f_X11_number_L14] at hf
    refine lv_iload_n hx hb dX11_number_14 rfl (lv_at hl 2 rfl) ?_
    refine lv_if_le (tgt := 107) hx hb dX11_number_15 (by decide) (fun c15 => ?_) (fun c15 => ?_)
    · have hf := (if_pos c15).symm.trans hf
      obtain rfl := Option.some.inj hf
      exact kk ls H locs (lv_sub hl [2] rfl) hw
    · have hf := (if_neg c15).symm.trans hf
      refine lv_aload_n hx hb dX11_number_18 rfl (lv_at hl 0 rfl) ?_
      refine z_geti (o := 70) (C := RX11) (T := TX11) (N := 11) (ci := 9) (k := 10) hx hb Z hw (by decide) (by omega) rfl inX11 (by decide) wd885 dX11_number_19 ?_
      refine lv_if_ne (tgt := 107) hx hb dX11_number_22 (by decide) (fun c22 => ?_) (fun c22 => ?_)
      · have hf := (if_neg c22).symm.trans hf
        obtain rfl := Option.some.inj hf
        exact kk ls H locs (lv_sub hl [2] rfl) hw
      · have hf := (if_pos c22).symm.trans hf
        refine lv_aload_n hx hb dX11_number_25 rfl (lv_at hl 0 rfl) ?_
        refine z_geti (o := 70) (C := RX11) (T := TX11) (N := 11) (ci := 9) (k := 9) hx hb Z hw (by decide) (by omega) rfl inX11 (by decide) wd884 dX11_number_26 ?_
        refine lv_aload_n hx hb dX11_number_29 rfl (lv_at hl 0 rfl) ?_
        refine z_geti (o := 70) (C := RX11) (T := TX11) (N := 11) (ci := 9) (k := 7) hx hb Z hw (by decide) (by omega) rfl inX11 (by decide) wd882 dX11_number_30 ?_
        refine lv_icmp_ge (tgt := 107) hx hb dX11_number_33 (by decide) (fun c33 => ?_) (fun c33 => ?_)
        · have hf := (if_pos c33).symm.trans hf
          obtain rfl := Option.some.inj hf
          exact kk ls H locs (lv_sub hl [2] rfl) hw
        · have hf := (if_neg c33).symm.trans hf
          refine lv_aload_n hx hb dX11_number_36 rfl (lv_at hl 0 rfl) ?_
          refine z_getr (o := 70) (o2 := 75) (C := RX11) (T := TX11) (N := 11) (ci := 9) (k := 6) hx hb Z hw (by decide) (by omega) rfl inX11 (by decide) rfl wd881 dX11_number_37 ?_
          refine lv_aload_n hx hb dX11_number_40 rfl (lv_at hl 0 rfl) ?_
          refine z_geti (o := 70) (C := RX11) (T := TX11) (N := 11) (ci := 9) (k := 9) hx hb Z hw (by decide) (by omega) rfl inX11 (by decide) wd884 dX11_number_41 ?_
          obtain ⟨h44, hf⟩ := gd_some hf
          refine y_iald (o := 75) (k := (h 70 9).toNatClampNeg) hx hb Z hw (by decide) (by omega) rfl (inB_vp h44) dX11_number_44 ?_
          refine lv_bipush (v := (48 : Int32)) hx hb dX11_number_45 (by decide) ?_
          refine lv_bipush (v := (57 : Int32)) hx hb dX11_number_47 (by decide) ?_
          refine z_callSi (As := [.int (h 75 (h 70 9).toNatClampNeg), .int (48 : Int32), .int (57 : Int32)]) (rest := []) (t_X11_in G l hN (h 75 (h 70 9).toNatClampNeg) (48 : Int32) (57 : Int32) h) cs_X11_in hx hb hml hl.1 Z hw wd934 rfl rfl (Nat.le_of_ble_eq_true rfl) (by decide) dX11_number_49 (fun H locs hw => ?_)
          refine lv_if_eq (tgt := 107) hx hb dX11_number_52 (by decide) (fun c52 => ?_) (fun c52 => ?_)
          · have hf := (if_pos c52).symm.trans hf
            obtain rfl := Option.some.inj hf
            exact kk ls H locs (lv_sub hl [2] rfl) hw
          · have hf := (if_neg c52).symm.trans hf
            refine lv_bipush (v := (10 : Int32)) hx hb dX11_number_55 (by decide) ?_
            refine lv_iload_n hx hb dX11_number_57 rfl (lv_at hl 2 rfl) ?_
            refine lv_imul hx hb dX11_number_58 ?_
            refine lv_aload_n hx hb dX11_number_59 rfl (lv_at hl 0 rfl) ?_
            refine z_getr (o := 70) (o2 := 75) (C := RX11) (T := TX11) (N := 11) (ci := 9) (k := 6) hx hb Z hw (by decide) (by omega) rfl inX11 (by decide) rfl wd881 dX11_number_60 ?_
            refine lv_aload_n hx hb dX11_number_63 rfl (lv_at hl 0 rfl) ?_
            refine z_geti (o := 70) (C := RX11) (T := TX11) (N := 11) (ci := 9) (k := 9) hx hb Z hw (by decide) (by omega) rfl inX11 (by decide) wd884 dX11_number_64 ?_
            obtain ⟨h67, hf⟩ := gd_some hf
            refine y_iald (o := 75) (k := (h 70 9).toNatClampNeg) hx hb Z hw (by decide) (by omega) rfl (inB_vp h67) dX11_number_67 ?_
            refine lv_iadd hx hb dX11_number_68 ?_
            refine lv_bipush (v := (48 : Int32)) hx hb dX11_number_69 (by decide) ?_
            refine lv_isub hx hb dX11_number_71 ?_
            refine lv_iload_n hx hb dX11_number_72 rfl (lv_at hl 1 rfl) ?_
            refine lv_icmp_gt (tgt := 107) hx hb dX11_number_73 (by decide) (fun c73 => ?_) (fun c73 => ?_)
            · have hf := (if_pos c73).symm.trans hf
              obtain rfl := Option.some.inj hf
              exact kk ls H locs (lv_sub hl [2] rfl) hw
            · have hf := (if_neg c73).symm.trans hf
              refine lv_bipush (v := (10 : Int32)) hx hb dX11_number_76 (by decide) ?_
              refine lv_iload_n hx hb dX11_number_78 rfl (lv_at hl 2 rfl) ?_
              refine lv_imul hx hb dX11_number_79 ?_
              refine lv_aload_n hx hb dX11_number_80 rfl (lv_at hl 0 rfl) ?_
              refine z_getr (o := 70) (o2 := 75) (C := RX11) (T := TX11) (N := 11) (ci := 9) (k := 6) hx hb Z hw (by decide) (by omega) rfl inX11 (by decide) rfl wd881 dX11_number_81 ?_
              refine lv_aload_n hx hb dX11_number_84 rfl (lv_at hl 0 rfl) ?_
              refine z_geti (o := 70) (C := RX11) (T := TX11) (N := 11) (ci := 9) (k := 9) hx hb Z hw (by decide) (by omega) rfl inX11 (by decide) wd884 dX11_number_85 ?_
              obtain ⟨h88, hf⟩ := gd_some hf
              refine y_iald (o := 75) (k := (h 70 9).toNatClampNeg) hx hb Z hw (by decide) (by omega) rfl (inB_vp h88) dX11_number_88 ?_
              refine lv_iadd hx hb dX11_number_89 ?_
              refine lv_bipush (v := (48 : Int32)) hx hb dX11_number_90 (by decide) ?_
              refine lv_isub hx hb dX11_number_92 ?_
              obtain ⟨v93, hqv93, hf⟩ := tb_ex hf
              refine z_top hqv93 ?_
              refine lv_istore_n (lv' := [(3, _), (0, _), (2, _)]) hx hb dX11_number_93 rfl hl (by decide) rfl (fun ls hl => ?_)
              refine lv_aload_n hx hb dX11_number_94 rfl (lv_at hl 1 rfl) ?_
              refine lv_dup hx hb dX11_number_95 rfl ?_
              refine z_geti (o := 70) (C := RX11) (T := TX11) (N := 11) (ci := 9) (k := 9) hx hb Z hw (by decide) (by omega) rfl inX11 (by decide) wd884 dX11_number_96 ?_
              refine lv_iconst (v := (1 : Int32)) hx hb dX11_number_99 (by decide) ?_
              refine lv_iadd hx hb dX11_number_100 ?_
              refine z_puti (o := 70) (v := (h 70 9) + (1 : Int32)) (ty := .int) (C := RX11) (T := TX11) (N := 11) (ci := 9) (k := 9) hx hb Z hw (by decide) (by omega) rfl inX11 tyX11 tyX11_ok nmX11 (by decide) wd884 rfl (by decide +kernel) rfl rfl dX11_number_101 (fun H locs hw => ?_)
              refine lv_goto (tgt := 14) hx hb dX11_number_104 (by decide) ?_
              exact ih x2 v93 (hset h 70 9 ((h 70 9) + (1 : Int32)))  rv hq ls H locs (lv_sub hl [1, 2, 0] rfl) hw hf kk
set_option maxHeartbeats 4000000 in
set_option maxRecDepth 100000 in
theorem t_X11_number (G : GM) (l : Launch) (hN : 77 ≤ gN G) (x1 : Int32) (x2 : Int32) (h : HP) {r : Int32} {h' : HP} (hf : f_X11_number x1 x2 h = some (r, h')) : MC G l yX11_number cX11_number 4 (some .int) 2 [.ref (ra G 70), .int x1, .int x2] h h' (some (.int r)) := by
  unfold f_X11_number at hf
  refine z_start (by decide) (Nat.le_of_ble_eq_true rfl) ?_
  intro p e s m args below meth c ls hx hb hr hlk hml Z hw hl
  have Z : ZK G s args m RX11 := Z
  have hl : lv_has ls 4 [(0, .ref (ra G 70)), (1, .int x1), (2, .int x2)] := hl
  obtain ⟨H, hH⟩ : ∃ H, H = s.heap := ⟨_, rfl⟩
  rw [← hH] at hw ⊢
  obtain ⟨locs, hlc⟩ : ∃ locs : List Loc, locs = [] := ⟨_, rfl⟩
  rw [← hlc] at hw ⊢
  refine lv_aload_n hx hb dX11_number_0 rfl (lv_at hl 0 rfl) ?_
  refine lv_bipush (v := (48 : Int32)) hx hb dX11_number_1 (by decide) ?_
  refine lv_iload_n hx hb dX11_number_3 rfl (lv_at hl 1 rfl) ?_
  refine lv_iadd hx hb dX11_number_4 ?_
  refine lv_bipush (v := (57 : Int32)) hx hb dX11_number_5 (by decide) ?_
  obtain ⟨q7, hq7, hf⟩ := ob_some hf
  refine z_callVi (o := 70) (ci := 9) (As := [.int ((48 : Int32) + x1), .int (57 : Int32)]) (rest := []) (t_X11_sign G l hN ((48 : Int32) + x1) (57 : Int32) h hq7) cv_X11_sign hx hb hml hl.1 Z hw (by decide) (by decide) (by omega) rfl rfl wd1056 rfl rfl (Nat.le_of_ble_eq_true rfl) (by decide) dX11_number_7 (fun H locs hw => ?_)
  refine lv_bipush (v := (48 : Int32)) hx hb dX11_number_10 (by decide) ?_
  refine lv_isub hx hb dX11_number_12 ?_
  refine lv_istore_n (lv' := [(3, _), (0, _), (1, _), (2, _)]) hx hb dX11_number_13 rfl hl (by decide) rfl (fun ls hl => ?_)
  obtain ⟨q14, hq14, hf⟩ := ob_some hf
  refine w_X11_number_L14 G l hN  hx hb hr hlk hml Z FU x2 (q7.1 - (48 : Int32)) q7.2  _ _ ls H locs (lv_sub hl [1, 3, 0] rfl) hw hq14 (fun ls H locs hl hw => ?_)
  refine lv_iload_n hx hb dX11_number_107 rfl (lv_at hl 0 rfl) ?_
  obtain ⟨rfl, rfl⟩ := Prod.mk.inj (Option.some.inj hf)
  exact z_iret hx hb hr hlk hw dX11_number_108
set_option maxHeartbeats 4000000 in
set_option maxRecDepth 100000 in
theorem t_X11_behind (G : GM) (l : Launch) (hN : 77 ≤ gN G) (x1 : Int32) (x2 : Int32) (x3 : Int32) (h : HP) {r : Int32} {h' : HP} (hf : f_X11_behind x1 x2 x3 h = some (r, h')) : MC G l yX11_behind cX11_behind 5 (some .int) 3 [.ref (ra G 70), .int x1, .int x2, .int x3] h h' (some (.int r)) := by
  unfold f_X11_behind at hf
  refine z_start (by decide) (Nat.le_of_ble_eq_true rfl) ?_
  intro p e s m args below meth c ls hx hb hr hlk hml Z hw hl
  have Z : ZK G s args m RX11 := Z
  have hl : lv_has ls 5 [(0, .ref (ra G 70)), (1, .int x1), (2, .int x2), (3, .int x3)] := hl
  obtain ⟨H, hH⟩ : ∃ H, H = s.heap := ⟨_, rfl⟩
  rw [← hH] at hw ⊢
  obtain ⟨locs, hlc⟩ : ∃ locs : List Loc, locs = [] := ⟨_, rfl⟩
  rw [← hlc] at hw ⊢
  refine lv_aload_n hx hb dX11_behind_0 rfl (lv_at hl 0 rfl) ?_
  refine lv_iload_n hx hb dX11_behind_1 rfl (lv_at hl 1 rfl) ?_
  refine lv_iload_n hx hb dX11_behind_2 rfl (lv_at hl 1 rfl) ?_
  obtain ⟨q3, hq3, hf⟩ := ob_some hf
  refine z_callVi (o := 70) (ci := 9) (As := [.int x1, .int x1]) (rest := []) (t_X11_sign G l hN x1 x1 h hq3) cv_X11_sign hx hb hml hl.1 Z hw (by decide) (by decide) (by omega) rfl rfl wd1056 rfl rfl (Nat.le_of_ble_eq_true rfl) (by decide) dX11_behind_3 (fun H locs hw => ?_)
  refine lv_istore (lv' := [(4, _), (0, _), (1, _), (2, _), (3, _)]) hx hb dX11_behind_6 hl (by decide) rfl (fun ls hl => ?_)
  refine lv_aload_n hx hb dX11_behind_8 rfl (lv_at hl 1 rfl) ?_
  refine lv_iload_n hx hb dX11_behind_9 rfl (lv_at hl 3 rfl) ?_
  refine lv_iload_n hx hb dX11_behind_10 rfl (lv_at hl 4 rfl) ?_
  obtain ⟨q11, hq11, hf⟩ := ob_some hf
  refine z_callVi (o := 70) (ci := 9) (As := [.int x2, .int x3]) (rest := []) (t_X11_number G l hN x2 x3 q3.2 hq11) cv_X11_number hx hb hml hl.1 Z hw (by decide) (by decide) (by omega) rfl rfl wd1068 rfl rfl (Nat.le_of_ble_eq_true rfl) (by decide) dX11_behind_11 (fun H locs hw => ?_)
  obtain ⟨rfl, rfl⟩ := Prod.mk.inj (Option.some.inj hf)
  exact z_iret hx hb hr hlk hw dX11_behind_14
set_option maxHeartbeats 4000000 in
set_option maxRecDepth 100000 in
theorem t_X11_orderOfS (G : GM) (l : Launch) (hN : 77 ≤ gN G) (x1 : Int32) (h : HP) {r : Int32} {h' : HP} (hf : f_X11_orderOfS x1 h = some (r, h')) : MC G l yX11_orderOfS cX11_orderOfS 6 (some .int) 4 [.ref (ra G 70), .int x1] h h' (some (.int r)) := by
  unfold f_X11_orderOfS at hf
  refine z_start (by decide) (Nat.le_of_ble_eq_true rfl) ?_
  intro p e s m args below meth c ls hx hb hr hlk hml Z hw hl
  have Z : ZK G s args m RX11 := Z
  have hl : lv_has ls 6 [(0, .ref (ra G 70)), (1, .int x1)] := hl
  obtain ⟨H, hH⟩ : ∃ H, H = s.heap := ⟨_, rfl⟩
  rw [← hH] at hw ⊢
  obtain ⟨locs, hlc⟩ : ∃ locs : List Loc, locs = [] := ⟨_, rfl⟩
  rw [← hlc] at hw ⊢
  refine lv_aload_n hx hb dX11_orderOfS_0 rfl (lv_at hl 0 rfl) ?_
  refine lv_bipush (v := (99 : Int32)) hx hb dX11_orderOfS_1 (by decide) ?_
  obtain ⟨q3, hq3, hf⟩ := ob_some hf
  refine z_callVi (o := 70) (ci := 9) (As := [.int (99 : Int32)]) (rest := []) (t_X11_isNext G l hN (99 : Int32) h hq3) cv_X11_isNext hx hb hml hl.1 Z hw (by decide) (by decide) (by omega) rfl rfl wd1052 rfl rfl (Nat.le_of_ble_eq_true rfl) (by decide) dX11_orderOfS_3 (fun H locs hw => ?_)
  refine lv_if_eq (tgt := 93) hx hb dX11_orderOfS_6 (by decide) (fun c6 => ?_) (fun c6 => ?_)
  · have hf := (if_pos c6).symm.trans hf
    refine lv_aload_n hx hb dX11_orderOfS_93 rfl (lv_at hl 0 rfl) ?_
    refine lv_bipush (v := (101 : Int32)) hx hb dX11_orderOfS_94 (by decide) ?_
    refine lv_bipush (v := (101 : Int32)) hx hb dX11_orderOfS_96 (by decide) ?_
    refine lv_bipush (v := (107 : Int32)) hx hb dX11_orderOfS_98 (by decide) ?_
    refine lv_bipush (v := (61 : Int32)) hx hb dX11_orderOfS_100 (by decide) ?_
    obtain ⟨q102, hq102, hf⟩ := ob_some hf
    refine z_callVv (o := 70) (ci := 9) (As := [.int (101 : Int32), .int (101 : Int32), .int (107 : Int32), .int (61 : Int32)]) (rest := []) (t_X11_signs G l hN (101 : Int32) (101 : Int32) (107 : Int32) (61 : Int32) h hq102) cv_X11_signs hx hb hml hl.1 Z hw (by decide) (by decide) (by omega) rfl rfl wd1064 rfl rfl (Nat.le_of_ble_eq_true rfl) (by decide) dX11_orderOfS_102 (fun H locs hw => ?_)
    refine lv_aload_n hx hb dX11_orderOfS_105 rfl (lv_at hl 0 rfl) ?_
    refine lv_iconst (v := (0 : Int32)) hx hb dX11_orderOfS_106 (by decide) ?_
    refine lv_sipush (v := (9999 : Int32)) hx hb dX11_orderOfS_107 (by decide) ?_
    obtain ⟨q110, hq110, hf⟩ := ob_some hf
    refine z_callVi (o := 70) (ci := 9) (As := [.int (0 : Int32), .int (9999 : Int32)]) (rest := []) (t_X11_number G l hN (0 : Int32) (9999 : Int32) q102 hq110) cv_X11_number hx hb hml hl.1 Z hw (by decide) (by decide) (by omega) rfl rfl wd1068 rfl rfl (Nat.le_of_ble_eq_true rfl) (by decide) dX11_orderOfS_110 (fun H locs hw => ?_)
    refine lv_istore_n (lv' := [(2, _), (0, _), (1, _)]) hx hb dX11_orderOfS_113 rfl hl (by decide) rfl (fun ls hl => ?_)
    refine lv_iload_n hx hb dX11_orderOfS_114 rfl (lv_at hl 2 rfl) ?_
    refine lv_if_eq (tgt := 126) hx hb dX11_orderOfS_115 (by decide) (fun c115 => ?_) (fun c115 => ?_)
    · have hf := (if_pos c115).symm.trans hf
      refine lv_iconst (v := (0 : Int32)) hx hb dX11_orderOfS_126 (by decide) ?_
      obtain ⟨rfl, rfl⟩ := Prod.mk.inj (Option.some.inj hf)
      exact z_iret hx hb hr hlk hw dX11_orderOfS_127
    · have hf := (if_neg c115).symm.trans hf
      refine lv_aload_n hx hb dX11_orderOfS_118 rfl (lv_at hl 1 rfl) ?_
      refine lv_iload_n hx hb dX11_orderOfS_119 rfl (lv_at hl 0 rfl) ?_
      obtain ⟨q120, hq120, hf⟩ := ob_some hf
      refine z_callVi (o := 70) (ci := 9) (As := [.int q110.1]) (rest := []) (t_X11_seeks G l hN q110.1 q110.2 hq120) cv_X11_seeks hx hb hml hl.1 Z hw (by decide) (by decide) (by omega) rfl rfl wd1028 rfl rfl (Nat.le_of_ble_eq_true rfl) (by decide) dX11_orderOfS_120 (fun H locs hw => ?_)
      refine lv_goto (tgt := 127) hx hb dX11_orderOfS_123 (by decide) ?_
      obtain ⟨rfl, rfl⟩ := Prod.mk.inj (Option.some.inj hf)
      exact z_iret hx hb hr hlk hw dX11_orderOfS_127
  · have hf := (if_neg c6).symm.trans hf
    refine lv_aload_n hx hb dX11_orderOfS_9 rfl (lv_at hl 0 rfl) ?_
    refine lv_bipush (v := (99 : Int32)) hx hb dX11_orderOfS_10 (by decide) ?_
    refine lv_bipush (v := (114 : Int32)) hx hb dX11_orderOfS_12 (by decide) ?_
    refine lv_bipush (v := (97 : Int32)) hx hb dX11_orderOfS_14 (by decide) ?_
    refine lv_bipush (v := (116 : Int32)) hx hb dX11_orderOfS_16 (by decide) ?_
    obtain ⟨q18, hq18, hf⟩ := ob_some hf
    refine z_callVv (o := 70) (ci := 9) (As := [.int (99 : Int32), .int (114 : Int32), .int (97 : Int32), .int (116 : Int32)]) (rest := []) (t_X11_signs G l hN (99 : Int32) (114 : Int32) (97 : Int32) (116 : Int32) h hq18) cv_X11_signs hx hb hml hl.1 Z hw (by decide) (by decide) (by omega) rfl rfl wd1064 rfl rfl (Nat.le_of_ble_eq_true rfl) (by decide) dX11_orderOfS_18 (fun H locs hw => ?_)
    refine lv_aload_n hx hb dX11_orderOfS_21 rfl (lv_at hl 0 rfl) ?_
    refine lv_bipush (v := (99 : Int32)) hx hb dX11_orderOfS_22 (by decide) ?_
    refine lv_bipush (v := (104 : Int32)) hx hb dX11_orderOfS_24 (by decide) ?_
    refine lv_bipush (v := (61 : Int32)) hx hb dX11_orderOfS_26 (by decide) ?_
    refine lv_iconst (v := (0 : Int32)) hx hb dX11_orderOfS_28 (by decide) ?_
    obtain ⟨q29, hq29, hf⟩ := ob_some hf
    refine z_callVv (o := 70) (ci := 9) (As := [.int (99 : Int32), .int (104 : Int32), .int (61 : Int32), .int (0 : Int32)]) (rest := []) (t_X11_signs G l hN (99 : Int32) (104 : Int32) (61 : Int32) (0 : Int32) q18 hq29) cv_X11_signs hx hb hml hl.1 Z hw (by decide) (by decide) (by omega) rfl rfl wd1064 rfl rfl (Nat.le_of_ble_eq_true rfl) (by decide) dX11_orderOfS_29 (fun H locs hw => ?_)
    refine lv_aload_n hx hb dX11_orderOfS_32 rfl (lv_at hl 0 rfl) ?_
    refine lv_iconst (v := (0 : Int32)) hx hb dX11_orderOfS_33 (by decide) ?_
    refine lv_sipush (v := (359 : Int32)) hx hb dX11_orderOfS_34 (by decide) ?_
    obtain ⟨q37, hq37, hf⟩ := ob_some hf
    refine z_callVi (o := 70) (ci := 9) (As := [.int (0 : Int32), .int (359 : Int32)]) (rest := []) (t_X11_number G l hN (0 : Int32) (359 : Int32) q29 hq37) cv_X11_number hx hb hml hl.1 Z hw (by decide) (by decide) (by omega) rfl rfl wd1068 rfl rfl (Nat.le_of_ble_eq_true rfl) (by decide) dX11_orderOfS_37 (fun H locs hw => ?_)
    refine lv_istore_n (lv' := [(2, _), (0, _), (1, _)]) hx hb dX11_orderOfS_40 rfl hl (by decide) rfl (fun ls hl => ?_)
    refine lv_aload_n hx hb dX11_orderOfS_41 rfl (lv_at hl 1 rfl) ?_
    refine lv_bipush (v := (45 : Int32)) hx hb dX11_orderOfS_42 (by decide) ?_
    refine lv_iconst (v := (0 : Int32)) hx hb dX11_orderOfS_44 (by decide) ?_
    refine lv_sipush (v := (359 : Int32)) hx hb dX11_orderOfS_45 (by decide) ?_
    obtain ⟨q48, hq48, hf⟩ := ob_some hf
    refine z_callVi (o := 70) (ci := 9) (As := [.int (45 : Int32), .int (0 : Int32), .int (359 : Int32)]) (rest := []) (t_X11_behind G l hN (45 : Int32) (0 : Int32) (359 : Int32) q37.2 hq48) cv_X11_behind hx hb hml hl.1 Z hw (by decide) (by decide) (by omega) rfl rfl wd1072 rfl rfl (Nat.le_of_ble_eq_true rfl) (by decide) dX11_orderOfS_48 (fun H locs hw => ?_)
    refine lv_istore_n (lv' := [(3, _), (2, _), (0, _), (1, _)]) hx hb dX11_orderOfS_51 rfl hl (by decide) rfl (fun ls hl => ?_)
    refine lv_aload_n hx hb dX11_orderOfS_52 rfl (lv_at hl 2 rfl) ?_
    refine lv_bipush (v := (64 : Int32)) hx hb dX11_orderOfS_53 (by decide) ?_
    refine lv_iconst (v := (0 : Int32)) hx hb dX11_orderOfS_55 (by decide) ?_
    refine lv_bipush (v := (29 : Int32)) hx hb dX11_orderOfS_56 (by decide) ?_
    obtain ⟨q58, hq58, hf⟩ := ob_some hf
    refine z_callVi (o := 70) (ci := 9) (As := [.int (64 : Int32), .int (0 : Int32), .int (29 : Int32)]) (rest := []) (t_X11_behind G l hN (64 : Int32) (0 : Int32) (29 : Int32) q48.2 hq58) cv_X11_behind hx hb hml hl.1 Z hw (by decide) (by decide) (by omega) rfl rfl wd1072 rfl rfl (Nat.le_of_ble_eq_true rfl) (by decide) dX11_orderOfS_58 (fun H locs hw => ?_)
    refine lv_istore (lv' := [(4, _), (3, _), (2, _), (0, _), (1, _)]) hx hb dX11_orderOfS_61 hl (by decide) rfl (fun ls hl => ?_)
    refine lv_aload_n hx hb dX11_orderOfS_63 rfl (lv_at hl 3 rfl) ?_
    refine lv_bipush (v := (45 : Int32)) hx hb dX11_orderOfS_64 (by decide) ?_
    refine lv_iconst (v := (0 : Int32)) hx hb dX11_orderOfS_66 (by decide) ?_
    refine lv_bipush (v := (29 : Int32)) hx hb dX11_orderOfS_67 (by decide) ?_
    obtain ⟨q69, hq69, hf⟩ := ob_some hf
    refine z_callVi (o := 70) (ci := 9) (As := [.int (45 : Int32), .int (0 : Int32), .int (29 : Int32)]) (rest := []) (t_X11_behind G l hN (45 : Int32) (0 : Int32) (29 : Int32) q58.2 hq69) cv_X11_behind hx hb hml hl.1 Z hw (by decide) (by decide) (by omega) rfl rfl wd1072 rfl rfl (Nat.le_of_ble_eq_true rfl) (by decide) dX11_orderOfS_69 (fun H locs hw => ?_)
    refine lv_istore (lv' := [(5, _), (4, _), (3, _), (2, _), (0, _), (1, _)]) hx hb dX11_orderOfS_72 hl (by decide) rfl (fun ls hl => ?_)
    refine lv_iload_n hx hb dX11_orderOfS_74 rfl (lv_at hl 5 rfl) ?_
    refine lv_if_eq (tgt := 91) hx hb dX11_orderOfS_75 (by decide) (fun c75 => ?_) (fun c75 => ?_)
    · have hf := (if_pos c75).symm.trans hf
      refine lv_iconst (v := (0 : Int32)) hx hb dX11_orderOfS_91 (by decide) ?_
      obtain ⟨rfl, rfl⟩ := Prod.mk.inj (Option.some.inj hf)
      exact z_iret hx hb hr hlk hw dX11_orderOfS_92
    · have hf := (if_neg c75).symm.trans hf
      refine lv_aload_n hx hb dX11_orderOfS_78 rfl (lv_at hl 4 rfl) ?_
      refine lv_iload_n hx hb dX11_orderOfS_79 rfl (lv_at hl 3 rfl) ?_
      refine lv_iload_n hx hb dX11_orderOfS_80 rfl (lv_at hl 2 rfl) ?_
      refine lv_iload hx hb dX11_orderOfS_81 (lv_at hl 1 rfl) ?_
      refine lv_iload hx hb dX11_orderOfS_83 (lv_at hl 0 rfl) ?_
      obtain ⟨q85, hq85, hf⟩ := ob_some hf
      refine z_callVi (o := 70) (ci := 9) (As := [.int q37.1, .int q48.1, .int q58.1, .int q69.1]) (rest := []) (t_X11_scratches G l hN q37.1 q48.1 q58.1 q69.1 q69.2 hq85) cv_X11_scratches hx hb hml hl.1 Z hw (by decide) (by decide) (by omega) rfl rfl wd963 rfl rfl (Nat.le_of_ble_eq_true rfl) (by decide) dX11_orderOfS_85 (fun H locs hw => ?_)
      refine lv_goto (tgt := 92) hx hb dX11_orderOfS_88 (by decide) ?_
      obtain ⟨rfl, rfl⟩ := Prod.mk.inj (Option.some.inj hf)
      exact z_iret hx hb hr hlk hw dX11_orderOfS_92
set_option maxHeartbeats 4000000 in
set_option maxRecDepth 100000 in
theorem t_X11_orderOfP (G : GM) (l : Launch) (hN : 77 ≤ gN G) (x1 : Int32) (h : HP) {r : Int32} {h' : HP} (hf : f_X11_orderOfP x1 h = some (r, h')) : MC G l yX11_orderOfP cX11_orderOfP 7 (some .int) 4 [.ref (ra G 70), .int x1] h h' (some (.int r)) := by
  unfold f_X11_orderOfP at hf
  refine z_start (by decide) (Nat.le_of_ble_eq_true rfl) ?_
  intro p e s m args below meth c ls hx hb hr hlk hml Z hw hl
  have Z : ZK G s args m RX11 := Z
  have hl : lv_has ls 7 [(0, .ref (ra G 70)), (1, .int x1)] := hl
  obtain ⟨H, hH⟩ : ∃ H, H = s.heap := ⟨_, rfl⟩
  rw [← hH] at hw ⊢
  obtain ⟨locs, hlc⟩ : ∃ locs : List Loc, locs = [] := ⟨_, rfl⟩
  rw [← hlc] at hw ⊢
  refine lv_aload_n hx hb dX11_orderOfP_0 rfl (lv_at hl 0 rfl) ?_
  refine lv_bipush (v := (111 : Int32)) hx hb dX11_orderOfP_1 (by decide) ?_
  obtain ⟨q3, hq3, hf⟩ := ob_some hf
  refine z_callVi (o := 70) (ci := 9) (As := [.int (111 : Int32)]) (rest := []) (t_X11_isNext G l hN (111 : Int32) h hq3) cv_X11_isNext hx hb hml hl.1 Z hw (by decide) (by decide) (by omega) rfl rfl wd1052 rfl rfl (Nat.le_of_ble_eq_true rfl) (by decide) dX11_orderOfP_3 (fun H locs hw => ?_)
  refine lv_if_eq (tgt := 57) hx hb dX11_orderOfP_6 (by decide) (fun c6 => ?_) (fun c6 => ?_)
  · have hf := (if_pos c6).symm.trans hf
    refine lv_aload_n hx hb dX11_orderOfP_57 rfl (lv_at hl 0 rfl) ?_
    refine lv_bipush (v := (108 : Int32)) hx hb dX11_orderOfP_58 (by decide) ?_
    obtain ⟨q60, hq60, hf⟩ := ob_some hf
    refine z_callVi (o := 70) (ci := 9) (As := [.int (108 : Int32)]) (rest := []) (t_X11_isNext G l hN (108 : Int32) h hq60) cv_X11_isNext hx hb hml hl.1 Z hw (by decide) (by decide) (by omega) rfl rfl wd1052 rfl rfl (Nat.le_of_ble_eq_true rfl) (by decide) dX11_orderOfP_60 (fun H locs hw => ?_)
    refine lv_if_eq (tgt := 101) hx hb dX11_orderOfP_63 (by decide) (fun c63 => ?_) (fun c63 => ?_)
    · have hf := (if_pos c63).symm.trans hf
      refine lv_aload_n hx hb dX11_orderOfP_101 rfl (lv_at hl 0 rfl) ?_
      refine lv_bipush (v := (114 : Int32)) hx hb dX11_orderOfP_102 (by decide) ?_
      refine lv_bipush (v := (101 : Int32)) hx hb dX11_orderOfP_104 (by decide) ?_
      refine lv_bipush (v := (115 : Int32)) hx hb dX11_orderOfP_106 (by decide) ?_
      refine lv_bipush (v := (115 : Int32)) hx hb dX11_orderOfP_108 (by decide) ?_
      obtain ⟨q110, hq110, hf⟩ := ob_some hf
      refine z_callVv (o := 70) (ci := 9) (As := [.int (114 : Int32), .int (101 : Int32), .int (115 : Int32), .int (115 : Int32)]) (rest := []) (t_X11_signs G l hN (114 : Int32) (101 : Int32) (115 : Int32) (115 : Int32) h hq110) cv_X11_signs hx hb hml hl.1 Z hw (by decide) (by decide) (by omega) rfl rfl wd1064 rfl rfl (Nat.le_of_ble_eq_true rfl) (by decide) dX11_orderOfP_110 (fun H locs hw => ?_)
      refine lv_aload_n hx hb dX11_orderOfP_113 rfl (lv_at hl 0 rfl) ?_
      refine lv_bipush (v := (61 : Int32)) hx hb dX11_orderOfP_114 (by decide) ?_
      refine lv_bipush (v := (61 : Int32)) hx hb dX11_orderOfP_116 (by decide) ?_
      obtain ⟨q118, hq118, hf⟩ := ob_some hf
      refine z_callVi (o := 70) (ci := 9) (As := [.int (61 : Int32), .int (61 : Int32)]) (rest := []) (t_X11_sign G l hN (61 : Int32) (61 : Int32) q110 hq118) cv_X11_sign hx hb hml hl.1 Z hw (by decide) (by decide) (by omega) rfl rfl wd1056 rfl rfl (Nat.le_of_ble_eq_true rfl) (by decide) dX11_orderOfP_118 (fun H locs hw => ?_)
      refine lv_istore_n (lv' := [(2, _), (0, _), (1, _)]) hx hb dX11_orderOfP_121 rfl hl (by decide) rfl (fun ls hl => ?_)
      refine lv_aload_n hx hb dX11_orderOfP_122 rfl (lv_at hl 1 rfl) ?_
      refine lv_iconst (v := (0 : Int32)) hx hb dX11_orderOfP_123 (by decide) ?_
      refine lv_sipush (v := (9999 : Int32)) hx hb dX11_orderOfP_124 (by decide) ?_
      obtain ⟨q127, hq127, hf⟩ := ob_some hf
      refine z_callVi (o := 70) (ci := 9) (As := [.int (0 : Int32), .int (9999 : Int32)]) (rest := []) (t_X11_number G l hN (0 : Int32) (9999 : Int32) q118.2 hq127) cv_X11_number hx hb hml hl.1 Z hw (by decide) (by decide) (by omega) rfl rfl wd1068 rfl rfl (Nat.le_of_ble_eq_true rfl) (by decide) dX11_orderOfP_127 (fun H locs hw => ?_)
      refine lv_istore_n (lv' := [(3, _), (2, _), (0, _), (1, _)]) hx hb dX11_orderOfP_130 rfl hl (by decide) rfl (fun ls hl => ?_)
      refine lv_aload_n hx hb dX11_orderOfP_131 rfl (lv_at hl 2 rfl) ?_
      refine lv_bipush (v := (46 : Int32)) hx hb dX11_orderOfP_132 (by decide) ?_
      refine lv_bipush (v := (46 : Int32)) hx hb dX11_orderOfP_134 (by decide) ?_
      obtain ⟨q136, hq136, hf⟩ := ob_some hf
      refine z_callVi (o := 70) (ci := 9) (As := [.int (46 : Int32), .int (46 : Int32)]) (rest := []) (t_X11_sign G l hN (46 : Int32) (46 : Int32) q127.2 hq136) cv_X11_sign hx hb hml hl.1 Z hw (by decide) (by decide) (by omega) rfl rfl wd1056 rfl rfl (Nat.le_of_ble_eq_true rfl) (by decide) dX11_orderOfP_136 (fun H locs hw => ?_)
      refine lv_istore (lv' := [(4, _), (3, _), (2, _), (0, _), (1, _)]) hx hb dX11_orderOfP_139 hl (by decide) rfl (fun ls hl => ?_)
      refine lv_aload_n hx hb dX11_orderOfP_141 rfl (lv_at hl 3 rfl) ?_
      refine lv_bipush (v := (48 : Int32)) hx hb dX11_orderOfP_142 (by decide) ?_
      refine lv_bipush (v := (51 : Int32)) hx hb dX11_orderOfP_144 (by decide) ?_
      obtain ⟨q146, hq146, hf⟩ := ob_some hf
      refine z_callVi (o := 70) (ci := 9) (As := [.int (48 : Int32), .int (51 : Int32)]) (rest := []) (t_X11_sign G l hN (48 : Int32) (51 : Int32) q136.2 hq146) cv_X11_sign hx hb hml hl.1 Z hw (by decide) (by decide) (by omega) rfl rfl wd1056 rfl rfl (Nat.le_of_ble_eq_true rfl) (by decide) dX11_orderOfP_146 (fun H locs hw => ?_)
      refine lv_bipush (v := (48 : Int32)) hx hb dX11_orderOfP_149 (by decide) ?_
      refine lv_isub hx hb dX11_orderOfP_151 ?_
      refine lv_istore (lv' := [(5, _), (4, _), (3, _), (2, _), (0, _), (1, _)]) hx hb dX11_orderOfP_152 hl (by decide) rfl (fun ls hl => ?_)
      refine lv_aload_n hx hb dX11_orderOfP_154 rfl (lv_at hl 4 rfl) ?_
      refine lv_bipush (v := (58 : Int32)) hx hb dX11_orderOfP_155 (by decide) ?_
      refine lv_iconst (v := (0 : Int32)) hx hb dX11_orderOfP_157 (by decide) ?_
      refine lv_bipush (v := (15 : Int32)) hx hb dX11_orderOfP_158 (by decide) ?_
      obtain ⟨q160, hq160, hf⟩ := ob_some hf
      refine z_callVi (o := 70) (ci := 9) (As := [.int (58 : Int32), .int (0 : Int32), .int (15 : Int32)]) (rest := []) (t_X11_behind G l hN (58 : Int32) (0 : Int32) (15 : Int32) q146.2 hq160) cv_X11_behind hx hb hml hl.1 Z hw (by decide) (by decide) (by omega) rfl rfl wd1072 rfl rfl (Nat.le_of_ble_eq_true rfl) (by decide) dX11_orderOfP_160 (fun H locs hw => ?_)
      refine lv_istore (lv' := [(6, _), (5, _), (4, _), (3, _), (2, _), (0, _), (1, _)]) hx hb dX11_orderOfP_163 hl (by decide) rfl (fun ls hl => ?_)
      refine lv_iload_n hx hb dX11_orderOfP_165 rfl (lv_at hl 6 rfl) ?_
      refine lv_if_eq (tgt := 181) hx hb dX11_orderOfP_166 (by decide) (fun c166 => ?_) (fun c166 => ?_)
      · have hf := (if_pos c166).symm.trans hf
        refine lv_iconst (v := (0 : Int32)) hx hb dX11_orderOfP_181 (by decide) ?_
        obtain ⟨rfl, rfl⟩ := Prod.mk.inj (Option.some.inj hf)
        exact z_iret hx hb hr hlk hw dX11_orderOfP_182
      · have hf := (if_neg c166).symm.trans hf
        refine lv_aload_n hx hb dX11_orderOfP_169 rfl (lv_at hl 5 rfl) ?_
        refine lv_iload_n hx hb dX11_orderOfP_170 rfl (lv_at hl 3 rfl) ?_
        refine lv_iload hx hb dX11_orderOfP_171 (lv_at hl 1 rfl) ?_
        refine lv_iload hx hb dX11_orderOfP_173 (lv_at hl 0 rfl) ?_
        obtain ⟨q175, hq175, hf⟩ := ob_some hf
        refine z_callVi (o := 70) (ci := 9) (As := [.int q127.1, .int (q146.1 - (48 : Int32)), .int q160.1]) (rest := []) (t_X11_presses G l hN q127.1 (q146.1 - (48 : Int32)) q160.1 q160.2 hq175) cv_X11_presses hx hb hml hl.1 Z hw (by decide) (by decide) (by omega) rfl rfl wd918 rfl rfl (Nat.le_of_ble_eq_true rfl) (by decide) dX11_orderOfP_175 (fun H locs hw => ?_)
        refine lv_goto (tgt := 182) hx hb dX11_orderOfP_178 (by decide) ?_
        obtain ⟨rfl, rfl⟩ := Prod.mk.inj (Option.some.inj hf)
        exact z_iret hx hb hr hlk hw dX11_orderOfP_182
    · have hf := (if_neg c63).symm.trans hf
      refine lv_aload_n hx hb dX11_orderOfP_66 rfl (lv_at hl 0 rfl) ?_
      refine lv_bipush (v := (108 : Int32)) hx hb dX11_orderOfP_67 (by decide) ?_
      refine lv_bipush (v := (97 : Int32)) hx hb dX11_orderOfP_69 (by decide) ?_
      refine lv_bipush (v := (121 : Int32)) hx hb dX11_orderOfP_71 (by decide) ?_
      refine lv_bipush (v := (61 : Int32)) hx hb dX11_orderOfP_73 (by decide) ?_
      obtain ⟨q75, hq75, hf⟩ := ob_some hf
      refine z_callVv (o := 70) (ci := 9) (As := [.int (108 : Int32), .int (97 : Int32), .int (121 : Int32), .int (61 : Int32)]) (rest := []) (t_X11_signs G l hN (108 : Int32) (97 : Int32) (121 : Int32) (61 : Int32) h hq75) cv_X11_signs hx hb hml hl.1 Z hw (by decide) (by decide) (by omega) rfl rfl wd1064 rfl rfl (Nat.le_of_ble_eq_true rfl) (by decide) dX11_orderOfP_75 (fun H locs hw => ?_)
      refine lv_aload_n hx hb dX11_orderOfP_78 rfl (lv_at hl 0 rfl) ?_
      refine lv_iconst (v := (1 : Int32)) hx hb dX11_orderOfP_79 (by decide) ?_
      refine lv_sipush (v := (999 : Int32)) hx hb dX11_orderOfP_80 (by decide) ?_
      obtain ⟨q83, hq83, hf⟩ := ob_some hf
      refine z_callVi (o := 70) (ci := 9) (As := [.int (1 : Int32), .int (999 : Int32)]) (rest := []) (t_X11_number G l hN (1 : Int32) (999 : Int32) q75 hq83) cv_X11_number hx hb hml hl.1 Z hw (by decide) (by decide) (by omega) rfl rfl wd1068 rfl rfl (Nat.le_of_ble_eq_true rfl) (by decide) dX11_orderOfP_83 (fun H locs hw => ?_)
      refine lv_istore_n (lv' := [(2, _), (0, _), (1, _)]) hx hb dX11_orderOfP_86 rfl hl (by decide) rfl (fun ls hl => ?_)
      refine lv_iload_n hx hb dX11_orderOfP_87 rfl (lv_at hl 2 rfl) ?_
      refine lv_if_eq (tgt := 99) hx hb dX11_orderOfP_88 (by decide) (fun c88 => ?_) (fun c88 => ?_)
      · have hf := (if_pos c88).symm.trans hf
        refine lv_iconst (v := (0 : Int32)) hx hb dX11_orderOfP_99 (by decide) ?_
        obtain ⟨rfl, rfl⟩ := Prod.mk.inj (Option.some.inj hf)
        exact z_iret hx hb hr hlk hw dX11_orderOfP_100
      · have hf := (if_neg c88).symm.trans hf
        refine lv_aload_n hx hb dX11_orderOfP_91 rfl (lv_at hl 1 rfl) ?_
        refine lv_iload_n hx hb dX11_orderOfP_92 rfl (lv_at hl 0 rfl) ?_
        obtain ⟨q93, hq93, hf⟩ := ob_some hf
        refine z_callVi (o := 70) (ci := 9) (As := [.int q83.1]) (rest := []) (t_X11_plays G l hN q83.1 q83.2 hq93) cv_X11_plays hx hb hml hl.1 Z hw (by decide) (by decide) (by omega) rfl rfl wd1005 rfl rfl (Nat.le_of_ble_eq_true rfl) (by decide) dX11_orderOfP_93 (fun H locs hw => ?_)
        refine lv_goto (tgt := 100) hx hb dX11_orderOfP_96 (by decide) ?_
        obtain ⟨rfl, rfl⟩ := Prod.mk.inj (Option.some.inj hf)
        exact z_iret hx hb hr hlk hw dX11_orderOfP_100
  · have hf := (if_neg c6).symm.trans hf
    refine lv_aload_n hx hb dX11_orderOfP_9 rfl (lv_at hl 0 rfl) ?_
    refine lv_bipush (v := (111 : Int32)) hx hb dX11_orderOfP_10 (by decide) ?_
    refine lv_bipush (v := (108 : Int32)) hx hb dX11_orderOfP_12 (by decide) ?_
    refine lv_bipush (v := (105 : Int32)) hx hb dX11_orderOfP_14 (by decide) ?_
    refine lv_bipush (v := (115 : Int32)) hx hb dX11_orderOfP_16 (by decide) ?_
    obtain ⟨q18, hq18, hf⟩ := ob_some hf
    refine z_callVv (o := 70) (ci := 9) (As := [.int (111 : Int32), .int (108 : Int32), .int (105 : Int32), .int (115 : Int32)]) (rest := []) (t_X11_signs G l hN (111 : Int32) (108 : Int32) (105 : Int32) (115 : Int32) h hq18) cv_X11_signs hx hb hml hl.1 Z hw (by decide) (by decide) (by omega) rfl rfl wd1064 rfl rfl (Nat.le_of_ble_eq_true rfl) (by decide) dX11_orderOfP_18 (fun H locs hw => ?_)
    refine lv_aload_n hx hb dX11_orderOfP_21 rfl (lv_at hl 0 rfl) ?_
    refine lv_bipush (v := (104 : Int32)) hx hb dX11_orderOfP_22 (by decide) ?_
    refine lv_bipush (v := (61 : Int32)) hx hb dX11_orderOfP_24 (by decide) ?_
    refine lv_iconst (v := (0 : Int32)) hx hb dX11_orderOfP_26 (by decide) ?_
    refine lv_iconst (v := (0 : Int32)) hx hb dX11_orderOfP_27 (by decide) ?_
    obtain ⟨q28, hq28, hf⟩ := ob_some hf
    refine z_callVv (o := 70) (ci := 9) (As := [.int (104 : Int32), .int (61 : Int32), .int (0 : Int32), .int (0 : Int32)]) (rest := []) (t_X11_signs G l hN (104 : Int32) (61 : Int32) (0 : Int32) (0 : Int32) q18 hq28) cv_X11_signs hx hb hml hl.1 Z hw (by decide) (by decide) (by omega) rfl rfl wd1064 rfl rfl (Nat.le_of_ble_eq_true rfl) (by decide) dX11_orderOfP_28 (fun H locs hw => ?_)
    refine lv_aload_n hx hb dX11_orderOfP_31 rfl (lv_at hl 0 rfl) ?_
    refine lv_bipush (v := (48 : Int32)) hx hb dX11_orderOfP_32 (by decide) ?_
    refine lv_bipush (v := (57 : Int32)) hx hb dX11_orderOfP_34 (by decide) ?_
    obtain ⟨q36, hq36, hf⟩ := ob_some hf
    refine z_callVi (o := 70) (ci := 9) (As := [.int (48 : Int32), .int (57 : Int32)]) (rest := []) (t_X11_sign G l hN (48 : Int32) (57 : Int32) q28 hq36) cv_X11_sign hx hb hml hl.1 Z hw (by decide) (by decide) (by omega) rfl rfl wd1056 rfl rfl (Nat.le_of_ble_eq_true rfl) (by decide) dX11_orderOfP_36 (fun H locs hw => ?_)
    refine lv_bipush (v := (48 : Int32)) hx hb dX11_orderOfP_39 (by decide) ?_
    refine lv_isub hx hb dX11_orderOfP_41 ?_
    refine lv_istore_n (lv' := [(2, _), (0, _), (1, _)]) hx hb dX11_orderOfP_42 rfl hl (by decide) rfl (fun ls hl => ?_)
    refine lv_iload_n hx hb dX11_orderOfP_43 rfl (lv_at hl 2 rfl) ?_
    refine lv_if_eq (tgt := 55) hx hb dX11_orderOfP_44 (by decide) (fun c44 => ?_) (fun c44 => ?_)
    · have hf := (if_pos c44).symm.trans hf
      refine lv_iconst (v := (0 : Int32)) hx hb dX11_orderOfP_55 (by decide) ?_
      obtain ⟨rfl, rfl⟩ := Prod.mk.inj (Option.some.inj hf)
      exact z_iret hx hb hr hlk hw dX11_orderOfP_56
    · have hf := (if_neg c44).symm.trans hf
      refine lv_aload_n hx hb dX11_orderOfP_47 rfl (lv_at hl 1 rfl) ?_
      refine lv_iload_n hx hb dX11_orderOfP_48 rfl (lv_at hl 0 rfl) ?_
      obtain ⟨q49, hq49, hf⟩ := ob_some hf
      refine z_callVi (o := 70) (ci := 9) (As := [.int (q36.1 - (48 : Int32))]) (rest := []) (t_X11_polishes G l hN (q36.1 - (48 : Int32)) q36.2 hq49) cv_X11_polishes hx hb hml hl.1 Z hw (by decide) (by decide) (by omega) rfl rfl wd987 rfl rfl (Nat.le_of_ble_eq_true rfl) (by decide) dX11_orderOfP_49 (fun H locs hw => ?_)
      refine lv_goto (tgt := 56) hx hb dX11_orderOfP_52 (by decide) ?_
      obtain ⟨rfl, rfl⟩ := Prod.mk.inj (Option.some.inj hf)
      exact z_iret hx hb hr hlk hw dX11_orderOfP_56
set_option maxHeartbeats 4000000 in
set_option maxRecDepth 100000 in
theorem w_X11_go_L14 (G : GM) (l : Launch) (hN : 77 ≤ gN G)  {p : Program} {e : Env} {s : State} {m : MethodId} {args : Array Value} {below : List Frame} {meth : Method} {c : Code} (hx : p.tables.exec = Jvm.exec) (hb : c.code = cX11_go) (hr : meth.sig.returnType = (some .int)) (hlk : meth.locks = false) (hml : c.maxLocals = 8) (Z : ZK G s args m RX11) : ∀ (n : Nat) (x1 : Int32) (x2 : Int32) (x3 : Int32)  (h : HP) (r : Int32) (h' : HP) (ls : Array Slot) (H : Heap) (locs : List Loc), lv_has ls 8 [(0, .ref (ra G 70)), (1, .int x1), (2, .int x2), (3, .int x3)] → HW G h s H locs → f_X11_go_L14 n x1 x2 x3 h = some (r, h') → WZ p l e 5 s m args below meth c G (some (.int r)) h' H locs (F0 m 14 ls []) := by
  intro n
  induction n with
  | zero => intro x1 x2 x3  h r h' ls H locs hl hw hf; cases hf
  | succ n ih =>
    intro x1 x2 x3  h r h' ls H locs hl hw hf
    rw [f_X11_go_L14] at hf
    refine lv_iload_n hx hb dX11_go_14 rfl (lv_at hl 3 rfl) ?_
    refine lv_if_eq (tgt := 155) hx hb dX11_go_15 (by decide) (fun c15 => ?_) (fun c15 => ?_)
    · have hf := (if_pos c15).symm.trans hf
      refine lv_iload_n hx hb dX11_go_155 rfl (lv_at hl 2 rfl) ?_
      obtain ⟨rfl, rfl⟩ := Prod.mk.inj (Option.some.inj hf)
      exact z_iret hx hb hr hlk hw dX11_go_156
    · have hf := (if_neg c15).symm.trans hf
      refine lv_aload_n hx hb dX11_go_18 rfl (lv_at hl 0 rfl) ?_
      refine lv_bipush (v := (115 : Int32)) hx hb dX11_go_19 (by decide) ?_
      obtain ⟨q21, hq21, hf⟩ := ob_some hf
      refine z_callVi (o := 70) (ci := 9) (As := [.int (115 : Int32)]) (rest := []) (t_X11_isNext G l hN (115 : Int32) h hq21) cv_X11_isNext hx hb hml hl.1 Z hw (by decide) (by decide) (by omega) rfl rfl wd1052 rfl rfl (Nat.le_of_ble_eq_true rfl) (by decide) dX11_go_21 (fun H locs hw => ?_)
      refine lv_istore (lv' := [(4, _), (0, _), (1, _), (2, _), (3, _)]) hx hb dX11_go_24 hl (by decide) rfl (fun ls hl => ?_)
      refine lv_iload hx hb dX11_go_26 (lv_at hl 0 rfl) ?_
      obtain ⟨j28, hqj28, hf⟩ := ob_some hf
      have HJ50 : ∀ (ls : Array Slot) (H : Heap) (locs : List Loc), lv_has ls 8 [(0, .ref (ra G 70)), (1, .int x1), (2, .int x2), (4, .int q21)] → HW G j28.2 s H locs → WZ p l e 5 s m args below meth c G (some (.int r)) h' H locs (F0 m 50 ls [.int j28.1]) := by
        intro ls H locs hl hw
        refine lv_istore (lv' := [(5, _), (0, _), (1, _), (2, _), (4, _)]) hx hb dX11_go_50 hl (by decide) rfl (fun ls hl => ?_)
        refine lv_aload_n hx hb dX11_go_52 rfl (lv_at hl 1 rfl) ?_
        refine z_geti (o := 70) (C := RX11) (T := TX11) (N := 11) (ci := 9) (k := 10) hx hb Z hw (by decide) (by omega) rfl inX11 (by decide) wd885 dX11_go_53 ?_
        obtain ⟨j56, hqj56, hf⟩ := ob_some hf
        have HJ81 : ∀ (ls : Array Slot) (H : Heap) (locs : List Loc), lv_has ls 8 [(0, .ref (ra G 70)), (1, .int x1), (2, .int x2)] → HW G j56.2 s H locs → WZ p l e 5 s m args below meth c G (some (.int r)) h' H locs (F0 m 81 ls [.int j56.1]) := by
          intro ls H locs hl hw
          refine lv_istore (lv' := [(6, _), (0, _), (1, _), (2, _)]) hx hb dX11_go_81 hl (by decide) rfl (fun ls hl => ?_)
          refine lv_iload hx hb dX11_go_83 (lv_at hl 0 rfl) ?_
          refine lv_if_ge (tgt := 98) hx hb dX11_go_85 (by decide) (fun c85 => ?_) (fun c85 => ?_)
          · have hf := (if_pos c85).symm.trans hf
            refine lv_iinc (v := x2 + (1 : Int32)) (lv' := [(2, _), (6, _), (0, _), (1, _)]) hx hb dX11_go_98 hl (k := 3) rfl rfl (by decide) rfl (fun ls hl => ?_)
            refine lv_aload_n hx hb dX11_go_101 rfl (lv_at hl 2 rfl) ?_
            refine z_geti (o := 70) (C := RX11) (T := TX11) (N := 11) (ci := 9) (k := 10) hx hb Z hw (by decide) (by omega) rfl inX11 (by decide) wd885 dX11_go_102 ?_
            have HJ124 : ∀ (ls : Array Slot) (H : Heap) (locs : List Loc), lv_has ls 8 [(0, .ref (ra G 70)), (1, .int x1), (2, .int (x2 + (1 : Int32)))] → HW G j56.2 s H locs → WZ p l e 5 s m args below meth c G (some (.int r)) h' H locs (F0 m 124 ls [.int (if (j56.2 70 10) = 0 then (if (j56.2 70 7) ≤ (j56.2 70 9) then (0 : Int32) else (1 : Int32)) else (0 : Int32))]) := by
              intro ls H locs hl hw
              obtain ⟨v124, hqv124, hf⟩ := tb_ex hf
              refine z_top hqv124 ?_
              refine lv_istore_n (lv' := [(3, _), (0, _), (1, _), (2, _)]) hx hb dX11_go_124 rfl hl (by decide) rfl (fun ls hl => ?_)
              refine lv_iload_n hx hb dX11_go_125 rfl (lv_at hl 0 rfl) ?_
              obtain ⟨j126, hqj126, hf⟩ := ob_some hf
              have HJ152 : ∀ (ls : Array Slot) (H : Heap) (locs : List Loc), lv_has ls 8 [(0, .ref (ra G 70)), (1, .int x1), (2, .int (x2 + (1 : Int32))), (3, .int j126.1)] → HW G j126.2 s H locs → WZ p l e 5 s m args below meth c G (some (.int r)) h' H locs (F0 m 152 ls []) := by
                intro ls H locs hl hw
                refine lv_goto (tgt := 14) hx hb dX11_go_152 (by decide) ?_
                exact ih x1 (x2 + (1 : Int32)) j126.1 j126.2 r h' ls H locs (lv_sub hl [0, 1, 2, 3] rfl) hw hf
              have hf := hqj126
              refine lv_if_eq (tgt := 152) hx hb dX11_go_126 (by decide) (fun c126 => ?_) (fun c126 => ?_)
              · have hf := (if_pos c126).symm.trans hf
                obtain rfl := Option.some.inj hf
                exact HJ152 ls H locs (lv_sub hl [1, 2, 3, 0] rfl) hw
              · have hf := (if_neg c126).symm.trans hf
                refine lv_aload_n hx hb dX11_go_129 rfl (lv_at hl 1 rfl) ?_
                refine lv_bipush (v := (59 : Int32)) hx hb dX11_go_130 (by decide) ?_
                refine lv_bipush (v := (59 : Int32)) hx hb dX11_go_132 (by decide) ?_
                obtain ⟨q134, hq134, hf⟩ := ob_some hf
                refine z_callVi (o := 70) (ci := 9) (As := [.int (59 : Int32), .int (59 : Int32)]) (rest := []) (t_X11_sign G l hN (59 : Int32) (59 : Int32) j56.2 hq134) cv_X11_sign hx hb hml hl.1 Z hw (by decide) (by decide) (by omega) rfl rfl wd1056 rfl rfl (Nat.le_of_ble_eq_true rfl) (by decide) dX11_go_134 (fun H locs hw => ?_)
                refine lv_istore (lv' := [(7, _), (3, _), (0, _), (1, _), (2, _)]) hx hb dX11_go_137 hl (by decide) rfl (fun ls hl => ?_)
                refine lv_aload_n hx hb dX11_go_139 rfl (lv_at hl 2 rfl) ?_
                refine z_geti (o := 70) (C := RX11) (T := TX11) (N := 11) (ci := 9) (k := 10) hx hb Z hw (by decide) (by omega) rfl inX11 (by decide) wd885 dX11_go_140 ?_
                have HJ151 : ∀ (ls : Array Slot) (H : Heap) (locs : List Loc), lv_has ls 8 [(0, .ref (ra G 70)), (1, .int x1), (2, .int (x2 + (1 : Int32)))] → HW G q134.2 s H locs → WZ p l e 5 s m args below meth c G (some (.int r)) h' H locs (F0 m 151 ls [.int (if (q134.2 70 10) = 0 then (1 : Int32) else (0 : Int32))]) := by
                  intro ls H locs hl hw
                  obtain ⟨v151, hqv151, hf⟩ := tb_ex hf
                  refine z_top hqv151 ?_
                  refine lv_istore_n (lv' := [(3, _), (0, _), (1, _), (2, _)]) hx hb dX11_go_151 rfl hl (by decide) rfl (fun ls hl => ?_)
                  obtain rfl := Option.some.inj hf
                  exact HJ152 ls H locs (lv_sub hl [1, 2, 3, 0] rfl) hw
                refine lv_if_ne (tgt := 150) hx hb dX11_go_143 (by decide) (fun c143 => ?_) (fun c143 => ?_)
                · skip
                  refine lv_iconst (v := (0 : Int32)) hx hb dX11_go_150 (by decide) ?_
                  refine W.eq (g2 := F0 m 151 ls [.int (if (q134.2 70 10) = 0 then (1 : Int32) else (0 : Int32))]) ?_ (HJ151 ls H locs (lv_sub hl [2, 3, 4] rfl) hw)
                  simp only [if_neg c143]
                · skip
                  refine lv_iconst (v := (1 : Int32)) hx hb dX11_go_146 (by decide) ?_
                  refine lv_goto (tgt := 151) hx hb dX11_go_147 (by decide) ?_
                  refine W.eq (g2 := F0 m 151 ls [.int (if (q134.2 70 10) = 0 then (1 : Int32) else (0 : Int32))]) ?_ (HJ151 ls H locs (lv_sub hl [2, 3, 4] rfl) hw)
                  simp only [if_pos c143]
            refine lv_if_ne (tgt := 123) hx hb dX11_go_105 (by decide) (fun c105 => ?_) (fun c105 => ?_)
            · skip
              refine lv_iconst (v := (0 : Int32)) hx hb dX11_go_123 (by decide) ?_
              refine W.eq (g2 := F0 m 124 ls [.int (if (j56.2 70 10) = 0 then (if (j56.2 70 7) ≤ (j56.2 70 9) then (0 : Int32) else (1 : Int32)) else (0 : Int32))]) ?_ (HJ124 ls H locs (lv_sub hl [2, 3, 0] rfl) hw)
              simp only [if_neg c105]
            · skip
              refine lv_aload_n hx hb dX11_go_108 rfl (lv_at hl 2 rfl) ?_
              refine z_geti (o := 70) (C := RX11) (T := TX11) (N := 11) (ci := 9) (k := 9) hx hb Z hw (by decide) (by omega) rfl inX11 (by decide) wd884 dX11_go_109 ?_
              refine lv_aload_n hx hb dX11_go_112 rfl (lv_at hl 2 rfl) ?_
              refine z_geti (o := 70) (C := RX11) (T := TX11) (N := 11) (ci := 9) (k := 7) hx hb Z hw (by decide) (by omega) rfl inX11 (by decide) wd882 dX11_go_113 ?_
              refine lv_icmp_ge (tgt := 123) hx hb dX11_go_116 (by decide) (fun c116 => ?_) (fun c116 => ?_)
              · skip
                refine lv_iconst (v := (0 : Int32)) hx hb dX11_go_123 (by decide) ?_
                refine W.eq (g2 := F0 m 124 ls [.int (if (j56.2 70 10) = 0 then (if (j56.2 70 7) ≤ (j56.2 70 9) then (0 : Int32) else (1 : Int32)) else (0 : Int32))]) ?_ (HJ124 ls H locs (lv_sub hl [2, 3, 0] rfl) hw)
                simp only [if_pos c105, if_pos c116]
              · skip
                refine lv_iconst (v := (1 : Int32)) hx hb dX11_go_119 (by decide) ?_
                refine lv_goto (tgt := 124) hx hb dX11_go_120 (by decide) ?_
                refine W.eq (g2 := F0 m 124 ls [.int (if (j56.2 70 10) = 0 then (if (j56.2 70 7) ≤ (j56.2 70 9) then (0 : Int32) else (1 : Int32)) else (0 : Int32))]) ?_ (HJ124 ls H locs (lv_sub hl [2, 3, 0] rfl) hw)
                simp only [if_pos c105, if_neg c116]
          · have hf := (if_neg c85).symm.trans hf
            refine lv_iload hx hb dX11_go_88 (lv_at hl 0 rfl) ?_
            refine lv_bipush (v := (-5 : Int32)) hx hb dX11_go_90 (by decide) ?_
            refine lv_icmp_eq (tgt := 98) hx hb dX11_go_92 (by decide) (fun c92 => ?_) (fun c92 => ?_)
            · have hf := (if_pos c92).symm.trans hf
              refine lv_iinc (v := x2 + (1 : Int32)) (lv' := [(2, _), (6, _), (0, _), (1, _)]) hx hb dX11_go_98 hl (k := 3) rfl rfl (by decide) rfl (fun ls hl => ?_)
              refine lv_aload_n hx hb dX11_go_101 rfl (lv_at hl 2 rfl) ?_
              refine z_geti (o := 70) (C := RX11) (T := TX11) (N := 11) (ci := 9) (k := 10) hx hb Z hw (by decide) (by omega) rfl inX11 (by decide) wd885 dX11_go_102 ?_
              have HJ124 : ∀ (ls : Array Slot) (H : Heap) (locs : List Loc), lv_has ls 8 [(0, .ref (ra G 70)), (1, .int x1), (2, .int (x2 + (1 : Int32)))] → HW G j56.2 s H locs → WZ p l e 5 s m args below meth c G (some (.int r)) h' H locs (F0 m 124 ls [.int (if (j56.2 70 10) = 0 then (if (j56.2 70 7) ≤ (j56.2 70 9) then (0 : Int32) else (1 : Int32)) else (0 : Int32))]) := by
                intro ls H locs hl hw
                obtain ⟨v124, hqv124, hf⟩ := tb_ex hf
                refine z_top hqv124 ?_
                refine lv_istore_n (lv' := [(3, _), (0, _), (1, _), (2, _)]) hx hb dX11_go_124 rfl hl (by decide) rfl (fun ls hl => ?_)
                refine lv_iload_n hx hb dX11_go_125 rfl (lv_at hl 0 rfl) ?_
                obtain ⟨j126, hqj126, hf⟩ := ob_some hf
                have HJ152 : ∀ (ls : Array Slot) (H : Heap) (locs : List Loc), lv_has ls 8 [(0, .ref (ra G 70)), (1, .int x1), (2, .int (x2 + (1 : Int32))), (3, .int j126.1)] → HW G j126.2 s H locs → WZ p l e 5 s m args below meth c G (some (.int r)) h' H locs (F0 m 152 ls []) := by
                  intro ls H locs hl hw
                  refine lv_goto (tgt := 14) hx hb dX11_go_152 (by decide) ?_
                  exact ih x1 (x2 + (1 : Int32)) j126.1 j126.2 r h' ls H locs (lv_sub hl [0, 1, 2, 3] rfl) hw hf
                have hf := hqj126
                refine lv_if_eq (tgt := 152) hx hb dX11_go_126 (by decide) (fun c126 => ?_) (fun c126 => ?_)
                · have hf := (if_pos c126).symm.trans hf
                  obtain rfl := Option.some.inj hf
                  exact HJ152 ls H locs (lv_sub hl [1, 2, 3, 0] rfl) hw
                · have hf := (if_neg c126).symm.trans hf
                  refine lv_aload_n hx hb dX11_go_129 rfl (lv_at hl 1 rfl) ?_
                  refine lv_bipush (v := (59 : Int32)) hx hb dX11_go_130 (by decide) ?_
                  refine lv_bipush (v := (59 : Int32)) hx hb dX11_go_132 (by decide) ?_
                  obtain ⟨q134, hq134, hf⟩ := ob_some hf
                  refine z_callVi (o := 70) (ci := 9) (As := [.int (59 : Int32), .int (59 : Int32)]) (rest := []) (t_X11_sign G l hN (59 : Int32) (59 : Int32) j56.2 hq134) cv_X11_sign hx hb hml hl.1 Z hw (by decide) (by decide) (by omega) rfl rfl wd1056 rfl rfl (Nat.le_of_ble_eq_true rfl) (by decide) dX11_go_134 (fun H locs hw => ?_)
                  refine lv_istore (lv' := [(7, _), (3, _), (0, _), (1, _), (2, _)]) hx hb dX11_go_137 hl (by decide) rfl (fun ls hl => ?_)
                  refine lv_aload_n hx hb dX11_go_139 rfl (lv_at hl 2 rfl) ?_
                  refine z_geti (o := 70) (C := RX11) (T := TX11) (N := 11) (ci := 9) (k := 10) hx hb Z hw (by decide) (by omega) rfl inX11 (by decide) wd885 dX11_go_140 ?_
                  have HJ151 : ∀ (ls : Array Slot) (H : Heap) (locs : List Loc), lv_has ls 8 [(0, .ref (ra G 70)), (1, .int x1), (2, .int (x2 + (1 : Int32)))] → HW G q134.2 s H locs → WZ p l e 5 s m args below meth c G (some (.int r)) h' H locs (F0 m 151 ls [.int (if (q134.2 70 10) = 0 then (1 : Int32) else (0 : Int32))]) := by
                    intro ls H locs hl hw
                    obtain ⟨v151, hqv151, hf⟩ := tb_ex hf
                    refine z_top hqv151 ?_
                    refine lv_istore_n (lv' := [(3, _), (0, _), (1, _), (2, _)]) hx hb dX11_go_151 rfl hl (by decide) rfl (fun ls hl => ?_)
                    obtain rfl := Option.some.inj hf
                    exact HJ152 ls H locs (lv_sub hl [1, 2, 3, 0] rfl) hw
                  refine lv_if_ne (tgt := 150) hx hb dX11_go_143 (by decide) (fun c143 => ?_) (fun c143 => ?_)
                  · skip
                    refine lv_iconst (v := (0 : Int32)) hx hb dX11_go_150 (by decide) ?_
                    refine W.eq (g2 := F0 m 151 ls [.int (if (q134.2 70 10) = 0 then (1 : Int32) else (0 : Int32))]) ?_ (HJ151 ls H locs (lv_sub hl [2, 3, 4] rfl) hw)
                    simp only [if_neg c143]
                  · skip
                    refine lv_iconst (v := (1 : Int32)) hx hb dX11_go_146 (by decide) ?_
                    refine lv_goto (tgt := 151) hx hb dX11_go_147 (by decide) ?_
                    refine W.eq (g2 := F0 m 151 ls [.int (if (q134.2 70 10) = 0 then (1 : Int32) else (0 : Int32))]) ?_ (HJ151 ls H locs (lv_sub hl [2, 3, 4] rfl) hw)
                    simp only [if_pos c143]
              refine lv_if_ne (tgt := 123) hx hb dX11_go_105 (by decide) (fun c105 => ?_) (fun c105 => ?_)
              · skip
                refine lv_iconst (v := (0 : Int32)) hx hb dX11_go_123 (by decide) ?_
                refine W.eq (g2 := F0 m 124 ls [.int (if (j56.2 70 10) = 0 then (if (j56.2 70 7) ≤ (j56.2 70 9) then (0 : Int32) else (1 : Int32)) else (0 : Int32))]) ?_ (HJ124 ls H locs (lv_sub hl [2, 3, 0] rfl) hw)
                simp only [if_neg c105]
              · skip
                refine lv_aload_n hx hb dX11_go_108 rfl (lv_at hl 2 rfl) ?_
                refine z_geti (o := 70) (C := RX11) (T := TX11) (N := 11) (ci := 9) (k := 9) hx hb Z hw (by decide) (by omega) rfl inX11 (by decide) wd884 dX11_go_109 ?_
                refine lv_aload_n hx hb dX11_go_112 rfl (lv_at hl 2 rfl) ?_
                refine z_geti (o := 70) (C := RX11) (T := TX11) (N := 11) (ci := 9) (k := 7) hx hb Z hw (by decide) (by omega) rfl inX11 (by decide) wd882 dX11_go_113 ?_
                refine lv_icmp_ge (tgt := 123) hx hb dX11_go_116 (by decide) (fun c116 => ?_) (fun c116 => ?_)
                · skip
                  refine lv_iconst (v := (0 : Int32)) hx hb dX11_go_123 (by decide) ?_
                  refine W.eq (g2 := F0 m 124 ls [.int (if (j56.2 70 10) = 0 then (if (j56.2 70 7) ≤ (j56.2 70 9) then (0 : Int32) else (1 : Int32)) else (0 : Int32))]) ?_ (HJ124 ls H locs (lv_sub hl [2, 3, 0] rfl) hw)
                  simp only [if_pos c105, if_pos c116]
                · skip
                  refine lv_iconst (v := (1 : Int32)) hx hb dX11_go_119 (by decide) ?_
                  refine lv_goto (tgt := 124) hx hb dX11_go_120 (by decide) ?_
                  refine W.eq (g2 := F0 m 124 ls [.int (if (j56.2 70 10) = 0 then (if (j56.2 70 7) ≤ (j56.2 70 9) then (0 : Int32) else (1 : Int32)) else (0 : Int32))]) ?_ (HJ124 ls H locs (lv_sub hl [2, 3, 0] rfl) hw)
                  simp only [if_pos c105, if_neg c116]
            · have hf := (if_neg c92).symm.trans hf
              refine lv_iload hx hb dX11_go_95 (lv_at hl 0 rfl) ?_
              obtain ⟨rfl, rfl⟩ := Prod.mk.inj (Option.some.inj hf)
              exact z_iret hx hb hr hlk hw dX11_go_97
        have hf := hqj56
        refine lv_if_eq (tgt := 63) hx hb dX11_go_56 (by decide) (fun c56 => ?_) (fun c56 => ?_)
        · have hf := (if_pos c56).symm.trans hf
          refine lv_iload hx hb dX11_go_63 (lv_at hl 4 rfl) ?_
          refine lv_if_eq (tgt := 76) hx hb dX11_go_65 (by decide) (fun c65 => ?_) (fun c65 => ?_)
          · have hf := (if_pos c65).symm.trans hf
            refine lv_aload_n hx hb dX11_go_76 rfl (lv_at hl 1 rfl) ?_
            refine lv_iload_n hx hb dX11_go_77 rfl (lv_at hl 2 rfl) ?_
            obtain ⟨q78, hq78, hf⟩ := ob_some hf
            refine z_callVi (o := 70) (ci := 9) (As := [.int x1]) (rest := []) (t_X11_orderOfP G l hN x1 j28.2 hq78) cv_X11_orderOfP hx hb hml hl.1 Z hw (by decide) (by decide) (by omega) rfl rfl wd1076 rfl rfl (Nat.le_of_ble_eq_true rfl) (by decide) dX11_go_78 (fun H locs hw => ?_)
            obtain rfl := Option.some.inj hf
            exact HJ81 ls H locs (lv_sub hl [1, 2, 3] rfl) hw
          · have hf := (if_neg c65).symm.trans hf
            refine lv_aload_n hx hb dX11_go_68 rfl (lv_at hl 1 rfl) ?_
            refine lv_iload_n hx hb dX11_go_69 rfl (lv_at hl 2 rfl) ?_
            obtain ⟨q70, hq70, hf⟩ := ob_some hf
            refine z_callVi (o := 70) (ci := 9) (As := [.int x1]) (rest := []) (t_X11_orderOfS G l hN x1 j28.2 hq70) cv_X11_orderOfS hx hb hml hl.1 Z hw (by decide) (by decide) (by omega) rfl rfl wd1060 rfl rfl (Nat.le_of_ble_eq_true rfl) (by decide) dX11_go_70 (fun H locs hw => ?_)
            refine lv_goto (tgt := 81) hx hb dX11_go_73 (by decide) ?_
            obtain rfl := Option.some.inj hf
            exact HJ81 ls H locs (lv_sub hl [1, 2, 3] rfl) hw
        · have hf := (if_neg c56).symm.trans hf
          refine lv_iconst (v := (0 : Int32)) hx hb dX11_go_59 (by decide) ?_
          refine lv_goto (tgt := 81) hx hb dX11_go_60 (by decide) ?_
          obtain rfl := Option.some.inj hf
          exact HJ81 ls H locs (lv_sub hl [1, 2, 3] rfl) hw
      have hf := hqj28
      refine lv_if_eq (tgt := 42) hx hb dX11_go_28 (by decide) (fun c28 => ?_) (fun c28 => ?_)
      · have hf := (if_pos c28).symm.trans hf
        refine lv_aload_n hx hb dX11_go_42 rfl (lv_at hl 1 rfl) ?_
        refine lv_bipush (v := (112 : Int32)) hx hb dX11_go_43 (by decide) ?_
        refine lv_bipush (v := (112 : Int32)) hx hb dX11_go_45 (by decide) ?_
        obtain ⟨q47, hq47, hf⟩ := ob_some hf
        refine z_callVi (o := 70) (ci := 9) (As := [.int (112 : Int32), .int (112 : Int32)]) (rest := []) (t_X11_sign G l hN (112 : Int32) (112 : Int32) h hq47) cv_X11_sign hx hb hml hl.1 Z hw (by decide) (by decide) (by omega) rfl rfl wd1056 rfl rfl (Nat.le_of_ble_eq_true rfl) (by decide) dX11_go_47 (fun H locs hw => ?_)
        obtain rfl := Option.some.inj hf
        exact HJ50 ls H locs (lv_sub hl [1, 2, 3, 0] rfl) hw
      · have hf := (if_neg c28).symm.trans hf
        refine lv_aload_n hx hb dX11_go_31 rfl (lv_at hl 1 rfl) ?_
        refine lv_bipush (v := (115 : Int32)) hx hb dX11_go_32 (by decide) ?_
        refine lv_bipush (v := (115 : Int32)) hx hb dX11_go_34 (by decide) ?_
        obtain ⟨q36, hq36, hf⟩ := ob_some hf
        refine z_callVi (o := 70) (ci := 9) (As := [.int (115 : Int32), .int (115 : Int32)]) (rest := []) (t_X11_sign G l hN (115 : Int32) (115 : Int32) h hq36) cv_X11_sign hx hb hml hl.1 Z hw (by decide) (by decide) (by omega) rfl rfl wd1056 rfl rfl (Nat.le_of_ble_eq_true rfl) (by decide) dX11_go_36 (fun H locs hw => ?_)
        refine lv_goto (tgt := 50) hx hb dX11_go_39 (by decide) ?_
        obtain rfl := Option.some.inj hf
        exact HJ50 ls H locs (lv_sub hl [1, 2, 3, 0] rfl) hw
set_option maxHeartbeats 4000000 in
set_option maxRecDepth 100000 in
theorem t_X11_go (G : GM) (l : Launch) (hN : 77 ≤ gN G) (x1 : Int32) (h : HP) {r : Int32} {h' : HP} (hf : f_X11_go x1 h = some (r, h')) : MC G l yX11_go cX11_go 8 (some .int) 5 [.ref (ra G 70), .int x1] h h' (some (.int r)) := by
  unfold f_X11_go at hf
  refine z_start (by decide) (Nat.le_of_ble_eq_true rfl) ?_
  intro p e s m args below meth c ls hx hb hr hlk hml Z hw hl
  have Z : ZK G s args m RX11 := Z
  have hl : lv_has ls 8 [(0, .ref (ra G 70)), (1, .int x1)] := hl
  obtain ⟨H, hH⟩ : ∃ H, H = s.heap := ⟨_, rfl⟩
  rw [← hH] at hw ⊢
  obtain ⟨locs, hlc⟩ : ∃ locs : List Loc, locs = [] := ⟨_, rfl⟩
  rw [← hlc] at hw ⊢
  refine lv_aload_n hx hb dX11_go_0 rfl (lv_at hl 0 rfl) ?_
  refine lv_iconst (v := (0 : Int32)) hx hb dX11_go_1 (by decide) ?_
  refine z_puti (o := 70) (v := (0 : Int32)) (ty := .int) (C := RX11) (T := TX11) (N := 11) (ci := 9) (k := 9) hx hb Z hw (by decide) (by omega) rfl inX11 tyX11 tyX11_ok nmX11 (by decide) wd884 rfl (by decide +kernel) rfl rfl dX11_go_2 (fun H locs hw => ?_)
  refine lv_aload_n hx hb dX11_go_5 rfl (lv_at hl 0 rfl) ?_
  refine lv_iconst (v := (0 : Int32)) hx hb dX11_go_6 (by decide) ?_
  obtain ⟨h7, hqh7, hf⟩ := tb_ex hf
  rw [hqh7] at hw
  refine z_puti (o := 70) (v := (0 : Int32)) (ty := .boolean) (C := RX11) (T := TX11) (N := 11) (ci := 9) (k := 10) hx hb Z hw (by decide) (by omega) rfl inX11 tyX11 tyX11_ok nmX11 (by decide) wd885 rfl (by decide +kernel) rfl rfl dX11_go_7 (fun H locs hw => ?_)
  refine lv_iconst (v := (0 : Int32)) hx hb dX11_go_10 (by decide) ?_
  refine lv_istore_n (lv' := [(2, _), (0, _), (1, _)]) hx hb dX11_go_11 rfl hl (by decide) rfl (fun ls hl => ?_)
  refine lv_iconst (v := (1 : Int32)) hx hb dX11_go_12 (by decide) ?_
  refine lv_istore_n (lv' := [(3, _), (2, _), (0, _), (1, _)]) hx hb dX11_go_13 rfl hl (by decide) rfl (fun ls hl => ?_)
  exact w_X11_go_L14 G l hN  hx hb hr hlk hml Z FU x1 (0 : Int32) (1 : Int32) (hset h7 70 10 (0 : Int32)) _ _ ls H locs (lv_sub hl [2, 3, 1, 0] rfl) hw hf
