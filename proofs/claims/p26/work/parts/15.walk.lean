/-! walks (by program) -/
set_option maxHeartbeats 4000000 in
set_option maxRecDepth 100000 in
theorem w_L_isWholeSo_L139 (G : GM) (l : Launch) (hN : 70 ≤ gN G)  {p : Program} {e : Env} {s : State} {m : MethodId} {args : Array Value} {below : List Frame} {meth : Method} {c : Code} (hx : p.tables.exec = Jvm.exec) (hb : c.code = cL_isWholeSo) (hr : meth.sig.returnType = (some .boolean)) (hlk : meth.locks = false) (hml : c.maxLocals = 6) (Z : ZK G s args m RL) : ∀ (n : Nat) (x2 : Int32) (x3 : Int32) (x4 : Int32) (x5 : Int32)  (h : HP) (v1 : Int32) (rv : Option Value) (hq : HP) (ls : Array Slot) (H : Heap) (locs : List Loc) {q : Int32 × Int32 × Int32 × HP}, lv_has ls 6 [(0, .ref (ra G 0)), (1, .int v1), (2, .int x2), (3, .int x3), (4, .int x4), (5, .int x5)] → HW G h s H locs → f_L_isWholeSo_L139 n x2 x3 x4 x5 h = some q → (∀ (ls : Array Slot) (H : Heap) (locs : List Loc), lv_has ls 6 [(0, .ref (ra G 0)), (1, .int v1), (2, .int q.1), (3, .int q.2.1), (4, .int q.2.2.1)] → HW G q.2.2.2 s H locs → WZ p l e 6 s m args below meth c G rv hq H locs (F0 m 221 ls [])) → WZ p l e 6 s m args below meth c G rv hq H locs (F0 m 139 ls []) := by
  intro n
  induction n with
  | zero => intro x2 x3 x4 x5  h v1 rv hq ls H locs q hl hw hf kk; cases hf
  | succ n ih =>
    intro x2 x3 x4 x5  h v1 rv hq ls H locs q hl hw hf kk
    rw [f_L_isWholeSo_L139] at hf
    refine lv_iload hx hb dL_isWholeSo_139 (lv_at hl 5 rfl) ?_
    refine lv_bipush (v := (30 : Int32)) hx hb dL_isWholeSo_141 (by decide) ?_
    refine lv_icmp_ge (tgt := 221) hx hb dL_isWholeSo_143 (by decide) (fun c143 => ?_) (fun c143 => ?_)
    · have hf := (if_pos c143).symm.trans hf
      obtain rfl := Option.some.inj hf
      exact kk ls H locs (lv_sub hl [0, 1, 2, 3, 4] rfl) hw
    · have hf := (if_neg c143).symm.trans hf
      refine lv_iload_n hx hb dL_isWholeSo_146 rfl (lv_at hl 2 rfl) ?_
      obtain ⟨j147, hqj147, hf⟩ := ob_some hf
      have HJ192 : ∀ (ls : Array Slot) (H : Heap) (locs : List Loc), lv_has ls 6 [(0, .ref (ra G 0)), (1, .int v1), (3, .int x3), (4, .int x4), (5, .int x5)] → HW G j147.2 s H locs → WZ p l e 6 s m args below meth c G rv hq H locs (F0 m 192 ls [.int j147.1]) := by
        intro ls H locs hl hw
        refine lv_istore_n (lv' := [(2, _), (0, _), (1, _), (3, _), (4, _), (5, _)]) hx hb dL_isWholeSo_192 rfl hl (by decide) rfl (fun ls hl => ?_)
        refine lv_iload_n hx hb dL_isWholeSo_193 rfl (lv_at hl 3 rfl) ?_
        refine lv_aload_n hx hb dL_isWholeSo_194 rfl (lv_at hl 1 rfl) ?_
        refine lv_iload hx hb dL_isWholeSo_195 (lv_at hl 5 rfl) ?_
        refine lv_iconst (v := (0 : Int32)) hx hb dL_isWholeSo_197 (by decide) ?_
        obtain ⟨q198, hq198, hf⟩ := ob_some hf
        refine z_callVi (o := 0) (ci := 8) (As := [.int x5, .int (0 : Int32)]) (rest := [.int x3]) (t_X10_turn G l hN x5 (0 : Int32) j147.2 hq198) cv_X10_turn hx hb hml hl.1 Z hw (by decide) (by decide) (by omega) rfl rfl wd606 rfl rfl (Nat.le_of_ble_eq_true rfl) (by decide) dL_isWholeSo_198 (fun H locs hw => ?_)
        refine lv_iadd hx hb dL_isWholeSo_201 ?_
        refine lv_istore_n (lv' := [(3, _), (2, _), (0, _), (1, _), (4, _), (5, _)]) hx hb dL_isWholeSo_202 rfl hl (by decide) rfl (fun ls hl => ?_)
        refine lv_iload hx hb dL_isWholeSo_203 (lv_at hl 4 rfl) ?_
        refine lv_aload_n hx hb dL_isWholeSo_205 rfl (lv_at hl 2 rfl) ?_
        refine lv_iload hx hb dL_isWholeSo_206 (lv_at hl 5 rfl) ?_
        refine lv_iconst (v := (2 : Int32)) hx hb dL_isWholeSo_208 (by decide) ?_
        obtain ⟨q209, hq209, hf⟩ := ob_some hf
        refine z_callVi (o := 0) (ci := 8) (As := [.int x5, .int (2 : Int32)]) (rest := [.int x4]) (t_X10_turn G l hN x5 (2 : Int32) q198.2 hq209) cv_X10_turn hx hb hml hl.1 Z hw (by decide) (by decide) (by omega) rfl rfl wd606 rfl rfl (Nat.le_of_ble_eq_true rfl) (by decide) dL_isWholeSo_209 (fun H locs hw => ?_)
        refine lv_iadd hx hb dL_isWholeSo_212 ?_
        refine lv_istore (lv' := [(4, _), (3, _), (2, _), (0, _), (1, _), (5, _)]) hx hb dL_isWholeSo_213 hl (by decide) rfl (fun ls hl => ?_)
        refine lv_iinc (v := x5 + (1 : Int32)) (lv' := [(5, _), (4, _), (3, _), (2, _), (0, _), (1, _)]) hx hb dL_isWholeSo_215 hl (k := 5) rfl rfl (by decide) rfl (fun ls hl => ?_)
        refine lv_goto (tgt := 139) hx hb dL_isWholeSo_218 (by decide) ?_
        exact ih j147.1 (x3 + q198.1) (x4 + q209.1) (x5 + (1 : Int32)) q209.2 v1 rv hq ls H locs (lv_sub hl [4, 5, 3, 2, 1, 0] rfl) hw hf kk
      have hf := hqj147
      refine lv_if_eq (tgt := 191) hx hb dL_isWholeSo_147 (by decide) (fun c147 => ?_) (fun c147 => ?_)
      · have hf := (if_pos c147).symm.trans hf
        refine lv_iconst (v := (0 : Int32)) hx hb dL_isWholeSo_191 (by decide) ?_
        obtain rfl := Option.some.inj hf
        exact HJ192 ls H locs (lv_sub hl [0, 1, 3, 4, 5] rfl) hw
      · have hf := (if_neg c147).symm.trans hf
        refine lv_aload_n hx hb dL_isWholeSo_150 rfl (lv_at hl 0 rfl) ?_
        refine lv_iload hx hb dL_isWholeSo_151 (lv_at hl 5 rfl) ?_
        refine lv_iconst (v := (1 : Int32)) hx hb dL_isWholeSo_153 (by decide) ?_
        obtain ⟨q154, hq154, hf⟩ := ob_some hf
        refine z_callVi (o := 0) (ci := 8) (As := [.int x5, .int (1 : Int32)]) (rest := []) (t_X10_turn G l hN x5 (1 : Int32) h hq154) cv_X10_turn hx hb hml hl.1 Z hw (by decide) (by decide) (by omega) rfl rfl wd606 rfl rfl (Nat.le_of_ble_eq_true rfl) (by decide) dL_isWholeSo_154 (fun H locs hw => ?_)
        refine lv_iload_n hx hb dL_isWholeSo_157 rfl (lv_at hl 3 rfl) ?_
        refine lv_icmp_ne (tgt := 191) hx hb dL_isWholeSo_158 (by decide) (fun c158 => ?_) (fun c158 => ?_)
        · have hf := (if_neg c158).symm.trans hf
          refine lv_iconst (v := (0 : Int32)) hx hb dL_isWholeSo_191 (by decide) ?_
          obtain rfl := Option.some.inj hf
          exact HJ192 ls H locs (lv_sub hl [0, 1, 3, 4, 5] rfl) hw
        · have hf := (if_pos c158).symm.trans hf
          refine lv_aload_n hx hb dL_isWholeSo_161 rfl (lv_at hl 0 rfl) ?_
          refine lv_iload hx hb dL_isWholeSo_162 (lv_at hl 5 rfl) ?_
          refine lv_iconst (v := (0 : Int32)) hx hb dL_isWholeSo_164 (by decide) ?_
          obtain ⟨q165, hq165, hf⟩ := ob_some hf
          refine z_callVi (o := 0) (ci := 8) (As := [.int x5, .int (0 : Int32)]) (rest := []) (t_X10_turn G l hN x5 (0 : Int32) q154.2 hq165) cv_X10_turn hx hb hml hl.1 Z hw (by decide) (by decide) (by omega) rfl rfl wd606 rfl rfl (Nat.le_of_ble_eq_true rfl) (by decide) dL_isWholeSo_165 (fun H locs hw => ?_)
          refine lv_aload_n hx hb dL_isWholeSo_168 rfl (lv_at hl 0 rfl) ?_
          refine lv_bipush (v := (17 : Int32)) hx hb dL_isWholeSo_169 (by decide) ?_
          obtain ⟨q171, hq171, hf⟩ := ob_some hf
          refine z_callVi (o := 0) (ci := 8) (As := [.int (17 : Int32)]) (rest := [.int q165.1]) (t_X10_count G l hN (17 : Int32) q165.2 hq171) cv_X10_count hx hb hml hl.1 Z hw (by decide) (by decide) (by omega) rfl rfl wd322 rfl rfl (Nat.le_of_ble_eq_true rfl) (by decide) dL_isWholeSo_171 (fun H locs hw => ?_)
          refine lv_iload hx hb dL_isWholeSo_174 (lv_at hl 5 rfl) ?_
          refine lv_aload_n hx hb dL_isWholeSo_176 rfl (lv_at hl 0 rfl) ?_
          refine lv_bipush (v := (18 : Int32)) hx hb dL_isWholeSo_177 (by decide) ?_
          obtain ⟨q179, hq179, hf⟩ := ob_some hf
          refine z_callVi (o := 0) (ci := 8) (As := [.int (18 : Int32)]) (rest := [.int x5, .int q171.1, .int q165.1]) (t_X10_count G l hN (18 : Int32) q171.2 hq179) cv_X10_count hx hb hml hl.1 Z hw (by decide) (by decide) (by omega) rfl rfl wd322 rfl rfl (Nat.le_of_ble_eq_true rfl) (by decide) dL_isWholeSo_179 (fun H locs hw => ?_)
          refine lv_imul hx hb dL_isWholeSo_182 ?_
          refine lv_iadd hx hb dL_isWholeSo_183 ?_
          refine lv_icmp_ne (tgt := 191) hx hb dL_isWholeSo_184 (by decide) (fun c184 => ?_) (fun c184 => ?_)
          · have hf := (if_neg c184).symm.trans hf
            refine lv_iconst (v := (0 : Int32)) hx hb dL_isWholeSo_191 (by decide) ?_
            obtain rfl := Option.some.inj hf
            exact HJ192 ls H locs (lv_sub hl [0, 1, 3, 4, 5] rfl) hw
          · have hf := (if_pos c184).symm.trans hf
            refine lv_iconst (v := (1 : Int32)) hx hb dL_isWholeSo_187 (by decide) ?_
            refine lv_goto (tgt := 192) hx hb dL_isWholeSo_188 (by decide) ?_
            obtain rfl := Option.some.inj hf
            exact HJ192 ls H locs (lv_sub hl [0, 1, 3, 4, 5] rfl) hw
set_option maxHeartbeats 4000000 in
set_option maxRecDepth 100000 in
theorem t_L_isWholeSo (G : GM) (l : Launch) (hN : 70 ≤ gN G)  (h : HP) {r : Int32} {h' : HP} (hf : f_L_isWholeSo  h = some (r, h')) : MC G l yL_isWholeSo cL_isWholeSo 6 (some .boolean) 6 [.ref (ra G 0)] h h' (some (.int r)) := by
  unfold f_L_isWholeSo at hf
  refine z_start (by decide) (Nat.le_of_ble_eq_true rfl) ?_
  intro p e s m args below meth c ls hx hb hr hlk hml Z hw hl
  have Z : ZK G s args m RL := Z
  have hl : lv_has ls 6 [(0, .ref (ra G 0))] := hl
  obtain ⟨H, hH⟩ : ∃ H, H = s.heap := ⟨_, rfl⟩
  rw [← hH] at hw ⊢
  obtain ⟨locs, hlc⟩ : ∃ locs : List Loc, locs = [] := ⟨_, rfl⟩
  rw [← hlc] at hw ⊢
  refine lv_aload_n hx hb dL_isWholeSo_0 rfl (lv_at hl 0 rfl) ?_
  refine lv_iconst (v := (0 : Int32)) hx hb dL_isWholeSo_1 (by decide) ?_
  obtain ⟨q2, hq2, hf⟩ := ob_some hf
  refine z_callVi (o := 0) (ci := 8) (As := [.int (0 : Int32)]) (rest := []) (t_X10_count G l hN (0 : Int32) h hq2) cv_X10_count hx hb hml hl.1 Z hw (by decide) (by decide) (by omega) rfl rfl wd322 rfl rfl (Nat.le_of_ble_eq_true rfl) (by decide) dL_isWholeSo_2 (fun H locs hw => ?_)
  refine lv_istore_n (lv' := [(1, _), (0, _)]) hx hb dL_isWholeSo_5 rfl hl (by decide) rfl (fun ls hl => ?_)
  refine lv_aload_n hx hb dL_isWholeSo_6 rfl (lv_at hl 1 rfl) ?_
  refine lv_bipush (v := (10 : Int32)) hx hb dL_isWholeSo_7 (by decide) ?_
  obtain ⟨q9, hq9, hf⟩ := ob_some hf
  refine z_callVi (o := 0) (ci := 8) (As := [.int (10 : Int32)]) (rest := []) (t_X10_count G l hN (10 : Int32) q2.2 hq9) cv_X10_count hx hb hml hl.1 Z hw (by decide) (by decide) (by omega) rfl rfl wd322 rfl rfl (Nat.le_of_ble_eq_true rfl) (by decide) dL_isWholeSo_9 (fun H locs hw => ?_)
  refine lv_aload_n hx hb dL_isWholeSo_12 rfl (lv_at hl 1 rfl) ?_
  refine lv_bipush (v := (11 : Int32)) hx hb dL_isWholeSo_13 (by decide) ?_
  obtain ⟨q15, hq15, hf⟩ := ob_some hf
  refine z_callVi (o := 0) (ci := 8) (As := [.int (11 : Int32)]) (rest := [.int q9.1]) (t_X10_count G l hN (11 : Int32) q9.2 hq15) cv_X10_count hx hb hml hl.1 Z hw (by decide) (by decide) (by omega) rfl rfl wd322 rfl rfl (Nat.le_of_ble_eq_true rfl) (by decide) dL_isWholeSo_15 (fun H locs hw => ?_)
  refine lv_iadd hx hb dL_isWholeSo_18 ?_
  refine lv_aload_n hx hb dL_isWholeSo_19 rfl (lv_at hl 1 rfl) ?_
  refine lv_bipush (v := (12 : Int32)) hx hb dL_isWholeSo_20 (by decide) ?_
  obtain ⟨q22, hq22, hf⟩ := ob_some hf
  refine z_callVi (o := 0) (ci := 8) (As := [.int (12 : Int32)]) (rest := [.int (q9.1 + q15.1)]) (t_X10_count G l hN (12 : Int32) q15.2 hq22) cv_X10_count hx hb hml hl.1 Z hw (by decide) (by decide) (by omega) rfl rfl wd322 rfl rfl (Nat.le_of_ble_eq_true rfl) (by decide) dL_isWholeSo_22 (fun H locs hw => ?_)
  refine lv_iadd hx hb dL_isWholeSo_25 ?_
  refine lv_aload_n hx hb dL_isWholeSo_26 rfl (lv_at hl 1 rfl) ?_
  refine lv_bipush (v := (13 : Int32)) hx hb dL_isWholeSo_27 (by decide) ?_
  obtain ⟨q29, hq29, hf⟩ := ob_some hf
  refine z_callVi (o := 0) (ci := 8) (As := [.int (13 : Int32)]) (rest := [.int ((q9.1 + q15.1) + q22.1)]) (t_X10_count G l hN (13 : Int32) q22.2 hq29) cv_X10_count hx hb hml hl.1 Z hw (by decide) (by decide) (by omega) rfl rfl wd322 rfl rfl (Nat.le_of_ble_eq_true rfl) (by decide) dL_isWholeSo_29 (fun H locs hw => ?_)
  refine lv_iadd hx hb dL_isWholeSo_32 ?_
  refine lv_iload_n hx hb dL_isWholeSo_33 rfl (lv_at hl 0 rfl) ?_
  obtain ⟨j34, hqj34, hf⟩ := ob_some hf
  have HJ130 : ∀ (ls : Array Slot) (H : Heap) (locs : List Loc), lv_has ls 6 [(0, .ref (ra G 0)), (1, .int q2.1)] → HW G j34.2 s H locs → WZ p l e 6 s m args below meth c G (some (.int r)) h' H locs (F0 m 130 ls [.int j34.1]) := by
    intro ls H locs hl hw
    refine lv_istore_n (lv' := [(2, _), (0, _), (1, _)]) hx hb dL_isWholeSo_130 rfl hl (by decide) rfl (fun ls hl => ?_)
    refine lv_iconst (v := (0 : Int32)) hx hb dL_isWholeSo_131 (by decide) ?_
    refine lv_istore_n (lv' := [(3, _), (2, _), (0, _), (1, _)]) hx hb dL_isWholeSo_132 rfl hl (by decide) rfl (fun ls hl => ?_)
    refine lv_iconst (v := (0 : Int32)) hx hb dL_isWholeSo_133 (by decide) ?_
    refine lv_istore (lv' := [(4, _), (3, _), (2, _), (0, _), (1, _)]) hx hb dL_isWholeSo_134 hl (by decide) rfl (fun ls hl => ?_)
    refine lv_iconst (v := (0 : Int32)) hx hb dL_isWholeSo_136 (by decide) ?_
    refine lv_istore (lv' := [(5, _), (4, _), (3, _), (2, _), (0, _), (1, _)]) hx hb dL_isWholeSo_137 hl (by decide) rfl (fun ls hl => ?_)
    obtain ⟨q139, hq139, hf⟩ := ob_some hf
    refine w_L_isWholeSo_L139 G l hN  hx hb hr hlk hml Z FU j34.1 (0 : Int32) (0 : Int32) (0 : Int32) j34.2 q2.1 _ _ ls H locs (lv_sub hl [4, 5, 3, 2, 1, 0] rfl) hw hq139 (fun ls H locs hl hw => ?_)
    refine lv_iload_n hx hb dL_isWholeSo_221 rfl (lv_at hl 2 rfl) ?_
    refine lv_if_eq (tgt := 285) hx hb dL_isWholeSo_222 (by decide) (fun c222 => ?_) (fun c222 => ?_)
    · have hf := (if_pos c222).symm.trans hf
      refine lv_iconst (v := (0 : Int32)) hx hb dL_isWholeSo_285 (by decide) ?_
      obtain ⟨rfl, rfl⟩ := Prod.mk.inj (Option.some.inj hf)
      exact z_zret hx hb hr rfl hlk hw dL_isWholeSo_286
    · have hf := (if_neg c222).symm.trans hf
      refine lv_iload_n hx hb dL_isWholeSo_225 rfl (lv_at hl 3 rfl) ?_
      refine lv_iload_n hx hb dL_isWholeSo_226 rfl (lv_at hl 1 rfl) ?_
      refine lv_icmp_ne (tgt := 285) hx hb dL_isWholeSo_227 (by decide) (fun c227 => ?_) (fun c227 => ?_)
      · have hf := (if_neg c227).symm.trans hf
        refine lv_iconst (v := (0 : Int32)) hx hb dL_isWholeSo_285 (by decide) ?_
        obtain ⟨rfl, rfl⟩ := Prod.mk.inj (Option.some.inj hf)
        exact z_zret hx hb hr rfl hlk hw dL_isWholeSo_286
      · have hf := (if_pos c227).symm.trans hf
        refine lv_iload hx hb dL_isWholeSo_230 (lv_at hl 4 rfl) ?_
        refine lv_iload_n hx hb dL_isWholeSo_232 rfl (lv_at hl 1 rfl) ?_
        refine lv_aload_n hx hb dL_isWholeSo_233 rfl (lv_at hl 0 rfl) ?_
        refine lv_bipush (v := (10 : Int32)) hx hb dL_isWholeSo_234 (by decide) ?_
        obtain ⟨q236, hq236, hf⟩ := ob_some hf
        refine z_callVi (o := 0) (ci := 8) (As := [.int (10 : Int32)]) (rest := [.int q2.1, .int q139.2.2.1]) (t_X10_count G l hN (10 : Int32) q139.2.2.2 hq236) cv_X10_count hx hb hml hl.1 Z hw (by decide) (by decide) (by omega) rfl rfl wd322 rfl rfl (Nat.le_of_ble_eq_true rfl) (by decide) dL_isWholeSo_236 (fun H locs hw => ?_)
        refine lv_isub hx hb dL_isWholeSo_239 ?_
        refine lv_icmp_ne (tgt := 285) hx hb dL_isWholeSo_240 (by decide) (fun c240 => ?_) (fun c240 => ?_)
        · have hf := (if_neg c240).symm.trans hf
          refine lv_iconst (v := (0 : Int32)) hx hb dL_isWholeSo_285 (by decide) ?_
          obtain ⟨rfl, rfl⟩ := Prod.mk.inj (Option.some.inj hf)
          exact z_zret hx hb hr rfl hlk hw dL_isWholeSo_286
        · have hf := (if_pos c240).symm.trans hf
          refine lv_aload_n hx hb dL_isWholeSo_243 rfl (lv_at hl 0 rfl) ?_
          refine lv_iconst (v := (5 : Int32)) hx hb dL_isWholeSo_244 (by decide) ?_
          obtain ⟨q245, hq245, hf⟩ := ob_some hf
          refine z_callVi (o := 0) (ci := 8) (As := [.int (5 : Int32)]) (rest := []) (t_X10_count G l hN (5 : Int32) q236.2 hq245) cv_X10_count hx hb hml hl.1 Z hw (by decide) (by decide) (by omega) rfl rfl wd322 rfl rfl (Nat.le_of_ble_eq_true rfl) (by decide) dL_isWholeSo_245 (fun H locs hw => ?_)
          refine lv_aload_n hx hb dL_isWholeSo_248 rfl (lv_at hl 0 rfl) ?_
          refine lv_bipush (v := (17 : Int32)) hx hb dL_isWholeSo_249 (by decide) ?_
          obtain ⟨q251, hq251, hf⟩ := ob_some hf
          refine z_callVi (o := 0) (ci := 8) (As := [.int (17 : Int32)]) (rest := [.int q245.1]) (t_X10_count G l hN (17 : Int32) q245.2 hq251) cv_X10_count hx hb hml hl.1 Z hw (by decide) (by decide) (by omega) rfl rfl wd322 rfl rfl (Nat.le_of_ble_eq_true rfl) (by decide) dL_isWholeSo_251 (fun H locs hw => ?_)
          refine lv_icmp_lt (tgt := 285) hx hb dL_isWholeSo_254 (by decide) (fun c254 => ?_) (fun c254 => ?_)
          · have hf := (if_pos c254).symm.trans hf
            refine lv_iconst (v := (0 : Int32)) hx hb dL_isWholeSo_285 (by decide) ?_
            obtain ⟨rfl, rfl⟩ := Prod.mk.inj (Option.some.inj hf)
            exact z_zret hx hb hr rfl hlk hw dL_isWholeSo_286
          · have hf := (if_neg c254).symm.trans hf
            refine lv_aload_n hx hb dL_isWholeSo_257 rfl (lv_at hl 0 rfl) ?_
            refine lv_iconst (v := (5 : Int32)) hx hb dL_isWholeSo_258 (by decide) ?_
            obtain ⟨q259, hq259, hf⟩ := ob_some hf
            refine z_callVi (o := 0) (ci := 8) (As := [.int (5 : Int32)]) (rest := []) (t_X10_count G l hN (5 : Int32) q251.2 hq259) cv_X10_count hx hb hml hl.1 Z hw (by decide) (by decide) (by omega) rfl rfl wd322 rfl rfl (Nat.le_of_ble_eq_true rfl) (by decide) dL_isWholeSo_259 (fun H locs hw => ?_)
            refine lv_aload_n hx hb dL_isWholeSo_262 rfl (lv_at hl 0 rfl) ?_
            refine lv_bipush (v := (17 : Int32)) hx hb dL_isWholeSo_263 (by decide) ?_
            obtain ⟨q265, hq265, hf⟩ := ob_some hf
            refine z_callVi (o := 0) (ci := 8) (As := [.int (17 : Int32)]) (rest := [.int q259.1]) (t_X10_count G l hN (17 : Int32) q259.2 hq265) cv_X10_count hx hb hml hl.1 Z hw (by decide) (by decide) (by omega) rfl rfl wd322 rfl rfl (Nat.le_of_ble_eq_true rfl) (by decide) dL_isWholeSo_265 (fun H locs hw => ?_)
            refine lv_bipush (v := (29 : Int32)) hx hb dL_isWholeSo_268 (by decide) ?_
            refine lv_aload_n hx hb dL_isWholeSo_270 rfl (lv_at hl 0 rfl) ?_
            refine lv_bipush (v := (18 : Int32)) hx hb dL_isWholeSo_271 (by decide) ?_
            obtain ⟨q273, hq273, hf⟩ := ob_some hf
            refine z_callVi (o := 0) (ci := 8) (As := [.int (18 : Int32)]) (rest := [.int (29 : Int32), .int q265.1, .int q259.1]) (t_X10_count G l hN (18 : Int32) q265.2 hq273) cv_X10_count hx hb hml hl.1 Z hw (by decide) (by decide) (by omega) rfl rfl wd322 rfl rfl (Nat.le_of_ble_eq_true rfl) (by decide) dL_isWholeSo_273 (fun H locs hw => ?_)
            refine lv_imul hx hb dL_isWholeSo_276 ?_
            refine lv_iadd hx hb dL_isWholeSo_277 ?_
            refine lv_icmp_gt (tgt := 285) hx hb dL_isWholeSo_278 (by decide) (fun c278 => ?_) (fun c278 => ?_)
            · have hf := (if_pos c278).symm.trans hf
              refine lv_iconst (v := (0 : Int32)) hx hb dL_isWholeSo_285 (by decide) ?_
              obtain ⟨rfl, rfl⟩ := Prod.mk.inj (Option.some.inj hf)
              exact z_zret hx hb hr rfl hlk hw dL_isWholeSo_286
            · have hf := (if_neg c278).symm.trans hf
              refine lv_iconst (v := (1 : Int32)) hx hb dL_isWholeSo_281 (by decide) ?_
              refine lv_goto (tgt := 286) hx hb dL_isWholeSo_282 (by decide) ?_
              obtain ⟨rfl, rfl⟩ := Prod.mk.inj (Option.some.inj hf)
              exact z_zret hx hb hr rfl hlk hw dL_isWholeSo_286
  have hf := hqj34
  refine lv_icmp_ne (tgt := 129) hx hb dL_isWholeSo_34 (by decide) (fun c34 => ?_) (fun c34 => ?_)
  · have hf := (if_neg c34).symm.trans hf
    refine lv_iconst (v := (0 : Int32)) hx hb dL_isWholeSo_129 (by decide) ?_
    obtain rfl := Option.some.inj hf
    exact HJ130 ls H locs (lv_sub hl [1, 0] rfl) hw
  · have hf := (if_pos c34).symm.trans hf
    refine lv_aload_n hx hb dL_isWholeSo_37 rfl (lv_at hl 1 rfl) ?_
    refine lv_iconst (v := (1 : Int32)) hx hb dL_isWholeSo_38 (by decide) ?_
    obtain ⟨q39, hq39, hf⟩ := ob_some hf
    refine z_callVi (o := 0) (ci := 8) (As := [.int (1 : Int32)]) (rest := []) (t_X10_count G l hN (1 : Int32) q29.2 hq39) cv_X10_count hx hb hml hl.1 Z hw (by decide) (by decide) (by omega) rfl rfl wd322 rfl rfl (Nat.le_of_ble_eq_true rfl) (by decide) dL_isWholeSo_39 (fun H locs hw => ?_)
    refine lv_iload_n hx hb dL_isWholeSo_42 rfl (lv_at hl 0 rfl) ?_
    refine lv_iconst (v := (5 : Int32)) hx hb dL_isWholeSo_43 (by decide) ?_
    refine lv_idiv hx hb dL_isWholeSo_44 (by decide) ?_
    refine lv_icmp_ne (tgt := 129) hx hb dL_isWholeSo_45 (by decide) (fun c45 => ?_) (fun c45 => ?_)
    · have hf := (if_neg c45).symm.trans hf
      refine lv_iconst (v := (0 : Int32)) hx hb dL_isWholeSo_129 (by decide) ?_
      obtain rfl := Option.some.inj hf
      exact HJ130 ls H locs (lv_sub hl [1, 0] rfl) hw
    · have hf := (if_pos c45).symm.trans hf
      refine lv_aload_n hx hb dL_isWholeSo_48 rfl (lv_at hl 1 rfl) ?_
      refine lv_bipush (v := (14 : Int32)) hx hb dL_isWholeSo_49 (by decide) ?_
      obtain ⟨q51, hq51, hf⟩ := ob_some hf
      refine z_callVi (o := 0) (ci := 8) (As := [.int (14 : Int32)]) (rest := []) (t_X10_count G l hN (14 : Int32) q39.2 hq51) cv_X10_count hx hb hml hl.1 Z hw (by decide) (by decide) (by omega) rfl rfl wd322 rfl rfl (Nat.le_of_ble_eq_true rfl) (by decide) dL_isWholeSo_51 (fun H locs hw => ?_)
      refine lv_bipush (v := (40 : Int32)) hx hb dL_isWholeSo_54 (by decide) ?_
      refine lv_icmp_gt (tgt := 129) hx hb dL_isWholeSo_56 (by decide) (fun c56 => ?_) (fun c56 => ?_)
      · have hf := (if_pos c56).symm.trans hf
        refine lv_iconst (v := (0 : Int32)) hx hb dL_isWholeSo_129 (by decide) ?_
        obtain rfl := Option.some.inj hf
        exact HJ130 ls H locs (lv_sub hl [1, 0] rfl) hw
      · have hf := (if_neg c56).symm.trans hf
        refine lv_aload_n hx hb dL_isWholeSo_59 rfl (lv_at hl 1 rfl) ?_
        refine lv_bipush (v := (8 : Int32)) hx hb dL_isWholeSo_60 (by decide) ?_
        obtain ⟨q62, hq62, hf⟩ := ob_some hf
        refine z_callVi (o := 0) (ci := 8) (As := [.int (8 : Int32)]) (rest := []) (t_X10_count G l hN (8 : Int32) q51.2 hq62) cv_X10_count hx hb hml hl.1 Z hw (by decide) (by decide) (by omega) rfl rfl wd322 rfl rfl (Nat.le_of_ble_eq_true rfl) (by decide) dL_isWholeSo_62 (fun H locs hw => ?_)
        refine lv_aload_n hx hb dL_isWholeSo_65 rfl (lv_at hl 1 rfl) ?_
        refine lv_bipush (v := (7 : Int32)) hx hb dL_isWholeSo_66 (by decide) ?_
        obtain ⟨q68, hq68, hf⟩ := ob_some hf
        refine z_callVi (o := 0) (ci := 8) (As := [.int (7 : Int32)]) (rest := [.int q62.1]) (t_X10_count G l hN (7 : Int32) q62.2 hq68) cv_X10_count hx hb hml hl.1 Z hw (by decide) (by decide) (by omega) rfl rfl wd322 rfl rfl (Nat.le_of_ble_eq_true rfl) (by decide) dL_isWholeSo_68 (fun H locs hw => ?_)
        refine lv_icmp_gt (tgt := 129) hx hb dL_isWholeSo_71 (by decide) (fun c71 => ?_) (fun c71 => ?_)
        · have hf := (if_pos c71).symm.trans hf
          refine lv_iconst (v := (0 : Int32)) hx hb dL_isWholeSo_129 (by decide) ?_
          obtain rfl := Option.some.inj hf
          exact HJ130 ls H locs (lv_sub hl [1, 0] rfl) hw
        · have hf := (if_neg c71).symm.trans hf
          refine lv_aload_n hx hb dL_isWholeSo_74 rfl (lv_at hl 1 rfl) ?_
          refine lv_bipush (v := (7 : Int32)) hx hb dL_isWholeSo_75 (by decide) ?_
          obtain ⟨q77, hq77, hf⟩ := ob_some hf
          refine z_callVi (o := 0) (ci := 8) (As := [.int (7 : Int32)]) (rest := []) (t_X10_count G l hN (7 : Int32) q68.2 hq77) cv_X10_count hx hb hml hl.1 Z hw (by decide) (by decide) (by omega) rfl rfl wd322 rfl rfl (Nat.le_of_ble_eq_true rfl) (by decide) dL_isWholeSo_77 (fun H locs hw => ?_)
          refine lv_aload_n hx hb dL_isWholeSo_80 rfl (lv_at hl 1 rfl) ?_
          refine lv_bipush (v := (6 : Int32)) hx hb dL_isWholeSo_81 (by decide) ?_
          obtain ⟨q83, hq83, hf⟩ := ob_some hf
          refine z_callVi (o := 0) (ci := 8) (As := [.int (6 : Int32)]) (rest := [.int q77.1]) (t_X10_count G l hN (6 : Int32) q77.2 hq83) cv_X10_count hx hb hml hl.1 Z hw (by decide) (by decide) (by omega) rfl rfl wd322 rfl rfl (Nat.le_of_ble_eq_true rfl) (by decide) dL_isWholeSo_83 (fun H locs hw => ?_)
          refine lv_icmp_gt (tgt := 129) hx hb dL_isWholeSo_86 (by decide) (fun c86 => ?_) (fun c86 => ?_)
          · have hf := (if_pos c86).symm.trans hf
            refine lv_iconst (v := (0 : Int32)) hx hb dL_isWholeSo_129 (by decide) ?_
            obtain rfl := Option.some.inj hf
            exact HJ130 ls H locs (lv_sub hl [1, 0] rfl) hw
          · have hf := (if_neg c86).symm.trans hf
            refine lv_aload_n hx hb dL_isWholeSo_89 rfl (lv_at hl 1 rfl) ?_
            refine lv_iconst (v := (3 : Int32)) hx hb dL_isWholeSo_90 (by decide) ?_
            obtain ⟨q91, hq91, hf⟩ := ob_some hf
            refine z_callVi (o := 0) (ci := 8) (As := [.int (3 : Int32)]) (rest := []) (t_X10_count G l hN (3 : Int32) q83.2 hq91) cv_X10_count hx hb hml hl.1 Z hw (by decide) (by decide) (by omega) rfl rfl wd322 rfl rfl (Nat.le_of_ble_eq_true rfl) (by decide) dL_isWholeSo_91 (fun H locs hw => ?_)
            refine lv_iload_n hx hb dL_isWholeSo_94 rfl (lv_at hl 0 rfl) ?_
            refine lv_icmp_gt (tgt := 129) hx hb dL_isWholeSo_95 (by decide) (fun c95 => ?_) (fun c95 => ?_)
            · have hf := (if_pos c95).symm.trans hf
              refine lv_iconst (v := (0 : Int32)) hx hb dL_isWholeSo_129 (by decide) ?_
              obtain rfl := Option.some.inj hf
              exact HJ130 ls H locs (lv_sub hl [1, 0] rfl) hw
            · have hf := (if_neg c95).symm.trans hf
              refine lv_aload_n hx hb dL_isWholeSo_98 rfl (lv_at hl 1 rfl) ?_
              refine lv_iconst (v := (2 : Int32)) hx hb dL_isWholeSo_99 (by decide) ?_
              obtain ⟨q100, hq100, hf⟩ := ob_some hf
              refine z_callVi (o := 0) (ci := 8) (As := [.int (2 : Int32)]) (rest := []) (t_X10_count G l hN (2 : Int32) q91.2 hq100) cv_X10_count hx hb hml hl.1 Z hw (by decide) (by decide) (by omega) rfl rfl wd322 rfl rfl (Nat.le_of_ble_eq_true rfl) (by decide) dL_isWholeSo_100 (fun H locs hw => ?_)
              refine lv_if_gt (tgt := 125) hx hb dL_isWholeSo_103 (by decide) (fun c103 => ?_) (fun c103 => ?_)
              · have hf := (if_pos c103).symm.trans hf
                refine lv_iconst (v := (1 : Int32)) hx hb dL_isWholeSo_125 (by decide) ?_
                refine lv_goto (tgt := 130) hx hb dL_isWholeSo_126 (by decide) ?_
                obtain rfl := Option.some.inj hf
                exact HJ130 ls H locs (lv_sub hl [1, 0] rfl) hw
              · have hf := (if_neg c103).symm.trans hf
                refine lv_aload_n hx hb dL_isWholeSo_106 rfl (lv_at hl 1 rfl) ?_
                refine lv_bipush (v := (10 : Int32)) hx hb dL_isWholeSo_107 (by decide) ?_
                obtain ⟨q109, hq109, hf⟩ := ob_some hf
                refine z_callVi (o := 0) (ci := 8) (As := [.int (10 : Int32)]) (rest := []) (t_X10_count G l hN (10 : Int32) q100.2 hq109) cv_X10_count hx hb hml hl.1 Z hw (by decide) (by decide) (by omega) rfl rfl wd322 rfl rfl (Nat.le_of_ble_eq_true rfl) (by decide) dL_isWholeSo_109 (fun H locs hw => ?_)
                refine lv_iload_n hx hb dL_isWholeSo_112 rfl (lv_at hl 0 rfl) ?_
                refine lv_icmp_ne (tgt := 129) hx hb dL_isWholeSo_113 (by decide) (fun c113 => ?_) (fun c113 => ?_)
                · have hf := (if_neg c113).symm.trans hf
                  refine lv_iconst (v := (0 : Int32)) hx hb dL_isWholeSo_129 (by decide) ?_
                  obtain rfl := Option.some.inj hf
                  exact HJ130 ls H locs (lv_sub hl [1, 0] rfl) hw
                · have hf := (if_pos c113).symm.trans hf
                  refine lv_aload_n hx hb dL_isWholeSo_116 rfl (lv_at hl 1 rfl) ?_
                  obtain ⟨q117, hq117, hf⟩ := ob_some hf
                  refine z_callVi (o := 0) (ci := 8) (As := []) (rest := []) (t_X10_right G l hN  q109.2 hq117) cv_X10_right hx hb hml hl.1 Z hw (by decide) (by decide) (by omega) rfl rfl wd633 rfl rfl (Nat.le_of_ble_eq_true rfl) (by decide) dL_isWholeSo_117 (fun H locs hw => ?_)
                  refine z_dconst1 hx hb dL_isWholeSo_120 ?_
                  refine lv_dcmp hx hb dL_isWholeSo_121 ?_
                  refine lv_if_ne (tgt := 129) hx hb dL_isWholeSo_122 (by decide) (fun c122 => ?_) (fun c122 => ?_)
                  · have hf := (if_neg c122).symm.trans hf
                    refine lv_iconst (v := (0 : Int32)) hx hb dL_isWholeSo_129 (by decide) ?_
                    obtain rfl := Option.some.inj hf
                    exact HJ130 ls H locs (lv_sub hl [1, 0] rfl) hw
                  · have hf := (if_pos c122).symm.trans hf
                    refine lv_iconst (v := (1 : Int32)) hx hb dL_isWholeSo_125 (by decide) ?_
                    refine lv_goto (tgt := 130) hx hb dL_isWholeSo_126 (by decide) ?_
                    obtain rfl := Option.some.inj hf
                    exact HJ130 ls H locs (lv_sub hl [1, 0] rfl) hw
set_option maxHeartbeats 4000000 in
set_option maxRecDepth 100000 in
theorem w_L_isGapSo_L13 (G : GM) (l : Launch) (hN : 70 ≤ gN G)  {p : Program} {e : Env} {s : State} {m : MethodId} {args : Array Value} {below : List Frame} {meth : Method} {c : Code} (hx : p.tables.exec = Jvm.exec) (hb : c.code = cL_isGapSo) (hr : meth.sig.returnType = (some .boolean)) (hlk : meth.locks = false) (hml : c.maxLocals = 7) (Z : ZK G s args m RL) : ∀ (n : Nat) (x1 : Int32) (x2 : Int32) (x3 : Int32) (x4 : Int32) (x5 : Int32)  (h : HP)  (rv : Option Value) (hq : HP) (ls : Array Slot) (H : Heap) (locs : List Loc) {q : Int32 × Int32 × Int32 × HP}, lv_has ls 7 [(0, .ref (ra G 0)), (1, .int x1), (2, .int x2), (3, .int x3), (4, .int x4), (5, .int x5)] → HW G h s H locs → f_L_isGapSo_L13 n x1 x2 x3 x4 x5 h = some q → (∀ (ls : Array Slot) (H : Heap) (locs : List Loc), lv_has ls 7 [(0, .ref (ra G 0)), (1, .int q.1), (2, .int q.2.1), (4, .int q.2.2.1)] → HW G q.2.2.2 s H locs → WZ p l e 5 s m args below meth c G rv hq H locs (F0 m 102 ls [])) → WZ p l e 5 s m args below meth c G rv hq H locs (F0 m 13 ls []) := by
  intro n
  induction n with
  | zero => intro x1 x2 x3 x4 x5  h  rv hq ls H locs q hl hw hf kk; cases hf
  | succ n ih =>
    intro x1 x2 x3 x4 x5  h  rv hq ls H locs q hl hw hf kk
    rw [f_L_isGapSo_L13] at hf
    refine lv_iload hx hb dL_isGapSo_13 (lv_at hl 5 rfl) ?_
    refine lv_aload_n hx hb dL_isGapSo_15 rfl (lv_at hl 0 rfl) ?_
    refine lv_iconst (v := (0 : Int32)) hx hb dL_isGapSo_16 (by decide) ?_
    obtain ⟨q17, hq17, hf⟩ := ob_some hf
    refine z_callVi (o := 0) (ci := 8) (As := [.int (0 : Int32)]) (rest := [.int x5]) (t_X10_count G l hN (0 : Int32) h hq17) cv_X10_count hx hb hml hl.1 Z hw (by decide) (by decide) (by omega) rfl rfl wd322 rfl rfl (Nat.le_of_ble_eq_true rfl) (by decide) dL_isGapSo_17 (fun H locs hw => ?_)
    refine lv_icmp_ge (tgt := 102) hx hb dL_isGapSo_20 (by decide) (fun c20 => ?_) (fun c20 => ?_)
    · have hf := (if_pos c20).symm.trans hf
      obtain rfl := Option.some.inj hf
      exact kk ls H locs (lv_sub hl [0, 1, 2, 4] rfl) hw
    · have hf := (if_neg c20).symm.trans hf
      refine lv_aload_n hx hb dL_isGapSo_23 rfl (lv_at hl 0 rfl) ?_
      refine lv_iload hx hb dL_isGapSo_24 (lv_at hl 5 rfl) ?_
      refine lv_iconst (v := (5 : Int32)) hx hb dL_isGapSo_26 (by decide) ?_
      obtain ⟨q27, hq27, hf⟩ := ob_some hf
      refine z_callVi (o := 0) (ci := 8) (As := [.int x5, .int (5 : Int32)]) (rest := []) (t_X10_frame G l hN x5 (5 : Int32) q17.2 hq27) cv_X10_frame hx hb hml hl.1 Z hw (by decide) (by decide) (by omega) rfl rfl wd571 rfl rfl (Nat.le_of_ble_eq_true rfl) (by decide) dL_isGapSo_27 (fun H locs hw => ?_)
      refine lv_iconst (v := (3 : Int32)) hx hb dL_isGapSo_30 (by decide) ?_
      have HJ39 : ∀ (ls : Array Slot) (H : Heap) (locs : List Loc), lv_has ls 7 [(0, .ref (ra G 0)), (1, .int x1), (2, .int x2), (3, .int x3), (4, .int x4), (5, .int x5)] → HW G q27.2 s H locs → WZ p l e 5 s m args below meth c G rv hq H locs (F0 m 39 ls [.int (if q27.1 = (3 : Int32) then (1 : Int32) else (0 : Int32))]) := by
        intro ls H locs hl hw
        obtain ⟨v39, hqv39, hf⟩ := tb_ex hf
        refine z_top hqv39 ?_
        refine lv_istore (lv' := [(6, _), (0, _), (1, _), (2, _), (3, _), (4, _), (5, _)]) hx hb dL_isGapSo_39 hl (by decide) rfl (fun ls hl => ?_)
        refine lv_iload hx hb dL_isGapSo_41 (lv_at hl 5 rfl) ?_
        refine lv_iload hx hb dL_isGapSo_43 (lv_at hl 0 rfl) ?_
        have HJ53 : ∀ (ls : Array Slot) (H : Heap) (locs : List Loc), lv_has ls 7 [(0, .ref (ra G 0)), (1, .int x1), (2, .int x2), (3, .int x3), (5, .int x5), (6, .int v39)] → HW G q27.2 s H locs → WZ p l e 5 s m args below meth c G rv hq H locs (F0 m 53 ls [.int (if v39 = 0 then (0 : Int32) else (1 : Int32)), .int x4]) := by
          intro ls H locs hl hw
          refine lv_iadd hx hb dL_isGapSo_53 ?_
          obtain ⟨v54, hqv54, hf⟩ := tb_ex hf
          refine z_top hqv54 ?_
          refine lv_istore (lv' := [(4, _), (0, _), (1, _), (2, _), (3, _), (5, _), (6, _)]) hx hb dL_isGapSo_54 hl (by decide) rfl (fun ls hl => ?_)
          refine lv_iload hx hb dL_isGapSo_56 (lv_at hl 6 rfl) ?_
          have HJ68 : ∀ (ls : Array Slot) (H : Heap) (locs : List Loc), lv_has ls 7 [(0, .ref (ra G 0)), (1, .int x1), (2, .int x2), (4, .int v54), (5, .int x5)] → HW G q27.2 s H locs → WZ p l e 5 s m args below meth c G rv hq H locs (F0 m 68 ls [.int (if v39 = 0 then (0 : Int32) else (x3 + (1 : Int32)))]) := by
            intro ls H locs hl hw
            obtain ⟨v68, hqv68, hf⟩ := tb_ex hf
            refine z_top hqv68 ?_
            refine lv_istore_n (lv' := [(3, _), (0, _), (1, _), (2, _), (4, _), (5, _)]) hx hb dL_isGapSo_68 rfl hl (by decide) rfl (fun ls hl => ?_)
            refine lv_iload_n hx hb dL_isGapSo_69 rfl (lv_at hl 0 rfl) ?_
            refine lv_iload_n hx hb dL_isGapSo_70 rfl (lv_at hl 3 rfl) ?_
            have HJ84 : ∀ (ls : Array Slot) (H : Heap) (locs : List Loc), lv_has ls 7 [(0, .ref (ra G 0)), (2, .int x2), (3, .int v68), (4, .int v54), (5, .int x5)] → HW G q27.2 s H locs → WZ p l e 5 s m args below meth c G rv hq H locs (F0 m 84 ls [.int (if v68 ≤ x2 then x1 else ((x5 - v68) + (1 : Int32)))]) := by
              intro ls H locs hl hw
              obtain ⟨v84, hqv84, hf⟩ := tb_ex hf
              refine z_top hqv84 ?_
              refine lv_istore_n (lv' := [(1, _), (0, _), (2, _), (3, _), (4, _), (5, _)]) hx hb dL_isGapSo_84 rfl hl (by decide) rfl (fun ls hl => ?_)
              refine lv_iload_n hx hb dL_isGapSo_85 rfl (lv_at hl 3 rfl) ?_
              refine lv_iload_n hx hb dL_isGapSo_86 rfl (lv_at hl 2 rfl) ?_
              have HJ95 : ∀ (ls : Array Slot) (H : Heap) (locs : List Loc), lv_has ls 7 [(0, .ref (ra G 0)), (1, .int v84), (3, .int v68), (4, .int v54), (5, .int x5)] → HW G q27.2 s H locs → WZ p l e 5 s m args below meth c G rv hq H locs (F0 m 95 ls [.int (if v68 ≤ x2 then x2 else v68)]) := by
                intro ls H locs hl hw
                refine lv_istore_n (lv' := [(2, _), (0, _), (1, _), (3, _), (4, _), (5, _)]) hx hb dL_isGapSo_95 rfl hl (by decide) rfl (fun ls hl => ?_)
                refine lv_iinc (v := x5 + (1 : Int32)) (lv' := [(5, _), (2, _), (0, _), (1, _), (3, _), (4, _)]) hx hb dL_isGapSo_96 hl (k := 5) rfl rfl (by decide) rfl (fun ls hl => ?_)
                refine lv_goto (tgt := 13) hx hb dL_isGapSo_99 (by decide) ?_
                exact ih v84 (if v68 ≤ x2 then x2 else v68) v68 v54 (x5 + (1 : Int32)) q27.2  rv hq ls H locs (lv_sub hl [2, 3, 1, 4, 5, 0] rfl) hw hf kk
              refine lv_icmp_le (tgt := 94) hx hb dL_isGapSo_87 (by decide) (fun c87 => ?_) (fun c87 => ?_)
              · skip
                refine lv_iload_n hx hb dL_isGapSo_94 rfl (lv_at hl 2 rfl) ?_
                refine W.eq (g2 := F0 m 95 ls [.int (if v68 ≤ x2 then x2 else v68)]) ?_ (HJ95 ls H locs (lv_sub hl [1, 0, 3, 4, 5] rfl) hw)
                first | (simp only [if_pos c87]; done) | contradiction
              · skip
                refine lv_iload_n hx hb dL_isGapSo_90 rfl (lv_at hl 3 rfl) ?_
                refine lv_goto (tgt := 95) hx hb dL_isGapSo_91 (by decide) ?_
                refine W.eq (g2 := F0 m 95 ls [.int (if v68 ≤ x2 then x2 else v68)]) ?_ (HJ95 ls H locs (lv_sub hl [1, 0, 3, 4, 5] rfl) hw)
                first | (simp only [if_neg c87]; done) | contradiction
            refine lv_icmp_le (tgt := 83) hx hb dL_isGapSo_71 (by decide) (fun c71 => ?_) (fun c71 => ?_)
            · skip
              refine lv_iload_n hx hb dL_isGapSo_83 rfl (lv_at hl 2 rfl) ?_
              refine W.eq (g2 := F0 m 84 ls [.int (if v68 ≤ x2 then x1 else ((x5 - v68) + (1 : Int32)))]) ?_ (HJ84 ls H locs (lv_sub hl [1, 3, 0, 4, 5] rfl) hw)
              first | (simp only [if_pos c71]; done) | contradiction
            · skip
              refine lv_iload hx hb dL_isGapSo_74 (lv_at hl 5 rfl) ?_
              refine lv_iload_n hx hb dL_isGapSo_76 rfl (lv_at hl 0 rfl) ?_
              refine lv_isub hx hb dL_isGapSo_77 ?_
              refine lv_iconst (v := (1 : Int32)) hx hb dL_isGapSo_78 (by decide) ?_
              refine lv_iadd hx hb dL_isGapSo_79 ?_
              refine lv_goto (tgt := 84) hx hb dL_isGapSo_80 (by decide) ?_
              refine W.eq (g2 := F0 m 84 ls [.int (if v68 ≤ x2 then x1 else ((x5 - v68) + (1 : Int32)))]) ?_ (HJ84 ls H locs (lv_sub hl [1, 3, 0, 4, 5] rfl) hw)
              first | (simp only [if_neg c71]; done) | contradiction
          refine lv_if_eq (tgt := 67) hx hb dL_isGapSo_58 (by decide) (fun c58 => ?_) (fun c58 => ?_)
          · skip
            refine lv_iconst (v := (0 : Int32)) hx hb dL_isGapSo_67 (by decide) ?_
            refine W.eq (g2 := F0 m 68 ls [.int (if v39 = 0 then (0 : Int32) else (x3 + (1 : Int32)))]) ?_ (HJ68 ls H locs (lv_sub hl [1, 2, 3, 0, 5] rfl) hw)
            first | (simp only [if_pos c58]; done) | contradiction
          · skip
            refine lv_iload_n hx hb dL_isGapSo_61 rfl (lv_at hl 4 rfl) ?_
            refine lv_iconst (v := (1 : Int32)) hx hb dL_isGapSo_62 (by decide) ?_
            refine lv_iadd hx hb dL_isGapSo_63 ?_
            refine lv_goto (tgt := 68) hx hb dL_isGapSo_64 (by decide) ?_
            refine W.eq (g2 := F0 m 68 ls [.int (if v39 = 0 then (0 : Int32) else (x3 + (1 : Int32)))]) ?_ (HJ68 ls H locs (lv_sub hl [1, 2, 3, 0, 5] rfl) hw)
            first | (simp only [if_neg c58]; done) | contradiction
        refine lv_if_eq (tgt := 52) hx hb dL_isGapSo_45 (by decide) (fun c45 => ?_) (fun c45 => ?_)
        · skip
          refine lv_iconst (v := (0 : Int32)) hx hb dL_isGapSo_52 (by decide) ?_
          refine W.eq (g2 := F0 m 53 ls [.int (if v39 = 0 then (0 : Int32) else (1 : Int32)), .int x4]) ?_ (HJ53 ls H locs (lv_sub hl [1, 2, 3, 4, 6, 0] rfl) hw)
          first | (simp only [if_pos c45]; done) | contradiction
        · skip
          refine lv_iconst (v := (1 : Int32)) hx hb dL_isGapSo_48 (by decide) ?_
          refine lv_goto (tgt := 53) hx hb dL_isGapSo_49 (by decide) ?_
          refine W.eq (g2 := F0 m 53 ls [.int (if v39 = 0 then (0 : Int32) else (1 : Int32)), .int x4]) ?_ (HJ53 ls H locs (lv_sub hl [1, 2, 3, 4, 6, 0] rfl) hw)
          first | (simp only [if_neg c45]; done) | contradiction
      refine lv_icmp_ne (tgt := 38) hx hb dL_isGapSo_31 (by decide) (fun c31 => ?_) (fun c31 => ?_)
      · skip
        refine lv_iconst (v := (0 : Int32)) hx hb dL_isGapSo_38 (by decide) ?_
        refine W.eq (g2 := F0 m 39 ls [.int (if q27.1 = (3 : Int32) then (1 : Int32) else (0 : Int32))]) ?_ (HJ39 ls H locs (lv_sub hl [0, 1, 2, 3, 4, 5] rfl) hw)
        first | (simp only [if_neg c31]; done) | contradiction
      · skip
        refine lv_iconst (v := (1 : Int32)) hx hb dL_isGapSo_34 (by decide) ?_
        refine lv_goto (tgt := 39) hx hb dL_isGapSo_35 (by decide) ?_
        refine W.eq (g2 := F0 m 39 ls [.int (if q27.1 = (3 : Int32) then (1 : Int32) else (0 : Int32))]) ?_ (HJ39 ls H locs (lv_sub hl [0, 1, 2, 3, 4, 5] rfl) hw)
        first | (simp only [if_pos c31]; done) | contradiction
set_option maxHeartbeats 4000000 in
set_option maxRecDepth 100000 in
theorem t_L_isGapSo (G : GM) (l : Launch) (hN : 70 ≤ gN G)  (h : HP) {r : Int32} {h' : HP} (hf : f_L_isGapSo  h = some (r, h')) : MC G l yL_isGapSo cL_isGapSo 7 (some .boolean) 5 [.ref (ra G 0)] h h' (some (.int r)) := by
  unfold f_L_isGapSo at hf
  refine z_start (by decide) (Nat.le_of_ble_eq_true rfl) ?_
  intro p e s m args below meth c ls hx hb hr hlk hml Z hw hl
  have Z : ZK G s args m RL := Z
  have hl : lv_has ls 7 [(0, .ref (ra G 0))] := hl
  obtain ⟨H, hH⟩ : ∃ H, H = s.heap := ⟨_, rfl⟩
  rw [← hH] at hw ⊢
  obtain ⟨locs, hlc⟩ : ∃ locs : List Loc, locs = [] := ⟨_, rfl⟩
  rw [← hlc] at hw ⊢
  refine lv_bipush (v := (-5 : Int32)) hx hb dL_isGapSo_0 (by decide) ?_
  refine lv_istore_n (lv' := [(1, _), (0, _)]) hx hb dL_isGapSo_2 rfl hl (by decide) rfl (fun ls hl => ?_)
  refine lv_iconst (v := (0 : Int32)) hx hb dL_isGapSo_3 (by decide) ?_
  refine lv_istore_n (lv' := [(2, _), (1, _), (0, _)]) hx hb dL_isGapSo_4 rfl hl (by decide) rfl (fun ls hl => ?_)
  refine lv_iconst (v := (0 : Int32)) hx hb dL_isGapSo_5 (by decide) ?_
  refine lv_istore_n (lv' := [(3, _), (2, _), (1, _), (0, _)]) hx hb dL_isGapSo_6 rfl hl (by decide) rfl (fun ls hl => ?_)
  refine lv_iconst (v := (0 : Int32)) hx hb dL_isGapSo_7 (by decide) ?_
  refine lv_istore (lv' := [(4, _), (3, _), (2, _), (1, _), (0, _)]) hx hb dL_isGapSo_8 hl (by decide) rfl (fun ls hl => ?_)
  refine lv_iconst (v := (0 : Int32)) hx hb dL_isGapSo_10 (by decide) ?_
  refine lv_istore (lv' := [(5, _), (4, _), (3, _), (2, _), (1, _), (0, _)]) hx hb dL_isGapSo_11 hl (by decide) rfl (fun ls hl => ?_)
  obtain ⟨q13, hq13, hf⟩ := ob_some hf
  refine w_L_isGapSo_L13 G l hN  hx hb hr hlk hml Z FU (-5 : Int32) (0 : Int32) (0 : Int32) (0 : Int32) (0 : Int32) h  _ _ ls H locs (lv_sub hl [5, 4, 3, 2, 1, 0] rfl) hw hq13 (fun ls H locs hl hw => ?_)
  refine lv_iload hx hb dL_isGapSo_102 (lv_at hl 3 rfl) ?_
  refine lv_aload_n hx hb dL_isGapSo_104 rfl (lv_at hl 0 rfl) ?_
  refine lv_bipush (v := (13 : Int32)) hx hb dL_isGapSo_105 (by decide) ?_
  obtain ⟨q107, hq107, hf⟩ := ob_some hf
  refine z_callVi (o := 0) (ci := 8) (As := [.int (13 : Int32)]) (rest := [.int q13.2.2.1]) (t_X10_count G l hN (13 : Int32) q13.2.2.2 hq107) cv_X10_count hx hb hml hl.1 Z hw (by decide) (by decide) (by omega) rfl rfl wd322 rfl rfl (Nat.le_of_ble_eq_true rfl) (by decide) dL_isGapSo_107 (fun H locs hw => ?_)
  refine lv_icmp_ne (tgt := 144) hx hb dL_isGapSo_110 (by decide) (fun c110 => ?_) (fun c110 => ?_)
  · have hf := (if_neg c110).symm.trans hf
    refine lv_iconst (v := (0 : Int32)) hx hb dL_isGapSo_144 (by decide) ?_
    obtain ⟨rfl, rfl⟩ := Prod.mk.inj (Option.some.inj hf)
    exact z_zret hx hb hr rfl hlk hw dL_isGapSo_145
  · have hf := (if_pos c110).symm.trans hf
    refine lv_aload_n hx hb dL_isGapSo_113 rfl (lv_at hl 0 rfl) ?_
    refine lv_iconst (v := (0 : Int32)) hx hb dL_isGapSo_114 (by decide) ?_
    obtain ⟨q115, hq115, hf⟩ := ob_some hf
    refine z_callVi (o := 0) (ci := 8) (As := [.int (0 : Int32)]) (rest := []) (t_X10_gap G l hN (0 : Int32) q107.2 hq115) cv_X10_gap hx hb hml hl.1 Z hw (by decide) (by decide) (by omega) rfl rfl wd644 rfl rfl (Nat.le_of_ble_eq_true rfl) (by decide) dL_isGapSo_115 (fun H locs hw => ?_)
    refine lv_iload_n hx hb dL_isGapSo_118 rfl (lv_at hl 1 rfl) ?_
    refine lv_icmp_ne (tgt := 144) hx hb dL_isGapSo_119 (by decide) (fun c119 => ?_) (fun c119 => ?_)
    · have hf := (if_neg c119).symm.trans hf
      refine lv_iconst (v := (0 : Int32)) hx hb dL_isGapSo_144 (by decide) ?_
      obtain ⟨rfl, rfl⟩ := Prod.mk.inj (Option.some.inj hf)
      exact z_zret hx hb hr rfl hlk hw dL_isGapSo_145
    · have hf := (if_pos c119).symm.trans hf
      refine lv_aload_n hx hb dL_isGapSo_122 rfl (lv_at hl 0 rfl) ?_
      refine lv_iconst (v := (1 : Int32)) hx hb dL_isGapSo_123 (by decide) ?_
      obtain ⟨q124, hq124, hf⟩ := ob_some hf
      refine z_callVi (o := 0) (ci := 8) (As := [.int (1 : Int32)]) (rest := []) (t_X10_gap G l hN (1 : Int32) q115.2 hq124) cv_X10_gap hx hb hml hl.1 Z hw (by decide) (by decide) (by omega) rfl rfl wd644 rfl rfl (Nat.le_of_ble_eq_true rfl) (by decide) dL_isGapSo_124 (fun H locs hw => ?_)
      refine lv_iload_n hx hb dL_isGapSo_127 rfl (lv_at hl 2 rfl) ?_
      have HJ137 : ∀ (ls : Array Slot) (H : Heap) (locs : List Loc), lv_has ls 7 [] → HW G q124.2 s H locs → WZ p l e 5 s m args below meth c G (some (.int r)) h' H locs (F0 m 137 ls [.int (if q13.2.1 = 0 then (-5 : Int32) else q13.2.1), .int q124.1]) := by
        intro ls H locs hl hw
        refine lv_icmp_ne (tgt := 144) hx hb dL_isGapSo_137 (by decide) (fun c137 => ?_) (fun c137 => ?_)
        · have hf := (if_neg c137).symm.trans hf
          refine lv_iconst (v := (0 : Int32)) hx hb dL_isGapSo_144 (by decide) ?_
          obtain ⟨rfl, rfl⟩ := Prod.mk.inj (Option.some.inj hf)
          exact z_zret hx hb hr rfl hlk hw dL_isGapSo_145
        · have hf := (if_pos c137).symm.trans hf
          refine lv_iconst (v := (1 : Int32)) hx hb dL_isGapSo_140 (by decide) ?_
          refine lv_goto (tgt := 145) hx hb dL_isGapSo_141 (by decide) ?_
          obtain ⟨rfl, rfl⟩ := Prod.mk.inj (Option.some.inj hf)
          exact z_zret hx hb hr rfl hlk hw dL_isGapSo_145
      refine lv_if_ne (tgt := 136) hx hb dL_isGapSo_128 (by decide) (fun c128 => ?_) (fun c128 => ?_)
      · skip
        refine lv_iload_n hx hb dL_isGapSo_136 rfl (lv_at hl 2 rfl) ?_
        refine W.eq (g2 := F0 m 137 ls [.int (if q13.2.1 = 0 then (-5 : Int32) else q13.2.1), .int q124.1]) ?_ (HJ137 ls H locs (lv_sub hl [] rfl) hw)
        first | (simp only [if_neg c128]; done) | contradiction
      · skip
        refine lv_bipush (v := (-5 : Int32)) hx hb dL_isGapSo_131 (by decide) ?_
        refine lv_goto (tgt := 137) hx hb dL_isGapSo_133 (by decide) ?_
        refine W.eq (g2 := F0 m 137 ls [.int (if q13.2.1 = 0 then (-5 : Int32) else q13.2.1), .int q124.1]) ?_ (HJ137 ls H locs (lv_sub hl [] rfl) hw)
        first | (simp only [if_pos c128]; done) | contradiction
set_option maxHeartbeats 4000000 in
set_option maxRecDepth 100000 in
theorem t_L_isSeekSo (G : GM) (l : Launch) (hN : 70 ≤ gN G) (x1 : Int32) (x2 : Int32) (h : HP) {r : Int32} {h' : HP} (hf : f_L_isSeekSo x1 x2 h = some (r, h')) : MC G l yL_isSeekSo cL_isSeekSo 14 (some .boolean) 5 [.ref (ra G 0), .int x1, .int x2] h h' (some (.int r)) := by
  unfold f_L_isSeekSo at hf
  refine z_start (by decide) (Nat.le_of_ble_eq_true rfl) ?_
  intro p e s m args below meth c ls hx hb hr hlk hml Z hw hl
  have Z : ZK G s args m RL := Z
  have hl : lv_has ls 14 [(0, .ref (ra G 0)), (1, .int x1), (2, .int x2)] := hl
  obtain ⟨H, hH⟩ : ∃ H, H = s.heap := ⟨_, rfl⟩
  rw [← hH] at hw ⊢
  obtain ⟨locs, hlc⟩ : ∃ locs : List Loc, locs = [] := ⟨_, rfl⟩
  rw [← hlc] at hw ⊢
  refine lv_aload_n hx hb dL_isSeekSo_0 rfl (lv_at hl 0 rfl) ?_
  refine lv_iload_n hx hb dL_isSeekSo_1 rfl (lv_at hl 1 rfl) ?_
  refine lv_iconst (v := (0 : Int32)) hx hb dL_isSeekSo_2 (by decide) ?_
  obtain ⟨q3, hq3, hf⟩ := ob_some hf
  refine z_callVi (o := 0) (ci := 8) (As := [.int x1, .int (0 : Int32)]) (rest := []) (t_X10_ifSought G l hN x1 (0 : Int32) h hq3) cv_X10_ifSought hx hb hml hl.1 Z hw (by decide) (by decide) (by omega) rfl rfl wd651 rfl rfl (Nat.le_of_ble_eq_true rfl) (by decide) dL_isSeekSo_3 (fun H locs hw => ?_)
  refine lv_istore_n (lv' := [(3, _), (0, _), (1, _), (2, _)]) hx hb dL_isSeekSo_6 rfl hl (by decide) rfl (fun ls hl => ?_)
  refine lv_aload_n hx hb dL_isSeekSo_7 rfl (lv_at hl 1 rfl) ?_
  refine lv_iload_n hx hb dL_isSeekSo_8 rfl (lv_at hl 2 rfl) ?_
  refine lv_iconst (v := (1 : Int32)) hx hb dL_isSeekSo_9 (by decide) ?_
  obtain ⟨q10, hq10, hf⟩ := ob_some hf
  refine z_callVi (o := 0) (ci := 8) (As := [.int x1, .int (1 : Int32)]) (rest := []) (t_X10_ifSought G l hN x1 (1 : Int32) q3.2 hq10) cv_X10_ifSought hx hb hml hl.1 Z hw (by decide) (by decide) (by omega) rfl rfl wd651 rfl rfl (Nat.le_of_ble_eq_true rfl) (by decide) dL_isSeekSo_10 (fun H locs hw => ?_)
  refine lv_istore (lv' := [(4, _), (3, _), (0, _), (1, _), (2, _)]) hx hb dL_isSeekSo_13 hl (by decide) rfl (fun ls hl => ?_)
  refine lv_aload_n hx hb dL_isSeekSo_15 rfl (lv_at hl 2 rfl) ?_
  refine lv_iload_n hx hb dL_isSeekSo_16 rfl (lv_at hl 3 rfl) ?_
  obtain ⟨q17, hq17, hf⟩ := ob_some hf
  refine z_callVi (o := 0) (ci := 8) (As := [.int x1]) (rest := []) (t_X10_bestGuess G l hN x1 q10.2 hq17) cv_X10_bestGuess hx hb hml hl.1 Z hw (by decide) (by decide) (by omega) rfl rfl wd660 rfl rfl (Nat.le_of_ble_eq_true rfl) (by decide) dL_isSeekSo_17 (fun H locs hw => ?_)
  refine lv_istore (lv' := [(5, _), (4, _), (3, _), (0, _), (1, _), (2, _)]) hx hb dL_isSeekSo_20 hl (by decide) rfl (fun ls hl => ?_)
  refine lv_aload_n hx hb dL_isSeekSo_22 rfl (lv_at hl 3 rfl) ?_
  refine lv_bipush (v := (21 : Int32)) hx hb dL_isSeekSo_23 (by decide) ?_
  obtain ⟨q25, hq25, hf⟩ := ob_some hf
  refine z_callVi (o := 0) (ci := 8) (As := [.int (21 : Int32)]) (rest := []) (t_X10_count G l hN (21 : Int32) q17.2 hq25) cv_X10_count hx hb hml hl.1 Z hw (by decide) (by decide) (by omega) rfl rfl wd322 rfl rfl (Nat.le_of_ble_eq_true rfl) (by decide) dL_isSeekSo_25 (fun H locs hw => ?_)
  refine lv_istore (lv' := [(6, _), (5, _), (4, _), (3, _), (0, _), (1, _), (2, _)]) hx hb dL_isSeekSo_28 hl (by decide) rfl (fun ls hl => ?_)
  refine lv_aload_n hx hb dL_isSeekSo_30 rfl (lv_at hl 4 rfl) ?_
  refine lv_bipush (v := (6 : Int32)) hx hb dL_isSeekSo_31 (by decide) ?_
  obtain ⟨q33, hq33, hf⟩ := ob_some hf
  refine z_callVi (o := 0) (ci := 8) (As := [.int (6 : Int32)]) (rest := []) (t_X10_count G l hN (6 : Int32) q25.2 hq33) cv_X10_count hx hb hml hl.1 Z hw (by decide) (by decide) (by omega) rfl rfl wd322 rfl rfl (Nat.le_of_ble_eq_true rfl) (by decide) dL_isSeekSo_33 (fun H locs hw => ?_)
  refine lv_istore (lv' := [(7, _), (6, _), (5, _), (4, _), (3, _), (0, _), (1, _), (2, _)]) hx hb dL_isSeekSo_36 hl (by decide) rfl (fun ls hl => ?_)
  refine lv_aload_n hx hb dL_isSeekSo_38 rfl (lv_at hl 5 rfl) ?_
  refine lv_bipush (v := (9 : Int32)) hx hb dL_isSeekSo_39 (by decide) ?_
  obtain ⟨q41, hq41, hf⟩ := ob_some hf
  refine z_callVi (o := 0) (ci := 8) (As := [.int (9 : Int32)]) (rest := []) (t_X10_count G l hN (9 : Int32) q33.2 hq41) cv_X10_count hx hb hml hl.1 Z hw (by decide) (by decide) (by omega) rfl rfl wd322 rfl rfl (Nat.le_of_ble_eq_true rfl) (by decide) dL_isSeekSo_41 (fun H locs hw => ?_)
  refine lv_istore (lv' := [(8, _), (7, _), (6, _), (5, _), (4, _), (3, _), (0, _), (1, _), (2, _)]) hx hb dL_isSeekSo_44 hl (by decide) rfl (fun ls hl => ?_)
  refine lv_iload hx hb dL_isSeekSo_46 (lv_at hl 3 rfl) ?_
  refine lv_bipush (v := (60 : Int32)) hx hb dL_isSeekSo_48 (by decide) ?_
  obtain ⟨j50, hqj50, hf⟩ := ob_some hf
  have HJ125 : ∀ (ls : Array Slot) (H : Heap) (locs : List Loc), lv_has ls 14 [(0, .ref (ra G 0)), (1, .int x1), (2, .int x2), (3, .int q3.1), (5, .int q17.1), (6, .int q25.1), (7, .int q33.1)] → HW G j50.2 s H locs → WZ p l e 5 s m args below meth c G (some (.int r)) h' H locs (F0 m 125 ls [.int j50.1]) := by
    intro ls H locs hl hw
    refine lv_istore (lv' := [(9, _), (0, _), (1, _), (2, _), (3, _), (5, _), (6, _), (7, _)]) hx hb dL_isSeekSo_125 hl (by decide) rfl (fun ls hl => ?_)
    refine lv_aload_n hx hb dL_isSeekSo_127 rfl (lv_at hl 1 rfl) ?_
    obtain ⟨q128, hq128, hf⟩ := ob_some hf
    refine z_callVi (o := 0) (ci := 8) (As := []) (rest := []) (t_X10_undo G l hN  j50.2 hq128) cv_X10_undo hx hb hml hl.1 Z hw (by decide) (by decide) (by omega) rfl rfl wd664 rfl rfl (Nat.le_of_ble_eq_true rfl) (by decide) dL_isSeekSo_128 (fun H locs hw => ?_)
    refine lv_istore (lv' := [(10, _), (9, _), (0, _), (1, _), (2, _), (3, _), (5, _), (6, _), (7, _)]) hx hb dL_isSeekSo_131 hl (by decide) rfl (fun ls hl => ?_)
    refine lv_aload_n hx hb dL_isSeekSo_133 rfl (lv_at hl 2 rfl) ?_
    refine lv_iconst (v := (4 : Int32)) hx hb dL_isSeekSo_134 (by decide) ?_
    refine lv_iload hx hb dL_isSeekSo_135 (lv_at hl 6 rfl) ?_
    obtain ⟨q137, hq137, hf⟩ := ob_some hf
    refine z_callVi (o := 0) (ci := 8) (As := [.int (4 : Int32), .int q17.1]) (rest := []) (t_X10_set G l hN (4 : Int32) q17.1 q128.2 hq137) cv_X10_set hx hb hml hl.1 Z hw (by decide) (by decide) (by omega) rfl rfl wd258 rfl rfl (Nat.le_of_ble_eq_true rfl) (by decide) dL_isSeekSo_137 (fun H locs hw => ?_)
    refine lv_istore (lv' := [(11, _), (10, _), (9, _), (0, _), (1, _), (2, _), (3, _), (5, _), (6, _), (7, _)]) hx hb dL_isSeekSo_140 hl (by decide) rfl (fun ls hl => ?_)
    refine lv_aload_n hx hb dL_isSeekSo_142 rfl (lv_at hl 3 rfl) ?_
    refine lv_iload_n hx hb dL_isSeekSo_143 rfl (lv_at hl 4 rfl) ?_
    refine lv_iconst (v := (0 : Int32)) hx hb dL_isSeekSo_144 (by decide) ?_
    obtain ⟨q145, hq145, hf⟩ := ob_some hf
    refine z_callVi (o := 0) (ci := 8) (As := [.int x1, .int (0 : Int32)]) (rest := []) (t_X10_ifSought G l hN x1 (0 : Int32) q137.2 hq145) cv_X10_ifSought hx hb hml hl.1 Z hw (by decide) (by decide) (by omega) rfl rfl wd651 rfl rfl (Nat.le_of_ble_eq_true rfl) (by decide) dL_isSeekSo_145 (fun H locs hw => ?_)
    refine lv_istore (lv' := [(12, _), (11, _), (10, _), (9, _), (0, _), (1, _), (2, _), (3, _), (5, _), (6, _), (7, _)]) hx hb dL_isSeekSo_148 hl (by decide) rfl (fun ls hl => ?_)
    refine lv_iload hx hb dL_isSeekSo_150 (lv_at hl 1 rfl) ?_
    obtain ⟨j152, hqj152, hf⟩ := ob_some hf
    have HJ164 : ∀ (ls : Array Slot) (H : Heap) (locs : List Loc), lv_has ls 14 [(0, .ref (ra G 0)), (1, .int x1), (2, .int x2), (3, .int q3.1), (5, .int q17.1), (6, .int q25.1), (7, .int q33.1), (9, .int j50.1), (12, .int q145.1)] → HW G j152.2 s H locs → WZ p l e 5 s m args below meth c G (some (.int r)) h' H locs (F0 m 164 ls [.int j152.1]) := by
      intro ls H locs hl hw
      refine lv_istore (lv' := [(10, _), (0, _), (1, _), (2, _), (3, _), (5, _), (6, _), (7, _), (9, _), (12, _)]) hx hb dL_isSeekSo_164 hl (by decide) rfl (fun ls hl => ?_)
      refine lv_aload_n hx hb dL_isSeekSo_166 rfl (lv_at hl 1 rfl) ?_
      refine lv_iconst (v := (4 : Int32)) hx hb dL_isSeekSo_167 (by decide) ?_
      refine lv_iload_n hx hb dL_isSeekSo_168 rfl (lv_at hl 3 rfl) ?_
      obtain ⟨q169, hq169, hf⟩ := ob_some hf
      refine z_callVi (o := 0) (ci := 8) (As := [.int (4 : Int32), .int x2]) (rest := []) (t_X10_set G l hN (4 : Int32) x2 j152.2 hq169) cv_X10_set hx hb hml hl.1 Z hw (by decide) (by decide) (by omega) rfl rfl wd258 rfl rfl (Nat.le_of_ble_eq_true rfl) (by decide) dL_isSeekSo_169 (fun H locs hw => ?_)
      refine lv_istore (lv' := [(11, _), (10, _), (0, _), (1, _), (2, _), (3, _), (5, _), (6, _), (7, _), (9, _), (12, _)]) hx hb dL_isSeekSo_172 hl (by decide) rfl (fun ls hl => ?_)
      refine lv_aload_n hx hb dL_isSeekSo_174 rfl (lv_at hl 2 rfl) ?_
      refine lv_iload_n hx hb dL_isSeekSo_175 rfl (lv_at hl 3 rfl) ?_
      refine lv_iconst (v := (0 : Int32)) hx hb dL_isSeekSo_176 (by decide) ?_
      obtain ⟨q177, hq177, hf⟩ := ob_some hf
      refine z_callVi (o := 0) (ci := 8) (As := [.int x1, .int (0 : Int32)]) (rest := []) (t_X10_ifSought G l hN x1 (0 : Int32) q169.2 hq177) cv_X10_ifSought hx hb hml hl.1 Z hw (by decide) (by decide) (by omega) rfl rfl wd651 rfl rfl (Nat.le_of_ble_eq_true rfl) (by decide) dL_isSeekSo_177 (fun H locs hw => ?_)
      refine lv_istore (lv' := [(13, _), (11, _), (10, _), (0, _), (1, _), (2, _), (3, _), (5, _), (6, _), (7, _), (9, _), (12, _)]) hx hb dL_isSeekSo_180 hl (by decide) rfl (fun ls hl => ?_)
      refine lv_iload hx hb dL_isSeekSo_182 (lv_at hl 1 rfl) ?_
      obtain ⟨j184, hqj184, hf⟩ := ob_some hf
      have HJ196 : ∀ (ls : Array Slot) (H : Heap) (locs : List Loc), lv_has ls 14 [(0, .ref (ra G 0)), (2, .int x2), (3, .int q3.1), (5, .int q17.1), (6, .int q25.1), (7, .int q33.1), (9, .int j50.1), (12, .int q145.1), (13, .int q177.1)] → HW G j184.2 s H locs → WZ p l e 5 s m args below meth c G (some (.int r)) h' H locs (F0 m 196 ls [.int j184.1]) := by
        intro ls H locs hl hw
        refine lv_istore (lv' := [(10, _), (0, _), (2, _), (3, _), (5, _), (6, _), (7, _), (9, _), (12, _), (13, _)]) hx hb dL_isSeekSo_196 hl (by decide) rfl (fun ls hl => ?_)
        refine lv_iload hx hb dL_isSeekSo_198 (lv_at hl 7 rfl) ?_
        refine lv_if_eq (tgt := 260) hx hb dL_isSeekSo_200 (by decide) (fun c200 => ?_) (fun c200 => ?_)
        · have hf := (if_pos c200).symm.trans hf
          refine lv_iconst (v := (0 : Int32)) hx hb dL_isSeekSo_260 (by decide) ?_
          obtain ⟨rfl, rfl⟩ := Prod.mk.inj (Option.some.inj hf)
          exact z_zret hx hb hr rfl hlk hw dL_isSeekSo_261
        · have hf := (if_neg c200).symm.trans hf
          refine lv_iload hx hb dL_isSeekSo_203 (lv_at hl 0 rfl) ?_
          refine lv_if_lt (tgt := 260) hx hb dL_isSeekSo_205 (by decide) (fun c205 => ?_) (fun c205 => ?_)
          · have hf := (if_pos c205).symm.trans hf
            refine lv_iconst (v := (0 : Int32)) hx hb dL_isSeekSo_260 (by decide) ?_
            obtain ⟨rfl, rfl⟩ := Prod.mk.inj (Option.some.inj hf)
            exact z_zret hx hb hr rfl hlk hw dL_isSeekSo_261
          · have hf := (if_neg c205).symm.trans hf
            refine lv_iload hx hb dL_isSeekSo_208 (lv_at hl 8 rfl) ?_
            refine lv_iload_n hx hb dL_isSeekSo_210 rfl (lv_at hl 3 rfl) ?_
            refine lv_icmp_gt (tgt := 260) hx hb dL_isSeekSo_211 (by decide) (fun c211 => ?_) (fun c211 => ?_)
            · have hf := (if_pos c211).symm.trans hf
              refine lv_iconst (v := (0 : Int32)) hx hb dL_isSeekSo_260 (by decide) ?_
              obtain ⟨rfl, rfl⟩ := Prod.mk.inj (Option.some.inj hf)
              exact z_zret hx hb hr rfl hlk hw dL_isSeekSo_261
            · have hf := (if_neg c211).symm.trans hf
              refine lv_iload hx hb dL_isSeekSo_214 (lv_at hl 8 rfl) ?_
              refine lv_iload hx hb dL_isSeekSo_216 (lv_at hl 9 rfl) ?_
              refine lv_icmp_gt (tgt := 260) hx hb dL_isSeekSo_218 (by decide) (fun c218 => ?_) (fun c218 => ?_)
              · have hf := (if_pos c218).symm.trans hf
                refine lv_iconst (v := (0 : Int32)) hx hb dL_isSeekSo_260 (by decide) ?_
                obtain ⟨rfl, rfl⟩ := Prod.mk.inj (Option.some.inj hf)
                exact z_zret hx hb hr rfl hlk hw dL_isSeekSo_261
              · have hf := (if_neg c218).symm.trans hf
                refine lv_iload hx hb dL_isSeekSo_221 (lv_at hl 9 rfl) ?_
                refine lv_iload hx hb dL_isSeekSo_223 (lv_at hl 8 rfl) ?_
                refine lv_icmp_gt (tgt := 234) hx hb dL_isSeekSo_225 (by decide) (fun c225 => ?_) (fun c225 => ?_)
                · have hf := (if_pos c225).symm.trans hf
                  refine lv_aload_n hx hb dL_isSeekSo_234 rfl (lv_at hl 1 rfl) ?_
                  refine lv_bipush (v := (21 : Int32)) hx hb dL_isSeekSo_235 (by decide) ?_
                  obtain ⟨q237, hq237, hf⟩ := ob_some hf
                  refine z_callVi (o := 0) (ci := 8) (As := [.int (21 : Int32)]) (rest := []) (t_X10_count G l hN (21 : Int32) j184.2 hq237) cv_X10_count hx hb hml hl.1 Z hw (by decide) (by decide) (by omega) rfl rfl wd322 rfl rfl (Nat.le_of_ble_eq_true rfl) (by decide) dL_isSeekSo_237 (fun H locs hw => ?_)
                  refine lv_iload hx hb dL_isSeekSo_240 (lv_at hl 5 rfl) ?_
                  refine lv_icmp_ne (tgt := 260) hx hb dL_isSeekSo_242 (by decide) (fun c242 => ?_) (fun c242 => ?_)
                  · have hf := (if_neg c242).symm.trans hf
                    refine lv_iconst (v := (0 : Int32)) hx hb dL_isSeekSo_260 (by decide) ?_
                    obtain ⟨rfl, rfl⟩ := Prod.mk.inj (Option.some.inj hf)
                    exact z_zret hx hb hr rfl hlk hw dL_isSeekSo_261
                  · have hf := (if_pos c242).symm.trans hf
                    refine lv_aload_n hx hb dL_isSeekSo_245 rfl (lv_at hl 1 rfl) ?_
                    refine lv_bipush (v := (6 : Int32)) hx hb dL_isSeekSo_246 (by decide) ?_
                    obtain ⟨q248, hq248, hf⟩ := ob_some hf
                    refine z_callVi (o := 0) (ci := 8) (As := [.int (6 : Int32)]) (rest := []) (t_X10_count G l hN (6 : Int32) q237.2 hq248) cv_X10_count hx hb hml hl.1 Z hw (by decide) (by decide) (by omega) rfl rfl wd322 rfl rfl (Nat.le_of_ble_eq_true rfl) (by decide) dL_isSeekSo_248 (fun H locs hw => ?_)
                    refine lv_iload hx hb dL_isSeekSo_251 (lv_at hl 6 rfl) ?_
                    refine lv_icmp_ne (tgt := 260) hx hb dL_isSeekSo_253 (by decide) (fun c253 => ?_) (fun c253 => ?_)
                    · have hf := (if_neg c253).symm.trans hf
                      refine lv_iconst (v := (0 : Int32)) hx hb dL_isSeekSo_260 (by decide) ?_
                      obtain ⟨rfl, rfl⟩ := Prod.mk.inj (Option.some.inj hf)
                      exact z_zret hx hb hr rfl hlk hw dL_isSeekSo_261
                    · have hf := (if_pos c253).symm.trans hf
                      refine lv_iconst (v := (1 : Int32)) hx hb dL_isSeekSo_256 (by decide) ?_
                      refine lv_goto (tgt := 261) hx hb dL_isSeekSo_257 (by decide) ?_
                      obtain ⟨rfl, rfl⟩ := Prod.mk.inj (Option.some.inj hf)
                      exact z_zret hx hb hr rfl hlk hw dL_isSeekSo_261
                · have hf := (if_neg c225).symm.trans hf
                  refine lv_iload_n hx hb dL_isSeekSo_228 rfl (lv_at hl 2 rfl) ?_
                  refine lv_iload hx hb dL_isSeekSo_229 (lv_at hl 4 rfl) ?_
                  refine lv_icmp_lt (tgt := 260) hx hb dL_isSeekSo_231 (by decide) (fun c231 => ?_) (fun c231 => ?_)
                  · have hf := (if_pos c231).symm.trans hf
                    refine lv_iconst (v := (0 : Int32)) hx hb dL_isSeekSo_260 (by decide) ?_
                    obtain ⟨rfl, rfl⟩ := Prod.mk.inj (Option.some.inj hf)
                    exact z_zret hx hb hr rfl hlk hw dL_isSeekSo_261
                  · have hf := (if_neg c231).symm.trans hf
                    refine lv_aload_n hx hb dL_isSeekSo_234 rfl (lv_at hl 1 rfl) ?_
                    refine lv_bipush (v := (21 : Int32)) hx hb dL_isSeekSo_235 (by decide) ?_
                    obtain ⟨q237, hq237, hf⟩ := ob_some hf
                    refine z_callVi (o := 0) (ci := 8) (As := [.int (21 : Int32)]) (rest := []) (t_X10_count G l hN (21 : Int32) j184.2 hq237) cv_X10_count hx hb hml hl.1 Z hw (by decide) (by decide) (by omega) rfl rfl wd322 rfl rfl (Nat.le_of_ble_eq_true rfl) (by decide) dL_isSeekSo_237 (fun H locs hw => ?_)
                    refine lv_iload hx hb dL_isSeekSo_240 (lv_at hl 5 rfl) ?_
                    refine lv_icmp_ne (tgt := 260) hx hb dL_isSeekSo_242 (by decide) (fun c242 => ?_) (fun c242 => ?_)
                    · have hf := (if_neg c242).symm.trans hf
                      refine lv_iconst (v := (0 : Int32)) hx hb dL_isSeekSo_260 (by decide) ?_
                      obtain ⟨rfl, rfl⟩ := Prod.mk.inj (Option.some.inj hf)
                      exact z_zret hx hb hr rfl hlk hw dL_isSeekSo_261
                    · have hf := (if_pos c242).symm.trans hf
                      refine lv_aload_n hx hb dL_isSeekSo_245 rfl (lv_at hl 1 rfl) ?_
                      refine lv_bipush (v := (6 : Int32)) hx hb dL_isSeekSo_246 (by decide) ?_
                      obtain ⟨q248, hq248, hf⟩ := ob_some hf
                      refine z_callVi (o := 0) (ci := 8) (As := [.int (6 : Int32)]) (rest := []) (t_X10_count G l hN (6 : Int32) q237.2 hq248) cv_X10_count hx hb hml hl.1 Z hw (by decide) (by decide) (by omega) rfl rfl wd322 rfl rfl (Nat.le_of_ble_eq_true rfl) (by decide) dL_isSeekSo_248 (fun H locs hw => ?_)
                      refine lv_iload hx hb dL_isSeekSo_251 (lv_at hl 6 rfl) ?_
                      refine lv_icmp_ne (tgt := 260) hx hb dL_isSeekSo_253 (by decide) (fun c253 => ?_) (fun c253 => ?_)
                      · have hf := (if_neg c253).symm.trans hf
                        refine lv_iconst (v := (0 : Int32)) hx hb dL_isSeekSo_260 (by decide) ?_
                        obtain ⟨rfl, rfl⟩ := Prod.mk.inj (Option.some.inj hf)
                        exact z_zret hx hb hr rfl hlk hw dL_isSeekSo_261
                      · have hf := (if_pos c253).symm.trans hf
                        refine lv_iconst (v := (1 : Int32)) hx hb dL_isSeekSo_256 (by decide) ?_
                        refine lv_goto (tgt := 261) hx hb dL_isSeekSo_257 (by decide) ?_
                        obtain ⟨rfl, rfl⟩ := Prod.mk.inj (Option.some.inj hf)
                        exact z_zret hx hb hr rfl hlk hw dL_isSeekSo_261
      have hf := hqj184
      refine lv_if_lt (tgt := 194) hx hb dL_isSeekSo_184 (by decide) (fun c184 => ?_) (fun c184 => ?_)
      · have hf := (if_pos c184).symm.trans hf
        refine lv_iload hx hb dL_isSeekSo_194 (lv_at hl 2 rfl) ?_
        obtain rfl := Option.some.inj hf
        exact HJ196 ls H locs (lv_sub hl [3, 5, 6, 7, 8, 9, 10, 11, 0] rfl) hw
      · have hf := (if_neg c184).symm.trans hf
        refine lv_aload_n hx hb dL_isSeekSo_187 rfl (lv_at hl 3 rfl) ?_
        obtain ⟨q188, hq188, hf⟩ := ob_some hf
        refine z_callVi (o := 0) (ci := 8) (As := []) (rest := []) (t_X10_undo G l hN  q177.2 hq188) cv_X10_undo hx hb hml hl.1 Z hw (by decide) (by decide) (by omega) rfl rfl wd664 rfl rfl (Nat.le_of_ble_eq_true rfl) (by decide) dL_isSeekSo_188 (fun H locs hw => ?_)
        refine lv_goto (tgt := 196) hx hb dL_isSeekSo_191 (by decide) ?_
        obtain rfl := Option.some.inj hf
        exact HJ196 ls H locs (lv_sub hl [3, 5, 6, 7, 8, 9, 10, 11, 0] rfl) hw
    have hf := hqj152
    refine lv_if_lt (tgt := 162) hx hb dL_isSeekSo_152 (by decide) (fun c152 => ?_) (fun c152 => ?_)
    · have hf := (if_pos c152).symm.trans hf
      refine lv_iload hx hb dL_isSeekSo_162 (lv_at hl 2 rfl) ?_
      obtain rfl := Option.some.inj hf
      exact HJ164 ls H locs (lv_sub hl [4, 5, 6, 7, 8, 9, 10, 3, 0] rfl) hw
    · have hf := (if_neg c152).symm.trans hf
      refine lv_aload_n hx hb dL_isSeekSo_155 rfl (lv_at hl 4 rfl) ?_
      obtain ⟨q156, hq156, hf⟩ := ob_some hf
      refine z_callVi (o := 0) (ci := 8) (As := []) (rest := []) (t_X10_undo G l hN  q145.2 hq156) cv_X10_undo hx hb hml hl.1 Z hw (by decide) (by decide) (by omega) rfl rfl wd664 rfl rfl (Nat.le_of_ble_eq_true rfl) (by decide) dL_isSeekSo_156 (fun H locs hw => ?_)
      refine lv_goto (tgt := 164) hx hb dL_isSeekSo_159 (by decide) ?_
      obtain rfl := Option.some.inj hf
      exact HJ164 ls H locs (lv_sub hl [4, 5, 6, 7, 8, 9, 10, 3, 0] rfl) hw
  have hf := hqj50
  refine lv_icmp_lt (tgt := 124) hx hb dL_isSeekSo_50 (by decide) (fun c50 => ?_) (fun c50 => ?_)
  · have hf := (if_pos c50).symm.trans hf
    refine lv_iconst (v := (0 : Int32)) hx hb dL_isSeekSo_124 (by decide) ?_
    obtain rfl := Option.some.inj hf
    exact HJ125 ls H locs (lv_sub hl [6, 7, 8, 5, 3, 2, 1] rfl) hw
  · have hf := (if_neg c50).symm.trans hf
    refine lv_iload hx hb dL_isSeekSo_53 (lv_at hl 3 rfl) ?_
    refine lv_sipush (v := (140 : Int32)) hx hb dL_isSeekSo_55 (by decide) ?_
    refine lv_icmp_gt (tgt := 124) hx hb dL_isSeekSo_58 (by decide) (fun c58 => ?_) (fun c58 => ?_)
    · have hf := (if_pos c58).symm.trans hf
      refine lv_iconst (v := (0 : Int32)) hx hb dL_isSeekSo_124 (by decide) ?_
      obtain rfl := Option.some.inj hf
      exact HJ125 ls H locs (lv_sub hl [6, 7, 8, 5, 3, 2, 1] rfl) hw
    · have hf := (if_neg c58).symm.trans hf
      refine lv_aload_n hx hb dL_isSeekSo_61 rfl (lv_at hl 6 rfl) ?_
      refine lv_iload_n hx hb dL_isSeekSo_62 rfl (lv_at hl 7 rfl) ?_
      obtain ⟨q63, hq63, hf⟩ := ob_some hf
      refine z_callVi (o := 0) (ci := 8) (As := [.int x1]) (rest := []) (t_X10_seek G l hN x1 q41.2 hq63) cv_X10_seek hx hb hml hl.1 Z hw (by decide) (by decide) (by omega) rfl rfl wd551 rfl rfl (Nat.le_of_ble_eq_true rfl) (by decide) dL_isSeekSo_63 (fun H locs hw => ?_)
      refine lv_iload_n hx hb dL_isSeekSo_66 rfl (lv_at hl 5 rfl) ?_
      refine lv_icmp_ne (tgt := 124) hx hb dL_isSeekSo_67 (by decide) (fun c67 => ?_) (fun c67 => ?_)
      · have hf := (if_neg c67).symm.trans hf
        refine lv_iconst (v := (0 : Int32)) hx hb dL_isSeekSo_124 (by decide) ?_
        obtain rfl := Option.some.inj hf
        exact HJ125 ls H locs (lv_sub hl [6, 7, 8, 5, 3, 2, 1] rfl) hw
      · have hf := (if_pos c67).symm.trans hf
        refine lv_aload_n hx hb dL_isSeekSo_70 rfl (lv_at hl 6 rfl) ?_
        refine lv_iconst (v := (3 : Int32)) hx hb dL_isSeekSo_71 (by decide) ?_
        obtain ⟨q72, hq72, hf⟩ := ob_some hf
        refine z_callVi (o := 0) (ci := 8) (As := [.int (3 : Int32)]) (rest := []) (t_X10_count G l hN (3 : Int32) q63.2 hq72) cv_X10_count hx hb hml hl.1 Z hw (by decide) (by decide) (by omega) rfl rfl wd322 rfl rfl (Nat.le_of_ble_eq_true rfl) (by decide) dL_isSeekSo_72 (fun H locs hw => ?_)
        refine lv_iload_n hx hb dL_isSeekSo_75 rfl (lv_at hl 7 rfl) ?_
        refine lv_icmp_ne (tgt := 124) hx hb dL_isSeekSo_76 (by decide) (fun c76 => ?_) (fun c76 => ?_)
        · have hf := (if_neg c76).symm.trans hf
          refine lv_iconst (v := (0 : Int32)) hx hb dL_isSeekSo_124 (by decide) ?_
          obtain rfl := Option.some.inj hf
          exact HJ125 ls H locs (lv_sub hl [6, 7, 8, 5, 3, 2, 1] rfl) hw
        · have hf := (if_pos c76).symm.trans hf
          refine lv_aload_n hx hb dL_isSeekSo_79 rfl (lv_at hl 6 rfl) ?_
          refine lv_iconst (v := (4 : Int32)) hx hb dL_isSeekSo_80 (by decide) ?_
          obtain ⟨q81, hq81, hf⟩ := ob_some hf
          refine z_callVi (o := 0) (ci := 8) (As := [.int (4 : Int32)]) (rest := []) (t_X10_count G l hN (4 : Int32) q72.2 hq81) cv_X10_count hx hb hml hl.1 Z hw (by decide) (by decide) (by omega) rfl rfl wd322 rfl rfl (Nat.le_of_ble_eq_true rfl) (by decide) dL_isSeekSo_81 (fun H locs hw => ?_)
          refine lv_aload_n hx hb dL_isSeekSo_84 rfl (lv_at hl 6 rfl) ?_
          refine lv_iload_n hx hb dL_isSeekSo_85 rfl (lv_at hl 7 rfl) ?_
          refine lv_iconst (v := (0 : Int32)) hx hb dL_isSeekSo_86 (by decide) ?_
          obtain ⟨q87, hq87, hf⟩ := ob_some hf
          refine z_callVi (o := 0) (ci := 8) (As := [.int x1, .int (0 : Int32)]) (rest := [.int q81.1]) (t_X10_frame G l hN x1 (0 : Int32) q81.2 hq87) cv_X10_frame hx hb hml hl.1 Z hw (by decide) (by decide) (by omega) rfl rfl wd571 rfl rfl (Nat.le_of_ble_eq_true rfl) (by decide) dL_isSeekSo_87 (fun H locs hw => ?_)
          refine lv_icmp_ne (tgt := 124) hx hb dL_isSeekSo_90 (by decide) (fun c90 => ?_) (fun c90 => ?_)
          · have hf := (if_neg c90).symm.trans hf
            refine lv_iconst (v := (0 : Int32)) hx hb dL_isSeekSo_124 (by decide) ?_
            obtain rfl := Option.some.inj hf
            exact HJ125 ls H locs (lv_sub hl [6, 7, 8, 5, 3, 2, 1] rfl) hw
          · have hf := (if_pos c90).symm.trans hf
            refine lv_aload_n hx hb dL_isSeekSo_93 rfl (lv_at hl 6 rfl) ?_
            refine lv_bipush (v := (6 : Int32)) hx hb dL_isSeekSo_94 (by decide) ?_
            obtain ⟨q96, hq96, hf⟩ := ob_some hf
            refine z_callVi (o := 0) (ci := 8) (As := [.int (6 : Int32)]) (rest := []) (t_X10_count G l hN (6 : Int32) q87.2 hq96) cv_X10_count hx hb hml hl.1 Z hw (by decide) (by decide) (by omega) rfl rfl wd322 rfl rfl (Nat.le_of_ble_eq_true rfl) (by decide) dL_isSeekSo_96 (fun H locs hw => ?_)
            refine lv_iload hx hb dL_isSeekSo_99 (lv_at hl 1 rfl) ?_
            refine lv_iload_n hx hb dL_isSeekSo_101 rfl (lv_at hl 5 rfl) ?_
            refine lv_iadd hx hb dL_isSeekSo_102 ?_
            refine lv_icmp_ne (tgt := 124) hx hb dL_isSeekSo_103 (by decide) (fun c103 => ?_) (fun c103 => ?_)
            · have hf := (if_neg c103).symm.trans hf
              refine lv_iconst (v := (0 : Int32)) hx hb dL_isSeekSo_124 (by decide) ?_
              obtain rfl := Option.some.inj hf
              exact HJ125 ls H locs (lv_sub hl [6, 7, 8, 5, 3, 2, 1] rfl) hw
            · have hf := (if_pos c103).symm.trans hf
              refine lv_aload_n hx hb dL_isSeekSo_106 rfl (lv_at hl 6 rfl) ?_
              refine lv_bipush (v := (9 : Int32)) hx hb dL_isSeekSo_107 (by decide) ?_
              obtain ⟨q109, hq109, hf⟩ := ob_some hf
              refine z_callVi (o := 0) (ci := 8) (As := [.int (9 : Int32)]) (rest := []) (t_X10_count G l hN (9 : Int32) q96.2 hq109) cv_X10_count hx hb hml hl.1 Z hw (by decide) (by decide) (by omega) rfl rfl wd322 rfl rfl (Nat.le_of_ble_eq_true rfl) (by decide) dL_isSeekSo_109 (fun H locs hw => ?_)
              refine lv_iload hx hb dL_isSeekSo_112 (lv_at hl 0 rfl) ?_
              refine lv_iload hx hb dL_isSeekSo_114 (lv_at hl 4 rfl) ?_
              refine lv_iadd hx hb dL_isSeekSo_116 ?_
              refine lv_icmp_ne (tgt := 124) hx hb dL_isSeekSo_117 (by decide) (fun c117 => ?_) (fun c117 => ?_)
              · have hf := (if_neg c117).symm.trans hf
                refine lv_iconst (v := (0 : Int32)) hx hb dL_isSeekSo_124 (by decide) ?_
                obtain rfl := Option.some.inj hf
                exact HJ125 ls H locs (lv_sub hl [6, 7, 8, 5, 3, 2, 1] rfl) hw
              · have hf := (if_pos c117).symm.trans hf
                refine lv_iconst (v := (1 : Int32)) hx hb dL_isSeekSo_120 (by decide) ?_
                refine lv_goto (tgt := 125) hx hb dL_isSeekSo_121 (by decide) ?_
                obtain rfl := Option.some.inj hf
                exact HJ125 ls H locs (lv_sub hl [6, 7, 8, 5, 3, 2, 1] rfl) hw
set_option maxHeartbeats 4000000 in
set_option maxRecDepth 100000 in
theorem t_L_isPlaySo (G : GM) (l : Launch) (hN : 70 ≤ gN G) (x1 : Int32) (x2 : Int32) (h : HP) {r : Int32} {h' : HP} (hf : f_L_isPlaySo x1 x2 h = some (r, h')) : MC G l yL_isPlaySo cL_isPlaySo 10 (some .boolean) 6 [.ref (ra G 0), .int x1, .int x2] h h' (some (.int r)) := by
  unfold f_L_isPlaySo at hf
  refine z_start (by decide) (Nat.le_of_ble_eq_true rfl) ?_
  intro p e s m args below meth c ls hx hb hr hlk hml Z hw hl
  have Z : ZK G s args m RL := Z
  have hl : lv_has ls 10 [(0, .ref (ra G 0)), (1, .int x1), (2, .int x2)] := hl
  obtain ⟨H, hH⟩ : ∃ H, H = s.heap := ⟨_, rfl⟩
  rw [← hH] at hw ⊢
  obtain ⟨locs, hlc⟩ : ∃ locs : List Loc, locs = [] := ⟨_, rfl⟩
  rw [← hlc] at hw ⊢
  refine lv_aload_n hx hb dL_isPlaySo_0 rfl (lv_at hl 0 rfl) ?_
  refine lv_iload_n hx hb dL_isPlaySo_1 rfl (lv_at hl 1 rfl) ?_
  refine lv_iload_n hx hb dL_isPlaySo_2 rfl (lv_at hl 2 rfl) ?_
  refine lv_iadd hx hb dL_isPlaySo_3 ?_
  obtain ⟨q4, hq4, hf⟩ := ob_some hf
  refine z_callVi (o := 0) (ci := 8) (As := [.int (x1 + x2)]) (rest := []) (t_X10_play G l hN (x1 + x2) h hq4) cv_X10_play hx hb hml hl.1 Z hw (by decide) (by decide) (by omega) rfl rfl wd519 rfl rfl (Nat.le_of_ble_eq_true rfl) (by decide) dL_isPlaySo_4 (fun H locs hw => ?_)
  refine lv_istore_n (lv' := [(3, _), (0, _), (1, _), (2, _)]) hx hb dL_isPlaySo_7 rfl hl (by decide) rfl (fun ls hl => ?_)
  refine lv_iload_n hx hb dL_isPlaySo_8 rfl (lv_at hl 0 rfl) ?_
  refine lv_bipush (v := (-5 : Int32)) hx hb dL_isPlaySo_9 (by decide) ?_
  refine lv_icmp_ne (tgt := 33) hx hb dL_isPlaySo_11 (by decide) (fun c11 => ?_) (fun c11 => ?_)
  · have hf := (if_neg c11).symm.trans hf
    refine lv_aload_n hx hb dL_isPlaySo_33 rfl (lv_at hl 1 rfl) ?_
    refine lv_iconst (v := (3 : Int32)) hx hb dL_isPlaySo_34 (by decide) ?_
    obtain ⟨q35, hq35, hf⟩ := ob_some hf
    refine z_callVi (o := 0) (ci := 8) (As := [.int (3 : Int32)]) (rest := []) (t_X10_count G l hN (3 : Int32) q4.2 hq35) cv_X10_count hx hb hml hl.1 Z hw (by decide) (by decide) (by omega) rfl rfl wd322 rfl rfl (Nat.le_of_ble_eq_true rfl) (by decide) dL_isPlaySo_35 (fun H locs hw => ?_)
    refine lv_istore (lv' := [(4, _), (3, _), (0, _), (1, _), (2, _)]) hx hb dL_isPlaySo_38 hl (by decide) rfl (fun ls hl => ?_)
    refine lv_aload_n hx hb dL_isPlaySo_40 rfl (lv_at hl 2 rfl) ?_
    refine lv_bipush (v := (6 : Int32)) hx hb dL_isPlaySo_41 (by decide) ?_
    obtain ⟨q43, hq43, hf⟩ := ob_some hf
    refine z_callVi (o := 0) (ci := 8) (As := [.int (6 : Int32)]) (rest := []) (t_X10_count G l hN (6 : Int32) q35.2 hq43) cv_X10_count hx hb hml hl.1 Z hw (by decide) (by decide) (by omega) rfl rfl wd322 rfl rfl (Nat.le_of_ble_eq_true rfl) (by decide) dL_isPlaySo_43 (fun H locs hw => ?_)
    refine lv_istore (lv' := [(5, _), (4, _), (3, _), (0, _), (1, _), (2, _)]) hx hb dL_isPlaySo_46 hl (by decide) rfl (fun ls hl => ?_)
    refine lv_aload_n hx hb dL_isPlaySo_48 rfl (lv_at hl 3 rfl) ?_
    obtain ⟨q49, hq49, hf⟩ := ob_some hf
    refine z_callVi (o := 0) (ci := 8) (As := []) (rest := []) (t_X10_undo G l hN  q43.2 hq49) cv_X10_undo hx hb hml hl.1 Z hw (by decide) (by decide) (by omega) rfl rfl wd664 rfl rfl (Nat.le_of_ble_eq_true rfl) (by decide) dL_isPlaySo_49 (fun H locs hw => ?_)
    refine lv_istore (lv' := [(6, _), (5, _), (4, _), (3, _), (0, _), (1, _), (2, _)]) hx hb dL_isPlaySo_52 hl (by decide) rfl (fun ls hl => ?_)
    refine lv_aload_n hx hb dL_isPlaySo_54 rfl (lv_at hl 4 rfl) ?_
    refine lv_iload_n hx hb dL_isPlaySo_55 rfl (lv_at hl 5 rfl) ?_
    obtain ⟨q56, hq56, hf⟩ := ob_some hf
    refine z_callVi (o := 0) (ci := 8) (As := [.int x1]) (rest := []) (t_X10_play G l hN x1 q49.2 hq56) cv_X10_play hx hb hml hl.1 Z hw (by decide) (by decide) (by omega) rfl rfl wd519 rfl rfl (Nat.le_of_ble_eq_true rfl) (by decide) dL_isPlaySo_56 (fun H locs hw => ?_)
    refine lv_istore (lv' := [(7, _), (6, _), (5, _), (4, _), (3, _), (0, _), (1, _), (2, _)]) hx hb dL_isPlaySo_59 hl (by decide) rfl (fun ls hl => ?_)
    refine lv_aload_n hx hb dL_isPlaySo_61 rfl (lv_at hl 5 rfl) ?_
    refine lv_iload_n hx hb dL_isPlaySo_62 rfl (lv_at hl 7 rfl) ?_
    obtain ⟨q63, hq63, hf⟩ := ob_some hf
    refine z_callVi (o := 0) (ci := 8) (As := [.int x2]) (rest := []) (t_X10_play G l hN x2 q56.2 hq63) cv_X10_play hx hb hml hl.1 Z hw (by decide) (by decide) (by omega) rfl rfl wd519 rfl rfl (Nat.le_of_ble_eq_true rfl) (by decide) dL_isPlaySo_63 (fun H locs hw => ?_)
    refine lv_istore (lv' := [(8, _), (7, _), (6, _), (5, _), (4, _), (3, _), (0, _), (1, _), (2, _)]) hx hb dL_isPlaySo_66 hl (by decide) rfl (fun ls hl => ?_)
    refine lv_iload hx hb dL_isPlaySo_68 (lv_at hl 1 rfl) ?_
    refine lv_iload hx hb dL_isPlaySo_70 (lv_at hl 0 rfl) ?_
    refine lv_bipush (v := (-5 : Int32)) hx hb dL_isPlaySo_72 (by decide) ?_
    have HJ83 : ∀ (ls : Array Slot) (H : Heap) (locs : List Loc), lv_has ls 10 [(0, .ref (ra G 0)), (3, .int q4.1), (4, .int q35.1), (5, .int q43.1), (6, .int q49.1), (8, .int q63.1)] → HW G q63.2 s H locs → WZ p l e 6 s m args below meth c G (some (.int r)) h' H locs (F0 m 83 ls [.int (if q63.1 = (-5 : Int32) then (0 : Int32) else q63.1), .int q56.1]) := by
      intro ls H locs hl hw
      refine lv_iadd hx hb dL_isPlaySo_83 ?_
      refine lv_iload_n hx hb dL_isPlaySo_84 rfl (lv_at hl 1 rfl) ?_
      obtain ⟨j85, hqj85, hf⟩ := ob_some hf
      have HJ114 : ∀ (ls : Array Slot) (H : Heap) (locs : List Loc), lv_has ls 10 [(0, .ref (ra G 0)), (6, .int q49.1), (8, .int q63.1)] → HW G j85.2 s H locs → WZ p l e 6 s m args below meth c G (some (.int r)) h' H locs (F0 m 114 ls [.int j85.1]) := by
        intro ls H locs hl hw
        refine lv_istore (lv' := [(9, _), (0, _), (6, _), (8, _)]) hx hb dL_isPlaySo_114 hl (by decide) rfl (fun ls hl => ?_)
        refine lv_iload hx hb dL_isPlaySo_116 (lv_at hl 3 rfl) ?_
        refine lv_bipush (v := (-5 : Int32)) hx hb dL_isPlaySo_118 (by decide) ?_
        obtain ⟨j120, hqj120, hf⟩ := ob_some hf
        have HJ132 : ∀ (ls : Array Slot) (H : Heap) (locs : List Loc), lv_has ls 10 [(0, .ref (ra G 0)), (9, .int j85.1)] → HW G j120.2 s H locs → WZ p l e 6 s m args below meth c G (some (.int r)) h' H locs (F0 m 132 ls [.int j120.1]) := by
          intro ls H locs hl hw
          refine lv_istore (lv' := [(6, _), (0, _), (9, _)]) hx hb dL_isPlaySo_132 hl (by decide) rfl (fun ls hl => ?_)
          refine lv_aload_n hx hb dL_isPlaySo_134 rfl (lv_at hl 1 rfl) ?_
          obtain ⟨q135, hq135, hf⟩ := ob_some hf
          refine z_callVi (o := 0) (ci := 8) (As := []) (rest := []) (t_X10_undo G l hN  j120.2 hq135) cv_X10_undo hx hb hml hl.1 Z hw (by decide) (by decide) (by omega) rfl rfl wd664 rfl rfl (Nat.le_of_ble_eq_true rfl) (by decide) dL_isPlaySo_135 (fun H locs hw => ?_)
          refine lv_istore (lv' := [(6, _), (0, _), (9, _)]) hx hb dL_isPlaySo_138 hl (by decide) rfl (fun ls hl => ?_)
          refine lv_iload hx hb dL_isPlaySo_140 (lv_at hl 2 rfl) ?_
          refine lv_if_eq (tgt := 154) hx hb dL_isPlaySo_142 (by decide) (fun c142 => ?_) (fun c142 => ?_)
          · have hf := (if_pos c142).symm.trans hf
            refine lv_iconst (v := (0 : Int32)) hx hb dL_isPlaySo_154 (by decide) ?_
            obtain ⟨rfl, rfl⟩ := Prod.mk.inj (Option.some.inj hf)
            exact z_zret hx hb hr rfl hlk hw dL_isPlaySo_155
          · have hf := (if_neg c142).symm.trans hf
            refine lv_iload hx hb dL_isPlaySo_145 (lv_at hl 0 rfl) ?_
            refine lv_if_lt (tgt := 154) hx hb dL_isPlaySo_147 (by decide) (fun c147 => ?_) (fun c147 => ?_)
            · have hf := (if_pos c147).symm.trans hf
              refine lv_iconst (v := (0 : Int32)) hx hb dL_isPlaySo_154 (by decide) ?_
              obtain ⟨rfl, rfl⟩ := Prod.mk.inj (Option.some.inj hf)
              exact z_zret hx hb hr rfl hlk hw dL_isPlaySo_155
            · have hf := (if_neg c147).symm.trans hf
              refine lv_iconst (v := (1 : Int32)) hx hb dL_isPlaySo_150 (by decide) ?_
              refine lv_goto (tgt := 155) hx hb dL_isPlaySo_151 (by decide) ?_
              obtain ⟨rfl, rfl⟩ := Prod.mk.inj (Option.some.inj hf)
              exact z_zret hx hb hr rfl hlk hw dL_isPlaySo_155
        have hf := hqj120
        refine lv_icmp_ne (tgt := 128) hx hb dL_isPlaySo_120 (by decide) (fun c120 => ?_) (fun c120 => ?_)
        · have hf := (if_neg c120).symm.trans hf
          refine lv_aload_n hx hb dL_isPlaySo_128 rfl (lv_at hl 1 rfl) ?_
          obtain ⟨q129, hq129, hf⟩ := ob_some hf
          refine z_callVi (o := 0) (ci := 8) (As := []) (rest := []) (t_X10_undo G l hN  j85.2 hq129) cv_X10_undo hx hb hml hl.1 Z hw (by decide) (by decide) (by omega) rfl rfl wd664 rfl rfl (Nat.le_of_ble_eq_true rfl) (by decide) dL_isPlaySo_129 (fun H locs hw => ?_)
          obtain rfl := Option.some.inj hf
          exact HJ132 ls H locs (lv_sub hl [1, 0] rfl) hw
        · have hf := (if_pos c120).symm.trans hf
          refine lv_iload hx hb dL_isPlaySo_123 (lv_at hl 2 rfl) ?_
          refine lv_goto (tgt := 132) hx hb dL_isPlaySo_125 (by decide) ?_
          obtain rfl := Option.some.inj hf
          exact HJ132 ls H locs (lv_sub hl [1, 0] rfl) hw
      have hf := hqj85
      refine lv_icmp_ne (tgt := 113) hx hb dL_isPlaySo_85 (by decide) (fun c85 => ?_) (fun c85 => ?_)
      · have hf := (if_neg c85).symm.trans hf
        refine lv_iconst (v := (0 : Int32)) hx hb dL_isPlaySo_113 (by decide) ?_
        obtain rfl := Option.some.inj hf
        exact HJ114 ls H locs (lv_sub hl [0, 4, 5] rfl) hw
      · have hf := (if_pos c85).symm.trans hf
        refine lv_aload_n hx hb dL_isPlaySo_88 rfl (lv_at hl 0 rfl) ?_
        refine lv_iconst (v := (3 : Int32)) hx hb dL_isPlaySo_89 (by decide) ?_
        obtain ⟨q90, hq90, hf⟩ := ob_some hf
        refine z_callVi (o := 0) (ci := 8) (As := [.int (3 : Int32)]) (rest := []) (t_X10_count G l hN (3 : Int32) q63.2 hq90) cv_X10_count hx hb hml hl.1 Z hw (by decide) (by decide) (by omega) rfl rfl wd322 rfl rfl (Nat.le_of_ble_eq_true rfl) (by decide) dL_isPlaySo_90 (fun H locs hw => ?_)
        refine lv_iload hx hb dL_isPlaySo_93 (lv_at hl 2 rfl) ?_
        refine lv_icmp_ne (tgt := 113) hx hb dL_isPlaySo_95 (by decide) (fun c95 => ?_) (fun c95 => ?_)
        · have hf := (if_neg c95).symm.trans hf
          refine lv_iconst (v := (0 : Int32)) hx hb dL_isPlaySo_113 (by decide) ?_
          obtain rfl := Option.some.inj hf
          exact HJ114 ls H locs (lv_sub hl [0, 4, 5] rfl) hw
        · have hf := (if_pos c95).symm.trans hf
          refine lv_aload_n hx hb dL_isPlaySo_98 rfl (lv_at hl 0 rfl) ?_
          refine lv_bipush (v := (6 : Int32)) hx hb dL_isPlaySo_99 (by decide) ?_
          obtain ⟨q101, hq101, hf⟩ := ob_some hf
          refine z_callVi (o := 0) (ci := 8) (As := [.int (6 : Int32)]) (rest := []) (t_X10_count G l hN (6 : Int32) q90.2 hq101) cv_X10_count hx hb hml hl.1 Z hw (by decide) (by decide) (by omega) rfl rfl wd322 rfl rfl (Nat.le_of_ble_eq_true rfl) (by decide) dL_isPlaySo_101 (fun H locs hw => ?_)
          refine lv_iload hx hb dL_isPlaySo_104 (lv_at hl 3 rfl) ?_
          refine lv_icmp_ne (tgt := 113) hx hb dL_isPlaySo_106 (by decide) (fun c106 => ?_) (fun c106 => ?_)
          · have hf := (if_neg c106).symm.trans hf
            refine lv_iconst (v := (0 : Int32)) hx hb dL_isPlaySo_113 (by decide) ?_
            obtain rfl := Option.some.inj hf
            exact HJ114 ls H locs (lv_sub hl [0, 4, 5] rfl) hw
          · have hf := (if_pos c106).symm.trans hf
            refine lv_iconst (v := (1 : Int32)) hx hb dL_isPlaySo_109 (by decide) ?_
            refine lv_goto (tgt := 114) hx hb dL_isPlaySo_110 (by decide) ?_
            obtain rfl := Option.some.inj hf
            exact HJ114 ls H locs (lv_sub hl [0, 4, 5] rfl) hw
    refine lv_icmp_ne (tgt := 81) hx hb dL_isPlaySo_74 (by decide) (fun c74 => ?_) (fun c74 => ?_)
    · skip
      refine lv_iload hx hb dL_isPlaySo_81 (lv_at hl 0 rfl) ?_
      refine W.eq (g2 := F0 m 83 ls [.int (if q63.1 = (-5 : Int32) then (0 : Int32) else q63.1), .int q56.1]) ?_ (HJ83 ls H locs (lv_sub hl [6, 5, 4, 3, 2, 0] rfl) hw)
      first | (simp only [if_neg c74]; done) | contradiction
    · skip
      refine lv_iconst (v := (0 : Int32)) hx hb dL_isPlaySo_77 (by decide) ?_
      refine lv_goto (tgt := 83) hx hb dL_isPlaySo_78 (by decide) ?_
      refine W.eq (g2 := F0 m 83 ls [.int (if q63.1 = (-5 : Int32) then (0 : Int32) else q63.1), .int q56.1]) ?_ (HJ83 ls H locs (lv_sub hl [6, 5, 4, 3, 2, 0] rfl) hw)
      first | (simp only [if_pos c74]; done) | contradiction
  · have hf := (if_pos c11).symm.trans hf
    refine lv_aload_n hx hb dL_isPlaySo_14 rfl (lv_at hl 1 rfl) ?_
    refine lv_iconst (v := (3 : Int32)) hx hb dL_isPlaySo_15 (by decide) ?_
    obtain ⟨q16, hq16, hf⟩ := ob_some hf
    refine z_callVi (o := 0) (ci := 8) (As := [.int (3 : Int32)]) (rest := []) (t_X10_count G l hN (3 : Int32) q4.2 hq16) cv_X10_count hx hb hml hl.1 Z hw (by decide) (by decide) (by omega) rfl rfl wd322 rfl rfl (Nat.le_of_ble_eq_true rfl) (by decide) dL_isPlaySo_16 (fun H locs hw => ?_)
    refine lv_aload_n hx hb dL_isPlaySo_19 rfl (lv_at hl 1 rfl) ?_
    refine lv_iconst (v := (0 : Int32)) hx hb dL_isPlaySo_20 (by decide) ?_
    obtain ⟨q21, hq21, hf⟩ := ob_some hf
    refine z_callVi (o := 0) (ci := 8) (As := [.int (0 : Int32)]) (rest := [.int q16.1]) (t_X10_count G l hN (0 : Int32) q16.2 hq21) cv_X10_count hx hb hml hl.1 Z hw (by decide) (by decide) (by omega) rfl rfl wd322 rfl rfl (Nat.le_of_ble_eq_true rfl) (by decide) dL_isPlaySo_21 (fun H locs hw => ?_)
    refine lv_icmp_ne (tgt := 31) hx hb dL_isPlaySo_24 (by decide) (fun c24 => ?_) (fun c24 => ?_)
    · have hf := (if_neg c24).symm.trans hf
      refine lv_iconst (v := (0 : Int32)) hx hb dL_isPlaySo_31 (by decide) ?_
      obtain ⟨rfl, rfl⟩ := Prod.mk.inj (Option.some.inj hf)
      exact z_zret hx hb hr rfl hlk hw dL_isPlaySo_32
    · have hf := (if_pos c24).symm.trans hf
      refine lv_iconst (v := (1 : Int32)) hx hb dL_isPlaySo_27 (by decide) ?_
      refine lv_goto (tgt := 32) hx hb dL_isPlaySo_28 (by decide) ?_
      obtain ⟨rfl, rfl⟩ := Prod.mk.inj (Option.some.inj hf)
      exact z_zret hx hb hr rfl hlk hw dL_isPlaySo_32
set_option maxHeartbeats 4000000 in
set_option maxRecDepth 100000 in
theorem w_L_isPolishSo_L22 (G : GM) (l : Launch) (hN : 70 ≤ gN G)  {p : Program} {e : Env} {s : State} {m : MethodId} {args : Array Value} {below : List Frame} {meth : Method} {c : Code} (hx : p.tables.exec = Jvm.exec) (hb : c.code = cL_isPolishSo) (hr : meth.sig.returnType = (some .boolean)) (hlk : meth.locks = false) (hml : c.maxLocals = 10) (Z : ZK G s args m RL) : ∀ (n : Nat) (x3 : Int32) (x4 : Int32) (x5 : Int32)  (h : HP) (v1 : Int32) (v2 : Int32) (rv : Option Value) (hq : HP) (ls : Array Slot) (H : Heap) (locs : List Loc) {q : Int32 × Int32 × HP}, lv_has ls 10 [(0, .ref (ra G 0)), (1, .int v1), (2, .int v2), (3, .int x3), (4, .int x4), (5, .int x5)] → HW G h s H locs → f_L_isPolishSo_L22 n x3 x4 x5 h = some q → (∀ (ls : Array Slot) (H : Heap) (locs : List Loc), lv_has ls 10 [(1, .int v1), (2, .int v2), (3, .int q.1), (4, .int q.2.1)] → HW G q.2.2 s H locs → WZ p l e 6 s m args below meth c G rv hq H locs (F0 m 154 ls [])) → WZ p l e 6 s m args below meth c G rv hq H locs (F0 m 22 ls []) := by
  intro n
  induction n with
  | zero => intro x3 x4 x5  h v1 v2 rv hq ls H locs q hl hw hf kk; cases hf
  | succ n ih =>
    intro x3 x4 x5  h v1 v2 rv hq ls H locs q hl hw hf kk
    rw [f_L_isPolishSo_L22] at hf
    refine lv_iload hx hb dL_isPolishSo_22 (lv_at hl 5 rfl) ?_
    refine lv_aload_n hx hb dL_isPolishSo_24 rfl (lv_at hl 0 rfl) ?_
    refine lv_iconst (v := (2 : Int32)) hx hb dL_isPolishSo_25 (by decide) ?_
    obtain ⟨q26, hq26, hf⟩ := ob_some hf
    refine z_callVi (o := 0) (ci := 8) (As := [.int (2 : Int32)]) (rest := [.int x5]) (t_X10_count G l hN (2 : Int32) h hq26) cv_X10_count hx hb hml hl.1 Z hw (by decide) (by decide) (by omega) rfl rfl wd322 rfl rfl (Nat.le_of_ble_eq_true rfl) (by decide) dL_isPolishSo_26 (fun H locs hw => ?_)
    refine lv_icmp_ge (tgt := 154) hx hb dL_isPolishSo_29 (by decide) (fun c29 => ?_) (fun c29 => ?_)
    · have hf := (if_pos c29).symm.trans hf
      obtain rfl := Option.some.inj hf
      exact kk ls H locs (lv_sub hl [1, 2, 3, 4] rfl) hw
    · have hf := (if_neg c29).symm.trans hf
      refine lv_aload_n hx hb dL_isPolishSo_32 rfl (lv_at hl 0 rfl) ?_
      refine lv_iconst (v := (0 : Int32)) hx hb dL_isPolishSo_33 (by decide) ?_
      obtain ⟨q34, hq34, hf⟩ := ob_some hf
      refine z_callVi (o := 0) (ci := 8) (As := [.int (0 : Int32)]) (rest := []) (t_X10_count G l hN (0 : Int32) q26.2 hq34) cv_X10_count hx hb hml hl.1 Z hw (by decide) (by decide) (by omega) rfl rfl wd322 rfl rfl (Nat.le_of_ble_eq_true rfl) (by decide) dL_isPolishSo_34 (fun H locs hw => ?_)
      refine lv_aload_n hx hb dL_isPolishSo_37 rfl (lv_at hl 0 rfl) ?_
      refine lv_bipush (v := (10 : Int32)) hx hb dL_isPolishSo_38 (by decide) ?_
      obtain ⟨q40, hq40, hf⟩ := ob_some hf
      refine z_callVi (o := 0) (ci := 8) (As := [.int (10 : Int32)]) (rest := [.int q34.1]) (t_X10_count G l hN (10 : Int32) q34.2 hq40) cv_X10_count hx hb hml hl.1 Z hw (by decide) (by decide) (by omega) rfl rfl wd322 rfl rfl (Nat.le_of_ble_eq_true rfl) (by decide) dL_isPolishSo_40 (fun H locs hw => ?_)
      refine lv_isub hx hb dL_isPolishSo_43 ?_
      refine lv_istore (lv' := [(6, _), (0, _), (1, _), (2, _), (3, _), (4, _), (5, _)]) hx hb dL_isPolishSo_44 hl (by decide) rfl (fun ls hl => ?_)
      refine lv_aload_n hx hb dL_isPolishSo_46 rfl (lv_at hl 1 rfl) ?_
      refine lv_iload hx hb dL_isPolishSo_47 (lv_at hl 6 rfl) ?_
      refine lv_iconst (v := (4 : Int32)) hx hb dL_isPolishSo_49 (by decide) ?_
      obtain ⟨q50, hq50, hf⟩ := ob_some hf
      refine z_callVi (o := 0) (ci := 8) (As := [.int x5, .int (4 : Int32)]) (rest := []) (t_X10_scratchOf G l hN x5 (4 : Int32) q40.2 hq50) cv_X10_scratchOf hx hb hml hl.1 Z hw (by decide) (by decide) (by omega) rfl rfl wd688 rfl rfl (Nat.le_of_ble_eq_true rfl) (by decide) dL_isPolishSo_50 (fun H locs hw => ?_)
      refine lv_istore (lv' := [(7, _), (6, _), (0, _), (1, _), (2, _), (3, _), (4, _), (5, _)]) hx hb dL_isPolishSo_53 hl (by decide) rfl (fun ls hl => ?_)
      refine lv_aload_n hx hb dL_isPolishSo_55 rfl (lv_at hl 2 rfl) ?_
      refine lv_iload hx hb dL_isPolishSo_56 (lv_at hl 7 rfl) ?_
      obtain ⟨q58, hq58, hf⟩ := ob_some hf
      refine z_callVi (o := 0) (ci := 8) (As := [.int x5]) (rest := []) (t_X10_polish G l hN x5 q50.2 hq58) cv_X10_polish hx hb hml hl.1 Z hw (by decide) (by decide) (by omega) rfl rfl wd460 rfl rfl (Nat.le_of_ble_eq_true rfl) (by decide) dL_isPolishSo_58 (fun H locs hw => ?_)
      refine lv_istore (lv' := [(8, _), (7, _), (6, _), (0, _), (1, _), (2, _), (3, _), (4, _), (5, _)]) hx hb dL_isPolishSo_61 hl (by decide) rfl (fun ls hl => ?_)
      refine lv_aload_n hx hb dL_isPolishSo_63 rfl (lv_at hl 3 rfl) ?_
      refine lv_bipush (v := (13 : Int32)) hx hb dL_isPolishSo_64 (by decide) ?_
      obtain ⟨q66, hq66, hf⟩ := ob_some hf
      refine z_callVi (o := 0) (ci := 8) (As := [.int (13 : Int32)]) (rest := []) (t_X10_count G l hN (13 : Int32) q58.2 hq66) cv_X10_count hx hb hml hl.1 Z hw (by decide) (by decide) (by omega) rfl rfl wd322 rfl rfl (Nat.le_of_ble_eq_true rfl) (by decide) dL_isPolishSo_66 (fun H locs hw => ?_)
      refine lv_istore (lv' := [(9, _), (8, _), (7, _), (6, _), (0, _), (1, _), (2, _), (3, _), (4, _), (5, _)]) hx hb dL_isPolishSo_69 hl (by decide) rfl (fun ls hl => ?_)
      refine lv_iload hx hb dL_isPolishSo_71 (lv_at hl 1 rfl) ?_
      refine lv_iload hx hb dL_isPolishSo_73 (lv_at hl 3 rfl) ?_
      refine lv_icmp_gt (tgt := 105) hx hb dL_isPolishSo_75 (by decide) (fun c75 => ?_) (fun c75 => ?_)
      · have hf := (if_pos c75).symm.trans hf
        cases hf
      · have hf := (if_neg c75).symm.trans hf
        refine lv_iload hx hb dL_isPolishSo_78 (lv_at hl 1 rfl) ?_
        refine lv_iload hx hb dL_isPolishSo_80 (lv_at hl 3 rfl) ?_
        refine lv_iload hx hb dL_isPolishSo_82 (lv_at hl 2 rfl) ?_
        refine lv_isub hx hb dL_isPolishSo_84 ?_
        refine lv_icmp_lt (tgt := 105) hx hb dL_isPolishSo_85 (by decide) (fun c85 => ?_) (fun c85 => ?_)
        · have hf := (if_pos c85).symm.trans hf
          cases hf
        · have hf := (if_neg c85).symm.trans hf
          refine lv_iload hx hb dL_isPolishSo_88 (lv_at hl 1 rfl) ?_
          refine lv_aload_n hx hb dL_isPolishSo_90 rfl (lv_at hl 4 rfl) ?_
          refine lv_iconst (v := (0 : Int32)) hx hb dL_isPolishSo_91 (by decide) ?_
          obtain ⟨q92, hq92, hf⟩ := ob_some hf
          refine z_callVi (o := 0) (ci := 8) (As := [.int (0 : Int32)]) (rest := [.int q58.1]) (t_X10_count G l hN (0 : Int32) q66.2 hq92) cv_X10_count hx hb hml hl.1 Z hw (by decide) (by decide) (by omega) rfl rfl wd322 rfl rfl (Nat.le_of_ble_eq_true rfl) (by decide) dL_isPolishSo_92 (fun H locs hw => ?_)
          refine lv_aload_n hx hb dL_isPolishSo_95 rfl (lv_at hl 4 rfl) ?_
          refine lv_bipush (v := (10 : Int32)) hx hb dL_isPolishSo_96 (by decide) ?_
          obtain ⟨q98, hq98, hf⟩ := ob_some hf
          refine z_callVi (o := 0) (ci := 8) (As := [.int (10 : Int32)]) (rest := [.int q92.1, .int q58.1]) (t_X10_count G l hN (10 : Int32) q92.2 hq98) cv_X10_count hx hb hml hl.1 Z hw (by decide) (by decide) (by omega) rfl rfl wd322 rfl rfl (Nat.le_of_ble_eq_true rfl) (by decide) dL_isPolishSo_98 (fun H locs hw => ?_)
          refine lv_isub hx hb dL_isPolishSo_101 ?_
          refine lv_icmp_eq (tgt := 107) hx hb dL_isPolishSo_102 (by decide) (fun c102 => ?_) (fun c102 => ?_)
          · have hf := (if_pos c102).symm.trans hf
            refine lv_iload_n hx hb dL_isPolishSo_107 rfl (lv_at hl 7 rfl) ?_
            refine lv_bipush (v := (-5 : Int32)) hx hb dL_isPolishSo_108 (by decide) ?_
            have HJ126 : ∀ (ls : Array Slot) (H : Heap) (locs : List Loc), lv_has ls 10 [(0, .ref (ra G 0)), (1, .int v1), (2, .int v2), (4, .int x4), (5, .int x5), (9, .int q66.1)] → HW G q98.2 s H locs → WZ p l e 6 s m args below meth c G rv hq H locs (F0 m 126 ls [.int (if x3 = (-5 : Int32) then x5 else (if x4 ≤ q66.1 then x3 else x5))]) := by
              intro ls H locs hl hw
              obtain ⟨v126, hqv126, hf⟩ := tb_ex hf
              refine z_top hqv126 ?_
              refine lv_istore_n (lv' := [(3, _), (0, _), (1, _), (2, _), (4, _), (5, _), (9, _)]) hx hb dL_isPolishSo_126 rfl hl (by decide) rfl (fun ls hl => ?_)
              refine lv_iload_n hx hb dL_isPolishSo_127 rfl (lv_at hl 0 rfl) ?_
              refine lv_iload hx hb dL_isPolishSo_128 (lv_at hl 5 rfl) ?_
              have HJ140 : ∀ (ls : Array Slot) (H : Heap) (locs : List Loc), lv_has ls 10 [(0, .ref (ra G 0)), (1, .int v1), (2, .int v2), (3, .int v126), (5, .int x5)] → HW G q98.2 s H locs → WZ p l e 6 s m args below meth c G rv hq H locs (F0 m 140 ls [.int (if v126 = x5 then q66.1 else x4)]) := by
                intro ls H locs hl hw
                refine lv_istore (lv' := [(4, _), (0, _), (1, _), (2, _), (3, _), (5, _)]) hx hb dL_isPolishSo_140 hl (by decide) rfl (fun ls hl => ?_)
                refine lv_aload_n hx hb dL_isPolishSo_142 rfl (lv_at hl 1 rfl) ?_
                obtain ⟨q143, hq143, hf⟩ := ob_some hf
                refine z_callVi (o := 0) (ci := 8) (As := []) (rest := []) (t_X10_undo G l hN  q98.2 hq143) cv_X10_undo hx hb hml hl.1 Z hw (by decide) (by decide) (by omega) rfl rfl wd664 rfl rfl (Nat.le_of_ble_eq_true rfl) (by decide) dL_isPolishSo_143 (fun H locs hw => ?_)
                refine lv_istore (lv' := [(8, _), (4, _), (0, _), (1, _), (2, _), (3, _), (5, _)]) hx hb dL_isPolishSo_146 hl (by decide) rfl (fun ls hl => ?_)
                refine lv_iinc (v := x5 + (1 : Int32)) (lv' := [(5, _), (8, _), (4, _), (0, _), (1, _), (2, _), (3, _)]) hx hb dL_isPolishSo_148 hl (k := 6) rfl rfl (by decide) rfl (fun ls hl => ?_)
                refine lv_goto (tgt := 22) hx hb dL_isPolishSo_151 (by decide) ?_
                exact ih v126 (if v126 = x5 then q66.1 else x4) (x5 + (1 : Int32)) q143.2 v1 v2 rv hq ls H locs (lv_sub hl [3, 4, 5, 6, 2, 0] rfl) hw hf kk
              refine lv_icmp_ne (tgt := 138) hx hb dL_isPolishSo_130 (by decide) (fun c130 => ?_) (fun c130 => ?_)
              · skip
                refine lv_iload hx hb dL_isPolishSo_138 (lv_at hl 4 rfl) ?_
                refine W.eq (g2 := F0 m 140 ls [.int (if v126 = x5 then q66.1 else x4)]) ?_ (HJ140 ls H locs (lv_sub hl [1, 2, 3, 0, 5] rfl) hw)
                first | (simp only [if_neg c130]; done) | contradiction
              · skip
                refine lv_iload hx hb dL_isPolishSo_133 (lv_at hl 6 rfl) ?_
                refine lv_goto (tgt := 140) hx hb dL_isPolishSo_135 (by decide) ?_
                refine W.eq (g2 := F0 m 140 ls [.int (if v126 = x5 then q66.1 else x4)]) ?_ (HJ140 ls H locs (lv_sub hl [1, 2, 3, 0, 5] rfl) hw)
                first | (simp only [if_pos c130]; done) | contradiction
            refine lv_icmp_eq (tgt := 120) hx hb dL_isPolishSo_110 (by decide) (fun c110 => ?_) (fun c110 => ?_)
            · skip
              refine lv_iload hx hb dL_isPolishSo_120 (lv_at hl 9 rfl) ?_
              refine lv_goto (tgt := 126) hx hb dL_isPolishSo_122 (by decide) ?_
              refine W.eq (g2 := F0 m 126 ls [.int (if x3 = (-5 : Int32) then x5 else (if x4 ≤ q66.1 then x3 else x5))]) ?_ (HJ126 ls H locs (lv_sub hl [4, 5, 6, 8, 9, 0] rfl) hw)
              first | (simp only [if_pos c110]; done) | contradiction
            · skip
              refine lv_iload hx hb dL_isPolishSo_113 (lv_at hl 0 rfl) ?_
              refine lv_iload hx hb dL_isPolishSo_115 (lv_at hl 8 rfl) ?_
              refine lv_icmp_ge (tgt := 125) hx hb dL_isPolishSo_117 (by decide) (fun c117 => ?_) (fun c117 => ?_)
              · skip
                refine lv_iload_n hx hb dL_isPolishSo_125 rfl (lv_at hl 7 rfl) ?_
                refine W.eq (g2 := F0 m 126 ls [.int (if x3 = (-5 : Int32) then x5 else (if x4 ≤ q66.1 then x3 else x5))]) ?_ (HJ126 ls H locs (lv_sub hl [4, 5, 6, 8, 9, 0] rfl) hw)
                first | (simp only [if_neg c110, if_pos c117]; done) | contradiction
              · skip
                refine lv_iload hx hb dL_isPolishSo_120 (lv_at hl 9 rfl) ?_
                refine lv_goto (tgt := 126) hx hb dL_isPolishSo_122 (by decide) ?_
                refine W.eq (g2 := F0 m 126 ls [.int (if x3 = (-5 : Int32) then x5 else (if x4 ≤ q66.1 then x3 else x5))]) ?_ (HJ126 ls H locs (lv_sub hl [4, 5, 6, 8, 9, 0] rfl) hw)
                first | (simp only [if_neg c110, if_neg c117]; done) | contradiction
          · have hf := (if_neg c102).symm.trans hf
            cases hf
set_option maxHeartbeats 4000000 in
set_option maxRecDepth 100000 in
theorem t_L_isPolishSo (G : GM) (l : Launch) (hN : 70 ≤ gN G)  (h : HP) {r : Int32} {h' : HP} (hf : f_L_isPolishSo  h = some (r, h')) : MC G l yL_isPolishSo cL_isPolishSo 10 (some .boolean) 6 [.ref (ra G 0)] h h' (some (.int r)) := by
  unfold f_L_isPolishSo at hf
  refine z_start (by decide) (Nat.le_of_ble_eq_true rfl) ?_
  intro p e s m args below meth c ls hx hb hr hlk hml Z hw hl
  have Z : ZK G s args m RL := Z
  have hl : lv_has ls 10 [(0, .ref (ra G 0))] := hl
  obtain ⟨H, hH⟩ : ∃ H, H = s.heap := ⟨_, rfl⟩
  rw [← hH] at hw ⊢
  obtain ⟨locs, hlc⟩ : ∃ locs : List Loc, locs = [] := ⟨_, rfl⟩
  rw [← hlc] at hw ⊢
  refine lv_aload_n hx hb dL_isPolishSo_0 rfl (lv_at hl 0 rfl) ?_
  refine lv_iconst (v := (0 : Int32)) hx hb dL_isPolishSo_1 (by decide) ?_
  obtain ⟨q2, hq2, hf⟩ := ob_some hf
  refine z_callVi (o := 0) (ci := 8) (As := [.int (0 : Int32)]) (rest := []) (t_X10_polishFirst G l hN (0 : Int32) h hq2) cv_X10_polishFirst hx hb hml hl.1 Z hw (by decide) (by decide) (by omega) rfl rfl wd678 rfl rfl (Nat.le_of_ble_eq_true rfl) (by decide) dL_isPolishSo_2 (fun H locs hw => ?_)
  refine lv_istore_n (lv' := [(1, _), (0, _)]) hx hb dL_isPolishSo_5 rfl hl (by decide) rfl (fun ls hl => ?_)
  refine lv_aload_n hx hb dL_isPolishSo_6 rfl (lv_at hl 1 rfl) ?_
  refine lv_iconst (v := (1 : Int32)) hx hb dL_isPolishSo_7 (by decide) ?_
  obtain ⟨q8, hq8, hf⟩ := ob_some hf
  refine z_callVi (o := 0) (ci := 8) (As := [.int (1 : Int32)]) (rest := []) (t_X10_polishFirst G l hN (1 : Int32) q2.2 hq8) cv_X10_polishFirst hx hb hml hl.1 Z hw (by decide) (by decide) (by omega) rfl rfl wd678 rfl rfl (Nat.le_of_ble_eq_true rfl) (by decide) dL_isPolishSo_8 (fun H locs hw => ?_)
  refine lv_istore_n (lv' := [(2, _), (1, _), (0, _)]) hx hb dL_isPolishSo_11 rfl hl (by decide) rfl (fun ls hl => ?_)
  refine lv_bipush (v := (-5 : Int32)) hx hb dL_isPolishSo_12 (by decide) ?_
  refine lv_istore_n (lv' := [(3, _), (2, _), (1, _), (0, _)]) hx hb dL_isPolishSo_14 rfl hl (by decide) rfl (fun ls hl => ?_)
  refine lv_bipush (v := (-5 : Int32)) hx hb dL_isPolishSo_15 (by decide) ?_
  refine lv_istore (lv' := [(4, _), (3, _), (2, _), (1, _), (0, _)]) hx hb dL_isPolishSo_17 hl (by decide) rfl (fun ls hl => ?_)
  refine lv_iconst (v := (0 : Int32)) hx hb dL_isPolishSo_19 (by decide) ?_
  refine lv_istore (lv' := [(5, _), (4, _), (3, _), (2, _), (1, _), (0, _)]) hx hb dL_isPolishSo_20 hl (by decide) rfl (fun ls hl => ?_)
  obtain ⟨q22, hq22, hf⟩ := ob_some hf
  refine w_L_isPolishSo_L22 G l hN  hx hb hr hlk hml Z FU (-5 : Int32) (-5 : Int32) (0 : Int32) q8.2 q2.1 q8.1 _ _ ls H locs (lv_sub hl [5, 4, 3, 2, 1, 0] rfl) hw hq22 (fun ls H locs hl hw => ?_)
  refine lv_iload_n hx hb dL_isPolishSo_154 rfl (lv_at hl 0 rfl) ?_
  refine lv_iload_n hx hb dL_isPolishSo_155 rfl (lv_at hl 2 rfl) ?_
  refine lv_icmp_ne (tgt := 169) hx hb dL_isPolishSo_156 (by decide) (fun c156 => ?_) (fun c156 => ?_)
  · have hf := (if_neg c156).symm.trans hf
    refine lv_iconst (v := (0 : Int32)) hx hb dL_isPolishSo_169 (by decide) ?_
    obtain ⟨rfl, rfl⟩ := Prod.mk.inj (Option.some.inj hf)
    exact z_zret hx hb hr rfl hlk hw dL_isPolishSo_170
  · have hf := (if_pos c156).symm.trans hf
    refine lv_iload_n hx hb dL_isPolishSo_159 rfl (lv_at hl 1 rfl) ?_
    refine lv_iload hx hb dL_isPolishSo_160 (lv_at hl 3 rfl) ?_
    refine lv_icmp_ne (tgt := 169) hx hb dL_isPolishSo_162 (by decide) (fun c162 => ?_) (fun c162 => ?_)
    · have hf := (if_neg c162).symm.trans hf
      refine lv_iconst (v := (0 : Int32)) hx hb dL_isPolishSo_169 (by decide) ?_
      obtain ⟨rfl, rfl⟩ := Prod.mk.inj (Option.some.inj hf)
      exact z_zret hx hb hr rfl hlk hw dL_isPolishSo_170
    · have hf := (if_pos c162).symm.trans hf
      refine lv_iconst (v := (1 : Int32)) hx hb dL_isPolishSo_165 (by decide) ?_
      refine lv_goto (tgt := 170) hx hb dL_isPolishSo_166 (by decide) ?_
      obtain ⟨rfl, rfl⟩ := Prod.mk.inj (Option.some.inj hf)
      exact z_zret hx hb hr rfl hlk hw dL_isPolishSo_170
