/-! two helpers, by hand -/
theorem inB_eq {x : Int32} {n : Nat} : inB x n = true ↔ vp_in x n := by
  simp [inB, vp_in]
theorem ln_lt (o : Nat) : ln o < 2 ^ 31 := by
  rcases Nat.lt_or_ge o 77 with q | q
  · exact (show ∀ o, o < 77 → ln o < 2 ^ 31 by decide +kernel) o q
  · unfold ln
    rw [List.getD_eq_getElem?_getD, List.getElem?_eq_none (by simpa [lnL] using q)]
    decide
theorem inB_t {x : Int32} {n : Nat} (h0 : ¬ x < 0) (h1 : ¬ Int32.ofNat n ≤ x) (hn : n < 2 ^ 31) : inB x n = true := by
  rw [inB_eq]
  exact inB_nn h0 h1 (nI_toInt hn)
theorem inB_f1 {x : Int32} {n : Nat} (h0 : x < 0) : ¬ inB x n = true := by
  rw [inB_eq, vp_in_iff]
  rw [Int32.lt_iff_toInt_lt, Int32.toInt_zero] at h0
  omega
theorem inB_f2 {x : Int32} {n : Nat} (h1 : Int32.ofNat n ≤ x) (hn : n < 2 ^ 31) : ¬ inB x n = true := by
  rw [inB_eq, vp_in_iff]
  have e : (Int32.ofNat n).toInt = (n : Int) := nI_toInt hn
  rw [Int32.le_iff_toInt_le, e] at h1
  omega
set_option maxHeartbeats 4000000 in
set_option maxRecDepth 100000 in
theorem t_X10_at (G : GM) (l : Launch) (hN : 70 ≤ gN G) (o0 : Nat) (k_o0 : kd o0 = 10) (n_o0 : o0 < gN G) (x1 : Int32) (h : HP) : MC G l yX10_at cX10_at 2 (some .int) 0 [.ref (ra G o0), .int x1] h h (some (.int (f_X10_at o0 x1 h))) := by
  refine z_start (by decide) (Nat.le_of_ble_eq_true rfl) ?_
  intro p e s m args below meth c ls hx hb hr hlk hml Z hw hl
  have Z : ZK G s args m RX10 := Z
  have hl : lv_has ls 2 [(0, .ref (ra G o0)), (1, .int x1)] := hl
  refine lv_iload_n hx hb dX10_at_0 rfl (lv_at hl 1 rfl) ?_
  refine lv_if_lt (tgt := 16) hx hb dX10_at_1 (by decide) (fun c1 => ?_) (fun c1 => ?_)
  · refine lv_iconst (v := (0 : Int32)) hx hb dX10_at_16 (by decide) ?_
    rw [show f_X10_at o0 x1 h = 0 by rw [f_X10_at, if_neg (inB_f1 c1)]]
    exact z_iret hx hb hr hlk hw dX10_at_17
  · refine lv_iload_n hx hb dX10_at_4 rfl (lv_at hl 1 rfl) ?_
    refine lv_aload_n hx hb dX10_at_5 rfl (lv_at hl 0 rfl) ?_
    refine z_alen (o := o0) hx hb Z hw (by rw [k_o0]; decide) n_o0 rfl dX10_at_6 ?_
    refine lv_icmp_ge (tgt := 16) hx hb dX10_at_7 (by decide) (fun c7 => ?_) (fun c7 => ?_)
    · refine lv_iconst (v := (0 : Int32)) hx hb dX10_at_16 (by decide) ?_
      rw [show f_X10_at o0 x1 h = 0 by rw [f_X10_at, if_neg (inB_f2 c7 (ln_lt _))]]
      exact z_iret hx hb hr hlk hw dX10_at_17
    · have hi := inB_t c1 c7 (ln_lt o0)
      refine lv_aload_n hx hb dX10_at_10 rfl (lv_at hl 0 rfl) ?_
      refine lv_iload_n hx hb dX10_at_11 rfl (lv_at hl 1 rfl) ?_
      refine y_iald (o := o0) hx hb Z hw k_o0 n_o0 rfl (inB_vp hi) dX10_at_12 ?_
      refine lv_goto (tgt := 17) hx hb dX10_at_13 (by decide) ?_
      rw [show f_X10_at o0 x1 h = h o0 x1.toNatClampNeg by rw [f_X10_at, if_pos hi]]
      exact z_iret hx hb hr hlk hw dX10_at_17
set_option maxHeartbeats 4000000 in
set_option maxRecDepth 100000 in
theorem t_X10_put (G : GM) (l : Launch) (hN : 70 ≤ gN G) (o0 : Nat) (k_o0 : kd o0 = 10) (n_o0 : o0 < gN G) (x1 x2 : Int32) (h : HP) {h' : HP} (hf : f_X10_put o0 x1 x2 h = h') : MC G l yX10_put cX10_put 3 none 0 [.ref (ra G o0), .int x1, .int x2] h h' none := by
  refine z_start (by decide) (Nat.le_of_ble_eq_true rfl) ?_
  intro p e s m args below meth c ls hx hb hr hlk hml Z hw hl
  have Z : ZK G s args m RX10 := Z
  have hl : lv_has ls 3 [(0, .ref (ra G o0)), (1, .int x1), (2, .int x2)] := hl
  refine lv_iload_n hx hb dX10_put_0 rfl (lv_at hl 1 rfl) ?_
  refine lv_if_lt (tgt := 14) hx hb dX10_put_1 (by decide) (fun c1 => ?_) (fun c1 => ?_)
  · rw [f_X10_put, if_neg (inB_f1 c1)] at hf
    subst hf
    exact z_vret hx hb hr hlk hw dX10_put_14
  · refine lv_iload_n hx hb dX10_put_4 rfl (lv_at hl 1 rfl) ?_
    refine lv_aload_n hx hb dX10_put_5 rfl (lv_at hl 0 rfl) ?_
    refine z_alen (o := o0) hx hb Z hw (by rw [k_o0]; decide) n_o0 rfl dX10_put_6 ?_
    refine lv_icmp_ge (tgt := 14) hx hb dX10_put_7 (by decide) (fun c7 => ?_) (fun c7 => ?_)
    · rw [f_X10_put, if_neg (inB_f2 c7 (ln_lt _))] at hf
      subst hf
      exact z_vret hx hb hr hlk hw dX10_put_14
    · have hi := inB_t c1 c7 (ln_lt o0)
      rw [f_X10_put, if_pos hi] at hf
      subst hf
      refine lv_aload_n hx hb dX10_put_10 rfl (lv_at hl 0 rfl) ?_
      refine lv_iload_n hx hb dX10_put_11 rfl (lv_at hl 1 rfl) ?_
      refine lv_iload_n hx hb dX10_put_12 rfl (lv_at hl 2 rfl) ?_
      refine y_iast (o := o0) hx hb Z hw k_o0 n_o0 rfl (inB_vp hi) dX10_put_13 (fun H locs hw => ?_)
      exact z_vret hx hb hr hlk hw dX10_put_14
