-- ===== PART A: goes FIRST, ahead of the names: the tables' words, and 'selects' of the private methods out of them =====
/-- a private method of a class that the tables say can be made, by its rows of tables_1 -/
def lw_okq (q : MethodName × Nat) : Prop := (q.1.cls ≠ "java/lang/invoke/MethodHandle" ∧ q.1.cls ≠ "java/lang/invoke/VarHandle") ∧ Cond.instantiable q.1.cls q.2 ∈ tables_1 ∧ Cond.privateMethod q.1 ∈ tables_1 ∧ Cond.instanceMethod q.1 ∈ tables_1
theorem lw_p0 : lw_okq (⟨"LineDisc", "recorded", "(I)I"⟩, 8) := ⟨⟨by decide +kernel, by decide +kernel⟩, List.mem_of_getElem? (i := 14) (by decide +kernel), List.mem_of_getElem? (i := 283) (by decide +kernel), List.mem_of_getElem? (i := 284) (by decide +kernel)⟩
theorem lw_p1 : lw_okq (⟨"LineDisc$History", "dropOldest", "()V"⟩, 2) := ⟨⟨by decide +kernel, by decide +kernel⟩, List.mem_of_getElem? (i := 140) (by decide +kernel), List.mem_of_getElem? (i := 291) (by decide +kernel), List.mem_of_getElem? (i := 292) (by decide +kernel)⟩
theorem lw_p2 : lw_okq (⟨"LineDisc$History", "stateAt", "(I)LLineDisc$State;"⟩, 2) := ⟨⟨by decide +kernel, by decide +kernel⟩, List.mem_of_getElem? (i := 140) (by decide +kernel), List.mem_of_getElem? (i := 295) (by decide +kernel), List.mem_of_getElem? (i := 296) (by decide +kernel)⟩
theorem lw_p3 : lw_okq (⟨"LineDisc$Survey", "markScratch", "(I)V"⟩, 4) := ⟨⟨by decide +kernel, by decide +kernel⟩, List.mem_of_getElem? (i := 186) (by decide +kernel), List.mem_of_getElem? (i := 341) (by decide +kernel), List.mem_of_getElem? (i := 342) (by decide +kernel)⟩
theorem lw_p4 : lw_okq (⟨"LineDisc$Survey", "markRow", "(III)V"⟩, 4) := ⟨⟨by decide +kernel, by decide +kernel⟩, List.mem_of_getElem? (i := 186) (by decide +kernel), List.mem_of_getElem? (i := 369) (by decide +kernel), List.mem_of_getElem? (i := 370) (by decide +kernel)⟩
theorem lw_p5 : lw_okq (⟨"LineDisc$Survey", "judgeGroup", "(III)V"⟩, 4) := ⟨⟨by decide +kernel, by decide +kernel⟩, List.mem_of_getElem? (i := 186) (by decide +kernel), List.mem_of_getElem? (i := 378) (by decide +kernel), List.mem_of_getElem? (i := 379) (by decide +kernel)⟩
theorem lw_p6 : lw_okq (⟨"LineDisc$Survey", "canBeFilled", "(II)Z"⟩, 4) := ⟨⟨by decide +kernel, by decide +kernel⟩, List.mem_of_getElem? (i := 186) (by decide +kernel), List.mem_of_getElem? (i := 390) (by decide +kernel), List.mem_of_getElem? (i := 391) (by decide +kernel)⟩
theorem lw_p7 : lw_okq (⟨"LineDisc", "countSetting", "(I)I"⟩, 8) := ⟨⟨by decide +kernel, by decide +kernel⟩, List.mem_of_getElem? (i := 14) (by decide +kernel), List.mem_of_getElem? (i := 407) (by decide +kernel), List.mem_of_getElem? (i := 408) (by decide +kernel)⟩
theorem lw_p8 : lw_okq (⟨"LineDisc", "addScratch", "(IIII)I"⟩, 8) := ⟨⟨by decide +kernel, by decide +kernel⟩, List.mem_of_getElem? (i := 14) (by decide +kernel), List.mem_of_getElem? (i := 428) (by decide +kernel), List.mem_of_getElem? (i := 429) (by decide +kernel)⟩
theorem lw_p9 : lw_okq (⟨"LineDisc", "polishAway", "(I)I"⟩, 8) := ⟨⟨by decide +kernel, by decide +kernel⟩, List.mem_of_getElem? (i := 14) (by decide +kernel), List.mem_of_getElem? (i := 442) (by decide +kernel), List.mem_of_getElem? (i := 443) (by decide +kernel)⟩
theorem lw_p10 : lw_okq (⟨"LineDisc", "pressSymbol", "(III)I"⟩, 8) := ⟨⟨by decide +kernel, by decide +kernel⟩, List.mem_of_getElem? (i := 14) (by decide +kernel), List.mem_of_getElem? (i := 459) (by decide +kernel), List.mem_of_getElem? (i := 460) (by decide +kernel)⟩
theorem lw_p11 : lw_okq (⟨"LineDisc$Symbols", "dataAt", "(II)I"⟩, 3) := ⟨⟨by decide +kernel, by decide +kernel⟩, List.mem_of_getElem? (i := 73) (by decide +kernel), List.mem_of_getElem? (i := 476) (by decide +kernel), List.mem_of_getElem? (i := 477) (by decide +kernel)⟩
theorem lw_p12 : lw_okq (⟨"LineDisc$Symbols", "indexOf", "(I)I"⟩, 3) := ⟨⟨by decide +kernel, by decide +kernel⟩, List.mem_of_getElem? (i := 73) (by decide +kernel), List.mem_of_getElem? (i := 480) (by decide +kernel), List.mem_of_getElem? (i := 481) (by decide +kernel)⟩
theorem lw_p13 : lw_okq (⟨"LineDisc$Symbols", "drop", "(I)V"⟩, 3) := ⟨⟨by decide +kernel, by decide +kernel⟩, List.mem_of_getElem? (i := 73) (by decide +kernel), List.mem_of_getElem? (i := 492) (by decide +kernel), List.mem_of_getElem? (i := 493) (by decide +kernel)⟩
theorem lw_p14 : lw_okq (⟨"LineDisc", "playFrames", "(I)I"⟩, 8) := ⟨⟨by decide +kernel, by decide +kernel⟩, List.mem_of_getElem? (i := 14) (by decide +kernel), List.mem_of_getElem? (i := 501) (by decide +kernel), List.mem_of_getElem? (i := 502) (by decide +kernel)⟩
theorem lw_p15 : lw_okq (⟨"LineDisc$Head", "spin", "(IILLineDisc$Settings;)V"⟩, 6) := ⟨⟨by decide +kernel, by decide +kernel⟩, List.mem_of_getElem? (i := 90) (by decide +kernel), List.mem_of_getElem? (i := 512) (by decide +kernel), List.mem_of_getElem? (i := 513) (by decide +kernel)⟩
def lw_privs_1 : List (MethodName × Nat) := [(⟨"LineDisc", "recorded", "(I)I"⟩, 8), (⟨"LineDisc$History", "dropOldest", "()V"⟩, 2), (⟨"LineDisc$History", "stateAt", "(I)LLineDisc$State;"⟩, 2), (⟨"LineDisc$Survey", "markScratch", "(I)V"⟩, 4), (⟨"LineDisc$Survey", "markRow", "(III)V"⟩, 4), (⟨"LineDisc$Survey", "judgeGroup", "(III)V"⟩, 4), (⟨"LineDisc$Survey", "canBeFilled", "(II)Z"⟩, 4), (⟨"LineDisc", "countSetting", "(I)I"⟩, 8), (⟨"LineDisc", "addScratch", "(IIII)I"⟩, 8), (⟨"LineDisc", "polishAway", "(I)I"⟩, 8), (⟨"LineDisc", "pressSymbol", "(III)I"⟩, 8), (⟨"LineDisc$Symbols", "dataAt", "(II)I"⟩, 3), (⟨"LineDisc$Symbols", "indexOf", "(I)I"⟩, 3), (⟨"LineDisc$Symbols", "drop", "(I)V"⟩, 3), (⟨"LineDisc", "playFrames", "(I)I"⟩, 8), (⟨"LineDisc$Head", "spin", "(IILLineDisc$Settings;)V"⟩, 6)]
theorem lw_r1 : ∀ q ∈ lw_privs_1, lw_okq q := List.forall_mem_cons.mpr ⟨lw_p0, List.forall_mem_cons.mpr ⟨lw_p1, List.forall_mem_cons.mpr ⟨lw_p2, List.forall_mem_cons.mpr ⟨lw_p3, List.forall_mem_cons.mpr ⟨lw_p4, List.forall_mem_cons.mpr ⟨lw_p5, List.forall_mem_cons.mpr ⟨lw_p6, List.forall_mem_cons.mpr ⟨lw_p7, List.forall_mem_cons.mpr ⟨lw_p8, List.forall_mem_cons.mpr ⟨lw_p9, List.forall_mem_cons.mpr ⟨lw_p10, List.forall_mem_cons.mpr ⟨lw_p11, List.forall_mem_cons.mpr ⟨lw_p12, List.forall_mem_cons.mpr ⟨lw_p13, List.forall_mem_cons.mpr ⟨lw_p14, List.forall_mem_cons.mpr ⟨lw_p15, fun _ h => absurd h List.not_mem_nil⟩⟩⟩⟩⟩⟩⟩⟩⟩⟩⟩⟩⟩⟩⟩⟩
theorem lw_p16 : lw_okq (⟨"LineDisc$Head", "isNear", "(ILLineDisc$Settings;)Z"⟩, 6) := ⟨⟨by decide +kernel, by decide +kernel⟩, List.mem_of_getElem? (i := 90) (by decide +kernel), List.mem_of_getElem? (i := 518) (by decide +kernel), List.mem_of_getElem? (i := 519) (by decide +kernel)⟩
theorem lw_p17 : lw_okq (⟨"LineDisc", "seekFrame", "(I)I"⟩, 8) := ⟨⟨by decide +kernel, by decide +kernel⟩, List.mem_of_getElem? (i := 14) (by decide +kernel), List.mem_of_getElem? (i := 533) (by decide +kernel), List.mem_of_getElem? (i := 534) (by decide +kernel)⟩
theorem lw_p18 : lw_okq (⟨"LineDisc$Head", "jump", "(IILLineDisc$Settings;I)I"⟩, 6) := ⟨⟨by decide +kernel, by decide +kernel⟩, List.mem_of_getElem? (i := 90) (by decide +kernel), List.mem_of_getElem? (i := 541) (by decide +kernel), List.mem_of_getElem? (i := 542) (by decide +kernel)⟩
theorem lw_p19 : lw_okq (⟨"LineDisc", "toldSymbol", "(II)I"⟩, 8) := ⟨⟨by decide +kernel, by decide +kernel⟩, List.mem_of_getElem? (i := 14) (by decide +kernel), List.mem_of_getElem? (i := 598) (by decide +kernel), List.mem_of_getElem? (i := 599) (by decide +kernel)⟩
theorem lw_p20 : lw_okq (⟨"LineDisc", "filledSymbol", "(II)I"⟩, 8) := ⟨⟨by decide +kernel, by decide +kernel⟩, List.mem_of_getElem? (i := 14) (by decide +kernel), List.mem_of_getElem? (i := 602) (by decide +kernel), List.mem_of_getElem? (i := 603) (by decide +kernel)⟩
theorem lw_p21 : lw_okq (⟨"LineDisc", "isToldRight", "(I)Z"⟩, 8) := ⟨⟨by decide +kernel, by decide +kernel⟩, List.mem_of_getElem? (i := 14) (by decide +kernel), List.mem_of_getElem? (i := 615) (by decide +kernel), List.mem_of_getElem? (i := 616) (by decide +kernel)⟩
theorem lw_p22 : lw_okq (⟨"LineDisc", "trySeek", "(II)I"⟩, 8) := ⟨⟨by decide +kernel, by decide +kernel⟩, List.mem_of_getElem? (i := 14) (by decide +kernel), List.mem_of_getElem? (i := 633) (by decide +kernel), List.mem_of_getElem? (i := 634) (by decide +kernel)⟩
def lw_privs_2 : List (MethodName × Nat) := [(⟨"LineDisc$Head", "isNear", "(ILLineDisc$Settings;)Z"⟩, 6), (⟨"LineDisc", "seekFrame", "(I)I"⟩, 8), (⟨"LineDisc$Head", "jump", "(IILLineDisc$Settings;I)I"⟩, 6), (⟨"LineDisc", "toldSymbol", "(II)I"⟩, 8), (⟨"LineDisc", "filledSymbol", "(II)I"⟩, 8), (⟨"LineDisc", "isToldRight", "(I)Z"⟩, 8), (⟨"LineDisc", "trySeek", "(II)I"⟩, 8)]
theorem lw_r2 : ∀ q ∈ lw_privs_2, lw_okq q := List.forall_mem_cons.mpr ⟨lw_p16, List.forall_mem_cons.mpr ⟨lw_p17, List.forall_mem_cons.mpr ⟨lw_p18, List.forall_mem_cons.mpr ⟨lw_p19, List.forall_mem_cons.mpr ⟨lw_p20, List.forall_mem_cons.mpr ⟨lw_p21, List.forall_mem_cons.mpr ⟨lw_p22, fun _ h => absurd h List.not_mem_nil⟩⟩⟩⟩⟩⟩⟩
def lw_privs : List (MethodName × Nat) := lw_privs_1 ++ (lw_privs_2)
def lw_tbl : List Cond := k2_sels lw_privs ++ tables_1
theorem lw_privs_ok : ∀ q ∈ lw_privs, lw_okq q := by
  show ∀ q ∈ lw_privs_1 ++ (lw_privs_2), lw_okq q
  exact List.forall_mem_append.mpr ⟨lw_r1, lw_r2⟩
/-- the streams that the claim lets the run draw from -/
abbrev lw_cs : List Choice := [Jvm.Choice.named "NaN.bits"]
theorem lw_bits : nanBits ∈ lw_cs := by first | decide | exact List.mem_cons_self | simp [lw_cs, nanBits]
/-! ===== BEGIN words of one list among another's, by their places ===== -/
theorem goodIn_r {big : List Cond} (ws : List Cond) (ps : List Nat) (hp : ws = ps.filterMap (fun i => big[i]?)) (h : ws.all goodWord = true) : GoodIn big ws := by
  intro w hw
  have h1 := List.all_eq_true.mp h w hw
  rw [hp] at hw
  obtain ⟨i, -, hi⟩ := List.mem_filterMap.mp hw
  have hm : w ∈ big := by first | exact List.mem_of_getElem? hi | exact List.getElem?_mem hi
  exact ⟨hm, good_of_word h1⟩
theorem goodIn_app {big a b : List Cond} (ha : GoodIn big a) (hb : GoodIn big b) : GoodIn big (a ++ b) := fun w h => (List.mem_append.mp h).elim (ha w) (hb w)
theorem goodIn_ca {big a b : List Cond} {c : Cond} (ha : GoodIn big (c :: a)) (hb : GoodIn big b) : GoodIn big (c :: (a ++ b)) := fun w h => (List.mem_cons.mp h).elim (fun e => ha w (List.mem_cons.mpr (Or.inl e))) (fun h => (List.mem_append.mp h).elim (fun h => ha w (List.mem_cons.mpr (Or.inr h))) (hb w))
theorem goodIn_sub {big ws : List Cond} (hm : ∀ w ∈ ws, w ∈ big) (h : ws.all goodWord = true) : GoodIn big ws := fun w hw => ⟨hm w hw, good_of_word (List.all_eq_true.mp h w hw)⟩
/-! ===== END ===== -/

/-! ===== BEGIN printed: names, fields, word lists, decode rows ===== -/
def RX0 : String := "LineDisc$1"
def TX0 : u_T := fun k => match k with
  | _ => ("", "", "", false)
def tyX0 : Nat → FieldType := fun k => match k with
  | _ => .int
abbrev wsX00 : List Cond := u_ws RX0 TX0 0
theorem nmX0 : ∀ a, a < 0 → ∀ b, b < 0 → a ≠ b → (TX0 a).2.1 ≠ (TX0 b).2.1 := by decide +kernel
theorem tyX0_ok : ∀ k, k < 0 → parseFieldDescriptor (TX0 k).2.2.1 = some (tyX0 k) := by decide +kernel
def RX1 : String := "LineDisc$Head"
def TX1 : u_T := fun k => match k with
  | 0 => ("LineDisc$Head", "position", "I", false)
  | 1 => ("LineDisc$Head", "speed", "I", false)
  | 2 => ("LineDisc$Head", "ticks", "I", false)
  | 3 => ("LineDisc$Head", "read", "I", false)
  | 4 => ("LineDisc$Head", "readWhole", "I", false)
  | _ => ("LineDisc$Head", "jumps", "I", false)
def tyX1 : Nat → FieldType := fun k => match k with
  | 0 => .int
  | 1 => .int
  | 2 => .int
  | 3 => .int
  | 4 => .int
  | _ => .int
abbrev wsX10 : List Cond := u_ws RX1 TX1 6
theorem nmX1 : ∀ a, a < 6 → ∀ b, b < 6 → a ≠ b → (TX1 a).2.1 ≠ (TX1 b).2.1 := by decide +kernel
theorem tyX1_ok : ∀ k, k < 6 → parseFieldDescriptor (TX1 k).2.2.1 = some (tyX1 k) := by decide +kernel
abbrev cX1_init : ByteArray := prog_3_method_1_code
def yX1_init : MethodName := ⟨RX1, "<init>", "()V"⟩
abbrev cX1_copyFrom : ByteArray := prog_3_method_2_code
def yX1_copyFrom : MethodName := ⟨RX1, "copyFrom", "(LLineDisc$Head;)V"⟩
abbrev cX1_goToStart : ByteArray := prog_3_method_3_code
def yX1_goToStart : MethodName := ⟨RX1, "goToStart", "(LLineDisc$Settings;)V"⟩
abbrev cX1_spin : ByteArray := prog_3_method_4_code
def yX1_spin : MethodName := ⟨RX1, "spin", "(IILLineDisc$Settings;)V"⟩
abbrev cX1_isNear : ByteArray := prog_3_method_5_code
def yX1_isNear : MethodName := ⟨RX1, "isNear", "(ILLineDisc$Settings;)Z"⟩
abbrev cX1_readFrames : ByteArray := prog_3_method_6_code
def yX1_readFrames : MethodName := ⟨RX1, "readFrames", "(ILLineDisc$Settings;LLineDisc$Survey;)I"⟩
abbrev cX1_goTo : ByteArray := prog_3_method_7_code
def yX1_goTo : MethodName := ⟨RX1, "goTo", "(ILLineDisc$Settings;I)V"⟩
abbrev cX1_jump : ByteArray := prog_3_method_8_code
def yX1_jump : MethodName := ⟨RX1, "jump", "(IILLineDisc$Settings;I)I"⟩
def RX2 : String := "LineDisc$History"
def TX2 : u_T := fun k => match k with
  | 0 => ("LineDisc$History", "states", "[LLineDisc$State;", true)
  | _ => ("LineDisc$History", "size", "I", false)
def tyX2 : Nat → FieldType := fun k => match k with
  | 0 => .array (.object "LineDisc$State")
  | _ => .int
abbrev wsX20 : List Cond := u_ws RX2 TX2 2
theorem nmX2 : ∀ a, a < 2 → ∀ b, b < 2 → a ≠ b → (TX2 a).2.1 ≠ (TX2 b).2.1 := by decide +kernel
theorem tyX2_ok : ∀ k, k < 2 → parseFieldDescriptor (TX2 k).2.2.1 = some (tyX2 k) := by decide +kernel
abbrev cX2_init : ByteArray := prog_4_method_1_code
def yX2_init : MethodName := ⟨RX2, "<init>", "()V"⟩
abbrev cX2_add : ByteArray := prog_4_method_2_code
def yX2_add : MethodName := ⟨RX2, "add", "(LLineDisc$State;)V"⟩
abbrev cX2_takeLatest : ByteArray := prog_4_method_3_code
def yX2_takeLatest : MethodName := ⟨RX2, "takeLatest", "(LLineDisc$State;)Z"⟩
abbrev cX2_dropOldest : ByteArray := prog_4_method_4_code
def yX2_dropOldest : MethodName := ⟨RX2, "dropOldest", "()V"⟩
abbrev cX2_stateAt : ByteArray := prog_4_method_5_code
def yX2_stateAt : MethodName := ⟨RX2, "stateAt", "(I)LLineDisc$State;"⟩
def RX3 : String := "LineDisc$Orders"
def TX3 : u_T := fun k => match k with
  | 0 => ("LineDisc$Orders", "signs", "[C", true)
  | 1 => ("LineDisc$Orders", "length", "I", false)
  | 2 => ("LineDisc$Orders", "words", "[LLineDisc$Word;", true)
  | 3 => ("LineDisc$Orders", "numbers", "[I", true)
  | 4 => ("LineDisc$Orders", "size", "I", false)
  | _ => ("LineDisc$Orders", "place", "I", false)
def tyX3 : Nat → FieldType := fun k => match k with
  | 0 => .array .char
  | 1 => .int
  | 2 => .array (.object "LineDisc$Word")
  | 3 => .array .int
  | 4 => .int
  | _ => .int
abbrev wsX30 : List Cond := u_ws RX3 TX3 6
theorem nmX3 : ∀ a, a < 6 → ∀ b, b < 6 → a ≠ b → (TX3 a).2.1 ≠ (TX3 b).2.1 := by decide +kernel
theorem tyX3_ok : ∀ k, k < 6 → parseFieldDescriptor (TX3 k).2.2.1 = some (tyX3 k) := by decide +kernel
abbrev cX3_init : ByteArray := prog_5_method_1_code
def yX3_init : MethodName := ⟨RX3, "<init>", "()V"⟩
def RX4 : String := "LineDisc$Scratches"
def TX4 : u_T := fun k => match k with
  | 0 => ("LineDisc$Scratches", "parts", "[I", true)
  | _ => ("LineDisc$Scratches", "size", "I", false)
def tyX4 : Nat → FieldType := fun k => match k with
  | 0 => .array .int
  | _ => .int
abbrev wsX40 : List Cond := u_ws RX4 TX4 2
theorem nmX4 : ∀ a, a < 2 → ∀ b, b < 2 → a ≠ b → (TX4 a).2.1 ≠ (TX4 b).2.1 := by decide +kernel
theorem tyX4_ok : ∀ k, k < 2 → parseFieldDescriptor (TX4 k).2.2.1 = some (tyX4 k) := by decide +kernel
abbrev cX4_init : ByteArray := prog_6_method_1_code
def yX4_init : MethodName := ⟨RX4, "<init>", "()V"⟩
abbrev cX4_add : ByteArray := prog_6_method_2_code
def yX4_add : MethodName := ⟨RX4, "add", "(IIII)Z"⟩
abbrev cX4_drop : ByteArray := prog_6_method_3_code
def yX4_drop : MethodName := ⟨RX4, "drop", "(I)V"⟩
abbrev cX4_has : ByteArray := prog_6_method_4_code
def yX4_has : MethodName := ⟨RX4, "has", "(I)Z"⟩
abbrev cX4_fromOf : ByteArray := prog_6_method_5_code
def yX4_fromOf : MethodName := ⟨RX4, "fromOf", "(I)I"⟩
abbrev cX4_toOf : ByteArray := prog_6_method_6_code
def yX4_toOf : MethodName := ⟨RX4, "toOf", "(I)I"⟩
abbrev cX4_innerOf : ByteArray := prog_6_method_7_code
def yX4_innerOf : MethodName := ⟨RX4, "innerOf", "(I)I"⟩
abbrev cX4_outerOf : ByteArray := prog_6_method_8_code
def yX4_outerOf : MethodName := ⟨RX4, "outerOf", "(I)I"⟩
abbrev cX4_copyFrom : ByteArray := prog_6_method_9_code
def yX4_copyFrom : MethodName := ⟨RX4, "copyFrom", "(LLineDisc$Scratches;)V"⟩
abbrev cX4_isLike : ByteArray := prog_6_method_10_code
def yX4_isLike : MethodName := ⟨RX4, "isLike", "(LLineDisc$Scratches;)Z"⟩
def RX5 : String := "LineDisc$Settings"
def TX5 : u_T := fun k => match k with
  | 0 => ("LineDisc$Settings", "framesAtFirst", "I", false)
  | 1 => ("LineDisc$Settings", "moreInEach", "I", false)
  | 2 => ("LineDisc$Settings", "motor", "I", false)
  | 3 => ("LineDisc$Settings", "off", "I", false)
  | 4 => ("LineDisc$Settings", "guess", "I", false)
  | _ => ("LineDisc$Settings", "jumpTicks", "I", false)
def tyX5 : Nat → FieldType := fun k => match k with
  | 0 => .int
  | 1 => .int
  | 2 => .int
  | 3 => .int
  | 4 => .int
  | _ => .int
abbrev wsX50 : List Cond := u_ws RX5 TX5 6
theorem nmX5 : ∀ a, a < 6 → ∀ b, b < 6 → a ≠ b → (TX5 a).2.1 ≠ (TX5 b).2.1 := by decide +kernel
theorem tyX5_ok : ∀ k, k < 6 → parseFieldDescriptor (TX5 k).2.2.1 = some (tyX5 k) := by decide +kernel
abbrev cX5_init : ByteArray := prog_7_method_1_code
def yX5_init : MethodName := ⟨RX5, "<init>", "()V"⟩
abbrev cX5_isSetting : ByteArray := prog_7_method_2_code
def yX5_isSetting : MethodName := ⟨RX5, "isSetting", "(I)Z"⟩
abbrev cX5_isInRange : ByteArray := prog_7_method_3_code
def yX5_isInRange : MethodName := ⟨RX5, "isInRange", "(II)Z"⟩
abbrev cX5_settingAt : ByteArray := prog_7_method_4_code
def yX5_settingAt : MethodName := ⟨RX5, "settingAt", "(I)I"⟩
abbrev cX5_change : ByteArray := prog_7_method_5_code
def yX5_change : MethodName := ⟨RX5, "change", "(II)V"⟩
abbrev cX5_copyFrom : ByteArray := prog_7_method_6_code
def yX5_copyFrom : MethodName := ⟨RX5, "copyFrom", "(LLineDisc$Settings;)V"⟩
abbrev cX5_hasSpiralOf : ByteArray := prog_7_method_7_code
def yX5_hasSpiralOf : MethodName := ⟨RX5, "hasSpiralOf", "(LLineDisc$Settings;)Z"⟩
abbrev cX5_framesOf : ByteArray := prog_7_method_8_code
def yX5_framesOf : MethodName := ⟨RX5, "framesOf", "(I)I"⟩
abbrev cX5_firstOf : ByteArray := prog_7_method_9_code
def yX5_firstOf : MethodName := ⟨RX5, "firstOf", "(I)I"⟩
abbrev cX5_allFrames : ByteArray := prog_7_method_10_code
def yX5_allFrames : MethodName := ⟨RX5, "allFrames", "()I"⟩
abbrev cX5_hasFrame : ByteArray := prog_7_method_11_code
def yX5_hasFrame : MethodName := ⟨RX5, "hasFrame", "(I)Z"⟩
abbrev cX5_turnOf : ByteArray := prog_7_method_12_code
def yX5_turnOf : MethodName := ⟨RX5, "turnOf", "(I)I"⟩
abbrev cX5_groups : ByteArray := prog_7_method_13_code
def yX5_groups : MethodName := ⟨RX5, "groups", "()I"⟩
abbrev cX5_groupOf : ByteArray := prog_7_method_14_code
def yX5_groupOf : MethodName := ⟨RX5, "groupOf", "(I)I"⟩
abbrev cX5_isCheck : ByteArray := prog_7_method_15_code
def yX5_isCheck : MethodName := ⟨RX5, "isCheck", "(I)Z"⟩
abbrev cX5_dataAhead : ByteArray := prog_7_method_16_code
def yX5_dataAhead : MethodName := ⟨RX5, "dataAhead", "(I)I"⟩
abbrev cX5_dataBehind : ByteArray := prog_7_method_17_code
def yX5_dataBehind : MethodName := ⟨RX5, "dataBehind", "(I)I"⟩
def RX6 : String := "LineDisc$State"
def TX6 : u_T := fun k => match k with
  | 0 => ("LineDisc$State", "settings", "LLineDisc$Settings;", true)
  | 1 => ("LineDisc$State", "scratches", "LLineDisc$Scratches;", true)
  | 2 => ("LineDisc$State", "symbols", "LLineDisc$Symbols;", true)
  | _ => ("LineDisc$State", "head", "LLineDisc$Head;", true)
def tyX6 : Nat → FieldType := fun k => match k with
  | 0 => .object "LineDisc$Settings"
  | 1 => .object "LineDisc$Scratches"
  | 2 => .object "LineDisc$Symbols"
  | _ => .object "LineDisc$Head"
abbrev wsX60 : List Cond := u_ws RX6 TX6 4
theorem nmX6 : ∀ a, a < 4 → ∀ b, b < 4 → a ≠ b → (TX6 a).2.1 ≠ (TX6 b).2.1 := by decide +kernel
theorem tyX6_ok : ∀ k, k < 4 → parseFieldDescriptor (TX6 k).2.2.1 = some (tyX6 k) := by decide +kernel
abbrev cX6_init : ByteArray := prog_8_method_1_code
def yX6_init : MethodName := ⟨RX6, "<init>", "()V"⟩
abbrev cX6_copyFrom : ByteArray := prog_8_method_2_code
def yX6_copyFrom : MethodName := ⟨RX6, "copyFrom", "(LLineDisc$State;)V"⟩
def RX7 : String := "LineDisc$Survey"
def TX7 : u_T := fun k => match k with
  | 0 => ("LineDisc$Survey", "spiral", "LLineDisc$Settings;", true)
  | 1 => ("LineDisc$Survey", "scratches", "LLineDisc$Scratches;", true)
  | 2 => ("LineDisc$Survey", "hits", "[I", true)
  | _ => ("LineDisc$Survey", "hows", "[I", true)
def tyX7 : Nat → FieldType := fun k => match k with
  | 0 => .object "LineDisc$Settings"
  | 1 => .object "LineDisc$Scratches"
  | 2 => .array .int
  | _ => .array .int
abbrev wsX70 : List Cond := u_ws RX7 TX7 4
theorem nmX7 : ∀ a, a < 4 → ∀ b, b < 4 → a ≠ b → (TX7 a).2.1 ≠ (TX7 b).2.1 := by decide +kernel
theorem tyX7_ok : ∀ k, k < 4 → parseFieldDescriptor (TX7 k).2.2.1 = some (tyX7 k) := by decide +kernel
abbrev cX7_init : ByteArray := prog_9_method_1_code
def yX7_init : MethodName := ⟨RX7, "<init>", "()V"⟩
abbrev cX7_of : ByteArray := prog_9_method_2_code
def yX7_of : MethodName := ⟨RX7, "of", "(LLineDisc$State;)LLineDisc$Survey;"⟩
abbrev cX7_markScratch : ByteArray := prog_9_method_3_code
def yX7_markScratch : MethodName := ⟨RX7, "markScratch", "(I)V"⟩
abbrev cX7_markRow : ByteArray := prog_9_method_4_code
def yX7_markRow : MethodName := ⟨RX7, "markRow", "(III)V"⟩
abbrev cX7_judge : ByteArray := prog_9_method_5_code
def yX7_judge : MethodName := ⟨RX7, "judge", "(I)V"⟩
abbrev cX7_judgeGroup : ByteArray := prog_9_method_6_code
def yX7_judgeGroup : MethodName := ⟨RX7, "judgeGroup", "(III)V"⟩
abbrev cX7_canBeFilled : ByteArray := prog_9_method_7_code
def yX7_canBeFilled : MethodName := ⟨RX7, "canBeFilled", "(II)Z"⟩
abbrev cX7_missingWithout : ByteArray := prog_9_method_8_code
def yX7_missingWithout : MethodName := ⟨RX7, "missingWithout", "(I)I"⟩
abbrev cX7_isDamaged : ByteArray := prog_9_method_9_code
def yX7_isDamaged : MethodName := ⟨RX7, "isDamaged", "(I)Z"⟩
abbrev cX7_howIs : ByteArray := prog_9_method_10_code
def yX7_howIs : MethodName := ⟨RX7, "howIs", "(I)I"⟩
abbrev cX7_damagedIn : ByteArray := prog_9_method_11_code
def yX7_damagedIn : MethodName := ⟨RX7, "damagedIn", "(III)I"⟩
abbrev cX7_framesThatAre : ByteArray := prog_9_method_12_code
def yX7_framesThatAre : MethodName := ⟨RX7, "framesThatAre", "(I)I"⟩
def RX8 : String := "LineDisc$Symbols"
def TX8 : u_T := fun k => match k with
  | 0 => ("LineDisc$Symbols", "cells", "[I", true)
  | 1 => ("LineDisc$Symbols", "pressed", "[I", true)
  | _ => ("LineDisc$Symbols", "size", "I", false)
def tyX8 : Nat → FieldType := fun k => match k with
  | 0 => .array .int
  | 1 => .array .int
  | _ => .int
abbrev wsX80 : List Cond := u_ws RX8 TX8 3
theorem nmX8 : ∀ a, a < 3 → ∀ b, b < 3 → a ≠ b → (TX8 a).2.1 ≠ (TX8 b).2.1 := by decide +kernel
theorem tyX8_ok : ∀ k, k < 3 → parseFieldDescriptor (TX8 k).2.2.1 = some (tyX8 k) := by decide +kernel
abbrev cX8_init : ByteArray := prog_10_method_1_code
def yX8_init : MethodName := ⟨RX8, "<init>", "()V"⟩
abbrev cX8_atFirst : ByteArray := prog_10_method_2_code
def yX8_atFirst : MethodName := ⟨RX8, "atFirst", "(II)I"⟩
abbrev cX8_standsAt : ByteArray := prog_10_method_3_code
def yX8_standsAt : MethodName := ⟨RX8, "standsAt", "(II)I"⟩
abbrev cX8_dataAt : ByteArray := prog_10_method_4_code
def yX8_dataAt : MethodName := ⟨RX8, "dataAt", "(II)I"⟩
abbrev cX8_indexOf : ByteArray := prog_10_method_5_code
def yX8_indexOf : MethodName := ⟨RX8, "indexOf", "(I)I"⟩
abbrev cX8_write : ByteArray := prog_10_method_6_code
def yX8_write : MethodName := ⟨RX8, "write", "(III)Z"⟩
abbrev cX8_drop : ByteArray := prog_10_method_7_code
def yX8_drop : MethodName := ⟨RX8, "drop", "(I)V"⟩
abbrev cX8_copyFrom : ByteArray := prog_10_method_8_code
def yX8_copyFrom : MethodName := ⟨RX8, "copyFrom", "(LLineDisc$Symbols;)V"⟩
abbrev cX8_pitOf : ByteArray := prog_10_method_9_code
def yX8_pitOf : MethodName := ⟨RX8, "pitOf", "(I)I"⟩
abbrev cX8_flatOf : ByteArray := prog_10_method_10_code
def yX8_flatOf : MethodName := ⟨RX8, "flatOf", "(I)I"⟩
abbrev cX8_lengthOf : ByteArray := prog_10_method_11_code
def yX8_lengthOf : MethodName := ⟨RX8, "lengthOf", "(I)I"⟩
abbrev cX8_lengthOfAll : ByteArray := prog_10_method_12_code
def yX8_lengthOfAll : MethodName := ⟨RX8, "lengthOfAll", "(II)I"⟩
abbrev cX8_balanceOf : ByteArray := prog_10_method_13_code
def yX8_balanceOf : MethodName := ⟨RX8, "balanceOf", "(I)I"⟩
abbrev cX8_longestRunOf : ByteArray := prog_10_method_14_code
def yX8_longestRunOf : MethodName := ⟨RX8, "longestRunOf", "(I)I"⟩
def RX9 : String := "LineDisc$Word"
def TX9 : u_T := fun k => match k with
  | _ => ("", "", "", false)
def tyX9 : Nat → FieldType := fun k => match k with
  | _ => .int
abbrev wsX90 : List Cond := u_ws RX9 TX9 0
theorem nmX9 : ∀ a, a < 0 → ∀ b, b < 0 → a ≠ b → (TX9 a).2.1 ≠ (TX9 b).2.1 := by decide +kernel
theorem tyX9_ok : ∀ k, k < 0 → parseFieldDescriptor (TX9 k).2.2.1 = some (tyX9 k) := by decide +kernel
def RX10 : String := "LineDisc"
def TX10 : u_T := fun k => match k with
  | 0 => ("LineDisc", "now", "LLineDisc$State;", true)
  | 1 => ("LineDisc", "before", "LLineDisc$State;", true)
  | 2 => ("LineDisc", "snapshot", "LLineDisc$State;", true)
  | 3 => ("LineDisc", "kept", "Z", false)
  | 4 => ("LineDisc", "history", "LLineDisc$History;", true)
  | 5 => ("LineDisc", "orders", "LLineDisc$Orders;", true)
  | 6 => ("LineDisc", "survey", "LLineDisc$Survey;", true)
  | _ => ("LineDisc", "trial", "LLineDisc$Head;", true)
def tyX10 : Nat → FieldType := fun k => match k with
  | 0 => .object "LineDisc$State"
  | 1 => .object "LineDisc$State"
  | 2 => .object "LineDisc$State"
  | 3 => .boolean
  | 4 => .object "LineDisc$History"
  | 5 => .object "LineDisc$Orders"
  | 6 => .object "LineDisc$Survey"
  | _ => .object "LineDisc$Head"
abbrev wsX100 : List Cond := u_ws RX10 TX10 8
theorem nmX10 : ∀ a, a < 8 → ∀ b, b < 8 → a ≠ b → (TX10 a).2.1 ≠ (TX10 b).2.1 := by decide +kernel
theorem tyX10_ok : ∀ k, k < 8 → parseFieldDescriptor (TX10 k).2.2.1 = some (tyX10 k) := by decide +kernel
abbrev cX10_init : ByteArray := prog_1_method_1_code
def yX10_init : MethodName := ⟨RX10, "<init>", "()V"⟩
abbrev cX10_press : ByteArray := prog_1_method_2_code
def yX10_press : MethodName := ⟨RX10, "press", "(III)I"⟩
abbrev cX10_scratch : ByteArray := prog_1_method_3_code
def yX10_scratch : MethodName := ⟨RX10, "scratch", "(IIII)I"⟩
abbrev cX10_polish : ByteArray := prog_1_method_4_code
def yX10_polish : MethodName := ⟨RX10, "polish", "(I)I"⟩
abbrev cX10_set : ByteArray := prog_1_method_5_code
def yX10_set : MethodName := ⟨RX10, "set", "(II)I"⟩
abbrev cX10_play : ByteArray := prog_1_method_6_code
def yX10_play : MethodName := ⟨RX10, "play", "(I)I"⟩
abbrev cX10_seek : ByteArray := prog_1_method_7_code
def yX10_seek : MethodName := ⟨RX10, "seek", "(I)I"⟩
abbrev cX10_undo : ByteArray := prog_1_method_12_code
def yX10_undo : MethodName := ⟨RX10, "undo", "()I"⟩
abbrev cX10_frame : ByteArray := prog_1_method_15_code
def yX10_frame : MethodName := ⟨RX10, "frame", "(II)I"⟩
abbrev cX10_symbol : ByteArray := prog_1_method_16_code
def yX10_symbol : MethodName := ⟨RX10, "symbol", "(IIZ)I"⟩
abbrev cX10_turn : ByteArray := prog_1_method_17_code
def yX10_turn : MethodName := ⟨RX10, "turn", "(II)I"⟩
abbrev cX10_scratchOf : ByteArray := prog_1_method_18_code
def yX10_scratchOf : MethodName := ⟨RX10, "scratchOf", "(II)I"⟩
abbrev cX10_count : ByteArray := prog_1_method_19_code
def yX10_count : MethodName := ⟨RX10, "count", "(I)I"⟩
abbrev cX10_right : ByteArray := prog_1_method_20_code
def yX10_right : MethodName := ⟨RX10, "right", "()D"⟩
abbrev cX10_ifSought : ByteArray := prog_1_method_21_code
def yX10_ifSought : MethodName := ⟨RX10, "ifSought", "(II)I"⟩
abbrev cX10_bestGuess : ByteArray := prog_1_method_22_code
def yX10_bestGuess : MethodName := ⟨RX10, "bestGuess", "(I)I"⟩
abbrev cX10_polishFirst : ByteArray := prog_1_method_23_code
def yX10_polishFirst : MethodName := ⟨RX10, "polishFirst", "(I)I"⟩
abbrev cX10_gap : ByteArray := prog_1_method_24_code
def yX10_gap : MethodName := ⟨RX10, "gap", "(I)I"⟩
abbrev cX10_pressSymbol : ByteArray := prog_1_method_25_code
def yX10_pressSymbol : MethodName := ⟨RX10, "pressSymbol", "(III)I"⟩
abbrev cX10_addScratch : ByteArray := prog_1_method_26_code
def yX10_addScratch : MethodName := ⟨RX10, "addScratch", "(IIII)I"⟩
abbrev cX10_polishAway : ByteArray := prog_1_method_27_code
def yX10_polishAway : MethodName := ⟨RX10, "polishAway", "(I)I"⟩
abbrev cX10_playFrames : ByteArray := prog_1_method_28_code
def yX10_playFrames : MethodName := ⟨RX10, "playFrames", "(I)I"⟩
abbrev cX10_seekFrame : ByteArray := prog_1_method_29_code
def yX10_seekFrame : MethodName := ⟨RX10, "seekFrame", "(I)I"⟩
abbrev cX10_recorded : ByteArray := prog_1_method_31_code
def yX10_recorded : MethodName := ⟨RX10, "recorded", "(I)I"⟩
abbrev cX10_countSetting : ByteArray := prog_1_method_32_code
def yX10_countSetting : MethodName := ⟨RX10, "countSetting", "(I)I"⟩
abbrev cX10_toldSymbol : ByteArray := prog_1_method_33_code
def yX10_toldSymbol : MethodName := ⟨RX10, "toldSymbol", "(II)I"⟩
abbrev cX10_filledSymbol : ByteArray := prog_1_method_34_code
def yX10_filledSymbol : MethodName := ⟨RX10, "filledSymbol", "(II)I"⟩
abbrev cX10_isToldRight : ByteArray := prog_1_method_35_code
def yX10_isToldRight : MethodName := ⟨RX10, "isToldRight", "(I)Z"⟩
abbrev cX10_trySeek : ByteArray := prog_1_method_36_code
def yX10_trySeek : MethodName := ⟨RX10, "trySeek", "(II)I"⟩
abbrev cX10_isPlace : ByteArray := prog_1_method_37_code
def yX10_isPlace : MethodName := ⟨RX10, "isPlace", "(I)Z"⟩
abbrev cX10_at : ByteArray := prog_1_method_38_code
def yX10_at : MethodName := ⟨RX10, "at", "([II)I"⟩
abbrev cX10_put : ByteArray := prog_1_method_39_code
def yX10_put : MethodName := ⟨RX10, "put", "([III)V"⟩
def RX11 : String := "LineDiscModel"
def TX11 : u_T := fun k => match k with
  | _ => ("", "", "", false)
def tyX11 : Nat → FieldType := fun k => match k with
  | _ => .int
abbrev wsX110 : List Cond := u_ws RX11 TX11 0
theorem nmX11 : ∀ a, a < 0 → ∀ b, b < 0 → a ≠ b → (TX11 a).2.1 ≠ (TX11 b).2.1 := by decide +kernel
theorem tyX11_ok : ∀ k, k < 0 → parseFieldDescriptor (TX11 k).2.2.1 = some (tyX11 k) := by decide +kernel
def RJx29ce0 : String := "java/lang/Enum"
def TJx29ce0 : u_T := fun k => match k with
  | _ => ("", "", "", false)
def tyJx29ce0 : Nat → FieldType := fun k => match k with
  | _ => .int
abbrev wsJx29ce00 : List Cond := u_ws RJx29ce0 TJx29ce0 0
theorem nmJx29ce0 : ∀ a, a < 0 → ∀ b, b < 0 → a ≠ b → (TJx29ce0 a).2.1 ≠ (TJx29ce0 b).2.1 := by decide +kernel
theorem tyJx29ce0_ok : ∀ k, k < 0 → parseFieldDescriptor (TJx29ce0 k).2.2.1 = some (tyJx29ce0 k) := by decide +kernel
def RJ9 : String := "java/lang/Math"
def TJ9 : u_T := fun k => match k with
  | _ => ("", "", "", false)
def tyJ9 : Nat → FieldType := fun k => match k with
  | _ => .int
abbrev wsJ90 : List Cond := u_ws RJ9 TJ9 0
theorem nmJ9 : ∀ a, a < 0 → ∀ b, b < 0 → a ≠ b → (TJ9 a).2.1 ≠ (TJ9 b).2.1 := by decide +kernel
theorem tyJ9_ok : ∀ k, k < 0 → parseFieldDescriptor (TJ9 k).2.2.1 = some (tyJ9 k) := by decide +kernel
abbrev cJ9_abs_0f7a4 : ByteArray := prog_14_method_59_code
def yJ9_abs_0f7a4 : MethodName := ⟨RJ9, "abs", "(I)I"⟩
abbrev cJ9_max_7cf53 : ByteArray := prog_14_method_65_code
def yJ9_max_7cf53 : MethodName := ⟨RJ9, "max", "(II)I"⟩
abbrev cJ9_min_7cf53 : ByteArray := prog_14_method_69_code
def yJ9_min_7cf53 : MethodName := ⟨RJ9, "min", "(II)I"⟩
def RJ10 : String := "java/lang/System"
def TJ10 : u_T := fun k => match k with
  | _ => ("", "", "", false)
def tyJ10 : Nat → FieldType := fun k => match k with
  | _ => .int
abbrev wsJ100 : List Cond := u_ws RJ10 TJ10 0
theorem nmJ10 : ∀ a, a < 0 → ∀ b, b < 0 → a ≠ b → (TJ10 a).2.1 ≠ (TJ10 b).2.1 := by decide +kernel
theorem tyJ10_ok : ∀ k, k < 0 → parseFieldDescriptor (TJ10 k).2.2.1 = some (tyJ10 k) := by decide +kernel
def RJ7 : String := "java/util/Arrays"
def TJ7 : u_T := fun k => match k with
  | _ => ("", "", "", false)
def tyJ7 : Nat → FieldType := fun k => match k with
  | _ => .int
abbrev wsJ70 : List Cond := u_ws RJ7 TJ7 0
theorem nmJ7 : ∀ a, a < 0 → ∀ b, b < 0 → a ≠ b → (TJ7 a).2.1 ≠ (TJ7 b).2.1 := by decide +kernel
theorem tyJ7_ok : ∀ k, k < 0 → parseFieldDescriptor (TJ7 k).2.2.1 = some (tyJ7 k) := by decide +kernel
abbrev cJ7_fill_53178 : ByteArray := prog_16_method_103_code
def yJ7_fill_53178 : MethodName := ⟨RJ7, "fill", "([II)V"⟩
def RL : String := "LineDiscLaw"
abbrev cL_cell : ByteArray := method_2_code
def yL_cell : MethodName := ⟨RL, "cell", "([II)I"⟩
abbrev cL_low : ByteArray := method_3_code
def yL_low : MethodName := ⟨RL, "low", "(II)I"⟩
abbrev cL_does : ByteArray := method_4_code
def yL_does : MethodName := ⟨RL, "does", "(LLineDisc;I)I"⟩
abbrev cL_isFrameSo : ByteArray := method_5_code
def yL_isFrameSo : MethodName := ⟨RL, "isFrameSo", "(LLineDisc;I)Z"⟩
abbrev cL_isWholeSo : ByteArray := method_6_code
def yL_isWholeSo : MethodName := ⟨RL, "isWholeSo", "(LLineDisc;)Z"⟩
abbrev cL_isGapSo : ByteArray := method_7_code
def yL_isGapSo : MethodName := ⟨RL, "isGapSo", "(LLineDisc;)Z"⟩
abbrev cL_isSeekSo : ByteArray := method_8_code
def yL_isSeekSo : MethodName := ⟨RL, "isSeekSo", "(LLineDisc;II)Z"⟩
abbrev cL_isPlaySo : ByteArray := method_9_code
def yL_isPlaySo : MethodName := ⟨RL, "isPlaySo", "(LLineDisc;II)Z"⟩
abbrev cL_isPolishSo : ByteArray := method_10_code
def yL_isPolishSo : MethodName := ⟨RL, "isPolishSo", "(LLineDisc;)Z"⟩
abbrev cL_law : ByteArray := code
def yL_law : MethodName := ⟨RL, "law", "([I)Z"⟩
theorem dX1_init_0 : decode cX1_init 0 = .ok (.aload_n 0, 1) := by decide +kernel
theorem dX1_init_1 : decode cX1_init 1 = .ok (.invokespecial 3, 3) := by decide +kernel
theorem dX1_init_4 : decode cX1_init 4 = .ok (.aload_n 0, 1) := by decide +kernel
theorem dX1_init_5 : decode cX1_init 5 = .ok (.iconst 0, 1) := by decide +kernel
theorem dX1_init_6 : decode cX1_init 6 = .ok (.putfield 9, 3) := by decide +kernel
theorem dX1_init_9 : decode cX1_init 9 = .ok (.aload_n 0, 1) := by decide +kernel
theorem dX1_init_10 : decode cX1_init 10 = .ok (.bipush 20, 2) := by decide +kernel
theorem dX1_init_12 : decode cX1_init 12 = .ok (.putfield 15, 3) := by decide +kernel
theorem dX1_init_15 : decode cX1_init 15 = .ok (.aload_n 0, 1) := by decide +kernel
theorem dX1_init_16 : decode cX1_init 16 = .ok (.iconst 0, 1) := by decide +kernel
theorem dX1_init_17 : decode cX1_init 17 = .ok (.putfield 18, 3) := by decide +kernel
theorem dX1_init_20 : decode cX1_init 20 = .ok (.aload_n 0, 1) := by decide +kernel
theorem dX1_init_21 : decode cX1_init 21 = .ok (.iconst 0, 1) := by decide +kernel
theorem dX1_init_22 : decode cX1_init 22 = .ok (.putfield 21, 3) := by decide +kernel
theorem dX1_init_25 : decode cX1_init 25 = .ok (.aload_n 0, 1) := by decide +kernel
theorem dX1_init_26 : decode cX1_init 26 = .ok (.iconst 0, 1) := by decide +kernel
theorem dX1_init_27 : decode cX1_init 27 = .ok (.putfield 24, 3) := by decide +kernel
theorem dX1_init_30 : decode cX1_init 30 = .ok (.aload_n 0, 1) := by decide +kernel
theorem dX1_init_31 : decode cX1_init 31 = .ok (.iconst 0, 1) := by decide +kernel
theorem dX1_init_32 : decode cX1_init 32 = .ok (.putfield 27, 3) := by decide +kernel
theorem dX1_init_35 : decode cX1_init 35 = .ok (.return_, 1) := by decide +kernel
theorem dX1_copyFrom_0 : decode cX1_copyFrom 0 = .ok (.aload_n 0, 1) := by decide +kernel
theorem dX1_copyFrom_1 : decode cX1_copyFrom 1 = .ok (.aload_n 1, 1) := by decide +kernel
theorem dX1_copyFrom_2 : decode cX1_copyFrom 2 = .ok (.getfield 9, 3) := by decide +kernel
theorem dX1_copyFrom_5 : decode cX1_copyFrom 5 = .ok (.putfield 9, 3) := by decide +kernel
theorem dX1_copyFrom_8 : decode cX1_copyFrom 8 = .ok (.aload_n 0, 1) := by decide +kernel
theorem dX1_copyFrom_9 : decode cX1_copyFrom 9 = .ok (.aload_n 1, 1) := by decide +kernel
theorem dX1_copyFrom_10 : decode cX1_copyFrom 10 = .ok (.getfield 15, 3) := by decide +kernel
theorem dX1_copyFrom_13 : decode cX1_copyFrom 13 = .ok (.putfield 15, 3) := by decide +kernel
theorem dX1_copyFrom_16 : decode cX1_copyFrom 16 = .ok (.aload_n 0, 1) := by decide +kernel
theorem dX1_copyFrom_17 : decode cX1_copyFrom 17 = .ok (.aload_n 1, 1) := by decide +kernel
theorem dX1_copyFrom_18 : decode cX1_copyFrom 18 = .ok (.getfield 18, 3) := by decide +kernel
theorem dX1_copyFrom_21 : decode cX1_copyFrom 21 = .ok (.putfield 18, 3) := by decide +kernel
theorem dX1_copyFrom_24 : decode cX1_copyFrom 24 = .ok (.aload_n 0, 1) := by decide +kernel
theorem dX1_copyFrom_25 : decode cX1_copyFrom 25 = .ok (.aload_n 1, 1) := by decide +kernel
theorem dX1_copyFrom_26 : decode cX1_copyFrom 26 = .ok (.getfield 21, 3) := by decide +kernel
theorem dX1_copyFrom_29 : decode cX1_copyFrom 29 = .ok (.putfield 21, 3) := by decide +kernel
theorem dX1_copyFrom_32 : decode cX1_copyFrom 32 = .ok (.aload_n 0, 1) := by decide +kernel
theorem dX1_copyFrom_33 : decode cX1_copyFrom 33 = .ok (.aload_n 1, 1) := by decide +kernel
theorem dX1_copyFrom_34 : decode cX1_copyFrom 34 = .ok (.getfield 24, 3) := by decide +kernel
theorem dX1_copyFrom_37 : decode cX1_copyFrom 37 = .ok (.putfield 24, 3) := by decide +kernel
theorem dX1_copyFrom_40 : decode cX1_copyFrom 40 = .ok (.aload_n 0, 1) := by decide +kernel
theorem dX1_copyFrom_41 : decode cX1_copyFrom 41 = .ok (.aload_n 1, 1) := by decide +kernel
theorem dX1_copyFrom_42 : decode cX1_copyFrom 42 = .ok (.getfield 27, 3) := by decide +kernel
theorem dX1_copyFrom_45 : decode cX1_copyFrom 45 = .ok (.putfield 27, 3) := by decide +kernel
theorem dX1_copyFrom_48 : decode cX1_copyFrom 48 = .ok (.return_, 1) := by decide +kernel
theorem dX1_goToStart_0 : decode cX1_goToStart 0 = .ok (.aload_n 0, 1) := by decide +kernel
theorem dX1_goToStart_1 : decode cX1_goToStart 1 = .ok (.iconst 0, 1) := by decide +kernel
theorem dX1_goToStart_2 : decode cX1_goToStart 2 = .ok (.putfield 9, 3) := by decide +kernel
theorem dX1_goToStart_5 : decode cX1_goToStart 5 = .ok (.aload_n 0, 1) := by decide +kernel
theorem dX1_goToStart_6 : decode cX1_goToStart 6 = .ok (.aload_n 1, 1) := by decide +kernel
theorem dX1_goToStart_7 : decode cX1_goToStart 7 = .ok (.iconst 0, 1) := by decide +kernel
theorem dX1_goToStart_8 : decode cX1_goToStart 8 = .ok (.invokevirtual 30, 3) := by decide +kernel
theorem dX1_goToStart_11 : decode cX1_goToStart 11 = .ok (.putfield 15, 3) := by decide +kernel
theorem dX1_goToStart_14 : decode cX1_goToStart 14 = .ok (.return_, 1) := by decide +kernel
theorem dX1_spin_0 : decode cX1_spin 0 = .ok (.iload_n 1, 1) := by decide +kernel
theorem dX1_spin_1 : decode cX1_spin 1 = .ok (.aload_n 3, 1) := by decide +kernel
theorem dX1_spin_2 : decode cX1_spin 2 = .ok (.getfield 36, 3) := by decide +kernel
theorem dX1_spin_5 : decode cX1_spin 5 = .ok (.imul, 1) := by decide +kernel
theorem dX1_spin_6 : decode cX1_spin 6 = .ok (.istore 4, 2) := by decide +kernel
theorem dX1_spin_8 : decode cX1_spin 8 = .ok (.aload_n 0, 1) := by decide +kernel
theorem dX1_spin_9 : decode cX1_spin 9 = .ok (.aload_n 0, 1) := by decide +kernel
theorem dX1_spin_10 : decode cX1_spin 10 = .ok (.getfield 15, 3) := by decide +kernel
theorem dX1_spin_13 : decode cX1_spin 13 = .ok (.iload_n 2, 1) := by decide +kernel
theorem dX1_spin_14 : decode cX1_spin 14 = .ok (.if_icmp .ge 17, 3) := by decide +kernel
theorem dX1_spin_17 : decode cX1_spin 17 = .ok (.iload_n 2, 1) := by decide +kernel
theorem dX1_spin_18 : decode cX1_spin 18 = .ok (.aload_n 0, 1) := by decide +kernel
theorem dX1_spin_19 : decode cX1_spin 19 = .ok (.getfield 15, 3) := by decide +kernel
theorem dX1_spin_22 : decode cX1_spin 22 = .ok (.iload 4, 2) := by decide +kernel
theorem dX1_spin_24 : decode cX1_spin 24 = .ok (.iadd, 1) := by decide +kernel
theorem dX1_spin_25 : decode cX1_spin 25 = .ok (.invokestatic 39, 3) := by decide +kernel
theorem dX1_spin_28 : decode cX1_spin 28 = .ok (.goto 14, 3) := by decide +kernel
theorem dX1_spin_31 : decode cX1_spin 31 = .ok (.iload_n 2, 1) := by decide +kernel
theorem dX1_spin_32 : decode cX1_spin 32 = .ok (.aload_n 0, 1) := by decide +kernel
theorem dX1_spin_33 : decode cX1_spin 33 = .ok (.getfield 15, 3) := by decide +kernel
theorem dX1_spin_36 : decode cX1_spin 36 = .ok (.iload 4, 2) := by decide +kernel
theorem dX1_spin_38 : decode cX1_spin 38 = .ok (.isub, 1) := by decide +kernel
theorem dX1_spin_39 : decode cX1_spin 39 = .ok (.invokestatic 45, 3) := by decide +kernel
theorem dX1_spin_42 : decode cX1_spin 42 = .ok (.putfield 15, 3) := by decide +kernel
theorem dX1_spin_45 : decode cX1_spin 45 = .ok (.aload_n 0, 1) := by decide +kernel
theorem dX1_spin_46 : decode cX1_spin 46 = .ok (.dup, 1) := by decide +kernel
theorem dX1_spin_47 : decode cX1_spin 47 = .ok (.getfield 18, 3) := by decide +kernel
theorem dX1_spin_50 : decode cX1_spin 50 = .ok (.iload_n 1, 1) := by decide +kernel
theorem dX1_spin_51 : decode cX1_spin 51 = .ok (.iadd, 1) := by decide +kernel
theorem dX1_spin_52 : decode cX1_spin 52 = .ok (.putfield 18, 3) := by decide +kernel
theorem dX1_spin_55 : decode cX1_spin 55 = .ok (.return_, 1) := by decide +kernel
theorem dX1_isNear_0 : decode cX1_isNear 0 = .ok (.aload_n 0, 1) := by decide +kernel
theorem dX1_isNear_1 : decode cX1_isNear 1 = .ok (.getfield 15, 3) := by decide +kernel
theorem dX1_isNear_4 : decode cX1_isNear 4 = .ok (.iload_n 1, 1) := by decide +kernel
theorem dX1_isNear_5 : decode cX1_isNear 5 = .ok (.isub, 1) := by decide +kernel
theorem dX1_isNear_6 : decode cX1_isNear 6 = .ok (.invokestatic 48, 3) := by decide +kernel
theorem dX1_isNear_9 : decode cX1_isNear 9 = .ok (.aload_n 2, 1) := by decide +kernel
theorem dX1_isNear_10 : decode cX1_isNear 10 = .ok (.getfield 51, 3) := by decide +kernel
theorem dX1_isNear_13 : decode cX1_isNear 13 = .ok (.if_icmp .gt 7, 3) := by decide +kernel
theorem dX1_isNear_16 : decode cX1_isNear 16 = .ok (.iconst 1, 1) := by decide +kernel
theorem dX1_isNear_17 : decode cX1_isNear 17 = .ok (.goto 4, 3) := by decide +kernel
theorem dX1_isNear_20 : decode cX1_isNear 20 = .ok (.iconst 0, 1) := by decide +kernel
theorem dX1_isNear_21 : decode cX1_isNear 21 = .ok (.ireturn, 1) := by decide +kernel
theorem dX1_readFrames_0 : decode cX1_readFrames 0 = .ok (.iconst 0, 1) := by decide +kernel
theorem dX1_readFrames_1 : decode cX1_readFrames 1 = .ok (.istore 4, 2) := by decide +kernel
theorem dX1_readFrames_3 : decode cX1_readFrames 3 = .ok (.iconst 0, 1) := by decide +kernel
theorem dX1_readFrames_4 : decode cX1_readFrames 4 = .ok (.istore 5, 2) := by decide +kernel
theorem dX1_readFrames_6 : decode cX1_readFrames 6 = .ok (.aload_n 2, 1) := by decide +kernel
theorem dX1_readFrames_7 : decode cX1_readFrames 7 = .ok (.invokevirtual 54, 3) := by decide +kernel
theorem dX1_readFrames_10 : decode cX1_readFrames 10 = .ok (.istore 6, 2) := by decide +kernel
theorem dX1_readFrames_12 : decode cX1_readFrames 12 = .ok (.iconst 0, 1) := by decide +kernel
theorem dX1_readFrames_13 : decode cX1_readFrames 13 = .ok (.istore 7, 2) := by decide +kernel
theorem dX1_readFrames_15 : decode cX1_readFrames 15 = .ok (.iload 7, 2) := by decide +kernel
theorem dX1_readFrames_17 : decode cX1_readFrames 17 = .ok (.ldc 58, 2) := by decide +kernel
theorem dX1_readFrames_19 : decode cX1_readFrames 19 = .ok (.if_icmp .ge 90, 3) := by decide +kernel
theorem dX1_readFrames_22 : decode cX1_readFrames 22 = .ok (.iload 4, 2) := by decide +kernel
theorem dX1_readFrames_24 : decode cX1_readFrames 24 = .ok (.iload_n 1, 1) := by decide +kernel
theorem dX1_readFrames_25 : decode cX1_readFrames 25 = .ok (.if_icmp .ge 84, 3) := by decide +kernel
theorem dX1_readFrames_28 : decode cX1_readFrames 28 = .ok (.aload_n 0, 1) := by decide +kernel
theorem dX1_readFrames_29 : decode cX1_readFrames 29 = .ok (.getfield 9, 3) := by decide +kernel
theorem dX1_readFrames_32 : decode cX1_readFrames 32 = .ok (.iload 6, 2) := by decide +kernel
theorem dX1_readFrames_34 : decode cX1_readFrames 34 = .ok (.if_icmp .ge 75, 3) := by decide +kernel
theorem dX1_readFrames_37 : decode cX1_readFrames 37 = .ok (.aload_n 2, 1) := by decide +kernel
theorem dX1_readFrames_38 : decode cX1_readFrames 38 = .ok (.aload_n 2, 1) := by decide +kernel
theorem dX1_readFrames_39 : decode cX1_readFrames 39 = .ok (.aload_n 0, 1) := by decide +kernel
theorem dX1_readFrames_40 : decode cX1_readFrames 40 = .ok (.getfield 9, 3) := by decide +kernel
theorem dX1_readFrames_43 : decode cX1_readFrames 43 = .ok (.invokevirtual 59, 3) := by decide +kernel
theorem dX1_readFrames_46 : decode cX1_readFrames 46 = .ok (.invokevirtual 30, 3) := by decide +kernel
theorem dX1_readFrames_49 : decode cX1_readFrames 49 = .ok (.istore 8, 2) := by decide +kernel
theorem dX1_readFrames_51 : decode cX1_readFrames 51 = .ok (.aload_n 0, 1) := by decide +kernel
theorem dX1_readFrames_52 : decode cX1_readFrames 52 = .ok (.iconst 1, 1) := by decide +kernel
theorem dX1_readFrames_53 : decode cX1_readFrames 53 = .ok (.iload 8, 2) := by decide +kernel
theorem dX1_readFrames_55 : decode cX1_readFrames 55 = .ok (.aload_n 2, 1) := by decide +kernel
theorem dX1_readFrames_56 : decode cX1_readFrames 56 = .ok (.invokevirtual 62, 3) := by decide +kernel
theorem dX1_readFrames_59 : decode cX1_readFrames 59 = .ok (.aload_n 0, 1) := by decide +kernel
theorem dX1_readFrames_60 : decode cX1_readFrames 60 = .ok (.iload 8, 2) := by decide +kernel
theorem dX1_readFrames_62 : decode cX1_readFrames 62 = .ok (.aload_n 2, 1) := by decide +kernel
theorem dX1_readFrames_63 : decode cX1_readFrames 63 = .ok (.invokevirtual 66, 3) := by decide +kernel
theorem dX1_readFrames_66 : decode cX1_readFrames 66 = .ok (.ifCond .eq 37, 3) := by decide +kernel
theorem dX1_readFrames_69 : decode cX1_readFrames 69 = .ok (.iload 5, 2) := by decide +kernel
theorem dX1_readFrames_71 : decode cX1_readFrames 71 = .ok (.aload_n 3, 1) := by decide +kernel
theorem dX1_readFrames_72 : decode cX1_readFrames 72 = .ok (.aload_n 0, 1) := by decide +kernel
theorem dX1_readFrames_73 : decode cX1_readFrames 73 = .ok (.getfield 9, 3) := by decide +kernel
theorem dX1_readFrames_76 : decode cX1_readFrames 76 = .ok (.invokevirtual 70, 3) := by decide +kernel
theorem dX1_readFrames_79 : decode cX1_readFrames 79 = .ok (.ifCond .eq 7, 3) := by decide +kernel
theorem dX1_readFrames_82 : decode cX1_readFrames 82 = .ok (.iconst 0, 1) := by decide +kernel
theorem dX1_readFrames_83 : decode cX1_readFrames 83 = .ok (.goto 4, 3) := by decide +kernel
theorem dX1_readFrames_86 : decode cX1_readFrames 86 = .ok (.iconst 1, 1) := by decide +kernel
theorem dX1_readFrames_87 : decode cX1_readFrames 87 = .ok (.iadd, 1) := by decide +kernel
theorem dX1_readFrames_88 : decode cX1_readFrames 88 = .ok (.istore 5, 2) := by decide +kernel
theorem dX1_readFrames_90 : decode cX1_readFrames 90 = .ok (.iinc 4 1, 3) := by decide +kernel
theorem dX1_readFrames_93 : decode cX1_readFrames 93 = .ok (.aload_n 0, 1) := by decide +kernel
theorem dX1_readFrames_94 : decode cX1_readFrames 94 = .ok (.dup, 1) := by decide +kernel
theorem dX1_readFrames_95 : decode cX1_readFrames 95 = .ok (.getfield 9, 3) := by decide +kernel
theorem dX1_readFrames_98 : decode cX1_readFrames 98 = .ok (.iconst 1, 1) := by decide +kernel
theorem dX1_readFrames_99 : decode cX1_readFrames 99 = .ok (.iadd, 1) := by decide +kernel
theorem dX1_readFrames_100 : decode cX1_readFrames 100 = .ok (.putfield 9, 3) := by decide +kernel
theorem dX1_readFrames_103 : decode cX1_readFrames 103 = .ok (.iinc 7 1, 3) := by decide +kernel
theorem dX1_readFrames_106 : decode cX1_readFrames 106 = .ok (.goto (-91), 3) := by decide +kernel
theorem dX1_readFrames_109 : decode cX1_readFrames 109 = .ok (.aload_n 0, 1) := by decide +kernel
theorem dX1_readFrames_110 : decode cX1_readFrames 110 = .ok (.dup, 1) := by decide +kernel
theorem dX1_readFrames_111 : decode cX1_readFrames 111 = .ok (.getfield 21, 3) := by decide +kernel
theorem dX1_readFrames_114 : decode cX1_readFrames 114 = .ok (.iload 4, 2) := by decide +kernel
theorem dX1_readFrames_116 : decode cX1_readFrames 116 = .ok (.iadd, 1) := by decide +kernel
theorem dX1_readFrames_117 : decode cX1_readFrames 117 = .ok (.putfield 21, 3) := by decide +kernel
theorem dX1_readFrames_120 : decode cX1_readFrames 120 = .ok (.aload_n 0, 1) := by decide +kernel
theorem dX1_readFrames_121 : decode cX1_readFrames 121 = .ok (.dup, 1) := by decide +kernel
theorem dX1_readFrames_122 : decode cX1_readFrames 122 = .ok (.getfield 24, 3) := by decide +kernel
theorem dX1_readFrames_125 : decode cX1_readFrames 125 = .ok (.iload 5, 2) := by decide +kernel
theorem dX1_readFrames_127 : decode cX1_readFrames 127 = .ok (.iadd, 1) := by decide +kernel
theorem dX1_readFrames_128 : decode cX1_readFrames 128 = .ok (.putfield 24, 3) := by decide +kernel
theorem dX1_readFrames_131 : decode cX1_readFrames 131 = .ok (.iload 5, 2) := by decide +kernel
theorem dX1_readFrames_133 : decode cX1_readFrames 133 = .ok (.ireturn, 1) := by decide +kernel
theorem dX1_goTo_0 : decode cX1_goTo 0 = .ok (.aload_n 2, 1) := by decide +kernel
theorem dX1_goTo_1 : decode cX1_goTo 1 = .ok (.iload_n 1, 1) := by decide +kernel
theorem dX1_goTo_2 : decode cX1_goTo 2 = .ok (.invokevirtual 59, 3) := by decide +kernel
theorem dX1_goTo_5 : decode cX1_goTo 5 = .ok (.istore 4, 2) := by decide +kernel
theorem dX1_goTo_7 : decode cX1_goTo 7 = .ok (.aload_n 2, 1) := by decide +kernel
theorem dX1_goTo_8 : decode cX1_goTo 8 = .ok (.aload_n 0, 1) := by decide +kernel
theorem dX1_goTo_9 : decode cX1_goTo 9 = .ok (.getfield 9, 3) := by decide +kernel
theorem dX1_goTo_12 : decode cX1_goTo 12 = .ok (.invokevirtual 59, 3) := by decide +kernel
theorem dX1_goTo_15 : decode cX1_goTo 15 = .ok (.istore 5, 2) := by decide +kernel
theorem dX1_goTo_17 : decode cX1_goTo 17 = .ok (.iconst 0, 1) := by decide +kernel
theorem dX1_goTo_18 : decode cX1_goTo 18 = .ok (.istore 6, 2) := by decide +kernel
theorem dX1_goTo_20 : decode cX1_goTo 20 = .ok (.iload 6, 2) := by decide +kernel
theorem dX1_goTo_22 : decode cX1_goTo 22 = .ok (.ldc 58, 2) := by decide +kernel
theorem dX1_goTo_24 : decode cX1_goTo 24 = .ok (.if_icmp .ge 28, 3) := by decide +kernel
theorem dX1_goTo_27 : decode cX1_goTo 27 = .ok (.iload 5, 2) := by decide +kernel
theorem dX1_goTo_29 : decode cX1_goTo 29 = .ok (.iload 4, 2) := by decide +kernel
theorem dX1_goTo_31 : decode cX1_goTo 31 = .ok (.if_icmp .eq 21, 3) := by decide +kernel
theorem dX1_goTo_34 : decode cX1_goTo 34 = .ok (.aload_n 0, 1) := by decide +kernel
theorem dX1_goTo_35 : decode cX1_goTo 35 = .ok (.iload 5, 2) := by decide +kernel
theorem dX1_goTo_37 : decode cX1_goTo 37 = .ok (.iload 4, 2) := by decide +kernel
theorem dX1_goTo_39 : decode cX1_goTo 39 = .ok (.aload_n 2, 1) := by decide +kernel
theorem dX1_goTo_40 : decode cX1_goTo 40 = .ok (.iload_n 3, 1) := by decide +kernel
theorem dX1_goTo_41 : decode cX1_goTo 41 = .ok (.invokevirtual 76, 3) := by decide +kernel
theorem dX1_goTo_44 : decode cX1_goTo 44 = .ok (.istore 5, 2) := by decide +kernel
theorem dX1_goTo_46 : decode cX1_goTo 46 = .ok (.iinc 6 1, 3) := by decide +kernel
theorem dX1_goTo_49 : decode cX1_goTo 49 = .ok (.goto (-29), 3) := by decide +kernel
theorem dX1_goTo_52 : decode cX1_goTo 52 = .ok (.aload_n 2, 1) := by decide +kernel
theorem dX1_goTo_53 : decode cX1_goTo 53 = .ok (.iload 4, 2) := by decide +kernel
theorem dX1_goTo_55 : decode cX1_goTo 55 = .ok (.invokevirtual 30, 3) := by decide +kernel
theorem dX1_goTo_58 : decode cX1_goTo 58 = .ok (.istore 6, 2) := by decide +kernel
theorem dX1_goTo_60 : decode cX1_goTo 60 = .ok (.iconst 0, 1) := by decide +kernel
theorem dX1_goTo_61 : decode cX1_goTo 61 = .ok (.istore 7, 2) := by decide +kernel
theorem dX1_goTo_63 : decode cX1_goTo 63 = .ok (.iload 7, 2) := by decide +kernel
theorem dX1_goTo_65 : decode cX1_goTo 65 = .ok (.ldc 58, 2) := by decide +kernel
theorem dX1_goTo_67 : decode cX1_goTo 67 = .ok (.if_icmp .ge 27, 3) := by decide +kernel
theorem dX1_goTo_70 : decode cX1_goTo 70 = .ok (.aload_n 0, 1) := by decide +kernel
theorem dX1_goTo_71 : decode cX1_goTo 71 = .ok (.iload 6, 2) := by decide +kernel
theorem dX1_goTo_73 : decode cX1_goTo 73 = .ok (.aload_n 2, 1) := by decide +kernel
theorem dX1_goTo_74 : decode cX1_goTo 74 = .ok (.invokevirtual 66, 3) := by decide +kernel
theorem dX1_goTo_77 : decode cX1_goTo 77 = .ok (.ifCond .ne 17, 3) := by decide +kernel
theorem dX1_goTo_80 : decode cX1_goTo 80 = .ok (.aload_n 0, 1) := by decide +kernel
theorem dX1_goTo_81 : decode cX1_goTo 81 = .ok (.iconst 1, 1) := by decide +kernel
theorem dX1_goTo_82 : decode cX1_goTo 82 = .ok (.iload 6, 2) := by decide +kernel
theorem dX1_goTo_84 : decode cX1_goTo 84 = .ok (.aload_n 2, 1) := by decide +kernel
theorem dX1_goTo_85 : decode cX1_goTo 85 = .ok (.invokevirtual 62, 3) := by decide +kernel
theorem dX1_goTo_88 : decode cX1_goTo 88 = .ok (.iinc 7 1, 3) := by decide +kernel
theorem dX1_goTo_91 : decode cX1_goTo 91 = .ok (.goto (-28), 3) := by decide +kernel
theorem dX1_goTo_94 : decode cX1_goTo 94 = .ok (.aload_n 2, 1) := by decide +kernel
theorem dX1_goTo_95 : decode cX1_goTo 95 = .ok (.iload 4, 2) := by decide +kernel
theorem dX1_goTo_97 : decode cX1_goTo 97 = .ok (.invokevirtual 80, 3) := by decide +kernel
theorem dX1_goTo_100 : decode cX1_goTo 100 = .ok (.istore 7, 2) := by decide +kernel
theorem dX1_goTo_102 : decode cX1_goTo 102 = .ok (.aload_n 0, 1) := by decide +kernel
theorem dX1_goTo_103 : decode cX1_goTo 103 = .ok (.getfield 9, 3) := by decide +kernel
theorem dX1_goTo_106 : decode cX1_goTo 106 = .ok (.iload_n 1, 1) := by decide +kernel
theorem dX1_goTo_107 : decode cX1_goTo 107 = .ok (.if_icmp .le 28, 3) := by decide +kernel
theorem dX1_goTo_110 : decode cX1_goTo 110 = .ok (.aload_n 0, 1) := by decide +kernel
theorem dX1_goTo_111 : decode cX1_goTo 111 = .ok (.dup, 1) := by decide +kernel
theorem dX1_goTo_112 : decode cX1_goTo 112 = .ok (.getfield 18, 3) := by decide +kernel
theorem dX1_goTo_115 : decode cX1_goTo 115 = .ok (.iload 7, 2) := by decide +kernel
theorem dX1_goTo_117 : decode cX1_goTo 117 = .ok (.iload 6, 2) := by decide +kernel
theorem dX1_goTo_119 : decode cX1_goTo 119 = .ok (.iadd, 1) := by decide +kernel
theorem dX1_goTo_120 : decode cX1_goTo 120 = .ok (.aload_n 0, 1) := by decide +kernel
theorem dX1_goTo_121 : decode cX1_goTo 121 = .ok (.getfield 9, 3) := by decide +kernel
theorem dX1_goTo_124 : decode cX1_goTo 124 = .ok (.isub, 1) := by decide +kernel
theorem dX1_goTo_125 : decode cX1_goTo 125 = .ok (.iadd, 1) := by decide +kernel
theorem dX1_goTo_126 : decode cX1_goTo 126 = .ok (.putfield 18, 3) := by decide +kernel
theorem dX1_goTo_129 : decode cX1_goTo 129 = .ok (.aload_n 0, 1) := by decide +kernel
theorem dX1_goTo_130 : decode cX1_goTo 130 = .ok (.iload 7, 2) := by decide +kernel
theorem dX1_goTo_132 : decode cX1_goTo 132 = .ok (.putfield 9, 3) := by decide +kernel
theorem dX1_goTo_135 : decode cX1_goTo 135 = .ok (.aload_n 0, 1) := by decide +kernel
theorem dX1_goTo_136 : decode cX1_goTo 136 = .ok (.dup, 1) := by decide +kernel
theorem dX1_goTo_137 : decode cX1_goTo 137 = .ok (.getfield 18, 3) := by decide +kernel
theorem dX1_goTo_140 : decode cX1_goTo 140 = .ok (.iload_n 1, 1) := by decide +kernel
theorem dX1_goTo_141 : decode cX1_goTo 141 = .ok (.aload_n 0, 1) := by decide +kernel
theorem dX1_goTo_142 : decode cX1_goTo 142 = .ok (.getfield 9, 3) := by decide +kernel
theorem dX1_goTo_145 : decode cX1_goTo 145 = .ok (.isub, 1) := by decide +kernel
theorem dX1_goTo_146 : decode cX1_goTo 146 = .ok (.iadd, 1) := by decide +kernel
theorem dX1_goTo_147 : decode cX1_goTo 147 = .ok (.putfield 18, 3) := by decide +kernel
theorem dX1_goTo_150 : decode cX1_goTo 150 = .ok (.aload_n 0, 1) := by decide +kernel
theorem dX1_goTo_151 : decode cX1_goTo 151 = .ok (.iload_n 1, 1) := by decide +kernel
theorem dX1_goTo_152 : decode cX1_goTo 152 = .ok (.putfield 9, 3) := by decide +kernel
theorem dX1_goTo_155 : decode cX1_goTo 155 = .ok (.return_, 1) := by decide +kernel
theorem dX1_jump_0 : decode cX1_jump 0 = .ok (.iload_n 2, 1) := by decide +kernel
theorem dX1_jump_1 : decode cX1_jump 1 = .ok (.iload_n 1, 1) := by decide +kernel
theorem dX1_jump_2 : decode cX1_jump 2 = .ok (.isub, 1) := by decide +kernel
theorem dX1_jump_3 : decode cX1_jump 3 = .ok (.istore 5, 2) := by decide +kernel
theorem dX1_jump_5 : decode cX1_jump 5 = .ok (.iload 5, 2) := by decide +kernel
theorem dX1_jump_7 : decode cX1_jump 7 = .ok (.iload 4, 2) := by decide +kernel
theorem dX1_jump_9 : decode cX1_jump 9 = .ok (.imul, 1) := by decide +kernel
theorem dX1_jump_10 : decode cX1_jump 10 = .ok (.bipush 100, 2) := by decide +kernel
theorem dX1_jump_12 : decode cX1_jump 12 = .ok (.idiv, 1) := by decide +kernel
theorem dX1_jump_13 : decode cX1_jump 13 = .ok (.istore 6, 2) := by decide +kernel
theorem dX1_jump_15 : decode cX1_jump 15 = .ok (.iload 6, 2) := by decide +kernel
theorem dX1_jump_17 : decode cX1_jump 17 = .ok (.ifCond .ne 15, 3) := by decide +kernel
theorem dX1_jump_20 : decode cX1_jump 20 = .ok (.iload 5, 2) := by decide +kernel
theorem dX1_jump_22 : decode cX1_jump 22 = .ok (.ifCond .le 7, 3) := by decide +kernel
theorem dX1_jump_25 : decode cX1_jump 25 = .ok (.iconst 1, 1) := by decide +kernel
theorem dX1_jump_26 : decode cX1_jump 26 = .ok (.goto 4, 3) := by decide +kernel
theorem dX1_jump_29 : decode cX1_jump 29 = .ok (.iconst (-1), 1) := by decide +kernel
theorem dX1_jump_30 : decode cX1_jump 30 = .ok (.istore 6, 2) := by decide +kernel
theorem dX1_jump_32 : decode cX1_jump 32 = .ok (.iconst 0, 1) := by decide +kernel
theorem dX1_jump_33 : decode cX1_jump 33 = .ok (.bipush 29, 2) := by decide +kernel
theorem dX1_jump_35 : decode cX1_jump 35 = .ok (.iload_n 1, 1) := by decide +kernel
theorem dX1_jump_36 : decode cX1_jump 36 = .ok (.iload 6, 2) := by decide +kernel
theorem dX1_jump_38 : decode cX1_jump 38 = .ok (.iadd, 1) := by decide +kernel
theorem dX1_jump_39 : decode cX1_jump 39 = .ok (.invokestatic 39, 3) := by decide +kernel
theorem dX1_jump_42 : decode cX1_jump 42 = .ok (.invokestatic 45, 3) := by decide +kernel
theorem dX1_jump_45 : decode cX1_jump 45 = .ok (.istore 7, 2) := by decide +kernel
theorem dX1_jump_47 : decode cX1_jump 47 = .ok (.aload_n 3, 1) := by decide +kernel
theorem dX1_jump_48 : decode cX1_jump 48 = .ok (.getfield 83, 3) := by decide +kernel
theorem dX1_jump_51 : decode cX1_jump 51 = .ok (.iload 7, 2) := by decide +kernel
theorem dX1_jump_53 : decode cX1_jump 53 = .ok (.iload_n 1, 1) := by decide +kernel
theorem dX1_jump_54 : decode cX1_jump 54 = .ok (.isub, 1) := by decide +kernel
theorem dX1_jump_55 : decode cX1_jump 55 = .ok (.invokestatic 48, 3) := by decide +kernel
theorem dX1_jump_58 : decode cX1_jump 58 = .ok (.iadd, 1) := by decide +kernel
theorem dX1_jump_59 : decode cX1_jump 59 = .ok (.istore 8, 2) := by decide +kernel
theorem dX1_jump_61 : decode cX1_jump 61 = .ok (.aload_n 0, 1) := by decide +kernel
theorem dX1_jump_62 : decode cX1_jump 62 = .ok (.iload 8, 2) := by decide +kernel
theorem dX1_jump_64 : decode cX1_jump 64 = .ok (.aload_n 3, 1) := by decide +kernel
theorem dX1_jump_65 : decode cX1_jump 65 = .ok (.iload 7, 2) := by decide +kernel
theorem dX1_jump_67 : decode cX1_jump 67 = .ok (.invokevirtual 30, 3) := by decide +kernel
theorem dX1_jump_70 : decode cX1_jump 70 = .ok (.aload_n 3, 1) := by decide +kernel
theorem dX1_jump_71 : decode cX1_jump 71 = .ok (.invokevirtual 62, 3) := by decide +kernel
theorem dX1_jump_74 : decode cX1_jump 74 = .ok (.aload_n 0, 1) := by decide +kernel
theorem dX1_jump_75 : decode cX1_jump 75 = .ok (.aload_n 3, 1) := by decide +kernel
theorem dX1_jump_76 : decode cX1_jump 76 = .ok (.iload 7, 2) := by decide +kernel
theorem dX1_jump_78 : decode cX1_jump 78 = .ok (.invokevirtual 80, 3) := by decide +kernel
theorem dX1_jump_81 : decode cX1_jump 81 = .ok (.putfield 9, 3) := by decide +kernel
theorem dX1_jump_84 : decode cX1_jump 84 = .ok (.aload_n 0, 1) := by decide +kernel
theorem dX1_jump_85 : decode cX1_jump 85 = .ok (.dup, 1) := by decide +kernel
theorem dX1_jump_86 : decode cX1_jump 86 = .ok (.getfield 27, 3) := by decide +kernel
theorem dX1_jump_89 : decode cX1_jump 89 = .ok (.iconst 1, 1) := by decide +kernel
theorem dX1_jump_90 : decode cX1_jump 90 = .ok (.iadd, 1) := by decide +kernel
theorem dX1_jump_91 : decode cX1_jump 91 = .ok (.putfield 27, 3) := by decide +kernel
theorem dX1_jump_94 : decode cX1_jump 94 = .ok (.iload 7, 2) := by decide +kernel
theorem dX1_jump_96 : decode cX1_jump 96 = .ok (.ireturn, 1) := by decide +kernel
theorem dX2_init_0 : decode cX2_init 0 = .ok (.aload_n 0, 1) := by decide +kernel
theorem dX2_init_1 : decode cX2_init 1 = .ok (.invokespecial 1, 3) := by decide +kernel
theorem dX2_init_4 : decode cX2_init 4 = .ok (.aload_n 0, 1) := by decide +kernel
theorem dX2_init_5 : decode cX2_init 5 = .ok (.iconst 4, 1) := by decide +kernel
theorem dX2_init_6 : decode cX2_init 6 = .ok (.anewarray 9, 3) := by decide +kernel
theorem dX2_init_9 : decode cX2_init 9 = .ok (.putfield 11, 3) := by decide +kernel
theorem dX2_init_12 : decode cX2_init 12 = .ok (.aload_n 0, 1) := by decide +kernel
theorem dX2_init_13 : decode cX2_init 13 = .ok (.iconst 0, 1) := by decide +kernel
theorem dX2_init_14 : decode cX2_init 14 = .ok (.putfield 15, 3) := by decide +kernel
theorem dX2_init_17 : decode cX2_init 17 = .ok (.iconst 0, 1) := by decide +kernel
theorem dX2_init_18 : decode cX2_init 18 = .ok (.istore_n 1, 1) := by decide +kernel
theorem dX2_init_19 : decode cX2_init 19 = .ok (.iload_n 1, 1) := by decide +kernel
theorem dX2_init_20 : decode cX2_init 20 = .ok (.aload_n 0, 1) := by decide +kernel
theorem dX2_init_21 : decode cX2_init 21 = .ok (.getfield 11, 3) := by decide +kernel
theorem dX2_init_24 : decode cX2_init 24 = .ok (.arraylength, 1) := by decide +kernel
theorem dX2_init_25 : decode cX2_init 25 = .ok (.if_icmp .ge 22, 3) := by decide +kernel
theorem dX2_init_28 : decode cX2_init 28 = .ok (.aload_n 0, 1) := by decide +kernel
theorem dX2_init_29 : decode cX2_init 29 = .ok (.getfield 11, 3) := by decide +kernel
theorem dX2_init_32 : decode cX2_init 32 = .ok (.iload_n 1, 1) := by decide +kernel
theorem dX2_init_33 : decode cX2_init 33 = .ok (.new 9, 3) := by decide +kernel
theorem dX2_init_36 : decode cX2_init 36 = .ok (.dup, 1) := by decide +kernel
theorem dX2_init_37 : decode cX2_init 37 = .ok (.invokespecial 19, 3) := by decide +kernel
theorem dX2_init_40 : decode cX2_init 40 = .ok (.aastore, 1) := by decide +kernel
theorem dX2_init_41 : decode cX2_init 41 = .ok (.iinc 1 1, 3) := by decide +kernel
theorem dX2_init_44 : decode cX2_init 44 = .ok (.goto (-25), 3) := by decide +kernel
theorem dX2_init_47 : decode cX2_init 47 = .ok (.return_, 1) := by decide +kernel
theorem dX2_add_0 : decode cX2_add 0 = .ok (.aload_n 0, 1) := by decide +kernel
theorem dX2_add_1 : decode cX2_add 1 = .ok (.getfield 15, 3) := by decide +kernel
theorem dX2_add_4 : decode cX2_add 4 = .ok (.iconst 4, 1) := by decide +kernel
theorem dX2_add_5 : decode cX2_add 5 = .ok (.if_icmp .lt 7, 3) := by decide +kernel
theorem dX2_add_8 : decode cX2_add 8 = .ok (.aload_n 0, 1) := by decide +kernel
theorem dX2_add_9 : decode cX2_add 9 = .ok (.invokevirtual 20, 3) := by decide +kernel
theorem dX2_add_12 : decode cX2_add 12 = .ok (.aload_n 0, 1) := by decide +kernel
theorem dX2_add_13 : decode cX2_add 13 = .ok (.aload_n 0, 1) := by decide +kernel
theorem dX2_add_14 : decode cX2_add 14 = .ok (.getfield 15, 3) := by decide +kernel
theorem dX2_add_17 : decode cX2_add 17 = .ok (.invokevirtual 23, 3) := by decide +kernel
theorem dX2_add_20 : decode cX2_add 20 = .ok (.astore_n 2, 1) := by decide +kernel
theorem dX2_add_21 : decode cX2_add 21 = .ok (.aload_n 2, 1) := by decide +kernel
theorem dX2_add_22 : decode cX2_add 22 = .ok (.ifnull 18, 3) := by decide +kernel
theorem dX2_add_25 : decode cX2_add 25 = .ok (.aload_n 2, 1) := by decide +kernel
theorem dX2_add_26 : decode cX2_add 26 = .ok (.aload_n 1, 1) := by decide +kernel
theorem dX2_add_27 : decode cX2_add 27 = .ok (.invokevirtual 27, 3) := by decide +kernel
theorem dX2_add_30 : decode cX2_add 30 = .ok (.aload_n 0, 1) := by decide +kernel
theorem dX2_add_31 : decode cX2_add 31 = .ok (.dup, 1) := by decide +kernel
theorem dX2_add_32 : decode cX2_add 32 = .ok (.getfield 15, 3) := by decide +kernel
theorem dX2_add_35 : decode cX2_add 35 = .ok (.iconst 1, 1) := by decide +kernel
theorem dX2_add_36 : decode cX2_add 36 = .ok (.iadd, 1) := by decide +kernel
theorem dX2_add_37 : decode cX2_add 37 = .ok (.putfield 15, 3) := by decide +kernel
theorem dX2_add_40 : decode cX2_add 40 = .ok (.return_, 1) := by decide +kernel
theorem dX2_takeLatest_0 : decode cX2_takeLatest 0 = .ok (.aload_n 0, 1) := by decide +kernel
theorem dX2_takeLatest_1 : decode cX2_takeLatest 1 = .ok (.aload_n 0, 1) := by decide +kernel
theorem dX2_takeLatest_2 : decode cX2_takeLatest 2 = .ok (.getfield 15, 3) := by decide +kernel
theorem dX2_takeLatest_5 : decode cX2_takeLatest 5 = .ok (.iconst 1, 1) := by decide +kernel
theorem dX2_takeLatest_6 : decode cX2_takeLatest 6 = .ok (.isub, 1) := by decide +kernel
theorem dX2_takeLatest_7 : decode cX2_takeLatest 7 = .ok (.invokevirtual 23, 3) := by decide +kernel
theorem dX2_takeLatest_10 : decode cX2_takeLatest 10 = .ok (.astore_n 2, 1) := by decide +kernel
theorem dX2_takeLatest_11 : decode cX2_takeLatest 11 = .ok (.aload_n 2, 1) := by decide +kernel
theorem dX2_takeLatest_12 : decode cX2_takeLatest 12 = .ok (.ifnonnull 5, 3) := by decide +kernel
theorem dX2_takeLatest_15 : decode cX2_takeLatest 15 = .ok (.iconst 0, 1) := by decide +kernel
theorem dX2_takeLatest_16 : decode cX2_takeLatest 16 = .ok (.ireturn, 1) := by decide +kernel
theorem dX2_takeLatest_17 : decode cX2_takeLatest 17 = .ok (.aload_n 1, 1) := by decide +kernel
theorem dX2_takeLatest_18 : decode cX2_takeLatest 18 = .ok (.aload_n 2, 1) := by decide +kernel
theorem dX2_takeLatest_19 : decode cX2_takeLatest 19 = .ok (.invokevirtual 27, 3) := by decide +kernel
theorem dX2_takeLatest_22 : decode cX2_takeLatest 22 = .ok (.aload_n 0, 1) := by decide +kernel
theorem dX2_takeLatest_23 : decode cX2_takeLatest 23 = .ok (.dup, 1) := by decide +kernel
theorem dX2_takeLatest_24 : decode cX2_takeLatest 24 = .ok (.getfield 15, 3) := by decide +kernel
theorem dX2_takeLatest_27 : decode cX2_takeLatest 27 = .ok (.iconst 1, 1) := by decide +kernel
theorem dX2_takeLatest_28 : decode cX2_takeLatest 28 = .ok (.isub, 1) := by decide +kernel
theorem dX2_takeLatest_29 : decode cX2_takeLatest 29 = .ok (.putfield 15, 3) := by decide +kernel
theorem dX2_takeLatest_32 : decode cX2_takeLatest 32 = .ok (.iconst 1, 1) := by decide +kernel
theorem dX2_takeLatest_33 : decode cX2_takeLatest 33 = .ok (.ireturn, 1) := by decide +kernel
theorem dX2_dropOldest_0 : decode cX2_dropOldest 0 = .ok (.aload_n 0, 1) := by decide +kernel
theorem dX2_dropOldest_1 : decode cX2_dropOldest 1 = .ok (.iconst 0, 1) := by decide +kernel
theorem dX2_dropOldest_2 : decode cX2_dropOldest 2 = .ok (.invokevirtual 23, 3) := by decide +kernel
theorem dX2_dropOldest_5 : decode cX2_dropOldest 5 = .ok (.astore_n 1, 1) := by decide +kernel
theorem dX2_dropOldest_6 : decode cX2_dropOldest 6 = .ok (.iconst 1, 1) := by decide +kernel
theorem dX2_dropOldest_7 : decode cX2_dropOldest 7 = .ok (.istore_n 2, 1) := by decide +kernel
theorem dX2_dropOldest_8 : decode cX2_dropOldest 8 = .ok (.iload_n 2, 1) := by decide +kernel
theorem dX2_dropOldest_9 : decode cX2_dropOldest 9 = .ok (.aload_n 0, 1) := by decide +kernel
theorem dX2_dropOldest_10 : decode cX2_dropOldest 10 = .ok (.getfield 11, 3) := by decide +kernel
theorem dX2_dropOldest_13 : decode cX2_dropOldest 13 = .ok (.arraylength, 1) := by decide +kernel
theorem dX2_dropOldest_14 : decode cX2_dropOldest 14 = .ok (.if_icmp .ge 23, 3) := by decide +kernel
theorem dX2_dropOldest_17 : decode cX2_dropOldest 17 = .ok (.aload_n 0, 1) := by decide +kernel
theorem dX2_dropOldest_18 : decode cX2_dropOldest 18 = .ok (.getfield 11, 3) := by decide +kernel
theorem dX2_dropOldest_21 : decode cX2_dropOldest 21 = .ok (.iload_n 2, 1) := by decide +kernel
theorem dX2_dropOldest_22 : decode cX2_dropOldest 22 = .ok (.iconst 1, 1) := by decide +kernel
theorem dX2_dropOldest_23 : decode cX2_dropOldest 23 = .ok (.isub, 1) := by decide +kernel
theorem dX2_dropOldest_24 : decode cX2_dropOldest 24 = .ok (.aload_n 0, 1) := by decide +kernel
theorem dX2_dropOldest_25 : decode cX2_dropOldest 25 = .ok (.getfield 11, 3) := by decide +kernel
theorem dX2_dropOldest_28 : decode cX2_dropOldest 28 = .ok (.iload_n 2, 1) := by decide +kernel
theorem dX2_dropOldest_29 : decode cX2_dropOldest 29 = .ok (.aaload, 1) := by decide +kernel
theorem dX2_dropOldest_30 : decode cX2_dropOldest 30 = .ok (.aastore, 1) := by decide +kernel
theorem dX2_dropOldest_31 : decode cX2_dropOldest 31 = .ok (.iinc 2 1, 3) := by decide +kernel
theorem dX2_dropOldest_34 : decode cX2_dropOldest 34 = .ok (.goto (-26), 3) := by decide +kernel
theorem dX2_dropOldest_37 : decode cX2_dropOldest 37 = .ok (.aload_n 0, 1) := by decide +kernel
theorem dX2_dropOldest_38 : decode cX2_dropOldest 38 = .ok (.getfield 11, 3) := by decide +kernel
theorem dX2_dropOldest_41 : decode cX2_dropOldest 41 = .ok (.arraylength, 1) := by decide +kernel
theorem dX2_dropOldest_42 : decode cX2_dropOldest 42 = .ok (.ifCond .le 16, 3) := by decide +kernel
theorem dX2_dropOldest_45 : decode cX2_dropOldest 45 = .ok (.aload_n 0, 1) := by decide +kernel
theorem dX2_dropOldest_46 : decode cX2_dropOldest 46 = .ok (.getfield 11, 3) := by decide +kernel
theorem dX2_dropOldest_49 : decode cX2_dropOldest 49 = .ok (.aload_n 0, 1) := by decide +kernel
theorem dX2_dropOldest_50 : decode cX2_dropOldest 50 = .ok (.getfield 11, 3) := by decide +kernel
theorem dX2_dropOldest_53 : decode cX2_dropOldest 53 = .ok (.arraylength, 1) := by decide +kernel
theorem dX2_dropOldest_54 : decode cX2_dropOldest 54 = .ok (.iconst 1, 1) := by decide +kernel
theorem dX2_dropOldest_55 : decode cX2_dropOldest 55 = .ok (.isub, 1) := by decide +kernel
theorem dX2_dropOldest_56 : decode cX2_dropOldest 56 = .ok (.aload_n 1, 1) := by decide +kernel
theorem dX2_dropOldest_57 : decode cX2_dropOldest 57 = .ok (.aastore, 1) := by decide +kernel
theorem dX2_dropOldest_58 : decode cX2_dropOldest 58 = .ok (.aload_n 0, 1) := by decide +kernel
theorem dX2_dropOldest_59 : decode cX2_dropOldest 59 = .ok (.dup, 1) := by decide +kernel
theorem dX2_dropOldest_60 : decode cX2_dropOldest 60 = .ok (.getfield 15, 3) := by decide +kernel
theorem dX2_dropOldest_63 : decode cX2_dropOldest 63 = .ok (.iconst 1, 1) := by decide +kernel
theorem dX2_dropOldest_64 : decode cX2_dropOldest 64 = .ok (.isub, 1) := by decide +kernel
theorem dX2_dropOldest_65 : decode cX2_dropOldest 65 = .ok (.putfield 15, 3) := by decide +kernel
theorem dX2_dropOldest_68 : decode cX2_dropOldest 68 = .ok (.return_, 1) := by decide +kernel
theorem dX2_stateAt_0 : decode cX2_stateAt 0 = .ok (.iload_n 1, 1) := by decide +kernel
theorem dX2_stateAt_1 : decode cX2_stateAt 1 = .ok (.ifCond .lt 21, 3) := by decide +kernel
theorem dX2_stateAt_4 : decode cX2_stateAt 4 = .ok (.iload_n 1, 1) := by decide +kernel
theorem dX2_stateAt_5 : decode cX2_stateAt 5 = .ok (.aload_n 0, 1) := by decide +kernel
theorem dX2_stateAt_6 : decode cX2_stateAt 6 = .ok (.getfield 11, 3) := by decide +kernel
theorem dX2_stateAt_9 : decode cX2_stateAt 9 = .ok (.arraylength, 1) := by decide +kernel
theorem dX2_stateAt_10 : decode cX2_stateAt 10 = .ok (.if_icmp .ge 12, 3) := by decide +kernel
theorem dX2_stateAt_13 : decode cX2_stateAt 13 = .ok (.aload_n 0, 1) := by decide +kernel
theorem dX2_stateAt_14 : decode cX2_stateAt 14 = .ok (.getfield 11, 3) := by decide +kernel
theorem dX2_stateAt_17 : decode cX2_stateAt 17 = .ok (.iload_n 1, 1) := by decide +kernel
theorem dX2_stateAt_18 : decode cX2_stateAt 18 = .ok (.aaload, 1) := by decide +kernel
theorem dX2_stateAt_19 : decode cX2_stateAt 19 = .ok (.goto 4, 3) := by decide +kernel
theorem dX2_stateAt_22 : decode cX2_stateAt 22 = .ok (.aconst_null, 1) := by decide +kernel
theorem dX2_stateAt_23 : decode cX2_stateAt 23 = .ok (.areturn, 1) := by decide +kernel
theorem dX3_init_0 : decode cX3_init 0 = .ok (.aload_n 0, 1) := by decide +kernel
theorem dX3_init_1 : decode cX3_init 1 = .ok (.invokespecial 3, 3) := by decide +kernel
theorem dX3_init_4 : decode cX3_init 4 = .ok (.aload_n 0, 1) := by decide +kernel
theorem dX3_init_5 : decode cX3_init 5 = .ok (.bipush 60, 2) := by decide +kernel
theorem dX3_init_7 : decode cX3_init 7 = .ok (.newarray .char, 2) := by decide +kernel
theorem dX3_init_9 : decode cX3_init 9 = .ok (.putfield 11, 3) := by decide +kernel
theorem dX3_init_12 : decode cX3_init 12 = .ok (.aload_n 0, 1) := by decide +kernel
theorem dX3_init_13 : decode cX3_init 13 = .ok (.iconst 0, 1) := by decide +kernel
theorem dX3_init_14 : decode cX3_init 14 = .ok (.putfield 15, 3) := by decide +kernel
theorem dX3_init_17 : decode cX3_init 17 = .ok (.aload_n 0, 1) := by decide +kernel
theorem dX3_init_18 : decode cX3_init 18 = .ok (.bipush 10, 2) := by decide +kernel
theorem dX3_init_20 : decode cX3_init 20 = .ok (.anewarray 19, 3) := by decide +kernel
theorem dX3_init_23 : decode cX3_init 23 = .ok (.putfield 21, 3) := by decide +kernel
theorem dX3_init_26 : decode cX3_init 26 = .ok (.aload_n 0, 1) := by decide +kernel
theorem dX3_init_27 : decode cX3_init 27 = .ok (.bipush 40, 2) := by decide +kernel
theorem dX3_init_29 : decode cX3_init 29 = .ok (.newarray .int, 2) := by decide +kernel
theorem dX3_init_31 : decode cX3_init 31 = .ok (.putfield 25, 3) := by decide +kernel
theorem dX3_init_34 : decode cX3_init 34 = .ok (.aload_n 0, 1) := by decide +kernel
theorem dX3_init_35 : decode cX3_init 35 = .ok (.iconst 0, 1) := by decide +kernel
theorem dX3_init_36 : decode cX3_init 36 = .ok (.putfield 29, 3) := by decide +kernel
theorem dX3_init_39 : decode cX3_init 39 = .ok (.aload_n 0, 1) := by decide +kernel
theorem dX3_init_40 : decode cX3_init 40 = .ok (.iconst 0, 1) := by decide +kernel
theorem dX3_init_41 : decode cX3_init 41 = .ok (.putfield 32, 3) := by decide +kernel
theorem dX3_init_44 : decode cX3_init 44 = .ok (.return_, 1) := by decide +kernel
theorem dX4_init_0 : decode cX4_init 0 = .ok (.aload_n 0, 1) := by decide +kernel
theorem dX4_init_1 : decode cX4_init 1 = .ok (.invokespecial 1, 3) := by decide +kernel
theorem dX4_init_4 : decode cX4_init 4 = .ok (.aload_n 0, 1) := by decide +kernel
theorem dX4_init_5 : decode cX4_init 5 = .ok (.bipush 32, 2) := by decide +kernel
theorem dX4_init_7 : decode cX4_init 7 = .ok (.newarray .int, 2) := by decide +kernel
theorem dX4_init_9 : decode cX4_init 9 = .ok (.putfield 9, 3) := by decide +kernel
theorem dX4_init_12 : decode cX4_init 12 = .ok (.aload_n 0, 1) := by decide +kernel
theorem dX4_init_13 : decode cX4_init 13 = .ok (.iconst 0, 1) := by decide +kernel
theorem dX4_init_14 : decode cX4_init 14 = .ok (.putfield 13, 3) := by decide +kernel
theorem dX4_init_17 : decode cX4_init 17 = .ok (.return_, 1) := by decide +kernel
theorem dX4_add_0 : decode cX4_add 0 = .ok (.aload_n 0, 1) := by decide +kernel
theorem dX4_add_1 : decode cX4_add 1 = .ok (.getfield 13, 3) := by decide +kernel
theorem dX4_add_4 : decode cX4_add 4 = .ok (.bipush 8, 2) := by decide +kernel
theorem dX4_add_6 : decode cX4_add 6 = .ok (.if_icmp .lt 5, 3) := by decide +kernel
theorem dX4_add_9 : decode cX4_add 9 = .ok (.iconst 0, 1) := by decide +kernel
theorem dX4_add_10 : decode cX4_add 10 = .ok (.ireturn, 1) := by decide +kernel
theorem dX4_add_11 : decode cX4_add 11 = .ok (.aload_n 0, 1) := by decide +kernel
theorem dX4_add_12 : decode cX4_add 12 = .ok (.getfield 9, 3) := by decide +kernel
theorem dX4_add_15 : decode cX4_add 15 = .ok (.aload_n 0, 1) := by decide +kernel
theorem dX4_add_16 : decode cX4_add 16 = .ok (.getfield 13, 3) := by decide +kernel
theorem dX4_add_19 : decode cX4_add 19 = .ok (.iconst 4, 1) := by decide +kernel
theorem dX4_add_20 : decode cX4_add 20 = .ok (.imul, 1) := by decide +kernel
theorem dX4_add_21 : decode cX4_add 21 = .ok (.iload_n 1, 1) := by decide +kernel
theorem dX4_add_22 : decode cX4_add 22 = .ok (.invokestatic 17, 3) := by decide +kernel
theorem dX4_add_25 : decode cX4_add 25 = .ok (.aload_n 0, 1) := by decide +kernel
theorem dX4_add_26 : decode cX4_add 26 = .ok (.getfield 9, 3) := by decide +kernel
theorem dX4_add_29 : decode cX4_add 29 = .ok (.aload_n 0, 1) := by decide +kernel
theorem dX4_add_30 : decode cX4_add 30 = .ok (.getfield 13, 3) := by decide +kernel
theorem dX4_add_33 : decode cX4_add 33 = .ok (.iconst 4, 1) := by decide +kernel
theorem dX4_add_34 : decode cX4_add 34 = .ok (.imul, 1) := by decide +kernel
theorem dX4_add_35 : decode cX4_add 35 = .ok (.iconst 1, 1) := by decide +kernel
theorem dX4_add_36 : decode cX4_add 36 = .ok (.iadd, 1) := by decide +kernel
theorem dX4_add_37 : decode cX4_add 37 = .ok (.iload_n 2, 1) := by decide +kernel
theorem dX4_add_38 : decode cX4_add 38 = .ok (.invokestatic 17, 3) := by decide +kernel
theorem dX4_add_41 : decode cX4_add 41 = .ok (.aload_n 0, 1) := by decide +kernel
theorem dX4_add_42 : decode cX4_add 42 = .ok (.getfield 9, 3) := by decide +kernel
theorem dX4_add_45 : decode cX4_add 45 = .ok (.aload_n 0, 1) := by decide +kernel
theorem dX4_add_46 : decode cX4_add 46 = .ok (.getfield 13, 3) := by decide +kernel
theorem dX4_add_49 : decode cX4_add 49 = .ok (.iconst 4, 1) := by decide +kernel
theorem dX4_add_50 : decode cX4_add 50 = .ok (.imul, 1) := by decide +kernel
theorem dX4_add_51 : decode cX4_add 51 = .ok (.iconst 2, 1) := by decide +kernel
theorem dX4_add_52 : decode cX4_add 52 = .ok (.iadd, 1) := by decide +kernel
theorem dX4_add_53 : decode cX4_add 53 = .ok (.iload_n 3, 1) := by decide +kernel
theorem dX4_add_54 : decode cX4_add 54 = .ok (.invokestatic 17, 3) := by decide +kernel
theorem dX4_add_57 : decode cX4_add 57 = .ok (.aload_n 0, 1) := by decide +kernel
theorem dX4_add_58 : decode cX4_add 58 = .ok (.getfield 9, 3) := by decide +kernel
theorem dX4_add_61 : decode cX4_add 61 = .ok (.aload_n 0, 1) := by decide +kernel
theorem dX4_add_62 : decode cX4_add 62 = .ok (.getfield 13, 3) := by decide +kernel
theorem dX4_add_65 : decode cX4_add 65 = .ok (.iconst 4, 1) := by decide +kernel
theorem dX4_add_66 : decode cX4_add 66 = .ok (.imul, 1) := by decide +kernel
theorem dX4_add_67 : decode cX4_add 67 = .ok (.iconst 3, 1) := by decide +kernel
theorem dX4_add_68 : decode cX4_add 68 = .ok (.iadd, 1) := by decide +kernel
theorem dX4_add_69 : decode cX4_add 69 = .ok (.iload 4, 2) := by decide +kernel
theorem dX4_add_71 : decode cX4_add 71 = .ok (.invokestatic 17, 3) := by decide +kernel
theorem dX4_add_74 : decode cX4_add 74 = .ok (.aload_n 0, 1) := by decide +kernel
theorem dX4_add_75 : decode cX4_add 75 = .ok (.dup, 1) := by decide +kernel
theorem dX4_add_76 : decode cX4_add 76 = .ok (.getfield 13, 3) := by decide +kernel
theorem dX4_add_79 : decode cX4_add 79 = .ok (.iconst 1, 1) := by decide +kernel
theorem dX4_add_80 : decode cX4_add 80 = .ok (.iadd, 1) := by decide +kernel
theorem dX4_add_81 : decode cX4_add 81 = .ok (.putfield 13, 3) := by decide +kernel
theorem dX4_add_84 : decode cX4_add 84 = .ok (.iconst 1, 1) := by decide +kernel
theorem dX4_add_85 : decode cX4_add 85 = .ok (.ireturn, 1) := by decide +kernel
theorem dX4_drop_0 : decode cX4_drop 0 = .ok (.aload_n 0, 1) := by decide +kernel
theorem dX4_drop_1 : decode cX4_drop 1 = .ok (.iload_n 1, 1) := by decide +kernel
theorem dX4_drop_2 : decode cX4_drop 2 = .ok (.invokevirtual 23, 3) := by decide +kernel
theorem dX4_drop_5 : decode cX4_drop 5 = .ok (.ifCond .ne 4, 3) := by decide +kernel
theorem dX4_drop_8 : decode cX4_drop 8 = .ok (.return_, 1) := by decide +kernel
theorem dX4_drop_9 : decode cX4_drop 9 = .ok (.iload_n 1, 1) := by decide +kernel
theorem dX4_drop_10 : decode cX4_drop 10 = .ok (.iconst 4, 1) := by decide +kernel
theorem dX4_drop_11 : decode cX4_drop 11 = .ok (.imul, 1) := by decide +kernel
theorem dX4_drop_12 : decode cX4_drop 12 = .ok (.istore_n 2, 1) := by decide +kernel
theorem dX4_drop_13 : decode cX4_drop 13 = .ok (.iload_n 2, 1) := by decide +kernel
theorem dX4_drop_14 : decode cX4_drop 14 = .ok (.aload_n 0, 1) := by decide +kernel
theorem dX4_drop_15 : decode cX4_drop 15 = .ok (.getfield 9, 3) := by decide +kernel
theorem dX4_drop_18 : decode cX4_drop 18 = .ok (.arraylength, 1) := by decide +kernel
theorem dX4_drop_19 : decode cX4_drop 19 = .ok (.iconst 4, 1) := by decide +kernel
theorem dX4_drop_20 : decode cX4_drop 20 = .ok (.isub, 1) := by decide +kernel
theorem dX4_drop_21 : decode cX4_drop 21 = .ok (.if_icmp .ge 27, 3) := by decide +kernel
theorem dX4_drop_24 : decode cX4_drop 24 = .ok (.aload_n 0, 1) := by decide +kernel
theorem dX4_drop_25 : decode cX4_drop 25 = .ok (.getfield 9, 3) := by decide +kernel
theorem dX4_drop_28 : decode cX4_drop 28 = .ok (.iload_n 2, 1) := by decide +kernel
theorem dX4_drop_29 : decode cX4_drop 29 = .ok (.aload_n 0, 1) := by decide +kernel
theorem dX4_drop_30 : decode cX4_drop 30 = .ok (.getfield 9, 3) := by decide +kernel
theorem dX4_drop_33 : decode cX4_drop 33 = .ok (.iload_n 2, 1) := by decide +kernel
theorem dX4_drop_34 : decode cX4_drop 34 = .ok (.iconst 4, 1) := by decide +kernel
theorem dX4_drop_35 : decode cX4_drop 35 = .ok (.iadd, 1) := by decide +kernel
theorem dX4_drop_36 : decode cX4_drop 36 = .ok (.invokestatic 27, 3) := by decide +kernel
theorem dX4_drop_39 : decode cX4_drop 39 = .ok (.invokestatic 17, 3) := by decide +kernel
theorem dX4_drop_42 : decode cX4_drop 42 = .ok (.iinc 2 1, 3) := by decide +kernel
theorem dX4_drop_45 : decode cX4_drop 45 = .ok (.goto (-32), 3) := by decide +kernel
theorem dX4_drop_48 : decode cX4_drop 48 = .ok (.aload_n 0, 1) := by decide +kernel
theorem dX4_drop_49 : decode cX4_drop 49 = .ok (.dup, 1) := by decide +kernel
theorem dX4_drop_50 : decode cX4_drop 50 = .ok (.getfield 13, 3) := by decide +kernel
theorem dX4_drop_53 : decode cX4_drop 53 = .ok (.iconst 1, 1) := by decide +kernel
theorem dX4_drop_54 : decode cX4_drop 54 = .ok (.isub, 1) := by decide +kernel
theorem dX4_drop_55 : decode cX4_drop 55 = .ok (.putfield 13, 3) := by decide +kernel
theorem dX4_drop_58 : decode cX4_drop 58 = .ok (.return_, 1) := by decide +kernel
theorem dX4_has_0 : decode cX4_has 0 = .ok (.iload_n 1, 1) := by decide +kernel
theorem dX4_has_1 : decode cX4_has 1 = .ok (.ifCond .lt 15, 3) := by decide +kernel
theorem dX4_has_4 : decode cX4_has 4 = .ok (.iload_n 1, 1) := by decide +kernel
theorem dX4_has_5 : decode cX4_has 5 = .ok (.aload_n 0, 1) := by decide +kernel
theorem dX4_has_6 : decode cX4_has 6 = .ok (.getfield 13, 3) := by decide +kernel
theorem dX4_has_9 : decode cX4_has 9 = .ok (.if_icmp .ge 7, 3) := by decide +kernel
theorem dX4_has_12 : decode cX4_has 12 = .ok (.iconst 1, 1) := by decide +kernel
theorem dX4_has_13 : decode cX4_has 13 = .ok (.goto 4, 3) := by decide +kernel
theorem dX4_has_16 : decode cX4_has 16 = .ok (.iconst 0, 1) := by decide +kernel
theorem dX4_has_17 : decode cX4_has 17 = .ok (.ireturn, 1) := by decide +kernel
theorem dX4_fromOf_0 : decode cX4_fromOf 0 = .ok (.aload_n 0, 1) := by decide +kernel
theorem dX4_fromOf_1 : decode cX4_fromOf 1 = .ok (.getfield 9, 3) := by decide +kernel
theorem dX4_fromOf_4 : decode cX4_fromOf 4 = .ok (.iload_n 1, 1) := by decide +kernel
theorem dX4_fromOf_5 : decode cX4_fromOf 5 = .ok (.iconst 4, 1) := by decide +kernel
theorem dX4_fromOf_6 : decode cX4_fromOf 6 = .ok (.imul, 1) := by decide +kernel
theorem dX4_fromOf_7 : decode cX4_fromOf 7 = .ok (.invokestatic 27, 3) := by decide +kernel
theorem dX4_fromOf_10 : decode cX4_fromOf 10 = .ok (.ireturn, 1) := by decide +kernel
theorem dX4_toOf_0 : decode cX4_toOf 0 = .ok (.aload_n 0, 1) := by decide +kernel
theorem dX4_toOf_1 : decode cX4_toOf 1 = .ok (.getfield 9, 3) := by decide +kernel
theorem dX4_toOf_4 : decode cX4_toOf 4 = .ok (.iload_n 1, 1) := by decide +kernel
theorem dX4_toOf_5 : decode cX4_toOf 5 = .ok (.iconst 4, 1) := by decide +kernel
theorem dX4_toOf_6 : decode cX4_toOf 6 = .ok (.imul, 1) := by decide +kernel
theorem dX4_toOf_7 : decode cX4_toOf 7 = .ok (.iconst 1, 1) := by decide +kernel
theorem dX4_toOf_8 : decode cX4_toOf 8 = .ok (.iadd, 1) := by decide +kernel
theorem dX4_toOf_9 : decode cX4_toOf 9 = .ok (.invokestatic 27, 3) := by decide +kernel
theorem dX4_toOf_12 : decode cX4_toOf 12 = .ok (.ireturn, 1) := by decide +kernel
theorem dX4_innerOf_0 : decode cX4_innerOf 0 = .ok (.aload_n 0, 1) := by decide +kernel
theorem dX4_innerOf_1 : decode cX4_innerOf 1 = .ok (.getfield 9, 3) := by decide +kernel
theorem dX4_innerOf_4 : decode cX4_innerOf 4 = .ok (.iload_n 1, 1) := by decide +kernel
theorem dX4_innerOf_5 : decode cX4_innerOf 5 = .ok (.iconst 4, 1) := by decide +kernel
theorem dX4_innerOf_6 : decode cX4_innerOf 6 = .ok (.imul, 1) := by decide +kernel
theorem dX4_innerOf_7 : decode cX4_innerOf 7 = .ok (.iconst 2, 1) := by decide +kernel
theorem dX4_innerOf_8 : decode cX4_innerOf 8 = .ok (.iadd, 1) := by decide +kernel
theorem dX4_innerOf_9 : decode cX4_innerOf 9 = .ok (.invokestatic 27, 3) := by decide +kernel
theorem dX4_innerOf_12 : decode cX4_innerOf 12 = .ok (.ireturn, 1) := by decide +kernel
theorem dX4_outerOf_0 : decode cX4_outerOf 0 = .ok (.aload_n 0, 1) := by decide +kernel
theorem dX4_outerOf_1 : decode cX4_outerOf 1 = .ok (.getfield 9, 3) := by decide +kernel
theorem dX4_outerOf_4 : decode cX4_outerOf 4 = .ok (.iload_n 1, 1) := by decide +kernel
theorem dX4_outerOf_5 : decode cX4_outerOf 5 = .ok (.iconst 4, 1) := by decide +kernel
theorem dX4_outerOf_6 : decode cX4_outerOf 6 = .ok (.imul, 1) := by decide +kernel
theorem dX4_outerOf_7 : decode cX4_outerOf 7 = .ok (.iconst 3, 1) := by decide +kernel
theorem dX4_outerOf_8 : decode cX4_outerOf 8 = .ok (.iadd, 1) := by decide +kernel
theorem dX4_outerOf_9 : decode cX4_outerOf 9 = .ok (.invokestatic 27, 3) := by decide +kernel
theorem dX4_outerOf_12 : decode cX4_outerOf 12 = .ok (.ireturn, 1) := by decide +kernel
theorem dX4_copyFrom_0 : decode cX4_copyFrom 0 = .ok (.aload_n 1, 1) := by decide +kernel
theorem dX4_copyFrom_1 : decode cX4_copyFrom 1 = .ok (.getfield 9, 3) := by decide +kernel
theorem dX4_copyFrom_4 : decode cX4_copyFrom 4 = .ok (.iconst 0, 1) := by decide +kernel
theorem dX4_copyFrom_5 : decode cX4_copyFrom 5 = .ok (.aload_n 0, 1) := by decide +kernel
theorem dX4_copyFrom_6 : decode cX4_copyFrom 6 = .ok (.getfield 9, 3) := by decide +kernel
theorem dX4_copyFrom_9 : decode cX4_copyFrom 9 = .ok (.iconst 0, 1) := by decide +kernel
theorem dX4_copyFrom_10 : decode cX4_copyFrom 10 = .ok (.bipush 32, 2) := by decide +kernel
theorem dX4_copyFrom_12 : decode cX4_copyFrom 12 = .ok (.invokestatic 31, 3) := by decide +kernel
theorem dX4_copyFrom_15 : decode cX4_copyFrom 15 = .ok (.aload_n 0, 1) := by decide +kernel
theorem dX4_copyFrom_16 : decode cX4_copyFrom 16 = .ok (.aload_n 1, 1) := by decide +kernel
theorem dX4_copyFrom_17 : decode cX4_copyFrom 17 = .ok (.getfield 13, 3) := by decide +kernel
theorem dX4_copyFrom_20 : decode cX4_copyFrom 20 = .ok (.putfield 13, 3) := by decide +kernel
theorem dX4_copyFrom_23 : decode cX4_copyFrom 23 = .ok (.return_, 1) := by decide +kernel
theorem dX4_isLike_0 : decode cX4_isLike 0 = .ok (.aload_n 0, 1) := by decide +kernel
theorem dX4_isLike_1 : decode cX4_isLike 1 = .ok (.getfield 13, 3) := by decide +kernel
theorem dX4_isLike_4 : decode cX4_isLike 4 = .ok (.aload_n 1, 1) := by decide +kernel
theorem dX4_isLike_5 : decode cX4_isLike 5 = .ok (.getfield 13, 3) := by decide +kernel
theorem dX4_isLike_8 : decode cX4_isLike 8 = .ok (.if_icmp .ne 7, 3) := by decide +kernel
theorem dX4_isLike_11 : decode cX4_isLike 11 = .ok (.iconst 1, 1) := by decide +kernel
theorem dX4_isLike_12 : decode cX4_isLike 12 = .ok (.goto 4, 3) := by decide +kernel
theorem dX4_isLike_15 : decode cX4_isLike 15 = .ok (.iconst 0, 1) := by decide +kernel
theorem dX4_isLike_16 : decode cX4_isLike 16 = .ok (.istore_n 2, 1) := by decide +kernel
theorem dX4_isLike_17 : decode cX4_isLike 17 = .ok (.iconst 0, 1) := by decide +kernel
theorem dX4_isLike_18 : decode cX4_isLike 18 = .ok (.istore_n 3, 1) := by decide +kernel
theorem dX4_isLike_19 : decode cX4_isLike 19 = .ok (.iload_n 2, 1) := by decide +kernel
theorem dX4_isLike_20 : decode cX4_isLike 20 = .ok (.ifCond .eq 44, 3) := by decide +kernel
theorem dX4_isLike_23 : decode cX4_isLike 23 = .ok (.iload_n 3, 1) := by decide +kernel
theorem dX4_isLike_24 : decode cX4_isLike 24 = .ok (.aload_n 0, 1) := by decide +kernel
theorem dX4_isLike_25 : decode cX4_isLike 25 = .ok (.getfield 13, 3) := by decide +kernel
theorem dX4_isLike_28 : decode cX4_isLike 28 = .ok (.iconst 4, 1) := by decide +kernel
theorem dX4_isLike_29 : decode cX4_isLike 29 = .ok (.imul, 1) := by decide +kernel
theorem dX4_isLike_30 : decode cX4_isLike 30 = .ok (.if_icmp .ge 34, 3) := by decide +kernel
theorem dX4_isLike_33 : decode cX4_isLike 33 = .ok (.aload_n 0, 1) := by decide +kernel
theorem dX4_isLike_34 : decode cX4_isLike 34 = .ok (.getfield 9, 3) := by decide +kernel
theorem dX4_isLike_37 : decode cX4_isLike 37 = .ok (.iload_n 3, 1) := by decide +kernel
theorem dX4_isLike_38 : decode cX4_isLike 38 = .ok (.invokestatic 27, 3) := by decide +kernel
theorem dX4_isLike_41 : decode cX4_isLike 41 = .ok (.aload_n 1, 1) := by decide +kernel
theorem dX4_isLike_42 : decode cX4_isLike 42 = .ok (.getfield 9, 3) := by decide +kernel
theorem dX4_isLike_45 : decode cX4_isLike 45 = .ok (.iload_n 3, 1) := by decide +kernel
theorem dX4_isLike_46 : decode cX4_isLike 46 = .ok (.invokestatic 27, 3) := by decide +kernel
theorem dX4_isLike_49 : decode cX4_isLike 49 = .ok (.if_icmp .ne 7, 3) := by decide +kernel
theorem dX4_isLike_52 : decode cX4_isLike 52 = .ok (.iconst 1, 1) := by decide +kernel
theorem dX4_isLike_53 : decode cX4_isLike 53 = .ok (.goto 4, 3) := by decide +kernel
theorem dX4_isLike_56 : decode cX4_isLike 56 = .ok (.iconst 0, 1) := by decide +kernel
theorem dX4_isLike_57 : decode cX4_isLike 57 = .ok (.istore_n 2, 1) := by decide +kernel
theorem dX4_isLike_58 : decode cX4_isLike 58 = .ok (.iinc 3 1, 3) := by decide +kernel
theorem dX4_isLike_61 : decode cX4_isLike 61 = .ok (.goto (-42), 3) := by decide +kernel
theorem dX4_isLike_64 : decode cX4_isLike 64 = .ok (.iload_n 2, 1) := by decide +kernel
theorem dX4_isLike_65 : decode cX4_isLike 65 = .ok (.ireturn, 1) := by decide +kernel
theorem dX5_init_0 : decode cX5_init 0 = .ok (.aload_n 0, 1) := by decide +kernel
theorem dX5_init_1 : decode cX5_init 1 = .ok (.invokespecial 3, 3) := by decide +kernel
theorem dX5_init_4 : decode cX5_init 4 = .ok (.aload_n 0, 1) := by decide +kernel
theorem dX5_init_5 : decode cX5_init 5 = .ok (.bipush 20, 2) := by decide +kernel
theorem dX5_init_7 : decode cX5_init 7 = .ok (.putfield 9, 3) := by decide +kernel
theorem dX5_init_10 : decode cX5_init 10 = .ok (.aload_n 0, 1) := by decide +kernel
theorem dX5_init_11 : decode cX5_init 11 = .ok (.iconst 2, 1) := by decide +kernel
theorem dX5_init_12 : decode cX5_init 12 = .ok (.putfield 15, 3) := by decide +kernel
theorem dX5_init_15 : decode cX5_init 15 = .ok (.aload_n 0, 1) := by decide +kernel
theorem dX5_init_16 : decode cX5_init 16 = .ok (.iconst 3, 1) := by decide +kernel
theorem dX5_init_17 : decode cX5_init 17 = .ok (.putfield 18, 3) := by decide +kernel
theorem dX5_init_20 : decode cX5_init 20 = .ok (.aload_n 0, 1) := by decide +kernel
theorem dX5_init_21 : decode cX5_init 21 = .ok (.iconst 1, 1) := by decide +kernel
theorem dX5_init_22 : decode cX5_init 22 = .ok (.putfield 21, 3) := by decide +kernel
theorem dX5_init_25 : decode cX5_init 25 = .ok (.aload_n 0, 1) := by decide +kernel
theorem dX5_init_26 : decode cX5_init 26 = .ok (.bipush 90, 2) := by decide +kernel
theorem dX5_init_28 : decode cX5_init 28 = .ok (.putfield 24, 3) := by decide +kernel
theorem dX5_init_31 : decode cX5_init 31 = .ok (.aload_n 0, 1) := by decide +kernel
theorem dX5_init_32 : decode cX5_init 32 = .ok (.iconst 4, 1) := by decide +kernel
theorem dX5_init_33 : decode cX5_init 33 = .ok (.putfield 27, 3) := by decide +kernel
theorem dX5_init_36 : decode cX5_init 36 = .ok (.return_, 1) := by decide +kernel
theorem dX5_isSetting_0 : decode cX5_isSetting 0 = .ok (.iload_n 0, 1) := by decide +kernel
theorem dX5_isSetting_1 : decode cX5_isSetting 1 = .ok (.ifCond .lt 12, 3) := by decide +kernel
theorem dX5_isSetting_4 : decode cX5_isSetting 4 = .ok (.iload_n 0, 1) := by decide +kernel
theorem dX5_isSetting_5 : decode cX5_isSetting 5 = .ok (.iconst 5, 1) := by decide +kernel
theorem dX5_isSetting_6 : decode cX5_isSetting 6 = .ok (.if_icmp .gt 7, 3) := by decide +kernel
theorem dX5_isSetting_9 : decode cX5_isSetting 9 = .ok (.iconst 1, 1) := by decide +kernel
theorem dX5_isSetting_10 : decode cX5_isSetting 10 = .ok (.goto 4, 3) := by decide +kernel
theorem dX5_isSetting_13 : decode cX5_isSetting 13 = .ok (.iconst 0, 1) := by decide +kernel
theorem dX5_isSetting_14 : decode cX5_isSetting 14 = .ok (.ireturn, 1) := by decide +kernel
theorem dX5_isInRange_0 : decode cX5_isInRange 0 = .ok (.iload_n 0, 1) := by decide +kernel
theorem dX5_isInRange_1 : decode cX5_isInRange 1 = .ok (.tableswitch 140 0 5 #[39, 57, 73, 90, 105, 124], 39) := by decide +kernel
theorem dX5_isInRange_40 : decode cX5_isInRange 40 = .ok (.iload_n 1, 1) := by decide +kernel
theorem dX5_isInRange_41 : decode cX5_isInRange 41 = .ok (.bipush 8, 2) := by decide +kernel
theorem dX5_isInRange_43 : decode cX5_isInRange 43 = .ok (.if_icmp .lt 13, 3) := by decide +kernel
theorem dX5_isInRange_46 : decode cX5_isInRange 46 = .ok (.iload_n 1, 1) := by decide +kernel
theorem dX5_isInRange_47 : decode cX5_isInRange 47 = .ok (.bipush 40, 2) := by decide +kernel
theorem dX5_isInRange_49 : decode cX5_isInRange 49 = .ok (.if_icmp .gt 7, 3) := by decide +kernel
theorem dX5_isInRange_52 : decode cX5_isInRange 52 = .ok (.iconst 1, 1) := by decide +kernel
theorem dX5_isInRange_53 : decode cX5_isInRange 53 = .ok (.goto 4, 3) := by decide +kernel
theorem dX5_isInRange_56 : decode cX5_isInRange 56 = .ok (.iconst 0, 1) := by decide +kernel
theorem dX5_isInRange_57 : decode cX5_isInRange 57 = .ok (.ireturn, 1) := by decide +kernel
theorem dX5_isInRange_58 : decode cX5_isInRange 58 = .ok (.iload_n 1, 1) := by decide +kernel
theorem dX5_isInRange_59 : decode cX5_isInRange 59 = .ok (.ifCond .lt 13, 3) := by decide +kernel
theorem dX5_isInRange_62 : decode cX5_isInRange 62 = .ok (.iload_n 1, 1) := by decide +kernel
theorem dX5_isInRange_63 : decode cX5_isInRange 63 = .ok (.bipush 6, 2) := by decide +kernel
theorem dX5_isInRange_65 : decode cX5_isInRange 65 = .ok (.if_icmp .gt 7, 3) := by decide +kernel
theorem dX5_isInRange_68 : decode cX5_isInRange 68 = .ok (.iconst 1, 1) := by decide +kernel
theorem dX5_isInRange_69 : decode cX5_isInRange 69 = .ok (.goto 4, 3) := by decide +kernel
theorem dX5_isInRange_72 : decode cX5_isInRange 72 = .ok (.iconst 0, 1) := by decide +kernel
theorem dX5_isInRange_73 : decode cX5_isInRange 73 = .ok (.ireturn, 1) := by decide +kernel
theorem dX5_isInRange_74 : decode cX5_isInRange 74 = .ok (.iload_n 1, 1) := by decide +kernel
theorem dX5_isInRange_75 : decode cX5_isInRange 75 = .ok (.iconst 1, 1) := by decide +kernel
theorem dX5_isInRange_76 : decode cX5_isInRange 76 = .ok (.if_icmp .lt 13, 3) := by decide +kernel
theorem dX5_isInRange_79 : decode cX5_isInRange 79 = .ok (.iload_n 1, 1) := by decide +kernel
theorem dX5_isInRange_80 : decode cX5_isInRange 80 = .ok (.bipush 9, 2) := by decide +kernel
theorem dX5_isInRange_82 : decode cX5_isInRange 82 = .ok (.if_icmp .gt 7, 3) := by decide +kernel
theorem dX5_isInRange_85 : decode cX5_isInRange 85 = .ok (.iconst 1, 1) := by decide +kernel
theorem dX5_isInRange_86 : decode cX5_isInRange 86 = .ok (.goto 4, 3) := by decide +kernel
theorem dX5_isInRange_89 : decode cX5_isInRange 89 = .ok (.iconst 0, 1) := by decide +kernel
theorem dX5_isInRange_90 : decode cX5_isInRange 90 = .ok (.ireturn, 1) := by decide +kernel
theorem dX5_isInRange_91 : decode cX5_isInRange 91 = .ok (.iload_n 1, 1) := by decide +kernel
theorem dX5_isInRange_92 : decode cX5_isInRange 92 = .ok (.ifCond .lt 12, 3) := by decide +kernel
theorem dX5_isInRange_95 : decode cX5_isInRange 95 = .ok (.iload_n 1, 1) := by decide +kernel
theorem dX5_isInRange_96 : decode cX5_isInRange 96 = .ok (.iconst 5, 1) := by decide +kernel
theorem dX5_isInRange_97 : decode cX5_isInRange 97 = .ok (.if_icmp .gt 7, 3) := by decide +kernel
theorem dX5_isInRange_100 : decode cX5_isInRange 100 = .ok (.iconst 1, 1) := by decide +kernel
theorem dX5_isInRange_101 : decode cX5_isInRange 101 = .ok (.goto 4, 3) := by decide +kernel
theorem dX5_isInRange_104 : decode cX5_isInRange 104 = .ok (.iconst 0, 1) := by decide +kernel
theorem dX5_isInRange_105 : decode cX5_isInRange 105 = .ok (.ireturn, 1) := by decide +kernel
theorem dX5_isInRange_106 : decode cX5_isInRange 106 = .ok (.iload_n 1, 1) := by decide +kernel
theorem dX5_isInRange_107 : decode cX5_isInRange 107 = .ok (.bipush 60, 2) := by decide +kernel
theorem dX5_isInRange_109 : decode cX5_isInRange 109 = .ok (.if_icmp .lt 14, 3) := by decide +kernel
theorem dX5_isInRange_112 : decode cX5_isInRange 112 = .ok (.iload_n 1, 1) := by decide +kernel
theorem dX5_isInRange_113 : decode cX5_isInRange 113 = .ok (.sipush 140, 3) := by decide +kernel
theorem dX5_isInRange_116 : decode cX5_isInRange 116 = .ok (.if_icmp .gt 7, 3) := by decide +kernel
theorem dX5_isInRange_119 : decode cX5_isInRange 119 = .ok (.iconst 1, 1) := by decide +kernel
theorem dX5_isInRange_120 : decode cX5_isInRange 120 = .ok (.goto 4, 3) := by decide +kernel
theorem dX5_isInRange_123 : decode cX5_isInRange 123 = .ok (.iconst 0, 1) := by decide +kernel
theorem dX5_isInRange_124 : decode cX5_isInRange 124 = .ok (.ireturn, 1) := by decide +kernel
theorem dX5_isInRange_125 : decode cX5_isInRange 125 = .ok (.iload_n 1, 1) := by decide +kernel
theorem dX5_isInRange_126 : decode cX5_isInRange 126 = .ok (.ifCond .lt 13, 3) := by decide +kernel
theorem dX5_isInRange_129 : decode cX5_isInRange 129 = .ok (.iload_n 1, 1) := by decide +kernel
theorem dX5_isInRange_130 : decode cX5_isInRange 130 = .ok (.bipush 20, 2) := by decide +kernel
theorem dX5_isInRange_132 : decode cX5_isInRange 132 = .ok (.if_icmp .gt 7, 3) := by decide +kernel
theorem dX5_isInRange_135 : decode cX5_isInRange 135 = .ok (.iconst 1, 1) := by decide +kernel
theorem dX5_isInRange_136 : decode cX5_isInRange 136 = .ok (.goto 4, 3) := by decide +kernel
theorem dX5_isInRange_139 : decode cX5_isInRange 139 = .ok (.iconst 0, 1) := by decide +kernel
theorem dX5_isInRange_140 : decode cX5_isInRange 140 = .ok (.ireturn, 1) := by decide +kernel
theorem dX5_isInRange_141 : decode cX5_isInRange 141 = .ok (.iconst 0, 1) := by decide +kernel
theorem dX5_isInRange_142 : decode cX5_isInRange 142 = .ok (.ireturn, 1) := by decide +kernel
theorem dX5_settingAt_0 : decode cX5_settingAt 0 = .ok (.iload_n 1, 1) := by decide +kernel
theorem dX5_settingAt_1 : decode cX5_settingAt 1 = .ok (.tableswitch 60 0 4 #[35, 40, 45, 50, 55], 35) := by decide +kernel
theorem dX5_settingAt_36 : decode cX5_settingAt 36 = .ok (.aload_n 0, 1) := by decide +kernel
theorem dX5_settingAt_37 : decode cX5_settingAt 37 = .ok (.getfield 9, 3) := by decide +kernel
theorem dX5_settingAt_40 : decode cX5_settingAt 40 = .ok (.ireturn, 1) := by decide +kernel
theorem dX5_settingAt_41 : decode cX5_settingAt 41 = .ok (.aload_n 0, 1) := by decide +kernel
theorem dX5_settingAt_42 : decode cX5_settingAt 42 = .ok (.getfield 15, 3) := by decide +kernel
theorem dX5_settingAt_45 : decode cX5_settingAt 45 = .ok (.ireturn, 1) := by decide +kernel
theorem dX5_settingAt_46 : decode cX5_settingAt 46 = .ok (.aload_n 0, 1) := by decide +kernel
theorem dX5_settingAt_47 : decode cX5_settingAt 47 = .ok (.getfield 18, 3) := by decide +kernel
theorem dX5_settingAt_50 : decode cX5_settingAt 50 = .ok (.ireturn, 1) := by decide +kernel
theorem dX5_settingAt_51 : decode cX5_settingAt 51 = .ok (.aload_n 0, 1) := by decide +kernel
theorem dX5_settingAt_52 : decode cX5_settingAt 52 = .ok (.getfield 21, 3) := by decide +kernel
theorem dX5_settingAt_55 : decode cX5_settingAt 55 = .ok (.ireturn, 1) := by decide +kernel
theorem dX5_settingAt_56 : decode cX5_settingAt 56 = .ok (.aload_n 0, 1) := by decide +kernel
theorem dX5_settingAt_57 : decode cX5_settingAt 57 = .ok (.getfield 24, 3) := by decide +kernel
theorem dX5_settingAt_60 : decode cX5_settingAt 60 = .ok (.ireturn, 1) := by decide +kernel
theorem dX5_settingAt_61 : decode cX5_settingAt 61 = .ok (.aload_n 0, 1) := by decide +kernel
theorem dX5_settingAt_62 : decode cX5_settingAt 62 = .ok (.getfield 27, 3) := by decide +kernel
theorem dX5_settingAt_65 : decode cX5_settingAt 65 = .ok (.ireturn, 1) := by decide +kernel
theorem dX5_change_0 : decode cX5_change 0 = .ok (.iload_n 1, 1) := by decide +kernel
theorem dX5_change_1 : decode cX5_change 1 = .ok (.tableswitch 75 0 4 #[35, 43, 51, 59, 67], 35) := by decide +kernel
theorem dX5_change_36 : decode cX5_change 36 = .ok (.aload_n 0, 1) := by decide +kernel
theorem dX5_change_37 : decode cX5_change 37 = .ok (.iload_n 2, 1) := by decide +kernel
theorem dX5_change_38 : decode cX5_change 38 = .ok (.putfield 9, 3) := by decide +kernel
theorem dX5_change_41 : decode cX5_change 41 = .ok (.goto 40, 3) := by decide +kernel
theorem dX5_change_44 : decode cX5_change 44 = .ok (.aload_n 0, 1) := by decide +kernel
theorem dX5_change_45 : decode cX5_change 45 = .ok (.iload_n 2, 1) := by decide +kernel
theorem dX5_change_46 : decode cX5_change 46 = .ok (.putfield 15, 3) := by decide +kernel
theorem dX5_change_49 : decode cX5_change 49 = .ok (.goto 32, 3) := by decide +kernel
theorem dX5_change_52 : decode cX5_change 52 = .ok (.aload_n 0, 1) := by decide +kernel
theorem dX5_change_53 : decode cX5_change 53 = .ok (.iload_n 2, 1) := by decide +kernel
theorem dX5_change_54 : decode cX5_change 54 = .ok (.putfield 18, 3) := by decide +kernel
theorem dX5_change_57 : decode cX5_change 57 = .ok (.goto 24, 3) := by decide +kernel
theorem dX5_change_60 : decode cX5_change 60 = .ok (.aload_n 0, 1) := by decide +kernel
theorem dX5_change_61 : decode cX5_change 61 = .ok (.iload_n 2, 1) := by decide +kernel
theorem dX5_change_62 : decode cX5_change 62 = .ok (.putfield 21, 3) := by decide +kernel
theorem dX5_change_65 : decode cX5_change 65 = .ok (.goto 16, 3) := by decide +kernel
theorem dX5_change_68 : decode cX5_change 68 = .ok (.aload_n 0, 1) := by decide +kernel
theorem dX5_change_69 : decode cX5_change 69 = .ok (.iload_n 2, 1) := by decide +kernel
theorem dX5_change_70 : decode cX5_change 70 = .ok (.putfield 24, 3) := by decide +kernel
theorem dX5_change_73 : decode cX5_change 73 = .ok (.goto 8, 3) := by decide +kernel
theorem dX5_change_76 : decode cX5_change 76 = .ok (.aload_n 0, 1) := by decide +kernel
theorem dX5_change_77 : decode cX5_change 77 = .ok (.iload_n 2, 1) := by decide +kernel
theorem dX5_change_78 : decode cX5_change 78 = .ok (.putfield 27, 3) := by decide +kernel
theorem dX5_change_81 : decode cX5_change 81 = .ok (.return_, 1) := by decide +kernel
theorem dX5_copyFrom_0 : decode cX5_copyFrom 0 = .ok (.aload_n 0, 1) := by decide +kernel
theorem dX5_copyFrom_1 : decode cX5_copyFrom 1 = .ok (.aload_n 1, 1) := by decide +kernel
theorem dX5_copyFrom_2 : decode cX5_copyFrom 2 = .ok (.getfield 9, 3) := by decide +kernel
theorem dX5_copyFrom_5 : decode cX5_copyFrom 5 = .ok (.putfield 9, 3) := by decide +kernel
theorem dX5_copyFrom_8 : decode cX5_copyFrom 8 = .ok (.aload_n 0, 1) := by decide +kernel
theorem dX5_copyFrom_9 : decode cX5_copyFrom 9 = .ok (.aload_n 1, 1) := by decide +kernel
theorem dX5_copyFrom_10 : decode cX5_copyFrom 10 = .ok (.getfield 15, 3) := by decide +kernel
theorem dX5_copyFrom_13 : decode cX5_copyFrom 13 = .ok (.putfield 15, 3) := by decide +kernel
theorem dX5_copyFrom_16 : decode cX5_copyFrom 16 = .ok (.aload_n 0, 1) := by decide +kernel
theorem dX5_copyFrom_17 : decode cX5_copyFrom 17 = .ok (.aload_n 1, 1) := by decide +kernel
theorem dX5_copyFrom_18 : decode cX5_copyFrom 18 = .ok (.getfield 18, 3) := by decide +kernel
theorem dX5_copyFrom_21 : decode cX5_copyFrom 21 = .ok (.putfield 18, 3) := by decide +kernel
theorem dX5_copyFrom_24 : decode cX5_copyFrom 24 = .ok (.aload_n 0, 1) := by decide +kernel
theorem dX5_copyFrom_25 : decode cX5_copyFrom 25 = .ok (.aload_n 1, 1) := by decide +kernel
theorem dX5_copyFrom_26 : decode cX5_copyFrom 26 = .ok (.getfield 21, 3) := by decide +kernel
theorem dX5_copyFrom_29 : decode cX5_copyFrom 29 = .ok (.putfield 21, 3) := by decide +kernel
theorem dX5_copyFrom_32 : decode cX5_copyFrom 32 = .ok (.aload_n 0, 1) := by decide +kernel
theorem dX5_copyFrom_33 : decode cX5_copyFrom 33 = .ok (.aload_n 1, 1) := by decide +kernel
theorem dX5_copyFrom_34 : decode cX5_copyFrom 34 = .ok (.getfield 24, 3) := by decide +kernel
theorem dX5_copyFrom_37 : decode cX5_copyFrom 37 = .ok (.putfield 24, 3) := by decide +kernel
theorem dX5_copyFrom_40 : decode cX5_copyFrom 40 = .ok (.aload_n 0, 1) := by decide +kernel
theorem dX5_copyFrom_41 : decode cX5_copyFrom 41 = .ok (.aload_n 1, 1) := by decide +kernel
theorem dX5_copyFrom_42 : decode cX5_copyFrom 42 = .ok (.getfield 27, 3) := by decide +kernel
theorem dX5_copyFrom_45 : decode cX5_copyFrom 45 = .ok (.putfield 27, 3) := by decide +kernel
theorem dX5_copyFrom_48 : decode cX5_copyFrom 48 = .ok (.return_, 1) := by decide +kernel
theorem dX5_hasSpiralOf_0 : decode cX5_hasSpiralOf 0 = .ok (.aload_n 0, 1) := by decide +kernel
theorem dX5_hasSpiralOf_1 : decode cX5_hasSpiralOf 1 = .ok (.getfield 9, 3) := by decide +kernel
theorem dX5_hasSpiralOf_4 : decode cX5_hasSpiralOf 4 = .ok (.aload_n 1, 1) := by decide +kernel
theorem dX5_hasSpiralOf_5 : decode cX5_hasSpiralOf 5 = .ok (.getfield 9, 3) := by decide +kernel
theorem dX5_hasSpiralOf_8 : decode cX5_hasSpiralOf 8 = .ok (.if_icmp .ne 18, 3) := by decide +kernel
theorem dX5_hasSpiralOf_11 : decode cX5_hasSpiralOf 11 = .ok (.aload_n 0, 1) := by decide +kernel
theorem dX5_hasSpiralOf_12 : decode cX5_hasSpiralOf 12 = .ok (.getfield 15, 3) := by decide +kernel
theorem dX5_hasSpiralOf_15 : decode cX5_hasSpiralOf 15 = .ok (.aload_n 1, 1) := by decide +kernel
theorem dX5_hasSpiralOf_16 : decode cX5_hasSpiralOf 16 = .ok (.getfield 15, 3) := by decide +kernel
theorem dX5_hasSpiralOf_19 : decode cX5_hasSpiralOf 19 = .ok (.if_icmp .ne 7, 3) := by decide +kernel
theorem dX5_hasSpiralOf_22 : decode cX5_hasSpiralOf 22 = .ok (.iconst 1, 1) := by decide +kernel
theorem dX5_hasSpiralOf_23 : decode cX5_hasSpiralOf 23 = .ok (.goto 4, 3) := by decide +kernel
theorem dX5_hasSpiralOf_26 : decode cX5_hasSpiralOf 26 = .ok (.iconst 0, 1) := by decide +kernel
theorem dX5_hasSpiralOf_27 : decode cX5_hasSpiralOf 27 = .ok (.ireturn, 1) := by decide +kernel
theorem dX5_framesOf_0 : decode cX5_framesOf 0 = .ok (.aload_n 0, 1) := by decide +kernel
theorem dX5_framesOf_1 : decode cX5_framesOf 1 = .ok (.getfield 9, 3) := by decide +kernel
theorem dX5_framesOf_4 : decode cX5_framesOf 4 = .ok (.aload_n 0, 1) := by decide +kernel
theorem dX5_framesOf_5 : decode cX5_framesOf 5 = .ok (.getfield 15, 3) := by decide +kernel
theorem dX5_framesOf_8 : decode cX5_framesOf 8 = .ok (.iload_n 1, 1) := by decide +kernel
theorem dX5_framesOf_9 : decode cX5_framesOf 9 = .ok (.imul, 1) := by decide +kernel
theorem dX5_framesOf_10 : decode cX5_framesOf 10 = .ok (.iadd, 1) := by decide +kernel
theorem dX5_framesOf_11 : decode cX5_framesOf 11 = .ok (.ireturn, 1) := by decide +kernel
theorem dX5_firstOf_0 : decode cX5_firstOf 0 = .ok (.aload_n 0, 1) := by decide +kernel
theorem dX5_firstOf_1 : decode cX5_firstOf 1 = .ok (.getfield 9, 3) := by decide +kernel
theorem dX5_firstOf_4 : decode cX5_firstOf 4 = .ok (.iload_n 1, 1) := by decide +kernel
theorem dX5_firstOf_5 : decode cX5_firstOf 5 = .ok (.imul, 1) := by decide +kernel
theorem dX5_firstOf_6 : decode cX5_firstOf 6 = .ok (.aload_n 0, 1) := by decide +kernel
theorem dX5_firstOf_7 : decode cX5_firstOf 7 = .ok (.getfield 15, 3) := by decide +kernel
theorem dX5_firstOf_10 : decode cX5_firstOf 10 = .ok (.iload_n 1, 1) := by decide +kernel
theorem dX5_firstOf_11 : decode cX5_firstOf 11 = .ok (.iload_n 1, 1) := by decide +kernel
theorem dX5_firstOf_12 : decode cX5_firstOf 12 = .ok (.iconst 1, 1) := by decide +kernel
theorem dX5_firstOf_13 : decode cX5_firstOf 13 = .ok (.isub, 1) := by decide +kernel
theorem dX5_firstOf_14 : decode cX5_firstOf 14 = .ok (.imul, 1) := by decide +kernel
theorem dX5_firstOf_15 : decode cX5_firstOf 15 = .ok (.iconst 2, 1) := by decide +kernel
theorem dX5_firstOf_16 : decode cX5_firstOf 16 = .ok (.idiv, 1) := by decide +kernel
theorem dX5_firstOf_17 : decode cX5_firstOf 17 = .ok (.imul, 1) := by decide +kernel
theorem dX5_firstOf_18 : decode cX5_firstOf 18 = .ok (.iadd, 1) := by decide +kernel
theorem dX5_firstOf_19 : decode cX5_firstOf 19 = .ok (.ireturn, 1) := by decide +kernel
theorem dX5_allFrames_0 : decode cX5_allFrames 0 = .ok (.aload_n 0, 1) := by decide +kernel
theorem dX5_allFrames_1 : decode cX5_allFrames 1 = .ok (.bipush 30, 2) := by decide +kernel
theorem dX5_allFrames_3 : decode cX5_allFrames 3 = .ok (.invokevirtual 30, 3) := by decide +kernel
theorem dX5_allFrames_6 : decode cX5_allFrames 6 = .ok (.ireturn, 1) := by decide +kernel
theorem dX5_hasFrame_0 : decode cX5_hasFrame 0 = .ok (.iload_n 1, 1) := by decide +kernel
theorem dX5_hasFrame_1 : decode cX5_hasFrame 1 = .ok (.ifCond .lt 15, 3) := by decide +kernel
theorem dX5_hasFrame_4 : decode cX5_hasFrame 4 = .ok (.iload_n 1, 1) := by decide +kernel
theorem dX5_hasFrame_5 : decode cX5_hasFrame 5 = .ok (.aload_n 0, 1) := by decide +kernel
theorem dX5_hasFrame_6 : decode cX5_hasFrame 6 = .ok (.invokevirtual 34, 3) := by decide +kernel
theorem dX5_hasFrame_9 : decode cX5_hasFrame 9 = .ok (.if_icmp .ge 7, 3) := by decide +kernel
theorem dX5_hasFrame_12 : decode cX5_hasFrame 12 = .ok (.iconst 1, 1) := by decide +kernel
theorem dX5_hasFrame_13 : decode cX5_hasFrame 13 = .ok (.goto 4, 3) := by decide +kernel
theorem dX5_hasFrame_16 : decode cX5_hasFrame 16 = .ok (.iconst 0, 1) := by decide +kernel
theorem dX5_hasFrame_17 : decode cX5_hasFrame 17 = .ok (.ireturn, 1) := by decide +kernel
theorem dX5_turnOf_0 : decode cX5_turnOf 0 = .ok (.iconst 0, 1) := by decide +kernel
theorem dX5_turnOf_1 : decode cX5_turnOf 1 = .ok (.istore_n 2, 1) := by decide +kernel
theorem dX5_turnOf_2 : decode cX5_turnOf 2 = .ok (.iload_n 2, 1) := by decide +kernel
theorem dX5_turnOf_3 : decode cX5_turnOf 3 = .ok (.bipush 29, 2) := by decide +kernel
theorem dX5_turnOf_5 : decode cX5_turnOf 5 = .ok (.if_icmp .ge 20, 3) := by decide +kernel
theorem dX5_turnOf_8 : decode cX5_turnOf 8 = .ok (.iload_n 1, 1) := by decide +kernel
theorem dX5_turnOf_9 : decode cX5_turnOf 9 = .ok (.aload_n 0, 1) := by decide +kernel
theorem dX5_turnOf_10 : decode cX5_turnOf 10 = .ok (.iload_n 2, 1) := by decide +kernel
theorem dX5_turnOf_11 : decode cX5_turnOf 11 = .ok (.iconst 1, 1) := by decide +kernel
theorem dX5_turnOf_12 : decode cX5_turnOf 12 = .ok (.iadd, 1) := by decide +kernel
theorem dX5_turnOf_13 : decode cX5_turnOf 13 = .ok (.invokevirtual 30, 3) := by decide +kernel
theorem dX5_turnOf_16 : decode cX5_turnOf 16 = .ok (.if_icmp .lt 9, 3) := by decide +kernel
theorem dX5_turnOf_19 : decode cX5_turnOf 19 = .ok (.iinc 2 1, 3) := by decide +kernel
theorem dX5_turnOf_22 : decode cX5_turnOf 22 = .ok (.goto (-20), 3) := by decide +kernel
theorem dX5_turnOf_25 : decode cX5_turnOf 25 = .ok (.iload_n 2, 1) := by decide +kernel
theorem dX5_turnOf_26 : decode cX5_turnOf 26 = .ok (.ireturn, 1) := by decide +kernel
theorem dX5_groups_0 : decode cX5_groups 0 = .ok (.aload_n 0, 1) := by decide +kernel
theorem dX5_groups_1 : decode cX5_groups 1 = .ok (.invokevirtual 34, 3) := by decide +kernel
theorem dX5_groups_4 : decode cX5_groups 4 = .ok (.iconst 5, 1) := by decide +kernel
theorem dX5_groups_5 : decode cX5_groups 5 = .ok (.idiv, 1) := by decide +kernel
theorem dX5_groups_6 : decode cX5_groups 6 = .ok (.ireturn, 1) := by decide +kernel
theorem dX5_groupOf_0 : decode cX5_groupOf 0 = .ok (.iload_n 1, 1) := by decide +kernel
theorem dX5_groupOf_1 : decode cX5_groupOf 1 = .ok (.iconst 5, 1) := by decide +kernel
theorem dX5_groupOf_2 : decode cX5_groupOf 2 = .ok (.idiv, 1) := by decide +kernel
theorem dX5_groupOf_3 : decode cX5_groupOf 3 = .ok (.istore_n 2, 1) := by decide +kernel
theorem dX5_groupOf_4 : decode cX5_groupOf 4 = .ok (.iload_n 2, 1) := by decide +kernel
theorem dX5_groupOf_5 : decode cX5_groupOf 5 = .ok (.aload_n 0, 1) := by decide +kernel
theorem dX5_groupOf_6 : decode cX5_groupOf 6 = .ok (.invokevirtual 38, 3) := by decide +kernel
theorem dX5_groupOf_9 : decode cX5_groupOf 9 = .ok (.if_icmp .ge 7, 3) := by decide +kernel
theorem dX5_groupOf_12 : decode cX5_groupOf 12 = .ok (.iload_n 2, 1) := by decide +kernel
theorem dX5_groupOf_13 : decode cX5_groupOf 13 = .ok (.goto 5, 3) := by decide +kernel
theorem dX5_groupOf_16 : decode cX5_groupOf 16 = .ok (.bipush (-5), 2) := by decide +kernel
theorem dX5_groupOf_18 : decode cX5_groupOf 18 = .ok (.ireturn, 1) := by decide +kernel
theorem dX5_isCheck_0 : decode cX5_isCheck 0 = .ok (.iload_n 0, 1) := by decide +kernel
theorem dX5_isCheck_1 : decode cX5_isCheck 1 = .ok (.iconst 5, 1) := by decide +kernel
theorem dX5_isCheck_2 : decode cX5_isCheck 2 = .ok (.irem, 1) := by decide +kernel
theorem dX5_isCheck_3 : decode cX5_isCheck 3 = .ok (.iconst 4, 1) := by decide +kernel
theorem dX5_isCheck_4 : decode cX5_isCheck 4 = .ok (.if_icmp .ne 7, 3) := by decide +kernel
theorem dX5_isCheck_7 : decode cX5_isCheck 7 = .ok (.iconst 1, 1) := by decide +kernel
theorem dX5_isCheck_8 : decode cX5_isCheck 8 = .ok (.goto 4, 3) := by decide +kernel
theorem dX5_isCheck_11 : decode cX5_isCheck 11 = .ok (.iconst 0, 1) := by decide +kernel
theorem dX5_isCheck_12 : decode cX5_isCheck 12 = .ok (.ireturn, 1) := by decide +kernel
theorem dX5_dataAhead_0 : decode cX5_dataAhead 0 = .ok (.iload_n 0, 1) := by decide +kernel
theorem dX5_dataAhead_1 : decode cX5_dataAhead 1 = .ok (.iconst 5, 1) := by decide +kernel
theorem dX5_dataAhead_2 : decode cX5_dataAhead 2 = .ok (.irem, 1) := by decide +kernel
theorem dX5_dataAhead_3 : decode cX5_dataAhead 3 = .ok (.ifCond .ne 9, 3) := by decide +kernel
theorem dX5_dataAhead_6 : decode cX5_dataAhead 6 = .ok (.iload_n 0, 1) := by decide +kernel
theorem dX5_dataAhead_7 : decode cX5_dataAhead 7 = .ok (.iconst 2, 1) := by decide +kernel
theorem dX5_dataAhead_8 : decode cX5_dataAhead 8 = .ok (.isub, 1) := by decide +kernel
theorem dX5_dataAhead_9 : decode cX5_dataAhead 9 = .ok (.goto 6, 3) := by decide +kernel
theorem dX5_dataAhead_12 : decode cX5_dataAhead 12 = .ok (.iload_n 0, 1) := by decide +kernel
theorem dX5_dataAhead_13 : decode cX5_dataAhead 13 = .ok (.iconst 1, 1) := by decide +kernel
theorem dX5_dataAhead_14 : decode cX5_dataAhead 14 = .ok (.isub, 1) := by decide +kernel
theorem dX5_dataAhead_15 : decode cX5_dataAhead 15 = .ok (.ireturn, 1) := by decide +kernel
theorem dX5_dataBehind_0 : decode cX5_dataBehind 0 = .ok (.iload_n 0, 1) := by decide +kernel
theorem dX5_dataBehind_1 : decode cX5_dataBehind 1 = .ok (.iconst 5, 1) := by decide +kernel
theorem dX5_dataBehind_2 : decode cX5_dataBehind 2 = .ok (.irem, 1) := by decide +kernel
theorem dX5_dataBehind_3 : decode cX5_dataBehind 3 = .ok (.iconst 3, 1) := by decide +kernel
theorem dX5_dataBehind_4 : decode cX5_dataBehind 4 = .ok (.if_icmp .ne 9, 3) := by decide +kernel
theorem dX5_dataBehind_7 : decode cX5_dataBehind 7 = .ok (.iload_n 0, 1) := by decide +kernel
theorem dX5_dataBehind_8 : decode cX5_dataBehind 8 = .ok (.iconst 2, 1) := by decide +kernel
theorem dX5_dataBehind_9 : decode cX5_dataBehind 9 = .ok (.iadd, 1) := by decide +kernel
theorem dX5_dataBehind_10 : decode cX5_dataBehind 10 = .ok (.goto 6, 3) := by decide +kernel
theorem dX5_dataBehind_13 : decode cX5_dataBehind 13 = .ok (.iload_n 0, 1) := by decide +kernel
theorem dX5_dataBehind_14 : decode cX5_dataBehind 14 = .ok (.iconst 1, 1) := by decide +kernel
theorem dX5_dataBehind_15 : decode cX5_dataBehind 15 = .ok (.iadd, 1) := by decide +kernel
theorem dX5_dataBehind_16 : decode cX5_dataBehind 16 = .ok (.ireturn, 1) := by decide +kernel
theorem dX6_init_0 : decode cX6_init 0 = .ok (.aload_n 0, 1) := by decide +kernel
theorem dX6_init_1 : decode cX6_init 1 = .ok (.invokespecial 1, 3) := by decide +kernel
theorem dX6_init_4 : decode cX6_init 4 = .ok (.aload_n 0, 1) := by decide +kernel
theorem dX6_init_5 : decode cX6_init 5 = .ok (.new 7, 3) := by decide +kernel
theorem dX6_init_8 : decode cX6_init 8 = .ok (.dup, 1) := by decide +kernel
theorem dX6_init_9 : decode cX6_init 9 = .ok (.invokespecial 9, 3) := by decide +kernel
theorem dX6_init_12 : decode cX6_init 12 = .ok (.putfield 10, 3) := by decide +kernel
theorem dX6_init_15 : decode cX6_init 15 = .ok (.aload_n 0, 1) := by decide +kernel
theorem dX6_init_16 : decode cX6_init 16 = .ok (.new 16, 3) := by decide +kernel
theorem dX6_init_19 : decode cX6_init 19 = .ok (.dup, 1) := by decide +kernel
theorem dX6_init_20 : decode cX6_init 20 = .ok (.invokespecial 18, 3) := by decide +kernel
theorem dX6_init_23 : decode cX6_init 23 = .ok (.putfield 19, 3) := by decide +kernel
theorem dX6_init_26 : decode cX6_init 26 = .ok (.aload_n 0, 1) := by decide +kernel
theorem dX6_init_27 : decode cX6_init 27 = .ok (.new 23, 3) := by decide +kernel
theorem dX6_init_30 : decode cX6_init 30 = .ok (.dup, 1) := by decide +kernel
theorem dX6_init_31 : decode cX6_init 31 = .ok (.invokespecial 25, 3) := by decide +kernel
theorem dX6_init_34 : decode cX6_init 34 = .ok (.putfield 26, 3) := by decide +kernel
theorem dX6_init_37 : decode cX6_init 37 = .ok (.aload_n 0, 1) := by decide +kernel
theorem dX6_init_38 : decode cX6_init 38 = .ok (.new 30, 3) := by decide +kernel
theorem dX6_init_41 : decode cX6_init 41 = .ok (.dup, 1) := by decide +kernel
theorem dX6_init_42 : decode cX6_init 42 = .ok (.invokespecial 32, 3) := by decide +kernel
theorem dX6_init_45 : decode cX6_init 45 = .ok (.putfield 33, 3) := by decide +kernel
theorem dX6_init_48 : decode cX6_init 48 = .ok (.return_, 1) := by decide +kernel
theorem dX6_copyFrom_0 : decode cX6_copyFrom 0 = .ok (.aload_n 0, 1) := by decide +kernel
theorem dX6_copyFrom_1 : decode cX6_copyFrom 1 = .ok (.getfield 10, 3) := by decide +kernel
theorem dX6_copyFrom_4 : decode cX6_copyFrom 4 = .ok (.aload_n 1, 1) := by decide +kernel
theorem dX6_copyFrom_5 : decode cX6_copyFrom 5 = .ok (.getfield 10, 3) := by decide +kernel
theorem dX6_copyFrom_8 : decode cX6_copyFrom 8 = .ok (.invokevirtual 37, 3) := by decide +kernel
theorem dX6_copyFrom_11 : decode cX6_copyFrom 11 = .ok (.aload_n 0, 1) := by decide +kernel
theorem dX6_copyFrom_12 : decode cX6_copyFrom 12 = .ok (.getfield 19, 3) := by decide +kernel
theorem dX6_copyFrom_15 : decode cX6_copyFrom 15 = .ok (.aload_n 1, 1) := by decide +kernel
theorem dX6_copyFrom_16 : decode cX6_copyFrom 16 = .ok (.getfield 19, 3) := by decide +kernel
theorem dX6_copyFrom_19 : decode cX6_copyFrom 19 = .ok (.invokevirtual 41, 3) := by decide +kernel
theorem dX6_copyFrom_22 : decode cX6_copyFrom 22 = .ok (.aload_n 0, 1) := by decide +kernel
theorem dX6_copyFrom_23 : decode cX6_copyFrom 23 = .ok (.getfield 26, 3) := by decide +kernel
theorem dX6_copyFrom_26 : decode cX6_copyFrom 26 = .ok (.aload_n 1, 1) := by decide +kernel
theorem dX6_copyFrom_27 : decode cX6_copyFrom 27 = .ok (.getfield 26, 3) := by decide +kernel
theorem dX6_copyFrom_30 : decode cX6_copyFrom 30 = .ok (.invokevirtual 44, 3) := by decide +kernel
theorem dX6_copyFrom_33 : decode cX6_copyFrom 33 = .ok (.aload_n 0, 1) := by decide +kernel
theorem dX6_copyFrom_34 : decode cX6_copyFrom 34 = .ok (.getfield 33, 3) := by decide +kernel
theorem dX6_copyFrom_37 : decode cX6_copyFrom 37 = .ok (.aload_n 1, 1) := by decide +kernel
theorem dX6_copyFrom_38 : decode cX6_copyFrom 38 = .ok (.getfield 33, 3) := by decide +kernel
theorem dX6_copyFrom_41 : decode cX6_copyFrom 41 = .ok (.invokevirtual 47, 3) := by decide +kernel
theorem dX6_copyFrom_44 : decode cX6_copyFrom 44 = .ok (.return_, 1) := by decide +kernel
theorem dX7_init_0 : decode cX7_init 0 = .ok (.aload_n 0, 1) := by decide +kernel
theorem dX7_init_1 : decode cX7_init 1 = .ok (.invokespecial 3, 3) := by decide +kernel
theorem dX7_init_4 : decode cX7_init 4 = .ok (.aload_n 0, 1) := by decide +kernel
theorem dX7_init_5 : decode cX7_init 5 = .ok (.new 9, 3) := by decide +kernel
theorem dX7_init_8 : decode cX7_init 8 = .ok (.dup, 1) := by decide +kernel
theorem dX7_init_9 : decode cX7_init 9 = .ok (.invokespecial 11, 3) := by decide +kernel
theorem dX7_init_12 : decode cX7_init 12 = .ok (.putfield 12, 3) := by decide +kernel
theorem dX7_init_15 : decode cX7_init 15 = .ok (.aload_n 0, 1) := by decide +kernel
theorem dX7_init_16 : decode cX7_init 16 = .ok (.new 18, 3) := by decide +kernel
theorem dX7_init_19 : decode cX7_init 19 = .ok (.dup, 1) := by decide +kernel
theorem dX7_init_20 : decode cX7_init 20 = .ok (.invokespecial 20, 3) := by decide +kernel
theorem dX7_init_23 : decode cX7_init 23 = .ok (.putfield 21, 3) := by decide +kernel
theorem dX7_init_26 : decode cX7_init 26 = .ok (.aload_n 0, 1) := by decide +kernel
theorem dX7_init_27 : decode cX7_init 27 = .ok (.sipush 3810, 3) := by decide +kernel
theorem dX7_init_30 : decode cX7_init 30 = .ok (.newarray .int, 2) := by decide +kernel
theorem dX7_init_32 : decode cX7_init 32 = .ok (.putfield 25, 3) := by decide +kernel
theorem dX7_init_35 : decode cX7_init 35 = .ok (.aload_n 0, 1) := by decide +kernel
theorem dX7_init_36 : decode cX7_init 36 = .ok (.sipush 3810, 3) := by decide +kernel
theorem dX7_init_39 : decode cX7_init 39 = .ok (.newarray .int, 2) := by decide +kernel
theorem dX7_init_41 : decode cX7_init 41 = .ok (.putfield 29, 3) := by decide +kernel
theorem dX7_init_44 : decode cX7_init 44 = .ok (.return_, 1) := by decide +kernel
theorem dX7_of_0 : decode cX7_of 0 = .ok (.aload_n 0, 1) := by decide +kernel
theorem dX7_of_1 : decode cX7_of 1 = .ok (.getfield 12, 3) := by decide +kernel
theorem dX7_of_4 : decode cX7_of 4 = .ok (.aload_n 1, 1) := by decide +kernel
theorem dX7_of_5 : decode cX7_of 5 = .ok (.getfield 32, 3) := by decide +kernel
theorem dX7_of_8 : decode cX7_of 8 = .ok (.invokevirtual 37, 3) := by decide +kernel
theorem dX7_of_11 : decode cX7_of 11 = .ok (.ifCond .eq 17, 3) := by decide +kernel
theorem dX7_of_14 : decode cX7_of 14 = .ok (.aload_n 0, 1) := by decide +kernel
theorem dX7_of_15 : decode cX7_of 15 = .ok (.getfield 21, 3) := by decide +kernel
theorem dX7_of_18 : decode cX7_of 18 = .ok (.aload_n 1, 1) := by decide +kernel
theorem dX7_of_19 : decode cX7_of 19 = .ok (.getfield 41, 3) := by decide +kernel
theorem dX7_of_22 : decode cX7_of 22 = .ok (.invokevirtual 42, 3) := by decide +kernel
theorem dX7_of_25 : decode cX7_of 25 = .ok (.ifCond .ne 62, 3) := by decide +kernel
theorem dX7_of_28 : decode cX7_of 28 = .ok (.aload_n 0, 1) := by decide +kernel
theorem dX7_of_29 : decode cX7_of 29 = .ok (.getfield 12, 3) := by decide +kernel
theorem dX7_of_32 : decode cX7_of 32 = .ok (.aload_n 1, 1) := by decide +kernel
theorem dX7_of_33 : decode cX7_of 33 = .ok (.getfield 32, 3) := by decide +kernel
theorem dX7_of_36 : decode cX7_of 36 = .ok (.invokevirtual 46, 3) := by decide +kernel
theorem dX7_of_39 : decode cX7_of 39 = .ok (.aload_n 0, 1) := by decide +kernel
theorem dX7_of_40 : decode cX7_of 40 = .ok (.getfield 21, 3) := by decide +kernel
theorem dX7_of_43 : decode cX7_of 43 = .ok (.aload_n 1, 1) := by decide +kernel
theorem dX7_of_44 : decode cX7_of 44 = .ok (.getfield 41, 3) := by decide +kernel
theorem dX7_of_47 : decode cX7_of 47 = .ok (.invokevirtual 50, 3) := by decide +kernel
theorem dX7_of_50 : decode cX7_of 50 = .ok (.aload_n 0, 1) := by decide +kernel
theorem dX7_of_51 : decode cX7_of 51 = .ok (.getfield 25, 3) := by decide +kernel
theorem dX7_of_54 : decode cX7_of 54 = .ok (.iconst 0, 1) := by decide +kernel
theorem dX7_of_55 : decode cX7_of 55 = .ok (.invokestatic 53, 3) := by decide +kernel
theorem dX7_of_58 : decode cX7_of 58 = .ok (.iconst 0, 1) := by decide +kernel
theorem dX7_of_59 : decode cX7_of 59 = .ok (.istore_n 2, 1) := by decide +kernel
theorem dX7_of_60 : decode cX7_of 60 = .ok (.iload_n 2, 1) := by decide +kernel
theorem dX7_of_61 : decode cX7_of 61 = .ok (.aload_n 0, 1) := by decide +kernel
theorem dX7_of_62 : decode cX7_of 62 = .ok (.getfield 21, 3) := by decide +kernel
theorem dX7_of_65 : decode cX7_of 65 = .ok (.getfield 59, 3) := by decide +kernel
theorem dX7_of_68 : decode cX7_of 68 = .ok (.if_icmp .ge 14, 3) := by decide +kernel
theorem dX7_of_71 : decode cX7_of 71 = .ok (.aload_n 0, 1) := by decide +kernel
theorem dX7_of_72 : decode cX7_of 72 = .ok (.iload_n 2, 1) := by decide +kernel
theorem dX7_of_73 : decode cX7_of 73 = .ok (.invokevirtual 63, 3) := by decide +kernel
theorem dX7_of_76 : decode cX7_of 76 = .ok (.iinc 2 1, 3) := by decide +kernel
theorem dX7_of_79 : decode cX7_of 79 = .ok (.goto (-19), 3) := by decide +kernel
theorem dX7_of_82 : decode cX7_of 82 = .ok (.aload_n 0, 1) := by decide +kernel
theorem dX7_of_83 : decode cX7_of 83 = .ok (.iconst (-1), 1) := by decide +kernel
theorem dX7_of_84 : decode cX7_of 84 = .ok (.invokevirtual 67, 3) := by decide +kernel
theorem dX7_of_87 : decode cX7_of 87 = .ok (.aload_n 0, 1) := by decide +kernel
theorem dX7_of_88 : decode cX7_of 88 = .ok (.areturn, 1) := by decide +kernel
theorem dX7_markScratch_0 : decode cX7_markScratch 0 = .ok (.aload_n 0, 1) := by decide +kernel
theorem dX7_markScratch_1 : decode cX7_markScratch 1 = .ok (.getfield 21, 3) := by decide +kernel
theorem dX7_markScratch_4 : decode cX7_markScratch 4 = .ok (.iload_n 1, 1) := by decide +kernel
theorem dX7_markScratch_5 : decode cX7_markScratch 5 = .ok (.invokevirtual 70, 3) := by decide +kernel
theorem dX7_markScratch_8 : decode cX7_markScratch 8 = .ok (.istore_n 2, 1) := by decide +kernel
theorem dX7_markScratch_9 : decode cX7_markScratch 9 = .ok (.aload_n 0, 1) := by decide +kernel
theorem dX7_markScratch_10 : decode cX7_markScratch 10 = .ok (.getfield 21, 3) := by decide +kernel
theorem dX7_markScratch_13 : decode cX7_markScratch 13 = .ok (.iload_n 1, 1) := by decide +kernel
theorem dX7_markScratch_14 : decode cX7_markScratch 14 = .ok (.invokevirtual 74, 3) := by decide +kernel
theorem dX7_markScratch_17 : decode cX7_markScratch 17 = .ok (.iconst 1, 1) := by decide +kernel
theorem dX7_markScratch_18 : decode cX7_markScratch 18 = .ok (.iadd, 1) := by decide +kernel
theorem dX7_markScratch_19 : decode cX7_markScratch 19 = .ok (.istore_n 3, 1) := by decide +kernel
theorem dX7_markScratch_20 : decode cX7_markScratch 20 = .ok (.aload_n 0, 1) := by decide +kernel
theorem dX7_markScratch_21 : decode cX7_markScratch 21 = .ok (.getfield 21, 3) := by decide +kernel
theorem dX7_markScratch_24 : decode cX7_markScratch 24 = .ok (.iload_n 1, 1) := by decide +kernel
theorem dX7_markScratch_25 : decode cX7_markScratch 25 = .ok (.invokevirtual 77, 3) := by decide +kernel
theorem dX7_markScratch_28 : decode cX7_markScratch 28 = .ok (.bipush 29, 2) := by decide +kernel
theorem dX7_markScratch_30 : decode cX7_markScratch 30 = .ok (.invokestatic 80, 3) := by decide +kernel
theorem dX7_markScratch_33 : decode cX7_markScratch 33 = .ok (.istore 4, 2) := by decide +kernel
theorem dX7_markScratch_35 : decode cX7_markScratch 35 = .ok (.aload_n 0, 1) := by decide +kernel
theorem dX7_markScratch_36 : decode cX7_markScratch 36 = .ok (.getfield 21, 3) := by decide +kernel
theorem dX7_markScratch_39 : decode cX7_markScratch 39 = .ok (.iload_n 1, 1) := by decide +kernel
theorem dX7_markScratch_40 : decode cX7_markScratch 40 = .ok (.invokevirtual 86, 3) := by decide +kernel
theorem dX7_markScratch_43 : decode cX7_markScratch 43 = .ok (.iconst 0, 1) := by decide +kernel
theorem dX7_markScratch_44 : decode cX7_markScratch 44 = .ok (.invokestatic 89, 3) := by decide +kernel
theorem dX7_markScratch_47 : decode cX7_markScratch 47 = .ok (.istore 5, 2) := by decide +kernel
theorem dX7_markScratch_49 : decode cX7_markScratch 49 = .ok (.iload 5, 2) := by decide +kernel
theorem dX7_markScratch_51 : decode cX7_markScratch 51 = .ok (.iload 4, 2) := by decide +kernel
theorem dX7_markScratch_53 : decode cX7_markScratch 53 = .ok (.if_icmp .gt 62, 3) := by decide +kernel
theorem dX7_markScratch_56 : decode cX7_markScratch 56 = .ok (.aload_n 0, 1) := by decide +kernel
theorem dX7_markScratch_57 : decode cX7_markScratch 57 = .ok (.getfield 12, 3) := by decide +kernel
theorem dX7_markScratch_60 : decode cX7_markScratch 60 = .ok (.iload 5, 2) := by decide +kernel
theorem dX7_markScratch_62 : decode cX7_markScratch 62 = .ok (.invokevirtual 92, 3) := by decide +kernel
theorem dX7_markScratch_65 : decode cX7_markScratch 65 = .ok (.istore 6, 2) := by decide +kernel
theorem dX7_markScratch_67 : decode cX7_markScratch 67 = .ok (.aload_n 0, 1) := by decide +kernel
theorem dX7_markScratch_68 : decode cX7_markScratch 68 = .ok (.getfield 12, 3) := by decide +kernel
theorem dX7_markScratch_71 : decode cX7_markScratch 71 = .ok (.iload 5, 2) := by decide +kernel
theorem dX7_markScratch_73 : decode cX7_markScratch 73 = .ok (.invokevirtual 95, 3) := by decide +kernel
theorem dX7_markScratch_76 : decode cX7_markScratch 76 = .ok (.istore 7, 2) := by decide +kernel
theorem dX7_markScratch_78 : decode cX7_markScratch 78 = .ok (.aload_n 0, 1) := by decide +kernel
theorem dX7_markScratch_79 : decode cX7_markScratch 79 = .ok (.iload 7, 2) := by decide +kernel
theorem dX7_markScratch_81 : decode cX7_markScratch 81 = .ok (.iload_n 2, 1) := by decide +kernel
theorem dX7_markScratch_82 : decode cX7_markScratch 82 = .ok (.iload 6, 2) := by decide +kernel
theorem dX7_markScratch_84 : decode cX7_markScratch 84 = .ok (.imul, 1) := by decide +kernel
theorem dX7_markScratch_85 : decode cX7_markScratch 85 = .ok (.sipush 360, 3) := by decide +kernel
theorem dX7_markScratch_88 : decode cX7_markScratch 88 = .ok (.idiv, 1) := by decide +kernel
theorem dX7_markScratch_89 : decode cX7_markScratch 89 = .ok (.iadd, 1) := by decide +kernel
theorem dX7_markScratch_90 : decode cX7_markScratch 90 = .ok (.iload 7, 2) := by decide +kernel
theorem dX7_markScratch_92 : decode cX7_markScratch 92 = .ok (.iload_n 3, 1) := by decide +kernel
theorem dX7_markScratch_93 : decode cX7_markScratch 93 = .ok (.iload 6, 2) := by decide +kernel
theorem dX7_markScratch_95 : decode cX7_markScratch 95 = .ok (.imul, 1) := by decide +kernel
theorem dX7_markScratch_96 : decode cX7_markScratch 96 = .ok (.iconst 1, 1) := by decide +kernel
theorem dX7_markScratch_97 : decode cX7_markScratch 97 = .ok (.isub, 1) := by decide +kernel
theorem dX7_markScratch_98 : decode cX7_markScratch 98 = .ok (.sipush 360, 3) := by decide +kernel
theorem dX7_markScratch_101 : decode cX7_markScratch 101 = .ok (.idiv, 1) := by decide +kernel
theorem dX7_markScratch_102 : decode cX7_markScratch 102 = .ok (.iadd, 1) := by decide +kernel
theorem dX7_markScratch_103 : decode cX7_markScratch 103 = .ok (.iconst 1, 1) := by decide +kernel
theorem dX7_markScratch_104 : decode cX7_markScratch 104 = .ok (.iload_n 1, 1) := by decide +kernel
theorem dX7_markScratch_105 : decode cX7_markScratch 105 = .ok (.ishl, 1) := by decide +kernel
theorem dX7_markScratch_106 : decode cX7_markScratch 106 = .ok (.invokevirtual 98, 3) := by decide +kernel
theorem dX7_markScratch_109 : decode cX7_markScratch 109 = .ok (.iinc 5 1, 3) := by decide +kernel
theorem dX7_markScratch_112 : decode cX7_markScratch 112 = .ok (.goto (-63), 3) := by decide +kernel
theorem dX7_markScratch_115 : decode cX7_markScratch 115 = .ok (.return_, 1) := by decide +kernel
theorem dX7_markRow_0 : decode cX7_markRow 0 = .ok (.iload_n 1, 1) := by decide +kernel
theorem dX7_markRow_1 : decode cX7_markRow 1 = .ok (.iconst 0, 1) := by decide +kernel
theorem dX7_markRow_2 : decode cX7_markRow 2 = .ok (.invokestatic 89, 3) := by decide +kernel
theorem dX7_markRow_5 : decode cX7_markRow 5 = .ok (.istore 4, 2) := by decide +kernel
theorem dX7_markRow_7 : decode cX7_markRow 7 = .ok (.iload 4, 2) := by decide +kernel
theorem dX7_markRow_9 : decode cX7_markRow 9 = .ok (.iload_n 2, 1) := by decide +kernel
theorem dX7_markRow_10 : decode cX7_markRow 10 = .ok (.if_icmp .gt 30, 3) := by decide +kernel
theorem dX7_markRow_13 : decode cX7_markRow 13 = .ok (.iload 4, 2) := by decide +kernel
theorem dX7_markRow_15 : decode cX7_markRow 15 = .ok (.aload_n 0, 1) := by decide +kernel
theorem dX7_markRow_16 : decode cX7_markRow 16 = .ok (.getfield 25, 3) := by decide +kernel
theorem dX7_markRow_19 : decode cX7_markRow 19 = .ok (.arraylength, 1) := by decide +kernel
theorem dX7_markRow_20 : decode cX7_markRow 20 = .ok (.if_icmp .ge 20, 3) := by decide +kernel
theorem dX7_markRow_23 : decode cX7_markRow 23 = .ok (.aload_n 0, 1) := by decide +kernel
theorem dX7_markRow_24 : decode cX7_markRow 24 = .ok (.getfield 25, 3) := by decide +kernel
theorem dX7_markRow_27 : decode cX7_markRow 27 = .ok (.iload 4, 2) := by decide +kernel
theorem dX7_markRow_29 : decode cX7_markRow 29 = .ok (.dup2, 1) := by decide +kernel
theorem dX7_markRow_30 : decode cX7_markRow 30 = .ok (.iaload, 1) := by decide +kernel
theorem dX7_markRow_31 : decode cX7_markRow 31 = .ok (.iload_n 3, 1) := by decide +kernel
theorem dX7_markRow_32 : decode cX7_markRow 32 = .ok (.ior, 1) := by decide +kernel
theorem dX7_markRow_33 : decode cX7_markRow 33 = .ok (.iastore, 1) := by decide +kernel
theorem dX7_markRow_34 : decode cX7_markRow 34 = .ok (.iinc 4 1, 3) := by decide +kernel
theorem dX7_markRow_37 : decode cX7_markRow 37 = .ok (.goto (-30), 3) := by decide +kernel
theorem dX7_markRow_40 : decode cX7_markRow 40 = .ok (.return_, 1) := by decide +kernel
theorem dX7_judge_0 : decode cX7_judge 0 = .ok (.aload_n 0, 1) := by decide +kernel
theorem dX7_judge_1 : decode cX7_judge 1 = .ok (.getfield 12, 3) := by decide +kernel
theorem dX7_judge_4 : decode cX7_judge 4 = .ok (.invokevirtual 102, 3) := by decide +kernel
theorem dX7_judge_7 : decode cX7_judge 7 = .ok (.istore_n 2, 1) := by decide +kernel
theorem dX7_judge_8 : decode cX7_judge 8 = .ok (.iconst 0, 1) := by decide +kernel
theorem dX7_judge_9 : decode cX7_judge 9 = .ok (.istore_n 3, 1) := by decide +kernel
theorem dX7_judge_10 : decode cX7_judge 10 = .ok (.iload_n 3, 1) := by decide +kernel
theorem dX7_judge_11 : decode cX7_judge 11 = .ok (.iload_n 2, 1) := by decide +kernel
theorem dX7_judge_12 : decode cX7_judge 12 = .ok (.if_icmp .ge 22, 3) := by decide +kernel
theorem dX7_judge_15 : decode cX7_judge 15 = .ok (.aload_n 0, 1) := by decide +kernel
theorem dX7_judge_16 : decode cX7_judge 16 = .ok (.iload_n 3, 1) := by decide +kernel
theorem dX7_judge_17 : decode cX7_judge 17 = .ok (.iload_n 3, 1) := by decide +kernel
theorem dX7_judge_18 : decode cX7_judge 18 = .ok (.iconst 5, 1) := by decide +kernel
theorem dX7_judge_19 : decode cX7_judge 19 = .ok (.iadd, 1) := by decide +kernel
theorem dX7_judge_20 : decode cX7_judge 20 = .ok (.iload_n 2, 1) := by decide +kernel
theorem dX7_judge_21 : decode cX7_judge 21 = .ok (.invokestatic 80, 3) := by decide +kernel
theorem dX7_judge_24 : decode cX7_judge 24 = .ok (.iload_n 1, 1) := by decide +kernel
theorem dX7_judge_25 : decode cX7_judge 25 = .ok (.invokevirtual 106, 3) := by decide +kernel
theorem dX7_judge_28 : decode cX7_judge 28 = .ok (.iinc 3 5, 3) := by decide +kernel
theorem dX7_judge_31 : decode cX7_judge 31 = .ok (.goto (-21), 3) := by decide +kernel
theorem dX7_judge_34 : decode cX7_judge 34 = .ok (.iconst 0, 1) := by decide +kernel
theorem dX7_judge_35 : decode cX7_judge 35 = .ok (.istore_n 3, 1) := by decide +kernel
theorem dX7_judge_36 : decode cX7_judge 36 = .ok (.iload_n 3, 1) := by decide +kernel
theorem dX7_judge_37 : decode cX7_judge 37 = .ok (.iload_n 2, 1) := by decide +kernel
theorem dX7_judge_38 : decode cX7_judge 38 = .ok (.if_icmp .ge 39, 3) := by decide +kernel
theorem dX7_judge_41 : decode cX7_judge 41 = .ok (.aload_n 0, 1) := by decide +kernel
theorem dX7_judge_42 : decode cX7_judge 42 = .ok (.getfield 29, 3) := by decide +kernel
theorem dX7_judge_45 : decode cX7_judge 45 = .ok (.iload_n 3, 1) := by decide +kernel
theorem dX7_judge_46 : decode cX7_judge 46 = .ok (.invokestatic 109, 3) := by decide +kernel
theorem dX7_judge_49 : decode cX7_judge 49 = .ok (.iconst 3, 1) := by decide +kernel
theorem dX7_judge_50 : decode cX7_judge 50 = .ok (.if_icmp .ne 21, 3) := by decide +kernel
theorem dX7_judge_53 : decode cX7_judge 53 = .ok (.aload_n 0, 1) := by decide +kernel
theorem dX7_judge_54 : decode cX7_judge 54 = .ok (.iload_n 3, 1) := by decide +kernel
theorem dX7_judge_55 : decode cX7_judge 55 = .ok (.iload_n 2, 1) := by decide +kernel
theorem dX7_judge_56 : decode cX7_judge 56 = .ok (.invokevirtual 113, 3) := by decide +kernel
theorem dX7_judge_59 : decode cX7_judge 59 = .ok (.ifCond .eq 12, 3) := by decide +kernel
theorem dX7_judge_62 : decode cX7_judge 62 = .ok (.aload_n 0, 1) := by decide +kernel
theorem dX7_judge_63 : decode cX7_judge 63 = .ok (.getfield 29, 3) := by decide +kernel
theorem dX7_judge_66 : decode cX7_judge 66 = .ok (.iload_n 3, 1) := by decide +kernel
theorem dX7_judge_67 : decode cX7_judge 67 = .ok (.iconst 2, 1) := by decide +kernel
theorem dX7_judge_68 : decode cX7_judge 68 = .ok (.invokestatic 117, 3) := by decide +kernel
theorem dX7_judge_71 : decode cX7_judge 71 = .ok (.iinc 3 1, 3) := by decide +kernel
theorem dX7_judge_74 : decode cX7_judge 74 = .ok (.goto (-38), 3) := by decide +kernel
theorem dX7_judge_77 : decode cX7_judge 77 = .ok (.return_, 1) := by decide +kernel
theorem dX7_judgeGroup_0 : decode cX7_judgeGroup 0 = .ok (.iload_n 2, 1) := by decide +kernel
theorem dX7_judgeGroup_1 : decode cX7_judgeGroup 1 = .ok (.iload_n 1, 1) := by decide +kernel
theorem dX7_judgeGroup_2 : decode cX7_judgeGroup 2 = .ok (.isub, 1) := by decide +kernel
theorem dX7_judgeGroup_3 : decode cX7_judgeGroup 3 = .ok (.iconst 5, 1) := by decide +kernel
theorem dX7_judgeGroup_4 : decode cX7_judgeGroup 4 = .ok (.if_icmp .ne 18, 3) := by decide +kernel
theorem dX7_judgeGroup_7 : decode cX7_judgeGroup 7 = .ok (.aload_n 0, 1) := by decide +kernel
theorem dX7_judgeGroup_8 : decode cX7_judgeGroup 8 = .ok (.iload_n 1, 1) := by decide +kernel
theorem dX7_judgeGroup_9 : decode cX7_judgeGroup 9 = .ok (.iload_n 2, 1) := by decide +kernel
theorem dX7_judgeGroup_10 : decode cX7_judgeGroup 10 = .ok (.iload_n 3, 1) := by decide +kernel
theorem dX7_judgeGroup_11 : decode cX7_judgeGroup 11 = .ok (.invokevirtual 121, 3) := by decide +kernel
theorem dX7_judgeGroup_14 : decode cX7_judgeGroup 14 = .ok (.iconst 1, 1) := by decide +kernel
theorem dX7_judgeGroup_15 : decode cX7_judgeGroup 15 = .ok (.if_icmp .ne 7, 3) := by decide +kernel
theorem dX7_judgeGroup_18 : decode cX7_judgeGroup 18 = .ok (.iconst 1, 1) := by decide +kernel
theorem dX7_judgeGroup_19 : decode cX7_judgeGroup 19 = .ok (.goto 4, 3) := by decide +kernel
theorem dX7_judgeGroup_22 : decode cX7_judgeGroup 22 = .ok (.iconst 0, 1) := by decide +kernel
theorem dX7_judgeGroup_23 : decode cX7_judgeGroup 23 = .ok (.istore 4, 2) := by decide +kernel
theorem dX7_judgeGroup_25 : decode cX7_judgeGroup 25 = .ok (.iload 4, 2) := by decide +kernel
theorem dX7_judgeGroup_27 : decode cX7_judgeGroup 27 = .ok (.ifCond .eq 7, 3) := by decide +kernel
theorem dX7_judgeGroup_30 : decode cX7_judgeGroup 30 = .ok (.iconst 1, 1) := by decide +kernel
theorem dX7_judgeGroup_31 : decode cX7_judgeGroup 31 = .ok (.goto 4, 3) := by decide +kernel
theorem dX7_judgeGroup_34 : decode cX7_judgeGroup 34 = .ok (.iconst 3, 1) := by decide +kernel
theorem dX7_judgeGroup_35 : decode cX7_judgeGroup 35 = .ok (.istore 5, 2) := by decide +kernel
theorem dX7_judgeGroup_37 : decode cX7_judgeGroup 37 = .ok (.iload_n 1, 1) := by decide +kernel
theorem dX7_judgeGroup_38 : decode cX7_judgeGroup 38 = .ok (.istore 6, 2) := by decide +kernel
theorem dX7_judgeGroup_40 : decode cX7_judgeGroup 40 = .ok (.iload 6, 2) := by decide +kernel
theorem dX7_judgeGroup_42 : decode cX7_judgeGroup 42 = .ok (.iload_n 2, 1) := by decide +kernel
theorem dX7_judgeGroup_43 : decode cX7_judgeGroup 43 = .ok (.if_icmp .ge 38, 3) := by decide +kernel
theorem dX7_judgeGroup_46 : decode cX7_judgeGroup 46 = .ok (.aload_n 0, 1) := by decide +kernel
theorem dX7_judgeGroup_47 : decode cX7_judgeGroup 47 = .ok (.getfield 29, 3) := by decide +kernel
theorem dX7_judgeGroup_50 : decode cX7_judgeGroup 50 = .ok (.iload 6, 2) := by decide +kernel
theorem dX7_judgeGroup_52 : decode cX7_judgeGroup 52 = .ok (.aload_n 0, 1) := by decide +kernel
theorem dX7_judgeGroup_53 : decode cX7_judgeGroup 53 = .ok (.getfield 25, 3) := by decide +kernel
theorem dX7_judgeGroup_56 : decode cX7_judgeGroup 56 = .ok (.iload 6, 2) := by decide +kernel
theorem dX7_judgeGroup_58 : decode cX7_judgeGroup 58 = .ok (.invokestatic 109, 3) := by decide +kernel
theorem dX7_judgeGroup_61 : decode cX7_judgeGroup 61 = .ok (.iload_n 3, 1) := by decide +kernel
theorem dX7_judgeGroup_62 : decode cX7_judgeGroup 62 = .ok (.iand, 1) := by decide +kernel
theorem dX7_judgeGroup_63 : decode cX7_judgeGroup 63 = .ok (.ifCond .ne 7, 3) := by decide +kernel
theorem dX7_judgeGroup_66 : decode cX7_judgeGroup 66 = .ok (.iconst 0, 1) := by decide +kernel
theorem dX7_judgeGroup_67 : decode cX7_judgeGroup 67 = .ok (.goto 5, 3) := by decide +kernel
theorem dX7_judgeGroup_70 : decode cX7_judgeGroup 70 = .ok (.iload 5, 2) := by decide +kernel
theorem dX7_judgeGroup_72 : decode cX7_judgeGroup 72 = .ok (.invokestatic 117, 3) := by decide +kernel
theorem dX7_judgeGroup_75 : decode cX7_judgeGroup 75 = .ok (.iinc 6 1, 3) := by decide +kernel
theorem dX7_judgeGroup_78 : decode cX7_judgeGroup 78 = .ok (.goto (-38), 3) := by decide +kernel
theorem dX7_judgeGroup_81 : decode cX7_judgeGroup 81 = .ok (.return_, 1) := by decide +kernel
theorem dX7_canBeFilled_0 : decode cX7_canBeFilled 0 = .ok (.iload_n 1, 1) := by decide +kernel
theorem dX7_canBeFilled_1 : decode cX7_canBeFilled 1 = .ok (.invokestatic 125, 3) := by decide +kernel
theorem dX7_canBeFilled_4 : decode cX7_canBeFilled 4 = .ok (.istore_n 3, 1) := by decide +kernel
theorem dX7_canBeFilled_5 : decode cX7_canBeFilled 5 = .ok (.iload_n 1, 1) := by decide +kernel
theorem dX7_canBeFilled_6 : decode cX7_canBeFilled 6 = .ok (.invokestatic 128, 3) := by decide +kernel
theorem dX7_canBeFilled_9 : decode cX7_canBeFilled 9 = .ok (.istore 4, 2) := by decide +kernel
theorem dX7_canBeFilled_11 : decode cX7_canBeFilled 11 = .ok (.iload_n 1, 1) := by decide +kernel
theorem dX7_canBeFilled_12 : decode cX7_canBeFilled 12 = .ok (.invokestatic 131, 3) := by decide +kernel
theorem dX7_canBeFilled_15 : decode cX7_canBeFilled 15 = .ok (.ifCond .ne 42, 3) := by decide +kernel
theorem dX7_canBeFilled_18 : decode cX7_canBeFilled 18 = .ok (.iload_n 3, 1) := by decide +kernel
theorem dX7_canBeFilled_19 : decode cX7_canBeFilled 19 = .ok (.ifCond .lt 38, 3) := by decide +kernel
theorem dX7_canBeFilled_22 : decode cX7_canBeFilled 22 = .ok (.iload 4, 2) := by decide +kernel
theorem dX7_canBeFilled_24 : decode cX7_canBeFilled 24 = .ok (.iload_n 2, 1) := by decide +kernel
theorem dX7_canBeFilled_25 : decode cX7_canBeFilled 25 = .ok (.if_icmp .ge 32, 3) := by decide +kernel
theorem dX7_canBeFilled_28 : decode cX7_canBeFilled 28 = .ok (.aload_n 0, 1) := by decide +kernel
theorem dX7_canBeFilled_29 : decode cX7_canBeFilled 29 = .ok (.getfield 29, 3) := by decide +kernel
theorem dX7_canBeFilled_32 : decode cX7_canBeFilled 32 = .ok (.iload_n 3, 1) := by decide +kernel
theorem dX7_canBeFilled_33 : decode cX7_canBeFilled 33 = .ok (.invokestatic 109, 3) := by decide +kernel
theorem dX7_canBeFilled_36 : decode cX7_canBeFilled 36 = .ok (.iconst 1, 1) := by decide +kernel
theorem dX7_canBeFilled_37 : decode cX7_canBeFilled 37 = .ok (.if_icmp .gt 20, 3) := by decide +kernel
theorem dX7_canBeFilled_40 : decode cX7_canBeFilled 40 = .ok (.aload_n 0, 1) := by decide +kernel
theorem dX7_canBeFilled_41 : decode cX7_canBeFilled 41 = .ok (.getfield 29, 3) := by decide +kernel
theorem dX7_canBeFilled_44 : decode cX7_canBeFilled 44 = .ok (.iload 4, 2) := by decide +kernel
theorem dX7_canBeFilled_46 : decode cX7_canBeFilled 46 = .ok (.invokestatic 109, 3) := by decide +kernel
theorem dX7_canBeFilled_49 : decode cX7_canBeFilled 49 = .ok (.iconst 1, 1) := by decide +kernel
theorem dX7_canBeFilled_50 : decode cX7_canBeFilled 50 = .ok (.if_icmp .gt 7, 3) := by decide +kernel
theorem dX7_canBeFilled_53 : decode cX7_canBeFilled 53 = .ok (.iconst 1, 1) := by decide +kernel
theorem dX7_canBeFilled_54 : decode cX7_canBeFilled 54 = .ok (.goto 4, 3) := by decide +kernel
theorem dX7_canBeFilled_57 : decode cX7_canBeFilled 57 = .ok (.iconst 0, 1) := by decide +kernel
theorem dX7_canBeFilled_58 : decode cX7_canBeFilled 58 = .ok (.ireturn, 1) := by decide +kernel
theorem dX7_missingWithout_0 : decode cX7_missingWithout 0 = .ok (.aload_n 0, 1) := by decide +kernel
theorem dX7_missingWithout_1 : decode cX7_missingWithout 1 = .ok (.iconst 1, 1) := by decide +kernel
theorem dX7_missingWithout_2 : decode cX7_missingWithout 2 = .ok (.iload_n 1, 1) := by decide +kernel
theorem dX7_missingWithout_3 : decode cX7_missingWithout 3 = .ok (.ishl, 1) := by decide +kernel
theorem dX7_missingWithout_4 : decode cX7_missingWithout 4 = .ok (.iconst (-1), 1) := by decide +kernel
theorem dX7_missingWithout_5 : decode cX7_missingWithout 5 = .ok (.ixor, 1) := by decide +kernel
theorem dX7_missingWithout_6 : decode cX7_missingWithout 6 = .ok (.invokevirtual 67, 3) := by decide +kernel
theorem dX7_missingWithout_9 : decode cX7_missingWithout 9 = .ok (.aload_n 0, 1) := by decide +kernel
theorem dX7_missingWithout_10 : decode cX7_missingWithout 10 = .ok (.iconst 3, 1) := by decide +kernel
theorem dX7_missingWithout_11 : decode cX7_missingWithout 11 = .ok (.invokevirtual 135, 3) := by decide +kernel
theorem dX7_missingWithout_14 : decode cX7_missingWithout 14 = .ok (.ireturn, 1) := by decide +kernel
theorem dX7_isDamaged_0 : decode cX7_isDamaged 0 = .ok (.aload_n 0, 1) := by decide +kernel
theorem dX7_isDamaged_1 : decode cX7_isDamaged 1 = .ok (.getfield 25, 3) := by decide +kernel
theorem dX7_isDamaged_4 : decode cX7_isDamaged 4 = .ok (.iload_n 1, 1) := by decide +kernel
theorem dX7_isDamaged_5 : decode cX7_isDamaged 5 = .ok (.invokestatic 109, 3) := by decide +kernel
theorem dX7_isDamaged_8 : decode cX7_isDamaged 8 = .ok (.ifCond .eq 7, 3) := by decide +kernel
theorem dX7_isDamaged_11 : decode cX7_isDamaged 11 = .ok (.iconst 1, 1) := by decide +kernel
theorem dX7_isDamaged_12 : decode cX7_isDamaged 12 = .ok (.goto 4, 3) := by decide +kernel
theorem dX7_isDamaged_15 : decode cX7_isDamaged 15 = .ok (.iconst 0, 1) := by decide +kernel
theorem dX7_isDamaged_16 : decode cX7_isDamaged 16 = .ok (.ireturn, 1) := by decide +kernel
theorem dX7_howIs_0 : decode cX7_howIs 0 = .ok (.aload_n 0, 1) := by decide +kernel
theorem dX7_howIs_1 : decode cX7_howIs 1 = .ok (.getfield 29, 3) := by decide +kernel
theorem dX7_howIs_4 : decode cX7_howIs 4 = .ok (.iload_n 1, 1) := by decide +kernel
theorem dX7_howIs_5 : decode cX7_howIs 5 = .ok (.invokestatic 109, 3) := by decide +kernel
theorem dX7_howIs_8 : decode cX7_howIs 8 = .ok (.ireturn, 1) := by decide +kernel
theorem dX7_damagedIn_0 : decode cX7_damagedIn 0 = .ok (.iconst 0, 1) := by decide +kernel
theorem dX7_damagedIn_1 : decode cX7_damagedIn 1 = .ok (.istore 4, 2) := by decide +kernel
theorem dX7_damagedIn_3 : decode cX7_damagedIn 3 = .ok (.iload_n 1, 1) := by decide +kernel
theorem dX7_damagedIn_4 : decode cX7_damagedIn 4 = .ok (.iconst 0, 1) := by decide +kernel
theorem dX7_damagedIn_5 : decode cX7_damagedIn 5 = .ok (.invokestatic 89, 3) := by decide +kernel
theorem dX7_damagedIn_8 : decode cX7_damagedIn 8 = .ok (.istore 5, 2) := by decide +kernel
theorem dX7_damagedIn_10 : decode cX7_damagedIn 10 = .ok (.iload 5, 2) := by decide +kernel
theorem dX7_damagedIn_12 : decode cX7_damagedIn 12 = .ok (.iload_n 2, 1) := by decide +kernel
theorem dX7_damagedIn_13 : decode cX7_damagedIn 13 = .ok (.if_icmp .ge 34, 3) := by decide +kernel
theorem dX7_damagedIn_16 : decode cX7_damagedIn 16 = .ok (.iload 5, 2) := by decide +kernel
theorem dX7_damagedIn_18 : decode cX7_damagedIn 18 = .ok (.aload_n 0, 1) := by decide +kernel
theorem dX7_damagedIn_19 : decode cX7_damagedIn 19 = .ok (.getfield 25, 3) := by decide +kernel
theorem dX7_damagedIn_22 : decode cX7_damagedIn 22 = .ok (.arraylength, 1) := by decide +kernel
theorem dX7_damagedIn_23 : decode cX7_damagedIn 23 = .ok (.if_icmp .ge 24, 3) := by decide +kernel
theorem dX7_damagedIn_26 : decode cX7_damagedIn 26 = .ok (.aload_n 0, 1) := by decide +kernel
theorem dX7_damagedIn_27 : decode cX7_damagedIn 27 = .ok (.getfield 25, 3) := by decide +kernel
theorem dX7_damagedIn_30 : decode cX7_damagedIn 30 = .ok (.iload 5, 2) := by decide +kernel
theorem dX7_damagedIn_32 : decode cX7_damagedIn 32 = .ok (.iaload, 1) := by decide +kernel
theorem dX7_damagedIn_33 : decode cX7_damagedIn 33 = .ok (.iload_n 3, 1) := by decide +kernel
theorem dX7_damagedIn_34 : decode cX7_damagedIn 34 = .ok (.iand, 1) := by decide +kernel
theorem dX7_damagedIn_35 : decode cX7_damagedIn 35 = .ok (.ifCond .eq 6, 3) := by decide +kernel
theorem dX7_damagedIn_38 : decode cX7_damagedIn 38 = .ok (.iinc 4 1, 3) := by decide +kernel
theorem dX7_damagedIn_41 : decode cX7_damagedIn 41 = .ok (.iinc 5 1, 3) := by decide +kernel
theorem dX7_damagedIn_44 : decode cX7_damagedIn 44 = .ok (.goto (-34), 3) := by decide +kernel
theorem dX7_damagedIn_47 : decode cX7_damagedIn 47 = .ok (.iload 4, 2) := by decide +kernel
theorem dX7_damagedIn_49 : decode cX7_damagedIn 49 = .ok (.ireturn, 1) := by decide +kernel
theorem dX7_framesThatAre_0 : decode cX7_framesThatAre 0 = .ok (.iconst 0, 1) := by decide +kernel
theorem dX7_framesThatAre_1 : decode cX7_framesThatAre 1 = .ok (.istore_n 2, 1) := by decide +kernel
theorem dX7_framesThatAre_2 : decode cX7_framesThatAre 2 = .ok (.aload_n 0, 1) := by decide +kernel
theorem dX7_framesThatAre_3 : decode cX7_framesThatAre 3 = .ok (.getfield 12, 3) := by decide +kernel
theorem dX7_framesThatAre_6 : decode cX7_framesThatAre 6 = .ok (.invokevirtual 102, 3) := by decide +kernel
theorem dX7_framesThatAre_9 : decode cX7_framesThatAre 9 = .ok (.istore_n 3, 1) := by decide +kernel
theorem dX7_framesThatAre_10 : decode cX7_framesThatAre 10 = .ok (.iconst 0, 1) := by decide +kernel
theorem dX7_framesThatAre_11 : decode cX7_framesThatAre 11 = .ok (.istore 4, 2) := by decide +kernel
theorem dX7_framesThatAre_13 : decode cX7_framesThatAre 13 = .ok (.iload 4, 2) := by decide +kernel
theorem dX7_framesThatAre_15 : decode cX7_framesThatAre 15 = .ok (.iload_n 3, 1) := by decide +kernel
theorem dX7_framesThatAre_16 : decode cX7_framesThatAre 16 = .ok (.if_icmp .ge 33, 3) := by decide +kernel
theorem dX7_framesThatAre_19 : decode cX7_framesThatAre 19 = .ok (.iload 4, 2) := by decide +kernel
theorem dX7_framesThatAre_21 : decode cX7_framesThatAre 21 = .ok (.aload_n 0, 1) := by decide +kernel
theorem dX7_framesThatAre_22 : decode cX7_framesThatAre 22 = .ok (.getfield 29, 3) := by decide +kernel
theorem dX7_framesThatAre_25 : decode cX7_framesThatAre 25 = .ok (.arraylength, 1) := by decide +kernel
theorem dX7_framesThatAre_26 : decode cX7_framesThatAre 26 = .ok (.if_icmp .ge 23, 3) := by decide +kernel
theorem dX7_framesThatAre_29 : decode cX7_framesThatAre 29 = .ok (.aload_n 0, 1) := by decide +kernel
theorem dX7_framesThatAre_30 : decode cX7_framesThatAre 30 = .ok (.getfield 29, 3) := by decide +kernel
theorem dX7_framesThatAre_33 : decode cX7_framesThatAre 33 = .ok (.iload 4, 2) := by decide +kernel
theorem dX7_framesThatAre_35 : decode cX7_framesThatAre 35 = .ok (.iaload, 1) := by decide +kernel
theorem dX7_framesThatAre_36 : decode cX7_framesThatAre 36 = .ok (.iload_n 1, 1) := by decide +kernel
theorem dX7_framesThatAre_37 : decode cX7_framesThatAre 37 = .ok (.if_icmp .ne 6, 3) := by decide +kernel
theorem dX7_framesThatAre_40 : decode cX7_framesThatAre 40 = .ok (.iinc 2 1, 3) := by decide +kernel
theorem dX7_framesThatAre_43 : decode cX7_framesThatAre 43 = .ok (.iinc 4 1, 3) := by decide +kernel
theorem dX7_framesThatAre_46 : decode cX7_framesThatAre 46 = .ok (.goto (-33), 3) := by decide +kernel
theorem dX7_framesThatAre_49 : decode cX7_framesThatAre 49 = .ok (.iload_n 2, 1) := by decide +kernel
theorem dX7_framesThatAre_50 : decode cX7_framesThatAre 50 = .ok (.ireturn, 1) := by decide +kernel
theorem dX8_init_0 : decode cX8_init 0 = .ok (.aload_n 0, 1) := by decide +kernel
theorem dX8_init_1 : decode cX8_init 1 = .ok (.invokespecial 3, 3) := by decide +kernel
theorem dX8_init_4 : decode cX8_init 4 = .ok (.aload_n 0, 1) := by decide +kernel
theorem dX8_init_5 : decode cX8_init 5 = .ok (.bipush 40, 2) := by decide +kernel
theorem dX8_init_7 : decode cX8_init 7 = .ok (.newarray .int, 2) := by decide +kernel
theorem dX8_init_9 : decode cX8_init 9 = .ok (.putfield 11, 3) := by decide +kernel
theorem dX8_init_12 : decode cX8_init 12 = .ok (.aload_n 0, 1) := by decide +kernel
theorem dX8_init_13 : decode cX8_init 13 = .ok (.bipush 40, 2) := by decide +kernel
theorem dX8_init_15 : decode cX8_init 15 = .ok (.newarray .int, 2) := by decide +kernel
theorem dX8_init_17 : decode cX8_init 17 = .ok (.putfield 15, 3) := by decide +kernel
theorem dX8_init_20 : decode cX8_init 20 = .ok (.aload_n 0, 1) := by decide +kernel
theorem dX8_init_21 : decode cX8_init 21 = .ok (.iconst 0, 1) := by decide +kernel
theorem dX8_init_22 : decode cX8_init 22 = .ok (.putfield 18, 3) := by decide +kernel
theorem dX8_init_25 : decode cX8_init 25 = .ok (.return_, 1) := by decide +kernel
theorem dX8_atFirst_0 : decode cX8_atFirst 0 = .ok (.bipush 7, 2) := by decide +kernel
theorem dX8_atFirst_2 : decode cX8_atFirst 2 = .ok (.iload_n 0, 1) := by decide +kernel
theorem dX8_atFirst_3 : decode cX8_atFirst 3 = .ok (.imul, 1) := by decide +kernel
theorem dX8_atFirst_4 : decode cX8_atFirst 4 = .ok (.iconst 3, 1) := by decide +kernel
theorem dX8_atFirst_5 : decode cX8_atFirst 5 = .ok (.iload_n 1, 1) := by decide +kernel
theorem dX8_atFirst_6 : decode cX8_atFirst 6 = .ok (.imul, 1) := by decide +kernel
theorem dX8_atFirst_7 : decode cX8_atFirst 7 = .ok (.iadd, 1) := by decide +kernel
theorem dX8_atFirst_8 : decode cX8_atFirst 8 = .ok (.bipush 16, 2) := by decide +kernel
theorem dX8_atFirst_10 : decode cX8_atFirst 10 = .ok (.irem, 1) := by decide +kernel
theorem dX8_atFirst_11 : decode cX8_atFirst 11 = .ok (.ireturn, 1) := by decide +kernel
theorem dX8_standsAt_0 : decode cX8_standsAt 0 = .ok (.iload_n 1, 1) := by decide +kernel
theorem dX8_standsAt_1 : decode cX8_standsAt 1 = .ok (.invokestatic 22, 3) := by decide +kernel
theorem dX8_standsAt_4 : decode cX8_standsAt 4 = .ok (.ifCond .ne 10, 3) := by decide +kernel
theorem dX8_standsAt_7 : decode cX8_standsAt 7 = .ok (.aload_n 0, 1) := by decide +kernel
theorem dX8_standsAt_8 : decode cX8_standsAt 8 = .ok (.iload_n 1, 1) := by decide +kernel
theorem dX8_standsAt_9 : decode cX8_standsAt 9 = .ok (.iload_n 2, 1) := by decide +kernel
theorem dX8_standsAt_10 : decode cX8_standsAt 10 = .ok (.invokevirtual 28, 3) := by decide +kernel
theorem dX8_standsAt_13 : decode cX8_standsAt 13 = .ok (.ireturn, 1) := by decide +kernel
theorem dX8_standsAt_14 : decode cX8_standsAt 14 = .ok (.iconst 0, 1) := by decide +kernel
theorem dX8_standsAt_15 : decode cX8_standsAt 15 = .ok (.istore_n 3, 1) := by decide +kernel
theorem dX8_standsAt_16 : decode cX8_standsAt 16 = .ok (.iload_n 1, 1) := by decide +kernel
theorem dX8_standsAt_17 : decode cX8_standsAt 17 = .ok (.iconst 5, 1) := by decide +kernel
theorem dX8_standsAt_18 : decode cX8_standsAt 18 = .ok (.isub, 1) := by decide +kernel
theorem dX8_standsAt_19 : decode cX8_standsAt 19 = .ok (.iconst 1, 1) := by decide +kernel
theorem dX8_standsAt_20 : decode cX8_standsAt 20 = .ok (.iadd, 1) := by decide +kernel
theorem dX8_standsAt_21 : decode cX8_standsAt 21 = .ok (.istore 4, 2) := by decide +kernel
theorem dX8_standsAt_23 : decode cX8_standsAt 23 = .ok (.iload 4, 2) := by decide +kernel
theorem dX8_standsAt_25 : decode cX8_standsAt 25 = .ok (.iload_n 1, 1) := by decide +kernel
theorem dX8_standsAt_26 : decode cX8_standsAt 26 = .ok (.if_icmp .ge 19, 3) := by decide +kernel
theorem dX8_standsAt_29 : decode cX8_standsAt 29 = .ok (.iload_n 3, 1) := by decide +kernel
theorem dX8_standsAt_30 : decode cX8_standsAt 30 = .ok (.aload_n 0, 1) := by decide +kernel
theorem dX8_standsAt_31 : decode cX8_standsAt 31 = .ok (.iload 4, 2) := by decide +kernel
theorem dX8_standsAt_33 : decode cX8_standsAt 33 = .ok (.iload_n 2, 1) := by decide +kernel
theorem dX8_standsAt_34 : decode cX8_standsAt 34 = .ok (.invokevirtual 28, 3) := by decide +kernel
theorem dX8_standsAt_37 : decode cX8_standsAt 37 = .ok (.iadd, 1) := by decide +kernel
theorem dX8_standsAt_38 : decode cX8_standsAt 38 = .ok (.istore_n 3, 1) := by decide +kernel
theorem dX8_standsAt_39 : decode cX8_standsAt 39 = .ok (.iinc 4 1, 3) := by decide +kernel
theorem dX8_standsAt_42 : decode cX8_standsAt 42 = .ok (.goto (-19), 3) := by decide +kernel
theorem dX8_standsAt_45 : decode cX8_standsAt 45 = .ok (.iload_n 3, 1) := by decide +kernel
theorem dX8_standsAt_46 : decode cX8_standsAt 46 = .ok (.bipush 16, 2) := by decide +kernel
theorem dX8_standsAt_48 : decode cX8_standsAt 48 = .ok (.irem, 1) := by decide +kernel
theorem dX8_standsAt_49 : decode cX8_standsAt 49 = .ok (.ireturn, 1) := by decide +kernel
theorem dX8_dataAt_0 : decode cX8_dataAt 0 = .ok (.aload_n 0, 1) := by decide +kernel
theorem dX8_dataAt_1 : decode cX8_dataAt 1 = .ok (.iload_n 1, 1) := by decide +kernel
theorem dX8_dataAt_2 : decode cX8_dataAt 2 = .ok (.iconst 4, 1) := by decide +kernel
theorem dX8_dataAt_3 : decode cX8_dataAt 3 = .ok (.imul, 1) := by decide +kernel
theorem dX8_dataAt_4 : decode cX8_dataAt 4 = .ok (.iload_n 2, 1) := by decide +kernel
theorem dX8_dataAt_5 : decode cX8_dataAt 5 = .ok (.iadd, 1) := by decide +kernel
theorem dX8_dataAt_6 : decode cX8_dataAt 6 = .ok (.invokevirtual 32, 3) := by decide +kernel
theorem dX8_dataAt_9 : decode cX8_dataAt 9 = .ok (.istore_n 3, 1) := by decide +kernel
theorem dX8_dataAt_10 : decode cX8_dataAt 10 = .ok (.iload_n 3, 1) := by decide +kernel
theorem dX8_dataAt_11 : decode cX8_dataAt 11 = .ok (.ifCond .ge 11, 3) := by decide +kernel
theorem dX8_dataAt_14 : decode cX8_dataAt 14 = .ok (.iload_n 1, 1) := by decide +kernel
theorem dX8_dataAt_15 : decode cX8_dataAt 15 = .ok (.iload_n 2, 1) := by decide +kernel
theorem dX8_dataAt_16 : decode cX8_dataAt 16 = .ok (.invokestatic 36, 3) := by decide +kernel
theorem dX8_dataAt_19 : decode cX8_dataAt 19 = .ok (.goto 11, 3) := by decide +kernel
theorem dX8_dataAt_22 : decode cX8_dataAt 22 = .ok (.aload_n 0, 1) := by decide +kernel
theorem dX8_dataAt_23 : decode cX8_dataAt 23 = .ok (.getfield 15, 3) := by decide +kernel
theorem dX8_dataAt_26 : decode cX8_dataAt 26 = .ok (.iload_n 3, 1) := by decide +kernel
theorem dX8_dataAt_27 : decode cX8_dataAt 27 = .ok (.invokestatic 39, 3) := by decide +kernel
theorem dX8_dataAt_30 : decode cX8_dataAt 30 = .ok (.ireturn, 1) := by decide +kernel
theorem dX8_indexOf_0 : decode cX8_indexOf 0 = .ok (.iconst 0, 1) := by decide +kernel
theorem dX8_indexOf_1 : decode cX8_indexOf 1 = .ok (.istore_n 2, 1) := by decide +kernel
theorem dX8_indexOf_2 : decode cX8_indexOf 2 = .ok (.iload_n 2, 1) := by decide +kernel
theorem dX8_indexOf_3 : decode cX8_indexOf 3 = .ok (.aload_n 0, 1) := by decide +kernel
theorem dX8_indexOf_4 : decode cX8_indexOf 4 = .ok (.getfield 18, 3) := by decide +kernel
theorem dX8_indexOf_7 : decode cX8_indexOf 7 = .ok (.if_icmp .ge 30, 3) := by decide +kernel
theorem dX8_indexOf_10 : decode cX8_indexOf 10 = .ok (.iload_n 2, 1) := by decide +kernel
theorem dX8_indexOf_11 : decode cX8_indexOf 11 = .ok (.aload_n 0, 1) := by decide +kernel
theorem dX8_indexOf_12 : decode cX8_indexOf 12 = .ok (.getfield 11, 3) := by decide +kernel
theorem dX8_indexOf_15 : decode cX8_indexOf 15 = .ok (.arraylength, 1) := by decide +kernel
theorem dX8_indexOf_16 : decode cX8_indexOf 16 = .ok (.if_icmp .ge 21, 3) := by decide +kernel
theorem dX8_indexOf_19 : decode cX8_indexOf 19 = .ok (.aload_n 0, 1) := by decide +kernel
theorem dX8_indexOf_20 : decode cX8_indexOf 20 = .ok (.getfield 11, 3) := by decide +kernel
theorem dX8_indexOf_23 : decode cX8_indexOf 23 = .ok (.iload_n 2, 1) := by decide +kernel
theorem dX8_indexOf_24 : decode cX8_indexOf 24 = .ok (.iaload, 1) := by decide +kernel
theorem dX8_indexOf_25 : decode cX8_indexOf 25 = .ok (.iload_n 1, 1) := by decide +kernel
theorem dX8_indexOf_26 : decode cX8_indexOf 26 = .ok (.if_icmp .ne 5, 3) := by decide +kernel
theorem dX8_indexOf_29 : decode cX8_indexOf 29 = .ok (.iload_n 2, 1) := by decide +kernel
theorem dX8_indexOf_30 : decode cX8_indexOf 30 = .ok (.ireturn, 1) := by decide +kernel
theorem dX8_indexOf_31 : decode cX8_indexOf 31 = .ok (.iinc 2 1, 3) := by decide +kernel
theorem dX8_indexOf_34 : decode cX8_indexOf 34 = .ok (.goto (-32), 3) := by decide +kernel
theorem dX8_indexOf_37 : decode cX8_indexOf 37 = .ok (.iconst (-1), 1) := by decide +kernel
theorem dX8_indexOf_38 : decode cX8_indexOf 38 = .ok (.ireturn, 1) := by decide +kernel
theorem dX8_write_0 : decode cX8_write 0 = .ok (.iload_n 1, 1) := by decide +kernel
theorem dX8_write_1 : decode cX8_write 1 = .ok (.iconst 4, 1) := by decide +kernel
theorem dX8_write_2 : decode cX8_write 2 = .ok (.imul, 1) := by decide +kernel
theorem dX8_write_3 : decode cX8_write 3 = .ok (.iload_n 2, 1) := by decide +kernel
theorem dX8_write_4 : decode cX8_write 4 = .ok (.iadd, 1) := by decide +kernel
theorem dX8_write_5 : decode cX8_write 5 = .ok (.istore 4, 2) := by decide +kernel
theorem dX8_write_7 : decode cX8_write 7 = .ok (.aload_n 0, 1) := by decide +kernel
theorem dX8_write_8 : decode cX8_write 8 = .ok (.iload 4, 2) := by decide +kernel
theorem dX8_write_10 : decode cX8_write 10 = .ok (.invokevirtual 32, 3) := by decide +kernel
theorem dX8_write_13 : decode cX8_write 13 = .ok (.istore 5, 2) := by decide +kernel
theorem dX8_write_15 : decode cX8_write 15 = .ok (.iload_n 3, 1) := by decide +kernel
theorem dX8_write_16 : decode cX8_write 16 = .ok (.iload_n 1, 1) := by decide +kernel
theorem dX8_write_17 : decode cX8_write 17 = .ok (.iload_n 2, 1) := by decide +kernel
theorem dX8_write_18 : decode cX8_write 18 = .ok (.invokestatic 36, 3) := by decide +kernel
theorem dX8_write_21 : decode cX8_write 21 = .ok (.if_icmp .ne 11, 3) := by decide +kernel
theorem dX8_write_24 : decode cX8_write 24 = .ok (.aload_n 0, 1) := by decide +kernel
theorem dX8_write_25 : decode cX8_write 25 = .ok (.iload 5, 2) := by decide +kernel
theorem dX8_write_27 : decode cX8_write 27 = .ok (.invokevirtual 43, 3) := by decide +kernel
theorem dX8_write_30 : decode cX8_write 30 = .ok (.iconst 1, 1) := by decide +kernel
theorem dX8_write_31 : decode cX8_write 31 = .ok (.ireturn, 1) := by decide +kernel
theorem dX8_write_32 : decode cX8_write 32 = .ok (.iload 5, 2) := by decide +kernel
theorem dX8_write_34 : decode cX8_write 34 = .ok (.ifCond .ge 14, 3) := by decide +kernel
theorem dX8_write_37 : decode cX8_write 37 = .ok (.aload_n 0, 1) := by decide +kernel
theorem dX8_write_38 : decode cX8_write 38 = .ok (.getfield 18, 3) := by decide +kernel
theorem dX8_write_41 : decode cX8_write 41 = .ok (.bipush 40, 2) := by decide +kernel
theorem dX8_write_43 : decode cX8_write 43 = .ok (.if_icmp .lt 5, 3) := by decide +kernel
theorem dX8_write_46 : decode cX8_write 46 = .ok (.iconst 0, 1) := by decide +kernel
theorem dX8_write_47 : decode cX8_write 47 = .ok (.ireturn, 1) := by decide +kernel
theorem dX8_write_48 : decode cX8_write 48 = .ok (.iload 5, 2) := by decide +kernel
theorem dX8_write_50 : decode cX8_write 50 = .ok (.ifCond .ge 19, 3) := by decide +kernel
theorem dX8_write_53 : decode cX8_write 53 = .ok (.aload_n 0, 1) := by decide +kernel
theorem dX8_write_54 : decode cX8_write 54 = .ok (.getfield 18, 3) := by decide +kernel
theorem dX8_write_57 : decode cX8_write 57 = .ok (.istore 5, 2) := by decide +kernel
theorem dX8_write_59 : decode cX8_write 59 = .ok (.aload_n 0, 1) := by decide +kernel
theorem dX8_write_60 : decode cX8_write 60 = .ok (.dup, 1) := by decide +kernel
theorem dX8_write_61 : decode cX8_write 61 = .ok (.getfield 18, 3) := by decide +kernel
theorem dX8_write_64 : decode cX8_write 64 = .ok (.iconst 1, 1) := by decide +kernel
theorem dX8_write_65 : decode cX8_write 65 = .ok (.iadd, 1) := by decide +kernel
theorem dX8_write_66 : decode cX8_write 66 = .ok (.putfield 18, 3) := by decide +kernel
theorem dX8_write_69 : decode cX8_write 69 = .ok (.aload_n 0, 1) := by decide +kernel
theorem dX8_write_70 : decode cX8_write 70 = .ok (.getfield 11, 3) := by decide +kernel
theorem dX8_write_73 : decode cX8_write 73 = .ok (.iload 5, 2) := by decide +kernel
theorem dX8_write_75 : decode cX8_write 75 = .ok (.iload 4, 2) := by decide +kernel
theorem dX8_write_77 : decode cX8_write 77 = .ok (.invokestatic 47, 3) := by decide +kernel
theorem dX8_write_80 : decode cX8_write 80 = .ok (.aload_n 0, 1) := by decide +kernel
theorem dX8_write_81 : decode cX8_write 81 = .ok (.getfield 15, 3) := by decide +kernel
theorem dX8_write_84 : decode cX8_write 84 = .ok (.iload 5, 2) := by decide +kernel
theorem dX8_write_86 : decode cX8_write 86 = .ok (.iload_n 3, 1) := by decide +kernel
theorem dX8_write_87 : decode cX8_write 87 = .ok (.invokestatic 47, 3) := by decide +kernel
theorem dX8_write_90 : decode cX8_write 90 = .ok (.iconst 1, 1) := by decide +kernel
theorem dX8_write_91 : decode cX8_write 91 = .ok (.ireturn, 1) := by decide +kernel
theorem dX8_drop_0 : decode cX8_drop 0 = .ok (.iload_n 1, 1) := by decide +kernel
theorem dX8_drop_1 : decode cX8_drop 1 = .ok (.ifCond .lt 11, 3) := by decide +kernel
theorem dX8_drop_4 : decode cX8_drop 4 = .ok (.iload_n 1, 1) := by decide +kernel
theorem dX8_drop_5 : decode cX8_drop 5 = .ok (.aload_n 0, 1) := by decide +kernel
theorem dX8_drop_6 : decode cX8_drop 6 = .ok (.getfield 18, 3) := by decide +kernel
theorem dX8_drop_9 : decode cX8_drop 9 = .ok (.if_icmp .lt 4, 3) := by decide +kernel
theorem dX8_drop_12 : decode cX8_drop 12 = .ok (.return_, 1) := by decide +kernel
theorem dX8_drop_13 : decode cX8_drop 13 = .ok (.aload_n 0, 1) := by decide +kernel
theorem dX8_drop_14 : decode cX8_drop 14 = .ok (.dup, 1) := by decide +kernel
theorem dX8_drop_15 : decode cX8_drop 15 = .ok (.getfield 18, 3) := by decide +kernel
theorem dX8_drop_18 : decode cX8_drop 18 = .ok (.iconst 1, 1) := by decide +kernel
theorem dX8_drop_19 : decode cX8_drop 19 = .ok (.isub, 1) := by decide +kernel
theorem dX8_drop_20 : decode cX8_drop 20 = .ok (.putfield 18, 3) := by decide +kernel
theorem dX8_drop_23 : decode cX8_drop 23 = .ok (.aload_n 0, 1) := by decide +kernel
theorem dX8_drop_24 : decode cX8_drop 24 = .ok (.getfield 11, 3) := by decide +kernel
theorem dX8_drop_27 : decode cX8_drop 27 = .ok (.iload_n 1, 1) := by decide +kernel
theorem dX8_drop_28 : decode cX8_drop 28 = .ok (.aload_n 0, 1) := by decide +kernel
theorem dX8_drop_29 : decode cX8_drop 29 = .ok (.getfield 11, 3) := by decide +kernel
theorem dX8_drop_32 : decode cX8_drop 32 = .ok (.aload_n 0, 1) := by decide +kernel
theorem dX8_drop_33 : decode cX8_drop 33 = .ok (.getfield 18, 3) := by decide +kernel
theorem dX8_drop_36 : decode cX8_drop 36 = .ok (.invokestatic 39, 3) := by decide +kernel
theorem dX8_drop_39 : decode cX8_drop 39 = .ok (.invokestatic 47, 3) := by decide +kernel
theorem dX8_drop_42 : decode cX8_drop 42 = .ok (.aload_n 0, 1) := by decide +kernel
theorem dX8_drop_43 : decode cX8_drop 43 = .ok (.getfield 15, 3) := by decide +kernel
theorem dX8_drop_46 : decode cX8_drop 46 = .ok (.iload_n 1, 1) := by decide +kernel
theorem dX8_drop_47 : decode cX8_drop 47 = .ok (.aload_n 0, 1) := by decide +kernel
theorem dX8_drop_48 : decode cX8_drop 48 = .ok (.getfield 15, 3) := by decide +kernel
theorem dX8_drop_51 : decode cX8_drop 51 = .ok (.aload_n 0, 1) := by decide +kernel
theorem dX8_drop_52 : decode cX8_drop 52 = .ok (.getfield 18, 3) := by decide +kernel
theorem dX8_drop_55 : decode cX8_drop 55 = .ok (.invokestatic 39, 3) := by decide +kernel
theorem dX8_drop_58 : decode cX8_drop 58 = .ok (.invokestatic 47, 3) := by decide +kernel
theorem dX8_drop_61 : decode cX8_drop 61 = .ok (.return_, 1) := by decide +kernel
theorem dX8_copyFrom_0 : decode cX8_copyFrom 0 = .ok (.aload_n 1, 1) := by decide +kernel
theorem dX8_copyFrom_1 : decode cX8_copyFrom 1 = .ok (.getfield 11, 3) := by decide +kernel
theorem dX8_copyFrom_4 : decode cX8_copyFrom 4 = .ok (.iconst 0, 1) := by decide +kernel
theorem dX8_copyFrom_5 : decode cX8_copyFrom 5 = .ok (.aload_n 0, 1) := by decide +kernel
theorem dX8_copyFrom_6 : decode cX8_copyFrom 6 = .ok (.getfield 11, 3) := by decide +kernel
theorem dX8_copyFrom_9 : decode cX8_copyFrom 9 = .ok (.iconst 0, 1) := by decide +kernel
theorem dX8_copyFrom_10 : decode cX8_copyFrom 10 = .ok (.bipush 40, 2) := by decide +kernel
theorem dX8_copyFrom_12 : decode cX8_copyFrom 12 = .ok (.invokestatic 51, 3) := by decide +kernel
theorem dX8_copyFrom_15 : decode cX8_copyFrom 15 = .ok (.aload_n 1, 1) := by decide +kernel
theorem dX8_copyFrom_16 : decode cX8_copyFrom 16 = .ok (.getfield 15, 3) := by decide +kernel
theorem dX8_copyFrom_19 : decode cX8_copyFrom 19 = .ok (.iconst 0, 1) := by decide +kernel
theorem dX8_copyFrom_20 : decode cX8_copyFrom 20 = .ok (.aload_n 0, 1) := by decide +kernel
theorem dX8_copyFrom_21 : decode cX8_copyFrom 21 = .ok (.getfield 15, 3) := by decide +kernel
theorem dX8_copyFrom_24 : decode cX8_copyFrom 24 = .ok (.iconst 0, 1) := by decide +kernel
theorem dX8_copyFrom_25 : decode cX8_copyFrom 25 = .ok (.bipush 40, 2) := by decide +kernel
theorem dX8_copyFrom_27 : decode cX8_copyFrom 27 = .ok (.invokestatic 51, 3) := by decide +kernel
theorem dX8_copyFrom_30 : decode cX8_copyFrom 30 = .ok (.aload_n 0, 1) := by decide +kernel
theorem dX8_copyFrom_31 : decode cX8_copyFrom 31 = .ok (.aload_n 1, 1) := by decide +kernel
theorem dX8_copyFrom_32 : decode cX8_copyFrom 32 = .ok (.getfield 18, 3) := by decide +kernel
theorem dX8_copyFrom_35 : decode cX8_copyFrom 35 = .ok (.putfield 18, 3) := by decide +kernel
theorem dX8_copyFrom_38 : decode cX8_copyFrom 38 = .ok (.return_, 1) := by decide +kernel
theorem dX8_pitOf_0 : decode cX8_pitOf 0 = .ok (.iconst 3, 1) := by decide +kernel
theorem dX8_pitOf_1 : decode cX8_pitOf 1 = .ok (.iload_n 0, 1) := by decide +kernel
theorem dX8_pitOf_2 : decode cX8_pitOf 2 = .ok (.iconst 4, 1) := by decide +kernel
theorem dX8_pitOf_3 : decode cX8_pitOf 3 = .ok (.idiv, 1) := by decide +kernel
theorem dX8_pitOf_4 : decode cX8_pitOf 4 = .ok (.iadd, 1) := by decide +kernel
theorem dX8_pitOf_5 : decode cX8_pitOf 5 = .ok (.ireturn, 1) := by decide +kernel
theorem dX8_flatOf_0 : decode cX8_flatOf 0 = .ok (.iconst 3, 1) := by decide +kernel
theorem dX8_flatOf_1 : decode cX8_flatOf 1 = .ok (.iload_n 0, 1) := by decide +kernel
theorem dX8_flatOf_2 : decode cX8_flatOf 2 = .ok (.iconst 4, 1) := by decide +kernel
theorem dX8_flatOf_3 : decode cX8_flatOf 3 = .ok (.irem, 1) := by decide +kernel
theorem dX8_flatOf_4 : decode cX8_flatOf 4 = .ok (.iadd, 1) := by decide +kernel
theorem dX8_flatOf_5 : decode cX8_flatOf 5 = .ok (.ireturn, 1) := by decide +kernel
theorem dX8_lengthOf_0 : decode cX8_lengthOf 0 = .ok (.iconst 0, 1) := by decide +kernel
theorem dX8_lengthOf_1 : decode cX8_lengthOf 1 = .ok (.istore_n 2, 1) := by decide +kernel
theorem dX8_lengthOf_2 : decode cX8_lengthOf 2 = .ok (.iconst 0, 1) := by decide +kernel
theorem dX8_lengthOf_3 : decode cX8_lengthOf 3 = .ok (.istore_n 3, 1) := by decide +kernel
theorem dX8_lengthOf_4 : decode cX8_lengthOf 4 = .ok (.iload_n 3, 1) := by decide +kernel
theorem dX8_lengthOf_5 : decode cX8_lengthOf 5 = .ok (.iconst 4, 1) := by decide +kernel
theorem dX8_lengthOf_6 : decode cX8_lengthOf 6 = .ok (.if_icmp .ge 31, 3) := by decide +kernel
theorem dX8_lengthOf_9 : decode cX8_lengthOf 9 = .ok (.aload_n 0, 1) := by decide +kernel
theorem dX8_lengthOf_10 : decode cX8_lengthOf 10 = .ok (.iload_n 1, 1) := by decide +kernel
theorem dX8_lengthOf_11 : decode cX8_lengthOf 11 = .ok (.iload_n 3, 1) := by decide +kernel
theorem dX8_lengthOf_12 : decode cX8_lengthOf 12 = .ok (.invokevirtual 57, 3) := by decide +kernel
theorem dX8_lengthOf_15 : decode cX8_lengthOf 15 = .ok (.istore 4, 2) := by decide +kernel
theorem dX8_lengthOf_17 : decode cX8_lengthOf 17 = .ok (.iload_n 2, 1) := by decide +kernel
theorem dX8_lengthOf_18 : decode cX8_lengthOf 18 = .ok (.iload 4, 2) := by decide +kernel
theorem dX8_lengthOf_20 : decode cX8_lengthOf 20 = .ok (.invokestatic 60, 3) := by decide +kernel
theorem dX8_lengthOf_23 : decode cX8_lengthOf 23 = .ok (.iload 4, 2) := by decide +kernel
theorem dX8_lengthOf_25 : decode cX8_lengthOf 25 = .ok (.invokestatic 63, 3) := by decide +kernel
theorem dX8_lengthOf_28 : decode cX8_lengthOf 28 = .ok (.iadd, 1) := by decide +kernel
theorem dX8_lengthOf_29 : decode cX8_lengthOf 29 = .ok (.iadd, 1) := by decide +kernel
theorem dX8_lengthOf_30 : decode cX8_lengthOf 30 = .ok (.istore_n 2, 1) := by decide +kernel
theorem dX8_lengthOf_31 : decode cX8_lengthOf 31 = .ok (.iinc 3 1, 3) := by decide +kernel
theorem dX8_lengthOf_34 : decode cX8_lengthOf 34 = .ok (.goto (-30), 3) := by decide +kernel
theorem dX8_lengthOf_37 : decode cX8_lengthOf 37 = .ok (.iload_n 2, 1) := by decide +kernel
theorem dX8_lengthOf_38 : decode cX8_lengthOf 38 = .ok (.ireturn, 1) := by decide +kernel
theorem dX8_lengthOfAll_0 : decode cX8_lengthOfAll 0 = .ok (.iconst 0, 1) := by decide +kernel
theorem dX8_lengthOfAll_1 : decode cX8_lengthOfAll 1 = .ok (.istore_n 3, 1) := by decide +kernel
theorem dX8_lengthOfAll_2 : decode cX8_lengthOfAll 2 = .ok (.iload_n 1, 1) := by decide +kernel
theorem dX8_lengthOfAll_3 : decode cX8_lengthOfAll 3 = .ok (.istore 4, 2) := by decide +kernel
theorem dX8_lengthOfAll_5 : decode cX8_lengthOfAll 5 = .ok (.iload 4, 2) := by decide +kernel
theorem dX8_lengthOfAll_7 : decode cX8_lengthOfAll 7 = .ok (.iload_n 2, 1) := by decide +kernel
theorem dX8_lengthOfAll_8 : decode cX8_lengthOfAll 8 = .ok (.if_icmp .ge 18, 3) := by decide +kernel
theorem dX8_lengthOfAll_11 : decode cX8_lengthOfAll 11 = .ok (.iload_n 3, 1) := by decide +kernel
theorem dX8_lengthOfAll_12 : decode cX8_lengthOfAll 12 = .ok (.aload_n 0, 1) := by decide +kernel
theorem dX8_lengthOfAll_13 : decode cX8_lengthOfAll 13 = .ok (.iload 4, 2) := by decide +kernel
theorem dX8_lengthOfAll_15 : decode cX8_lengthOfAll 15 = .ok (.invokevirtual 66, 3) := by decide +kernel
theorem dX8_lengthOfAll_18 : decode cX8_lengthOfAll 18 = .ok (.iadd, 1) := by decide +kernel
theorem dX8_lengthOfAll_19 : decode cX8_lengthOfAll 19 = .ok (.istore_n 3, 1) := by decide +kernel
theorem dX8_lengthOfAll_20 : decode cX8_lengthOfAll 20 = .ok (.iinc 4 1, 3) := by decide +kernel
theorem dX8_lengthOfAll_23 : decode cX8_lengthOfAll 23 = .ok (.goto (-18), 3) := by decide +kernel
theorem dX8_lengthOfAll_26 : decode cX8_lengthOfAll 26 = .ok (.iload_n 3, 1) := by decide +kernel
theorem dX8_lengthOfAll_27 : decode cX8_lengthOfAll 27 = .ok (.ireturn, 1) := by decide +kernel
theorem dX8_balanceOf_0 : decode cX8_balanceOf 0 = .ok (.iconst 0, 1) := by decide +kernel
theorem dX8_balanceOf_1 : decode cX8_balanceOf 1 = .ok (.istore_n 2, 1) := by decide +kernel
theorem dX8_balanceOf_2 : decode cX8_balanceOf 2 = .ok (.iconst 0, 1) := by decide +kernel
theorem dX8_balanceOf_3 : decode cX8_balanceOf 3 = .ok (.istore_n 3, 1) := by decide +kernel
theorem dX8_balanceOf_4 : decode cX8_balanceOf 4 = .ok (.iload_n 3, 1) := by decide +kernel
theorem dX8_balanceOf_5 : decode cX8_balanceOf 5 = .ok (.iconst 4, 1) := by decide +kernel
theorem dX8_balanceOf_6 : decode cX8_balanceOf 6 = .ok (.if_icmp .ge 31, 3) := by decide +kernel
theorem dX8_balanceOf_9 : decode cX8_balanceOf 9 = .ok (.aload_n 0, 1) := by decide +kernel
theorem dX8_balanceOf_10 : decode cX8_balanceOf 10 = .ok (.iload_n 1, 1) := by decide +kernel
theorem dX8_balanceOf_11 : decode cX8_balanceOf 11 = .ok (.iload_n 3, 1) := by decide +kernel
theorem dX8_balanceOf_12 : decode cX8_balanceOf 12 = .ok (.invokevirtual 57, 3) := by decide +kernel
theorem dX8_balanceOf_15 : decode cX8_balanceOf 15 = .ok (.istore 4, 2) := by decide +kernel
theorem dX8_balanceOf_17 : decode cX8_balanceOf 17 = .ok (.iload_n 2, 1) := by decide +kernel
theorem dX8_balanceOf_18 : decode cX8_balanceOf 18 = .ok (.iload 4, 2) := by decide +kernel
theorem dX8_balanceOf_20 : decode cX8_balanceOf 20 = .ok (.invokestatic 60, 3) := by decide +kernel
theorem dX8_balanceOf_23 : decode cX8_balanceOf 23 = .ok (.iload 4, 2) := by decide +kernel
theorem dX8_balanceOf_25 : decode cX8_balanceOf 25 = .ok (.invokestatic 63, 3) := by decide +kernel
theorem dX8_balanceOf_28 : decode cX8_balanceOf 28 = .ok (.isub, 1) := by decide +kernel
theorem dX8_balanceOf_29 : decode cX8_balanceOf 29 = .ok (.iadd, 1) := by decide +kernel
theorem dX8_balanceOf_30 : decode cX8_balanceOf 30 = .ok (.istore_n 2, 1) := by decide +kernel
theorem dX8_balanceOf_31 : decode cX8_balanceOf 31 = .ok (.iinc 3 1, 3) := by decide +kernel
theorem dX8_balanceOf_34 : decode cX8_balanceOf 34 = .ok (.goto (-30), 3) := by decide +kernel
theorem dX8_balanceOf_37 : decode cX8_balanceOf 37 = .ok (.iload_n 2, 1) := by decide +kernel
theorem dX8_balanceOf_38 : decode cX8_balanceOf 38 = .ok (.ireturn, 1) := by decide +kernel
theorem dX8_longestRunOf_0 : decode cX8_longestRunOf 0 = .ok (.iconst 0, 1) := by decide +kernel
theorem dX8_longestRunOf_1 : decode cX8_longestRunOf 1 = .ok (.istore_n 2, 1) := by decide +kernel
theorem dX8_longestRunOf_2 : decode cX8_longestRunOf 2 = .ok (.iconst 0, 1) := by decide +kernel
theorem dX8_longestRunOf_3 : decode cX8_longestRunOf 3 = .ok (.istore_n 3, 1) := by decide +kernel
theorem dX8_longestRunOf_4 : decode cX8_longestRunOf 4 = .ok (.iload_n 3, 1) := by decide +kernel
theorem dX8_longestRunOf_5 : decode cX8_longestRunOf 5 = .ok (.iconst 4, 1) := by decide +kernel
theorem dX8_longestRunOf_6 : decode cX8_longestRunOf 6 = .ok (.if_icmp .ge 35, 3) := by decide +kernel
theorem dX8_longestRunOf_9 : decode cX8_longestRunOf 9 = .ok (.aload_n 0, 1) := by decide +kernel
theorem dX8_longestRunOf_10 : decode cX8_longestRunOf 10 = .ok (.iload_n 1, 1) := by decide +kernel
theorem dX8_longestRunOf_11 : decode cX8_longestRunOf 11 = .ok (.iload_n 3, 1) := by decide +kernel
theorem dX8_longestRunOf_12 : decode cX8_longestRunOf 12 = .ok (.invokevirtual 57, 3) := by decide +kernel
theorem dX8_longestRunOf_15 : decode cX8_longestRunOf 15 = .ok (.istore 4, 2) := by decide +kernel
theorem dX8_longestRunOf_17 : decode cX8_longestRunOf 17 = .ok (.iload_n 2, 1) := by decide +kernel
theorem dX8_longestRunOf_18 : decode cX8_longestRunOf 18 = .ok (.iload 4, 2) := by decide +kernel
theorem dX8_longestRunOf_20 : decode cX8_longestRunOf 20 = .ok (.invokestatic 60, 3) := by decide +kernel
theorem dX8_longestRunOf_23 : decode cX8_longestRunOf 23 = .ok (.iload 4, 2) := by decide +kernel
theorem dX8_longestRunOf_25 : decode cX8_longestRunOf 25 = .ok (.invokestatic 63, 3) := by decide +kernel
theorem dX8_longestRunOf_28 : decode cX8_longestRunOf 28 = .ok (.invokestatic 69, 3) := by decide +kernel
theorem dX8_longestRunOf_31 : decode cX8_longestRunOf 31 = .ok (.invokestatic 69, 3) := by decide +kernel
theorem dX8_longestRunOf_34 : decode cX8_longestRunOf 34 = .ok (.istore_n 2, 1) := by decide +kernel
theorem dX8_longestRunOf_35 : decode cX8_longestRunOf 35 = .ok (.iinc 3 1, 3) := by decide +kernel
theorem dX8_longestRunOf_38 : decode cX8_longestRunOf 38 = .ok (.goto (-34), 3) := by decide +kernel
theorem dX8_longestRunOf_41 : decode cX8_longestRunOf 41 = .ok (.iload_n 2, 1) := by decide +kernel
theorem dX8_longestRunOf_42 : decode cX8_longestRunOf 42 = .ok (.ireturn, 1) := by decide +kernel
theorem dX10_init_0 : decode cX10_init 0 = .ok (.aload_n 0, 1) := by decide +kernel
theorem dX10_init_1 : decode cX10_init 1 = .ok (.invokespecial 1, 3) := by decide +kernel
theorem dX10_init_4 : decode cX10_init 4 = .ok (.aload_n 0, 1) := by decide +kernel
theorem dX10_init_5 : decode cX10_init 5 = .ok (.new 7, 3) := by decide +kernel
theorem dX10_init_8 : decode cX10_init 8 = .ok (.dup, 1) := by decide +kernel
theorem dX10_init_9 : decode cX10_init 9 = .ok (.invokespecial 9, 3) := by decide +kernel
theorem dX10_init_12 : decode cX10_init 12 = .ok (.putfield 10, 3) := by decide +kernel
theorem dX10_init_15 : decode cX10_init 15 = .ok (.aload_n 0, 1) := by decide +kernel
theorem dX10_init_16 : decode cX10_init 16 = .ok (.new 7, 3) := by decide +kernel
theorem dX10_init_19 : decode cX10_init 19 = .ok (.dup, 1) := by decide +kernel
theorem dX10_init_20 : decode cX10_init 20 = .ok (.invokespecial 9, 3) := by decide +kernel
theorem dX10_init_23 : decode cX10_init 23 = .ok (.putfield 16, 3) := by decide +kernel
theorem dX10_init_26 : decode cX10_init 26 = .ok (.aload_n 0, 1) := by decide +kernel
theorem dX10_init_27 : decode cX10_init 27 = .ok (.new 7, 3) := by decide +kernel
theorem dX10_init_30 : decode cX10_init 30 = .ok (.dup, 1) := by decide +kernel
theorem dX10_init_31 : decode cX10_init 31 = .ok (.invokespecial 9, 3) := by decide +kernel
theorem dX10_init_34 : decode cX10_init 34 = .ok (.putfield 19, 3) := by decide +kernel
theorem dX10_init_37 : decode cX10_init 37 = .ok (.aload_n 0, 1) := by decide +kernel
theorem dX10_init_38 : decode cX10_init 38 = .ok (.iconst 0, 1) := by decide +kernel
theorem dX10_init_39 : decode cX10_init 39 = .ok (.putfield 22, 3) := by decide +kernel
theorem dX10_init_42 : decode cX10_init 42 = .ok (.aload_n 0, 1) := by decide +kernel
theorem dX10_init_43 : decode cX10_init 43 = .ok (.new 26, 3) := by decide +kernel
theorem dX10_init_46 : decode cX10_init 46 = .ok (.dup, 1) := by decide +kernel
theorem dX10_init_47 : decode cX10_init 47 = .ok (.invokespecial 28, 3) := by decide +kernel
theorem dX10_init_50 : decode cX10_init 50 = .ok (.putfield 29, 3) := by decide +kernel
theorem dX10_init_53 : decode cX10_init 53 = .ok (.aload_n 0, 1) := by decide +kernel
theorem dX10_init_54 : decode cX10_init 54 = .ok (.new 33, 3) := by decide +kernel
theorem dX10_init_57 : decode cX10_init 57 = .ok (.dup, 1) := by decide +kernel
theorem dX10_init_58 : decode cX10_init 58 = .ok (.invokespecial 35, 3) := by decide +kernel
theorem dX10_init_61 : decode cX10_init 61 = .ok (.putfield 36, 3) := by decide +kernel
theorem dX10_init_64 : decode cX10_init 64 = .ok (.aload_n 0, 1) := by decide +kernel
theorem dX10_init_65 : decode cX10_init 65 = .ok (.new 40, 3) := by decide +kernel
theorem dX10_init_68 : decode cX10_init 68 = .ok (.dup, 1) := by decide +kernel
theorem dX10_init_69 : decode cX10_init 69 = .ok (.invokespecial 42, 3) := by decide +kernel
theorem dX10_init_72 : decode cX10_init 72 = .ok (.putfield 43, 3) := by decide +kernel
theorem dX10_init_75 : decode cX10_init 75 = .ok (.aload_n 0, 1) := by decide +kernel
theorem dX10_init_76 : decode cX10_init 76 = .ok (.new 47, 3) := by decide +kernel
theorem dX10_init_79 : decode cX10_init 79 = .ok (.dup, 1) := by decide +kernel
theorem dX10_init_80 : decode cX10_init 80 = .ok (.invokespecial 49, 3) := by decide +kernel
theorem dX10_init_83 : decode cX10_init 83 = .ok (.putfield 50, 3) := by decide +kernel
theorem dX10_init_86 : decode cX10_init 86 = .ok (.return_, 1) := by decide +kernel
theorem dX10_press_0 : decode cX10_press 0 = .ok (.aload_n 0, 1) := by decide +kernel
theorem dX10_press_1 : decode cX10_press 1 = .ok (.getfield 16, 3) := by decide +kernel
theorem dX10_press_4 : decode cX10_press 4 = .ok (.aload_n 0, 1) := by decide +kernel
theorem dX10_press_5 : decode cX10_press 5 = .ok (.getfield 10, 3) := by decide +kernel
theorem dX10_press_8 : decode cX10_press 8 = .ok (.invokevirtual 54, 3) := by decide +kernel
theorem dX10_press_11 : decode cX10_press 11 = .ok (.aload_n 0, 1) := by decide +kernel
theorem dX10_press_12 : decode cX10_press 12 = .ok (.aload_n 0, 1) := by decide +kernel
theorem dX10_press_13 : decode cX10_press 13 = .ok (.iload_n 1, 1) := by decide +kernel
theorem dX10_press_14 : decode cX10_press 14 = .ok (.iload_n 2, 1) := by decide +kernel
theorem dX10_press_15 : decode cX10_press 15 = .ok (.iload_n 3, 1) := by decide +kernel
theorem dX10_press_16 : decode cX10_press 16 = .ok (.invokevirtual 58, 3) := by decide +kernel
theorem dX10_press_19 : decode cX10_press 19 = .ok (.invokevirtual 62, 3) := by decide +kernel
theorem dX10_press_22 : decode cX10_press 22 = .ok (.ireturn, 1) := by decide +kernel
theorem dX10_scratch_0 : decode cX10_scratch 0 = .ok (.aload_n 0, 1) := by decide +kernel
theorem dX10_scratch_1 : decode cX10_scratch 1 = .ok (.getfield 16, 3) := by decide +kernel
theorem dX10_scratch_4 : decode cX10_scratch 4 = .ok (.aload_n 0, 1) := by decide +kernel
theorem dX10_scratch_5 : decode cX10_scratch 5 = .ok (.getfield 10, 3) := by decide +kernel
theorem dX10_scratch_8 : decode cX10_scratch 8 = .ok (.invokevirtual 54, 3) := by decide +kernel
theorem dX10_scratch_11 : decode cX10_scratch 11 = .ok (.aload_n 0, 1) := by decide +kernel
theorem dX10_scratch_12 : decode cX10_scratch 12 = .ok (.aload_n 0, 1) := by decide +kernel
theorem dX10_scratch_13 : decode cX10_scratch 13 = .ok (.iload_n 1, 1) := by decide +kernel
theorem dX10_scratch_14 : decode cX10_scratch 14 = .ok (.iload_n 2, 1) := by decide +kernel
theorem dX10_scratch_15 : decode cX10_scratch 15 = .ok (.iload_n 3, 1) := by decide +kernel
theorem dX10_scratch_16 : decode cX10_scratch 16 = .ok (.iload 4, 2) := by decide +kernel
theorem dX10_scratch_18 : decode cX10_scratch 18 = .ok (.invokevirtual 66, 3) := by decide +kernel
theorem dX10_scratch_21 : decode cX10_scratch 21 = .ok (.invokevirtual 62, 3) := by decide +kernel
theorem dX10_scratch_24 : decode cX10_scratch 24 = .ok (.ireturn, 1) := by decide +kernel
theorem dX10_polish_0 : decode cX10_polish 0 = .ok (.aload_n 0, 1) := by decide +kernel
theorem dX10_polish_1 : decode cX10_polish 1 = .ok (.getfield 16, 3) := by decide +kernel
theorem dX10_polish_4 : decode cX10_polish 4 = .ok (.aload_n 0, 1) := by decide +kernel
theorem dX10_polish_5 : decode cX10_polish 5 = .ok (.getfield 10, 3) := by decide +kernel
theorem dX10_polish_8 : decode cX10_polish 8 = .ok (.invokevirtual 54, 3) := by decide +kernel
theorem dX10_polish_11 : decode cX10_polish 11 = .ok (.aload_n 0, 1) := by decide +kernel
theorem dX10_polish_12 : decode cX10_polish 12 = .ok (.aload_n 0, 1) := by decide +kernel
theorem dX10_polish_13 : decode cX10_polish 13 = .ok (.iload_n 1, 1) := by decide +kernel
theorem dX10_polish_14 : decode cX10_polish 14 = .ok (.invokevirtual 70, 3) := by decide +kernel
theorem dX10_polish_17 : decode cX10_polish 17 = .ok (.invokevirtual 62, 3) := by decide +kernel
theorem dX10_polish_20 : decode cX10_polish 20 = .ok (.ireturn, 1) := by decide +kernel
theorem dX10_set_0 : decode cX10_set 0 = .ok (.iload_n 1, 1) := by decide +kernel
theorem dX10_set_1 : decode cX10_set 1 = .ok (.iload_n 2, 1) := by decide +kernel
theorem dX10_set_2 : decode cX10_set 2 = .ok (.invokestatic 73, 3) := by decide +kernel
theorem dX10_set_5 : decode cX10_set 5 = .ok (.ifCond .ne 6, 3) := by decide +kernel
theorem dX10_set_8 : decode cX10_set 8 = .ok (.bipush (-2), 2) := by decide +kernel
theorem dX10_set_10 : decode cX10_set 10 = .ok (.ireturn, 1) := by decide +kernel
theorem dX10_set_11 : decode cX10_set 11 = .ok (.aload_n 0, 1) := by decide +kernel
theorem dX10_set_12 : decode cX10_set 12 = .ok (.getfield 10, 3) := by decide +kernel
theorem dX10_set_15 : decode cX10_set 15 = .ok (.getfield 79, 3) := by decide +kernel
theorem dX10_set_18 : decode cX10_set 18 = .ok (.iload_n 1, 1) := by decide +kernel
theorem dX10_set_19 : decode cX10_set 19 = .ok (.invokevirtual 83, 3) := by decide +kernel
theorem dX10_set_22 : decode cX10_set 22 = .ok (.istore_n 3, 1) := by decide +kernel
theorem dX10_set_23 : decode cX10_set 23 = .ok (.iload_n 3, 1) := by decide +kernel
theorem dX10_set_24 : decode cX10_set 24 = .ok (.iload_n 2, 1) := by decide +kernel
theorem dX10_set_25 : decode cX10_set 25 = .ok (.if_icmp .ne 6, 3) := by decide +kernel
theorem dX10_set_28 : decode cX10_set 28 = .ok (.bipush (-5), 2) := by decide +kernel
theorem dX10_set_30 : decode cX10_set 30 = .ok (.ireturn, 1) := by decide +kernel
theorem dX10_set_31 : decode cX10_set 31 = .ok (.aload_n 0, 1) := by decide +kernel
theorem dX10_set_32 : decode cX10_set 32 = .ok (.getfield 16, 3) := by decide +kernel
theorem dX10_set_35 : decode cX10_set 35 = .ok (.aload_n 0, 1) := by decide +kernel
theorem dX10_set_36 : decode cX10_set 36 = .ok (.getfield 10, 3) := by decide +kernel
theorem dX10_set_39 : decode cX10_set 39 = .ok (.invokevirtual 54, 3) := by decide +kernel
theorem dX10_set_42 : decode cX10_set 42 = .ok (.aload_n 0, 1) := by decide +kernel
theorem dX10_set_43 : decode cX10_set 43 = .ok (.getfield 10, 3) := by decide +kernel
theorem dX10_set_46 : decode cX10_set 46 = .ok (.getfield 79, 3) := by decide +kernel
theorem dX10_set_49 : decode cX10_set 49 = .ok (.iload_n 1, 1) := by decide +kernel
theorem dX10_set_50 : decode cX10_set 50 = .ok (.iload_n 2, 1) := by decide +kernel
theorem dX10_set_51 : decode cX10_set 51 = .ok (.invokevirtual 86, 3) := by decide +kernel
theorem dX10_set_54 : decode cX10_set 54 = .ok (.iload_n 1, 1) := by decide +kernel
theorem dX10_set_55 : decode cX10_set 55 = .ok (.iconst 1, 1) := by decide +kernel
theorem dX10_set_56 : decode cX10_set 56 = .ok (.if_icmp .gt 20, 3) := by decide +kernel
theorem dX10_set_59 : decode cX10_set 59 = .ok (.aload_n 0, 1) := by decide +kernel
theorem dX10_set_60 : decode cX10_set 60 = .ok (.getfield 10, 3) := by decide +kernel
theorem dX10_set_63 : decode cX10_set 63 = .ok (.getfield 90, 3) := by decide +kernel
theorem dX10_set_66 : decode cX10_set 66 = .ok (.aload_n 0, 1) := by decide +kernel
theorem dX10_set_67 : decode cX10_set 67 = .ok (.getfield 10, 3) := by decide +kernel
theorem dX10_set_70 : decode cX10_set 70 = .ok (.getfield 79, 3) := by decide +kernel
theorem dX10_set_73 : decode cX10_set 73 = .ok (.invokevirtual 93, 3) := by decide +kernel
theorem dX10_set_76 : decode cX10_set 76 = .ok (.aload_n 0, 1) := by decide +kernel
theorem dX10_set_77 : decode cX10_set 77 = .ok (.iload_n 3, 1) := by decide +kernel
theorem dX10_set_78 : decode cX10_set 78 = .ok (.invokevirtual 62, 3) := by decide +kernel
theorem dX10_set_81 : decode cX10_set 81 = .ok (.ireturn, 1) := by decide +kernel
theorem dX10_play_0 : decode cX10_play 0 = .ok (.aload_n 0, 1) := by decide +kernel
theorem dX10_play_1 : decode cX10_play 1 = .ok (.getfield 16, 3) := by decide +kernel
theorem dX10_play_4 : decode cX10_play 4 = .ok (.aload_n 0, 1) := by decide +kernel
theorem dX10_play_5 : decode cX10_play 5 = .ok (.getfield 10, 3) := by decide +kernel
theorem dX10_play_8 : decode cX10_play 8 = .ok (.invokevirtual 54, 3) := by decide +kernel
theorem dX10_play_11 : decode cX10_play 11 = .ok (.aload_n 0, 1) := by decide +kernel
theorem dX10_play_12 : decode cX10_play 12 = .ok (.aload_n 0, 1) := by decide +kernel
theorem dX10_play_13 : decode cX10_play 13 = .ok (.iload_n 1, 1) := by decide +kernel
theorem dX10_play_14 : decode cX10_play 14 = .ok (.invokevirtual 97, 3) := by decide +kernel
theorem dX10_play_17 : decode cX10_play 17 = .ok (.invokevirtual 62, 3) := by decide +kernel
theorem dX10_play_20 : decode cX10_play 20 = .ok (.ireturn, 1) := by decide +kernel
theorem dX10_seek_0 : decode cX10_seek 0 = .ok (.aload_n 0, 1) := by decide +kernel
theorem dX10_seek_1 : decode cX10_seek 1 = .ok (.getfield 16, 3) := by decide +kernel
theorem dX10_seek_4 : decode cX10_seek 4 = .ok (.aload_n 0, 1) := by decide +kernel
theorem dX10_seek_5 : decode cX10_seek 5 = .ok (.getfield 10, 3) := by decide +kernel
theorem dX10_seek_8 : decode cX10_seek 8 = .ok (.invokevirtual 54, 3) := by decide +kernel
theorem dX10_seek_11 : decode cX10_seek 11 = .ok (.aload_n 0, 1) := by decide +kernel
theorem dX10_seek_12 : decode cX10_seek 12 = .ok (.aload_n 0, 1) := by decide +kernel
theorem dX10_seek_13 : decode cX10_seek 13 = .ok (.iload_n 1, 1) := by decide +kernel
theorem dX10_seek_14 : decode cX10_seek 14 = .ok (.invokevirtual 100, 3) := by decide +kernel
theorem dX10_seek_17 : decode cX10_seek 17 = .ok (.invokevirtual 62, 3) := by decide +kernel
theorem dX10_seek_20 : decode cX10_seek 20 = .ok (.ireturn, 1) := by decide +kernel
theorem dX10_undo_0 : decode cX10_undo 0 = .ok (.aload_n 0, 1) := by decide +kernel
theorem dX10_undo_1 : decode cX10_undo 1 = .ok (.getfield 29, 3) := by decide +kernel
theorem dX10_undo_4 : decode cX10_undo 4 = .ok (.aload_n 0, 1) := by decide +kernel
theorem dX10_undo_5 : decode cX10_undo 5 = .ok (.getfield 10, 3) := by decide +kernel
theorem dX10_undo_8 : decode cX10_undo 8 = .ok (.invokevirtual 124, 3) := by decide +kernel
theorem dX10_undo_11 : decode cX10_undo 11 = .ok (.ifCond .eq 13, 3) := by decide +kernel
theorem dX10_undo_14 : decode cX10_undo 14 = .ok (.aload_n 0, 1) := by decide +kernel
theorem dX10_undo_15 : decode cX10_undo 15 = .ok (.getfield 29, 3) := by decide +kernel
theorem dX10_undo_18 : decode cX10_undo 18 = .ok (.getfield 128, 3) := by decide +kernel
theorem dX10_undo_21 : decode cX10_undo 21 = .ok (.goto 5, 3) := by decide +kernel
theorem dX10_undo_24 : decode cX10_undo 24 = .ok (.bipush (-5), 2) := by decide +kernel
theorem dX10_undo_26 : decode cX10_undo 26 = .ok (.ireturn, 1) := by decide +kernel
theorem dX10_frame_0 : decode cX10_frame 0 = .ok (.aload_n 0, 1) := by decide +kernel
theorem dX10_frame_1 : decode cX10_frame 1 = .ok (.getfield 10, 3) := by decide +kernel
theorem dX10_frame_4 : decode cX10_frame 4 = .ok (.getfield 79, 3) := by decide +kernel
theorem dX10_frame_7 : decode cX10_frame 7 = .ok (.astore_n 3, 1) := by decide +kernel
theorem dX10_frame_8 : decode cX10_frame 8 = .ok (.aload_n 3, 1) := by decide +kernel
theorem dX10_frame_9 : decode cX10_frame 9 = .ok (.iload_n 1, 1) := by decide +kernel
theorem dX10_frame_10 : decode cX10_frame 10 = .ok (.invokevirtual 132, 3) := by decide +kernel
theorem dX10_frame_13 : decode cX10_frame 13 = .ok (.ifCond .ne 5, 3) := by decide +kernel
theorem dX10_frame_16 : decode cX10_frame 16 = .ok (.iconst (-1), 1) := by decide +kernel
theorem dX10_frame_17 : decode cX10_frame 17 = .ok (.ireturn, 1) := by decide +kernel
theorem dX10_frame_18 : decode cX10_frame 18 = .ok (.iload_n 2, 1) := by decide +kernel
theorem dX10_frame_19 : decode cX10_frame 19 = .ok (.tableswitch 165 0 8 #[49, 55, 67, 73, 86, 110, 126, 138, 153], 49) := by decide +kernel
theorem dX10_frame_68 : decode cX10_frame 68 = .ok (.aload_n 3, 1) := by decide +kernel
theorem dX10_frame_69 : decode cX10_frame 69 = .ok (.iload_n 1, 1) := by decide +kernel
theorem dX10_frame_70 : decode cX10_frame 70 = .ok (.invokevirtual 136, 3) := by decide +kernel
theorem dX10_frame_73 : decode cX10_frame 73 = .ok (.ireturn, 1) := by decide +kernel
theorem dX10_frame_74 : decode cX10_frame 74 = .ok (.iload_n 1, 1) := by decide +kernel
theorem dX10_frame_75 : decode cX10_frame 75 = .ok (.aload_n 3, 1) := by decide +kernel
theorem dX10_frame_76 : decode cX10_frame 76 = .ok (.aload_n 3, 1) := by decide +kernel
theorem dX10_frame_77 : decode cX10_frame 77 = .ok (.iload_n 1, 1) := by decide +kernel
theorem dX10_frame_78 : decode cX10_frame 78 = .ok (.invokevirtual 136, 3) := by decide +kernel
theorem dX10_frame_81 : decode cX10_frame 81 = .ok (.invokevirtual 139, 3) := by decide +kernel
theorem dX10_frame_84 : decode cX10_frame 84 = .ok (.isub, 1) := by decide +kernel
theorem dX10_frame_85 : decode cX10_frame 85 = .ok (.ireturn, 1) := by decide +kernel
theorem dX10_frame_86 : decode cX10_frame 86 = .ok (.aload_n 3, 1) := by decide +kernel
theorem dX10_frame_87 : decode cX10_frame 87 = .ok (.iload_n 1, 1) := by decide +kernel
theorem dX10_frame_88 : decode cX10_frame 88 = .ok (.invokevirtual 142, 3) := by decide +kernel
theorem dX10_frame_91 : decode cX10_frame 91 = .ok (.ireturn, 1) := by decide +kernel
theorem dX10_frame_92 : decode cX10_frame 92 = .ok (.iload_n 1, 1) := by decide +kernel
theorem dX10_frame_93 : decode cX10_frame 93 = .ok (.invokestatic 145, 3) := by decide +kernel
theorem dX10_frame_96 : decode cX10_frame 96 = .ok (.ifCond .eq 7, 3) := by decide +kernel
theorem dX10_frame_99 : decode cX10_frame 99 = .ok (.iconst 1, 1) := by decide +kernel
theorem dX10_frame_100 : decode cX10_frame 100 = .ok (.goto 4, 3) := by decide +kernel
theorem dX10_frame_103 : decode cX10_frame 103 = .ok (.iconst 0, 1) := by decide +kernel
theorem dX10_frame_104 : decode cX10_frame 104 = .ok (.ireturn, 1) := by decide +kernel
theorem dX10_frame_105 : decode cX10_frame 105 = .ok (.aload_n 0, 1) := by decide +kernel
theorem dX10_frame_106 : decode cX10_frame 106 = .ok (.getfield 43, 3) := by decide +kernel
theorem dX10_frame_109 : decode cX10_frame 109 = .ok (.aload_n 0, 1) := by decide +kernel
theorem dX10_frame_110 : decode cX10_frame 110 = .ok (.getfield 10, 3) := by decide +kernel
theorem dX10_frame_113 : decode cX10_frame 113 = .ok (.invokevirtual 148, 3) := by decide +kernel
theorem dX10_frame_116 : decode cX10_frame 116 = .ok (.iload_n 1, 1) := by decide +kernel
theorem dX10_frame_117 : decode cX10_frame 117 = .ok (.invokevirtual 152, 3) := by decide +kernel
theorem dX10_frame_120 : decode cX10_frame 120 = .ok (.ifCond .eq 7, 3) := by decide +kernel
theorem dX10_frame_123 : decode cX10_frame 123 = .ok (.iconst 1, 1) := by decide +kernel
theorem dX10_frame_124 : decode cX10_frame 124 = .ok (.goto 4, 3) := by decide +kernel
theorem dX10_frame_127 : decode cX10_frame 127 = .ok (.iconst 0, 1) := by decide +kernel
theorem dX10_frame_128 : decode cX10_frame 128 = .ok (.ireturn, 1) := by decide +kernel
theorem dX10_frame_129 : decode cX10_frame 129 = .ok (.aload_n 0, 1) := by decide +kernel
theorem dX10_frame_130 : decode cX10_frame 130 = .ok (.getfield 43, 3) := by decide +kernel
theorem dX10_frame_133 : decode cX10_frame 133 = .ok (.aload_n 0, 1) := by decide +kernel
theorem dX10_frame_134 : decode cX10_frame 134 = .ok (.getfield 10, 3) := by decide +kernel
theorem dX10_frame_137 : decode cX10_frame 137 = .ok (.invokevirtual 148, 3) := by decide +kernel
theorem dX10_frame_140 : decode cX10_frame 140 = .ok (.iload_n 1, 1) := by decide +kernel
theorem dX10_frame_141 : decode cX10_frame 141 = .ok (.invokevirtual 155, 3) := by decide +kernel
theorem dX10_frame_144 : decode cX10_frame 144 = .ok (.ireturn, 1) := by decide +kernel
theorem dX10_frame_145 : decode cX10_frame 145 = .ok (.aload_n 0, 1) := by decide +kernel
theorem dX10_frame_146 : decode cX10_frame 146 = .ok (.getfield 10, 3) := by decide +kernel
theorem dX10_frame_149 : decode cX10_frame 149 = .ok (.getfield 158, 3) := by decide +kernel
theorem dX10_frame_152 : decode cX10_frame 152 = .ok (.iload_n 1, 1) := by decide +kernel
theorem dX10_frame_153 : decode cX10_frame 153 = .ok (.invokevirtual 162, 3) := by decide +kernel
theorem dX10_frame_156 : decode cX10_frame 156 = .ok (.ireturn, 1) := by decide +kernel
theorem dX10_frame_157 : decode cX10_frame 157 = .ok (.aload_n 0, 1) := by decide +kernel
theorem dX10_frame_158 : decode cX10_frame 158 = .ok (.getfield 10, 3) := by decide +kernel
theorem dX10_frame_161 : decode cX10_frame 161 = .ok (.getfield 158, 3) := by decide +kernel
theorem dX10_frame_164 : decode cX10_frame 164 = .ok (.iload_n 1, 1) := by decide +kernel
theorem dX10_frame_165 : decode cX10_frame 165 = .ok (.invokevirtual 167, 3) := by decide +kernel
theorem dX10_frame_168 : decode cX10_frame 168 = .ok (.bipush 100, 2) := by decide +kernel
theorem dX10_frame_170 : decode cX10_frame 170 = .ok (.iadd, 1) := by decide +kernel
theorem dX10_frame_171 : decode cX10_frame 171 = .ok (.ireturn, 1) := by decide +kernel
theorem dX10_frame_172 : decode cX10_frame 172 = .ok (.aload_n 0, 1) := by decide +kernel
theorem dX10_frame_173 : decode cX10_frame 173 = .ok (.getfield 10, 3) := by decide +kernel
theorem dX10_frame_176 : decode cX10_frame 176 = .ok (.getfield 158, 3) := by decide +kernel
theorem dX10_frame_179 : decode cX10_frame 179 = .ok (.iload_n 1, 1) := by decide +kernel
theorem dX10_frame_180 : decode cX10_frame 180 = .ok (.invokevirtual 170, 3) := by decide +kernel
theorem dX10_frame_183 : decode cX10_frame 183 = .ok (.ireturn, 1) := by decide +kernel
theorem dX10_frame_184 : decode cX10_frame 184 = .ok (.bipush (-2), 2) := by decide +kernel
theorem dX10_frame_186 : decode cX10_frame 186 = .ok (.ireturn, 1) := by decide +kernel
theorem dX10_symbol_0 : decode cX10_symbol 0 = .ok (.aload_n 0, 1) := by decide +kernel
theorem dX10_symbol_1 : decode cX10_symbol 1 = .ok (.getfield 10, 3) := by decide +kernel
theorem dX10_symbol_4 : decode cX10_symbol 4 = .ok (.getfield 79, 3) := by decide +kernel
theorem dX10_symbol_7 : decode cX10_symbol 7 = .ok (.iload_n 1, 1) := by decide +kernel
theorem dX10_symbol_8 : decode cX10_symbol 8 = .ok (.invokevirtual 132, 3) := by decide +kernel
theorem dX10_symbol_11 : decode cX10_symbol 11 = .ok (.ifCond .ne 5, 3) := by decide +kernel
theorem dX10_symbol_14 : decode cX10_symbol 14 = .ok (.iconst (-1), 1) := by decide +kernel
theorem dX10_symbol_15 : decode cX10_symbol 15 = .ok (.ireturn, 1) := by decide +kernel
theorem dX10_symbol_16 : decode cX10_symbol 16 = .ok (.iload_n 2, 1) := by decide +kernel
theorem dX10_symbol_17 : decode cX10_symbol 17 = .ok (.invokestatic 173, 3) := by decide +kernel
theorem dX10_symbol_20 : decode cX10_symbol 20 = .ok (.ifCond .ne 6, 3) := by decide +kernel
theorem dX10_symbol_23 : decode cX10_symbol 23 = .ok (.bipush (-2), 2) := by decide +kernel
theorem dX10_symbol_25 : decode cX10_symbol 25 = .ok (.ireturn, 1) := by decide +kernel
theorem dX10_symbol_26 : decode cX10_symbol 26 = .ok (.iload_n 3, 1) := by decide +kernel
theorem dX10_symbol_27 : decode cX10_symbol 27 = .ok (.ifCond .eq 12, 3) := by decide +kernel
theorem dX10_symbol_30 : decode cX10_symbol 30 = .ok (.aload_n 0, 1) := by decide +kernel
theorem dX10_symbol_31 : decode cX10_symbol 31 = .ok (.iload_n 1, 1) := by decide +kernel
theorem dX10_symbol_32 : decode cX10_symbol 32 = .ok (.iload_n 2, 1) := by decide +kernel
theorem dX10_symbol_33 : decode cX10_symbol 33 = .ok (.invokevirtual 176, 3) := by decide +kernel
theorem dX10_symbol_36 : decode cX10_symbol 36 = .ok (.goto 15, 3) := by decide +kernel
theorem dX10_symbol_39 : decode cX10_symbol 39 = .ok (.aload_n 0, 1) := by decide +kernel
theorem dX10_symbol_40 : decode cX10_symbol 40 = .ok (.getfield 10, 3) := by decide +kernel
theorem dX10_symbol_43 : decode cX10_symbol 43 = .ok (.getfield 158, 3) := by decide +kernel
theorem dX10_symbol_46 : decode cX10_symbol 46 = .ok (.iload_n 1, 1) := by decide +kernel
theorem dX10_symbol_47 : decode cX10_symbol 47 = .ok (.iload_n 2, 1) := by decide +kernel
theorem dX10_symbol_48 : decode cX10_symbol 48 = .ok (.invokevirtual 180, 3) := by decide +kernel
theorem dX10_symbol_51 : decode cX10_symbol 51 = .ok (.ireturn, 1) := by decide +kernel
theorem dX10_turn_0 : decode cX10_turn 0 = .ok (.iload_n 1, 1) := by decide +kernel
theorem dX10_turn_1 : decode cX10_turn 1 = .ok (.ifCond .lt 9, 3) := by decide +kernel
theorem dX10_turn_4 : decode cX10_turn 4 = .ok (.iload_n 1, 1) := by decide +kernel
theorem dX10_turn_5 : decode cX10_turn 5 = .ok (.bipush 30, 2) := by decide +kernel
theorem dX10_turn_7 : decode cX10_turn 7 = .ok (.if_icmp .lt 5, 3) := by decide +kernel
theorem dX10_turn_10 : decode cX10_turn 10 = .ok (.iconst (-1), 1) := by decide +kernel
theorem dX10_turn_11 : decode cX10_turn 11 = .ok (.ireturn, 1) := by decide +kernel
theorem dX10_turn_12 : decode cX10_turn 12 = .ok (.aload_n 0, 1) := by decide +kernel
theorem dX10_turn_13 : decode cX10_turn 13 = .ok (.getfield 10, 3) := by decide +kernel
theorem dX10_turn_16 : decode cX10_turn 16 = .ok (.getfield 79, 3) := by decide +kernel
theorem dX10_turn_19 : decode cX10_turn 19 = .ok (.iload_n 1, 1) := by decide +kernel
theorem dX10_turn_20 : decode cX10_turn 20 = .ok (.invokevirtual 139, 3) := by decide +kernel
theorem dX10_turn_23 : decode cX10_turn 23 = .ok (.istore_n 3, 1) := by decide +kernel
theorem dX10_turn_24 : decode cX10_turn 24 = .ok (.aload_n 0, 1) := by decide +kernel
theorem dX10_turn_25 : decode cX10_turn 25 = .ok (.getfield 10, 3) := by decide +kernel
theorem dX10_turn_28 : decode cX10_turn 28 = .ok (.getfield 79, 3) := by decide +kernel
theorem dX10_turn_31 : decode cX10_turn 31 = .ok (.iload_n 1, 1) := by decide +kernel
theorem dX10_turn_32 : decode cX10_turn 32 = .ok (.invokevirtual 183, 3) := by decide +kernel
theorem dX10_turn_35 : decode cX10_turn 35 = .ok (.istore 4, 2) := by decide +kernel
theorem dX10_turn_37 : decode cX10_turn 37 = .ok (.iload_n 2, 1) := by decide +kernel
theorem dX10_turn_38 : decode cX10_turn 38 = .ok (.tableswitch 72 0 3 #[30, 33, 35, 56], 30) := by decide +kernel
theorem dX10_turn_68 : decode cX10_turn 68 = .ok (.iload 4, 2) := by decide +kernel
theorem dX10_turn_70 : decode cX10_turn 70 = .ok (.ireturn, 1) := by decide +kernel
theorem dX10_turn_71 : decode cX10_turn 71 = .ok (.iload_n 3, 1) := by decide +kernel
theorem dX10_turn_72 : decode cX10_turn 72 = .ok (.ireturn, 1) := by decide +kernel
theorem dX10_turn_73 : decode cX10_turn 73 = .ok (.aload_n 0, 1) := by decide +kernel
theorem dX10_turn_74 : decode cX10_turn 74 = .ok (.getfield 43, 3) := by decide +kernel
theorem dX10_turn_77 : decode cX10_turn 77 = .ok (.aload_n 0, 1) := by decide +kernel
theorem dX10_turn_78 : decode cX10_turn 78 = .ok (.getfield 10, 3) := by decide +kernel
theorem dX10_turn_81 : decode cX10_turn 81 = .ok (.invokevirtual 148, 3) := by decide +kernel
theorem dX10_turn_84 : decode cX10_turn 84 = .ok (.iload_n 3, 1) := by decide +kernel
theorem dX10_turn_85 : decode cX10_turn 85 = .ok (.iload_n 3, 1) := by decide +kernel
theorem dX10_turn_86 : decode cX10_turn 86 = .ok (.iload 4, 2) := by decide +kernel
theorem dX10_turn_88 : decode cX10_turn 88 = .ok (.iadd, 1) := by decide +kernel
theorem dX10_turn_89 : decode cX10_turn 89 = .ok (.iconst (-1), 1) := by decide +kernel
theorem dX10_turn_90 : decode cX10_turn 90 = .ok (.invokevirtual 186, 3) := by decide +kernel
theorem dX10_turn_93 : decode cX10_turn 93 = .ok (.ireturn, 1) := by decide +kernel
theorem dX10_turn_94 : decode cX10_turn 94 = .ok (.aload_n 0, 1) := by decide +kernel
theorem dX10_turn_95 : decode cX10_turn 95 = .ok (.getfield 10, 3) := by decide +kernel
theorem dX10_turn_98 : decode cX10_turn 98 = .ok (.getfield 158, 3) := by decide +kernel
theorem dX10_turn_101 : decode cX10_turn 101 = .ok (.iload_n 3, 1) := by decide +kernel
theorem dX10_turn_102 : decode cX10_turn 102 = .ok (.iload_n 3, 1) := by decide +kernel
theorem dX10_turn_103 : decode cX10_turn 103 = .ok (.iload 4, 2) := by decide +kernel
theorem dX10_turn_105 : decode cX10_turn 105 = .ok (.iadd, 1) := by decide +kernel
theorem dX10_turn_106 : decode cX10_turn 106 = .ok (.invokevirtual 189, 3) := by decide +kernel
theorem dX10_turn_109 : decode cX10_turn 109 = .ok (.ireturn, 1) := by decide +kernel
theorem dX10_turn_110 : decode cX10_turn 110 = .ok (.bipush (-2), 2) := by decide +kernel
theorem dX10_turn_112 : decode cX10_turn 112 = .ok (.ireturn, 1) := by decide +kernel
theorem dX10_scratchOf_0 : decode cX10_scratchOf 0 = .ok (.aload_n 0, 1) := by decide +kernel
theorem dX10_scratchOf_1 : decode cX10_scratchOf 1 = .ok (.getfield 10, 3) := by decide +kernel
theorem dX10_scratchOf_4 : decode cX10_scratchOf 4 = .ok (.getfield 192, 3) := by decide +kernel
theorem dX10_scratchOf_7 : decode cX10_scratchOf 7 = .ok (.iload_n 1, 1) := by decide +kernel
theorem dX10_scratchOf_8 : decode cX10_scratchOf 8 = .ok (.invokevirtual 196, 3) := by decide +kernel
theorem dX10_scratchOf_11 : decode cX10_scratchOf 11 = .ok (.ifCond .ne 5, 3) := by decide +kernel
theorem dX10_scratchOf_14 : decode cX10_scratchOf 14 = .ok (.iconst (-1), 1) := by decide +kernel
theorem dX10_scratchOf_15 : decode cX10_scratchOf 15 = .ok (.ireturn, 1) := by decide +kernel
theorem dX10_scratchOf_16 : decode cX10_scratchOf 16 = .ok (.iload_n 2, 1) := by decide +kernel
theorem dX10_scratchOf_17 : decode cX10_scratchOf 17 = .ok (.tableswitch 105 0 4 #[35, 47, 59, 71, 83], 35) := by decide +kernel
theorem dX10_scratchOf_52 : decode cX10_scratchOf 52 = .ok (.aload_n 0, 1) := by decide +kernel
theorem dX10_scratchOf_53 : decode cX10_scratchOf 53 = .ok (.getfield 10, 3) := by decide +kernel
theorem dX10_scratchOf_56 : decode cX10_scratchOf 56 = .ok (.getfield 192, 3) := by decide +kernel
theorem dX10_scratchOf_59 : decode cX10_scratchOf 59 = .ok (.iload_n 1, 1) := by decide +kernel
theorem dX10_scratchOf_60 : decode cX10_scratchOf 60 = .ok (.invokevirtual 201, 3) := by decide +kernel
theorem dX10_scratchOf_63 : decode cX10_scratchOf 63 = .ok (.ireturn, 1) := by decide +kernel
theorem dX10_scratchOf_64 : decode cX10_scratchOf 64 = .ok (.aload_n 0, 1) := by decide +kernel
theorem dX10_scratchOf_65 : decode cX10_scratchOf 65 = .ok (.getfield 10, 3) := by decide +kernel
theorem dX10_scratchOf_68 : decode cX10_scratchOf 68 = .ok (.getfield 192, 3) := by decide +kernel
theorem dX10_scratchOf_71 : decode cX10_scratchOf 71 = .ok (.iload_n 1, 1) := by decide +kernel
theorem dX10_scratchOf_72 : decode cX10_scratchOf 72 = .ok (.invokevirtual 204, 3) := by decide +kernel
theorem dX10_scratchOf_75 : decode cX10_scratchOf 75 = .ok (.ireturn, 1) := by decide +kernel
theorem dX10_scratchOf_76 : decode cX10_scratchOf 76 = .ok (.aload_n 0, 1) := by decide +kernel
theorem dX10_scratchOf_77 : decode cX10_scratchOf 77 = .ok (.getfield 10, 3) := by decide +kernel
theorem dX10_scratchOf_80 : decode cX10_scratchOf 80 = .ok (.getfield 192, 3) := by decide +kernel
theorem dX10_scratchOf_83 : decode cX10_scratchOf 83 = .ok (.iload_n 1, 1) := by decide +kernel
theorem dX10_scratchOf_84 : decode cX10_scratchOf 84 = .ok (.invokevirtual 207, 3) := by decide +kernel
theorem dX10_scratchOf_87 : decode cX10_scratchOf 87 = .ok (.ireturn, 1) := by decide +kernel
theorem dX10_scratchOf_88 : decode cX10_scratchOf 88 = .ok (.aload_n 0, 1) := by decide +kernel
theorem dX10_scratchOf_89 : decode cX10_scratchOf 89 = .ok (.getfield 10, 3) := by decide +kernel
theorem dX10_scratchOf_92 : decode cX10_scratchOf 92 = .ok (.getfield 192, 3) := by decide +kernel
theorem dX10_scratchOf_95 : decode cX10_scratchOf 95 = .ok (.iload_n 1, 1) := by decide +kernel
theorem dX10_scratchOf_96 : decode cX10_scratchOf 96 = .ok (.invokevirtual 210, 3) := by decide +kernel
theorem dX10_scratchOf_99 : decode cX10_scratchOf 99 = .ok (.ireturn, 1) := by decide +kernel
theorem dX10_scratchOf_100 : decode cX10_scratchOf 100 = .ok (.aload_n 0, 1) := by decide +kernel
theorem dX10_scratchOf_101 : decode cX10_scratchOf 101 = .ok (.getfield 43, 3) := by decide +kernel
theorem dX10_scratchOf_104 : decode cX10_scratchOf 104 = .ok (.aload_n 0, 1) := by decide +kernel
theorem dX10_scratchOf_105 : decode cX10_scratchOf 105 = .ok (.getfield 10, 3) := by decide +kernel
theorem dX10_scratchOf_108 : decode cX10_scratchOf 108 = .ok (.invokevirtual 148, 3) := by decide +kernel
theorem dX10_scratchOf_111 : decode cX10_scratchOf 111 = .ok (.iconst 0, 1) := by decide +kernel
theorem dX10_scratchOf_112 : decode cX10_scratchOf 112 = .ok (.sipush 3810, 3) := by decide +kernel
theorem dX10_scratchOf_115 : decode cX10_scratchOf 115 = .ok (.iconst 1, 1) := by decide +kernel
theorem dX10_scratchOf_116 : decode cX10_scratchOf 116 = .ok (.iload_n 1, 1) := by decide +kernel
theorem dX10_scratchOf_117 : decode cX10_scratchOf 117 = .ok (.ishl, 1) := by decide +kernel
theorem dX10_scratchOf_118 : decode cX10_scratchOf 118 = .ok (.invokevirtual 186, 3) := by decide +kernel
theorem dX10_scratchOf_121 : decode cX10_scratchOf 121 = .ok (.ireturn, 1) := by decide +kernel
theorem dX10_scratchOf_122 : decode cX10_scratchOf 122 = .ok (.bipush (-2), 2) := by decide +kernel
theorem dX10_scratchOf_124 : decode cX10_scratchOf 124 = .ok (.ireturn, 1) := by decide +kernel
theorem dX10_count_0 : decode cX10_count 0 = .ok (.iload_n 1, 1) := by decide +kernel
theorem dX10_count_1 : decode cX10_count 1 = .ok (.tableswitch 294 0 16 #[83, 94, 105, 116, 127, 148, 159, 170, 181, 192, 203, 219, 235, 251, 267, 278, 286], 83) := by decide +kernel
theorem dX10_count_84 : decode cX10_count 84 = .ok (.aload_n 0, 1) := by decide +kernel
theorem dX10_count_85 : decode cX10_count 85 = .ok (.getfield 10, 3) := by decide +kernel
theorem dX10_count_88 : decode cX10_count 88 = .ok (.getfield 79, 3) := by decide +kernel
theorem dX10_count_91 : decode cX10_count 91 = .ok (.invokevirtual 213, 3) := by decide +kernel
theorem dX10_count_94 : decode cX10_count 94 = .ok (.ireturn, 1) := by decide +kernel
theorem dX10_count_95 : decode cX10_count 95 = .ok (.aload_n 0, 1) := by decide +kernel
theorem dX10_count_96 : decode cX10_count 96 = .ok (.getfield 10, 3) := by decide +kernel
theorem dX10_count_99 : decode cX10_count 99 = .ok (.getfield 79, 3) := by decide +kernel
theorem dX10_count_102 : decode cX10_count 102 = .ok (.invokevirtual 216, 3) := by decide +kernel
theorem dX10_count_105 : decode cX10_count 105 = .ok (.ireturn, 1) := by decide +kernel
theorem dX10_count_106 : decode cX10_count 106 = .ok (.aload_n 0, 1) := by decide +kernel
theorem dX10_count_107 : decode cX10_count 107 = .ok (.getfield 10, 3) := by decide +kernel
theorem dX10_count_110 : decode cX10_count 110 = .ok (.getfield 192, 3) := by decide +kernel
theorem dX10_count_113 : decode cX10_count 113 = .ok (.getfield 219, 3) := by decide +kernel
theorem dX10_count_116 : decode cX10_count 116 = .ok (.ireturn, 1) := by decide +kernel
theorem dX10_count_117 : decode cX10_count 117 = .ok (.aload_n 0, 1) := by decide +kernel
theorem dX10_count_118 : decode cX10_count 118 = .ok (.getfield 10, 3) := by decide +kernel
theorem dX10_count_121 : decode cX10_count 121 = .ok (.getfield 90, 3) := by decide +kernel
theorem dX10_count_124 : decode cX10_count 124 = .ok (.getfield 220, 3) := by decide +kernel
theorem dX10_count_127 : decode cX10_count 127 = .ok (.ireturn, 1) := by decide +kernel
theorem dX10_count_128 : decode cX10_count 128 = .ok (.aload_n 0, 1) := by decide +kernel
theorem dX10_count_129 : decode cX10_count 129 = .ok (.getfield 10, 3) := by decide +kernel
theorem dX10_count_132 : decode cX10_count 132 = .ok (.getfield 79, 3) := by decide +kernel
theorem dX10_count_135 : decode cX10_count 135 = .ok (.aload_n 0, 1) := by decide +kernel
theorem dX10_count_136 : decode cX10_count 136 = .ok (.getfield 10, 3) := by decide +kernel
theorem dX10_count_139 : decode cX10_count 139 = .ok (.getfield 90, 3) := by decide +kernel
theorem dX10_count_142 : decode cX10_count 142 = .ok (.getfield 220, 3) := by decide +kernel
theorem dX10_count_145 : decode cX10_count 145 = .ok (.invokevirtual 136, 3) := by decide +kernel
theorem dX10_count_148 : decode cX10_count 148 = .ok (.ireturn, 1) := by decide +kernel
theorem dX10_count_149 : decode cX10_count 149 = .ok (.aload_n 0, 1) := by decide +kernel
theorem dX10_count_150 : decode cX10_count 150 = .ok (.getfield 10, 3) := by decide +kernel
theorem dX10_count_153 : decode cX10_count 153 = .ok (.getfield 90, 3) := by decide +kernel
theorem dX10_count_156 : decode cX10_count 156 = .ok (.getfield 223, 3) := by decide +kernel
theorem dX10_count_159 : decode cX10_count 159 = .ok (.ireturn, 1) := by decide +kernel
theorem dX10_count_160 : decode cX10_count 160 = .ok (.aload_n 0, 1) := by decide +kernel
theorem dX10_count_161 : decode cX10_count 161 = .ok (.getfield 10, 3) := by decide +kernel
theorem dX10_count_164 : decode cX10_count 164 = .ok (.getfield 90, 3) := by decide +kernel
theorem dX10_count_167 : decode cX10_count 167 = .ok (.getfield 129, 3) := by decide +kernel
theorem dX10_count_170 : decode cX10_count 170 = .ok (.ireturn, 1) := by decide +kernel
theorem dX10_count_171 : decode cX10_count 171 = .ok (.aload_n 0, 1) := by decide +kernel
theorem dX10_count_172 : decode cX10_count 172 = .ok (.getfield 10, 3) := by decide +kernel
theorem dX10_count_175 : decode cX10_count 175 = .ok (.getfield 90, 3) := by decide +kernel
theorem dX10_count_178 : decode cX10_count 178 = .ok (.getfield 226, 3) := by decide +kernel
theorem dX10_count_181 : decode cX10_count 181 = .ok (.ireturn, 1) := by decide +kernel
theorem dX10_count_182 : decode cX10_count 182 = .ok (.aload_n 0, 1) := by decide +kernel
theorem dX10_count_183 : decode cX10_count 183 = .ok (.getfield 10, 3) := by decide +kernel
theorem dX10_count_186 : decode cX10_count 186 = .ok (.getfield 90, 3) := by decide +kernel
theorem dX10_count_189 : decode cX10_count 189 = .ok (.getfield 229, 3) := by decide +kernel
theorem dX10_count_192 : decode cX10_count 192 = .ok (.ireturn, 1) := by decide +kernel
theorem dX10_count_193 : decode cX10_count 193 = .ok (.aload_n 0, 1) := by decide +kernel
theorem dX10_count_194 : decode cX10_count 194 = .ok (.getfield 10, 3) := by decide +kernel
theorem dX10_count_197 : decode cX10_count 197 = .ok (.getfield 90, 3) := by decide +kernel
theorem dX10_count_200 : decode cX10_count 200 = .ok (.getfield 232, 3) := by decide +kernel
theorem dX10_count_203 : decode cX10_count 203 = .ok (.ireturn, 1) := by decide +kernel
theorem dX10_count_204 : decode cX10_count 204 = .ok (.aload_n 0, 1) := by decide +kernel
theorem dX10_count_205 : decode cX10_count 205 = .ok (.getfield 43, 3) := by decide +kernel
theorem dX10_count_208 : decode cX10_count 208 = .ok (.aload_n 0, 1) := by decide +kernel
theorem dX10_count_209 : decode cX10_count 209 = .ok (.getfield 10, 3) := by decide +kernel
theorem dX10_count_212 : decode cX10_count 212 = .ok (.invokevirtual 148, 3) := by decide +kernel
theorem dX10_count_215 : decode cX10_count 215 = .ok (.iconst 0, 1) := by decide +kernel
theorem dX10_count_216 : decode cX10_count 216 = .ok (.invokevirtual 235, 3) := by decide +kernel
theorem dX10_count_219 : decode cX10_count 219 = .ok (.ireturn, 1) := by decide +kernel
theorem dX10_count_220 : decode cX10_count 220 = .ok (.aload_n 0, 1) := by decide +kernel
theorem dX10_count_221 : decode cX10_count 221 = .ok (.getfield 43, 3) := by decide +kernel
theorem dX10_count_224 : decode cX10_count 224 = .ok (.aload_n 0, 1) := by decide +kernel
theorem dX10_count_225 : decode cX10_count 225 = .ok (.getfield 10, 3) := by decide +kernel
theorem dX10_count_228 : decode cX10_count 228 = .ok (.invokevirtual 148, 3) := by decide +kernel
theorem dX10_count_231 : decode cX10_count 231 = .ok (.iconst 1, 1) := by decide +kernel
theorem dX10_count_232 : decode cX10_count 232 = .ok (.invokevirtual 235, 3) := by decide +kernel
theorem dX10_count_235 : decode cX10_count 235 = .ok (.ireturn, 1) := by decide +kernel
theorem dX10_count_236 : decode cX10_count 236 = .ok (.aload_n 0, 1) := by decide +kernel
theorem dX10_count_237 : decode cX10_count 237 = .ok (.getfield 43, 3) := by decide +kernel
theorem dX10_count_240 : decode cX10_count 240 = .ok (.aload_n 0, 1) := by decide +kernel
theorem dX10_count_241 : decode cX10_count 241 = .ok (.getfield 10, 3) := by decide +kernel
theorem dX10_count_244 : decode cX10_count 244 = .ok (.invokevirtual 148, 3) := by decide +kernel
theorem dX10_count_247 : decode cX10_count 247 = .ok (.iconst 2, 1) := by decide +kernel
theorem dX10_count_248 : decode cX10_count 248 = .ok (.invokevirtual 235, 3) := by decide +kernel
theorem dX10_count_251 : decode cX10_count 251 = .ok (.ireturn, 1) := by decide +kernel
theorem dX10_count_252 : decode cX10_count 252 = .ok (.aload_n 0, 1) := by decide +kernel
theorem dX10_count_253 : decode cX10_count 253 = .ok (.getfield 43, 3) := by decide +kernel
theorem dX10_count_256 : decode cX10_count 256 = .ok (.aload_n 0, 1) := by decide +kernel
theorem dX10_count_257 : decode cX10_count 257 = .ok (.getfield 10, 3) := by decide +kernel
theorem dX10_count_260 : decode cX10_count 260 = .ok (.invokevirtual 148, 3) := by decide +kernel
theorem dX10_count_263 : decode cX10_count 263 = .ok (.iconst 3, 1) := by decide +kernel
theorem dX10_count_264 : decode cX10_count 264 = .ok (.invokevirtual 235, 3) := by decide +kernel
theorem dX10_count_267 : decode cX10_count 267 = .ok (.ireturn, 1) := by decide +kernel
theorem dX10_count_268 : decode cX10_count 268 = .ok (.aload_n 0, 1) := by decide +kernel
theorem dX10_count_269 : decode cX10_count 269 = .ok (.getfield 10, 3) := by decide +kernel
theorem dX10_count_272 : decode cX10_count 272 = .ok (.getfield 158, 3) := by decide +kernel
theorem dX10_count_275 : decode cX10_count 275 = .ok (.getfield 238, 3) := by decide +kernel
theorem dX10_count_278 : decode cX10_count 278 = .ok (.ireturn, 1) := by decide +kernel
theorem dX10_count_279 : decode cX10_count 279 = .ok (.aload_n 0, 1) := by decide +kernel
theorem dX10_count_280 : decode cX10_count 280 = .ok (.getfield 29, 3) := by decide +kernel
theorem dX10_count_283 : decode cX10_count 283 = .ok (.getfield 128, 3) := by decide +kernel
theorem dX10_count_286 : decode cX10_count 286 = .ok (.ireturn, 1) := by decide +kernel
theorem dX10_count_287 : decode cX10_count 287 = .ok (.aload_n 0, 1) := by decide +kernel
theorem dX10_count_288 : decode cX10_count 288 = .ok (.getfield 36, 3) := by decide +kernel
theorem dX10_count_291 : decode cX10_count 291 = .ok (.getfield 107, 3) := by decide +kernel
theorem dX10_count_294 : decode cX10_count 294 = .ok (.ireturn, 1) := by decide +kernel
theorem dX10_count_295 : decode cX10_count 295 = .ok (.aload_n 0, 1) := by decide +kernel
theorem dX10_count_296 : decode cX10_count 296 = .ok (.iload_n 1, 1) := by decide +kernel
theorem dX10_count_297 : decode cX10_count 297 = .ok (.bipush 17, 2) := by decide +kernel
theorem dX10_count_299 : decode cX10_count 299 = .ok (.isub, 1) := by decide +kernel
theorem dX10_count_300 : decode cX10_count 300 = .ok (.invokevirtual 239, 3) := by decide +kernel
theorem dX10_count_303 : decode cX10_count 303 = .ok (.ireturn, 1) := by decide +kernel
theorem dX10_right_0 : decode cX10_right 0 = .ok (.iconst 0, 1) := by decide +kernel
theorem dX10_right_1 : decode cX10_right 1 = .ok (.istore_n 1, 1) := by decide +kernel
theorem dX10_right_2 : decode cX10_right 2 = .ok (.iconst 0, 1) := by decide +kernel
theorem dX10_right_3 : decode cX10_right 3 = .ok (.istore_n 2, 1) := by decide +kernel
theorem dX10_right_4 : decode cX10_right 4 = .ok (.aload_n 0, 1) := by decide +kernel
theorem dX10_right_5 : decode cX10_right 5 = .ok (.getfield 10, 3) := by decide +kernel
theorem dX10_right_8 : decode cX10_right 8 = .ok (.getfield 79, 3) := by decide +kernel
theorem dX10_right_11 : decode cX10_right 11 = .ok (.invokevirtual 213, 3) := by decide +kernel
theorem dX10_right_14 : decode cX10_right 14 = .ok (.istore_n 3, 1) := by decide +kernel
theorem dX10_right_15 : decode cX10_right 15 = .ok (.aload_n 0, 1) := by decide +kernel
theorem dX10_right_16 : decode cX10_right 16 = .ok (.getfield 43, 3) := by decide +kernel
theorem dX10_right_19 : decode cX10_right 19 = .ok (.aload_n 0, 1) := by decide +kernel
theorem dX10_right_20 : decode cX10_right 20 = .ok (.getfield 10, 3) := by decide +kernel
theorem dX10_right_23 : decode cX10_right 23 = .ok (.invokevirtual 148, 3) := by decide +kernel
theorem dX10_right_26 : decode cX10_right 26 = .ok (.pop, 1) := by decide +kernel
theorem dX10_right_27 : decode cX10_right 27 = .ok (.iconst 0, 1) := by decide +kernel
theorem dX10_right_28 : decode cX10_right 28 = .ok (.istore 4, 2) := by decide +kernel
theorem dX10_right_30 : decode cX10_right 30 = .ok (.iload 4, 2) := by decide +kernel
theorem dX10_right_32 : decode cX10_right 32 = .ok (.iload_n 3, 1) := by decide +kernel
theorem dX10_right_33 : decode cX10_right 33 = .ok (.if_icmp .ge 37, 3) := by decide +kernel
theorem dX10_right_36 : decode cX10_right 36 = .ok (.iload 4, 2) := by decide +kernel
theorem dX10_right_38 : decode cX10_right 38 = .ok (.invokestatic 145, 3) := by decide +kernel
theorem dX10_right_41 : decode cX10_right 41 = .ok (.ifCond .ne 23, 3) := by decide +kernel
theorem dX10_right_44 : decode cX10_right 44 = .ok (.iinc 1 1, 3) := by decide +kernel
theorem dX10_right_47 : decode cX10_right 47 = .ok (.iload_n 2, 1) := by decide +kernel
theorem dX10_right_48 : decode cX10_right 48 = .ok (.aload_n 0, 1) := by decide +kernel
theorem dX10_right_49 : decode cX10_right 49 = .ok (.iload 4, 2) := by decide +kernel
theorem dX10_right_51 : decode cX10_right 51 = .ok (.invokevirtual 242, 3) := by decide +kernel
theorem dX10_right_54 : decode cX10_right 54 = .ok (.ifCond .eq 7, 3) := by decide +kernel
theorem dX10_right_57 : decode cX10_right 57 = .ok (.iconst 1, 1) := by decide +kernel
theorem dX10_right_58 : decode cX10_right 58 = .ok (.goto 4, 3) := by decide +kernel
theorem dX10_right_61 : decode cX10_right 61 = .ok (.iconst 0, 1) := by decide +kernel
theorem dX10_right_62 : decode cX10_right 62 = .ok (.iadd, 1) := by decide +kernel
theorem dX10_right_63 : decode cX10_right 63 = .ok (.istore_n 2, 1) := by decide +kernel
theorem dX10_right_64 : decode cX10_right 64 = .ok (.iinc 4 1, 3) := by decide +kernel
theorem dX10_right_67 : decode cX10_right 67 = .ok (.goto (-37), 3) := by decide +kernel
theorem dX10_right_70 : decode cX10_right 70 = .ok (.iload_n 1, 1) := by decide +kernel
theorem dX10_right_71 : decode cX10_right 71 = .ok (.ifCond .ne 7, 3) := by decide +kernel
theorem dX10_right_74 : decode cX10_right 74 = .ok (.dconst 1, 1) := by decide +kernel
theorem dX10_right_75 : decode cX10_right 75 = .ok (.goto 8, 3) := by decide +kernel
theorem dX10_right_78 : decode cX10_right 78 = .ok (.iload_n 2, 1) := by decide +kernel
theorem dX10_right_79 : decode cX10_right 79 = .ok (.i2d, 1) := by decide +kernel
theorem dX10_right_80 : decode cX10_right 80 = .ok (.iload_n 1, 1) := by decide +kernel
theorem dX10_right_81 : decode cX10_right 81 = .ok (.i2d, 1) := by decide +kernel
theorem dX10_right_82 : decode cX10_right 82 = .ok (.ddiv, 1) := by decide +kernel
theorem dX10_right_83 : decode cX10_right 83 = .ok (.dreturn, 1) := by decide +kernel
theorem dX10_ifSought_0 : decode cX10_ifSought 0 = .ok (.aload_n 0, 1) := by decide +kernel
theorem dX10_ifSought_1 : decode cX10_ifSought 1 = .ok (.getfield 10, 3) := by decide +kernel
theorem dX10_ifSought_4 : decode cX10_ifSought 4 = .ok (.getfield 79, 3) := by decide +kernel
theorem dX10_ifSought_7 : decode cX10_ifSought 7 = .ok (.iload_n 1, 1) := by decide +kernel
theorem dX10_ifSought_8 : decode cX10_ifSought 8 = .ok (.invokevirtual 132, 3) := by decide +kernel
theorem dX10_ifSought_11 : decode cX10_ifSought 11 = .ok (.ifCond .ne 5, 3) := by decide +kernel
theorem dX10_ifSought_14 : decode cX10_ifSought 14 = .ok (.iconst (-1), 1) := by decide +kernel
theorem dX10_ifSought_15 : decode cX10_ifSought 15 = .ok (.ireturn, 1) := by decide +kernel
theorem dX10_ifSought_16 : decode cX10_ifSought 16 = .ok (.iload_n 2, 1) := by decide +kernel
theorem dX10_ifSought_17 : decode cX10_ifSought 17 = .ok (.ifCond .eq 11, 3) := by decide +kernel
theorem dX10_ifSought_20 : decode cX10_ifSought 20 = .ok (.iload_n 2, 1) := by decide +kernel
theorem dX10_ifSought_21 : decode cX10_ifSought 21 = .ok (.iconst 1, 1) := by decide +kernel
theorem dX10_ifSought_22 : decode cX10_ifSought 22 = .ok (.if_icmp .eq 6, 3) := by decide +kernel
theorem dX10_ifSought_25 : decode cX10_ifSought 25 = .ok (.bipush (-2), 2) := by decide +kernel
theorem dX10_ifSought_27 : decode cX10_ifSought 27 = .ok (.ireturn, 1) := by decide +kernel
theorem dX10_ifSought_28 : decode cX10_ifSought 28 = .ok (.aload_n 0, 1) := by decide +kernel
theorem dX10_ifSought_29 : decode cX10_ifSought 29 = .ok (.iload_n 1, 1) := by decide +kernel
theorem dX10_ifSought_30 : decode cX10_ifSought 30 = .ok (.aload_n 0, 1) := by decide +kernel
theorem dX10_ifSought_31 : decode cX10_ifSought 31 = .ok (.getfield 10, 3) := by decide +kernel
theorem dX10_ifSought_34 : decode cX10_ifSought 34 = .ok (.getfield 79, 3) := by decide +kernel
theorem dX10_ifSought_37 : decode cX10_ifSought 37 = .ok (.getfield 245, 3) := by decide +kernel
theorem dX10_ifSought_40 : decode cX10_ifSought 40 = .ok (.invokevirtual 248, 3) := by decide +kernel
theorem dX10_ifSought_43 : decode cX10_ifSought 43 = .ok (.istore_n 3, 1) := by decide +kernel
theorem dX10_ifSought_44 : decode cX10_ifSought 44 = .ok (.iload_n 2, 1) := by decide +kernel
theorem dX10_ifSought_45 : decode cX10_ifSought 45 = .ok (.ifCond .ne 7, 3) := by decide +kernel
theorem dX10_ifSought_48 : decode cX10_ifSought 48 = .ok (.iload_n 3, 1) := by decide +kernel
theorem dX10_ifSought_49 : decode cX10_ifSought 49 = .ok (.goto 21, 3) := by decide +kernel
theorem dX10_ifSought_52 : decode cX10_ifSought 52 = .ok (.aload_n 0, 1) := by decide +kernel
theorem dX10_ifSought_53 : decode cX10_ifSought 53 = .ok (.getfield 50, 3) := by decide +kernel
theorem dX10_ifSought_56 : decode cX10_ifSought 56 = .ok (.getfield 232, 3) := by decide +kernel
theorem dX10_ifSought_59 : decode cX10_ifSought 59 = .ok (.aload_n 0, 1) := by decide +kernel
theorem dX10_ifSought_60 : decode cX10_ifSought 60 = .ok (.getfield 10, 3) := by decide +kernel
theorem dX10_ifSought_63 : decode cX10_ifSought 63 = .ok (.getfield 90, 3) := by decide +kernel
theorem dX10_ifSought_66 : decode cX10_ifSought 66 = .ok (.getfield 232, 3) := by decide +kernel
theorem dX10_ifSought_69 : decode cX10_ifSought 69 = .ok (.isub, 1) := by decide +kernel
theorem dX10_ifSought_70 : decode cX10_ifSought 70 = .ok (.ireturn, 1) := by decide +kernel
theorem dX10_bestGuess_0 : decode cX10_bestGuess 0 = .ok (.aload_n 0, 1) := by decide +kernel
theorem dX10_bestGuess_1 : decode cX10_bestGuess 1 = .ok (.getfield 10, 3) := by decide +kernel
theorem dX10_bestGuess_4 : decode cX10_bestGuess 4 = .ok (.getfield 79, 3) := by decide +kernel
theorem dX10_bestGuess_7 : decode cX10_bestGuess 7 = .ok (.iload_n 1, 1) := by decide +kernel
theorem dX10_bestGuess_8 : decode cX10_bestGuess 8 = .ok (.invokevirtual 132, 3) := by decide +kernel
theorem dX10_bestGuess_11 : decode cX10_bestGuess 11 = .ok (.ifCond .ne 5, 3) := by decide +kernel
theorem dX10_bestGuess_14 : decode cX10_bestGuess 14 = .ok (.iconst (-1), 1) := by decide +kernel
theorem dX10_bestGuess_15 : decode cX10_bestGuess 15 = .ok (.ireturn, 1) := by decide +kernel
theorem dX10_bestGuess_16 : decode cX10_bestGuess 16 = .ok (.bipush 60, 2) := by decide +kernel
theorem dX10_bestGuess_18 : decode cX10_bestGuess 18 = .ok (.istore_n 2, 1) := by decide +kernel
theorem dX10_bestGuess_19 : decode cX10_bestGuess 19 = .ok (.aload_n 0, 1) := by decide +kernel
theorem dX10_bestGuess_20 : decode cX10_bestGuess 20 = .ok (.iload_n 1, 1) := by decide +kernel
theorem dX10_bestGuess_21 : decode cX10_bestGuess 21 = .ok (.bipush 60, 2) := by decide +kernel
theorem dX10_bestGuess_23 : decode cX10_bestGuess 23 = .ok (.invokevirtual 248, 3) := by decide +kernel
theorem dX10_bestGuess_26 : decode cX10_bestGuess 26 = .ok (.istore_n 3, 1) := by decide +kernel
theorem dX10_bestGuess_27 : decode cX10_bestGuess 27 = .ok (.bipush 61, 2) := by decide +kernel
theorem dX10_bestGuess_29 : decode cX10_bestGuess 29 = .ok (.istore 4, 2) := by decide +kernel
theorem dX10_bestGuess_31 : decode cX10_bestGuess 31 = .ok (.iload 4, 2) := by decide +kernel
theorem dX10_bestGuess_33 : decode cX10_bestGuess 33 = .ok (.sipush 140, 3) := by decide +kernel
theorem dX10_bestGuess_36 : decode cX10_bestGuess 36 = .ok (.if_icmp .gt 30, 3) := by decide +kernel
theorem dX10_bestGuess_39 : decode cX10_bestGuess 39 = .ok (.aload_n 0, 1) := by decide +kernel
theorem dX10_bestGuess_40 : decode cX10_bestGuess 40 = .ok (.iload_n 1, 1) := by decide +kernel
theorem dX10_bestGuess_41 : decode cX10_bestGuess 41 = .ok (.iload 4, 2) := by decide +kernel
theorem dX10_bestGuess_43 : decode cX10_bestGuess 43 = .ok (.invokevirtual 248, 3) := by decide +kernel
theorem dX10_bestGuess_46 : decode cX10_bestGuess 46 = .ok (.istore 5, 2) := by decide +kernel
theorem dX10_bestGuess_48 : decode cX10_bestGuess 48 = .ok (.iload 5, 2) := by decide +kernel
theorem dX10_bestGuess_50 : decode cX10_bestGuess 50 = .ok (.iload_n 3, 1) := by decide +kernel
theorem dX10_bestGuess_51 : decode cX10_bestGuess 51 = .ok (.if_icmp .ge 9, 3) := by decide +kernel
theorem dX10_bestGuess_54 : decode cX10_bestGuess 54 = .ok (.iload 4, 2) := by decide +kernel
theorem dX10_bestGuess_56 : decode cX10_bestGuess 56 = .ok (.istore_n 2, 1) := by decide +kernel
theorem dX10_bestGuess_57 : decode cX10_bestGuess 57 = .ok (.iload 5, 2) := by decide +kernel
theorem dX10_bestGuess_59 : decode cX10_bestGuess 59 = .ok (.istore_n 3, 1) := by decide +kernel
theorem dX10_bestGuess_60 : decode cX10_bestGuess 60 = .ok (.iinc 4 1, 3) := by decide +kernel
theorem dX10_bestGuess_63 : decode cX10_bestGuess 63 = .ok (.goto (-32), 3) := by decide +kernel
theorem dX10_bestGuess_66 : decode cX10_bestGuess 66 = .ok (.iload_n 2, 1) := by decide +kernel
theorem dX10_bestGuess_67 : decode cX10_bestGuess 67 = .ok (.ireturn, 1) := by decide +kernel
theorem dX10_polishFirst_0 : decode cX10_polishFirst 0 = .ok (.iload_n 1, 1) := by decide +kernel
theorem dX10_polishFirst_1 : decode cX10_polishFirst 1 = .ok (.ifCond .eq 11, 3) := by decide +kernel
theorem dX10_polishFirst_4 : decode cX10_polishFirst 4 = .ok (.iload_n 1, 1) := by decide +kernel
theorem dX10_polishFirst_5 : decode cX10_polishFirst 5 = .ok (.iconst 1, 1) := by decide +kernel
theorem dX10_polishFirst_6 : decode cX10_polishFirst 6 = .ok (.if_icmp .eq 6, 3) := by decide +kernel
theorem dX10_polishFirst_9 : decode cX10_polishFirst 9 = .ok (.bipush (-2), 2) := by decide +kernel
theorem dX10_polishFirst_11 : decode cX10_polishFirst 11 = .ok (.ireturn, 1) := by decide +kernel
theorem dX10_polishFirst_12 : decode cX10_polishFirst 12 = .ok (.aload_n 0, 1) := by decide +kernel
theorem dX10_polishFirst_13 : decode cX10_polishFirst 13 = .ok (.getfield 10, 3) := by decide +kernel
theorem dX10_polishFirst_16 : decode cX10_polishFirst 16 = .ok (.getfield 192, 3) := by decide +kernel
theorem dX10_polishFirst_19 : decode cX10_polishFirst 19 = .ok (.getfield 219, 3) := by decide +kernel
theorem dX10_polishFirst_22 : decode cX10_polishFirst 22 = .ok (.ifCond .ne 6, 3) := by decide +kernel
theorem dX10_polishFirst_25 : decode cX10_polishFirst 25 = .ok (.bipush (-5), 2) := by decide +kernel
theorem dX10_polishFirst_27 : decode cX10_polishFirst 27 = .ok (.ireturn, 1) := by decide +kernel
theorem dX10_polishFirst_28 : decode cX10_polishFirst 28 = .ok (.iconst 0, 1) := by decide +kernel
theorem dX10_polishFirst_29 : decode cX10_polishFirst 29 = .ok (.istore_n 2, 1) := by decide +kernel
theorem dX10_polishFirst_30 : decode cX10_polishFirst 30 = .ok (.aload_n 0, 1) := by decide +kernel
theorem dX10_polishFirst_31 : decode cX10_polishFirst 31 = .ok (.getfield 43, 3) := by decide +kernel
theorem dX10_polishFirst_34 : decode cX10_polishFirst 34 = .ok (.aload_n 0, 1) := by decide +kernel
theorem dX10_polishFirst_35 : decode cX10_polishFirst 35 = .ok (.getfield 10, 3) := by decide +kernel
theorem dX10_polishFirst_38 : decode cX10_polishFirst 38 = .ok (.invokevirtual 148, 3) := by decide +kernel
theorem dX10_polishFirst_41 : decode cX10_polishFirst 41 = .ok (.iconst 0, 1) := by decide +kernel
theorem dX10_polishFirst_42 : decode cX10_polishFirst 42 = .ok (.invokevirtual 251, 3) := by decide +kernel
theorem dX10_polishFirst_45 : decode cX10_polishFirst 45 = .ok (.istore_n 3, 1) := by decide +kernel
theorem dX10_polishFirst_46 : decode cX10_polishFirst 46 = .ok (.iconst 1, 1) := by decide +kernel
theorem dX10_polishFirst_47 : decode cX10_polishFirst 47 = .ok (.istore 4, 2) := by decide +kernel
theorem dX10_polishFirst_49 : decode cX10_polishFirst 49 = .ok (.iload 4, 2) := by decide +kernel
theorem dX10_polishFirst_51 : decode cX10_polishFirst 51 = .ok (.aload_n 0, 1) := by decide +kernel
theorem dX10_polishFirst_52 : decode cX10_polishFirst 52 = .ok (.getfield 10, 3) := by decide +kernel
theorem dX10_polishFirst_55 : decode cX10_polishFirst 55 = .ok (.getfield 192, 3) := by decide +kernel
theorem dX10_polishFirst_58 : decode cX10_polishFirst 58 = .ok (.getfield 219, 3) := by decide +kernel
theorem dX10_polishFirst_61 : decode cX10_polishFirst 61 = .ok (.if_icmp .ge 32, 3) := by decide +kernel
theorem dX10_polishFirst_64 : decode cX10_polishFirst 64 = .ok (.aload_n 0, 1) := by decide +kernel
theorem dX10_polishFirst_65 : decode cX10_polishFirst 65 = .ok (.getfield 43, 3) := by decide +kernel
theorem dX10_polishFirst_68 : decode cX10_polishFirst 68 = .ok (.iload 4, 2) := by decide +kernel
theorem dX10_polishFirst_70 : decode cX10_polishFirst 70 = .ok (.invokevirtual 251, 3) := by decide +kernel
theorem dX10_polishFirst_73 : decode cX10_polishFirst 73 = .ok (.istore 5, 2) := by decide +kernel
theorem dX10_polishFirst_75 : decode cX10_polishFirst 75 = .ok (.iload 5, 2) := by decide +kernel
theorem dX10_polishFirst_77 : decode cX10_polishFirst 77 = .ok (.iload_n 3, 1) := by decide +kernel
theorem dX10_polishFirst_78 : decode cX10_polishFirst 78 = .ok (.if_icmp .ge 9, 3) := by decide +kernel
theorem dX10_polishFirst_81 : decode cX10_polishFirst 81 = .ok (.iload 4, 2) := by decide +kernel
theorem dX10_polishFirst_83 : decode cX10_polishFirst 83 = .ok (.istore_n 2, 1) := by decide +kernel
theorem dX10_polishFirst_84 : decode cX10_polishFirst 84 = .ok (.iload 5, 2) := by decide +kernel
theorem dX10_polishFirst_86 : decode cX10_polishFirst 86 = .ok (.istore_n 3, 1) := by decide +kernel
theorem dX10_polishFirst_87 : decode cX10_polishFirst 87 = .ok (.iinc 4 1, 3) := by decide +kernel
theorem dX10_polishFirst_90 : decode cX10_polishFirst 90 = .ok (.goto (-41), 3) := by decide +kernel
theorem dX10_polishFirst_93 : decode cX10_polishFirst 93 = .ok (.aload_n 0, 1) := by decide +kernel
theorem dX10_polishFirst_94 : decode cX10_polishFirst 94 = .ok (.getfield 43, 3) := by decide +kernel
theorem dX10_polishFirst_97 : decode cX10_polishFirst 97 = .ok (.iconst (-1), 1) := by decide +kernel
theorem dX10_polishFirst_98 : decode cX10_polishFirst 98 = .ok (.invokevirtual 254, 3) := by decide +kernel
theorem dX10_polishFirst_101 : decode cX10_polishFirst 101 = .ok (.iload_n 1, 1) := by decide +kernel
theorem dX10_polishFirst_102 : decode cX10_polishFirst 102 = .ok (.ifCond .ne 7, 3) := by decide +kernel
theorem dX10_polishFirst_105 : decode cX10_polishFirst 105 = .ok (.iload_n 2, 1) := by decide +kernel
theorem dX10_polishFirst_106 : decode cX10_polishFirst 106 = .ok (.goto 4, 3) := by decide +kernel
theorem dX10_polishFirst_109 : decode cX10_polishFirst 109 = .ok (.iload_n 3, 1) := by decide +kernel
theorem dX10_polishFirst_110 : decode cX10_polishFirst 110 = .ok (.ireturn, 1) := by decide +kernel
theorem dX10_gap_0 : decode cX10_gap 0 = .ok (.iload_n 1, 1) := by decide +kernel
theorem dX10_gap_1 : decode cX10_gap 1 = .ok (.ifCond .eq 11, 3) := by decide +kernel
theorem dX10_gap_4 : decode cX10_gap 4 = .ok (.iload_n 1, 1) := by decide +kernel
theorem dX10_gap_5 : decode cX10_gap 5 = .ok (.iconst 1, 1) := by decide +kernel
theorem dX10_gap_6 : decode cX10_gap 6 = .ok (.if_icmp .eq 6, 3) := by decide +kernel
theorem dX10_gap_9 : decode cX10_gap 9 = .ok (.bipush (-2), 2) := by decide +kernel
theorem dX10_gap_11 : decode cX10_gap 11 = .ok (.ireturn, 1) := by decide +kernel
theorem dX10_gap_12 : decode cX10_gap 12 = .ok (.iconst 0, 1) := by decide +kernel
theorem dX10_gap_13 : decode cX10_gap 13 = .ok (.istore_n 2, 1) := by decide +kernel
theorem dX10_gap_14 : decode cX10_gap 14 = .ok (.iconst 0, 1) := by decide +kernel
theorem dX10_gap_15 : decode cX10_gap 15 = .ok (.istore_n 3, 1) := by decide +kernel
theorem dX10_gap_16 : decode cX10_gap 16 = .ok (.iconst 0, 1) := by decide +kernel
theorem dX10_gap_17 : decode cX10_gap 17 = .ok (.istore 4, 2) := by decide +kernel
theorem dX10_gap_19 : decode cX10_gap 19 = .ok (.aload_n 0, 1) := by decide +kernel
theorem dX10_gap_20 : decode cX10_gap 20 = .ok (.getfield 10, 3) := by decide +kernel
theorem dX10_gap_23 : decode cX10_gap 23 = .ok (.getfield 79, 3) := by decide +kernel
theorem dX10_gap_26 : decode cX10_gap 26 = .ok (.invokevirtual 213, 3) := by decide +kernel
theorem dX10_gap_29 : decode cX10_gap 29 = .ok (.istore 5, 2) := by decide +kernel
theorem dX10_gap_31 : decode cX10_gap 31 = .ok (.aload_n 0, 1) := by decide +kernel
theorem dX10_gap_32 : decode cX10_gap 32 = .ok (.getfield 43, 3) := by decide +kernel
theorem dX10_gap_35 : decode cX10_gap 35 = .ok (.aload_n 0, 1) := by decide +kernel
theorem dX10_gap_36 : decode cX10_gap 36 = .ok (.getfield 10, 3) := by decide +kernel
theorem dX10_gap_39 : decode cX10_gap 39 = .ok (.invokevirtual 148, 3) := by decide +kernel
theorem dX10_gap_42 : decode cX10_gap 42 = .ok (.pop, 1) := by decide +kernel
theorem dX10_gap_43 : decode cX10_gap 43 = .ok (.iconst 0, 1) := by decide +kernel
theorem dX10_gap_44 : decode cX10_gap 44 = .ok (.istore 6, 2) := by decide +kernel
theorem dX10_gap_46 : decode cX10_gap 46 = .ok (.iload 6, 2) := by decide +kernel
theorem dX10_gap_48 : decode cX10_gap 48 = .ok (.iload 5, 2) := by decide +kernel
theorem dX10_gap_50 : decode cX10_gap 50 = .ok (.if_icmp .ge 49, 3) := by decide +kernel
theorem dX10_gap_53 : decode cX10_gap 53 = .ok (.aload_n 0, 1) := by decide +kernel
theorem dX10_gap_54 : decode cX10_gap 54 = .ok (.getfield 43, 3) := by decide +kernel
theorem dX10_gap_57 : decode cX10_gap 57 = .ok (.iload 6, 2) := by decide +kernel
theorem dX10_gap_59 : decode cX10_gap 59 = .ok (.invokevirtual 155, 3) := by decide +kernel
theorem dX10_gap_62 : decode cX10_gap 62 = .ok (.iconst 3, 1) := by decide +kernel
theorem dX10_gap_63 : decode cX10_gap 63 = .ok (.if_icmp .ne 10, 3) := by decide +kernel
theorem dX10_gap_66 : decode cX10_gap 66 = .ok (.iload 4, 2) := by decide +kernel
theorem dX10_gap_68 : decode cX10_gap 68 = .ok (.iconst 1, 1) := by decide +kernel
theorem dX10_gap_69 : decode cX10_gap 69 = .ok (.iadd, 1) := by decide +kernel
theorem dX10_gap_70 : decode cX10_gap 70 = .ok (.goto 4, 3) := by decide +kernel
theorem dX10_gap_73 : decode cX10_gap 73 = .ok (.iconst 0, 1) := by decide +kernel
theorem dX10_gap_74 : decode cX10_gap 74 = .ok (.istore 4, 2) := by decide +kernel
theorem dX10_gap_76 : decode cX10_gap 76 = .ok (.iload 4, 2) := by decide +kernel
theorem dX10_gap_78 : decode cX10_gap 78 = .ok (.iload_n 2, 1) := by decide +kernel
theorem dX10_gap_79 : decode cX10_gap 79 = .ok (.if_icmp .le 14, 3) := by decide +kernel
theorem dX10_gap_82 : decode cX10_gap 82 = .ok (.iload 4, 2) := by decide +kernel
theorem dX10_gap_84 : decode cX10_gap 84 = .ok (.istore_n 2, 1) := by decide +kernel
theorem dX10_gap_85 : decode cX10_gap 85 = .ok (.iload 6, 2) := by decide +kernel
theorem dX10_gap_87 : decode cX10_gap 87 = .ok (.iload 4, 2) := by decide +kernel
theorem dX10_gap_89 : decode cX10_gap 89 = .ok (.isub, 1) := by decide +kernel
theorem dX10_gap_90 : decode cX10_gap 90 = .ok (.iconst 1, 1) := by decide +kernel
theorem dX10_gap_91 : decode cX10_gap 91 = .ok (.iadd, 1) := by decide +kernel
theorem dX10_gap_92 : decode cX10_gap 92 = .ok (.istore_n 3, 1) := by decide +kernel
theorem dX10_gap_93 : decode cX10_gap 93 = .ok (.iinc 6 1, 3) := by decide +kernel
theorem dX10_gap_96 : decode cX10_gap 96 = .ok (.goto (-50), 3) := by decide +kernel
theorem dX10_gap_99 : decode cX10_gap 99 = .ok (.iload_n 2, 1) := by decide +kernel
theorem dX10_gap_100 : decode cX10_gap 100 = .ok (.ifCond .ne 6, 3) := by decide +kernel
theorem dX10_gap_103 : decode cX10_gap 103 = .ok (.bipush (-5), 2) := by decide +kernel
theorem dX10_gap_105 : decode cX10_gap 105 = .ok (.ireturn, 1) := by decide +kernel
theorem dX10_gap_106 : decode cX10_gap 106 = .ok (.iload_n 1, 1) := by decide +kernel
theorem dX10_gap_107 : decode cX10_gap 107 = .ok (.ifCond .ne 7, 3) := by decide +kernel
theorem dX10_gap_110 : decode cX10_gap 110 = .ok (.iload_n 3, 1) := by decide +kernel
theorem dX10_gap_111 : decode cX10_gap 111 = .ok (.goto 4, 3) := by decide +kernel
theorem dX10_gap_114 : decode cX10_gap 114 = .ok (.iload_n 2, 1) := by decide +kernel
theorem dX10_gap_115 : decode cX10_gap 115 = .ok (.ireturn, 1) := by decide +kernel
theorem dX10_pressSymbol_0 : decode cX10_pressSymbol 0 = .ok (.aload_n 0, 1) := by decide +kernel
theorem dX10_pressSymbol_1 : decode cX10_pressSymbol 1 = .ok (.getfield 10, 3) := by decide +kernel
theorem dX10_pressSymbol_4 : decode cX10_pressSymbol 4 = .ok (.getfield 79, 3) := by decide +kernel
theorem dX10_pressSymbol_7 : decode cX10_pressSymbol 7 = .ok (.iload_n 1, 1) := by decide +kernel
theorem dX10_pressSymbol_8 : decode cX10_pressSymbol 8 = .ok (.invokevirtual 132, 3) := by decide +kernel
theorem dX10_pressSymbol_11 : decode cX10_pressSymbol 11 = .ok (.ifCond .ne 5, 3) := by decide +kernel
theorem dX10_pressSymbol_14 : decode cX10_pressSymbol 14 = .ok (.iconst (-1), 1) := by decide +kernel
theorem dX10_pressSymbol_15 : decode cX10_pressSymbol 15 = .ok (.ireturn, 1) := by decide +kernel
theorem dX10_pressSymbol_16 : decode cX10_pressSymbol 16 = .ok (.iload_n 2, 1) := by decide +kernel
theorem dX10_pressSymbol_17 : decode cX10_pressSymbol 17 = .ok (.invokestatic 173, 3) := by decide +kernel
theorem dX10_pressSymbol_20 : decode cX10_pressSymbol 20 = .ok (.ifCond .eq 13, 3) := by decide +kernel
theorem dX10_pressSymbol_23 : decode cX10_pressSymbol 23 = .ok (.iload_n 3, 1) := by decide +kernel
theorem dX10_pressSymbol_24 : decode cX10_pressSymbol 24 = .ok (.ifCond .lt 9, 3) := by decide +kernel
theorem dX10_pressSymbol_27 : decode cX10_pressSymbol 27 = .ok (.iload_n 3, 1) := by decide +kernel
theorem dX10_pressSymbol_28 : decode cX10_pressSymbol 28 = .ok (.bipush 16, 2) := by decide +kernel
theorem dX10_pressSymbol_30 : decode cX10_pressSymbol 30 = .ok (.if_icmp .lt 6, 3) := by decide +kernel
theorem dX10_pressSymbol_33 : decode cX10_pressSymbol 33 = .ok (.bipush (-2), 2) := by decide +kernel
theorem dX10_pressSymbol_35 : decode cX10_pressSymbol 35 = .ok (.ireturn, 1) := by decide +kernel
theorem dX10_pressSymbol_36 : decode cX10_pressSymbol 36 = .ok (.iload_n 1, 1) := by decide +kernel
theorem dX10_pressSymbol_37 : decode cX10_pressSymbol 37 = .ok (.invokestatic 145, 3) := by decide +kernel
theorem dX10_pressSymbol_40 : decode cX10_pressSymbol 40 = .ok (.ifCond .eq 6, 3) := by decide +kernel
theorem dX10_pressSymbol_43 : decode cX10_pressSymbol 43 = .ok (.bipush (-4), 2) := by decide +kernel
theorem dX10_pressSymbol_45 : decode cX10_pressSymbol 45 = .ok (.ireturn, 1) := by decide +kernel
theorem dX10_pressSymbol_46 : decode cX10_pressSymbol 46 = .ok (.aload_n 0, 1) := by decide +kernel
theorem dX10_pressSymbol_47 : decode cX10_pressSymbol 47 = .ok (.getfield 10, 3) := by decide +kernel
theorem dX10_pressSymbol_50 : decode cX10_pressSymbol 50 = .ok (.getfield 158, 3) := by decide +kernel
theorem dX10_pressSymbol_53 : decode cX10_pressSymbol 53 = .ok (.iload_n 1, 1) := by decide +kernel
theorem dX10_pressSymbol_54 : decode cX10_pressSymbol 54 = .ok (.iload_n 2, 1) := by decide +kernel
theorem dX10_pressSymbol_55 : decode cX10_pressSymbol 55 = .ok (.invokevirtual 180, 3) := by decide +kernel
theorem dX10_pressSymbol_58 : decode cX10_pressSymbol 58 = .ok (.istore 4, 2) := by decide +kernel
theorem dX10_pressSymbol_60 : decode cX10_pressSymbol 60 = .ok (.iload 4, 2) := by decide +kernel
theorem dX10_pressSymbol_62 : decode cX10_pressSymbol 62 = .ok (.iload_n 3, 1) := by decide +kernel
theorem dX10_pressSymbol_63 : decode cX10_pressSymbol 63 = .ok (.if_icmp .ne 6, 3) := by decide +kernel
theorem dX10_pressSymbol_66 : decode cX10_pressSymbol 66 = .ok (.bipush (-5), 2) := by decide +kernel
theorem dX10_pressSymbol_68 : decode cX10_pressSymbol 68 = .ok (.ireturn, 1) := by decide +kernel
theorem dX10_pressSymbol_69 : decode cX10_pressSymbol 69 = .ok (.aload_n 0, 1) := by decide +kernel
theorem dX10_pressSymbol_70 : decode cX10_pressSymbol 70 = .ok (.getfield 10, 3) := by decide +kernel
theorem dX10_pressSymbol_73 : decode cX10_pressSymbol 73 = .ok (.getfield 158, 3) := by decide +kernel
theorem dX10_pressSymbol_76 : decode cX10_pressSymbol 76 = .ok (.iload_n 1, 1) := by decide +kernel
theorem dX10_pressSymbol_77 : decode cX10_pressSymbol 77 = .ok (.iload_n 2, 1) := by decide +kernel
theorem dX10_pressSymbol_78 : decode cX10_pressSymbol 78 = .ok (.iload_n 3, 1) := by decide +kernel
theorem dX10_pressSymbol_79 : decode cX10_pressSymbol 79 = .ok (.invokevirtual 258, 3) := by decide +kernel
theorem dX10_pressSymbol_82 : decode cX10_pressSymbol 82 = .ok (.ifCond .eq 8, 3) := by decide +kernel
theorem dX10_pressSymbol_85 : decode cX10_pressSymbol 85 = .ok (.iload 4, 2) := by decide +kernel
theorem dX10_pressSymbol_87 : decode cX10_pressSymbol 87 = .ok (.goto 5, 3) := by decide +kernel
theorem dX10_pressSymbol_90 : decode cX10_pressSymbol 90 = .ok (.bipush (-3), 2) := by decide +kernel
theorem dX10_pressSymbol_92 : decode cX10_pressSymbol 92 = .ok (.ireturn, 1) := by decide +kernel
theorem dX10_addScratch_0 : decode cX10_addScratch 0 = .ok (.iload_n 1, 1) := by decide +kernel
theorem dX10_addScratch_1 : decode cX10_addScratch 1 = .ok (.ifCond .lt 19, 3) := by decide +kernel
theorem dX10_addScratch_4 : decode cX10_addScratch 4 = .ok (.iload_n 1, 1) := by decide +kernel
theorem dX10_addScratch_5 : decode cX10_addScratch 5 = .ok (.iload_n 2, 1) := by decide +kernel
theorem dX10_addScratch_6 : decode cX10_addScratch 6 = .ok (.if_icmp .gt 14, 3) := by decide +kernel
theorem dX10_addScratch_9 : decode cX10_addScratch 9 = .ok (.iload_n 2, 1) := by decide +kernel
theorem dX10_addScratch_10 : decode cX10_addScratch 10 = .ok (.sipush 360, 3) := by decide +kernel
theorem dX10_addScratch_13 : decode cX10_addScratch 13 = .ok (.if_icmp .ge 7, 3) := by decide +kernel
theorem dX10_addScratch_16 : decode cX10_addScratch 16 = .ok (.iconst 1, 1) := by decide +kernel
theorem dX10_addScratch_17 : decode cX10_addScratch 17 = .ok (.goto 4, 3) := by decide +kernel
theorem dX10_addScratch_20 : decode cX10_addScratch 20 = .ok (.iconst 0, 1) := by decide +kernel
theorem dX10_addScratch_21 : decode cX10_addScratch 21 = .ok (.istore 5, 2) := by decide +kernel
theorem dX10_addScratch_23 : decode cX10_addScratch 23 = .ok (.iload_n 3, 1) := by decide +kernel
theorem dX10_addScratch_24 : decode cX10_addScratch 24 = .ok (.ifCond .lt 20, 3) := by decide +kernel
theorem dX10_addScratch_27 : decode cX10_addScratch 27 = .ok (.iload_n 3, 1) := by decide +kernel
theorem dX10_addScratch_28 : decode cX10_addScratch 28 = .ok (.iload 4, 2) := by decide +kernel
theorem dX10_addScratch_30 : decode cX10_addScratch 30 = .ok (.if_icmp .gt 14, 3) := by decide +kernel
theorem dX10_addScratch_33 : decode cX10_addScratch 33 = .ok (.iload 4, 2) := by decide +kernel
theorem dX10_addScratch_35 : decode cX10_addScratch 35 = .ok (.bipush 30, 2) := by decide +kernel
theorem dX10_addScratch_37 : decode cX10_addScratch 37 = .ok (.if_icmp .ge 7, 3) := by decide +kernel
theorem dX10_addScratch_40 : decode cX10_addScratch 40 = .ok (.iconst 1, 1) := by decide +kernel
theorem dX10_addScratch_41 : decode cX10_addScratch 41 = .ok (.goto 4, 3) := by decide +kernel
theorem dX10_addScratch_44 : decode cX10_addScratch 44 = .ok (.iconst 0, 1) := by decide +kernel
theorem dX10_addScratch_45 : decode cX10_addScratch 45 = .ok (.istore 6, 2) := by decide +kernel
theorem dX10_addScratch_47 : decode cX10_addScratch 47 = .ok (.iload 5, 2) := by decide +kernel
theorem dX10_addScratch_49 : decode cX10_addScratch 49 = .ok (.ifCond .eq 8, 3) := by decide +kernel
theorem dX10_addScratch_52 : decode cX10_addScratch 52 = .ok (.iload 6, 2) := by decide +kernel
theorem dX10_addScratch_54 : decode cX10_addScratch 54 = .ok (.ifCond .ne 6, 3) := by decide +kernel
theorem dX10_addScratch_57 : decode cX10_addScratch 57 = .ok (.bipush (-2), 2) := by decide +kernel
theorem dX10_addScratch_59 : decode cX10_addScratch 59 = .ok (.ireturn, 1) := by decide +kernel
theorem dX10_addScratch_60 : decode cX10_addScratch 60 = .ok (.aload_n 0, 1) := by decide +kernel
theorem dX10_addScratch_61 : decode cX10_addScratch 61 = .ok (.getfield 10, 3) := by decide +kernel
theorem dX10_addScratch_64 : decode cX10_addScratch 64 = .ok (.getfield 192, 3) := by decide +kernel
theorem dX10_addScratch_67 : decode cX10_addScratch 67 = .ok (.iload_n 1, 1) := by decide +kernel
theorem dX10_addScratch_68 : decode cX10_addScratch 68 = .ok (.iload_n 2, 1) := by decide +kernel
theorem dX10_addScratch_69 : decode cX10_addScratch 69 = .ok (.iload_n 3, 1) := by decide +kernel
theorem dX10_addScratch_70 : decode cX10_addScratch 70 = .ok (.iload 4, 2) := by decide +kernel
theorem dX10_addScratch_72 : decode cX10_addScratch 72 = .ok (.invokevirtual 262, 3) := by decide +kernel
theorem dX10_addScratch_75 : decode cX10_addScratch 75 = .ok (.ifCond .ne 6, 3) := by decide +kernel
theorem dX10_addScratch_78 : decode cX10_addScratch 78 = .ok (.bipush (-3), 2) := by decide +kernel
theorem dX10_addScratch_80 : decode cX10_addScratch 80 = .ok (.ireturn, 1) := by decide +kernel
theorem dX10_addScratch_81 : decode cX10_addScratch 81 = .ok (.aload_n 0, 1) := by decide +kernel
theorem dX10_addScratch_82 : decode cX10_addScratch 82 = .ok (.getfield 43, 3) := by decide +kernel
theorem dX10_addScratch_85 : decode cX10_addScratch 85 = .ok (.aload_n 0, 1) := by decide +kernel
theorem dX10_addScratch_86 : decode cX10_addScratch 86 = .ok (.getfield 10, 3) := by decide +kernel
theorem dX10_addScratch_89 : decode cX10_addScratch 89 = .ok (.invokevirtual 148, 3) := by decide +kernel
theorem dX10_addScratch_92 : decode cX10_addScratch 92 = .ok (.iconst 0, 1) := by decide +kernel
theorem dX10_addScratch_93 : decode cX10_addScratch 93 = .ok (.sipush 3810, 3) := by decide +kernel
theorem dX10_addScratch_96 : decode cX10_addScratch 96 = .ok (.iconst (-1), 1) := by decide +kernel
theorem dX10_addScratch_97 : decode cX10_addScratch 97 = .ok (.invokevirtual 186, 3) := by decide +kernel
theorem dX10_addScratch_100 : decode cX10_addScratch 100 = .ok (.ireturn, 1) := by decide +kernel
theorem dX10_polishAway_0 : decode cX10_polishAway 0 = .ok (.aload_n 0, 1) := by decide +kernel
theorem dX10_polishAway_1 : decode cX10_polishAway 1 = .ok (.getfield 10, 3) := by decide +kernel
theorem dX10_polishAway_4 : decode cX10_polishAway 4 = .ok (.getfield 192, 3) := by decide +kernel
theorem dX10_polishAway_7 : decode cX10_polishAway 7 = .ok (.iload_n 1, 1) := by decide +kernel
theorem dX10_polishAway_8 : decode cX10_polishAway 8 = .ok (.invokevirtual 196, 3) := by decide +kernel
theorem dX10_polishAway_11 : decode cX10_polishAway 11 = .ok (.ifCond .ne 5, 3) := by decide +kernel
theorem dX10_polishAway_14 : decode cX10_polishAway 14 = .ok (.iconst (-1), 1) := by decide +kernel
theorem dX10_polishAway_15 : decode cX10_polishAway 15 = .ok (.ireturn, 1) := by decide +kernel
theorem dX10_polishAway_16 : decode cX10_polishAway 16 = .ok (.aload_n 0, 1) := by decide +kernel
theorem dX10_polishAway_17 : decode cX10_polishAway 17 = .ok (.getfield 10, 3) := by decide +kernel
theorem dX10_polishAway_20 : decode cX10_polishAway 20 = .ok (.getfield 192, 3) := by decide +kernel
theorem dX10_polishAway_23 : decode cX10_polishAway 23 = .ok (.iload_n 1, 1) := by decide +kernel
theorem dX10_polishAway_24 : decode cX10_polishAway 24 = .ok (.invokevirtual 266, 3) := by decide +kernel
theorem dX10_polishAway_27 : decode cX10_polishAway 27 = .ok (.aload_n 0, 1) := by decide +kernel
theorem dX10_polishAway_28 : decode cX10_polishAway 28 = .ok (.getfield 43, 3) := by decide +kernel
theorem dX10_polishAway_31 : decode cX10_polishAway 31 = .ok (.aload_n 0, 1) := by decide +kernel
theorem dX10_polishAway_32 : decode cX10_polishAway 32 = .ok (.getfield 10, 3) := by decide +kernel
theorem dX10_polishAway_35 : decode cX10_polishAway 35 = .ok (.invokevirtual 148, 3) := by decide +kernel
theorem dX10_polishAway_38 : decode cX10_polishAway 38 = .ok (.iconst 0, 1) := by decide +kernel
theorem dX10_polishAway_39 : decode cX10_polishAway 39 = .ok (.sipush 3810, 3) := by decide +kernel
theorem dX10_polishAway_42 : decode cX10_polishAway 42 = .ok (.iconst (-1), 1) := by decide +kernel
theorem dX10_polishAway_43 : decode cX10_polishAway 43 = .ok (.invokevirtual 186, 3) := by decide +kernel
theorem dX10_polishAway_46 : decode cX10_polishAway 46 = .ok (.ireturn, 1) := by decide +kernel
theorem dX10_playFrames_0 : decode cX10_playFrames 0 = .ok (.iload_n 1, 1) := by decide +kernel
theorem dX10_playFrames_1 : decode cX10_playFrames 1 = .ok (.iconst 1, 1) := by decide +kernel
theorem dX10_playFrames_2 : decode cX10_playFrames 2 = .ok (.if_icmp .lt 10, 3) := by decide +kernel
theorem dX10_playFrames_5 : decode cX10_playFrames 5 = .ok (.iload_n 1, 1) := by decide +kernel
theorem dX10_playFrames_6 : decode cX10_playFrames 6 = .ok (.sipush 999, 3) := by decide +kernel
theorem dX10_playFrames_9 : decode cX10_playFrames 9 = .ok (.if_icmp .le 6, 3) := by decide +kernel
theorem dX10_playFrames_12 : decode cX10_playFrames 12 = .ok (.bipush (-2), 2) := by decide +kernel
theorem dX10_playFrames_14 : decode cX10_playFrames 14 = .ok (.ireturn, 1) := by decide +kernel
theorem dX10_playFrames_15 : decode cX10_playFrames 15 = .ok (.aload_n 0, 1) := by decide +kernel
theorem dX10_playFrames_16 : decode cX10_playFrames 16 = .ok (.getfield 10, 3) := by decide +kernel
theorem dX10_playFrames_19 : decode cX10_playFrames 19 = .ok (.getfield 90, 3) := by decide +kernel
theorem dX10_playFrames_22 : decode cX10_playFrames 22 = .ok (.getfield 220, 3) := by decide +kernel
theorem dX10_playFrames_25 : decode cX10_playFrames 25 = .ok (.aload_n 0, 1) := by decide +kernel
theorem dX10_playFrames_26 : decode cX10_playFrames 26 = .ok (.getfield 10, 3) := by decide +kernel
theorem dX10_playFrames_29 : decode cX10_playFrames 29 = .ok (.getfield 79, 3) := by decide +kernel
theorem dX10_playFrames_32 : decode cX10_playFrames 32 = .ok (.invokevirtual 213, 3) := by decide +kernel
theorem dX10_playFrames_35 : decode cX10_playFrames 35 = .ok (.if_icmp .lt 6, 3) := by decide +kernel
theorem dX10_playFrames_38 : decode cX10_playFrames 38 = .ok (.bipush (-5), 2) := by decide +kernel
theorem dX10_playFrames_40 : decode cX10_playFrames 40 = .ok (.ireturn, 1) := by decide +kernel
theorem dX10_playFrames_41 : decode cX10_playFrames 41 = .ok (.aload_n 0, 1) := by decide +kernel
theorem dX10_playFrames_42 : decode cX10_playFrames 42 = .ok (.getfield 10, 3) := by decide +kernel
theorem dX10_playFrames_45 : decode cX10_playFrames 45 = .ok (.getfield 90, 3) := by decide +kernel
theorem dX10_playFrames_48 : decode cX10_playFrames 48 = .ok (.iload_n 1, 1) := by decide +kernel
theorem dX10_playFrames_49 : decode cX10_playFrames 49 = .ok (.aload_n 0, 1) := by decide +kernel
theorem dX10_playFrames_50 : decode cX10_playFrames 50 = .ok (.getfield 10, 3) := by decide +kernel
theorem dX10_playFrames_53 : decode cX10_playFrames 53 = .ok (.getfield 79, 3) := by decide +kernel
theorem dX10_playFrames_56 : decode cX10_playFrames 56 = .ok (.aload_n 0, 1) := by decide +kernel
theorem dX10_playFrames_57 : decode cX10_playFrames 57 = .ok (.getfield 43, 3) := by decide +kernel
theorem dX10_playFrames_60 : decode cX10_playFrames 60 = .ok (.aload_n 0, 1) := by decide +kernel
theorem dX10_playFrames_61 : decode cX10_playFrames 61 = .ok (.getfield 10, 3) := by decide +kernel
theorem dX10_playFrames_64 : decode cX10_playFrames 64 = .ok (.invokevirtual 148, 3) := by decide +kernel
theorem dX10_playFrames_67 : decode cX10_playFrames 67 = .ok (.invokevirtual 269, 3) := by decide +kernel
theorem dX10_playFrames_70 : decode cX10_playFrames 70 = .ok (.ireturn, 1) := by decide +kernel
theorem dX10_seekFrame_0 : decode cX10_seekFrame 0 = .ok (.aload_n 0, 1) := by decide +kernel
theorem dX10_seekFrame_1 : decode cX10_seekFrame 1 = .ok (.getfield 10, 3) := by decide +kernel
theorem dX10_seekFrame_4 : decode cX10_seekFrame 4 = .ok (.getfield 79, 3) := by decide +kernel
theorem dX10_seekFrame_7 : decode cX10_seekFrame 7 = .ok (.iload_n 1, 1) := by decide +kernel
theorem dX10_seekFrame_8 : decode cX10_seekFrame 8 = .ok (.invokevirtual 132, 3) := by decide +kernel
theorem dX10_seekFrame_11 : decode cX10_seekFrame 11 = .ok (.ifCond .ne 5, 3) := by decide +kernel
theorem dX10_seekFrame_14 : decode cX10_seekFrame 14 = .ok (.iconst (-1), 1) := by decide +kernel
theorem dX10_seekFrame_15 : decode cX10_seekFrame 15 = .ok (.ireturn, 1) := by decide +kernel
theorem dX10_seekFrame_16 : decode cX10_seekFrame 16 = .ok (.aload_n 0, 1) := by decide +kernel
theorem dX10_seekFrame_17 : decode cX10_seekFrame 17 = .ok (.getfield 10, 3) := by decide +kernel
theorem dX10_seekFrame_20 : decode cX10_seekFrame 20 = .ok (.getfield 90, 3) := by decide +kernel
theorem dX10_seekFrame_23 : decode cX10_seekFrame 23 = .ok (.getfield 129, 3) := by decide +kernel
theorem dX10_seekFrame_26 : decode cX10_seekFrame 26 = .ok (.istore_n 2, 1) := by decide +kernel
theorem dX10_seekFrame_27 : decode cX10_seekFrame 27 = .ok (.aload_n 0, 1) := by decide +kernel
theorem dX10_seekFrame_28 : decode cX10_seekFrame 28 = .ok (.getfield 10, 3) := by decide +kernel
theorem dX10_seekFrame_31 : decode cX10_seekFrame 31 = .ok (.getfield 90, 3) := by decide +kernel
theorem dX10_seekFrame_34 : decode cX10_seekFrame 34 = .ok (.iload_n 1, 1) := by decide +kernel
theorem dX10_seekFrame_35 : decode cX10_seekFrame 35 = .ok (.aload_n 0, 1) := by decide +kernel
theorem dX10_seekFrame_36 : decode cX10_seekFrame 36 = .ok (.getfield 10, 3) := by decide +kernel
theorem dX10_seekFrame_39 : decode cX10_seekFrame 39 = .ok (.getfield 79, 3) := by decide +kernel
theorem dX10_seekFrame_42 : decode cX10_seekFrame 42 = .ok (.aload_n 0, 1) := by decide +kernel
theorem dX10_seekFrame_43 : decode cX10_seekFrame 43 = .ok (.getfield 10, 3) := by decide +kernel
theorem dX10_seekFrame_46 : decode cX10_seekFrame 46 = .ok (.getfield 79, 3) := by decide +kernel
theorem dX10_seekFrame_49 : decode cX10_seekFrame 49 = .ok (.getfield 245, 3) := by decide +kernel
theorem dX10_seekFrame_52 : decode cX10_seekFrame 52 = .ok (.invokevirtual 273, 3) := by decide +kernel
theorem dX10_seekFrame_55 : decode cX10_seekFrame 55 = .ok (.aload_n 0, 1) := by decide +kernel
theorem dX10_seekFrame_56 : decode cX10_seekFrame 56 = .ok (.getfield 10, 3) := by decide +kernel
theorem dX10_seekFrame_59 : decode cX10_seekFrame 59 = .ok (.getfield 90, 3) := by decide +kernel
theorem dX10_seekFrame_62 : decode cX10_seekFrame 62 = .ok (.getfield 129, 3) := by decide +kernel
theorem dX10_seekFrame_65 : decode cX10_seekFrame 65 = .ok (.iload_n 2, 1) := by decide +kernel
theorem dX10_seekFrame_66 : decode cX10_seekFrame 66 = .ok (.isub, 1) := by decide +kernel
theorem dX10_seekFrame_67 : decode cX10_seekFrame 67 = .ok (.ireturn, 1) := by decide +kernel
theorem dX10_recorded_0 : decode cX10_recorded 0 = .ok (.iload_n 1, 1) := by decide +kernel
theorem dX10_recorded_1 : decode cX10_recorded 1 = .ok (.ifCond .lt 14, 3) := by decide +kernel
theorem dX10_recorded_4 : decode cX10_recorded 4 = .ok (.aload_n 0, 1) := by decide +kernel
theorem dX10_recorded_5 : decode cX10_recorded 5 = .ok (.getfield 29, 3) := by decide +kernel
theorem dX10_recorded_8 : decode cX10_recorded 8 = .ok (.aload_n 0, 1) := by decide +kernel
theorem dX10_recorded_9 : decode cX10_recorded 9 = .ok (.getfield 16, 3) := by decide +kernel
theorem dX10_recorded_12 : decode cX10_recorded 12 = .ok (.invokevirtual 295, 3) := by decide +kernel
theorem dX10_recorded_15 : decode cX10_recorded 15 = .ok (.iload_n 1, 1) := by decide +kernel
theorem dX10_recorded_16 : decode cX10_recorded 16 = .ok (.ireturn, 1) := by decide +kernel
theorem dX10_countSetting_0 : decode cX10_countSetting 0 = .ok (.iload_n 1, 1) := by decide +kernel
theorem dX10_countSetting_1 : decode cX10_countSetting 1 = .ok (.invokestatic 297, 3) := by decide +kernel
theorem dX10_countSetting_4 : decode cX10_countSetting 4 = .ok (.ifCond .eq 17, 3) := by decide +kernel
theorem dX10_countSetting_7 : decode cX10_countSetting 7 = .ok (.aload_n 0, 1) := by decide +kernel
theorem dX10_countSetting_8 : decode cX10_countSetting 8 = .ok (.getfield 10, 3) := by decide +kernel
theorem dX10_countSetting_11 : decode cX10_countSetting 11 = .ok (.getfield 79, 3) := by decide +kernel
theorem dX10_countSetting_14 : decode cX10_countSetting 14 = .ok (.iload_n 1, 1) := by decide +kernel
theorem dX10_countSetting_15 : decode cX10_countSetting 15 = .ok (.invokevirtual 83, 3) := by decide +kernel
theorem dX10_countSetting_18 : decode cX10_countSetting 18 = .ok (.goto 5, 3) := by decide +kernel
theorem dX10_countSetting_21 : decode cX10_countSetting 21 = .ok (.bipush (-2), 2) := by decide +kernel
theorem dX10_countSetting_23 : decode cX10_countSetting 23 = .ok (.ireturn, 1) := by decide +kernel
theorem dX10_toldSymbol_0 : decode cX10_toldSymbol 0 = .ok (.aload_n 0, 1) := by decide +kernel
theorem dX10_toldSymbol_1 : decode cX10_toldSymbol 1 = .ok (.getfield 43, 3) := by decide +kernel
theorem dX10_toldSymbol_4 : decode cX10_toldSymbol 4 = .ok (.aload_n 0, 1) := by decide +kernel
theorem dX10_toldSymbol_5 : decode cX10_toldSymbol 5 = .ok (.getfield 10, 3) := by decide +kernel
theorem dX10_toldSymbol_8 : decode cX10_toldSymbol 8 = .ok (.invokevirtual 148, 3) := by decide +kernel
theorem dX10_toldSymbol_11 : decode cX10_toldSymbol 11 = .ok (.iload_n 1, 1) := by decide +kernel
theorem dX10_toldSymbol_12 : decode cX10_toldSymbol 12 = .ok (.invokevirtual 155, 3) := by decide +kernel
theorem dX10_toldSymbol_15 : decode cX10_toldSymbol 15 = .ok (.istore_n 3, 1) := by decide +kernel
theorem dX10_toldSymbol_16 : decode cX10_toldSymbol 16 = .ok (.iload_n 3, 1) := by decide +kernel
theorem dX10_toldSymbol_17 : decode cX10_toldSymbol 17 = .ok (.iconst 3, 1) := by decide +kernel
theorem dX10_toldSymbol_18 : decode cX10_toldSymbol 18 = .ok (.if_icmp .ne 6, 3) := by decide +kernel
theorem dX10_toldSymbol_21 : decode cX10_toldSymbol 21 = .ok (.bipush (-5), 2) := by decide +kernel
theorem dX10_toldSymbol_23 : decode cX10_toldSymbol 23 = .ok (.ireturn, 1) := by decide +kernel
theorem dX10_toldSymbol_24 : decode cX10_toldSymbol 24 = .ok (.iload_n 3, 1) := by decide +kernel
theorem dX10_toldSymbol_25 : decode cX10_toldSymbol 25 = .ok (.iconst 2, 1) := by decide +kernel
theorem dX10_toldSymbol_26 : decode cX10_toldSymbol 26 = .ok (.if_icmp .ne 12, 3) := by decide +kernel
theorem dX10_toldSymbol_29 : decode cX10_toldSymbol 29 = .ok (.aload_n 0, 1) := by decide +kernel
theorem dX10_toldSymbol_30 : decode cX10_toldSymbol 30 = .ok (.iload_n 1, 1) := by decide +kernel
theorem dX10_toldSymbol_31 : decode cX10_toldSymbol 31 = .ok (.iload_n 2, 1) := by decide +kernel
theorem dX10_toldSymbol_32 : decode cX10_toldSymbol 32 = .ok (.invokevirtual 300, 3) := by decide +kernel
theorem dX10_toldSymbol_35 : decode cX10_toldSymbol 35 = .ok (.goto 15, 3) := by decide +kernel
theorem dX10_toldSymbol_38 : decode cX10_toldSymbol 38 = .ok (.aload_n 0, 1) := by decide +kernel
theorem dX10_toldSymbol_39 : decode cX10_toldSymbol 39 = .ok (.getfield 10, 3) := by decide +kernel
theorem dX10_toldSymbol_42 : decode cX10_toldSymbol 42 = .ok (.getfield 158, 3) := by decide +kernel
theorem dX10_toldSymbol_45 : decode cX10_toldSymbol 45 = .ok (.iload_n 1, 1) := by decide +kernel
theorem dX10_toldSymbol_46 : decode cX10_toldSymbol 46 = .ok (.iload_n 2, 1) := by decide +kernel
theorem dX10_toldSymbol_47 : decode cX10_toldSymbol 47 = .ok (.invokevirtual 180, 3) := by decide +kernel
theorem dX10_toldSymbol_50 : decode cX10_toldSymbol 50 = .ok (.ireturn, 1) := by decide +kernel
theorem dX10_filledSymbol_0 : decode cX10_filledSymbol 0 = .ok (.aload_n 0, 1) := by decide +kernel
theorem dX10_filledSymbol_1 : decode cX10_filledSymbol 1 = .ok (.getfield 10, 3) := by decide +kernel
theorem dX10_filledSymbol_4 : decode cX10_filledSymbol 4 = .ok (.getfield 158, 3) := by decide +kernel
theorem dX10_filledSymbol_7 : decode cX10_filledSymbol 7 = .ok (.iload_n 1, 1) := by decide +kernel
theorem dX10_filledSymbol_8 : decode cX10_filledSymbol 8 = .ok (.invokestatic 303, 3) := by decide +kernel
theorem dX10_filledSymbol_11 : decode cX10_filledSymbol 11 = .ok (.iload_n 2, 1) := by decide +kernel
theorem dX10_filledSymbol_12 : decode cX10_filledSymbol 12 = .ok (.invokevirtual 180, 3) := by decide +kernel
theorem dX10_filledSymbol_15 : decode cX10_filledSymbol 15 = .ok (.istore_n 3, 1) := by decide +kernel
theorem dX10_filledSymbol_16 : decode cX10_filledSymbol 16 = .ok (.aload_n 0, 1) := by decide +kernel
theorem dX10_filledSymbol_17 : decode cX10_filledSymbol 17 = .ok (.getfield 10, 3) := by decide +kernel
theorem dX10_filledSymbol_20 : decode cX10_filledSymbol 20 = .ok (.getfield 158, 3) := by decide +kernel
theorem dX10_filledSymbol_23 : decode cX10_filledSymbol 23 = .ok (.iload_n 1, 1) := by decide +kernel
theorem dX10_filledSymbol_24 : decode cX10_filledSymbol 24 = .ok (.invokestatic 306, 3) := by decide +kernel
theorem dX10_filledSymbol_27 : decode cX10_filledSymbol 27 = .ok (.iload_n 2, 1) := by decide +kernel
theorem dX10_filledSymbol_28 : decode cX10_filledSymbol 28 = .ok (.invokevirtual 180, 3) := by decide +kernel
theorem dX10_filledSymbol_31 : decode cX10_filledSymbol 31 = .ok (.istore 4, 2) := by decide +kernel
theorem dX10_filledSymbol_33 : decode cX10_filledSymbol 33 = .ok (.iload_n 3, 1) := by decide +kernel
theorem dX10_filledSymbol_34 : decode cX10_filledSymbol 34 = .ok (.iload 4, 2) := by decide +kernel
theorem dX10_filledSymbol_36 : decode cX10_filledSymbol 36 = .ok (.iadd, 1) := by decide +kernel
theorem dX10_filledSymbol_37 : decode cX10_filledSymbol 37 = .ok (.iconst 2, 1) := by decide +kernel
theorem dX10_filledSymbol_38 : decode cX10_filledSymbol 38 = .ok (.idiv, 1) := by decide +kernel
theorem dX10_filledSymbol_39 : decode cX10_filledSymbol 39 = .ok (.ireturn, 1) := by decide +kernel
theorem dX10_isToldRight_0 : decode cX10_isToldRight 0 = .ok (.aload_n 0, 1) := by decide +kernel
theorem dX10_isToldRight_1 : decode cX10_isToldRight 1 = .ok (.getfield 43, 3) := by decide +kernel
theorem dX10_isToldRight_4 : decode cX10_isToldRight 4 = .ok (.iload_n 1, 1) := by decide +kernel
theorem dX10_isToldRight_5 : decode cX10_isToldRight 5 = .ok (.invokevirtual 155, 3) := by decide +kernel
theorem dX10_isToldRight_8 : decode cX10_isToldRight 8 = .ok (.istore_n 2, 1) := by decide +kernel
theorem dX10_isToldRight_9 : decode cX10_isToldRight 9 = .ok (.iload_n 2, 1) := by decide +kernel
theorem dX10_isToldRight_10 : decode cX10_isToldRight 10 = .ok (.iconst 3, 1) := by decide +kernel
theorem dX10_isToldRight_11 : decode cX10_isToldRight 11 = .ok (.if_icmp .eq 7, 3) := by decide +kernel
theorem dX10_isToldRight_14 : decode cX10_isToldRight 14 = .ok (.iconst 1, 1) := by decide +kernel
theorem dX10_isToldRight_15 : decode cX10_isToldRight 15 = .ok (.goto 4, 3) := by decide +kernel
theorem dX10_isToldRight_18 : decode cX10_isToldRight 18 = .ok (.iconst 0, 1) := by decide +kernel
theorem dX10_isToldRight_19 : decode cX10_isToldRight 19 = .ok (.istore_n 3, 1) := by decide +kernel
theorem dX10_isToldRight_20 : decode cX10_isToldRight 20 = .ok (.iconst 0, 1) := by decide +kernel
theorem dX10_isToldRight_21 : decode cX10_isToldRight 21 = .ok (.istore 4, 2) := by decide +kernel
theorem dX10_isToldRight_23 : decode cX10_isToldRight 23 = .ok (.iload 4, 2) := by decide +kernel
theorem dX10_isToldRight_25 : decode cX10_isToldRight 25 = .ok (.iconst 4, 1) := by decide +kernel
theorem dX10_isToldRight_26 : decode cX10_isToldRight 26 = .ok (.if_icmp .ge 47, 3) := by decide +kernel
theorem dX10_isToldRight_29 : decode cX10_isToldRight 29 = .ok (.iload_n 3, 1) := by decide +kernel
theorem dX10_isToldRight_30 : decode cX10_isToldRight 30 = .ok (.ifCond .eq 43, 3) := by decide +kernel
theorem dX10_isToldRight_33 : decode cX10_isToldRight 33 = .ok (.iload_n 2, 1) := by decide +kernel
theorem dX10_isToldRight_34 : decode cX10_isToldRight 34 = .ok (.iconst 2, 1) := by decide +kernel
theorem dX10_isToldRight_35 : decode cX10_isToldRight 35 = .ok (.if_icmp .ne 38, 3) := by decide +kernel
theorem dX10_isToldRight_38 : decode cX10_isToldRight 38 = .ok (.aload_n 0, 1) := by decide +kernel
theorem dX10_isToldRight_39 : decode cX10_isToldRight 39 = .ok (.iload_n 1, 1) := by decide +kernel
theorem dX10_isToldRight_40 : decode cX10_isToldRight 40 = .ok (.iload 4, 2) := by decide +kernel
theorem dX10_isToldRight_42 : decode cX10_isToldRight 42 = .ok (.invokevirtual 300, 3) := by decide +kernel
theorem dX10_isToldRight_45 : decode cX10_isToldRight 45 = .ok (.aload_n 0, 1) := by decide +kernel
theorem dX10_isToldRight_46 : decode cX10_isToldRight 46 = .ok (.getfield 10, 3) := by decide +kernel
theorem dX10_isToldRight_49 : decode cX10_isToldRight 49 = .ok (.getfield 158, 3) := by decide +kernel
theorem dX10_isToldRight_52 : decode cX10_isToldRight 52 = .ok (.iload_n 1, 1) := by decide +kernel
theorem dX10_isToldRight_53 : decode cX10_isToldRight 53 = .ok (.iload 4, 2) := by decide +kernel
theorem dX10_isToldRight_55 : decode cX10_isToldRight 55 = .ok (.invokevirtual 180, 3) := by decide +kernel
theorem dX10_isToldRight_58 : decode cX10_isToldRight 58 = .ok (.if_icmp .ne 7, 3) := by decide +kernel
theorem dX10_isToldRight_61 : decode cX10_isToldRight 61 = .ok (.iconst 1, 1) := by decide +kernel
theorem dX10_isToldRight_62 : decode cX10_isToldRight 62 = .ok (.goto 4, 3) := by decide +kernel
theorem dX10_isToldRight_65 : decode cX10_isToldRight 65 = .ok (.iconst 0, 1) := by decide +kernel
theorem dX10_isToldRight_66 : decode cX10_isToldRight 66 = .ok (.istore_n 3, 1) := by decide +kernel
theorem dX10_isToldRight_67 : decode cX10_isToldRight 67 = .ok (.iinc 4 1, 3) := by decide +kernel
theorem dX10_isToldRight_70 : decode cX10_isToldRight 70 = .ok (.goto (-47), 3) := by decide +kernel
theorem dX10_isToldRight_73 : decode cX10_isToldRight 73 = .ok (.iload_n 3, 1) := by decide +kernel
theorem dX10_isToldRight_74 : decode cX10_isToldRight 74 = .ok (.ireturn, 1) := by decide +kernel
theorem dX10_trySeek_0 : decode cX10_trySeek 0 = .ok (.aload_n 0, 1) := by decide +kernel
theorem dX10_trySeek_1 : decode cX10_trySeek 1 = .ok (.getfield 50, 3) := by decide +kernel
theorem dX10_trySeek_4 : decode cX10_trySeek 4 = .ok (.aload_n 0, 1) := by decide +kernel
theorem dX10_trySeek_5 : decode cX10_trySeek 5 = .ok (.getfield 10, 3) := by decide +kernel
theorem dX10_trySeek_8 : decode cX10_trySeek 8 = .ok (.getfield 90, 3) := by decide +kernel
theorem dX10_trySeek_11 : decode cX10_trySeek 11 = .ok (.invokevirtual 309, 3) := by decide +kernel
theorem dX10_trySeek_14 : decode cX10_trySeek 14 = .ok (.aload_n 0, 1) := by decide +kernel
theorem dX10_trySeek_15 : decode cX10_trySeek 15 = .ok (.getfield 50, 3) := by decide +kernel
theorem dX10_trySeek_18 : decode cX10_trySeek 18 = .ok (.iload_n 1, 1) := by decide +kernel
theorem dX10_trySeek_19 : decode cX10_trySeek 19 = .ok (.aload_n 0, 1) := by decide +kernel
theorem dX10_trySeek_20 : decode cX10_trySeek 20 = .ok (.getfield 10, 3) := by decide +kernel
theorem dX10_trySeek_23 : decode cX10_trySeek 23 = .ok (.getfield 79, 3) := by decide +kernel
theorem dX10_trySeek_26 : decode cX10_trySeek 26 = .ok (.iload_n 2, 1) := by decide +kernel
theorem dX10_trySeek_27 : decode cX10_trySeek 27 = .ok (.invokevirtual 273, 3) := by decide +kernel
theorem dX10_trySeek_30 : decode cX10_trySeek 30 = .ok (.aload_n 0, 1) := by decide +kernel
theorem dX10_trySeek_31 : decode cX10_trySeek 31 = .ok (.getfield 50, 3) := by decide +kernel
theorem dX10_trySeek_34 : decode cX10_trySeek 34 = .ok (.getfield 129, 3) := by decide +kernel
theorem dX10_trySeek_37 : decode cX10_trySeek 37 = .ok (.aload_n 0, 1) := by decide +kernel
theorem dX10_trySeek_38 : decode cX10_trySeek 38 = .ok (.getfield 10, 3) := by decide +kernel
theorem dX10_trySeek_41 : decode cX10_trySeek 41 = .ok (.getfield 90, 3) := by decide +kernel
theorem dX10_trySeek_44 : decode cX10_trySeek 44 = .ok (.getfield 129, 3) := by decide +kernel
theorem dX10_trySeek_47 : decode cX10_trySeek 47 = .ok (.isub, 1) := by decide +kernel
theorem dX10_trySeek_48 : decode cX10_trySeek 48 = .ok (.ireturn, 1) := by decide +kernel
theorem dX10_isPlace_0 : decode cX10_isPlace 0 = .ok (.iload_n 0, 1) := by decide +kernel
theorem dX10_isPlace_1 : decode cX10_isPlace 1 = .ok (.ifCond .lt 12, 3) := by decide +kernel
theorem dX10_isPlace_4 : decode cX10_isPlace 4 = .ok (.iload_n 0, 1) := by decide +kernel
theorem dX10_isPlace_5 : decode cX10_isPlace 5 = .ok (.iconst 4, 1) := by decide +kernel
theorem dX10_isPlace_6 : decode cX10_isPlace 6 = .ok (.if_icmp .ge 7, 3) := by decide +kernel
theorem dX10_isPlace_9 : decode cX10_isPlace 9 = .ok (.iconst 1, 1) := by decide +kernel
theorem dX10_isPlace_10 : decode cX10_isPlace 10 = .ok (.goto 4, 3) := by decide +kernel
theorem dX10_isPlace_13 : decode cX10_isPlace 13 = .ok (.iconst 0, 1) := by decide +kernel
theorem dX10_isPlace_14 : decode cX10_isPlace 14 = .ok (.ireturn, 1) := by decide +kernel
theorem dX10_at_0 : decode cX10_at 0 = .ok (.iload_n 1, 1) := by decide +kernel
theorem dX10_at_1 : decode cX10_at 1 = .ok (.ifCond .lt 15, 3) := by decide +kernel
theorem dX10_at_4 : decode cX10_at 4 = .ok (.iload_n 1, 1) := by decide +kernel
theorem dX10_at_5 : decode cX10_at 5 = .ok (.aload_n 0, 1) := by decide +kernel
theorem dX10_at_6 : decode cX10_at 6 = .ok (.arraylength, 1) := by decide +kernel
theorem dX10_at_7 : decode cX10_at 7 = .ok (.if_icmp .ge 9, 3) := by decide +kernel
theorem dX10_at_10 : decode cX10_at 10 = .ok (.aload_n 0, 1) := by decide +kernel
theorem dX10_at_11 : decode cX10_at 11 = .ok (.iload_n 1, 1) := by decide +kernel
theorem dX10_at_12 : decode cX10_at 12 = .ok (.iaload, 1) := by decide +kernel
theorem dX10_at_13 : decode cX10_at 13 = .ok (.goto 4, 3) := by decide +kernel
theorem dX10_at_16 : decode cX10_at 16 = .ok (.iconst 0, 1) := by decide +kernel
theorem dX10_at_17 : decode cX10_at 17 = .ok (.ireturn, 1) := by decide +kernel
theorem dX10_put_0 : decode cX10_put 0 = .ok (.iload_n 1, 1) := by decide +kernel
theorem dX10_put_1 : decode cX10_put 1 = .ok (.ifCond .lt 13, 3) := by decide +kernel
theorem dX10_put_4 : decode cX10_put 4 = .ok (.iload_n 1, 1) := by decide +kernel
theorem dX10_put_5 : decode cX10_put 5 = .ok (.aload_n 0, 1) := by decide +kernel
theorem dX10_put_6 : decode cX10_put 6 = .ok (.arraylength, 1) := by decide +kernel
theorem dX10_put_7 : decode cX10_put 7 = .ok (.if_icmp .ge 7, 3) := by decide +kernel
theorem dX10_put_10 : decode cX10_put 10 = .ok (.aload_n 0, 1) := by decide +kernel
theorem dX10_put_11 : decode cX10_put 11 = .ok (.iload_n 1, 1) := by decide +kernel
theorem dX10_put_12 : decode cX10_put 12 = .ok (.iload_n 2, 1) := by decide +kernel
theorem dX10_put_13 : decode cX10_put 13 = .ok (.iastore, 1) := by decide +kernel
theorem dX10_put_14 : decode cX10_put 14 = .ok (.return_, 1) := by decide +kernel
theorem dJ9_abs_0f7a4_0 : decode cJ9_abs_0f7a4 0 = .ok (.iload_n 0, 1) := by decide +kernel
theorem dJ9_abs_0f7a4_1 : decode cJ9_abs_0f7a4 1 = .ok (.ifCond .ge 8, 3) := by decide +kernel
theorem dJ9_abs_0f7a4_4 : decode cJ9_abs_0f7a4 4 = .ok (.iload_n 0, 1) := by decide +kernel
theorem dJ9_abs_0f7a4_5 : decode cJ9_abs_0f7a4 5 = .ok (.ineg, 1) := by decide +kernel
theorem dJ9_abs_0f7a4_6 : decode cJ9_abs_0f7a4 6 = .ok (.goto 4, 3) := by decide +kernel
theorem dJ9_abs_0f7a4_9 : decode cJ9_abs_0f7a4 9 = .ok (.iload_n 0, 1) := by decide +kernel
theorem dJ9_abs_0f7a4_10 : decode cJ9_abs_0f7a4 10 = .ok (.ireturn, 1) := by decide +kernel
theorem dJ9_max_7cf53_0 : decode cJ9_max_7cf53 0 = .ok (.iload_n 0, 1) := by decide +kernel
theorem dJ9_max_7cf53_1 : decode cJ9_max_7cf53 1 = .ok (.iload_n 1, 1) := by decide +kernel
theorem dJ9_max_7cf53_2 : decode cJ9_max_7cf53 2 = .ok (.if_icmp .lt 7, 3) := by decide +kernel
theorem dJ9_max_7cf53_5 : decode cJ9_max_7cf53 5 = .ok (.iload_n 0, 1) := by decide +kernel
theorem dJ9_max_7cf53_6 : decode cJ9_max_7cf53 6 = .ok (.goto 4, 3) := by decide +kernel
theorem dJ9_max_7cf53_9 : decode cJ9_max_7cf53 9 = .ok (.iload_n 1, 1) := by decide +kernel
theorem dJ9_max_7cf53_10 : decode cJ9_max_7cf53 10 = .ok (.ireturn, 1) := by decide +kernel
theorem dJ9_min_7cf53_0 : decode cJ9_min_7cf53 0 = .ok (.iload_n 0, 1) := by decide +kernel
theorem dJ9_min_7cf53_1 : decode cJ9_min_7cf53 1 = .ok (.iload_n 1, 1) := by decide +kernel
theorem dJ9_min_7cf53_2 : decode cJ9_min_7cf53 2 = .ok (.if_icmp .gt 7, 3) := by decide +kernel
theorem dJ9_min_7cf53_5 : decode cJ9_min_7cf53 5 = .ok (.iload_n 0, 1) := by decide +kernel
theorem dJ9_min_7cf53_6 : decode cJ9_min_7cf53 6 = .ok (.goto 4, 3) := by decide +kernel
theorem dJ9_min_7cf53_9 : decode cJ9_min_7cf53 9 = .ok (.iload_n 1, 1) := by decide +kernel
theorem dJ9_min_7cf53_10 : decode cJ9_min_7cf53 10 = .ok (.ireturn, 1) := by decide +kernel
theorem dJ7_fill_53178_0 : decode cJ7_fill_53178 0 = .ok (.iconst 0, 1) := by decide +kernel
theorem dJ7_fill_53178_1 : decode cJ7_fill_53178 1 = .ok (.istore_n 2, 1) := by decide +kernel
theorem dJ7_fill_53178_2 : decode cJ7_fill_53178 2 = .ok (.aload_n 0, 1) := by decide +kernel
theorem dJ7_fill_53178_3 : decode cJ7_fill_53178 3 = .ok (.arraylength, 1) := by decide +kernel
theorem dJ7_fill_53178_4 : decode cJ7_fill_53178 4 = .ok (.istore_n 3, 1) := by decide +kernel
theorem dJ7_fill_53178_5 : decode cJ7_fill_53178 5 = .ok (.iload_n 2, 1) := by decide +kernel
theorem dJ7_fill_53178_6 : decode cJ7_fill_53178 6 = .ok (.iload_n 3, 1) := by decide +kernel
theorem dJ7_fill_53178_7 : decode cJ7_fill_53178 7 = .ok (.if_icmp .ge 13, 3) := by decide +kernel
theorem dJ7_fill_53178_10 : decode cJ7_fill_53178 10 = .ok (.aload_n 0, 1) := by decide +kernel
theorem dJ7_fill_53178_11 : decode cJ7_fill_53178 11 = .ok (.iload_n 2, 1) := by decide +kernel
theorem dJ7_fill_53178_12 : decode cJ7_fill_53178 12 = .ok (.iload_n 1, 1) := by decide +kernel
theorem dJ7_fill_53178_13 : decode cJ7_fill_53178 13 = .ok (.iastore, 1) := by decide +kernel
theorem dJ7_fill_53178_14 : decode cJ7_fill_53178 14 = .ok (.iinc 2 1, 3) := by decide +kernel
theorem dJ7_fill_53178_17 : decode cJ7_fill_53178 17 = .ok (.goto (-12), 3) := by decide +kernel
theorem dJ7_fill_53178_20 : decode cJ7_fill_53178 20 = .ok (.return_, 1) := by decide +kernel
theorem dL_cell_0 : decode cL_cell 0 = .ok (.iload_n 1, 1) := by decide +kernel
theorem dL_cell_1 : decode cL_cell 1 = .ok (.aload_n 0, 1) := by decide +kernel
theorem dL_cell_2 : decode cL_cell 2 = .ok (.arraylength, 1) := by decide +kernel
theorem dL_cell_3 : decode cL_cell 3 = .ok (.if_icmp .ge 9, 3) := by decide +kernel
theorem dL_cell_6 : decode cL_cell 6 = .ok (.aload_n 0, 1) := by decide +kernel
theorem dL_cell_7 : decode cL_cell 7 = .ok (.iload_n 1, 1) := by decide +kernel
theorem dL_cell_8 : decode cL_cell 8 = .ok (.iaload, 1) := by decide +kernel
theorem dL_cell_9 : decode cL_cell 9 = .ok (.goto 15, 3) := by decide +kernel
theorem dL_cell_12 : decode cL_cell 12 = .ok (.sipush 7919, 3) := by decide +kernel
theorem dL_cell_15 : decode cL_cell 15 = .ok (.iload_n 1, 1) := by decide +kernel
theorem dL_cell_16 : decode cL_cell 16 = .ok (.iconst 3, 1) := by decide +kernel
theorem dL_cell_17 : decode cL_cell 17 = .ok (.iadd, 1) := by decide +kernel
theorem dL_cell_18 : decode cL_cell 18 = .ok (.imul, 1) := by decide +kernel
theorem dL_cell_19 : decode cL_cell 19 = .ok (.iload_n 1, 1) := by decide +kernel
theorem dL_cell_20 : decode cL_cell 20 = .ok (.bipush 11, 2) := by decide +kernel
theorem dL_cell_22 : decode cL_cell 22 = .ok (.iadd, 1) := by decide +kernel
theorem dL_cell_23 : decode cL_cell 23 = .ok (.imul, 1) := by decide +kernel
theorem dL_cell_24 : decode cL_cell 24 = .ok (.ireturn, 1) := by decide +kernel
theorem dL_low_0 : decode cL_low 0 = .ok (.iload_n 0, 1) := by decide +kernel
theorem dL_low_1 : decode cL_low 1 = .ok (.ldc 7, 2) := by decide +kernel
theorem dL_low_3 : decode cL_low 3 = .ok (.iand, 1) := by decide +kernel
theorem dL_low_4 : decode cL_low 4 = .ok (.iload_n 1, 1) := by decide +kernel
theorem dL_low_5 : decode cL_low 5 = .ok (.irem, 1) := by decide +kernel
theorem dL_low_6 : decode cL_low 6 = .ok (.ireturn, 1) := by decide +kernel
theorem dL_does_0 : decode cL_does 0 = .ok (.iconst 0, 1) := by decide +kernel
theorem dL_does_1 : decode cL_does 1 = .ok (.istore_n 2, 1) := by decide +kernel
theorem dL_does_2 : decode cL_does 2 = .ok (.iload_n 1, 1) := by decide +kernel
theorem dL_does_3 : decode cL_does 3 = .ok (.iconst 4, 1) := by decide +kernel
theorem dL_does_4 : decode cL_does 4 = .ok (.ishr, 1) := by decide +kernel
theorem dL_does_5 : decode cL_does 5 = .ok (.aload_n 0, 1) := by decide +kernel
theorem dL_does_6 : decode cL_does 6 = .ok (.iconst 0, 1) := by decide +kernel
theorem dL_does_7 : decode cL_does 7 = .ok (.invokevirtual 8, 3) := by decide +kernel
theorem dL_does_10 : decode cL_does 10 = .ok (.invokestatic 14, 3) := by decide +kernel
theorem dL_does_13 : decode cL_does 13 = .ok (.istore_n 3, 1) := by decide +kernel
theorem dL_does_14 : decode cL_does 14 = .ok (.iload_n 1, 1) := by decide +kernel
theorem dL_does_15 : decode cL_does 15 = .ok (.bipush 15, 2) := by decide +kernel
theorem dL_does_17 : decode cL_does 17 = .ok (.iand, 1) := by decide +kernel
theorem dL_does_18 : decode cL_does 18 = .ok (.tableswitch 387 0 10 #[58, 58, 58, 148, 176, 176, 176, 223, 360, 360, 360], 58) := by decide +kernel
theorem dL_does_76 : decode cL_does 76 = .ok (.iload_n 1, 1) := by decide +kernel
theorem dL_does_77 : decode cL_does 77 = .ok (.iconst 4, 1) := by decide +kernel
theorem dL_does_78 : decode cL_does 78 = .ok (.ishr, 1) := by decide +kernel
theorem dL_does_79 : decode cL_does 79 = .ok (.sipush 360, 3) := by decide +kernel
theorem dL_does_82 : decode cL_does 82 = .ok (.invokestatic 14, 3) := by decide +kernel
theorem dL_does_85 : decode cL_does 85 = .ok (.istore 4, 2) := by decide +kernel
theorem dL_does_87 : decode cL_does 87 = .ok (.iload_n 1, 1) := by decide +kernel
theorem dL_does_88 : decode cL_does 88 = .ok (.bipush 8, 2) := by decide +kernel
theorem dL_does_90 : decode cL_does 90 = .ok (.ishr, 1) := by decide +kernel
theorem dL_does_91 : decode cL_does 91 = .ok (.bipush 30, 2) := by decide +kernel
theorem dL_does_93 : decode cL_does 93 = .ok (.invokestatic 14, 3) := by decide +kernel
theorem dL_does_96 : decode cL_does 96 = .ok (.istore 5, 2) := by decide +kernel
theorem dL_does_98 : decode cL_does 98 = .ok (.aload_n 0, 1) := by decide +kernel
theorem dL_does_99 : decode cL_does 99 = .ok (.iload 4, 2) := by decide +kernel
theorem dL_does_101 : decode cL_does 101 = .ok (.iload 4, 2) := by decide +kernel
theorem dL_does_103 : decode cL_does 103 = .ok (.iload_n 1, 1) := by decide +kernel
theorem dL_does_104 : decode cL_does 104 = .ok (.bipush 6, 2) := by decide +kernel
theorem dL_does_106 : decode cL_does 106 = .ok (.ishr, 1) := by decide +kernel
theorem dL_does_107 : decode cL_does 107 = .ok (.sipush 360, 3) := by decide +kernel
theorem dL_does_110 : decode cL_does 110 = .ok (.iload 4, 2) := by decide +kernel
theorem dL_does_112 : decode cL_does 112 = .ok (.isub, 1) := by decide +kernel
theorem dL_does_113 : decode cL_does 113 = .ok (.bipush 40, 2) := by decide +kernel
theorem dL_does_115 : decode cL_does 115 = .ok (.if_icmp .ge 12, 3) := by decide +kernel
theorem dL_does_118 : decode cL_does 118 = .ok (.sipush 360, 3) := by decide +kernel
theorem dL_does_121 : decode cL_does 121 = .ok (.iload 4, 2) := by decide +kernel
theorem dL_does_123 : decode cL_does 123 = .ok (.isub, 1) := by decide +kernel
theorem dL_does_124 : decode cL_does 124 = .ok (.goto 5, 3) := by decide +kernel
theorem dL_does_127 : decode cL_does 127 = .ok (.bipush 40, 2) := by decide +kernel
theorem dL_does_129 : decode cL_does 129 = .ok (.invokestatic 14, 3) := by decide +kernel
theorem dL_does_132 : decode cL_does 132 = .ok (.iadd, 1) := by decide +kernel
theorem dL_does_133 : decode cL_does 133 = .ok (.iload 5, 2) := by decide +kernel
theorem dL_does_135 : decode cL_does 135 = .ok (.iload 5, 2) := by decide +kernel
theorem dL_does_137 : decode cL_does 137 = .ok (.iload_n 1, 1) := by decide +kernel
theorem dL_does_138 : decode cL_does 138 = .ok (.bipush 10, 2) := by decide +kernel
theorem dL_does_140 : decode cL_does 140 = .ok (.ishr, 1) := by decide +kernel
theorem dL_does_141 : decode cL_does 141 = .ok (.bipush 30, 2) := by decide +kernel
theorem dL_does_143 : decode cL_does 143 = .ok (.iload 5, 2) := by decide +kernel
theorem dL_does_145 : decode cL_does 145 = .ok (.isub, 1) := by decide +kernel
theorem dL_does_146 : decode cL_does 146 = .ok (.invokestatic 14, 3) := by decide +kernel
theorem dL_does_149 : decode cL_does 149 = .ok (.iadd, 1) := by decide +kernel
theorem dL_does_150 : decode cL_does 150 = .ok (.invokevirtual 20, 3) := by decide +kernel
theorem dL_does_153 : decode cL_does 153 = .ok (.istore_n 2, 1) := by decide +kernel
theorem dL_does_154 : decode cL_does 154 = .ok (.iload_n 2, 1) := by decide +kernel
theorem dL_does_155 : decode cL_does 155 = .ok (.bipush (-3), 2) := by decide +kernel
theorem dL_does_157 : decode cL_does 157 = .ok (.if_icmp .ne 7, 3) := by decide +kernel
theorem dL_does_160 : decode cL_does 160 = .ok (.iconst 0, 1) := by decide +kernel
theorem dL_does_161 : decode cL_does 161 = .ok (.goto 4, 3) := by decide +kernel
theorem dL_does_164 : decode cL_does 164 = .ok (.iload_n 2, 1) := by decide +kernel
theorem dL_does_165 : decode cL_does 165 = .ok (.ireturn, 1) := by decide +kernel
theorem dL_does_166 : decode cL_does 166 = .ok (.aload_n 0, 1) := by decide +kernel
theorem dL_does_167 : decode cL_does 167 = .ok (.iconst 2, 1) := by decide +kernel
theorem dL_does_168 : decode cL_does 168 = .ok (.invokevirtual 8, 3) := by decide +kernel
theorem dL_does_171 : decode cL_does 171 = .ok (.ifCond .ne 7, 3) := by decide +kernel
theorem dL_does_174 : decode cL_does 174 = .ok (.iconst 0, 1) := by decide +kernel
theorem dL_does_175 : decode cL_does 175 = .ok (.goto 18, 3) := by decide +kernel
theorem dL_does_178 : decode cL_does 178 = .ok (.aload_n 0, 1) := by decide +kernel
theorem dL_does_179 : decode cL_does 179 = .ok (.iload_n 1, 1) := by decide +kernel
theorem dL_does_180 : decode cL_does 180 = .ok (.iconst 4, 1) := by decide +kernel
theorem dL_does_181 : decode cL_does 181 = .ok (.ishr, 1) := by decide +kernel
theorem dL_does_182 : decode cL_does 182 = .ok (.aload_n 0, 1) := by decide +kernel
theorem dL_does_183 : decode cL_does 183 = .ok (.iconst 2, 1) := by decide +kernel
theorem dL_does_184 : decode cL_does 184 = .ok (.invokevirtual 8, 3) := by decide +kernel
theorem dL_does_187 : decode cL_does 187 = .ok (.invokestatic 14, 3) := by decide +kernel
theorem dL_does_190 : decode cL_does 190 = .ok (.invokevirtual 24, 3) := by decide +kernel
theorem dL_does_193 : decode cL_does 193 = .ok (.ireturn, 1) := by decide +kernel
theorem dL_does_194 : decode cL_does 194 = .ok (.aload_n 0, 1) := by decide +kernel
theorem dL_does_195 : decode cL_does 195 = .ok (.iload_n 3, 1) := by decide +kernel
theorem dL_does_196 : decode cL_does 196 = .ok (.iload_n 1, 1) := by decide +kernel
theorem dL_does_197 : decode cL_does 197 = .ok (.bipush 6, 2) := by decide +kernel
theorem dL_does_199 : decode cL_does 199 = .ok (.ishr, 1) := by decide +kernel
theorem dL_does_200 : decode cL_does 200 = .ok (.iconst 4, 1) := by decide +kernel
theorem dL_does_201 : decode cL_does 201 = .ok (.invokestatic 14, 3) := by decide +kernel
theorem dL_does_204 : decode cL_does 204 = .ok (.iload_n 1, 1) := by decide +kernel
theorem dL_does_205 : decode cL_does 205 = .ok (.bipush 8, 2) := by decide +kernel
theorem dL_does_207 : decode cL_does 207 = .ok (.ishr, 1) := by decide +kernel
theorem dL_does_208 : decode cL_does 208 = .ok (.bipush 16, 2) := by decide +kernel
theorem dL_does_210 : decode cL_does 210 = .ok (.invokestatic 14, 3) := by decide +kernel
theorem dL_does_213 : decode cL_does 213 = .ok (.invokevirtual 27, 3) := by decide +kernel
theorem dL_does_216 : decode cL_does 216 = .ok (.istore_n 2, 1) := by decide +kernel
theorem dL_does_217 : decode cL_does 217 = .ok (.iload_n 2, 1) := by decide +kernel
theorem dL_does_218 : decode cL_does 218 = .ok (.bipush (-4), 2) := by decide +kernel
theorem dL_does_220 : decode cL_does 220 = .ok (.if_icmp .eq 15, 3) := by decide +kernel
theorem dL_does_223 : decode cL_does 223 = .ok (.iload_n 2, 1) := by decide +kernel
theorem dL_does_224 : decode cL_does 224 = .ok (.bipush (-5), 2) := by decide +kernel
theorem dL_does_226 : decode cL_does 226 = .ok (.if_icmp .eq 9, 3) := by decide +kernel
theorem dL_does_229 : decode cL_does 229 = .ok (.iload_n 2, 1) := by decide +kernel
theorem dL_does_230 : decode cL_does 230 = .ok (.bipush (-3), 2) := by decide +kernel
theorem dL_does_232 : decode cL_does 232 = .ok (.if_icmp .ne 7, 3) := by decide +kernel
theorem dL_does_235 : decode cL_does 235 = .ok (.iconst 0, 1) := by decide +kernel
theorem dL_does_236 : decode cL_does 236 = .ok (.goto 4, 3) := by decide +kernel
theorem dL_does_239 : decode cL_does 239 = .ok (.iload_n 2, 1) := by decide +kernel
theorem dL_does_240 : decode cL_does 240 = .ok (.ireturn, 1) := by decide +kernel
theorem dL_does_241 : decode cL_does 241 = .ok (.iload_n 1, 1) := by decide +kernel
theorem dL_does_242 : decode cL_does 242 = .ok (.iconst 4, 1) := by decide +kernel
theorem dL_does_243 : decode cL_does 243 = .ok (.ishr, 1) := by decide +kernel
theorem dL_does_244 : decode cL_does 244 = .ok (.bipush 6, 2) := by decide +kernel
theorem dL_does_246 : decode cL_does 246 = .ok (.invokestatic 14, 3) := by decide +kernel
theorem dL_does_249 : decode cL_does 249 = .ok (.istore 6, 2) := by decide +kernel
theorem dL_does_251 : decode cL_does 251 = .ok (.iload 6, 2) := by decide +kernel
theorem dL_does_253 : decode cL_does 253 = .ok (.ifCond .ne 17, 3) := by decide +kernel
theorem dL_does_256 : decode cL_does 256 = .ok (.bipush 8, 2) := by decide +kernel
theorem dL_does_258 : decode cL_does 258 = .ok (.iload_n 1, 1) := by decide +kernel
theorem dL_does_259 : decode cL_does 259 = .ok (.bipush 7, 2) := by decide +kernel
theorem dL_does_261 : decode cL_does 261 = .ok (.ishr, 1) := by decide +kernel
theorem dL_does_262 : decode cL_does 262 = .ok (.iconst 5, 1) := by decide +kernel
theorem dL_does_263 : decode cL_does 263 = .ok (.invokestatic 14, 3) := by decide +kernel
theorem dL_does_266 : decode cL_does 266 = .ok (.iadd, 1) := by decide +kernel
theorem dL_does_267 : decode cL_does 267 = .ok (.goto 88, 3) := by decide +kernel
theorem dL_does_270 : decode cL_does 270 = .ok (.iload 6, 2) := by decide +kernel
theorem dL_does_272 : decode cL_does 272 = .ok (.iconst 1, 1) := by decide +kernel
theorem dL_does_273 : decode cL_does 273 = .ok (.if_icmp .ne 14, 3) := by decide +kernel
theorem dL_does_276 : decode cL_does 276 = .ok (.iload_n 1, 1) := by decide +kernel
theorem dL_does_277 : decode cL_does 277 = .ok (.bipush 7, 2) := by decide +kernel
theorem dL_does_279 : decode cL_does 279 = .ok (.ishr, 1) := by decide +kernel
theorem dL_does_280 : decode cL_does 280 = .ok (.iconst 2, 1) := by decide +kernel
theorem dL_does_281 : decode cL_does 281 = .ok (.invokestatic 14, 3) := by decide +kernel
theorem dL_does_284 : decode cL_does 284 = .ok (.goto 71, 3) := by decide +kernel
theorem dL_does_287 : decode cL_does 287 = .ok (.iload 6, 2) := by decide +kernel
theorem dL_does_289 : decode cL_does 289 = .ok (.iconst 2, 1) := by decide +kernel
theorem dL_does_290 : decode cL_does 290 = .ok (.if_icmp .ne 17, 3) := by decide +kernel
theorem dL_does_293 : decode cL_does 293 = .ok (.iconst 1, 1) := by decide +kernel
theorem dL_does_294 : decode cL_does 294 = .ok (.iload_n 1, 1) := by decide +kernel
theorem dL_does_295 : decode cL_does 295 = .ok (.bipush 7, 2) := by decide +kernel
theorem dL_does_297 : decode cL_does 297 = .ok (.ishr, 1) := by decide +kernel
theorem dL_does_298 : decode cL_does 298 = .ok (.bipush 9, 2) := by decide +kernel
theorem dL_does_300 : decode cL_does 300 = .ok (.invokestatic 14, 3) := by decide +kernel
theorem dL_does_303 : decode cL_does 303 = .ok (.iadd, 1) := by decide +kernel
theorem dL_does_304 : decode cL_does 304 = .ok (.goto 51, 3) := by decide +kernel
theorem dL_does_307 : decode cL_does 307 = .ok (.iload 6, 2) := by decide +kernel
theorem dL_does_309 : decode cL_does 309 = .ok (.iconst 3, 1) := by decide +kernel
theorem dL_does_310 : decode cL_does 310 = .ok (.if_icmp .ne 15, 3) := by decide +kernel
theorem dL_does_313 : decode cL_does 313 = .ok (.iload_n 1, 1) := by decide +kernel
theorem dL_does_314 : decode cL_does 314 = .ok (.bipush 7, 2) := by decide +kernel
theorem dL_does_316 : decode cL_does 316 = .ok (.ishr, 1) := by decide +kernel
theorem dL_does_317 : decode cL_does 317 = .ok (.bipush 6, 2) := by decide +kernel
theorem dL_does_319 : decode cL_does 319 = .ok (.invokestatic 14, 3) := by decide +kernel
theorem dL_does_322 : decode cL_does 322 = .ok (.goto 33, 3) := by decide +kernel
theorem dL_does_325 : decode cL_does 325 = .ok (.iload 6, 2) := by decide +kernel
theorem dL_does_327 : decode cL_does 327 = .ok (.iconst 4, 1) := by decide +kernel
theorem dL_does_328 : decode cL_does 328 = .ok (.if_icmp .ne 18, 3) := by decide +kernel
theorem dL_does_331 : decode cL_does 331 = .ok (.bipush 60, 2) := by decide +kernel
theorem dL_does_333 : decode cL_does 333 = .ok (.iload_n 1, 1) := by decide +kernel
theorem dL_does_334 : decode cL_does 334 = .ok (.bipush 7, 2) := by decide +kernel
theorem dL_does_336 : decode cL_does 336 = .ok (.ishr, 1) := by decide +kernel
theorem dL_does_337 : decode cL_does 337 = .ok (.bipush 81, 2) := by decide +kernel
theorem dL_does_339 : decode cL_does 339 = .ok (.invokestatic 14, 3) := by decide +kernel
theorem dL_does_342 : decode cL_does 342 = .ok (.iadd, 1) := by decide +kernel
theorem dL_does_343 : decode cL_does 343 = .ok (.goto 12, 3) := by decide +kernel
theorem dL_does_346 : decode cL_does 346 = .ok (.iload_n 1, 1) := by decide +kernel
theorem dL_does_347 : decode cL_does 347 = .ok (.bipush 7, 2) := by decide +kernel
theorem dL_does_349 : decode cL_does 349 = .ok (.ishr, 1) := by decide +kernel
theorem dL_does_350 : decode cL_does 350 = .ok (.bipush 21, 2) := by decide +kernel
theorem dL_does_352 : decode cL_does 352 = .ok (.invokestatic 14, 3) := by decide +kernel
theorem dL_does_355 : decode cL_does 355 = .ok (.istore 7, 2) := by decide +kernel
theorem dL_does_357 : decode cL_does 357 = .ok (.aload_n 0, 1) := by decide +kernel
theorem dL_does_358 : decode cL_does 358 = .ok (.iload 6, 2) := by decide +kernel
theorem dL_does_360 : decode cL_does 360 = .ok (.iload 7, 2) := by decide +kernel
theorem dL_does_362 : decode cL_does 362 = .ok (.invokevirtual 31, 3) := by decide +kernel
theorem dL_does_365 : decode cL_does 365 = .ok (.istore_n 2, 1) := by decide +kernel
theorem dL_does_366 : decode cL_does 366 = .ok (.iload_n 2, 1) := by decide +kernel
theorem dL_does_367 : decode cL_does 367 = .ok (.bipush (-5), 2) := by decide +kernel
theorem dL_does_369 : decode cL_does 369 = .ok (.if_icmp .ne 7, 3) := by decide +kernel
theorem dL_does_372 : decode cL_does 372 = .ok (.iconst 0, 1) := by decide +kernel
theorem dL_does_373 : decode cL_does 373 = .ok (.goto 4, 3) := by decide +kernel
theorem dL_does_376 : decode cL_does 376 = .ok (.iload_n 2, 1) := by decide +kernel
theorem dL_does_377 : decode cL_does 377 = .ok (.ireturn, 1) := by decide +kernel
theorem dL_does_378 : decode cL_does 378 = .ok (.aload_n 0, 1) := by decide +kernel
theorem dL_does_379 : decode cL_does 379 = .ok (.iconst 1, 1) := by decide +kernel
theorem dL_does_380 : decode cL_does 380 = .ok (.iload_n 1, 1) := by decide +kernel
theorem dL_does_381 : decode cL_does 381 = .ok (.iconst 4, 1) := by decide +kernel
theorem dL_does_382 : decode cL_does 382 = .ok (.ishr, 1) := by decide +kernel
theorem dL_does_383 : decode cL_does 383 = .ok (.bipush 60, 2) := by decide +kernel
theorem dL_does_385 : decode cL_does 385 = .ok (.invokestatic 14, 3) := by decide +kernel
theorem dL_does_388 : decode cL_does 388 = .ok (.iadd, 1) := by decide +kernel
theorem dL_does_389 : decode cL_does 389 = .ok (.invokevirtual 34, 3) := by decide +kernel
theorem dL_does_392 : decode cL_does 392 = .ok (.istore_n 2, 1) := by decide +kernel
theorem dL_does_393 : decode cL_does 393 = .ok (.iload_n 2, 1) := by decide +kernel
theorem dL_does_394 : decode cL_does 394 = .ok (.bipush (-5), 2) := by decide +kernel
theorem dL_does_396 : decode cL_does 396 = .ok (.if_icmp .ne 7, 3) := by decide +kernel
theorem dL_does_399 : decode cL_does 399 = .ok (.iconst 0, 1) := by decide +kernel
theorem dL_does_400 : decode cL_does 400 = .ok (.goto 4, 3) := by decide +kernel
theorem dL_does_403 : decode cL_does 403 = .ok (.iload_n 2, 1) := by decide +kernel
theorem dL_does_404 : decode cL_does 404 = .ok (.ireturn, 1) := by decide +kernel
theorem dL_does_405 : decode cL_does 405 = .ok (.aload_n 0, 1) := by decide +kernel
theorem dL_does_406 : decode cL_does 406 = .ok (.iload_n 3, 1) := by decide +kernel
theorem dL_does_407 : decode cL_does 407 = .ok (.invokevirtual 37, 3) := by decide +kernel
theorem dL_does_410 : decode cL_does 410 = .ok (.ireturn, 1) := by decide +kernel
theorem dL_isFrameSo_0 : decode cL_isFrameSo 0 = .ok (.aload_n 0, 1) := by decide +kernel
theorem dL_isFrameSo_1 : decode cL_isFrameSo 1 = .ok (.iconst 0, 1) := by decide +kernel
theorem dL_isFrameSo_2 : decode cL_isFrameSo 2 = .ok (.invokevirtual 8, 3) := by decide +kernel
theorem dL_isFrameSo_5 : decode cL_isFrameSo 5 = .ok (.istore_n 2, 1) := by decide +kernel
theorem dL_isFrameSo_6 : decode cL_isFrameSo 6 = .ok (.aload_n 0, 1) := by decide +kernel
theorem dL_isFrameSo_7 : decode cL_isFrameSo 7 = .ok (.iload_n 1, 1) := by decide +kernel
theorem dL_isFrameSo_8 : decode cL_isFrameSo 8 = .ok (.iconst 0, 1) := by decide +kernel
theorem dL_isFrameSo_9 : decode cL_isFrameSo 9 = .ok (.invokevirtual 40, 3) := by decide +kernel
theorem dL_isFrameSo_12 : decode cL_isFrameSo 12 = .ok (.istore_n 3, 1) := by decide +kernel
theorem dL_isFrameSo_13 : decode cL_isFrameSo 13 = .ok (.aload_n 0, 1) := by decide +kernel
theorem dL_isFrameSo_14 : decode cL_isFrameSo 14 = .ok (.iload_n 1, 1) := by decide +kernel
theorem dL_isFrameSo_15 : decode cL_isFrameSo 15 = .ok (.iconst 2, 1) := by decide +kernel
theorem dL_isFrameSo_16 : decode cL_isFrameSo 16 = .ok (.invokevirtual 40, 3) := by decide +kernel
theorem dL_isFrameSo_19 : decode cL_isFrameSo 19 = .ok (.istore 4, 2) := by decide +kernel
theorem dL_isFrameSo_21 : decode cL_isFrameSo 21 = .ok (.aload_n 0, 1) := by decide +kernel
theorem dL_isFrameSo_22 : decode cL_isFrameSo 22 = .ok (.iload_n 1, 1) := by decide +kernel
theorem dL_isFrameSo_23 : decode cL_isFrameSo 23 = .ok (.iconst 5, 1) := by decide +kernel
theorem dL_isFrameSo_24 : decode cL_isFrameSo 24 = .ok (.invokevirtual 40, 3) := by decide +kernel
theorem dL_isFrameSo_27 : decode cL_isFrameSo 27 = .ok (.istore 5, 2) := by decide +kernel
theorem dL_isFrameSo_29 : decode cL_isFrameSo 29 = .ok (.aload_n 0, 1) := by decide +kernel
theorem dL_isFrameSo_30 : decode cL_isFrameSo 30 = .ok (.iload_n 1, 1) := by decide +kernel
theorem dL_isFrameSo_31 : decode cL_isFrameSo 31 = .ok (.iconst 3, 1) := by decide +kernel
theorem dL_isFrameSo_32 : decode cL_isFrameSo 32 = .ok (.invokevirtual 40, 3) := by decide +kernel
theorem dL_isFrameSo_35 : decode cL_isFrameSo 35 = .ok (.iconst 1, 1) := by decide +kernel
theorem dL_isFrameSo_36 : decode cL_isFrameSo 36 = .ok (.if_icmp .ne 7, 3) := by decide +kernel
theorem dL_isFrameSo_39 : decode cL_isFrameSo 39 = .ok (.iconst 1, 1) := by decide +kernel
theorem dL_isFrameSo_40 : decode cL_isFrameSo 40 = .ok (.goto 4, 3) := by decide +kernel
theorem dL_isFrameSo_43 : decode cL_isFrameSo 43 = .ok (.iconst 0, 1) := by decide +kernel
theorem dL_isFrameSo_44 : decode cL_isFrameSo 44 = .ok (.istore 6, 2) := by decide +kernel
theorem dL_isFrameSo_46 : decode cL_isFrameSo 46 = .ok (.aload_n 0, 1) := by decide +kernel
theorem dL_isFrameSo_47 : decode cL_isFrameSo 47 = .ok (.iload_n 3, 1) := by decide +kernel
theorem dL_isFrameSo_48 : decode cL_isFrameSo 48 = .ok (.iconst 1, 1) := by decide +kernel
theorem dL_isFrameSo_49 : decode cL_isFrameSo 49 = .ok (.invokevirtual 43, 3) := by decide +kernel
theorem dL_isFrameSo_52 : decode cL_isFrameSo 52 = .ok (.aload_n 0, 1) := by decide +kernel
theorem dL_isFrameSo_53 : decode cL_isFrameSo 53 = .ok (.iload_n 1, 1) := by decide +kernel
theorem dL_isFrameSo_54 : decode cL_isFrameSo 54 = .ok (.iconst 1, 1) := by decide +kernel
theorem dL_isFrameSo_55 : decode cL_isFrameSo 55 = .ok (.invokevirtual 40, 3) := by decide +kernel
theorem dL_isFrameSo_58 : decode cL_isFrameSo 58 = .ok (.iadd, 1) := by decide +kernel
theorem dL_isFrameSo_59 : decode cL_isFrameSo 59 = .ok (.iload_n 1, 1) := by decide +kernel
theorem dL_isFrameSo_60 : decode cL_isFrameSo 60 = .ok (.if_icmp .ne 100, 3) := by decide +kernel
theorem dL_isFrameSo_63 : decode cL_isFrameSo 63 = .ok (.aload_n 0, 1) := by decide +kernel
theorem dL_isFrameSo_64 : decode cL_isFrameSo 64 = .ok (.iload_n 1, 1) := by decide +kernel
theorem dL_isFrameSo_65 : decode cL_isFrameSo 65 = .ok (.iconst 1, 1) := by decide +kernel
theorem dL_isFrameSo_66 : decode cL_isFrameSo 66 = .ok (.invokevirtual 40, 3) := by decide +kernel
theorem dL_isFrameSo_69 : decode cL_isFrameSo 69 = .ok (.aload_n 0, 1) := by decide +kernel
theorem dL_isFrameSo_70 : decode cL_isFrameSo 70 = .ok (.iload_n 3, 1) := by decide +kernel
theorem dL_isFrameSo_71 : decode cL_isFrameSo 71 = .ok (.iconst 0, 1) := by decide +kernel
theorem dL_isFrameSo_72 : decode cL_isFrameSo 72 = .ok (.invokevirtual 43, 3) := by decide +kernel
theorem dL_isFrameSo_75 : decode cL_isFrameSo 75 = .ok (.if_icmp .ge 85, 3) := by decide +kernel
theorem dL_isFrameSo_78 : decode cL_isFrameSo 78 = .ok (.iload 4, 2) := by decide +kernel
theorem dL_isFrameSo_80 : decode cL_isFrameSo 80 = .ok (.bipush (-5), 2) := by decide +kernel
theorem dL_isFrameSo_82 : decode cL_isFrameSo 82 = .ok (.if_icmp .ne 7, 3) := by decide +kernel
theorem dL_isFrameSo_85 : decode cL_isFrameSo 85 = .ok (.iconst 1, 1) := by decide +kernel
theorem dL_isFrameSo_86 : decode cL_isFrameSo 86 = .ok (.goto 4, 3) := by decide +kernel
theorem dL_isFrameSo_89 : decode cL_isFrameSo 89 = .ok (.iconst 0, 1) := by decide +kernel
theorem dL_isFrameSo_90 : decode cL_isFrameSo 90 = .ok (.iload_n 1, 1) := by decide +kernel
theorem dL_isFrameSo_91 : decode cL_isFrameSo 91 = .ok (.iload_n 2, 1) := by decide +kernel
theorem dL_isFrameSo_92 : decode cL_isFrameSo 92 = .ok (.iconst 5, 1) := by decide +kernel
theorem dL_isFrameSo_93 : decode cL_isFrameSo 93 = .ok (.idiv, 1) := by decide +kernel
theorem dL_isFrameSo_94 : decode cL_isFrameSo 94 = .ok (.iconst 5, 1) := by decide +kernel
theorem dL_isFrameSo_95 : decode cL_isFrameSo 95 = .ok (.imul, 1) := by decide +kernel
theorem dL_isFrameSo_96 : decode cL_isFrameSo 96 = .ok (.if_icmp .lt 7, 3) := by decide +kernel
theorem dL_isFrameSo_99 : decode cL_isFrameSo 99 = .ok (.iconst 1, 1) := by decide +kernel
theorem dL_isFrameSo_100 : decode cL_isFrameSo 100 = .ok (.goto 4, 3) := by decide +kernel
theorem dL_isFrameSo_103 : decode cL_isFrameSo 103 = .ok (.iconst 0, 1) := by decide +kernel
theorem dL_isFrameSo_104 : decode cL_isFrameSo 104 = .ok (.if_icmp .ne 56, 3) := by decide +kernel
theorem dL_isFrameSo_107 : decode cL_isFrameSo 107 = .ok (.iload 6, 2) := by decide +kernel
theorem dL_isFrameSo_109 : decode cL_isFrameSo 109 = .ok (.iload 4, 2) := by decide +kernel
theorem dL_isFrameSo_111 : decode cL_isFrameSo 111 = .ok (.ifCond .lt 14, 3) := by decide +kernel
theorem dL_isFrameSo_114 : decode cL_isFrameSo 114 = .ok (.iload_n 1, 1) := by decide +kernel
theorem dL_isFrameSo_115 : decode cL_isFrameSo 115 = .ok (.iconst 5, 1) := by decide +kernel
theorem dL_isFrameSo_116 : decode cL_isFrameSo 116 = .ok (.irem, 1) := by decide +kernel
theorem dL_isFrameSo_117 : decode cL_isFrameSo 117 = .ok (.iconst 4, 1) := by decide +kernel
theorem dL_isFrameSo_118 : decode cL_isFrameSo 118 = .ok (.if_icmp .ne 7, 3) := by decide +kernel
theorem dL_isFrameSo_121 : decode cL_isFrameSo 121 = .ok (.iconst 1, 1) := by decide +kernel
theorem dL_isFrameSo_122 : decode cL_isFrameSo 122 = .ok (.goto 4, 3) := by decide +kernel
theorem dL_isFrameSo_125 : decode cL_isFrameSo 125 = .ok (.iconst 0, 1) := by decide +kernel
theorem dL_isFrameSo_126 : decode cL_isFrameSo 126 = .ok (.if_icmp .ne 34, 3) := by decide +kernel
theorem dL_isFrameSo_129 : decode cL_isFrameSo 129 = .ok (.iload 5, 2) := by decide +kernel
theorem dL_isFrameSo_131 : decode cL_isFrameSo 131 = .ok (.ifCond .ne 7, 3) := by decide +kernel
theorem dL_isFrameSo_134 : decode cL_isFrameSo 134 = .ok (.iconst 1, 1) := by decide +kernel
theorem dL_isFrameSo_135 : decode cL_isFrameSo 135 = .ok (.goto 4, 3) := by decide +kernel
theorem dL_isFrameSo_138 : decode cL_isFrameSo 138 = .ok (.iconst 0, 1) := by decide +kernel
theorem dL_isFrameSo_139 : decode cL_isFrameSo 139 = .ok (.aload_n 0, 1) := by decide +kernel
theorem dL_isFrameSo_140 : decode cL_isFrameSo 140 = .ok (.iload_n 1, 1) := by decide +kernel
theorem dL_isFrameSo_141 : decode cL_isFrameSo 141 = .ok (.iconst 4, 1) := by decide +kernel
theorem dL_isFrameSo_142 : decode cL_isFrameSo 142 = .ok (.invokevirtual 40, 3) := by decide +kernel
theorem dL_isFrameSo_145 : decode cL_isFrameSo 145 = .ok (.ifCond .ne 7, 3) := by decide +kernel
theorem dL_isFrameSo_148 : decode cL_isFrameSo 148 = .ok (.iconst 1, 1) := by decide +kernel
theorem dL_isFrameSo_149 : decode cL_isFrameSo 149 = .ok (.goto 4, 3) := by decide +kernel
theorem dL_isFrameSo_152 : decode cL_isFrameSo 152 = .ok (.iconst 0, 1) := by decide +kernel
theorem dL_isFrameSo_153 : decode cL_isFrameSo 153 = .ok (.if_icmp .ne 7, 3) := by decide +kernel
theorem dL_isFrameSo_156 : decode cL_isFrameSo 156 = .ok (.iconst 1, 1) := by decide +kernel
theorem dL_isFrameSo_157 : decode cL_isFrameSo 157 = .ok (.goto 4, 3) := by decide +kernel
theorem dL_isFrameSo_160 : decode cL_isFrameSo 160 = .ok (.iconst 0, 1) := by decide +kernel
theorem dL_isFrameSo_161 : decode cL_isFrameSo 161 = .ok (.istore 7, 2) := by decide +kernel
theorem dL_isFrameSo_163 : decode cL_isFrameSo 163 = .ok (.iconst 0, 1) := by decide +kernel
theorem dL_isFrameSo_164 : decode cL_isFrameSo 164 = .ok (.istore 8, 2) := by decide +kernel
theorem dL_isFrameSo_166 : decode cL_isFrameSo 166 = .ok (.iconst 0, 1) := by decide +kernel
theorem dL_isFrameSo_167 : decode cL_isFrameSo 167 = .ok (.istore 9, 2) := by decide +kernel
theorem dL_isFrameSo_169 : decode cL_isFrameSo 169 = .ok (.iload 9, 2) := by decide +kernel
theorem dL_isFrameSo_171 : decode cL_isFrameSo 171 = .ok (.iconst 5, 1) := by decide +kernel
theorem dL_isFrameSo_172 : decode cL_isFrameSo 172 = .ok (.if_icmp .ge 31, 3) := by decide +kernel
theorem dL_isFrameSo_175 : decode cL_isFrameSo 175 = .ok (.iload 4, 2) := by decide +kernel
theorem dL_isFrameSo_177 : decode cL_isFrameSo 177 = .ok (.ifCond .lt 26, 3) := by decide +kernel
theorem dL_isFrameSo_180 : decode cL_isFrameSo 180 = .ok (.iload 8, 2) := by decide +kernel
theorem dL_isFrameSo_182 : decode cL_isFrameSo 182 = .ok (.aload_n 0, 1) := by decide +kernel
theorem dL_isFrameSo_183 : decode cL_isFrameSo 183 = .ok (.iconst 5, 1) := by decide +kernel
theorem dL_isFrameSo_184 : decode cL_isFrameSo 184 = .ok (.iload 4, 2) := by decide +kernel
theorem dL_isFrameSo_186 : decode cL_isFrameSo 186 = .ok (.imul, 1) := by decide +kernel
theorem dL_isFrameSo_187 : decode cL_isFrameSo 187 = .ok (.iload 9, 2) := by decide +kernel
theorem dL_isFrameSo_189 : decode cL_isFrameSo 189 = .ok (.iadd, 1) := by decide +kernel
theorem dL_isFrameSo_190 : decode cL_isFrameSo 190 = .ok (.iconst 4, 1) := by decide +kernel
theorem dL_isFrameSo_191 : decode cL_isFrameSo 191 = .ok (.invokevirtual 40, 3) := by decide +kernel
theorem dL_isFrameSo_194 : decode cL_isFrameSo 194 = .ok (.iadd, 1) := by decide +kernel
theorem dL_isFrameSo_195 : decode cL_isFrameSo 195 = .ok (.istore 8, 2) := by decide +kernel
theorem dL_isFrameSo_197 : decode cL_isFrameSo 197 = .ok (.iinc 9 1, 3) := by decide +kernel
theorem dL_isFrameSo_200 : decode cL_isFrameSo 200 = .ok (.goto (-31), 3) := by decide +kernel
theorem dL_isFrameSo_203 : decode cL_isFrameSo 203 = .ok (.iload 7, 2) := by decide +kernel
theorem dL_isFrameSo_205 : decode cL_isFrameSo 205 = .ok (.ifCond .eq 42, 3) := by decide +kernel
theorem dL_isFrameSo_208 : decode cL_isFrameSo 208 = .ok (.iload 5, 2) := by decide +kernel
theorem dL_isFrameSo_210 : decode cL_isFrameSo 210 = .ok (.iconst 1, 1) := by decide +kernel
theorem dL_isFrameSo_211 : decode cL_isFrameSo 211 = .ok (.if_icmp .ne 7, 3) := by decide +kernel
theorem dL_isFrameSo_214 : decode cL_isFrameSo 214 = .ok (.iconst 1, 1) := by decide +kernel
theorem dL_isFrameSo_215 : decode cL_isFrameSo 215 = .ok (.goto 4, 3) := by decide +kernel
theorem dL_isFrameSo_218 : decode cL_isFrameSo 218 = .ok (.iconst 0, 1) := by decide +kernel
theorem dL_isFrameSo_219 : decode cL_isFrameSo 219 = .ok (.aload_n 0, 1) := by decide +kernel
theorem dL_isFrameSo_220 : decode cL_isFrameSo 220 = .ok (.iload_n 1, 1) := by decide +kernel
theorem dL_isFrameSo_221 : decode cL_isFrameSo 221 = .ok (.iconst 4, 1) := by decide +kernel
theorem dL_isFrameSo_222 : decode cL_isFrameSo 222 = .ok (.invokevirtual 40, 3) := by decide +kernel
theorem dL_isFrameSo_225 : decode cL_isFrameSo 225 = .ok (.iconst 1, 1) := by decide +kernel
theorem dL_isFrameSo_226 : decode cL_isFrameSo 226 = .ok (.if_icmp .ne 13, 3) := by decide +kernel
theorem dL_isFrameSo_229 : decode cL_isFrameSo 229 = .ok (.iload 8, 2) := by decide +kernel
theorem dL_isFrameSo_231 : decode cL_isFrameSo 231 = .ok (.iconst 1, 1) := by decide +kernel
theorem dL_isFrameSo_232 : decode cL_isFrameSo 232 = .ok (.if_icmp .ne 7, 3) := by decide +kernel
theorem dL_isFrameSo_235 : decode cL_isFrameSo 235 = .ok (.iconst 1, 1) := by decide +kernel
theorem dL_isFrameSo_236 : decode cL_isFrameSo 236 = .ok (.goto 4, 3) := by decide +kernel
theorem dL_isFrameSo_239 : decode cL_isFrameSo 239 = .ok (.iconst 0, 1) := by decide +kernel
theorem dL_isFrameSo_240 : decode cL_isFrameSo 240 = .ok (.if_icmp .ne 7, 3) := by decide +kernel
theorem dL_isFrameSo_243 : decode cL_isFrameSo 243 = .ok (.iconst 1, 1) := by decide +kernel
theorem dL_isFrameSo_244 : decode cL_isFrameSo 244 = .ok (.goto 4, 3) := by decide +kernel
theorem dL_isFrameSo_247 : decode cL_isFrameSo 247 = .ok (.iconst 0, 1) := by decide +kernel
theorem dL_isFrameSo_248 : decode cL_isFrameSo 248 = .ok (.istore 7, 2) := by decide +kernel
theorem dL_isFrameSo_250 : decode cL_isFrameSo 250 = .ok (.iload_n 1, 1) := by decide +kernel
theorem dL_isFrameSo_251 : decode cL_isFrameSo 251 = .ok (.iconst 5, 1) := by decide +kernel
theorem dL_isFrameSo_252 : decode cL_isFrameSo 252 = .ok (.irem, 1) := by decide +kernel
theorem dL_isFrameSo_253 : decode cL_isFrameSo 253 = .ok (.ifCond .ne 9, 3) := by decide +kernel
theorem dL_isFrameSo_256 : decode cL_isFrameSo 256 = .ok (.iload_n 1, 1) := by decide +kernel
theorem dL_isFrameSo_257 : decode cL_isFrameSo 257 = .ok (.iconst 2, 1) := by decide +kernel
theorem dL_isFrameSo_258 : decode cL_isFrameSo 258 = .ok (.isub, 1) := by decide +kernel
theorem dL_isFrameSo_259 : decode cL_isFrameSo 259 = .ok (.goto 6, 3) := by decide +kernel
theorem dL_isFrameSo_262 : decode cL_isFrameSo 262 = .ok (.iload_n 1, 1) := by decide +kernel
theorem dL_isFrameSo_263 : decode cL_isFrameSo 263 = .ok (.iconst 1, 1) := by decide +kernel
theorem dL_isFrameSo_264 : decode cL_isFrameSo 264 = .ok (.isub, 1) := by decide +kernel
theorem dL_isFrameSo_265 : decode cL_isFrameSo 265 = .ok (.istore 9, 2) := by decide +kernel
theorem dL_isFrameSo_267 : decode cL_isFrameSo 267 = .ok (.iload_n 1, 1) := by decide +kernel
theorem dL_isFrameSo_268 : decode cL_isFrameSo 268 = .ok (.iconst 5, 1) := by decide +kernel
theorem dL_isFrameSo_269 : decode cL_isFrameSo 269 = .ok (.irem, 1) := by decide +kernel
theorem dL_isFrameSo_270 : decode cL_isFrameSo 270 = .ok (.iconst 3, 1) := by decide +kernel
theorem dL_isFrameSo_271 : decode cL_isFrameSo 271 = .ok (.if_icmp .ne 9, 3) := by decide +kernel
theorem dL_isFrameSo_274 : decode cL_isFrameSo 274 = .ok (.iload_n 1, 1) := by decide +kernel
theorem dL_isFrameSo_275 : decode cL_isFrameSo 275 = .ok (.iconst 2, 1) := by decide +kernel
theorem dL_isFrameSo_276 : decode cL_isFrameSo 276 = .ok (.iadd, 1) := by decide +kernel
theorem dL_isFrameSo_277 : decode cL_isFrameSo 277 = .ok (.goto 6, 3) := by decide +kernel
theorem dL_isFrameSo_280 : decode cL_isFrameSo 280 = .ok (.iload_n 1, 1) := by decide +kernel
theorem dL_isFrameSo_281 : decode cL_isFrameSo 281 = .ok (.iconst 1, 1) := by decide +kernel
theorem dL_isFrameSo_282 : decode cL_isFrameSo 282 = .ok (.iadd, 1) := by decide +kernel
theorem dL_isFrameSo_283 : decode cL_isFrameSo 283 = .ok (.istore 10, 2) := by decide +kernel
theorem dL_isFrameSo_285 : decode cL_isFrameSo 285 = .ok (.iload 6, 2) := by decide +kernel
theorem dL_isFrameSo_287 : decode cL_isFrameSo 287 = .ok (.ifCond .ne 40, 3) := by decide +kernel
theorem dL_isFrameSo_290 : decode cL_isFrameSo 290 = .ok (.iload 9, 2) := by decide +kernel
theorem dL_isFrameSo_292 : decode cL_isFrameSo 292 = .ok (.ifCond .lt 35, 3) := by decide +kernel
theorem dL_isFrameSo_295 : decode cL_isFrameSo 295 = .ok (.iload 10, 2) := by decide +kernel
theorem dL_isFrameSo_297 : decode cL_isFrameSo 297 = .ok (.iload_n 2, 1) := by decide +kernel
theorem dL_isFrameSo_298 : decode cL_isFrameSo 298 = .ok (.if_icmp .ge 29, 3) := by decide +kernel
theorem dL_isFrameSo_301 : decode cL_isFrameSo 301 = .ok (.aload_n 0, 1) := by decide +kernel
theorem dL_isFrameSo_302 : decode cL_isFrameSo 302 = .ok (.iload 9, 2) := by decide +kernel
theorem dL_isFrameSo_304 : decode cL_isFrameSo 304 = .ok (.iconst 5, 1) := by decide +kernel
theorem dL_isFrameSo_305 : decode cL_isFrameSo 305 = .ok (.invokevirtual 40, 3) := by decide +kernel
theorem dL_isFrameSo_308 : decode cL_isFrameSo 308 = .ok (.iconst 2, 1) := by decide +kernel
theorem dL_isFrameSo_309 : decode cL_isFrameSo 309 = .ok (.if_icmp .ge 18, 3) := by decide +kernel
theorem dL_isFrameSo_312 : decode cL_isFrameSo 312 = .ok (.aload_n 0, 1) := by decide +kernel
theorem dL_isFrameSo_313 : decode cL_isFrameSo 313 = .ok (.iload 10, 2) := by decide +kernel
theorem dL_isFrameSo_315 : decode cL_isFrameSo 315 = .ok (.iconst 5, 1) := by decide +kernel
theorem dL_isFrameSo_316 : decode cL_isFrameSo 316 = .ok (.invokevirtual 40, 3) := by decide +kernel
theorem dL_isFrameSo_319 : decode cL_isFrameSo 319 = .ok (.iconst 2, 1) := by decide +kernel
theorem dL_isFrameSo_320 : decode cL_isFrameSo 320 = .ok (.if_icmp .ge 7, 3) := by decide +kernel
theorem dL_isFrameSo_323 : decode cL_isFrameSo 323 = .ok (.iconst 1, 1) := by decide +kernel
theorem dL_isFrameSo_324 : decode cL_isFrameSo 324 = .ok (.goto 4, 3) := by decide +kernel
theorem dL_isFrameSo_327 : decode cL_isFrameSo 327 = .ok (.iconst 0, 1) := by decide +kernel
theorem dL_isFrameSo_328 : decode cL_isFrameSo 328 = .ok (.istore 11, 2) := by decide +kernel
theorem dL_isFrameSo_330 : decode cL_isFrameSo 330 = .ok (.iload 7, 2) := by decide +kernel
theorem dL_isFrameSo_332 : decode cL_isFrameSo 332 = .ok (.ifCond .eq 40, 3) := by decide +kernel
theorem dL_isFrameSo_335 : decode cL_isFrameSo 335 = .ok (.iload 5, 2) := by decide +kernel
theorem dL_isFrameSo_337 : decode cL_isFrameSo 337 = .ok (.iconst 2, 1) := by decide +kernel
theorem dL_isFrameSo_338 : decode cL_isFrameSo 338 = .ok (.if_icmp .ne 8, 3) := by decide +kernel
theorem dL_isFrameSo_341 : decode cL_isFrameSo 341 = .ok (.iload 11, 2) := by decide +kernel
theorem dL_isFrameSo_343 : decode cL_isFrameSo 343 = .ok (.ifCond .eq 29, 3) := by decide +kernel
theorem dL_isFrameSo_346 : decode cL_isFrameSo 346 = .ok (.iload 5, 2) := by decide +kernel
theorem dL_isFrameSo_348 : decode cL_isFrameSo 348 = .ok (.iconst 3, 1) := by decide +kernel
theorem dL_isFrameSo_349 : decode cL_isFrameSo 349 = .ok (.if_icmp .ne 8, 3) := by decide +kernel
theorem dL_isFrameSo_352 : decode cL_isFrameSo 352 = .ok (.iload 11, 2) := by decide +kernel
theorem dL_isFrameSo_354 : decode cL_isFrameSo 354 = .ok (.ifCond .ne 18, 3) := by decide +kernel
theorem dL_isFrameSo_357 : decode cL_isFrameSo 357 = .ok (.iload 5, 2) := by decide +kernel
theorem dL_isFrameSo_359 : decode cL_isFrameSo 359 = .ok (.ifCond .lt 13, 3) := by decide +kernel
theorem dL_isFrameSo_362 : decode cL_isFrameSo 362 = .ok (.iload 5, 2) := by decide +kernel
theorem dL_isFrameSo_364 : decode cL_isFrameSo 364 = .ok (.iconst 4, 1) := by decide +kernel
theorem dL_isFrameSo_365 : decode cL_isFrameSo 365 = .ok (.if_icmp .ge 7, 3) := by decide +kernel
theorem dL_isFrameSo_368 : decode cL_isFrameSo 368 = .ok (.iconst 1, 1) := by decide +kernel
theorem dL_isFrameSo_369 : decode cL_isFrameSo 369 = .ok (.goto 4, 3) := by decide +kernel
theorem dL_isFrameSo_372 : decode cL_isFrameSo 372 = .ok (.iconst 0, 1) := by decide +kernel
theorem dL_isFrameSo_373 : decode cL_isFrameSo 373 = .ok (.istore 7, 2) := by decide +kernel
theorem dL_isFrameSo_375 : decode cL_isFrameSo 375 = .ok (.iconst 0, 1) := by decide +kernel
theorem dL_isFrameSo_376 : decode cL_isFrameSo 376 = .ok (.istore 12, 2) := by decide +kernel
theorem dL_isFrameSo_378 : decode cL_isFrameSo 378 = .ok (.iconst 0, 1) := by decide +kernel
theorem dL_isFrameSo_379 : decode cL_isFrameSo 379 = .ok (.istore 13, 2) := by decide +kernel
theorem dL_isFrameSo_381 : decode cL_isFrameSo 381 = .ok (.iconst 0, 1) := by decide +kernel
theorem dL_isFrameSo_382 : decode cL_isFrameSo 382 = .ok (.istore 14, 2) := by decide +kernel
theorem dL_isFrameSo_384 : decode cL_isFrameSo 384 = .ok (.iconst 0, 1) := by decide +kernel
theorem dL_isFrameSo_385 : decode cL_isFrameSo 385 = .ok (.istore 15, 2) := by decide +kernel
theorem dL_isFrameSo_387 : decode cL_isFrameSo 387 = .ok (.iload 15, 2) := by decide +kernel
theorem dL_isFrameSo_389 : decode cL_isFrameSo 389 = .ok (.iconst 4, 1) := by decide +kernel
theorem dL_isFrameSo_390 : decode cL_isFrameSo 390 = .ok (.if_icmp .ge 227, 3) := by decide +kernel
theorem dL_isFrameSo_393 : decode cL_isFrameSo 393 = .ok (.aload_n 0, 1) := by decide +kernel
theorem dL_isFrameSo_394 : decode cL_isFrameSo 394 = .ok (.iload_n 1, 1) := by decide +kernel
theorem dL_isFrameSo_395 : decode cL_isFrameSo 395 = .ok (.iload 15, 2) := by decide +kernel
theorem dL_isFrameSo_397 : decode cL_isFrameSo 397 = .ok (.iconst 0, 1) := by decide +kernel
theorem dL_isFrameSo_398 : decode cL_isFrameSo 398 = .ok (.invokevirtual 46, 3) := by decide +kernel
theorem dL_isFrameSo_401 : decode cL_isFrameSo 401 = .ok (.istore 16, 2) := by decide +kernel
theorem dL_isFrameSo_403 : decode cL_isFrameSo 403 = .ok (.aload_n 0, 1) := by decide +kernel
theorem dL_isFrameSo_404 : decode cL_isFrameSo 404 = .ok (.iload_n 1, 1) := by decide +kernel
theorem dL_isFrameSo_405 : decode cL_isFrameSo 405 = .ok (.iload 15, 2) := by decide +kernel
theorem dL_isFrameSo_407 : decode cL_isFrameSo 407 = .ok (.iconst 1, 1) := by decide +kernel
theorem dL_isFrameSo_408 : decode cL_isFrameSo 408 = .ok (.invokevirtual 46, 3) := by decide +kernel
theorem dL_isFrameSo_411 : decode cL_isFrameSo 411 = .ok (.istore 17, 2) := by decide +kernel
theorem dL_isFrameSo_413 : decode cL_isFrameSo 413 = .ok (.iconst 0, 1) := by decide +kernel
theorem dL_isFrameSo_414 : decode cL_isFrameSo 414 = .ok (.istore 18, 2) := by decide +kernel
theorem dL_isFrameSo_416 : decode cL_isFrameSo 416 = .ok (.iconst 1, 1) := by decide +kernel
theorem dL_isFrameSo_417 : decode cL_isFrameSo 417 = .ok (.istore 19, 2) := by decide +kernel
theorem dL_isFrameSo_419 : decode cL_isFrameSo 419 = .ok (.iload 19, 2) := by decide +kernel
theorem dL_isFrameSo_421 : decode cL_isFrameSo 421 = .ok (.iconst 5, 1) := by decide +kernel
theorem dL_isFrameSo_422 : decode cL_isFrameSo 422 = .ok (.if_icmp .ge 30, 3) := by decide +kernel
theorem dL_isFrameSo_425 : decode cL_isFrameSo 425 = .ok (.iload 6, 2) := by decide +kernel
theorem dL_isFrameSo_427 : decode cL_isFrameSo 427 = .ok (.ifCond .eq 25, 3) := by decide +kernel
theorem dL_isFrameSo_430 : decode cL_isFrameSo 430 = .ok (.iload 18, 2) := by decide +kernel
theorem dL_isFrameSo_432 : decode cL_isFrameSo 432 = .ok (.aload_n 0, 1) := by decide +kernel
theorem dL_isFrameSo_433 : decode cL_isFrameSo 433 = .ok (.iload_n 1, 1) := by decide +kernel
theorem dL_isFrameSo_434 : decode cL_isFrameSo 434 = .ok (.iload 19, 2) := by decide +kernel
theorem dL_isFrameSo_436 : decode cL_isFrameSo 436 = .ok (.isub, 1) := by decide +kernel
theorem dL_isFrameSo_437 : decode cL_isFrameSo 437 = .ok (.iload 15, 2) := by decide +kernel
theorem dL_isFrameSo_439 : decode cL_isFrameSo 439 = .ok (.iconst 0, 1) := by decide +kernel
theorem dL_isFrameSo_440 : decode cL_isFrameSo 440 = .ok (.invokevirtual 46, 3) := by decide +kernel
theorem dL_isFrameSo_443 : decode cL_isFrameSo 443 = .ok (.iadd, 1) := by decide +kernel
theorem dL_isFrameSo_444 : decode cL_isFrameSo 444 = .ok (.istore 18, 2) := by decide +kernel
theorem dL_isFrameSo_446 : decode cL_isFrameSo 446 = .ok (.iinc 19 1, 3) := by decide +kernel
theorem dL_isFrameSo_449 : decode cL_isFrameSo 449 = .ok (.goto (-30), 3) := by decide +kernel
theorem dL_isFrameSo_452 : decode cL_isFrameSo 452 = .ok (.iload 7, 2) := by decide +kernel
theorem dL_isFrameSo_454 : decode cL_isFrameSo 454 = .ok (.ifCond .eq 92, 3) := by decide +kernel
theorem dL_isFrameSo_457 : decode cL_isFrameSo 457 = .ok (.iload 16, 2) := by decide +kernel
theorem dL_isFrameSo_459 : decode cL_isFrameSo 459 = .ok (.ifCond .lt 87, 3) := by decide +kernel
theorem dL_isFrameSo_462 : decode cL_isFrameSo 462 = .ok (.iload 16, 2) := by decide +kernel
theorem dL_isFrameSo_464 : decode cL_isFrameSo 464 = .ok (.bipush 16, 2) := by decide +kernel
theorem dL_isFrameSo_466 : decode cL_isFrameSo 466 = .ok (.if_icmp .ge 80, 3) := by decide +kernel
theorem dL_isFrameSo_469 : decode cL_isFrameSo 469 = .ok (.iload 6, 2) := by decide +kernel
theorem dL_isFrameSo_471 : decode cL_isFrameSo 471 = .ok (.ifCond .eq 13, 3) := by decide +kernel
theorem dL_isFrameSo_474 : decode cL_isFrameSo 474 = .ok (.iload 16, 2) := by decide +kernel
theorem dL_isFrameSo_476 : decode cL_isFrameSo 476 = .ok (.iload 18, 2) := by decide +kernel
theorem dL_isFrameSo_478 : decode cL_isFrameSo 478 = .ok (.bipush 16, 2) := by decide +kernel
theorem dL_isFrameSo_480 : decode cL_isFrameSo 480 = .ok (.irem, 1) := by decide +kernel
theorem dL_isFrameSo_481 : decode cL_isFrameSo 481 = .ok (.if_icmp .ne 65, 3) := by decide +kernel
theorem dL_isFrameSo_484 : decode cL_isFrameSo 484 = .ok (.iload 5, 2) := by decide +kernel
theorem dL_isFrameSo_486 : decode cL_isFrameSo 486 = .ok (.iconst 2, 1) := by decide +kernel
theorem dL_isFrameSo_487 : decode cL_isFrameSo 487 = .ok (.if_icmp .ge 13, 3) := by decide +kernel
theorem dL_isFrameSo_490 : decode cL_isFrameSo 490 = .ok (.iload 17, 2) := by decide +kernel
theorem dL_isFrameSo_492 : decode cL_isFrameSo 492 = .ok (.iload 16, 2) := by decide +kernel
theorem dL_isFrameSo_494 : decode cL_isFrameSo 494 = .ok (.if_icmp .ne 52, 3) := by decide +kernel
theorem dL_isFrameSo_497 : decode cL_isFrameSo 497 = .ok (.goto 45, 3) := by decide +kernel
theorem dL_isFrameSo_500 : decode cL_isFrameSo 500 = .ok (.iload 5, 2) := by decide +kernel
theorem dL_isFrameSo_502 : decode cL_isFrameSo 502 = .ok (.iconst 3, 1) := by decide +kernel
theorem dL_isFrameSo_503 : decode cL_isFrameSo 503 = .ok (.if_icmp .ne 13, 3) := by decide +kernel
theorem dL_isFrameSo_506 : decode cL_isFrameSo 506 = .ok (.iload 17, 2) := by decide +kernel
theorem dL_isFrameSo_508 : decode cL_isFrameSo 508 = .ok (.bipush (-5), 2) := by decide +kernel
theorem dL_isFrameSo_510 : decode cL_isFrameSo 510 = .ok (.if_icmp .ne 36, 3) := by decide +kernel
theorem dL_isFrameSo_513 : decode cL_isFrameSo 513 = .ok (.goto 29, 3) := by decide +kernel
theorem dL_isFrameSo_516 : decode cL_isFrameSo 516 = .ok (.iload 17, 2) := by decide +kernel
theorem dL_isFrameSo_518 : decode cL_isFrameSo 518 = .ok (.aload_n 0, 1) := by decide +kernel
theorem dL_isFrameSo_519 : decode cL_isFrameSo 519 = .ok (.iload 9, 2) := by decide +kernel
theorem dL_isFrameSo_521 : decode cL_isFrameSo 521 = .ok (.iload 15, 2) := by decide +kernel
theorem dL_isFrameSo_523 : decode cL_isFrameSo 523 = .ok (.iconst 0, 1) := by decide +kernel
theorem dL_isFrameSo_524 : decode cL_isFrameSo 524 = .ok (.invokevirtual 46, 3) := by decide +kernel
theorem dL_isFrameSo_527 : decode cL_isFrameSo 527 = .ok (.aload_n 0, 1) := by decide +kernel
theorem dL_isFrameSo_528 : decode cL_isFrameSo 528 = .ok (.iload 10, 2) := by decide +kernel
theorem dL_isFrameSo_530 : decode cL_isFrameSo 530 = .ok (.iload 15, 2) := by decide +kernel
theorem dL_isFrameSo_532 : decode cL_isFrameSo 532 = .ok (.iconst 0, 1) := by decide +kernel
theorem dL_isFrameSo_533 : decode cL_isFrameSo 533 = .ok (.invokevirtual 46, 3) := by decide +kernel
theorem dL_isFrameSo_536 : decode cL_isFrameSo 536 = .ok (.iadd, 1) := by decide +kernel
theorem dL_isFrameSo_537 : decode cL_isFrameSo 537 = .ok (.iconst 2, 1) := by decide +kernel
theorem dL_isFrameSo_538 : decode cL_isFrameSo 538 = .ok (.idiv, 1) := by decide +kernel
theorem dL_isFrameSo_539 : decode cL_isFrameSo 539 = .ok (.if_icmp .ne 7, 3) := by decide +kernel
theorem dL_isFrameSo_542 : decode cL_isFrameSo 542 = .ok (.iconst 1, 1) := by decide +kernel
theorem dL_isFrameSo_543 : decode cL_isFrameSo 543 = .ok (.goto 4, 3) := by decide +kernel
theorem dL_isFrameSo_546 : decode cL_isFrameSo 546 = .ok (.iconst 0, 1) := by decide +kernel
theorem dL_isFrameSo_547 : decode cL_isFrameSo 547 = .ok (.istore 7, 2) := by decide +kernel
theorem dL_isFrameSo_549 : decode cL_isFrameSo 549 = .ok (.iconst 3, 1) := by decide +kernel
theorem dL_isFrameSo_550 : decode cL_isFrameSo 550 = .ok (.iload 16, 2) := by decide +kernel
theorem dL_isFrameSo_552 : decode cL_isFrameSo 552 = .ok (.iconst 4, 1) := by decide +kernel
theorem dL_isFrameSo_553 : decode cL_isFrameSo 553 = .ok (.idiv, 1) := by decide +kernel
theorem dL_isFrameSo_554 : decode cL_isFrameSo 554 = .ok (.iadd, 1) := by decide +kernel
theorem dL_isFrameSo_555 : decode cL_isFrameSo 555 = .ok (.istore 19, 2) := by decide +kernel
theorem dL_isFrameSo_557 : decode cL_isFrameSo 557 = .ok (.iconst 3, 1) := by decide +kernel
theorem dL_isFrameSo_558 : decode cL_isFrameSo 558 = .ok (.iload 16, 2) := by decide +kernel
theorem dL_isFrameSo_560 : decode cL_isFrameSo 560 = .ok (.iconst 4, 1) := by decide +kernel
theorem dL_isFrameSo_561 : decode cL_isFrameSo 561 = .ok (.irem, 1) := by decide +kernel
theorem dL_isFrameSo_562 : decode cL_isFrameSo 562 = .ok (.iadd, 1) := by decide +kernel
theorem dL_isFrameSo_563 : decode cL_isFrameSo 563 = .ok (.istore 20, 2) := by decide +kernel
theorem dL_isFrameSo_565 : decode cL_isFrameSo 565 = .ok (.iload 13, 2) := by decide +kernel
theorem dL_isFrameSo_567 : decode cL_isFrameSo 567 = .ok (.iload 19, 2) := by decide +kernel
theorem dL_isFrameSo_569 : decode cL_isFrameSo 569 = .ok (.iadd, 1) := by decide +kernel
theorem dL_isFrameSo_570 : decode cL_isFrameSo 570 = .ok (.istore 13, 2) := by decide +kernel
theorem dL_isFrameSo_572 : decode cL_isFrameSo 572 = .ok (.iload 14, 2) := by decide +kernel
theorem dL_isFrameSo_574 : decode cL_isFrameSo 574 = .ok (.iload 20, 2) := by decide +kernel
theorem dL_isFrameSo_576 : decode cL_isFrameSo 576 = .ok (.iadd, 1) := by decide +kernel
theorem dL_isFrameSo_577 : decode cL_isFrameSo 577 = .ok (.istore 14, 2) := by decide +kernel
theorem dL_isFrameSo_579 : decode cL_isFrameSo 579 = .ok (.iload 19, 2) := by decide +kernel
theorem dL_isFrameSo_581 : decode cL_isFrameSo 581 = .ok (.iload 12, 2) := by decide +kernel
theorem dL_isFrameSo_583 : decode cL_isFrameSo 583 = .ok (.if_icmp .le 8, 3) := by decide +kernel
theorem dL_isFrameSo_586 : decode cL_isFrameSo 586 = .ok (.iload 19, 2) := by decide +kernel
theorem dL_isFrameSo_588 : decode cL_isFrameSo 588 = .ok (.goto 5, 3) := by decide +kernel
theorem dL_isFrameSo_591 : decode cL_isFrameSo 591 = .ok (.iload 12, 2) := by decide +kernel
theorem dL_isFrameSo_593 : decode cL_isFrameSo 593 = .ok (.istore 12, 2) := by decide +kernel
theorem dL_isFrameSo_595 : decode cL_isFrameSo 595 = .ok (.iload 20, 2) := by decide +kernel
theorem dL_isFrameSo_597 : decode cL_isFrameSo 597 = .ok (.iload 12, 2) := by decide +kernel
theorem dL_isFrameSo_599 : decode cL_isFrameSo 599 = .ok (.if_icmp .le 8, 3) := by decide +kernel
theorem dL_isFrameSo_602 : decode cL_isFrameSo 602 = .ok (.iload 20, 2) := by decide +kernel
theorem dL_isFrameSo_604 : decode cL_isFrameSo 604 = .ok (.goto 5, 3) := by decide +kernel
theorem dL_isFrameSo_607 : decode cL_isFrameSo 607 = .ok (.iload 12, 2) := by decide +kernel
theorem dL_isFrameSo_609 : decode cL_isFrameSo 609 = .ok (.istore 12, 2) := by decide +kernel
theorem dL_isFrameSo_611 : decode cL_isFrameSo 611 = .ok (.iinc 15 1, 3) := by decide +kernel
theorem dL_isFrameSo_614 : decode cL_isFrameSo 614 = .ok (.goto (-227), 3) := by decide +kernel
theorem dL_isFrameSo_617 : decode cL_isFrameSo 617 = .ok (.iload 7, 2) := by decide +kernel
theorem dL_isFrameSo_619 : decode cL_isFrameSo 619 = .ok (.ifCond .eq 52, 3) := by decide +kernel
theorem dL_isFrameSo_622 : decode cL_isFrameSo 622 = .ok (.aload_n 0, 1) := by decide +kernel
theorem dL_isFrameSo_623 : decode cL_isFrameSo 623 = .ok (.iload_n 1, 1) := by decide +kernel
theorem dL_isFrameSo_624 : decode cL_isFrameSo 624 = .ok (.bipush 6, 2) := by decide +kernel
theorem dL_isFrameSo_626 : decode cL_isFrameSo 626 = .ok (.invokevirtual 40, 3) := by decide +kernel
theorem dL_isFrameSo_629 : decode cL_isFrameSo 629 = .ok (.iload 13, 2) := by decide +kernel
theorem dL_isFrameSo_631 : decode cL_isFrameSo 631 = .ok (.iload 14, 2) := by decide +kernel
theorem dL_isFrameSo_633 : decode cL_isFrameSo 633 = .ok (.iadd, 1) := by decide +kernel
theorem dL_isFrameSo_634 : decode cL_isFrameSo 634 = .ok (.if_icmp .ne 37, 3) := by decide +kernel
theorem dL_isFrameSo_637 : decode cL_isFrameSo 637 = .ok (.aload_n 0, 1) := by decide +kernel
theorem dL_isFrameSo_638 : decode cL_isFrameSo 638 = .ok (.iload_n 1, 1) := by decide +kernel
theorem dL_isFrameSo_639 : decode cL_isFrameSo 639 = .ok (.bipush 7, 2) := by decide +kernel
theorem dL_isFrameSo_641 : decode cL_isFrameSo 641 = .ok (.invokevirtual 40, 3) := by decide +kernel
theorem dL_isFrameSo_644 : decode cL_isFrameSo 644 = .ok (.iload 13, 2) := by decide +kernel
theorem dL_isFrameSo_646 : decode cL_isFrameSo 646 = .ok (.iload 14, 2) := by decide +kernel
theorem dL_isFrameSo_648 : decode cL_isFrameSo 648 = .ok (.isub, 1) := by decide +kernel
theorem dL_isFrameSo_649 : decode cL_isFrameSo 649 = .ok (.bipush 100, 2) := by decide +kernel
theorem dL_isFrameSo_651 : decode cL_isFrameSo 651 = .ok (.iadd, 1) := by decide +kernel
theorem dL_isFrameSo_652 : decode cL_isFrameSo 652 = .ok (.if_icmp .ne 19, 3) := by decide +kernel
theorem dL_isFrameSo_655 : decode cL_isFrameSo 655 = .ok (.aload_n 0, 1) := by decide +kernel
theorem dL_isFrameSo_656 : decode cL_isFrameSo 656 = .ok (.iload_n 1, 1) := by decide +kernel
theorem dL_isFrameSo_657 : decode cL_isFrameSo 657 = .ok (.bipush 8, 2) := by decide +kernel
theorem dL_isFrameSo_659 : decode cL_isFrameSo 659 = .ok (.invokevirtual 40, 3) := by decide +kernel
theorem dL_isFrameSo_662 : decode cL_isFrameSo 662 = .ok (.iload 12, 2) := by decide +kernel
theorem dL_isFrameSo_664 : decode cL_isFrameSo 664 = .ok (.if_icmp .ne 7, 3) := by decide +kernel
theorem dL_isFrameSo_667 : decode cL_isFrameSo 667 = .ok (.iconst 1, 1) := by decide +kernel
theorem dL_isFrameSo_668 : decode cL_isFrameSo 668 = .ok (.goto 4, 3) := by decide +kernel
theorem dL_isFrameSo_671 : decode cL_isFrameSo 671 = .ok (.iconst 0, 1) := by decide +kernel
theorem dL_isFrameSo_672 : decode cL_isFrameSo 672 = .ok (.ireturn, 1) := by decide +kernel
theorem dL_isWholeSo_0 : decode cL_isWholeSo 0 = .ok (.aload_n 0, 1) := by decide +kernel
theorem dL_isWholeSo_1 : decode cL_isWholeSo 1 = .ok (.iconst 0, 1) := by decide +kernel
theorem dL_isWholeSo_2 : decode cL_isWholeSo 2 = .ok (.invokevirtual 8, 3) := by decide +kernel
theorem dL_isWholeSo_5 : decode cL_isWholeSo 5 = .ok (.istore_n 1, 1) := by decide +kernel
theorem dL_isWholeSo_6 : decode cL_isWholeSo 6 = .ok (.aload_n 0, 1) := by decide +kernel
theorem dL_isWholeSo_7 : decode cL_isWholeSo 7 = .ok (.bipush 10, 2) := by decide +kernel
theorem dL_isWholeSo_9 : decode cL_isWholeSo 9 = .ok (.invokevirtual 8, 3) := by decide +kernel
theorem dL_isWholeSo_12 : decode cL_isWholeSo 12 = .ok (.aload_n 0, 1) := by decide +kernel
theorem dL_isWholeSo_13 : decode cL_isWholeSo 13 = .ok (.bipush 11, 2) := by decide +kernel
theorem dL_isWholeSo_15 : decode cL_isWholeSo 15 = .ok (.invokevirtual 8, 3) := by decide +kernel
theorem dL_isWholeSo_18 : decode cL_isWholeSo 18 = .ok (.iadd, 1) := by decide +kernel
theorem dL_isWholeSo_19 : decode cL_isWholeSo 19 = .ok (.aload_n 0, 1) := by decide +kernel
theorem dL_isWholeSo_20 : decode cL_isWholeSo 20 = .ok (.bipush 12, 2) := by decide +kernel
theorem dL_isWholeSo_22 : decode cL_isWholeSo 22 = .ok (.invokevirtual 8, 3) := by decide +kernel
theorem dL_isWholeSo_25 : decode cL_isWholeSo 25 = .ok (.iadd, 1) := by decide +kernel
theorem dL_isWholeSo_26 : decode cL_isWholeSo 26 = .ok (.aload_n 0, 1) := by decide +kernel
theorem dL_isWholeSo_27 : decode cL_isWholeSo 27 = .ok (.bipush 13, 2) := by decide +kernel
theorem dL_isWholeSo_29 : decode cL_isWholeSo 29 = .ok (.invokevirtual 8, 3) := by decide +kernel
theorem dL_isWholeSo_32 : decode cL_isWholeSo 32 = .ok (.iadd, 1) := by decide +kernel
theorem dL_isWholeSo_33 : decode cL_isWholeSo 33 = .ok (.iload_n 1, 1) := by decide +kernel
theorem dL_isWholeSo_34 : decode cL_isWholeSo 34 = .ok (.if_icmp .ne 95, 3) := by decide +kernel
theorem dL_isWholeSo_37 : decode cL_isWholeSo 37 = .ok (.aload_n 0, 1) := by decide +kernel
theorem dL_isWholeSo_38 : decode cL_isWholeSo 38 = .ok (.iconst 1, 1) := by decide +kernel
theorem dL_isWholeSo_39 : decode cL_isWholeSo 39 = .ok (.invokevirtual 8, 3) := by decide +kernel
theorem dL_isWholeSo_42 : decode cL_isWholeSo 42 = .ok (.iload_n 1, 1) := by decide +kernel
theorem dL_isWholeSo_43 : decode cL_isWholeSo 43 = .ok (.iconst 5, 1) := by decide +kernel
theorem dL_isWholeSo_44 : decode cL_isWholeSo 44 = .ok (.idiv, 1) := by decide +kernel
theorem dL_isWholeSo_45 : decode cL_isWholeSo 45 = .ok (.if_icmp .ne 84, 3) := by decide +kernel
theorem dL_isWholeSo_48 : decode cL_isWholeSo 48 = .ok (.aload_n 0, 1) := by decide +kernel
theorem dL_isWholeSo_49 : decode cL_isWholeSo 49 = .ok (.bipush 14, 2) := by decide +kernel
theorem dL_isWholeSo_51 : decode cL_isWholeSo 51 = .ok (.invokevirtual 8, 3) := by decide +kernel
theorem dL_isWholeSo_54 : decode cL_isWholeSo 54 = .ok (.bipush 40, 2) := by decide +kernel
theorem dL_isWholeSo_56 : decode cL_isWholeSo 56 = .ok (.if_icmp .gt 73, 3) := by decide +kernel
theorem dL_isWholeSo_59 : decode cL_isWholeSo 59 = .ok (.aload_n 0, 1) := by decide +kernel
theorem dL_isWholeSo_60 : decode cL_isWholeSo 60 = .ok (.bipush 8, 2) := by decide +kernel
theorem dL_isWholeSo_62 : decode cL_isWholeSo 62 = .ok (.invokevirtual 8, 3) := by decide +kernel
theorem dL_isWholeSo_65 : decode cL_isWholeSo 65 = .ok (.aload_n 0, 1) := by decide +kernel
theorem dL_isWholeSo_66 : decode cL_isWholeSo 66 = .ok (.bipush 7, 2) := by decide +kernel
theorem dL_isWholeSo_68 : decode cL_isWholeSo 68 = .ok (.invokevirtual 8, 3) := by decide +kernel
theorem dL_isWholeSo_71 : decode cL_isWholeSo 71 = .ok (.if_icmp .gt 58, 3) := by decide +kernel
theorem dL_isWholeSo_74 : decode cL_isWholeSo 74 = .ok (.aload_n 0, 1) := by decide +kernel
theorem dL_isWholeSo_75 : decode cL_isWholeSo 75 = .ok (.bipush 7, 2) := by decide +kernel
theorem dL_isWholeSo_77 : decode cL_isWholeSo 77 = .ok (.invokevirtual 8, 3) := by decide +kernel
theorem dL_isWholeSo_80 : decode cL_isWholeSo 80 = .ok (.aload_n 0, 1) := by decide +kernel
theorem dL_isWholeSo_81 : decode cL_isWholeSo 81 = .ok (.bipush 6, 2) := by decide +kernel
theorem dL_isWholeSo_83 : decode cL_isWholeSo 83 = .ok (.invokevirtual 8, 3) := by decide +kernel
theorem dL_isWholeSo_86 : decode cL_isWholeSo 86 = .ok (.if_icmp .gt 43, 3) := by decide +kernel
theorem dL_isWholeSo_89 : decode cL_isWholeSo 89 = .ok (.aload_n 0, 1) := by decide +kernel
theorem dL_isWholeSo_90 : decode cL_isWholeSo 90 = .ok (.iconst 3, 1) := by decide +kernel
theorem dL_isWholeSo_91 : decode cL_isWholeSo 91 = .ok (.invokevirtual 8, 3) := by decide +kernel
theorem dL_isWholeSo_94 : decode cL_isWholeSo 94 = .ok (.iload_n 1, 1) := by decide +kernel
theorem dL_isWholeSo_95 : decode cL_isWholeSo 95 = .ok (.if_icmp .gt 34, 3) := by decide +kernel
theorem dL_isWholeSo_98 : decode cL_isWholeSo 98 = .ok (.aload_n 0, 1) := by decide +kernel
theorem dL_isWholeSo_99 : decode cL_isWholeSo 99 = .ok (.iconst 2, 1) := by decide +kernel
theorem dL_isWholeSo_100 : decode cL_isWholeSo 100 = .ok (.invokevirtual 8, 3) := by decide +kernel
theorem dL_isWholeSo_103 : decode cL_isWholeSo 103 = .ok (.ifCond .gt 22, 3) := by decide +kernel
theorem dL_isWholeSo_106 : decode cL_isWholeSo 106 = .ok (.aload_n 0, 1) := by decide +kernel
theorem dL_isWholeSo_107 : decode cL_isWholeSo 107 = .ok (.bipush 10, 2) := by decide +kernel
theorem dL_isWholeSo_109 : decode cL_isWholeSo 109 = .ok (.invokevirtual 8, 3) := by decide +kernel
theorem dL_isWholeSo_112 : decode cL_isWholeSo 112 = .ok (.iload_n 1, 1) := by decide +kernel
theorem dL_isWholeSo_113 : decode cL_isWholeSo 113 = .ok (.if_icmp .ne 16, 3) := by decide +kernel
theorem dL_isWholeSo_116 : decode cL_isWholeSo 116 = .ok (.aload_n 0, 1) := by decide +kernel
theorem dL_isWholeSo_117 : decode cL_isWholeSo 117 = .ok (.invokevirtual 50, 3) := by decide +kernel
theorem dL_isWholeSo_120 : decode cL_isWholeSo 120 = .ok (.dconst 1, 1) := by decide +kernel
theorem dL_isWholeSo_121 : decode cL_isWholeSo 121 = .ok (.dcmp .l, 1) := by decide +kernel
theorem dL_isWholeSo_122 : decode cL_isWholeSo 122 = .ok (.ifCond .ne 7, 3) := by decide +kernel
theorem dL_isWholeSo_125 : decode cL_isWholeSo 125 = .ok (.iconst 1, 1) := by decide +kernel
theorem dL_isWholeSo_126 : decode cL_isWholeSo 126 = .ok (.goto 4, 3) := by decide +kernel
theorem dL_isWholeSo_129 : decode cL_isWholeSo 129 = .ok (.iconst 0, 1) := by decide +kernel
theorem dL_isWholeSo_130 : decode cL_isWholeSo 130 = .ok (.istore_n 2, 1) := by decide +kernel
theorem dL_isWholeSo_131 : decode cL_isWholeSo 131 = .ok (.iconst 0, 1) := by decide +kernel
theorem dL_isWholeSo_132 : decode cL_isWholeSo 132 = .ok (.istore_n 3, 1) := by decide +kernel
theorem dL_isWholeSo_133 : decode cL_isWholeSo 133 = .ok (.iconst 0, 1) := by decide +kernel
theorem dL_isWholeSo_134 : decode cL_isWholeSo 134 = .ok (.istore 4, 2) := by decide +kernel
theorem dL_isWholeSo_136 : decode cL_isWholeSo 136 = .ok (.iconst 0, 1) := by decide +kernel
theorem dL_isWholeSo_137 : decode cL_isWholeSo 137 = .ok (.istore 5, 2) := by decide +kernel
theorem dL_isWholeSo_139 : decode cL_isWholeSo 139 = .ok (.iload 5, 2) := by decide +kernel
theorem dL_isWholeSo_141 : decode cL_isWholeSo 141 = .ok (.bipush 30, 2) := by decide +kernel
theorem dL_isWholeSo_143 : decode cL_isWholeSo 143 = .ok (.if_icmp .ge 78, 3) := by decide +kernel
theorem dL_isWholeSo_146 : decode cL_isWholeSo 146 = .ok (.iload_n 2, 1) := by decide +kernel
theorem dL_isWholeSo_147 : decode cL_isWholeSo 147 = .ok (.ifCond .eq 44, 3) := by decide +kernel
theorem dL_isWholeSo_150 : decode cL_isWholeSo 150 = .ok (.aload_n 0, 1) := by decide +kernel
theorem dL_isWholeSo_151 : decode cL_isWholeSo 151 = .ok (.iload 5, 2) := by decide +kernel
theorem dL_isWholeSo_153 : decode cL_isWholeSo 153 = .ok (.iconst 1, 1) := by decide +kernel
theorem dL_isWholeSo_154 : decode cL_isWholeSo 154 = .ok (.invokevirtual 43, 3) := by decide +kernel
theorem dL_isWholeSo_157 : decode cL_isWholeSo 157 = .ok (.iload_n 3, 1) := by decide +kernel
theorem dL_isWholeSo_158 : decode cL_isWholeSo 158 = .ok (.if_icmp .ne 33, 3) := by decide +kernel
theorem dL_isWholeSo_161 : decode cL_isWholeSo 161 = .ok (.aload_n 0, 1) := by decide +kernel
theorem dL_isWholeSo_162 : decode cL_isWholeSo 162 = .ok (.iload 5, 2) := by decide +kernel
theorem dL_isWholeSo_164 : decode cL_isWholeSo 164 = .ok (.iconst 0, 1) := by decide +kernel
theorem dL_isWholeSo_165 : decode cL_isWholeSo 165 = .ok (.invokevirtual 43, 3) := by decide +kernel
theorem dL_isWholeSo_168 : decode cL_isWholeSo 168 = .ok (.aload_n 0, 1) := by decide +kernel
theorem dL_isWholeSo_169 : decode cL_isWholeSo 169 = .ok (.bipush 17, 2) := by decide +kernel
theorem dL_isWholeSo_171 : decode cL_isWholeSo 171 = .ok (.invokevirtual 8, 3) := by decide +kernel
theorem dL_isWholeSo_174 : decode cL_isWholeSo 174 = .ok (.iload 5, 2) := by decide +kernel
theorem dL_isWholeSo_176 : decode cL_isWholeSo 176 = .ok (.aload_n 0, 1) := by decide +kernel
theorem dL_isWholeSo_177 : decode cL_isWholeSo 177 = .ok (.bipush 18, 2) := by decide +kernel
theorem dL_isWholeSo_179 : decode cL_isWholeSo 179 = .ok (.invokevirtual 8, 3) := by decide +kernel
theorem dL_isWholeSo_182 : decode cL_isWholeSo 182 = .ok (.imul, 1) := by decide +kernel
theorem dL_isWholeSo_183 : decode cL_isWholeSo 183 = .ok (.iadd, 1) := by decide +kernel
theorem dL_isWholeSo_184 : decode cL_isWholeSo 184 = .ok (.if_icmp .ne 7, 3) := by decide +kernel
theorem dL_isWholeSo_187 : decode cL_isWholeSo 187 = .ok (.iconst 1, 1) := by decide +kernel
theorem dL_isWholeSo_188 : decode cL_isWholeSo 188 = .ok (.goto 4, 3) := by decide +kernel
theorem dL_isWholeSo_191 : decode cL_isWholeSo 191 = .ok (.iconst 0, 1) := by decide +kernel
theorem dL_isWholeSo_192 : decode cL_isWholeSo 192 = .ok (.istore_n 2, 1) := by decide +kernel
theorem dL_isWholeSo_193 : decode cL_isWholeSo 193 = .ok (.iload_n 3, 1) := by decide +kernel
theorem dL_isWholeSo_194 : decode cL_isWholeSo 194 = .ok (.aload_n 0, 1) := by decide +kernel
theorem dL_isWholeSo_195 : decode cL_isWholeSo 195 = .ok (.iload 5, 2) := by decide +kernel
theorem dL_isWholeSo_197 : decode cL_isWholeSo 197 = .ok (.iconst 0, 1) := by decide +kernel
theorem dL_isWholeSo_198 : decode cL_isWholeSo 198 = .ok (.invokevirtual 43, 3) := by decide +kernel
theorem dL_isWholeSo_201 : decode cL_isWholeSo 201 = .ok (.iadd, 1) := by decide +kernel
theorem dL_isWholeSo_202 : decode cL_isWholeSo 202 = .ok (.istore_n 3, 1) := by decide +kernel
theorem dL_isWholeSo_203 : decode cL_isWholeSo 203 = .ok (.iload 4, 2) := by decide +kernel
theorem dL_isWholeSo_205 : decode cL_isWholeSo 205 = .ok (.aload_n 0, 1) := by decide +kernel
theorem dL_isWholeSo_206 : decode cL_isWholeSo 206 = .ok (.iload 5, 2) := by decide +kernel
theorem dL_isWholeSo_208 : decode cL_isWholeSo 208 = .ok (.iconst 2, 1) := by decide +kernel
theorem dL_isWholeSo_209 : decode cL_isWholeSo 209 = .ok (.invokevirtual 43, 3) := by decide +kernel
theorem dL_isWholeSo_212 : decode cL_isWholeSo 212 = .ok (.iadd, 1) := by decide +kernel
theorem dL_isWholeSo_213 : decode cL_isWholeSo 213 = .ok (.istore 4, 2) := by decide +kernel
theorem dL_isWholeSo_215 : decode cL_isWholeSo 215 = .ok (.iinc 5 1, 3) := by decide +kernel
theorem dL_isWholeSo_218 : decode cL_isWholeSo 218 = .ok (.goto (-79), 3) := by decide +kernel
theorem dL_isWholeSo_221 : decode cL_isWholeSo 221 = .ok (.iload_n 2, 1) := by decide +kernel
theorem dL_isWholeSo_222 : decode cL_isWholeSo 222 = .ok (.ifCond .eq 63, 3) := by decide +kernel
theorem dL_isWholeSo_225 : decode cL_isWholeSo 225 = .ok (.iload_n 3, 1) := by decide +kernel
theorem dL_isWholeSo_226 : decode cL_isWholeSo 226 = .ok (.iload_n 1, 1) := by decide +kernel
theorem dL_isWholeSo_227 : decode cL_isWholeSo 227 = .ok (.if_icmp .ne 58, 3) := by decide +kernel
theorem dL_isWholeSo_230 : decode cL_isWholeSo 230 = .ok (.iload 4, 2) := by decide +kernel
theorem dL_isWholeSo_232 : decode cL_isWholeSo 232 = .ok (.iload_n 1, 1) := by decide +kernel
theorem dL_isWholeSo_233 : decode cL_isWholeSo 233 = .ok (.aload_n 0, 1) := by decide +kernel
theorem dL_isWholeSo_234 : decode cL_isWholeSo 234 = .ok (.bipush 10, 2) := by decide +kernel
theorem dL_isWholeSo_236 : decode cL_isWholeSo 236 = .ok (.invokevirtual 8, 3) := by decide +kernel
theorem dL_isWholeSo_239 : decode cL_isWholeSo 239 = .ok (.isub, 1) := by decide +kernel
theorem dL_isWholeSo_240 : decode cL_isWholeSo 240 = .ok (.if_icmp .ne 45, 3) := by decide +kernel
theorem dL_isWholeSo_243 : decode cL_isWholeSo 243 = .ok (.aload_n 0, 1) := by decide +kernel
theorem dL_isWholeSo_244 : decode cL_isWholeSo 244 = .ok (.iconst 5, 1) := by decide +kernel
theorem dL_isWholeSo_245 : decode cL_isWholeSo 245 = .ok (.invokevirtual 8, 3) := by decide +kernel
theorem dL_isWholeSo_248 : decode cL_isWholeSo 248 = .ok (.aload_n 0, 1) := by decide +kernel
theorem dL_isWholeSo_249 : decode cL_isWholeSo 249 = .ok (.bipush 17, 2) := by decide +kernel
theorem dL_isWholeSo_251 : decode cL_isWholeSo 251 = .ok (.invokevirtual 8, 3) := by decide +kernel
theorem dL_isWholeSo_254 : decode cL_isWholeSo 254 = .ok (.if_icmp .lt 31, 3) := by decide +kernel
theorem dL_isWholeSo_257 : decode cL_isWholeSo 257 = .ok (.aload_n 0, 1) := by decide +kernel
theorem dL_isWholeSo_258 : decode cL_isWholeSo 258 = .ok (.iconst 5, 1) := by decide +kernel
theorem dL_isWholeSo_259 : decode cL_isWholeSo 259 = .ok (.invokevirtual 8, 3) := by decide +kernel
theorem dL_isWholeSo_262 : decode cL_isWholeSo 262 = .ok (.aload_n 0, 1) := by decide +kernel
theorem dL_isWholeSo_263 : decode cL_isWholeSo 263 = .ok (.bipush 17, 2) := by decide +kernel
theorem dL_isWholeSo_265 : decode cL_isWholeSo 265 = .ok (.invokevirtual 8, 3) := by decide +kernel
theorem dL_isWholeSo_268 : decode cL_isWholeSo 268 = .ok (.bipush 29, 2) := by decide +kernel
theorem dL_isWholeSo_270 : decode cL_isWholeSo 270 = .ok (.aload_n 0, 1) := by decide +kernel
theorem dL_isWholeSo_271 : decode cL_isWholeSo 271 = .ok (.bipush 18, 2) := by decide +kernel
theorem dL_isWholeSo_273 : decode cL_isWholeSo 273 = .ok (.invokevirtual 8, 3) := by decide +kernel
theorem dL_isWholeSo_276 : decode cL_isWholeSo 276 = .ok (.imul, 1) := by decide +kernel
theorem dL_isWholeSo_277 : decode cL_isWholeSo 277 = .ok (.iadd, 1) := by decide +kernel
theorem dL_isWholeSo_278 : decode cL_isWholeSo 278 = .ok (.if_icmp .gt 7, 3) := by decide +kernel
theorem dL_isWholeSo_281 : decode cL_isWholeSo 281 = .ok (.iconst 1, 1) := by decide +kernel
theorem dL_isWholeSo_282 : decode cL_isWholeSo 282 = .ok (.goto 4, 3) := by decide +kernel
theorem dL_isWholeSo_285 : decode cL_isWholeSo 285 = .ok (.iconst 0, 1) := by decide +kernel
theorem dL_isWholeSo_286 : decode cL_isWholeSo 286 = .ok (.ireturn, 1) := by decide +kernel
theorem dL_isGapSo_0 : decode cL_isGapSo 0 = .ok (.bipush (-5), 2) := by decide +kernel
theorem dL_isGapSo_2 : decode cL_isGapSo 2 = .ok (.istore_n 1, 1) := by decide +kernel
theorem dL_isGapSo_3 : decode cL_isGapSo 3 = .ok (.iconst 0, 1) := by decide +kernel
theorem dL_isGapSo_4 : decode cL_isGapSo 4 = .ok (.istore_n 2, 1) := by decide +kernel
theorem dL_isGapSo_5 : decode cL_isGapSo 5 = .ok (.iconst 0, 1) := by decide +kernel
theorem dL_isGapSo_6 : decode cL_isGapSo 6 = .ok (.istore_n 3, 1) := by decide +kernel
theorem dL_isGapSo_7 : decode cL_isGapSo 7 = .ok (.iconst 0, 1) := by decide +kernel
theorem dL_isGapSo_8 : decode cL_isGapSo 8 = .ok (.istore 4, 2) := by decide +kernel
theorem dL_isGapSo_10 : decode cL_isGapSo 10 = .ok (.iconst 0, 1) := by decide +kernel
theorem dL_isGapSo_11 : decode cL_isGapSo 11 = .ok (.istore 5, 2) := by decide +kernel
theorem dL_isGapSo_13 : decode cL_isGapSo 13 = .ok (.iload 5, 2) := by decide +kernel
theorem dL_isGapSo_15 : decode cL_isGapSo 15 = .ok (.aload_n 0, 1) := by decide +kernel
theorem dL_isGapSo_16 : decode cL_isGapSo 16 = .ok (.iconst 0, 1) := by decide +kernel
theorem dL_isGapSo_17 : decode cL_isGapSo 17 = .ok (.invokevirtual 8, 3) := by decide +kernel
theorem dL_isGapSo_20 : decode cL_isGapSo 20 = .ok (.if_icmp .ge 82, 3) := by decide +kernel
theorem dL_isGapSo_23 : decode cL_isGapSo 23 = .ok (.aload_n 0, 1) := by decide +kernel
theorem dL_isGapSo_24 : decode cL_isGapSo 24 = .ok (.iload 5, 2) := by decide +kernel
theorem dL_isGapSo_26 : decode cL_isGapSo 26 = .ok (.iconst 5, 1) := by decide +kernel
theorem dL_isGapSo_27 : decode cL_isGapSo 27 = .ok (.invokevirtual 40, 3) := by decide +kernel
theorem dL_isGapSo_30 : decode cL_isGapSo 30 = .ok (.iconst 3, 1) := by decide +kernel
theorem dL_isGapSo_31 : decode cL_isGapSo 31 = .ok (.if_icmp .ne 7, 3) := by decide +kernel
theorem dL_isGapSo_34 : decode cL_isGapSo 34 = .ok (.iconst 1, 1) := by decide +kernel
theorem dL_isGapSo_35 : decode cL_isGapSo 35 = .ok (.goto 4, 3) := by decide +kernel
theorem dL_isGapSo_38 : decode cL_isGapSo 38 = .ok (.iconst 0, 1) := by decide +kernel
theorem dL_isGapSo_39 : decode cL_isGapSo 39 = .ok (.istore 6, 2) := by decide +kernel
theorem dL_isGapSo_41 : decode cL_isGapSo 41 = .ok (.iload 4, 2) := by decide +kernel
theorem dL_isGapSo_43 : decode cL_isGapSo 43 = .ok (.iload 6, 2) := by decide +kernel
theorem dL_isGapSo_45 : decode cL_isGapSo 45 = .ok (.ifCond .eq 7, 3) := by decide +kernel
theorem dL_isGapSo_48 : decode cL_isGapSo 48 = .ok (.iconst 1, 1) := by decide +kernel
theorem dL_isGapSo_49 : decode cL_isGapSo 49 = .ok (.goto 4, 3) := by decide +kernel
theorem dL_isGapSo_52 : decode cL_isGapSo 52 = .ok (.iconst 0, 1) := by decide +kernel
theorem dL_isGapSo_53 : decode cL_isGapSo 53 = .ok (.iadd, 1) := by decide +kernel
theorem dL_isGapSo_54 : decode cL_isGapSo 54 = .ok (.istore 4, 2) := by decide +kernel
theorem dL_isGapSo_56 : decode cL_isGapSo 56 = .ok (.iload 6, 2) := by decide +kernel
theorem dL_isGapSo_58 : decode cL_isGapSo 58 = .ok (.ifCond .eq 9, 3) := by decide +kernel
theorem dL_isGapSo_61 : decode cL_isGapSo 61 = .ok (.iload_n 3, 1) := by decide +kernel
theorem dL_isGapSo_62 : decode cL_isGapSo 62 = .ok (.iconst 1, 1) := by decide +kernel
theorem dL_isGapSo_63 : decode cL_isGapSo 63 = .ok (.iadd, 1) := by decide +kernel
theorem dL_isGapSo_64 : decode cL_isGapSo 64 = .ok (.goto 4, 3) := by decide +kernel
theorem dL_isGapSo_67 : decode cL_isGapSo 67 = .ok (.iconst 0, 1) := by decide +kernel
theorem dL_isGapSo_68 : decode cL_isGapSo 68 = .ok (.istore_n 3, 1) := by decide +kernel
theorem dL_isGapSo_69 : decode cL_isGapSo 69 = .ok (.iload_n 3, 1) := by decide +kernel
theorem dL_isGapSo_70 : decode cL_isGapSo 70 = .ok (.iload_n 2, 1) := by decide +kernel
theorem dL_isGapSo_71 : decode cL_isGapSo 71 = .ok (.if_icmp .le 12, 3) := by decide +kernel
theorem dL_isGapSo_74 : decode cL_isGapSo 74 = .ok (.iload 5, 2) := by decide +kernel
theorem dL_isGapSo_76 : decode cL_isGapSo 76 = .ok (.iload_n 3, 1) := by decide +kernel
theorem dL_isGapSo_77 : decode cL_isGapSo 77 = .ok (.isub, 1) := by decide +kernel
theorem dL_isGapSo_78 : decode cL_isGapSo 78 = .ok (.iconst 1, 1) := by decide +kernel
theorem dL_isGapSo_79 : decode cL_isGapSo 79 = .ok (.iadd, 1) := by decide +kernel
theorem dL_isGapSo_80 : decode cL_isGapSo 80 = .ok (.goto 4, 3) := by decide +kernel
theorem dL_isGapSo_83 : decode cL_isGapSo 83 = .ok (.iload_n 1, 1) := by decide +kernel
theorem dL_isGapSo_84 : decode cL_isGapSo 84 = .ok (.istore_n 1, 1) := by decide +kernel
theorem dL_isGapSo_85 : decode cL_isGapSo 85 = .ok (.iload_n 3, 1) := by decide +kernel
theorem dL_isGapSo_86 : decode cL_isGapSo 86 = .ok (.iload_n 2, 1) := by decide +kernel
theorem dL_isGapSo_87 : decode cL_isGapSo 87 = .ok (.if_icmp .le 7, 3) := by decide +kernel
theorem dL_isGapSo_90 : decode cL_isGapSo 90 = .ok (.iload_n 3, 1) := by decide +kernel
theorem dL_isGapSo_91 : decode cL_isGapSo 91 = .ok (.goto 4, 3) := by decide +kernel
theorem dL_isGapSo_94 : decode cL_isGapSo 94 = .ok (.iload_n 2, 1) := by decide +kernel
theorem dL_isGapSo_95 : decode cL_isGapSo 95 = .ok (.istore_n 2, 1) := by decide +kernel
theorem dL_isGapSo_96 : decode cL_isGapSo 96 = .ok (.iinc 5 1, 3) := by decide +kernel
theorem dL_isGapSo_99 : decode cL_isGapSo 99 = .ok (.goto (-86), 3) := by decide +kernel
theorem dL_isGapSo_102 : decode cL_isGapSo 102 = .ok (.iload 4, 2) := by decide +kernel
theorem dL_isGapSo_104 : decode cL_isGapSo 104 = .ok (.aload_n 0, 1) := by decide +kernel
theorem dL_isGapSo_105 : decode cL_isGapSo 105 = .ok (.bipush 13, 2) := by decide +kernel
theorem dL_isGapSo_107 : decode cL_isGapSo 107 = .ok (.invokevirtual 8, 3) := by decide +kernel
theorem dL_isGapSo_110 : decode cL_isGapSo 110 = .ok (.if_icmp .ne 34, 3) := by decide +kernel
theorem dL_isGapSo_113 : decode cL_isGapSo 113 = .ok (.aload_n 0, 1) := by decide +kernel
theorem dL_isGapSo_114 : decode cL_isGapSo 114 = .ok (.iconst 0, 1) := by decide +kernel
theorem dL_isGapSo_115 : decode cL_isGapSo 115 = .ok (.invokevirtual 54, 3) := by decide +kernel
theorem dL_isGapSo_118 : decode cL_isGapSo 118 = .ok (.iload_n 1, 1) := by decide +kernel
theorem dL_isGapSo_119 : decode cL_isGapSo 119 = .ok (.if_icmp .ne 25, 3) := by decide +kernel
theorem dL_isGapSo_122 : decode cL_isGapSo 122 = .ok (.aload_n 0, 1) := by decide +kernel
theorem dL_isGapSo_123 : decode cL_isGapSo 123 = .ok (.iconst 1, 1) := by decide +kernel
theorem dL_isGapSo_124 : decode cL_isGapSo 124 = .ok (.invokevirtual 54, 3) := by decide +kernel
theorem dL_isGapSo_127 : decode cL_isGapSo 127 = .ok (.iload_n 2, 1) := by decide +kernel
theorem dL_isGapSo_128 : decode cL_isGapSo 128 = .ok (.ifCond .ne 8, 3) := by decide +kernel
theorem dL_isGapSo_131 : decode cL_isGapSo 131 = .ok (.bipush (-5), 2) := by decide +kernel
theorem dL_isGapSo_133 : decode cL_isGapSo 133 = .ok (.goto 4, 3) := by decide +kernel
theorem dL_isGapSo_136 : decode cL_isGapSo 136 = .ok (.iload_n 2, 1) := by decide +kernel
theorem dL_isGapSo_137 : decode cL_isGapSo 137 = .ok (.if_icmp .ne 7, 3) := by decide +kernel
theorem dL_isGapSo_140 : decode cL_isGapSo 140 = .ok (.iconst 1, 1) := by decide +kernel
theorem dL_isGapSo_141 : decode cL_isGapSo 141 = .ok (.goto 4, 3) := by decide +kernel
theorem dL_isGapSo_144 : decode cL_isGapSo 144 = .ok (.iconst 0, 1) := by decide +kernel
theorem dL_isGapSo_145 : decode cL_isGapSo 145 = .ok (.ireturn, 1) := by decide +kernel
theorem dL_isSeekSo_0 : decode cL_isSeekSo 0 = .ok (.aload_n 0, 1) := by decide +kernel
theorem dL_isSeekSo_1 : decode cL_isSeekSo 1 = .ok (.iload_n 1, 1) := by decide +kernel
theorem dL_isSeekSo_2 : decode cL_isSeekSo 2 = .ok (.iconst 0, 1) := by decide +kernel
theorem dL_isSeekSo_3 : decode cL_isSeekSo 3 = .ok (.invokevirtual 57, 3) := by decide +kernel
theorem dL_isSeekSo_6 : decode cL_isSeekSo 6 = .ok (.istore_n 3, 1) := by decide +kernel
theorem dL_isSeekSo_7 : decode cL_isSeekSo 7 = .ok (.aload_n 0, 1) := by decide +kernel
theorem dL_isSeekSo_8 : decode cL_isSeekSo 8 = .ok (.iload_n 1, 1) := by decide +kernel
theorem dL_isSeekSo_9 : decode cL_isSeekSo 9 = .ok (.iconst 1, 1) := by decide +kernel
theorem dL_isSeekSo_10 : decode cL_isSeekSo 10 = .ok (.invokevirtual 57, 3) := by decide +kernel
theorem dL_isSeekSo_13 : decode cL_isSeekSo 13 = .ok (.istore 4, 2) := by decide +kernel
theorem dL_isSeekSo_15 : decode cL_isSeekSo 15 = .ok (.aload_n 0, 1) := by decide +kernel
theorem dL_isSeekSo_16 : decode cL_isSeekSo 16 = .ok (.iload_n 1, 1) := by decide +kernel
theorem dL_isSeekSo_17 : decode cL_isSeekSo 17 = .ok (.invokevirtual 60, 3) := by decide +kernel
theorem dL_isSeekSo_20 : decode cL_isSeekSo 20 = .ok (.istore 5, 2) := by decide +kernel
theorem dL_isSeekSo_22 : decode cL_isSeekSo 22 = .ok (.aload_n 0, 1) := by decide +kernel
theorem dL_isSeekSo_23 : decode cL_isSeekSo 23 = .ok (.bipush 21, 2) := by decide +kernel
theorem dL_isSeekSo_25 : decode cL_isSeekSo 25 = .ok (.invokevirtual 8, 3) := by decide +kernel
theorem dL_isSeekSo_28 : decode cL_isSeekSo 28 = .ok (.istore 6, 2) := by decide +kernel
theorem dL_isSeekSo_30 : decode cL_isSeekSo 30 = .ok (.aload_n 0, 1) := by decide +kernel
theorem dL_isSeekSo_31 : decode cL_isSeekSo 31 = .ok (.bipush 6, 2) := by decide +kernel
theorem dL_isSeekSo_33 : decode cL_isSeekSo 33 = .ok (.invokevirtual 8, 3) := by decide +kernel
theorem dL_isSeekSo_36 : decode cL_isSeekSo 36 = .ok (.istore 7, 2) := by decide +kernel
theorem dL_isSeekSo_38 : decode cL_isSeekSo 38 = .ok (.aload_n 0, 1) := by decide +kernel
theorem dL_isSeekSo_39 : decode cL_isSeekSo 39 = .ok (.bipush 9, 2) := by decide +kernel
theorem dL_isSeekSo_41 : decode cL_isSeekSo 41 = .ok (.invokevirtual 8, 3) := by decide +kernel
theorem dL_isSeekSo_44 : decode cL_isSeekSo 44 = .ok (.istore 8, 2) := by decide +kernel
theorem dL_isSeekSo_46 : decode cL_isSeekSo 46 = .ok (.iload 5, 2) := by decide +kernel
theorem dL_isSeekSo_48 : decode cL_isSeekSo 48 = .ok (.bipush 60, 2) := by decide +kernel
theorem dL_isSeekSo_50 : decode cL_isSeekSo 50 = .ok (.if_icmp .lt 74, 3) := by decide +kernel
theorem dL_isSeekSo_53 : decode cL_isSeekSo 53 = .ok (.iload 5, 2) := by decide +kernel
theorem dL_isSeekSo_55 : decode cL_isSeekSo 55 = .ok (.sipush 140, 3) := by decide +kernel
theorem dL_isSeekSo_58 : decode cL_isSeekSo 58 = .ok (.if_icmp .gt 66, 3) := by decide +kernel
theorem dL_isSeekSo_61 : decode cL_isSeekSo 61 = .ok (.aload_n 0, 1) := by decide +kernel
theorem dL_isSeekSo_62 : decode cL_isSeekSo 62 = .ok (.iload_n 1, 1) := by decide +kernel
theorem dL_isSeekSo_63 : decode cL_isSeekSo 63 = .ok (.invokevirtual 37, 3) := by decide +kernel
theorem dL_isSeekSo_66 : decode cL_isSeekSo 66 = .ok (.iload_n 3, 1) := by decide +kernel
theorem dL_isSeekSo_67 : decode cL_isSeekSo 67 = .ok (.if_icmp .ne 57, 3) := by decide +kernel
theorem dL_isSeekSo_70 : decode cL_isSeekSo 70 = .ok (.aload_n 0, 1) := by decide +kernel
theorem dL_isSeekSo_71 : decode cL_isSeekSo 71 = .ok (.iconst 3, 1) := by decide +kernel
theorem dL_isSeekSo_72 : decode cL_isSeekSo 72 = .ok (.invokevirtual 8, 3) := by decide +kernel
theorem dL_isSeekSo_75 : decode cL_isSeekSo 75 = .ok (.iload_n 1, 1) := by decide +kernel
theorem dL_isSeekSo_76 : decode cL_isSeekSo 76 = .ok (.if_icmp .ne 48, 3) := by decide +kernel
theorem dL_isSeekSo_79 : decode cL_isSeekSo 79 = .ok (.aload_n 0, 1) := by decide +kernel
theorem dL_isSeekSo_80 : decode cL_isSeekSo 80 = .ok (.iconst 4, 1) := by decide +kernel
theorem dL_isSeekSo_81 : decode cL_isSeekSo 81 = .ok (.invokevirtual 8, 3) := by decide +kernel
theorem dL_isSeekSo_84 : decode cL_isSeekSo 84 = .ok (.aload_n 0, 1) := by decide +kernel
theorem dL_isSeekSo_85 : decode cL_isSeekSo 85 = .ok (.iload_n 1, 1) := by decide +kernel
theorem dL_isSeekSo_86 : decode cL_isSeekSo 86 = .ok (.iconst 0, 1) := by decide +kernel
theorem dL_isSeekSo_87 : decode cL_isSeekSo 87 = .ok (.invokevirtual 40, 3) := by decide +kernel
theorem dL_isSeekSo_90 : decode cL_isSeekSo 90 = .ok (.if_icmp .ne 34, 3) := by decide +kernel
theorem dL_isSeekSo_93 : decode cL_isSeekSo 93 = .ok (.aload_n 0, 1) := by decide +kernel
theorem dL_isSeekSo_94 : decode cL_isSeekSo 94 = .ok (.bipush 6, 2) := by decide +kernel
theorem dL_isSeekSo_96 : decode cL_isSeekSo 96 = .ok (.invokevirtual 8, 3) := by decide +kernel
theorem dL_isSeekSo_99 : decode cL_isSeekSo 99 = .ok (.iload 7, 2) := by decide +kernel
theorem dL_isSeekSo_101 : decode cL_isSeekSo 101 = .ok (.iload_n 3, 1) := by decide +kernel
theorem dL_isSeekSo_102 : decode cL_isSeekSo 102 = .ok (.iadd, 1) := by decide +kernel
theorem dL_isSeekSo_103 : decode cL_isSeekSo 103 = .ok (.if_icmp .ne 21, 3) := by decide +kernel
theorem dL_isSeekSo_106 : decode cL_isSeekSo 106 = .ok (.aload_n 0, 1) := by decide +kernel
theorem dL_isSeekSo_107 : decode cL_isSeekSo 107 = .ok (.bipush 9, 2) := by decide +kernel
theorem dL_isSeekSo_109 : decode cL_isSeekSo 109 = .ok (.invokevirtual 8, 3) := by decide +kernel
theorem dL_isSeekSo_112 : decode cL_isSeekSo 112 = .ok (.iload 8, 2) := by decide +kernel
theorem dL_isSeekSo_114 : decode cL_isSeekSo 114 = .ok (.iload 4, 2) := by decide +kernel
theorem dL_isSeekSo_116 : decode cL_isSeekSo 116 = .ok (.iadd, 1) := by decide +kernel
theorem dL_isSeekSo_117 : decode cL_isSeekSo 117 = .ok (.if_icmp .ne 7, 3) := by decide +kernel
theorem dL_isSeekSo_120 : decode cL_isSeekSo 120 = .ok (.iconst 1, 1) := by decide +kernel
theorem dL_isSeekSo_121 : decode cL_isSeekSo 121 = .ok (.goto 4, 3) := by decide +kernel
theorem dL_isSeekSo_124 : decode cL_isSeekSo 124 = .ok (.iconst 0, 1) := by decide +kernel
theorem dL_isSeekSo_125 : decode cL_isSeekSo 125 = .ok (.istore 9, 2) := by decide +kernel
theorem dL_isSeekSo_127 : decode cL_isSeekSo 127 = .ok (.aload_n 0, 1) := by decide +kernel
theorem dL_isSeekSo_128 : decode cL_isSeekSo 128 = .ok (.invokevirtual 63, 3) := by decide +kernel
theorem dL_isSeekSo_131 : decode cL_isSeekSo 131 = .ok (.istore 10, 2) := by decide +kernel
theorem dL_isSeekSo_133 : decode cL_isSeekSo 133 = .ok (.aload_n 0, 1) := by decide +kernel
theorem dL_isSeekSo_134 : decode cL_isSeekSo 134 = .ok (.iconst 4, 1) := by decide +kernel
theorem dL_isSeekSo_135 : decode cL_isSeekSo 135 = .ok (.iload 5, 2) := by decide +kernel
theorem dL_isSeekSo_137 : decode cL_isSeekSo 137 = .ok (.invokevirtual 31, 3) := by decide +kernel
theorem dL_isSeekSo_140 : decode cL_isSeekSo 140 = .ok (.istore 11, 2) := by decide +kernel
theorem dL_isSeekSo_142 : decode cL_isSeekSo 142 = .ok (.aload_n 0, 1) := by decide +kernel
theorem dL_isSeekSo_143 : decode cL_isSeekSo 143 = .ok (.iload_n 1, 1) := by decide +kernel
theorem dL_isSeekSo_144 : decode cL_isSeekSo 144 = .ok (.iconst 0, 1) := by decide +kernel
theorem dL_isSeekSo_145 : decode cL_isSeekSo 145 = .ok (.invokevirtual 57, 3) := by decide +kernel
theorem dL_isSeekSo_148 : decode cL_isSeekSo 148 = .ok (.istore 12, 2) := by decide +kernel
theorem dL_isSeekSo_150 : decode cL_isSeekSo 150 = .ok (.iload 11, 2) := by decide +kernel
theorem dL_isSeekSo_152 : decode cL_isSeekSo 152 = .ok (.ifCond .lt 10, 3) := by decide +kernel
theorem dL_isSeekSo_155 : decode cL_isSeekSo 155 = .ok (.aload_n 0, 1) := by decide +kernel
theorem dL_isSeekSo_156 : decode cL_isSeekSo 156 = .ok (.invokevirtual 63, 3) := by decide +kernel
theorem dL_isSeekSo_159 : decode cL_isSeekSo 159 = .ok (.goto 5, 3) := by decide +kernel
theorem dL_isSeekSo_162 : decode cL_isSeekSo 162 = .ok (.iload 10, 2) := by decide +kernel
theorem dL_isSeekSo_164 : decode cL_isSeekSo 164 = .ok (.istore 10, 2) := by decide +kernel
theorem dL_isSeekSo_166 : decode cL_isSeekSo 166 = .ok (.aload_n 0, 1) := by decide +kernel
theorem dL_isSeekSo_167 : decode cL_isSeekSo 167 = .ok (.iconst 4, 1) := by decide +kernel
theorem dL_isSeekSo_168 : decode cL_isSeekSo 168 = .ok (.iload_n 2, 1) := by decide +kernel
theorem dL_isSeekSo_169 : decode cL_isSeekSo 169 = .ok (.invokevirtual 31, 3) := by decide +kernel
theorem dL_isSeekSo_172 : decode cL_isSeekSo 172 = .ok (.istore 11, 2) := by decide +kernel
theorem dL_isSeekSo_174 : decode cL_isSeekSo 174 = .ok (.aload_n 0, 1) := by decide +kernel
theorem dL_isSeekSo_175 : decode cL_isSeekSo 175 = .ok (.iload_n 1, 1) := by decide +kernel
theorem dL_isSeekSo_176 : decode cL_isSeekSo 176 = .ok (.iconst 0, 1) := by decide +kernel
theorem dL_isSeekSo_177 : decode cL_isSeekSo 177 = .ok (.invokevirtual 57, 3) := by decide +kernel
theorem dL_isSeekSo_180 : decode cL_isSeekSo 180 = .ok (.istore 13, 2) := by decide +kernel
theorem dL_isSeekSo_182 : decode cL_isSeekSo 182 = .ok (.iload 11, 2) := by decide +kernel
theorem dL_isSeekSo_184 : decode cL_isSeekSo 184 = .ok (.ifCond .lt 10, 3) := by decide +kernel
theorem dL_isSeekSo_187 : decode cL_isSeekSo 187 = .ok (.aload_n 0, 1) := by decide +kernel
theorem dL_isSeekSo_188 : decode cL_isSeekSo 188 = .ok (.invokevirtual 63, 3) := by decide +kernel
theorem dL_isSeekSo_191 : decode cL_isSeekSo 191 = .ok (.goto 5, 3) := by decide +kernel
theorem dL_isSeekSo_194 : decode cL_isSeekSo 194 = .ok (.iload 10, 2) := by decide +kernel
theorem dL_isSeekSo_196 : decode cL_isSeekSo 196 = .ok (.istore 10, 2) := by decide +kernel
theorem dL_isSeekSo_198 : decode cL_isSeekSo 198 = .ok (.iload 9, 2) := by decide +kernel
theorem dL_isSeekSo_200 : decode cL_isSeekSo 200 = .ok (.ifCond .eq 60, 3) := by decide +kernel
theorem dL_isSeekSo_203 : decode cL_isSeekSo 203 = .ok (.iload 10, 2) := by decide +kernel
theorem dL_isSeekSo_205 : decode cL_isSeekSo 205 = .ok (.ifCond .lt 55, 3) := by decide +kernel
theorem dL_isSeekSo_208 : decode cL_isSeekSo 208 = .ok (.iload 12, 2) := by decide +kernel
theorem dL_isSeekSo_210 : decode cL_isSeekSo 210 = .ok (.iload_n 3, 1) := by decide +kernel
theorem dL_isSeekSo_211 : decode cL_isSeekSo 211 = .ok (.if_icmp .gt 49, 3) := by decide +kernel
theorem dL_isSeekSo_214 : decode cL_isSeekSo 214 = .ok (.iload 12, 2) := by decide +kernel
theorem dL_isSeekSo_216 : decode cL_isSeekSo 216 = .ok (.iload 13, 2) := by decide +kernel
theorem dL_isSeekSo_218 : decode cL_isSeekSo 218 = .ok (.if_icmp .gt 42, 3) := by decide +kernel
theorem dL_isSeekSo_221 : decode cL_isSeekSo 221 = .ok (.iload 13, 2) := by decide +kernel
theorem dL_isSeekSo_223 : decode cL_isSeekSo 223 = .ok (.iload 12, 2) := by decide +kernel
theorem dL_isSeekSo_225 : decode cL_isSeekSo 225 = .ok (.if_icmp .gt 9, 3) := by decide +kernel
theorem dL_isSeekSo_228 : decode cL_isSeekSo 228 = .ok (.iload_n 2, 1) := by decide +kernel
theorem dL_isSeekSo_229 : decode cL_isSeekSo 229 = .ok (.iload 5, 2) := by decide +kernel
theorem dL_isSeekSo_231 : decode cL_isSeekSo 231 = .ok (.if_icmp .lt 29, 3) := by decide +kernel
theorem dL_isSeekSo_234 : decode cL_isSeekSo 234 = .ok (.aload_n 0, 1) := by decide +kernel
theorem dL_isSeekSo_235 : decode cL_isSeekSo 235 = .ok (.bipush 21, 2) := by decide +kernel
theorem dL_isSeekSo_237 : decode cL_isSeekSo 237 = .ok (.invokevirtual 8, 3) := by decide +kernel
theorem dL_isSeekSo_240 : decode cL_isSeekSo 240 = .ok (.iload 6, 2) := by decide +kernel
theorem dL_isSeekSo_242 : decode cL_isSeekSo 242 = .ok (.if_icmp .ne 18, 3) := by decide +kernel
theorem dL_isSeekSo_245 : decode cL_isSeekSo 245 = .ok (.aload_n 0, 1) := by decide +kernel
theorem dL_isSeekSo_246 : decode cL_isSeekSo 246 = .ok (.bipush 6, 2) := by decide +kernel
theorem dL_isSeekSo_248 : decode cL_isSeekSo 248 = .ok (.invokevirtual 8, 3) := by decide +kernel
theorem dL_isSeekSo_251 : decode cL_isSeekSo 251 = .ok (.iload 7, 2) := by decide +kernel
theorem dL_isSeekSo_253 : decode cL_isSeekSo 253 = .ok (.if_icmp .ne 7, 3) := by decide +kernel
theorem dL_isSeekSo_256 : decode cL_isSeekSo 256 = .ok (.iconst 1, 1) := by decide +kernel
theorem dL_isSeekSo_257 : decode cL_isSeekSo 257 = .ok (.goto 4, 3) := by decide +kernel
theorem dL_isSeekSo_260 : decode cL_isSeekSo 260 = .ok (.iconst 0, 1) := by decide +kernel
theorem dL_isSeekSo_261 : decode cL_isSeekSo 261 = .ok (.ireturn, 1) := by decide +kernel
theorem dL_isPlaySo_0 : decode cL_isPlaySo 0 = .ok (.aload_n 0, 1) := by decide +kernel
theorem dL_isPlaySo_1 : decode cL_isPlaySo 1 = .ok (.iload_n 1, 1) := by decide +kernel
theorem dL_isPlaySo_2 : decode cL_isPlaySo 2 = .ok (.iload_n 2, 1) := by decide +kernel
theorem dL_isPlaySo_3 : decode cL_isPlaySo 3 = .ok (.iadd, 1) := by decide +kernel
theorem dL_isPlaySo_4 : decode cL_isPlaySo 4 = .ok (.invokevirtual 34, 3) := by decide +kernel
theorem dL_isPlaySo_7 : decode cL_isPlaySo 7 = .ok (.istore_n 3, 1) := by decide +kernel
theorem dL_isPlaySo_8 : decode cL_isPlaySo 8 = .ok (.iload_n 3, 1) := by decide +kernel
theorem dL_isPlaySo_9 : decode cL_isPlaySo 9 = .ok (.bipush (-5), 2) := by decide +kernel
theorem dL_isPlaySo_11 : decode cL_isPlaySo 11 = .ok (.if_icmp .ne 22, 3) := by decide +kernel
theorem dL_isPlaySo_14 : decode cL_isPlaySo 14 = .ok (.aload_n 0, 1) := by decide +kernel
theorem dL_isPlaySo_15 : decode cL_isPlaySo 15 = .ok (.iconst 3, 1) := by decide +kernel
theorem dL_isPlaySo_16 : decode cL_isPlaySo 16 = .ok (.invokevirtual 8, 3) := by decide +kernel
theorem dL_isPlaySo_19 : decode cL_isPlaySo 19 = .ok (.aload_n 0, 1) := by decide +kernel
theorem dL_isPlaySo_20 : decode cL_isPlaySo 20 = .ok (.iconst 0, 1) := by decide +kernel
theorem dL_isPlaySo_21 : decode cL_isPlaySo 21 = .ok (.invokevirtual 8, 3) := by decide +kernel
theorem dL_isPlaySo_24 : decode cL_isPlaySo 24 = .ok (.if_icmp .ne 7, 3) := by decide +kernel
theorem dL_isPlaySo_27 : decode cL_isPlaySo 27 = .ok (.iconst 1, 1) := by decide +kernel
theorem dL_isPlaySo_28 : decode cL_isPlaySo 28 = .ok (.goto 4, 3) := by decide +kernel
theorem dL_isPlaySo_31 : decode cL_isPlaySo 31 = .ok (.iconst 0, 1) := by decide +kernel
theorem dL_isPlaySo_32 : decode cL_isPlaySo 32 = .ok (.ireturn, 1) := by decide +kernel
theorem dL_isPlaySo_33 : decode cL_isPlaySo 33 = .ok (.aload_n 0, 1) := by decide +kernel
theorem dL_isPlaySo_34 : decode cL_isPlaySo 34 = .ok (.iconst 3, 1) := by decide +kernel
theorem dL_isPlaySo_35 : decode cL_isPlaySo 35 = .ok (.invokevirtual 8, 3) := by decide +kernel
theorem dL_isPlaySo_38 : decode cL_isPlaySo 38 = .ok (.istore 4, 2) := by decide +kernel
theorem dL_isPlaySo_40 : decode cL_isPlaySo 40 = .ok (.aload_n 0, 1) := by decide +kernel
theorem dL_isPlaySo_41 : decode cL_isPlaySo 41 = .ok (.bipush 6, 2) := by decide +kernel
theorem dL_isPlaySo_43 : decode cL_isPlaySo 43 = .ok (.invokevirtual 8, 3) := by decide +kernel
theorem dL_isPlaySo_46 : decode cL_isPlaySo 46 = .ok (.istore 5, 2) := by decide +kernel
theorem dL_isPlaySo_48 : decode cL_isPlaySo 48 = .ok (.aload_n 0, 1) := by decide +kernel
theorem dL_isPlaySo_49 : decode cL_isPlaySo 49 = .ok (.invokevirtual 63, 3) := by decide +kernel
theorem dL_isPlaySo_52 : decode cL_isPlaySo 52 = .ok (.istore 6, 2) := by decide +kernel
theorem dL_isPlaySo_54 : decode cL_isPlaySo 54 = .ok (.aload_n 0, 1) := by decide +kernel
theorem dL_isPlaySo_55 : decode cL_isPlaySo 55 = .ok (.iload_n 1, 1) := by decide +kernel
theorem dL_isPlaySo_56 : decode cL_isPlaySo 56 = .ok (.invokevirtual 34, 3) := by decide +kernel
theorem dL_isPlaySo_59 : decode cL_isPlaySo 59 = .ok (.istore 7, 2) := by decide +kernel
theorem dL_isPlaySo_61 : decode cL_isPlaySo 61 = .ok (.aload_n 0, 1) := by decide +kernel
theorem dL_isPlaySo_62 : decode cL_isPlaySo 62 = .ok (.iload_n 2, 1) := by decide +kernel
theorem dL_isPlaySo_63 : decode cL_isPlaySo 63 = .ok (.invokevirtual 34, 3) := by decide +kernel
theorem dL_isPlaySo_66 : decode cL_isPlaySo 66 = .ok (.istore 8, 2) := by decide +kernel
theorem dL_isPlaySo_68 : decode cL_isPlaySo 68 = .ok (.iload 7, 2) := by decide +kernel
theorem dL_isPlaySo_70 : decode cL_isPlaySo 70 = .ok (.iload 8, 2) := by decide +kernel
theorem dL_isPlaySo_72 : decode cL_isPlaySo 72 = .ok (.bipush (-5), 2) := by decide +kernel
theorem dL_isPlaySo_74 : decode cL_isPlaySo 74 = .ok (.if_icmp .ne 7, 3) := by decide +kernel
theorem dL_isPlaySo_77 : decode cL_isPlaySo 77 = .ok (.iconst 0, 1) := by decide +kernel
theorem dL_isPlaySo_78 : decode cL_isPlaySo 78 = .ok (.goto 5, 3) := by decide +kernel
theorem dL_isPlaySo_81 : decode cL_isPlaySo 81 = .ok (.iload 8, 2) := by decide +kernel
theorem dL_isPlaySo_83 : decode cL_isPlaySo 83 = .ok (.iadd, 1) := by decide +kernel
theorem dL_isPlaySo_84 : decode cL_isPlaySo 84 = .ok (.iload_n 3, 1) := by decide +kernel
theorem dL_isPlaySo_85 : decode cL_isPlaySo 85 = .ok (.if_icmp .ne 28, 3) := by decide +kernel
theorem dL_isPlaySo_88 : decode cL_isPlaySo 88 = .ok (.aload_n 0, 1) := by decide +kernel
theorem dL_isPlaySo_89 : decode cL_isPlaySo 89 = .ok (.iconst 3, 1) := by decide +kernel
theorem dL_isPlaySo_90 : decode cL_isPlaySo 90 = .ok (.invokevirtual 8, 3) := by decide +kernel
theorem dL_isPlaySo_93 : decode cL_isPlaySo 93 = .ok (.iload 4, 2) := by decide +kernel
theorem dL_isPlaySo_95 : decode cL_isPlaySo 95 = .ok (.if_icmp .ne 18, 3) := by decide +kernel
theorem dL_isPlaySo_98 : decode cL_isPlaySo 98 = .ok (.aload_n 0, 1) := by decide +kernel
theorem dL_isPlaySo_99 : decode cL_isPlaySo 99 = .ok (.bipush 6, 2) := by decide +kernel
theorem dL_isPlaySo_101 : decode cL_isPlaySo 101 = .ok (.invokevirtual 8, 3) := by decide +kernel
theorem dL_isPlaySo_104 : decode cL_isPlaySo 104 = .ok (.iload 5, 2) := by decide +kernel
theorem dL_isPlaySo_106 : decode cL_isPlaySo 106 = .ok (.if_icmp .ne 7, 3) := by decide +kernel
theorem dL_isPlaySo_109 : decode cL_isPlaySo 109 = .ok (.iconst 1, 1) := by decide +kernel
theorem dL_isPlaySo_110 : decode cL_isPlaySo 110 = .ok (.goto 4, 3) := by decide +kernel
theorem dL_isPlaySo_113 : decode cL_isPlaySo 113 = .ok (.iconst 0, 1) := by decide +kernel
theorem dL_isPlaySo_114 : decode cL_isPlaySo 114 = .ok (.istore 9, 2) := by decide +kernel
theorem dL_isPlaySo_116 : decode cL_isPlaySo 116 = .ok (.iload 8, 2) := by decide +kernel
theorem dL_isPlaySo_118 : decode cL_isPlaySo 118 = .ok (.bipush (-5), 2) := by decide +kernel
theorem dL_isPlaySo_120 : decode cL_isPlaySo 120 = .ok (.if_icmp .ne 8, 3) := by decide +kernel
theorem dL_isPlaySo_123 : decode cL_isPlaySo 123 = .ok (.iload 6, 2) := by decide +kernel
theorem dL_isPlaySo_125 : decode cL_isPlaySo 125 = .ok (.goto 7, 3) := by decide +kernel
theorem dL_isPlaySo_128 : decode cL_isPlaySo 128 = .ok (.aload_n 0, 1) := by decide +kernel
theorem dL_isPlaySo_129 : decode cL_isPlaySo 129 = .ok (.invokevirtual 63, 3) := by decide +kernel
theorem dL_isPlaySo_132 : decode cL_isPlaySo 132 = .ok (.istore 6, 2) := by decide +kernel
theorem dL_isPlaySo_134 : decode cL_isPlaySo 134 = .ok (.aload_n 0, 1) := by decide +kernel
theorem dL_isPlaySo_135 : decode cL_isPlaySo 135 = .ok (.invokevirtual 63, 3) := by decide +kernel
theorem dL_isPlaySo_138 : decode cL_isPlaySo 138 = .ok (.istore 6, 2) := by decide +kernel
theorem dL_isPlaySo_140 : decode cL_isPlaySo 140 = .ok (.iload 9, 2) := by decide +kernel
theorem dL_isPlaySo_142 : decode cL_isPlaySo 142 = .ok (.ifCond .eq 12, 3) := by decide +kernel
theorem dL_isPlaySo_145 : decode cL_isPlaySo 145 = .ok (.iload 6, 2) := by decide +kernel
theorem dL_isPlaySo_147 : decode cL_isPlaySo 147 = .ok (.ifCond .lt 7, 3) := by decide +kernel
theorem dL_isPlaySo_150 : decode cL_isPlaySo 150 = .ok (.iconst 1, 1) := by decide +kernel
theorem dL_isPlaySo_151 : decode cL_isPlaySo 151 = .ok (.goto 4, 3) := by decide +kernel
theorem dL_isPlaySo_154 : decode cL_isPlaySo 154 = .ok (.iconst 0, 1) := by decide +kernel
theorem dL_isPlaySo_155 : decode cL_isPlaySo 155 = .ok (.ireturn, 1) := by decide +kernel
theorem dL_isPolishSo_0 : decode cL_isPolishSo 0 = .ok (.aload_n 0, 1) := by decide +kernel
theorem dL_isPolishSo_1 : decode cL_isPolishSo 1 = .ok (.iconst 0, 1) := by decide +kernel
theorem dL_isPolishSo_2 : decode cL_isPolishSo 2 = .ok (.invokevirtual 67, 3) := by decide +kernel
theorem dL_isPolishSo_5 : decode cL_isPolishSo 5 = .ok (.istore_n 1, 1) := by decide +kernel
theorem dL_isPolishSo_6 : decode cL_isPolishSo 6 = .ok (.aload_n 0, 1) := by decide +kernel
theorem dL_isPolishSo_7 : decode cL_isPolishSo 7 = .ok (.iconst 1, 1) := by decide +kernel
theorem dL_isPolishSo_8 : decode cL_isPolishSo 8 = .ok (.invokevirtual 67, 3) := by decide +kernel
theorem dL_isPolishSo_11 : decode cL_isPolishSo 11 = .ok (.istore_n 2, 1) := by decide +kernel
theorem dL_isPolishSo_12 : decode cL_isPolishSo 12 = .ok (.bipush (-5), 2) := by decide +kernel
theorem dL_isPolishSo_14 : decode cL_isPolishSo 14 = .ok (.istore_n 3, 1) := by decide +kernel
theorem dL_isPolishSo_15 : decode cL_isPolishSo 15 = .ok (.bipush (-5), 2) := by decide +kernel
theorem dL_isPolishSo_17 : decode cL_isPolishSo 17 = .ok (.istore 4, 2) := by decide +kernel
theorem dL_isPolishSo_19 : decode cL_isPolishSo 19 = .ok (.iconst 0, 1) := by decide +kernel
theorem dL_isPolishSo_20 : decode cL_isPolishSo 20 = .ok (.istore 5, 2) := by decide +kernel
theorem dL_isPolishSo_22 : decode cL_isPolishSo 22 = .ok (.iload 5, 2) := by decide +kernel
theorem dL_isPolishSo_24 : decode cL_isPolishSo 24 = .ok (.aload_n 0, 1) := by decide +kernel
theorem dL_isPolishSo_25 : decode cL_isPolishSo 25 = .ok (.iconst 2, 1) := by decide +kernel
theorem dL_isPolishSo_26 : decode cL_isPolishSo 26 = .ok (.invokevirtual 8, 3) := by decide +kernel
theorem dL_isPolishSo_29 : decode cL_isPolishSo 29 = .ok (.if_icmp .ge 125, 3) := by decide +kernel
theorem dL_isPolishSo_32 : decode cL_isPolishSo 32 = .ok (.aload_n 0, 1) := by decide +kernel
theorem dL_isPolishSo_33 : decode cL_isPolishSo 33 = .ok (.iconst 0, 1) := by decide +kernel
theorem dL_isPolishSo_34 : decode cL_isPolishSo 34 = .ok (.invokevirtual 8, 3) := by decide +kernel
theorem dL_isPolishSo_37 : decode cL_isPolishSo 37 = .ok (.aload_n 0, 1) := by decide +kernel
theorem dL_isPolishSo_38 : decode cL_isPolishSo 38 = .ok (.bipush 10, 2) := by decide +kernel
theorem dL_isPolishSo_40 : decode cL_isPolishSo 40 = .ok (.invokevirtual 8, 3) := by decide +kernel
theorem dL_isPolishSo_43 : decode cL_isPolishSo 43 = .ok (.isub, 1) := by decide +kernel
theorem dL_isPolishSo_44 : decode cL_isPolishSo 44 = .ok (.istore 6, 2) := by decide +kernel
theorem dL_isPolishSo_46 : decode cL_isPolishSo 46 = .ok (.aload_n 0, 1) := by decide +kernel
theorem dL_isPolishSo_47 : decode cL_isPolishSo 47 = .ok (.iload 5, 2) := by decide +kernel
theorem dL_isPolishSo_49 : decode cL_isPolishSo 49 = .ok (.iconst 4, 1) := by decide +kernel
theorem dL_isPolishSo_50 : decode cL_isPolishSo 50 = .ok (.invokevirtual 70, 3) := by decide +kernel
theorem dL_isPolishSo_53 : decode cL_isPolishSo 53 = .ok (.istore 7, 2) := by decide +kernel
theorem dL_isPolishSo_55 : decode cL_isPolishSo 55 = .ok (.aload_n 0, 1) := by decide +kernel
theorem dL_isPolishSo_56 : decode cL_isPolishSo 56 = .ok (.iload 5, 2) := by decide +kernel
theorem dL_isPolishSo_58 : decode cL_isPolishSo 58 = .ok (.invokevirtual 24, 3) := by decide +kernel
theorem dL_isPolishSo_61 : decode cL_isPolishSo 61 = .ok (.istore 8, 2) := by decide +kernel
theorem dL_isPolishSo_63 : decode cL_isPolishSo 63 = .ok (.aload_n 0, 1) := by decide +kernel
theorem dL_isPolishSo_64 : decode cL_isPolishSo 64 = .ok (.bipush 13, 2) := by decide +kernel
theorem dL_isPolishSo_66 : decode cL_isPolishSo 66 = .ok (.invokevirtual 8, 3) := by decide +kernel
theorem dL_isPolishSo_69 : decode cL_isPolishSo 69 = .ok (.istore 9, 2) := by decide +kernel
theorem dL_isPolishSo_71 : decode cL_isPolishSo 71 = .ok (.iload 8, 2) := by decide +kernel
theorem dL_isPolishSo_73 : decode cL_isPolishSo 73 = .ok (.iload 6, 2) := by decide +kernel
theorem dL_isPolishSo_75 : decode cL_isPolishSo 75 = .ok (.if_icmp .gt 30, 3) := by decide +kernel
theorem dL_isPolishSo_78 : decode cL_isPolishSo 78 = .ok (.iload 8, 2) := by decide +kernel
theorem dL_isPolishSo_80 : decode cL_isPolishSo 80 = .ok (.iload 6, 2) := by decide +kernel
theorem dL_isPolishSo_82 : decode cL_isPolishSo 82 = .ok (.iload 7, 2) := by decide +kernel
theorem dL_isPolishSo_84 : decode cL_isPolishSo 84 = .ok (.isub, 1) := by decide +kernel
theorem dL_isPolishSo_85 : decode cL_isPolishSo 85 = .ok (.if_icmp .lt 20, 3) := by decide +kernel
theorem dL_isPolishSo_88 : decode cL_isPolishSo 88 = .ok (.iload 8, 2) := by decide +kernel
theorem dL_isPolishSo_90 : decode cL_isPolishSo 90 = .ok (.aload_n 0, 1) := by decide +kernel
theorem dL_isPolishSo_91 : decode cL_isPolishSo 91 = .ok (.iconst 0, 1) := by decide +kernel
theorem dL_isPolishSo_92 : decode cL_isPolishSo 92 = .ok (.invokevirtual 8, 3) := by decide +kernel
theorem dL_isPolishSo_95 : decode cL_isPolishSo 95 = .ok (.aload_n 0, 1) := by decide +kernel
theorem dL_isPolishSo_96 : decode cL_isPolishSo 96 = .ok (.bipush 10, 2) := by decide +kernel
theorem dL_isPolishSo_98 : decode cL_isPolishSo 98 = .ok (.invokevirtual 8, 3) := by decide +kernel
theorem dL_isPolishSo_101 : decode cL_isPolishSo 101 = .ok (.isub, 1) := by decide +kernel
theorem dL_isPolishSo_102 : decode cL_isPolishSo 102 = .ok (.if_icmp .eq 5, 3) := by decide +kernel
theorem dL_isPolishSo_105 : decode cL_isPolishSo 105 = .ok (.iconst 0, 1) := by decide +kernel
theorem dL_isPolishSo_106 : decode cL_isPolishSo 106 = .ok (.ireturn, 1) := by decide +kernel
theorem dL_isPolishSo_107 : decode cL_isPolishSo 107 = .ok (.iload_n 3, 1) := by decide +kernel
theorem dL_isPolishSo_108 : decode cL_isPolishSo 108 = .ok (.bipush (-5), 2) := by decide +kernel
theorem dL_isPolishSo_110 : decode cL_isPolishSo 110 = .ok (.if_icmp .eq 10, 3) := by decide +kernel
theorem dL_isPolishSo_113 : decode cL_isPolishSo 113 = .ok (.iload 9, 2) := by decide +kernel
theorem dL_isPolishSo_115 : decode cL_isPolishSo 115 = .ok (.iload 4, 2) := by decide +kernel
theorem dL_isPolishSo_117 : decode cL_isPolishSo 117 = .ok (.if_icmp .ge 8, 3) := by decide +kernel
theorem dL_isPolishSo_120 : decode cL_isPolishSo 120 = .ok (.iload 5, 2) := by decide +kernel
theorem dL_isPolishSo_122 : decode cL_isPolishSo 122 = .ok (.goto 4, 3) := by decide +kernel
theorem dL_isPolishSo_125 : decode cL_isPolishSo 125 = .ok (.iload_n 3, 1) := by decide +kernel
theorem dL_isPolishSo_126 : decode cL_isPolishSo 126 = .ok (.istore_n 3, 1) := by decide +kernel
theorem dL_isPolishSo_127 : decode cL_isPolishSo 127 = .ok (.iload_n 3, 1) := by decide +kernel
theorem dL_isPolishSo_128 : decode cL_isPolishSo 128 = .ok (.iload 5, 2) := by decide +kernel
theorem dL_isPolishSo_130 : decode cL_isPolishSo 130 = .ok (.if_icmp .ne 8, 3) := by decide +kernel
theorem dL_isPolishSo_133 : decode cL_isPolishSo 133 = .ok (.iload 9, 2) := by decide +kernel
theorem dL_isPolishSo_135 : decode cL_isPolishSo 135 = .ok (.goto 5, 3) := by decide +kernel
theorem dL_isPolishSo_138 : decode cL_isPolishSo 138 = .ok (.iload 4, 2) := by decide +kernel
theorem dL_isPolishSo_140 : decode cL_isPolishSo 140 = .ok (.istore 4, 2) := by decide +kernel
theorem dL_isPolishSo_142 : decode cL_isPolishSo 142 = .ok (.aload_n 0, 1) := by decide +kernel
theorem dL_isPolishSo_143 : decode cL_isPolishSo 143 = .ok (.invokevirtual 63, 3) := by decide +kernel
theorem dL_isPolishSo_146 : decode cL_isPolishSo 146 = .ok (.istore 8, 2) := by decide +kernel
theorem dL_isPolishSo_148 : decode cL_isPolishSo 148 = .ok (.iinc 5 1, 3) := by decide +kernel
theorem dL_isPolishSo_151 : decode cL_isPolishSo 151 = .ok (.goto (-129), 3) := by decide +kernel
theorem dL_isPolishSo_154 : decode cL_isPolishSo 154 = .ok (.iload_n 1, 1) := by decide +kernel
theorem dL_isPolishSo_155 : decode cL_isPolishSo 155 = .ok (.iload_n 3, 1) := by decide +kernel
theorem dL_isPolishSo_156 : decode cL_isPolishSo 156 = .ok (.if_icmp .ne 13, 3) := by decide +kernel
theorem dL_isPolishSo_159 : decode cL_isPolishSo 159 = .ok (.iload_n 2, 1) := by decide +kernel
theorem dL_isPolishSo_160 : decode cL_isPolishSo 160 = .ok (.iload 4, 2) := by decide +kernel
theorem dL_isPolishSo_162 : decode cL_isPolishSo 162 = .ok (.if_icmp .ne 7, 3) := by decide +kernel
theorem dL_isPolishSo_165 : decode cL_isPolishSo 165 = .ok (.iconst 1, 1) := by decide +kernel
theorem dL_isPolishSo_166 : decode cL_isPolishSo 166 = .ok (.goto 4, 3) := by decide +kernel
theorem dL_isPolishSo_169 : decode cL_isPolishSo 169 = .ok (.iconst 0, 1) := by decide +kernel
theorem dL_isPolishSo_170 : decode cL_isPolishSo 170 = .ok (.ireturn, 1) := by decide +kernel
theorem dL_law_0 : decode cL_law 0 = .ok (.new 9, 3) := by decide +kernel
theorem dL_law_3 : decode cL_law 3 = .ok (.dup, 1) := by decide +kernel
theorem dL_law_4 : decode cL_law 4 = .ok (.invokespecial 73, 3) := by decide +kernel
theorem dL_law_7 : decode cL_law 7 = .ok (.astore_n 1, 1) := by decide +kernel
theorem dL_law_8 : decode cL_law 8 = .ok (.aload_n 1, 1) := by decide +kernel
theorem dL_law_9 : decode cL_law 9 = .ok (.iconst 0, 1) := by decide +kernel
theorem dL_law_10 : decode cL_law 10 = .ok (.bipush 8, 2) := by decide +kernel
theorem dL_law_12 : decode cL_law 12 = .ok (.invokevirtual 31, 3) := by decide +kernel
theorem dL_law_15 : decode cL_law 15 = .ok (.aload_n 1, 1) := by decide +kernel
theorem dL_law_16 : decode cL_law 16 = .ok (.iconst 1, 1) := by decide +kernel
theorem dL_law_17 : decode cL_law 17 = .ok (.iconst 1, 1) := by decide +kernel
theorem dL_law_18 : decode cL_law 18 = .ok (.invokevirtual 31, 3) := by decide +kernel
theorem dL_law_21 : decode cL_law 21 = .ok (.iadd, 1) := by decide +kernel
theorem dL_law_22 : decode cL_law 22 = .ok (.istore_n 2, 1) := by decide +kernel
theorem dL_law_23 : decode cL_law 23 = .ok (.iconst 0, 1) := by decide +kernel
theorem dL_law_24 : decode cL_law 24 = .ok (.istore_n 3, 1) := by decide +kernel
theorem dL_law_25 : decode cL_law 25 = .ok (.iload_n 3, 1) := by decide +kernel
theorem dL_law_26 : decode cL_law 26 = .ok (.bipush 44, 2) := by decide +kernel
theorem dL_law_28 : decode cL_law 28 = .ok (.if_icmp .ge 202, 3) := by decide +kernel
theorem dL_law_31 : decode cL_law 31 = .ok (.aload_n 0, 1) := by decide +kernel
theorem dL_law_32 : decode cL_law 32 = .ok (.iload_n 3, 1) := by decide +kernel
theorem dL_law_33 : decode cL_law 33 = .ok (.invokestatic 74, 3) := by decide +kernel
theorem dL_law_36 : decode cL_law 36 = .ok (.istore 4, 2) := by decide +kernel
theorem dL_law_38 : decode cL_law 38 = .ok (.aload_n 1, 1) := by decide +kernel
theorem dL_law_39 : decode cL_law 39 = .ok (.iconst 0, 1) := by decide +kernel
theorem dL_law_40 : decode cL_law 40 = .ok (.invokevirtual 8, 3) := by decide +kernel
theorem dL_law_43 : decode cL_law 43 = .ok (.istore 5, 2) := by decide +kernel
theorem dL_law_45 : decode cL_law 45 = .ok (.aload_n 1, 1) := by decide +kernel
theorem dL_law_46 : decode cL_law 46 = .ok (.iload 4, 2) := by decide +kernel
theorem dL_law_48 : decode cL_law 48 = .ok (.invokestatic 78, 3) := by decide +kernel
theorem dL_law_51 : decode cL_law 51 = .ok (.ifCond .lt 171, 3) := by decide +kernel
theorem dL_law_54 : decode cL_law 54 = .ok (.iload_n 3, 1) := by decide +kernel
theorem dL_law_55 : decode cL_law 55 = .ok (.iconst 3, 1) := by decide +kernel
theorem dL_law_56 : decode cL_law 56 = .ok (.irem, 1) := by decide +kernel
theorem dL_law_57 : decode cL_law 57 = .ok (.iconst 1, 1) := by decide +kernel
theorem dL_law_58 : decode cL_law 58 = .ok (.if_icmp .ne 10, 3) := by decide +kernel
theorem dL_law_61 : decode cL_law 61 = .ok (.aload_n 1, 1) := by decide +kernel
theorem dL_law_62 : decode cL_law 62 = .ok (.invokestatic 82, 3) := by decide +kernel
theorem dL_law_65 : decode cL_law 65 = .ok (.ifCond .eq 157, 3) := by decide +kernel
theorem dL_law_68 : decode cL_law 68 = .ok (.aload_n 1, 1) := by decide +kernel
theorem dL_law_69 : decode cL_law 69 = .ok (.iload 4, 2) := by decide +kernel
theorem dL_law_71 : decode cL_law 71 = .ok (.iconst 2, 1) := by decide +kernel
theorem dL_law_72 : decode cL_law 72 = .ok (.ishr, 1) := by decide +kernel
theorem dL_law_73 : decode cL_law 73 = .ok (.aload_n 1, 1) := by decide +kernel
theorem dL_law_74 : decode cL_law 74 = .ok (.iconst 0, 1) := by decide +kernel
theorem dL_law_75 : decode cL_law 75 = .ok (.invokevirtual 8, 3) := by decide +kernel
theorem dL_law_78 : decode cL_law 78 = .ok (.invokestatic 14, 3) := by decide +kernel
theorem dL_law_81 : decode cL_law 81 = .ok (.invokestatic 86, 3) := by decide +kernel
theorem dL_law_84 : decode cL_law 84 = .ok (.ifCond .eq 138, 3) := by decide +kernel
theorem dL_law_87 : decode cL_law 87 = .ok (.aload_n 1, 1) := by decide +kernel
theorem dL_law_88 : decode cL_law 88 = .ok (.iload 4, 2) := by decide +kernel
theorem dL_law_90 : decode cL_law 90 = .ok (.iconst 5, 1) := by decide +kernel
theorem dL_law_91 : decode cL_law 91 = .ok (.ishr, 1) := by decide +kernel
theorem dL_law_92 : decode cL_law 92 = .ok (.aload_n 1, 1) := by decide +kernel
theorem dL_law_93 : decode cL_law 93 = .ok (.iconst 0, 1) := by decide +kernel
theorem dL_law_94 : decode cL_law 94 = .ok (.invokevirtual 8, 3) := by decide +kernel
theorem dL_law_97 : decode cL_law 97 = .ok (.invokestatic 14, 3) := by decide +kernel
theorem dL_law_100 : decode cL_law 100 = .ok (.invokestatic 86, 3) := by decide +kernel
theorem dL_law_103 : decode cL_law 103 = .ok (.ifCond .eq 119, 3) := by decide +kernel
theorem dL_law_106 : decode cL_law 106 = .ok (.iload_n 3, 1) := by decide +kernel
theorem dL_law_107 : decode cL_law 107 = .ok (.bipush 11, 2) := by decide +kernel
theorem dL_law_109 : decode cL_law 109 = .ok (.irem, 1) := by decide +kernel
theorem dL_law_110 : decode cL_law 110 = .ok (.bipush 10, 2) := by decide +kernel
theorem dL_law_112 : decode cL_law 112 = .ok (.if_icmp .ne 10, 3) := by decide +kernel
theorem dL_law_115 : decode cL_law 115 = .ok (.aload_n 1, 1) := by decide +kernel
theorem dL_law_116 : decode cL_law 116 = .ok (.invokestatic 90, 3) := by decide +kernel
theorem dL_law_119 : decode cL_law 119 = .ok (.ifCond .eq 103, 3) := by decide +kernel
theorem dL_law_122 : decode cL_law 122 = .ok (.iload_n 3, 1) := by decide +kernel
theorem dL_law_123 : decode cL_law 123 = .ok (.bipush 6, 2) := by decide +kernel
theorem dL_law_125 : decode cL_law 125 = .ok (.irem, 1) := by decide +kernel
theorem dL_law_126 : decode cL_law 126 = .ok (.iconst 2, 1) := by decide +kernel
theorem dL_law_127 : decode cL_law 127 = .ok (.if_icmp .ne 35, 3) := by decide +kernel
theorem dL_law_130 : decode cL_law 130 = .ok (.aload_n 1, 1) := by decide +kernel
theorem dL_law_131 : decode cL_law 131 = .ok (.iload 4, 2) := by decide +kernel
theorem dL_law_133 : decode cL_law 133 = .ok (.iconst 3, 1) := by decide +kernel
theorem dL_law_134 : decode cL_law 134 = .ok (.ishr, 1) := by decide +kernel
theorem dL_law_135 : decode cL_law 135 = .ok (.aload_n 1, 1) := by decide +kernel
theorem dL_law_136 : decode cL_law 136 = .ok (.iconst 0, 1) := by decide +kernel
theorem dL_law_137 : decode cL_law 137 = .ok (.invokevirtual 8, 3) := by decide +kernel
theorem dL_law_140 : decode cL_law 140 = .ok (.invokestatic 14, 3) := by decide +kernel
theorem dL_law_143 : decode cL_law 143 = .ok (.bipush 60, 2) := by decide +kernel
theorem dL_law_145 : decode cL_law 145 = .ok (.iload 4, 2) := by decide +kernel
theorem dL_law_147 : decode cL_law 147 = .ok (.bipush 7, 2) := by decide +kernel
theorem dL_law_149 : decode cL_law 149 = .ok (.ishr, 1) := by decide +kernel
theorem dL_law_150 : decode cL_law 150 = .ok (.bipush 81, 2) := by decide +kernel
theorem dL_law_152 : decode cL_law 152 = .ok (.invokestatic 14, 3) := by decide +kernel
theorem dL_law_155 : decode cL_law 155 = .ok (.iadd, 1) := by decide +kernel
theorem dL_law_156 : decode cL_law 156 = .ok (.invokestatic 93, 3) := by decide +kernel
theorem dL_law_159 : decode cL_law 159 = .ok (.ifCond .eq 63, 3) := by decide +kernel
theorem dL_law_162 : decode cL_law 162 = .ok (.iload_n 3, 1) := by decide +kernel
theorem dL_law_163 : decode cL_law 163 = .ok (.iconst 4, 1) := by decide +kernel
theorem dL_law_164 : decode cL_law 164 = .ok (.irem, 1) := by decide +kernel
theorem dL_law_165 : decode cL_law 165 = .ok (.iconst 3, 1) := by decide +kernel
theorem dL_law_166 : decode cL_law 166 = .ok (.if_icmp .ne 33, 3) := by decide +kernel
theorem dL_law_169 : decode cL_law 169 = .ok (.aload_n 1, 1) := by decide +kernel
theorem dL_law_170 : decode cL_law 170 = .ok (.iconst 1, 1) := by decide +kernel
theorem dL_law_171 : decode cL_law 171 = .ok (.iload 4, 2) := by decide +kernel
theorem dL_law_173 : decode cL_law 173 = .ok (.iconst 4, 1) := by decide +kernel
theorem dL_law_174 : decode cL_law 174 = .ok (.ishr, 1) := by decide +kernel
theorem dL_law_175 : decode cL_law 175 = .ok (.bipush 30, 2) := by decide +kernel
theorem dL_law_177 : decode cL_law 177 = .ok (.invokestatic 14, 3) := by decide +kernel
theorem dL_law_180 : decode cL_law 180 = .ok (.iadd, 1) := by decide +kernel
theorem dL_law_181 : decode cL_law 181 = .ok (.iconst 1, 1) := by decide +kernel
theorem dL_law_182 : decode cL_law 182 = .ok (.iload 4, 2) := by decide +kernel
theorem dL_law_184 : decode cL_law 184 = .ok (.bipush 8, 2) := by decide +kernel
theorem dL_law_186 : decode cL_law 186 = .ok (.ishr, 1) := by decide +kernel
theorem dL_law_187 : decode cL_law 187 = .ok (.bipush 30, 2) := by decide +kernel
theorem dL_law_189 : decode cL_law 189 = .ok (.invokestatic 14, 3) := by decide +kernel
theorem dL_law_192 : decode cL_law 192 = .ok (.iadd, 1) := by decide +kernel
theorem dL_law_193 : decode cL_law 193 = .ok (.invokestatic 97, 3) := by decide +kernel
theorem dL_law_196 : decode cL_law 196 = .ok (.ifCond .eq 26, 3) := by decide +kernel
theorem dL_law_199 : decode cL_law 199 = .ok (.iload_n 3, 1) := by decide +kernel
theorem dL_law_200 : decode cL_law 200 = .ok (.bipush 8, 2) := by decide +kernel
theorem dL_law_202 : decode cL_law 202 = .ok (.irem, 1) := by decide +kernel
theorem dL_law_203 : decode cL_law 203 = .ok (.iconst 5, 1) := by decide +kernel
theorem dL_law_204 : decode cL_law 204 = .ok (.if_icmp .ne 10, 3) := by decide +kernel
theorem dL_law_207 : decode cL_law 207 = .ok (.aload_n 1, 1) := by decide +kernel
theorem dL_law_208 : decode cL_law 208 = .ok (.invokestatic 100, 3) := by decide +kernel
theorem dL_law_211 : decode cL_law 211 = .ok (.ifCond .eq 11, 3) := by decide +kernel
theorem dL_law_214 : decode cL_law 214 = .ok (.iload 5, 2) := by decide +kernel
theorem dL_law_216 : decode cL_law 216 = .ok (.sipush 240, 3) := by decide +kernel
theorem dL_law_219 : decode cL_law 219 = .ok (.if_icmp .ge 5, 3) := by decide +kernel
theorem dL_law_222 : decode cL_law 222 = .ok (.iconst 0, 1) := by decide +kernel
theorem dL_law_223 : decode cL_law 223 = .ok (.ireturn, 1) := by decide +kernel
theorem dL_law_224 : decode cL_law 224 = .ok (.iinc 3 1, 3) := by decide +kernel
theorem dL_law_227 : decode cL_law 227 = .ok (.goto (-202), 3) := by decide +kernel
theorem dL_law_230 : decode cL_law 230 = .ok (.iload_n 2, 1) := by decide +kernel
theorem dL_law_231 : decode cL_law 231 = .ok (.bipush 22, 2) := by decide +kernel
theorem dL_law_233 : decode cL_law 233 = .ok (.if_icmp .ne 7, 3) := by decide +kernel
theorem dL_law_236 : decode cL_law 236 = .ok (.iconst 1, 1) := by decide +kernel
theorem dL_law_237 : decode cL_law 237 = .ok (.goto 4, 3) := by decide +kernel
theorem dL_law_240 : decode cL_law 240 = .ok (.iconst 0, 1) := by decide +kernel
theorem dL_law_241 : decode cL_law 241 = .ok (.ireturn, 1) := by decide +kernel
abbrev vwCl : List vw_C := [(RX1, TX1, 6), (RX2, TX2, 2), (RX3, TX3, 6), (RX4, TX4, 2), (RX5, TX5, 6), (RX6, TX6, 4), (RX7, TX7, 4), (RX8, TX8, 3), (RX10, TX10, 8)]
