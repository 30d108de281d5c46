section
-- ===== PART A: goes FIRST, ahead of the names: the tables' words, and 'selects' of the private methods out of them =====
/-- a private method of a class that the tables say can be made, by its rows of tables_1 -/
def lw_okq (q : MethodName × Nat) : Prop := (q.1.cls ≠ "java/lang/invoke/MethodHandle" ∧ q.1.cls ≠ "java/lang/invoke/VarHandle") ∧ Cond.instantiable q.1.cls q.2 ∈ tables_1 ∧ Cond.privateMethod q.1 ∈ tables_1 ∧ Cond.instanceMethod q.1 ∈ tables_1
theorem lw_p0 : lw_okq (⟨"LineDisc", "pressSymbol", "(III)I"⟩, 8) := ⟨⟨by decide +kernel, by decide +kernel⟩, List.mem_of_getElem? (i := 22) (by decide +kernel), List.mem_of_getElem? (i := 273) (by decide +kernel), List.mem_of_getElem? (i := 274) (by decide +kernel)⟩
theorem lw_p1 : lw_okq (⟨"LineDisc$Symbols", "dataAt", "(II)I"⟩, 3) := ⟨⟨by decide +kernel, by decide +kernel⟩, List.mem_of_getElem? (i := 81) (by decide +kernel), List.mem_of_getElem? (i := 300) (by decide +kernel), List.mem_of_getElem? (i := 301) (by decide +kernel)⟩
theorem lw_p2 : lw_okq (⟨"LineDisc$Symbols", "indexOf", "(I)I"⟩, 3) := ⟨⟨by decide +kernel, by decide +kernel⟩, List.mem_of_getElem? (i := 81) (by decide +kernel), List.mem_of_getElem? (i := 304) (by decide +kernel), List.mem_of_getElem? (i := 305) (by decide +kernel)⟩
theorem lw_p3 : lw_okq (⟨"LineDisc$Symbols", "drop", "(I)V"⟩, 3) := ⟨⟨by decide +kernel, by decide +kernel⟩, List.mem_of_getElem? (i := 81) (by decide +kernel), List.mem_of_getElem? (i := 318) (by decide +kernel), List.mem_of_getElem? (i := 319) (by decide +kernel)⟩
theorem lw_p4 : lw_okq (⟨"LineDisc", "recorded", "(I)I"⟩, 8) := ⟨⟨by decide +kernel, by decide +kernel⟩, List.mem_of_getElem? (i := 22) (by decide +kernel), List.mem_of_getElem? (i := 325) (by decide +kernel), List.mem_of_getElem? (i := 326) (by decide +kernel)⟩
theorem lw_p5 : lw_okq (⟨"LineDisc$History", "dropOldest", "()V"⟩, 2) := ⟨⟨by decide +kernel, by decide +kernel⟩, List.mem_of_getElem? (i := 148) (by decide +kernel), List.mem_of_getElem? (i := 333) (by decide +kernel), List.mem_of_getElem? (i := 334) (by decide +kernel)⟩
theorem lw_p6 : lw_okq (⟨"LineDisc$History", "stateAt", "(I)LLineDisc$State;"⟩, 2) := ⟨⟨by decide +kernel, by decide +kernel⟩, List.mem_of_getElem? (i := 148) (by decide +kernel), List.mem_of_getElem? (i := 337) (by decide +kernel), List.mem_of_getElem? (i := 338) (by decide +kernel)⟩
theorem lw_p7 : lw_okq (⟨"LineDisc", "addScratch", "(IIII)I"⟩, 8) := ⟨⟨by decide +kernel, by decide +kernel⟩, List.mem_of_getElem? (i := 22) (by decide +kernel), List.mem_of_getElem? (i := 346) (by decide +kernel), List.mem_of_getElem? (i := 347) (by decide +kernel)⟩
theorem lw_p8 : lw_okq (⟨"LineDisc$Survey", "markScratch", "(I)V"⟩, 4) := ⟨⟨by decide +kernel, by decide +kernel⟩, List.mem_of_getElem? (i := 195) (by decide +kernel), List.mem_of_getElem? (i := 373) (by decide +kernel), List.mem_of_getElem? (i := 374) (by decide +kernel)⟩
theorem lw_p9 : lw_okq (⟨"LineDisc$Survey", "markRow", "(III)V"⟩, 4) := ⟨⟨by decide +kernel, by decide +kernel⟩, List.mem_of_getElem? (i := 195) (by decide +kernel), List.mem_of_getElem? (i := 404) (by decide +kernel), List.mem_of_getElem? (i := 405) (by decide +kernel)⟩
theorem lw_p10 : lw_okq (⟨"LineDisc$Survey", "judgeGroup", "(III)V"⟩, 4) := ⟨⟨by decide +kernel, by decide +kernel⟩, List.mem_of_getElem? (i := 195) (by decide +kernel), List.mem_of_getElem? (i := 413) (by decide +kernel), List.mem_of_getElem? (i := 414) (by decide +kernel)⟩
theorem lw_p11 : lw_okq (⟨"LineDisc$Survey", "canBeFilled", "(II)Z"⟩, 4) := ⟨⟨by decide +kernel, by decide +kernel⟩, List.mem_of_getElem? (i := 195) (by decide +kernel), List.mem_of_getElem? (i := 423) (by decide +kernel), List.mem_of_getElem? (i := 424) (by decide +kernel)⟩
theorem lw_p12 : lw_okq (⟨"LineDisc", "polishAway", "(I)I"⟩, 8) := ⟨⟨by decide +kernel, by decide +kernel⟩, List.mem_of_getElem? (i := 22) (by decide +kernel), List.mem_of_getElem? (i := 439) (by decide +kernel), List.mem_of_getElem? (i := 440) (by decide +kernel)⟩
theorem lw_p13 : lw_okq (⟨"LineDisc", "playFrames", "(I)I"⟩, 8) := ⟨⟨by decide +kernel, by decide +kernel⟩, List.mem_of_getElem? (i := 22) (by decide +kernel), List.mem_of_getElem? (i := 476) (by decide +kernel), List.mem_of_getElem? (i := 477) (by decide +kernel)⟩
theorem lw_p14 : lw_okq (⟨"LineDisc$Head", "spin", "(IILLineDisc$Settings;)V"⟩, 6) := ⟨⟨by decide +kernel, by decide +kernel⟩, List.mem_of_getElem? (i := 98) (by decide +kernel), List.mem_of_getElem? (i := 491) (by decide +kernel), List.mem_of_getElem? (i := 492) (by decide +kernel)⟩
theorem lw_p15 : lw_okq (⟨"LineDisc$Head", "isNear", "(ILLineDisc$Settings;)Z"⟩, 6) := ⟨⟨by decide +kernel, by decide +kernel⟩, List.mem_of_getElem? (i := 98) (by decide +kernel), List.mem_of_getElem? (i := 497) (by decide +kernel), List.mem_of_getElem? (i := 498) (by decide +kernel)⟩
def lw_privs_1 : List (MethodName × Nat) := [(⟨"LineDisc", "pressSymbol", "(III)I"⟩, 8), (⟨"LineDisc$Symbols", "dataAt", "(II)I"⟩, 3), (⟨"LineDisc$Symbols", "indexOf", "(I)I"⟩, 3), (⟨"LineDisc$Symbols", "drop", "(I)V"⟩, 3), (⟨"LineDisc", "recorded", "(I)I"⟩, 8), (⟨"LineDisc$History", "dropOldest", "()V"⟩, 2), (⟨"LineDisc$History", "stateAt", "(I)LLineDisc$State;"⟩, 2), (⟨"LineDisc", "addScratch", "(IIII)I"⟩, 8), (⟨"LineDisc$Survey", "markScratch", "(I)V"⟩, 4), (⟨"LineDisc$Survey", "markRow", "(III)V"⟩, 4), (⟨"LineDisc$Survey", "judgeGroup", "(III)V"⟩, 4), (⟨"LineDisc$Survey", "canBeFilled", "(II)Z"⟩, 4), (⟨"LineDisc", "polishAway", "(I)I"⟩, 8), (⟨"LineDisc", "playFrames", "(I)I"⟩, 8), (⟨"LineDisc$Head", "spin", "(IILLineDisc$Settings;)V"⟩, 6), (⟨"LineDisc$Head", "isNear", "(ILLineDisc$Settings;)Z"⟩, 6)]
theorem lw_r1 : ∀ q ∈ lw_privs_1, lw_okq q := List.forall_mem_cons.mpr ⟨lw_p0, List.forall_mem_cons.mpr ⟨lw_p1, List.forall_mem_cons.mpr ⟨lw_p2, List.forall_mem_cons.mpr ⟨lw_p3, List.forall_mem_cons.mpr ⟨lw_p4, List.forall_mem_cons.mpr ⟨lw_p5, List.forall_mem_cons.mpr ⟨lw_p6, List.forall_mem_cons.mpr ⟨lw_p7, List.forall_mem_cons.mpr ⟨lw_p8, List.forall_mem_cons.mpr ⟨lw_p9, List.forall_mem_cons.mpr ⟨lw_p10, List.forall_mem_cons.mpr ⟨lw_p11, List.forall_mem_cons.mpr ⟨lw_p12, List.forall_mem_cons.mpr ⟨lw_p13, List.forall_mem_cons.mpr ⟨lw_p14, List.forall_mem_cons.mpr ⟨lw_p15, fun _ h => absurd h List.not_mem_nil⟩⟩⟩⟩⟩⟩⟩⟩⟩⟩⟩⟩⟩⟩⟩⟩
theorem lw_p16 : lw_okq (⟨"LineDisc", "seekFrame", "(I)I"⟩, 8) := ⟨⟨by decide +kernel, by decide +kernel⟩, List.mem_of_getElem? (i := 22) (by decide +kernel), List.mem_of_getElem? (i := 512) (by decide +kernel), List.mem_of_getElem? (i := 513) (by decide +kernel)⟩
theorem lw_p17 : lw_okq (⟨"LineDisc$Head", "jump", "(IILLineDisc$Settings;I)I"⟩, 6) := ⟨⟨by decide +kernel, by decide +kernel⟩, List.mem_of_getElem? (i := 98) (by decide +kernel), List.mem_of_getElem? (i := 520) (by decide +kernel), List.mem_of_getElem? (i := 521) (by decide +kernel)⟩
theorem lw_p18 : lw_okq (⟨"LineDisc$Orders", "readOrder", "()Z"⟩, 6) := ⟨⟨by decide +kernel, by decide +kernel⟩, List.mem_of_getElem? (i := 165) (by decide +kernel), List.mem_of_getElem? (i := 549) (by decide +kernel), List.mem_of_getElem? (i := 550) (by decide +kernel)⟩
theorem lw_p19 : lw_okq (⟨"LineDisc$Orders", "readWord", "()LLineDisc$Word;"⟩, 6) := ⟨⟨by decide +kernel, by decide +kernel⟩, List.mem_of_getElem? (i := 165) (by decide +kernel), List.mem_of_getElem? (i := 553) (by decide +kernel), List.mem_of_getElem? (i := 554) (by decide +kernel)⟩
theorem lw_p20 : lw_okq (⟨"LineDisc$Orders", "sameAs", "(Ljava/lang/String;)I"⟩, 6) := ⟨⟨by decide +kernel, by decide +kernel⟩, List.mem_of_getElem? (i := 165) (by decide +kernel), List.mem_of_getElem? (i := 559) (by decide +kernel), List.mem_of_getElem? (i := 560) (by decide +kernel)⟩
theorem lw_p21 : lw_okq (⟨"LineDisc$Orders", "hasSign", "(IC)Z"⟩, 6) := ⟨⟨by decide +kernel, by decide +kernel⟩, List.mem_of_getElem? (i := 165) (by decide +kernel), List.mem_of_getElem? (i := 611) (by decide +kernel), List.mem_of_getElem? (i := 612) (by decide +kernel)⟩
theorem lw_p22 : lw_okq (⟨"LineDisc$Orders", "readNumber", "(CI)Z"⟩, 6) := ⟨⟨by decide +kernel, by decide +kernel⟩, List.mem_of_getElem? (i := 165) (by decide +kernel), List.mem_of_getElem? (i := 619) (by decide +kernel), List.mem_of_getElem? (i := 620) (by decide +kernel)⟩
theorem lw_p23 : lw_okq (⟨"LineDisc$Orders", "longerBy", "(IIC)I"⟩, 6) := ⟨⟨by decide +kernel, by decide +kernel⟩, List.mem_of_getElem? (i := 165) (by decide +kernel), List.mem_of_getElem? (i := 623) (by decide +kernel), List.mem_of_getElem? (i := 624) (by decide +kernel)⟩
theorem lw_p24 : lw_okq (⟨"LineDisc$Orders", "readSign", "(C)Z"⟩, 6) := ⟨⟨by decide +kernel, by decide +kernel⟩, List.mem_of_getElem? (i := 165) (by decide +kernel), List.mem_of_getElem? (i := 634) (by decide +kernel), List.mem_of_getElem? (i := 635) (by decide +kernel)⟩
theorem lw_p25 : lw_okq (⟨"LineDisc", "doOrder", "(I)I"⟩, 8) := ⟨⟨by decide +kernel, by decide +kernel⟩, List.mem_of_getElem? (i := 22) (by decide +kernel), List.mem_of_getElem? (i := 642) (by decide +kernel), List.mem_of_getElem? (i := 643) (by decide +kernel)⟩
theorem lw_p26 : lw_okq (⟨"LineDisc", "toldSymbol", "(II)I"⟩, 8) := ⟨⟨by decide +kernel, by decide +kernel⟩, List.mem_of_getElem? (i := 22) (by decide +kernel), List.mem_of_getElem? (i := 722) (by decide +kernel), List.mem_of_getElem? (i := 723) (by decide +kernel)⟩
theorem lw_p27 : lw_okq (⟨"LineDisc", "filledSymbol", "(II)I"⟩, 8) := ⟨⟨by decide +kernel, by decide +kernel⟩, List.mem_of_getElem? (i := 22) (by decide +kernel), List.mem_of_getElem? (i := 726) (by decide +kernel), List.mem_of_getElem? (i := 727) (by decide +kernel)⟩
theorem lw_p28 : lw_okq (⟨"LineDisc", "countSetting", "(I)I"⟩, 8) := ⟨⟨by decide +kernel, by decide +kernel⟩, List.mem_of_getElem? (i := 22) (by decide +kernel), List.mem_of_getElem? (i := 759) (by decide +kernel), List.mem_of_getElem? (i := 760) (by decide +kernel)⟩
theorem lw_p29 : lw_okq (⟨"LineDisc", "isToldRight", "(I)Z"⟩, 8) := ⟨⟨by decide +kernel, by decide +kernel⟩, List.mem_of_getElem? (i := 22) (by decide +kernel), List.mem_of_getElem? (i := 770) (by decide +kernel), List.mem_of_getElem? (i := 771) (by decide +kernel)⟩
theorem lw_p30 : lw_okq (⟨"LineDisc", "trySeek", "(II)I"⟩, 8) := ⟨⟨by decide +kernel, by decide +kernel⟩, List.mem_of_getElem? (i := 22) (by decide +kernel), List.mem_of_getElem? (i := 778) (by decide +kernel), List.mem_of_getElem? (i := 779) (by decide +kernel)⟩
theorem lw_p31 : lw_okq (⟨"LineDiscModel", "putAside", "()V"⟩, 11) := ⟨⟨by decide +kernel, by decide +kernel⟩, List.mem_of_getElem? (i := 801) (by decide +kernel), List.mem_of_getElem? (i := 846) (by decide +kernel), List.mem_of_getElem? (i := 847) (by decide +kernel)⟩
def lw_privs_2 : List (MethodName × Nat) := [(⟨"LineDisc", "seekFrame", "(I)I"⟩, 8), (⟨"LineDisc$Head", "jump", "(IILLineDisc$Settings;I)I"⟩, 6), (⟨"LineDisc$Orders", "readOrder", "()Z"⟩, 6), (⟨"LineDisc$Orders", "readWord", "()LLineDisc$Word;"⟩, 6), (⟨"LineDisc$Orders", "sameAs", "(Ljava/lang/String;)I"⟩, 6), (⟨"LineDisc$Orders", "hasSign", "(IC)Z"⟩, 6), (⟨"LineDisc$Orders", "readNumber", "(CI)Z"⟩, 6), (⟨"LineDisc$Orders", "longerBy", "(IIC)I"⟩, 6), (⟨"LineDisc$Orders", "readSign", "(C)Z"⟩, 6), (⟨"LineDisc", "doOrder", "(I)I"⟩, 8), (⟨"LineDisc", "toldSymbol", "(II)I"⟩, 8), (⟨"LineDisc", "filledSymbol", "(II)I"⟩, 8), (⟨"LineDisc", "countSetting", "(I)I"⟩, 8), (⟨"LineDisc", "isToldRight", "(I)Z"⟩, 8), (⟨"LineDisc", "trySeek", "(II)I"⟩, 8), (⟨"LineDiscModel", "putAside", "()V"⟩, 11)]
theorem lw_r2 : ∀ q ∈ lw_privs_2, lw_okq q := List.forall_mem_cons.mpr ⟨lw_p16, List.forall_mem_cons.mpr ⟨lw_p17, List.forall_mem_cons.mpr ⟨lw_p18, List.forall_mem_cons.mpr ⟨lw_p19, List.forall_mem_cons.mpr ⟨lw_p20, List.forall_mem_cons.mpr ⟨lw_p21, List.forall_mem_cons.mpr ⟨lw_p22, List.forall_mem_cons.mpr ⟨lw_p23, List.forall_mem_cons.mpr ⟨lw_p24, List.forall_mem_cons.mpr ⟨lw_p25, List.forall_mem_cons.mpr ⟨lw_p26, List.forall_mem_cons.mpr ⟨lw_p27, List.forall_mem_cons.mpr ⟨lw_p28, List.forall_mem_cons.mpr ⟨lw_p29, List.forall_mem_cons.mpr ⟨lw_p30, List.forall_mem_cons.mpr ⟨lw_p31, fun _ h => absurd h List.not_mem_nil⟩⟩⟩⟩⟩⟩⟩⟩⟩⟩⟩⟩⟩⟩⟩⟩
theorem lw_p32 : lw_okq (⟨"LineDiscModel", "presses", "(III)I"⟩, 11) := ⟨⟨by decide +kernel, by decide +kernel⟩, List.mem_of_getElem? (i := 801) (by decide +kernel), List.mem_of_getElem? (i := 850) (by decide +kernel), List.mem_of_getElem? (i := 851) (by decide +kernel)⟩
theorem lw_p33 : lw_okq (⟨"LineDiscModel", "isFrame", "(I)Z"⟩, 11) := ⟨⟨by decide +kernel, by decide +kernel⟩, List.mem_of_getElem? (i := 801) (by decide +kernel), List.mem_of_getElem? (i := 854) (by decide +kernel), List.mem_of_getElem? (i := 855) (by decide +kernel)⟩
theorem lw_p34 : lw_okq (⟨"LineDiscModel", "frames", "()I"⟩, 11) := ⟨⟨by decide +kernel, by decide +kernel⟩, List.mem_of_getElem? (i := 801) (by decide +kernel), List.mem_of_getElem? (i := 858) (by decide +kernel), List.mem_of_getElem? (i := 859) (by decide +kernel)⟩
theorem lw_p35 : lw_okq (⟨"LineDiscModel", "start", "(I)I"⟩, 11) := ⟨⟨by decide +kernel, by decide +kernel⟩, List.mem_of_getElem? (i := 801) (by decide +kernel), List.mem_of_getElem? (i := 862) (by decide +kernel), List.mem_of_getElem? (i := 863) (by decide +kernel)⟩
theorem lw_p36 : lw_okq (⟨"LineDiscModel", "dataSymbol", "(II)I"⟩, 11) := ⟨⟨by decide +kernel, by decide +kernel⟩, List.mem_of_getElem? (i := 801) (by decide +kernel), List.mem_of_getElem? (i := 872) (by decide +kernel), List.mem_of_getElem? (i := 873) (by decide +kernel)⟩
theorem lw_p37 : lw_okq (⟨"LineDiscModel", "findPressed", "(II)I"⟩, 11) := ⟨⟨by decide +kernel, by decide +kernel⟩, List.mem_of_getElem? (i := 801) (by decide +kernel), List.mem_of_getElem? (i := 876) (by decide +kernel), List.mem_of_getElem? (i := 877) (by decide +kernel)⟩
theorem lw_p38 : lw_okq (⟨"LineDiscModel", "act", "(I)I"⟩, 11) := ⟨⟨by decide +kernel, by decide +kernel⟩, List.mem_of_getElem? (i := 801) (by decide +kernel), List.mem_of_getElem? (i := 883) (by decide +kernel), List.mem_of_getElem? (i := 884) (by decide +kernel)⟩
theorem lw_p39 : lw_okq (⟨"LineDiscModel", "putBack", "()V"⟩, 11) := ⟨⟨by decide +kernel, by decide +kernel⟩, List.mem_of_getElem? (i := 801) (by decide +kernel), List.mem_of_getElem? (i := 887) (by decide +kernel), List.mem_of_getElem? (i := 888) (by decide +kernel)⟩
theorem lw_p40 : lw_okq (⟨"LineDiscModel", "scratches", "(IIII)I"⟩, 11) := ⟨⟨by decide +kernel, by decide +kernel⟩, List.mem_of_getElem? (i := 801) (by decide +kernel), List.mem_of_getElem? (i := 895) (by decide +kernel), List.mem_of_getElem? (i := 896) (by decide +kernel)⟩
theorem lw_p41 : lw_okq (⟨"LineDiscModel", "damaged", "()I"⟩, 11) := ⟨⟨by decide +kernel, by decide +kernel⟩, List.mem_of_getElem? (i := 801) (by decide +kernel), List.mem_of_getElem? (i := 899) (by decide +kernel), List.mem_of_getElem? (i := 900) (by decide +kernel)⟩
theorem lw_p42 : lw_okq (⟨"LineDiscModel", "lay", "(I)V"⟩, 11) := ⟨⟨by decide +kernel, by decide +kernel⟩, List.mem_of_getElem? (i := 801) (by decide +kernel), List.mem_of_getElem? (i := 903) (by decide +kernel), List.mem_of_getElem? (i := 904) (by decide +kernel)⟩
theorem lw_p43 : lw_okq (⟨"LineDiscModel", "framesOf", "(I)I"⟩, 11) := ⟨⟨by decide +kernel, by decide +kernel⟩, List.mem_of_getElem? (i := 801) (by decide +kernel), List.mem_of_getElem? (i := 907) (by decide +kernel), List.mem_of_getElem? (i := 908) (by decide +kernel)⟩
theorem lw_p44 : lw_okq (⟨"LineDiscModel", "damages", "(III)Z"⟩, 11) := ⟨⟨by decide +kernel, by decide +kernel⟩, List.mem_of_getElem? (i := 801) (by decide +kernel), List.mem_of_getElem? (i := 911) (by decide +kernel), List.mem_of_getElem? (i := 912) (by decide +kernel)⟩
theorem lw_p45 : lw_okq (⟨"LineDiscModel", "polishes", "(I)I"⟩, 11) := ⟨⟨by decide +kernel, by decide +kernel⟩, List.mem_of_getElem? (i := 801) (by decide +kernel), List.mem_of_getElem? (i := 919) (by decide +kernel), List.mem_of_getElem? (i := 920) (by decide +kernel)⟩
theorem lw_p46 : lw_okq (⟨"LineDiscModel", "plays", "(I)I"⟩, 11) := ⟨⟨by decide +kernel, by decide +kernel⟩, List.mem_of_getElem? (i := 801) (by decide +kernel), List.mem_of_getElem? (i := 937) (by decide +kernel), List.mem_of_getElem? (i := 938) (by decide +kernel)⟩
theorem lw_p47 : lw_okq (⟨"LineDiscModel", "turnOf", "(I)I"⟩, 11) := ⟨⟨by decide +kernel, by decide +kernel⟩, List.mem_of_getElem? (i := 801) (by decide +kernel), List.mem_of_getElem? (i := 941) (by decide +kernel), List.mem_of_getElem? (i := 942) (by decide +kernel)⟩
def lw_privs_3 : List (MethodName × Nat) := [(⟨"LineDiscModel", "presses", "(III)I"⟩, 11), (⟨"LineDiscModel", "isFrame", "(I)Z"⟩, 11), (⟨"LineDiscModel", "frames", "()I"⟩, 11), (⟨"LineDiscModel", "start", "(I)I"⟩, 11), (⟨"LineDiscModel", "dataSymbol", "(II)I"⟩, 11), (⟨"LineDiscModel", "findPressed", "(II)I"⟩, 11), (⟨"LineDiscModel", "act", "(I)I"⟩, 11), (⟨"LineDiscModel", "putBack", "()V"⟩, 11), (⟨"LineDiscModel", "scratches", "(IIII)I"⟩, 11), (⟨"LineDiscModel", "damaged", "()I"⟩, 11), (⟨"LineDiscModel", "lay", "(I)V"⟩, 11), (⟨"LineDiscModel", "framesOf", "(I)I"⟩, 11), (⟨"LineDiscModel", "damages", "(III)Z"⟩, 11), (⟨"LineDiscModel", "polishes", "(I)I"⟩, 11), (⟨"LineDiscModel", "plays", "(I)I"⟩, 11), (⟨"LineDiscModel", "turnOf", "(I)I"⟩, 11)]
theorem lw_r3 : ∀ q ∈ lw_privs_3, lw_okq q := List.forall_mem_cons.mpr ⟨lw_p32, List.forall_mem_cons.mpr ⟨lw_p33, List.forall_mem_cons.mpr ⟨lw_p34, List.forall_mem_cons.mpr ⟨lw_p35, List.forall_mem_cons.mpr ⟨lw_p36, List.forall_mem_cons.mpr ⟨lw_p37, List.forall_mem_cons.mpr ⟨lw_p38, List.forall_mem_cons.mpr ⟨lw_p39, List.forall_mem_cons.mpr ⟨lw_p40, List.forall_mem_cons.mpr ⟨lw_p41, List.forall_mem_cons.mpr ⟨lw_p42, List.forall_mem_cons.mpr ⟨lw_p43, List.forall_mem_cons.mpr ⟨lw_p44, List.forall_mem_cons.mpr ⟨lw_p45, List.forall_mem_cons.mpr ⟨lw_p46, List.forall_mem_cons.mpr ⟨lw_p47, fun _ h => absurd h List.not_mem_nil⟩⟩⟩⟩⟩⟩⟩⟩⟩⟩⟩⟩⟩⟩⟩⟩
theorem lw_p48 : lw_okq (⟨"LineDiscModel", "tick", "(I)V"⟩, 11) := ⟨⟨by decide +kernel, by decide +kernel⟩, List.mem_of_getElem? (i := 801) (by decide +kernel), List.mem_of_getElem? (i := 945) (by decide +kernel), List.mem_of_getElem? (i := 946) (by decide +kernel)⟩
theorem lw_p49 : lw_okq (⟨"LineDiscModel", "isNear", "(I)Z"⟩, 11) := ⟨⟨by decide +kernel, by decide +kernel⟩, List.mem_of_getElem? (i := 801) (by decide +kernel), List.mem_of_getElem? (i := 949) (by decide +kernel), List.mem_of_getElem? (i := 950) (by decide +kernel)⟩
theorem lw_p50 : lw_okq (⟨"LineDiscModel", "seeks", "(I)I"⟩, 11) := ⟨⟨by decide +kernel, by decide +kernel⟩, List.mem_of_getElem? (i := 801) (by decide +kernel), List.mem_of_getElem? (i := 960) (by decide +kernel), List.mem_of_getElem? (i := 961) (by decide +kernel)⟩
theorem lw_p51 : lw_okq (⟨"LineDiscModel", "jumps", "(I)V"⟩, 11) := ⟨⟨by decide +kernel, by decide +kernel⟩, List.mem_of_getElem? (i := 801) (by decide +kernel), List.mem_of_getElem? (i := 964) (by decide +kernel), List.mem_of_getElem? (i := 965) (by decide +kernel)⟩
theorem lw_p52 : lw_okq (⟨"LineDiscModel", "go", "(Z)I"⟩, 11) := ⟨⟨by decide +kernel, by decide +kernel⟩, List.mem_of_getElem? (i := 801) (by decide +kernel), List.mem_of_getElem? (i := 980) (by decide +kernel), List.mem_of_getElem? (i := 981) (by decide +kernel)⟩
theorem lw_p53 : lw_okq (⟨"LineDiscModel", "isNext", "(I)Z"⟩, 11) := ⟨⟨by decide +kernel, by decide +kernel⟩, List.mem_of_getElem? (i := 801) (by decide +kernel), List.mem_of_getElem? (i := 984) (by decide +kernel), List.mem_of_getElem? (i := 985) (by decide +kernel)⟩
theorem lw_p54 : lw_okq (⟨"LineDiscModel", "sign", "(II)I"⟩, 11) := ⟨⟨by decide +kernel, by decide +kernel⟩, List.mem_of_getElem? (i := 801) (by decide +kernel), List.mem_of_getElem? (i := 988) (by decide +kernel), List.mem_of_getElem? (i := 989) (by decide +kernel)⟩
theorem lw_p55 : lw_okq (⟨"LineDiscModel", "orderOfS", "(Z)I"⟩, 11) := ⟨⟨by decide +kernel, by decide +kernel⟩, List.mem_of_getElem? (i := 801) (by decide +kernel), List.mem_of_getElem? (i := 992) (by decide +kernel), List.mem_of_getElem? (i := 993) (by decide +kernel)⟩
theorem lw_p56 : lw_okq (⟨"LineDiscModel", "signs", "(IIII)V"⟩, 11) := ⟨⟨by decide +kernel, by decide +kernel⟩, List.mem_of_getElem? (i := 801) (by decide +kernel), List.mem_of_getElem? (i := 996) (by decide +kernel), List.mem_of_getElem? (i := 997) (by decide +kernel)⟩
theorem lw_p57 : lw_okq (⟨"LineDiscModel", "number", "(II)I"⟩, 11) := ⟨⟨by decide +kernel, by decide +kernel⟩, List.mem_of_getElem? (i := 801) (by decide +kernel), List.mem_of_getElem? (i := 1000) (by decide +kernel), List.mem_of_getElem? (i := 1001) (by decide +kernel)⟩
theorem lw_p58 : lw_okq (⟨"LineDiscModel", "behind", "(III)I"⟩, 11) := ⟨⟨by decide +kernel, by decide +kernel⟩, List.mem_of_getElem? (i := 801) (by decide +kernel), List.mem_of_getElem? (i := 1004) (by decide +kernel), List.mem_of_getElem? (i := 1005) (by decide +kernel)⟩
theorem lw_p59 : lw_okq (⟨"LineDiscModel", "orderOfP", "(Z)I"⟩, 11) := ⟨⟨by decide +kernel, by decide +kernel⟩, List.mem_of_getElem? (i := 801) (by decide +kernel), List.mem_of_getElem? (i := 1008) (by decide +kernel), List.mem_of_getElem? (i := 1009) (by decide +kernel)⟩
theorem lw_p60 : lw_okq (⟨"LineDiscModel", "hasGroup", "(I)Z"⟩, 11) := ⟨⟨by decide +kernel, by decide +kernel⟩, List.mem_of_getElem? (i := 801) (by decide +kernel), List.mem_of_getElem? (i := 1032) (by decide +kernel), List.mem_of_getElem? (i := 1033) (by decide +kernel)⟩
theorem lw_p61 : lw_okq (⟨"LineDiscModel", "how", "(I)I"⟩, 11) := ⟨⟨by decide +kernel, by decide +kernel⟩, List.mem_of_getElem? (i := 801) (by decide +kernel), List.mem_of_getElem? (i := 1036) (by decide +kernel), List.mem_of_getElem? (i := 1037) (by decide +kernel)⟩
theorem lw_p62 : lw_okq (⟨"LineDiscModel", "isSound", "(I)Z"⟩, 11) := ⟨⟨by decide +kernel, by decide +kernel⟩, List.mem_of_getElem? (i := 801) (by decide +kernel), List.mem_of_getElem? (i := 1040) (by decide +kernel), List.mem_of_getElem? (i := 1041) (by decide +kernel)⟩
theorem lw_p63 : lw_okq (⟨"LineDiscModel", "pits", "(I)I"⟩, 11) := ⟨⟨by decide +kernel, by decide +kernel⟩, List.mem_of_getElem? (i := 801) (by decide +kernel), List.mem_of_getElem? (i := 1047) (by decide +kernel), List.mem_of_getElem? (i := 1048) (by decide +kernel)⟩
def lw_privs_4 : List (MethodName × Nat) := [(⟨"LineDiscModel", "tick", "(I)V"⟩, 11), (⟨"LineDiscModel", "isNear", "(I)Z"⟩, 11), (⟨"LineDiscModel", "seeks", "(I)I"⟩, 11), (⟨"LineDiscModel", "jumps", "(I)V"⟩, 11), (⟨"LineDiscModel", "go", "(Z)I"⟩, 11), (⟨"LineDiscModel", "isNext", "(I)Z"⟩, 11), (⟨"LineDiscModel", "sign", "(II)I"⟩, 11), (⟨"LineDiscModel", "orderOfS", "(Z)I"⟩, 11), (⟨"LineDiscModel", "signs", "(IIII)V"⟩, 11), (⟨"LineDiscModel", "number", "(II)I"⟩, 11), (⟨"LineDiscModel", "behind", "(III)I"⟩, 11), (⟨"LineDiscModel", "orderOfP", "(Z)I"⟩, 11), (⟨"LineDiscModel", "hasGroup", "(I)Z"⟩, 11), (⟨"LineDiscModel", "how", "(I)I"⟩, 11), (⟨"LineDiscModel", "isSound", "(I)Z"⟩, 11), (⟨"LineDiscModel", "pits", "(I)I"⟩, 11)]
theorem lw_r4 : ∀ q ∈ lw_privs_4, lw_okq q := List.forall_mem_cons.mpr ⟨lw_p48, List.forall_mem_cons.mpr ⟨lw_p49, List.forall_mem_cons.mpr ⟨lw_p50, List.forall_mem_cons.mpr ⟨lw_p51, List.forall_mem_cons.mpr ⟨lw_p52, List.forall_mem_cons.mpr ⟨lw_p53, List.forall_mem_cons.mpr ⟨lw_p54, List.forall_mem_cons.mpr ⟨lw_p55, List.forall_mem_cons.mpr ⟨lw_p56, List.forall_mem_cons.mpr ⟨lw_p57, List.forall_mem_cons.mpr ⟨lw_p58, List.forall_mem_cons.mpr ⟨lw_p59, List.forall_mem_cons.mpr ⟨lw_p60, List.forall_mem_cons.mpr ⟨lw_p61, List.forall_mem_cons.mpr ⟨lw_p62, List.forall_mem_cons.mpr ⟨lw_p63, fun _ h => absurd h List.not_mem_nil⟩⟩⟩⟩⟩⟩⟩⟩⟩⟩⟩⟩⟩⟩⟩⟩
theorem lw_p64 : lw_okq (⟨"LineDiscModel", "symbolOf", "(II)I"⟩, 11) := ⟨⟨by decide +kernel, by decide +kernel⟩, List.mem_of_getElem? (i := 801) (by decide +kernel), List.mem_of_getElem? (i := 1051) (by decide +kernel), List.mem_of_getElem? (i := 1052) (by decide +kernel)⟩
theorem lw_p65 : lw_okq (⟨"LineDiscModel", "flats", "(I)I"⟩, 11) := ⟨⟨by decide +kernel, by decide +kernel⟩, List.mem_of_getElem? (i := 801) (by decide +kernel), List.mem_of_getElem? (i := 1058) (by decide +kernel), List.mem_of_getElem? (i := 1059) (by decide +kernel)⟩
theorem lw_p66 : lw_okq (⟨"LineDiscModel", "longestRun", "(I)I"⟩, 11) := ⟨⟨by decide +kernel, by decide +kernel⟩, List.mem_of_getElem? (i := 801) (by decide +kernel), List.mem_of_getElem? (i := 1065) (by decide +kernel), List.mem_of_getElem? (i := 1066) (by decide +kernel)⟩
theorem lw_p67 : lw_okq (⟨"LineDiscModel", "toldSymbol", "(II)I"⟩, 11) := ⟨⟨by decide +kernel, by decide +kernel⟩, List.mem_of_getElem? (i := 801) (by decide +kernel), List.mem_of_getElem? (i := 1073) (by decide +kernel), List.mem_of_getElem? (i := 1074) (by decide +kernel)⟩
theorem lw_p68 : lw_okq (⟨"LineDiscModel", "framesThat", "(I)I"⟩, 11) := ⟨⟨by decide +kernel, by decide +kernel⟩, List.mem_of_getElem? (i := 801) (by decide +kernel), List.mem_of_getElem? (i := 1089) (by decide +kernel), List.mem_of_getElem? (i := 1090) (by decide +kernel)⟩
def lw_privs_5 : List (MethodName × Nat) := [(⟨"LineDiscModel", "symbolOf", "(II)I"⟩, 11), (⟨"LineDiscModel", "flats", "(I)I"⟩, 11), (⟨"LineDiscModel", "longestRun", "(I)I"⟩, 11), (⟨"LineDiscModel", "toldSymbol", "(II)I"⟩, 11), (⟨"LineDiscModel", "framesThat", "(I)I"⟩, 11)]
theorem lw_r5 : ∀ q ∈ lw_privs_5, lw_okq q := List.forall_mem_cons.mpr ⟨lw_p64, List.forall_mem_cons.mpr ⟨lw_p65, List.forall_mem_cons.mpr ⟨lw_p66, List.forall_mem_cons.mpr ⟨lw_p67, List.forall_mem_cons.mpr ⟨lw_p68, fun _ h => absurd h List.not_mem_nil⟩⟩⟩⟩⟩
def lw_privs : List (MethodName × Nat) := lw_privs_1 ++ (lw_privs_2 ++ (lw_privs_3 ++ (lw_privs_4 ++ (lw_privs_5))))
def lw_tbl : List Cond := k2_sels lw_privs ++ tables_1
theorem lw_privs_ok : ∀ q ∈ lw_privs, lw_okq q := by
  show ∀ q ∈ lw_privs_1 ++ (lw_privs_2 ++ (lw_privs_3 ++ (lw_privs_4 ++ (lw_privs_5)))), lw_okq q
  exact List.forall_mem_append.mpr ⟨lw_r1, List.forall_mem_append.mpr ⟨lw_r2, List.forall_mem_append.mpr ⟨lw_r3, List.forall_mem_append.mpr ⟨lw_r4, lw_r5⟩⟩⟩⟩
/-- the streams that the claim lets the run draw from -/
abbrev lw_cs : List Choice := [Jvm.Choice.named "NaN.bits"]
theorem lw_bits : nanBits ∈ lw_cs := by first | decide | exact List.mem_cons_self | simp [lw_cs, nanBits]
-- ===== end of PART A; then your names; then what follows =====
def RX0 : String := "LineDisc$1"
def TX0 : u_T := fun k => match k with
  | _ => ("", "", "", false)
def tyX0 : Nat → FieldType := fun k => match k with
  | _ => .int
abbrev wsX00 : List Cond := u_ws RX0 TX0 0
theorem nmX0 : ∀ a, a < 0 → ∀ b, b < 0 → a ≠ b → (TX0 a).2.1 ≠ (TX0 b).2.1 := by decide +kernel
theorem tyX0_ok : ∀ k, k < 0 → parseFieldDescriptor (TX0 k).2.2.1 = some (tyX0 k) := by decide +kernel
def RX1 : String := "LineDisc$Head"
def TX1 : u_T := fun k => match k with
  | 0 => ("LineDisc$Head", "position", "I", false)
  | 1 => ("LineDisc$Head", "speed", "I", false)
  | 2 => ("LineDisc$Head", "ticks", "I", false)
  | 3 => ("LineDisc$Head", "read", "I", false)
  | 4 => ("LineDisc$Head", "readWhole", "I", false)
  | _ => ("LineDisc$Head", "jumps", "I", false)
def tyX1 : Nat → FieldType := fun k => match k with
  | 0 => .int
  | 1 => .int
  | 2 => .int
  | 3 => .int
  | 4 => .int
  | _ => .int
abbrev wsX10 : List Cond := u_ws RX1 TX1 6
theorem nmX1 : ∀ a, a < 6 → ∀ b, b < 6 → a ≠ b → (TX1 a).2.1 ≠ (TX1 b).2.1 := by decide +kernel
theorem tyX1_ok : ∀ k, k < 6 → parseFieldDescriptor (TX1 k).2.2.1 = some (tyX1 k) := by decide +kernel
abbrev cX1_init : ByteArray := prog_3_method_1_code
def yX1_init : MethodName := ⟨RX1, "<init>", "()V"⟩
abbrev cX1_copyFrom : ByteArray := prog_3_method_2_code
def yX1_copyFrom : MethodName := ⟨RX1, "copyFrom", "(LLineDisc$Head;)V"⟩
abbrev cX1_goToStart : ByteArray := prog_3_method_3_code
def yX1_goToStart : MethodName := ⟨RX1, "goToStart", "(LLineDisc$Settings;)V"⟩
abbrev cX1_spin : ByteArray := prog_3_method_4_code
def yX1_spin : MethodName := ⟨RX1, "spin", "(IILLineDisc$Settings;)V"⟩
abbrev cX1_isNear : ByteArray := prog_3_method_5_code
def yX1_isNear : MethodName := ⟨RX1, "isNear", "(ILLineDisc$Settings;)Z"⟩
abbrev cX1_readFrames : ByteArray := prog_3_method_6_code
def yX1_readFrames : MethodName := ⟨RX1, "readFrames", "(ILLineDisc$Settings;LLineDisc$Survey;)I"⟩
abbrev cX1_goTo : ByteArray := prog_3_method_7_code
def yX1_goTo : MethodName := ⟨RX1, "goTo", "(ILLineDisc$Settings;I)V"⟩
abbrev cX1_jump : ByteArray := prog_3_method_8_code
def yX1_jump : MethodName := ⟨RX1, "jump", "(IILLineDisc$Settings;I)I"⟩
def RX2 : String := "LineDisc$History"
def TX2 : u_T := fun k => match k with
  | 0 => ("LineDisc$History", "states", "[LLineDisc$State;", true)
  | _ => ("LineDisc$History", "size", "I", false)
def tyX2 : Nat → FieldType := fun k => match k with
  | 0 => .array (.object "LineDisc$State")
  | _ => .int
abbrev wsX20 : List Cond := u_ws RX2 TX2 2
theorem nmX2 : ∀ a, a < 2 → ∀ b, b < 2 → a ≠ b → (TX2 a).2.1 ≠ (TX2 b).2.1 := by decide +kernel
theorem tyX2_ok : ∀ k, k < 2 → parseFieldDescriptor (TX2 k).2.2.1 = some (tyX2 k) := by decide +kernel
abbrev cX2_init : ByteArray := prog_4_method_1_code
def yX2_init : MethodName := ⟨RX2, "<init>", "()V"⟩
abbrev cX2_add : ByteArray := prog_4_method_2_code
def yX2_add : MethodName := ⟨RX2, "add", "(LLineDisc$State;)V"⟩
abbrev cX2_takeLatest : ByteArray := prog_4_method_3_code
def yX2_takeLatest : MethodName := ⟨RX2, "takeLatest", "(LLineDisc$State;)Z"⟩
abbrev cX2_dropOldest : ByteArray := prog_4_method_4_code
def yX2_dropOldest : MethodName := ⟨RX2, "dropOldest", "()V"⟩
abbrev cX2_stateAt : ByteArray := prog_4_method_5_code
def yX2_stateAt : MethodName := ⟨RX2, "stateAt", "(I)LLineDisc$State;"⟩
def RX3 : String := "LineDisc$Orders"
def TX3 : u_T := fun k => match k with
  | 0 => ("LineDisc$Orders", "signs", "[C", true)
  | 1 => ("LineDisc$Orders", "length", "I", false)
  | 2 => ("LineDisc$Orders", "words", "[LLineDisc$Word;", true)
  | 3 => ("LineDisc$Orders", "numbers", "[I", true)
  | 4 => ("LineDisc$Orders", "size", "I", false)
  | _ => ("LineDisc$Orders", "place", "I", false)
def tyX3 : Nat → FieldType := fun k => match k with
  | 0 => .array .char
  | 1 => .int
  | 2 => .array (.object "LineDisc$Word")
  | 3 => .array .int
  | 4 => .int
  | _ => .int
abbrev wsX30 : List Cond := u_ws RX3 TX3 6
theorem nmX3 : ∀ a, a < 6 → ∀ b, b < 6 → a ≠ b → (TX3 a).2.1 ≠ (TX3 b).2.1 := by decide +kernel
theorem tyX3_ok : ∀ k, k < 6 → parseFieldDescriptor (TX3 k).2.2.1 = some (tyX3 k) := by decide +kernel
abbrev cX3_init : ByteArray := prog_5_method_1_code
def yX3_init : MethodName := ⟨RX3, "<init>", "()V"⟩
abbrev cX3_append : ByteArray := prog_5_method_2_code
def yX3_append : MethodName := ⟨RX3, "append", "(C)Z"⟩
abbrev cX3_clear : ByteArray := prog_5_method_3_code
def yX3_clear : MethodName := ⟨RX3, "clear", "()I"⟩
abbrev cX3_wordOf : ByteArray := prog_5_method_4_code
def yX3_wordOf : MethodName := ⟨RX3, "wordOf", "(I)LLineDisc$Word;"⟩
abbrev cX3_numberOf : ByteArray := prog_5_method_5_code
def yX3_numberOf : MethodName := ⟨RX3, "numberOf", "(II)I"⟩
abbrev cX3_readAll : ByteArray := prog_5_method_6_code
def yX3_readAll : MethodName := ⟨RX3, "readAll", "()I"⟩
abbrev cX3_readOrder : ByteArray := prog_5_method_7_code
def yX3_readOrder : MethodName := ⟨RX3, "readOrder", "()Z"⟩
abbrev cX3_readWord : ByteArray := prog_5_method_8_code
def yX3_readWord : MethodName := ⟨RX3, "readWord", "()LLineDisc$Word;"⟩
abbrev cX3_sameAs : ByteArray := prog_5_method_9_code
def yX3_sameAs : MethodName := ⟨RX3, "sameAs", "(Ljava/lang/String;)I"⟩
abbrev cX3_readSign : ByteArray := prog_5_method_10_code
def yX3_readSign : MethodName := ⟨RX3, "readSign", "(C)Z"⟩
abbrev cX3_hasSign : ByteArray := prog_5_method_11_code
def yX3_hasSign : MethodName := ⟨RX3, "hasSign", "(IC)Z"⟩
abbrev cX3_readNumber : ByteArray := prog_5_method_12_code
def yX3_readNumber : MethodName := ⟨RX3, "readNumber", "(CI)Z"⟩
abbrev cX3_longerBy : ByteArray := prog_5_method_13_code
def yX3_longerBy : MethodName := ⟨RX3, "longerBy", "(IIC)I"⟩
def RX4 : String := "LineDisc$Scratches"
def TX4 : u_T := fun k => match k with
  | 0 => ("LineDisc$Scratches", "parts", "[I", true)
  | _ => ("LineDisc$Scratches", "size", "I", false)
def tyX4 : Nat → FieldType := fun k => match k with
  | 0 => .array .int
  | _ => .int
abbrev wsX40 : List Cond := u_ws RX4 TX4 2
theorem nmX4 : ∀ a, a < 2 → ∀ b, b < 2 → a ≠ b → (TX4 a).2.1 ≠ (TX4 b).2.1 := by decide +kernel
theorem tyX4_ok : ∀ k, k < 2 → parseFieldDescriptor (TX4 k).2.2.1 = some (tyX4 k) := by decide +kernel
abbrev cX4_init : ByteArray := prog_6_method_1_code
def yX4_init : MethodName := ⟨RX4, "<init>", "()V"⟩
abbrev cX4_add : ByteArray := prog_6_method_2_code
def yX4_add : MethodName := ⟨RX4, "add", "(IIII)Z"⟩
abbrev cX4_drop : ByteArray := prog_6_method_3_code
def yX4_drop : MethodName := ⟨RX4, "drop", "(I)V"⟩
abbrev cX4_has : ByteArray := prog_6_method_4_code
def yX4_has : MethodName := ⟨RX4, "has", "(I)Z"⟩
abbrev cX4_fromOf : ByteArray := prog_6_method_5_code
def yX4_fromOf : MethodName := ⟨RX4, "fromOf", "(I)I"⟩
abbrev cX4_toOf : ByteArray := prog_6_method_6_code
def yX4_toOf : MethodName := ⟨RX4, "toOf", "(I)I"⟩
abbrev cX4_innerOf : ByteArray := prog_6_method_7_code
def yX4_innerOf : MethodName := ⟨RX4, "innerOf", "(I)I"⟩
abbrev cX4_outerOf : ByteArray := prog_6_method_8_code
def yX4_outerOf : MethodName := ⟨RX4, "outerOf", "(I)I"⟩
abbrev cX4_copyFrom : ByteArray := prog_6_method_9_code
def yX4_copyFrom : MethodName := ⟨RX4, "copyFrom", "(LLineDisc$Scratches;)V"⟩
abbrev cX4_isLike : ByteArray := prog_6_method_10_code
def yX4_isLike : MethodName := ⟨RX4, "isLike", "(LLineDisc$Scratches;)Z"⟩
def RX5 : String := "LineDisc$Settings"
def TX5 : u_T := fun k => match k with
  | 0 => ("LineDisc$Settings", "framesAtFirst", "I", false)
  | 1 => ("LineDisc$Settings", "moreInEach", "I", false)
  | 2 => ("LineDisc$Settings", "motor", "I", false)
  | 3 => ("LineDisc$Settings", "off", "I", false)
  | 4 => ("LineDisc$Settings", "guess", "I", false)
  | _ => ("LineDisc$Settings", "jumpTicks", "I", false)
def tyX5 : Nat → FieldType := fun k => match k with
  | 0 => .int
  | 1 => .int
  | 2 => .int
  | 3 => .int
  | 4 => .int
  | _ => .int
abbrev wsX50 : List Cond := u_ws RX5 TX5 6
theorem nmX5 : ∀ a, a < 6 → ∀ b, b < 6 → a ≠ b → (TX5 a).2.1 ≠ (TX5 b).2.1 := by decide +kernel
theorem tyX5_ok : ∀ k, k < 6 → parseFieldDescriptor (TX5 k).2.2.1 = some (tyX5 k) := by decide +kernel
abbrev cX5_init : ByteArray := prog_7_method_1_code
def yX5_init : MethodName := ⟨RX5, "<init>", "()V"⟩
abbrev cX5_isSetting : ByteArray := prog_7_method_2_code
def yX5_isSetting : MethodName := ⟨RX5, "isSetting", "(I)Z"⟩
abbrev cX5_isInRange : ByteArray := prog_7_method_3_code
def yX5_isInRange : MethodName := ⟨RX5, "isInRange", "(II)Z"⟩
abbrev cX5_settingAt : ByteArray := prog_7_method_4_code
def yX5_settingAt : MethodName := ⟨RX5, "settingAt", "(I)I"⟩
abbrev cX5_change : ByteArray := prog_7_method_5_code
def yX5_change : MethodName := ⟨RX5, "change", "(II)V"⟩
abbrev cX5_copyFrom : ByteArray := prog_7_method_6_code
def yX5_copyFrom : MethodName := ⟨RX5, "copyFrom", "(LLineDisc$Settings;)V"⟩
abbrev cX5_hasSpiralOf : ByteArray := prog_7_method_7_code
def yX5_hasSpiralOf : MethodName := ⟨RX5, "hasSpiralOf", "(LLineDisc$Settings;)Z"⟩
abbrev cX5_framesOf : ByteArray := prog_7_method_8_code
def yX5_framesOf : MethodName := ⟨RX5, "framesOf", "(I)I"⟩
abbrev cX5_firstOf : ByteArray := prog_7_method_9_code
def yX5_firstOf : MethodName := ⟨RX5, "firstOf", "(I)I"⟩
abbrev cX5_allFrames : ByteArray := prog_7_method_10_code
def yX5_allFrames : MethodName := ⟨RX5, "allFrames", "()I"⟩
abbrev cX5_hasFrame : ByteArray := prog_7_method_11_code
def yX5_hasFrame : MethodName := ⟨RX5, "hasFrame", "(I)Z"⟩
abbrev cX5_turnOf : ByteArray := prog_7_method_12_code
def yX5_turnOf : MethodName := ⟨RX5, "turnOf", "(I)I"⟩
abbrev cX5_groups : ByteArray := prog_7_method_13_code
def yX5_groups : MethodName := ⟨RX5, "groups", "()I"⟩
abbrev cX5_groupOf : ByteArray := prog_7_method_14_code
def yX5_groupOf : MethodName := ⟨RX5, "groupOf", "(I)I"⟩
abbrev cX5_isCheck : ByteArray := prog_7_method_15_code
def yX5_isCheck : MethodName := ⟨RX5, "isCheck", "(I)Z"⟩
abbrev cX5_dataAhead : ByteArray := prog_7_method_16_code
def yX5_dataAhead : MethodName := ⟨RX5, "dataAhead", "(I)I"⟩
abbrev cX5_dataBehind : ByteArray := prog_7_method_17_code
def yX5_dataBehind : MethodName := ⟨RX5, "dataBehind", "(I)I"⟩
def RX6 : String := "LineDisc$State"
def TX6 : u_T := fun k => match k with
  | 0 => ("LineDisc$State", "settings", "LLineDisc$Settings;", true)
  | 1 => ("LineDisc$State", "scratches", "LLineDisc$Scratches;", true)
  | 2 => ("LineDisc$State", "symbols", "LLineDisc$Symbols;", true)
  | _ => ("LineDisc$State", "head", "LLineDisc$Head;", true)
def tyX6 : Nat → FieldType := fun k => match k with
  | 0 => .object "LineDisc$Settings"
  | 1 => .object "LineDisc$Scratches"
  | 2 => .object "LineDisc$Symbols"
  | _ => .object "LineDisc$Head"
abbrev wsX60 : List Cond := u_ws RX6 TX6 4
theorem nmX6 : ∀ a, a < 4 → ∀ b, b < 4 → a ≠ b → (TX6 a).2.1 ≠ (TX6 b).2.1 := by decide +kernel
theorem tyX6_ok : ∀ k, k < 4 → parseFieldDescriptor (TX6 k).2.2.1 = some (tyX6 k) := by decide +kernel
abbrev cX6_init : ByteArray := prog_8_method_1_code
def yX6_init : MethodName := ⟨RX6, "<init>", "()V"⟩
abbrev cX6_copyFrom : ByteArray := prog_8_method_2_code
def yX6_copyFrom : MethodName := ⟨RX6, "copyFrom", "(LLineDisc$State;)V"⟩
def RX7 : String := "LineDisc$Survey"
def TX7 : u_T := fun k => match k with
  | 0 => ("LineDisc$Survey", "spiral", "LLineDisc$Settings;", true)
  | 1 => ("LineDisc$Survey", "scratches", "LLineDisc$Scratches;", true)
  | 2 => ("LineDisc$Survey", "hits", "[I", true)
  | _ => ("LineDisc$Survey", "hows", "[I", true)
def tyX7 : Nat → FieldType := fun k => match k with
  | 0 => .object "LineDisc$Settings"
  | 1 => .object "LineDisc$Scratches"
  | 2 => .array .int
  | _ => .array .int
abbrev wsX70 : List Cond := u_ws RX7 TX7 4
theorem nmX7 : ∀ a, a < 4 → ∀ b, b < 4 → a ≠ b → (TX7 a).2.1 ≠ (TX7 b).2.1 := by decide +kernel
theorem tyX7_ok : ∀ k, k < 4 → parseFieldDescriptor (TX7 k).2.2.1 = some (tyX7 k) := by decide +kernel
abbrev cX7_init : ByteArray := prog_9_method_1_code
def yX7_init : MethodName := ⟨RX7, "<init>", "()V"⟩
abbrev cX7_of : ByteArray := prog_9_method_2_code
def yX7_of : MethodName := ⟨RX7, "of", "(LLineDisc$State;)LLineDisc$Survey;"⟩
abbrev cX7_markScratch : ByteArray := prog_9_method_3_code
def yX7_markScratch : MethodName := ⟨RX7, "markScratch", "(I)V"⟩
abbrev cX7_markRow : ByteArray := prog_9_method_4_code
def yX7_markRow : MethodName := ⟨RX7, "markRow", "(III)V"⟩
abbrev cX7_judge : ByteArray := prog_9_method_5_code
def yX7_judge : MethodName := ⟨RX7, "judge", "(I)V"⟩
abbrev cX7_judgeGroup : ByteArray := prog_9_method_6_code
def yX7_judgeGroup : MethodName := ⟨RX7, "judgeGroup", "(III)V"⟩
abbrev cX7_canBeFilled : ByteArray := prog_9_method_7_code
def yX7_canBeFilled : MethodName := ⟨RX7, "canBeFilled", "(II)Z"⟩
abbrev cX7_missingWithout : ByteArray := prog_9_method_8_code
def yX7_missingWithout : MethodName := ⟨RX7, "missingWithout", "(I)I"⟩
abbrev cX7_isDamaged : ByteArray := prog_9_method_9_code
def yX7_isDamaged : MethodName := ⟨RX7, "isDamaged", "(I)Z"⟩
abbrev cX7_howIs : ByteArray := prog_9_method_10_code
def yX7_howIs : MethodName := ⟨RX7, "howIs", "(I)I"⟩
abbrev cX7_damagedIn : ByteArray := prog_9_method_11_code
def yX7_damagedIn : MethodName := ⟨RX7, "damagedIn", "(III)I"⟩
abbrev cX7_framesThatAre : ByteArray := prog_9_method_12_code
def yX7_framesThatAre : MethodName := ⟨RX7, "framesThatAre", "(I)I"⟩
def RX8 : String := "LineDisc$Symbols"
def TX8 : u_T := fun k => match k with
  | 0 => ("LineDisc$Symbols", "cells", "[I", true)
  | 1 => ("LineDisc$Symbols", "pressed", "[I", true)
  | _ => ("LineDisc$Symbols", "size", "I", false)
def tyX8 : Nat → FieldType := fun k => match k with
  | 0 => .array .int
  | 1 => .array .int
  | _ => .int
abbrev wsX80 : List Cond := u_ws RX8 TX8 3
theorem nmX8 : ∀ a, a < 3 → ∀ b, b < 3 → a ≠ b → (TX8 a).2.1 ≠ (TX8 b).2.1 := by decide +kernel
theorem tyX8_ok : ∀ k, k < 3 → parseFieldDescriptor (TX8 k).2.2.1 = some (tyX8 k) := by decide +kernel
abbrev cX8_init : ByteArray := prog_10_method_1_code
def yX8_init : MethodName := ⟨RX8, "<init>", "()V"⟩
abbrev cX8_atFirst : ByteArray := prog_10_method_2_code
def yX8_atFirst : MethodName := ⟨RX8, "atFirst", "(II)I"⟩
abbrev cX8_standsAt : ByteArray := prog_10_method_3_code
def yX8_standsAt : MethodName := ⟨RX8, "standsAt", "(II)I"⟩
abbrev cX8_dataAt : ByteArray := prog_10_method_4_code
def yX8_dataAt : MethodName := ⟨RX8, "dataAt", "(II)I"⟩
abbrev cX8_indexOf : ByteArray := prog_10_method_5_code
def yX8_indexOf : MethodName := ⟨RX8, "indexOf", "(I)I"⟩
abbrev cX8_write : ByteArray := prog_10_method_6_code
def yX8_write : MethodName := ⟨RX8, "write", "(III)Z"⟩
abbrev cX8_drop : ByteArray := prog_10_method_7_code
def yX8_drop : MethodName := ⟨RX8, "drop", "(I)V"⟩
abbrev cX8_copyFrom : ByteArray := prog_10_method_8_code
def yX8_copyFrom : MethodName := ⟨RX8, "copyFrom", "(LLineDisc$Symbols;)V"⟩
abbrev cX8_pitOf : ByteArray := prog_10_method_9_code
def yX8_pitOf : MethodName := ⟨RX8, "pitOf", "(I)I"⟩
abbrev cX8_flatOf : ByteArray := prog_10_method_10_code
def yX8_flatOf : MethodName := ⟨RX8, "flatOf", "(I)I"⟩
abbrev cX8_lengthOf : ByteArray := prog_10_method_11_code
def yX8_lengthOf : MethodName := ⟨RX8, "lengthOf", "(I)I"⟩
abbrev cX8_lengthOfAll : ByteArray := prog_10_method_12_code
def yX8_lengthOfAll : MethodName := ⟨RX8, "lengthOfAll", "(II)I"⟩
abbrev cX8_balanceOf : ByteArray := prog_10_method_13_code
def yX8_balanceOf : MethodName := ⟨RX8, "balanceOf", "(I)I"⟩
abbrev cX8_longestRunOf : ByteArray := prog_10_method_14_code
def yX8_longestRunOf : MethodName := ⟨RX8, "longestRunOf", "(I)I"⟩
def RX9 : String := "LineDisc$Word"
def TX9 : u_T := fun k => match k with
  | _ => ("", "", "", false)
def tyX9 : Nat → FieldType := fun k => match k with
  | _ => .int
abbrev wsX90 : List Cond := u_ws RX9 TX9 0
theorem nmX9 : ∀ a, a < 0 → ∀ b, b < 0 → a ≠ b → (TX9 a).2.1 ≠ (TX9 b).2.1 := by decide +kernel
theorem tyX9_ok : ∀ k, k < 0 → parseFieldDescriptor (TX9 k).2.2.1 = some (tyX9 k) := by decide +kernel
abbrev cX9_isKind : ByteArray := prog_11_method_4_code
def yX9_isKind : MethodName := ⟨RX9, "isKind", "(C)Z"⟩
abbrev cX9_lowest : ByteArray := prog_11_method_5_code
def yX9_lowest : MethodName := ⟨RX9, "lowest", "(C)I"⟩
abbrev cX9_highest : ByteArray := prog_11_method_6_code
def yX9_highest : MethodName := ⟨RX9, "highest", "(C)I"⟩
def RX10 : String := "LineDisc"
def TX10 : u_T := fun k => match k with
  | 0 => ("LineDisc", "now", "LLineDisc$State;", true)
  | 1 => ("LineDisc", "before", "LLineDisc$State;", true)
  | 2 => ("LineDisc", "snapshot", "LLineDisc$State;", true)
  | 3 => ("LineDisc", "kept", "Z", false)
  | 4 => ("LineDisc", "history", "LLineDisc$History;", true)
  | 5 => ("LineDisc", "orders", "LLineDisc$Orders;", true)
  | 6 => ("LineDisc", "survey", "LLineDisc$Survey;", true)
  | _ => ("LineDisc", "trial", "LLineDisc$Head;", true)
def tyX10 : Nat → FieldType := fun k => match k with
  | 0 => .object "LineDisc$State"
  | 1 => .object "LineDisc$State"
  | 2 => .object "LineDisc$State"
  | 3 => .boolean
  | 4 => .object "LineDisc$History"
  | 5 => .object "LineDisc$Orders"
  | 6 => .object "LineDisc$Survey"
  | _ => .object "LineDisc$Head"
abbrev wsX100 : List Cond := u_ws RX10 TX10 8
theorem nmX10 : ∀ a, a < 8 → ∀ b, b < 8 → a ≠ b → (TX10 a).2.1 ≠ (TX10 b).2.1 := by decide +kernel
theorem tyX10_ok : ∀ k, k < 8 → parseFieldDescriptor (TX10 k).2.2.1 = some (tyX10 k) := by decide +kernel
abbrev cX10_init : ByteArray := prog_1_method_1_code
def yX10_init : MethodName := ⟨RX10, "<init>", "()V"⟩
abbrev cX10_press : ByteArray := prog_1_method_2_code
def yX10_press : MethodName := ⟨RX10, "press", "(III)I"⟩
abbrev cX10_scratch : ByteArray := prog_1_method_3_code
def yX10_scratch : MethodName := ⟨RX10, "scratch", "(IIII)I"⟩
abbrev cX10_polish : ByteArray := prog_1_method_4_code
def yX10_polish : MethodName := ⟨RX10, "polish", "(I)I"⟩
abbrev cX10_set : ByteArray := prog_1_method_5_code
def yX10_set : MethodName := ⟨RX10, "set", "(II)I"⟩
abbrev cX10_play : ByteArray := prog_1_method_6_code
def yX10_play : MethodName := ⟨RX10, "play", "(I)I"⟩
abbrev cX10_seek : ByteArray := prog_1_method_7_code
def yX10_seek : MethodName := ⟨RX10, "seek", "(I)I"⟩
abbrev cX10_type : ByteArray := prog_1_method_8_code
def yX10_type : MethodName := ⟨RX10, "type", "(C)I"⟩
abbrev cX10_clearText : ByteArray := prog_1_method_9_code
def yX10_clearText : MethodName := ⟨RX10, "clearText", "()I"⟩
abbrev cX10_fault : ByteArray := prog_1_method_10_code
def yX10_fault : MethodName := ⟨RX10, "fault", "()I"⟩
abbrev cX10_doAll : ByteArray := prog_1_method_11_code
def yX10_doAll : MethodName := ⟨RX10, "doAll", "()I"⟩
abbrev cX10_undo : ByteArray := prog_1_method_12_code
def yX10_undo : MethodName := ⟨RX10, "undo", "()I"⟩
abbrev cX10_keep : ByteArray := prog_1_method_13_code
def yX10_keep : MethodName := ⟨RX10, "keep", "()I"⟩
abbrev cX10_restore : ByteArray := prog_1_method_14_code
def yX10_restore : MethodName := ⟨RX10, "restore", "()I"⟩
abbrev cX10_frame : ByteArray := prog_1_method_15_code
def yX10_frame : MethodName := ⟨RX10, "frame", "(II)I"⟩
abbrev cX10_symbol : ByteArray := prog_1_method_16_code
def yX10_symbol : MethodName := ⟨RX10, "symbol", "(IIZ)I"⟩
abbrev cX10_turn : ByteArray := prog_1_method_17_code
def yX10_turn : MethodName := ⟨RX10, "turn", "(II)I"⟩
abbrev cX10_scratchOf : ByteArray := prog_1_method_18_code
def yX10_scratchOf : MethodName := ⟨RX10, "scratchOf", "(II)I"⟩
abbrev cX10_count : ByteArray := prog_1_method_19_code
def yX10_count : MethodName := ⟨RX10, "count", "(I)I"⟩
abbrev cX10_right : ByteArray := prog_1_method_20_code
def yX10_right : MethodName := ⟨RX10, "right", "()D"⟩
abbrev cX10_ifSought : ByteArray := prog_1_method_21_code
def yX10_ifSought : MethodName := ⟨RX10, "ifSought", "(II)I"⟩
abbrev cX10_bestGuess : ByteArray := prog_1_method_22_code
def yX10_bestGuess : MethodName := ⟨RX10, "bestGuess", "(I)I"⟩
abbrev cX10_polishFirst : ByteArray := prog_1_method_23_code
def yX10_polishFirst : MethodName := ⟨RX10, "polishFirst", "(I)I"⟩
abbrev cX10_gap : ByteArray := prog_1_method_24_code
def yX10_gap : MethodName := ⟨RX10, "gap", "(I)I"⟩
abbrev cX10_pressSymbol : ByteArray := prog_1_method_25_code
def yX10_pressSymbol : MethodName := ⟨RX10, "pressSymbol", "(III)I"⟩
abbrev cX10_addScratch : ByteArray := prog_1_method_26_code
def yX10_addScratch : MethodName := ⟨RX10, "addScratch", "(IIII)I"⟩
abbrev cX10_polishAway : ByteArray := prog_1_method_27_code
def yX10_polishAway : MethodName := ⟨RX10, "polishAway", "(I)I"⟩
abbrev cX10_playFrames : ByteArray := prog_1_method_28_code
def yX10_playFrames : MethodName := ⟨RX10, "playFrames", "(I)I"⟩
abbrev cX10_seekFrame : ByteArray := prog_1_method_29_code
def yX10_seekFrame : MethodName := ⟨RX10, "seekFrame", "(I)I"⟩
abbrev cX10_doOrder : ByteArray := prog_1_method_30_code
def yX10_doOrder : MethodName := ⟨RX10, "doOrder", "(I)I"⟩
abbrev cX10_recorded : ByteArray := prog_1_method_31_code
def yX10_recorded : MethodName := ⟨RX10, "recorded", "(I)I"⟩
abbrev cX10_countSetting : ByteArray := prog_1_method_32_code
def yX10_countSetting : MethodName := ⟨RX10, "countSetting", "(I)I"⟩
abbrev cX10_toldSymbol : ByteArray := prog_1_method_33_code
def yX10_toldSymbol : MethodName := ⟨RX10, "toldSymbol", "(II)I"⟩
abbrev cX10_filledSymbol : ByteArray := prog_1_method_34_code
def yX10_filledSymbol : MethodName := ⟨RX10, "filledSymbol", "(II)I"⟩
abbrev cX10_isToldRight : ByteArray := prog_1_method_35_code
def yX10_isToldRight : MethodName := ⟨RX10, "isToldRight", "(I)Z"⟩
abbrev cX10_trySeek : ByteArray := prog_1_method_36_code
def yX10_trySeek : MethodName := ⟨RX10, "trySeek", "(II)I"⟩
abbrev cX10_isPlace : ByteArray := prog_1_method_37_code
def yX10_isPlace : MethodName := ⟨RX10, "isPlace", "(I)Z"⟩
abbrev cX10_at : ByteArray := prog_1_method_38_code
def yX10_at : MethodName := ⟨RX10, "at", "([II)I"⟩
abbrev cX10_put : ByteArray := prog_1_method_39_code
def yX10_put : MethodName := ⟨RX10, "put", "([III)V"⟩
def RX11 : String := "LineDiscModel"
def TX11 : u_T := fun k => match k with
  | 0 => ("LineDiscModel", "s", "[I", true)
  | 1 => ("LineDiscModel", "aside", "[I", true)
  | 2 => ("LineDiscModel", "before", "[I", true)
  | 3 => ("LineDiscModel", "known", "I", false)
  | 4 => ("LineDiscModel", "kept", "[I", true)
  | 5 => ("LineDiscModel", "isKept", "Z", false)
  | 6 => ("LineDiscModel", "text", "[I", true)
  | 7 => ("LineDiscModel", "length", "I", false)
  | 8 => ("LineDiscModel", "isDamaged", "[Z", true)
  | 9 => ("LineDiscModel", "place", "I", false)
  | _ => ("LineDiscModel", "isWrong", "Z", false)
def tyX11 : Nat → FieldType := fun k => match k with
  | 0 => .array .int
  | 1 => .array .int
  | 2 => .array .int
  | 3 => .int
  | 4 => .array .int
  | 5 => .boolean
  | 6 => .array .int
  | 7 => .int
  | 8 => .array .boolean
  | 9 => .int
  | _ => .boolean
abbrev wsX110 : List Cond := u_ws RX11 TX11 11
theorem nmX11 : ∀ a, a < 11 → ∀ b, b < 11 → a ≠ b → (TX11 a).2.1 ≠ (TX11 b).2.1 := by decide +kernel
theorem tyX11_ok : ∀ k, k < 11 → parseFieldDescriptor (TX11 k).2.2.1 = some (tyX11 k) := by decide +kernel
abbrev cX11_init : ByteArray := prog_13_method_1_code
def yX11_init : MethodName := ⟨RX11, "<init>", "()V"⟩
abbrev cX11_in : ByteArray := prog_13_method_3_code
def yX11_in : MethodName := ⟨RX11, "in", "(III)Z"⟩
abbrev cX11_size : ByteArray := prog_13_method_4_code
def yX11_size : MethodName := ⟨RX11, "size", "(I)I"⟩
abbrev cX11_putAside : ByteArray := prog_13_method_5_code
def yX11_putAside : MethodName := ⟨RX11, "putAside", "()V"⟩
abbrev cX11_putBack : ByteArray := prog_13_method_6_code
def yX11_putBack : MethodName := ⟨RX11, "putBack", "()V"⟩
abbrev cX11_act : ByteArray := prog_13_method_7_code
def yX11_act : MethodName := ⟨RX11, "act", "(I)I"⟩
abbrev cX11_framesOf : ByteArray := prog_13_method_8_code
def yX11_framesOf : MethodName := ⟨RX11, "framesOf", "(I)I"⟩
abbrev cX11_start : ByteArray := prog_13_method_9_code
def yX11_start : MethodName := ⟨RX11, "start", "(I)I"⟩
abbrev cX11_frames : ByteArray := prog_13_method_10_code
def yX11_frames : MethodName := ⟨RX11, "frames", "()I"⟩
abbrev cX11_isFrame : ByteArray := prog_13_method_11_code
def yX11_isFrame : MethodName := ⟨RX11, "isFrame", "(I)Z"⟩
abbrev cX11_turnOf : ByteArray := prog_13_method_12_code
def yX11_turnOf : MethodName := ⟨RX11, "turnOf", "(I)I"⟩
abbrev cX11_isCheck : ByteArray := prog_13_method_13_code
def yX11_isCheck : MethodName := ⟨RX11, "isCheck", "(I)Z"⟩
abbrev cX11_hasGroup : ByteArray := prog_13_method_14_code
def yX11_hasGroup : MethodName := ⟨RX11, "hasGroup", "(I)Z"⟩
abbrev cX11_findPressed : ByteArray := prog_13_method_15_code
def yX11_findPressed : MethodName := ⟨RX11, "findPressed", "(II)I"⟩
abbrev cX11_atFirst : ByteArray := prog_13_method_16_code
def yX11_atFirst : MethodName := ⟨RX11, "atFirst", "(II)I"⟩
abbrev cX11_dataSymbol : ByteArray := prog_13_method_17_code
def yX11_dataSymbol : MethodName := ⟨RX11, "dataSymbol", "(II)I"⟩
abbrev cX11_symbolOf : ByteArray := prog_13_method_18_code
def yX11_symbolOf : MethodName := ⟨RX11, "symbolOf", "(II)I"⟩
abbrev cX11_pit : ByteArray := prog_13_method_19_code
def yX11_pit : MethodName := ⟨RX11, "pit", "(I)I"⟩
abbrev cX11_flat : ByteArray := prog_13_method_20_code
def yX11_flat : MethodName := ⟨RX11, "flat", "(I)I"⟩
abbrev cX11_pits : ByteArray := prog_13_method_21_code
def yX11_pits : MethodName := ⟨RX11, "pits", "(I)I"⟩
abbrev cX11_flats : ByteArray := prog_13_method_22_code
def yX11_flats : MethodName := ⟨RX11, "flats", "(I)I"⟩
abbrev cX11_longestRun : ByteArray := prog_13_method_23_code
def yX11_longestRun : MethodName := ⟨RX11, "longestRun", "(I)I"⟩
abbrev cX11_damages : ByteArray := prog_13_method_24_code
def yX11_damages : MethodName := ⟨RX11, "damages", "(III)Z"⟩
abbrev cX11_lay : ByteArray := prog_13_method_25_code
def yX11_lay : MethodName := ⟨RX11, "lay", "(I)V"⟩
abbrev cX11_damaged : ByteArray := prog_13_method_26_code
def yX11_damaged : MethodName := ⟨RX11, "damaged", "()I"⟩
abbrev cX11_isSound : ByteArray := prog_13_method_27_code
def yX11_isSound : MethodName := ⟨RX11, "isSound", "(I)Z"⟩
abbrev cX11_beside : ByteArray := prog_13_method_28_code
def yX11_beside : MethodName := ⟨RX11, "beside", "(II)I"⟩
abbrev cX11_how : ByteArray := prog_13_method_29_code
def yX11_how : MethodName := ⟨RX11, "how", "(I)I"⟩
abbrev cX11_toldSymbol : ByteArray := prog_13_method_30_code
def yX11_toldSymbol : MethodName := ⟨RX11, "toldSymbol", "(II)I"⟩
abbrev cX11_framesThat : ByteArray := prog_13_method_31_code
def yX11_framesThat : MethodName := ⟨RX11, "framesThat", "(I)I"⟩
abbrev cX11_tick : ByteArray := prog_13_method_32_code
def yX11_tick : MethodName := ⟨RX11, "tick", "(I)V"⟩
abbrev cX11_isNear : ByteArray := prog_13_method_33_code
def yX11_isNear : MethodName := ⟨RX11, "isNear", "(I)Z"⟩
abbrev cX11_jumps : ByteArray := prog_13_method_34_code
def yX11_jumps : MethodName := ⟨RX11, "jumps", "(I)V"⟩
abbrev cX11_seeks : ByteArray := prog_13_method_35_code
def yX11_seeks : MethodName := ⟨RX11, "seeks", "(I)I"⟩
abbrev cX11_plays : ByteArray := prog_13_method_36_code
def yX11_plays : MethodName := ⟨RX11, "plays", "(I)I"⟩
abbrev cX11_presses : ByteArray := prog_13_method_37_code
def yX11_presses : MethodName := ⟨RX11, "presses", "(III)I"⟩
abbrev cX11_scratches : ByteArray := prog_13_method_38_code
def yX11_scratches : MethodName := ⟨RX11, "scratches", "(IIII)I"⟩
abbrev cX11_polishes : ByteArray := prog_13_method_39_code
def yX11_polishes : MethodName := ⟨RX11, "polishes", "(I)I"⟩
abbrev cX11_press : ByteArray := prog_13_method_40_code
def yX11_press : MethodName := ⟨RX11, "press", "(III)I"⟩
abbrev cX11_scratch : ByteArray := prog_13_method_41_code
def yX11_scratch : MethodName := ⟨RX11, "scratch", "(IIII)I"⟩
abbrev cX11_polish : ByteArray := prog_13_method_42_code
def yX11_polish : MethodName := ⟨RX11, "polish", "(I)I"⟩
abbrev cX11_low : ByteArray := prog_13_method_43_code
def yX11_low : MethodName := ⟨RX11, "low", "(I)I"⟩
abbrev cX11_high : ByteArray := prog_13_method_44_code
def yX11_high : MethodName := ⟨RX11, "high", "(I)I"⟩
abbrev cX11_set : ByteArray := prog_13_method_45_code
def yX11_set : MethodName := ⟨RX11, "set", "(II)I"⟩
abbrev cX11_play : ByteArray := prog_13_method_46_code
def yX11_play : MethodName := ⟨RX11, "play", "(I)I"⟩
abbrev cX11_seek : ByteArray := prog_13_method_47_code
def yX11_seek : MethodName := ⟨RX11, "seek", "(I)I"⟩
abbrev cX11_type : ByteArray := prog_13_method_48_code
def yX11_type : MethodName := ⟨RX11, "type", "(C)I"⟩
abbrev cX11_clearText : ByteArray := prog_13_method_49_code
def yX11_clearText : MethodName := ⟨RX11, "clearText", "()I"⟩
abbrev cX11_sign : ByteArray := prog_13_method_50_code
def yX11_sign : MethodName := ⟨RX11, "sign", "(II)I"⟩
abbrev cX11_isNext : ByteArray := prog_13_method_51_code
def yX11_isNext : MethodName := ⟨RX11, "isNext", "(I)Z"⟩
abbrev cX11_signs : ByteArray := prog_13_method_52_code
def yX11_signs : MethodName := ⟨RX11, "signs", "(IIII)V"⟩
abbrev cX11_number : ByteArray := prog_13_method_53_code
def yX11_number : MethodName := ⟨RX11, "number", "(II)I"⟩
abbrev cX11_behind : ByteArray := prog_13_method_54_code
def yX11_behind : MethodName := ⟨RX11, "behind", "(III)I"⟩
abbrev cX11_orderOfS : ByteArray := prog_13_method_55_code
def yX11_orderOfS : MethodName := ⟨RX11, "orderOfS", "(Z)I"⟩
abbrev cX11_orderOfP : ByteArray := prog_13_method_56_code
def yX11_orderOfP : MethodName := ⟨RX11, "orderOfP", "(Z)I"⟩
abbrev cX11_go : ByteArray := prog_13_method_57_code
def yX11_go : MethodName := ⟨RX11, "go", "(Z)I"⟩
abbrev cX11_fault : ByteArray := prog_13_method_58_code
def yX11_fault : MethodName := ⟨RX11, "fault", "()I"⟩
abbrev cX11_doAll : ByteArray := prog_13_method_59_code
def yX11_doAll : MethodName := ⟨RX11, "doAll", "()I"⟩
abbrev cX11_undo : ByteArray := prog_13_method_60_code
def yX11_undo : MethodName := ⟨RX11, "undo", "()I"⟩
abbrev cX11_keep : ByteArray := prog_13_method_61_code
def yX11_keep : MethodName := ⟨RX11, "keep", "()I"⟩
abbrev cX11_restore : ByteArray := prog_13_method_62_code
def yX11_restore : MethodName := ⟨RX11, "restore", "()I"⟩
abbrev cX11_frame : ByteArray := prog_13_method_63_code
def yX11_frame : MethodName := ⟨RX11, "frame", "(II)I"⟩
abbrev cX11_symbol : ByteArray := prog_13_method_64_code
def yX11_symbol : MethodName := ⟨RX11, "symbol", "(IIZ)I"⟩
abbrev cX11_turn : ByteArray := prog_13_method_65_code
def yX11_turn : MethodName := ⟨RX11, "turn", "(II)I"⟩
abbrev cX11_scratchOf : ByteArray := prog_13_method_66_code
def yX11_scratchOf : MethodName := ⟨RX11, "scratchOf", "(II)I"⟩
abbrev cX11_count : ByteArray := prog_13_method_67_code
def yX11_count : MethodName := ⟨RX11, "count", "(I)I"⟩
abbrev cX11_right : ByteArray := prog_13_method_68_code
def yX11_right : MethodName := ⟨RX11, "right", "()D"⟩
abbrev cX11_ifSought : ByteArray := prog_13_method_69_code
def yX11_ifSought : MethodName := ⟨RX11, "ifSought", "(II)I"⟩
abbrev cX11_bestGuess : ByteArray := prog_13_method_70_code
def yX11_bestGuess : MethodName := ⟨RX11, "bestGuess", "(I)I"⟩
abbrev cX11_polishFirst : ByteArray := prog_13_method_71_code
def yX11_polishFirst : MethodName := ⟨RX11, "polishFirst", "(I)I"⟩
abbrev cX11_gap : ByteArray := prog_13_method_72_code
def yX11_gap : MethodName := ⟨RX11, "gap", "(I)I"⟩
def RJx145de : String := "java/io/Serializable"
def TJx145de : u_T := fun k => match k with
  | _ => ("", "", "", false)
def tyJx145de : Nat → FieldType := fun k => match k with
  | _ => .int
abbrev wsJx145de0 : List Cond := u_ws RJx145de TJx145de 0
theorem nmJx145de : ∀ a, a < 0 → ∀ b, b < 0 → a ≠ b → (TJx145de a).2.1 ≠ (TJx145de b).2.1 := by decide +kernel
theorem tyJx145de_ok : ∀ k, k < 0 → parseFieldDescriptor (TJx145de k).2.2.1 = some (tyJx145de k) := by decide +kernel
def RJx9f9b0 : String := "java/lang/CharSequence"
def TJx9f9b0 : u_T := fun k => match k with
  | _ => ("", "", "", false)
def tyJx9f9b0 : Nat → FieldType := fun k => match k with
  | _ => .int
abbrev wsJx9f9b00 : List Cond := u_ws RJx9f9b0 TJx9f9b0 0
theorem nmJx9f9b0 : ∀ a, a < 0 → ∀ b, b < 0 → a ≠ b → (TJx9f9b0 a).2.1 ≠ (TJx9f9b0 b).2.1 := by decide +kernel
theorem tyJx9f9b0_ok : ∀ k, k < 0 → parseFieldDescriptor (TJx9f9b0 k).2.2.1 = some (tyJx9f9b0 k) := by decide +kernel
def RJxb160c : String := "java/lang/Comparable"
def TJxb160c : u_T := fun k => match k with
  | _ => ("", "", "", false)
def tyJxb160c : Nat → FieldType := fun k => match k with
  | _ => .int
abbrev wsJxb160c0 : List Cond := u_ws RJxb160c TJxb160c 0
theorem nmJxb160c : ∀ a, a < 0 → ∀ b, b < 0 → a ≠ b → (TJxb160c a).2.1 ≠ (TJxb160c b).2.1 := by decide +kernel
theorem tyJxb160c_ok : ∀ k, k < 0 → parseFieldDescriptor (TJxb160c k).2.2.1 = some (tyJxb160c k) := by decide +kernel
def RJx29ce0 : String := "java/lang/Enum"
def TJx29ce0 : u_T := fun k => match k with
  | _ => ("", "", "", false)
def tyJx29ce0 : Nat → FieldType := fun k => match k with
  | _ => .int
abbrev wsJx29ce00 : List Cond := u_ws RJx29ce0 TJx29ce0 0
theorem nmJx29ce0 : ∀ a, a < 0 → ∀ b, b < 0 → a ≠ b → (TJx29ce0 a).2.1 ≠ (TJx29ce0 b).2.1 := by decide +kernel
theorem tyJx29ce0_ok : ∀ k, k < 0 → parseFieldDescriptor (TJx29ce0 k).2.2.1 = some (tyJx29ce0 k) := by decide +kernel
abbrev cJx29ce0_ordinal_8abf5 : ByteArray := prog_14_method_2_code
def yJx29ce0_ordinal_8abf5 : MethodName := ⟨RJx29ce0, "ordinal", "()I"⟩
def RJ9 : String := "java/lang/Math"
def TJ9 : u_T := fun k => match k with
  | _ => ("", "", "", false)
def tyJ9 : Nat → FieldType := fun k => match k with
  | _ => .int
abbrev wsJ90 : List Cond := u_ws RJ9 TJ9 0
theorem nmJ9 : ∀ a, a < 0 → ∀ b, b < 0 → a ≠ b → (TJ9 a).2.1 ≠ (TJ9 b).2.1 := by decide +kernel
theorem tyJ9_ok : ∀ k, k < 0 → parseFieldDescriptor (TJ9 k).2.2.1 = some (tyJ9 k) := by decide +kernel
abbrev cJ9_abs_0f7a4 : ByteArray := prog_15_method_59_code
def yJ9_abs_0f7a4 : MethodName := ⟨RJ9, "abs", "(I)I"⟩
abbrev cJ9_max_7cf53 : ByteArray := prog_15_method_65_code
def yJ9_max_7cf53 : MethodName := ⟨RJ9, "max", "(II)I"⟩
abbrev cJ9_min_7cf53 : ByteArray := prog_15_method_69_code
def yJ9_min_7cf53 : MethodName := ⟨RJ9, "min", "(II)I"⟩
def RJ0 : String := "java/lang/String"
def TJ0 : u_T := fun k => match k with
  | _ => ("", "", "", false)
def tyJ0 : Nat → FieldType := fun k => match k with
  | _ => .int
abbrev wsJ00 : List Cond := u_ws RJ0 TJ0 0
theorem nmJ0 : ∀ a, a < 0 → ∀ b, b < 0 → a ≠ b → (TJ0 a).2.1 ≠ (TJ0 b).2.1 := by decide +kernel
theorem tyJ0_ok : ∀ k, k < 0 → parseFieldDescriptor (TJ0 k).2.2.1 = some (tyJ0 k) := by decide +kernel
abbrev cJ0_length_8abf5 : ByteArray := prog_16_method_54_code
def yJ0_length_8abf5 : MethodName := ⟨RJ0, "length", "()I"⟩
abbrev cJ0_charAt_5068e : ByteArray := prog_16_method_56_code
def yJ0_charAt_5068e : MethodName := ⟨RJ0, "charAt", "(I)C"⟩
abbrev cJ0_coder_7d493 : ByteArray := prog_16_method_152_code
def yJ0_coder_7d493 : MethodName := ⟨RJ0, "coder", "()B"⟩
abbrev cJ0_isLatin1_aae02 : ByteArray := prog_16_method_154_code
def yJ0_isLatin1_aae02 : MethodName := ⟨RJ0, "isLatin1", "()Z"⟩
abbrev cJ0_checkIndex_df160 : ByteArray := prog_16_method_155_code
def yJ0_checkIndex_df160 : MethodName := ⟨RJ0, "checkIndex", "(II)V"⟩
def RJ1 : String := "java/lang/StringLatin1"
def TJ1 : u_T := fun k => match k with
  | _ => ("", "", "", false)
def tyJ1 : Nat → FieldType := fun k => match k with
  | _ => .int
abbrev wsJ10 : List Cond := u_ws RJ1 TJ1 0
theorem nmJ1 : ∀ a, a < 0 → ∀ b, b < 0 → a ≠ b → (TJ1 a).2.1 ≠ (TJ1 b).2.1 := by decide +kernel
theorem tyJ1_ok : ∀ k, k < 0 → parseFieldDescriptor (TJ1 k).2.2.1 = some (tyJ1 k) := by decide +kernel
abbrev cJ1_charAt_3b067 : ByteArray := prog_17_method_2_code
def yJ1_charAt_3b067 : MethodName := ⟨RJ1, "charAt", "([BI)C"⟩
def RJ2 : String := "java/lang/StringUTF16"
def TJ2 : u_T := fun k => match k with
  | _ => ("", "", "", false)
def tyJ2 : Nat → FieldType := fun k => match k with
  | _ => .int
abbrev wsJ20 : List Cond := u_ws RJ2 TJ2 0
theorem nmJ2 : ∀ a, a < 0 → ∀ b, b < 0 → a ≠ b → (TJ2 a).2.1 ≠ (TJ2 b).2.1 := by decide +kernel
theorem tyJ2_ok : ∀ k, k < 0 → parseFieldDescriptor (TJ2 k).2.2.1 = some (tyJ2 k) := by decide +kernel
abbrev cJ2_getChar_3b067 : ByteArray := prog_18_method_5_code
def yJ2_getChar_3b067 : MethodName := ⟨RJ2, "getChar", "([BI)C"⟩
abbrev cJ2_length_9d52b : ByteArray := prog_18_method_6_code
def yJ2_length_9d52b : MethodName := ⟨RJ2, "length", "([B)I"⟩
abbrev cJ2_charAt_3b067 : ByteArray := prog_18_method_83_code
def yJ2_charAt_3b067 : MethodName := ⟨RJ2, "charAt", "([BI)C"⟩
abbrev cJ2_checkIndex_2214a : ByteArray := prog_18_method_91_code
def yJ2_checkIndex_2214a : MethodName := ⟨RJ2, "checkIndex", "(I[B)V"⟩
def RJ10 : String := "java/lang/System"
def TJ10 : u_T := fun k => match k with
  | _ => ("", "", "", false)
def tyJ10 : Nat → FieldType := fun k => match k with
  | _ => .int
abbrev wsJ100 : List Cond := u_ws RJ10 TJ10 0
theorem nmJ10 : ∀ a, a < 0 → ∀ b, b < 0 → a ≠ b → (TJ10 a).2.1 ≠ (TJ10 b).2.1 := by decide +kernel
theorem tyJ10_ok : ∀ k, k < 0 → parseFieldDescriptor (TJ10 k).2.2.1 = some (tyJ10 k) := by decide +kernel
def RJxfd54e : String := "java/lang/constant/Constable"
def TJxfd54e : u_T := fun k => match k with
  | _ => ("", "", "", false)
def tyJxfd54e : Nat → FieldType := fun k => match k with
  | _ => .int
abbrev wsJxfd54e0 : List Cond := u_ws RJxfd54e TJxfd54e 0
theorem nmJxfd54e : ∀ a, a < 0 → ∀ b, b < 0 → a ≠ b → (TJxfd54e a).2.1 ≠ (TJxfd54e b).2.1 := by decide +kernel
theorem tyJxfd54e_ok : ∀ k, k < 0 → parseFieldDescriptor (TJxfd54e k).2.2.1 = some (tyJxfd54e k) := by decide +kernel
def RJx3cf43 : String := "java/lang/constant/ConstantDesc"
def TJx3cf43 : u_T := fun k => match k with
  | _ => ("", "", "", false)
def tyJx3cf43 : Nat → FieldType := fun k => match k with
  | _ => .int
abbrev wsJx3cf430 : List Cond := u_ws RJx3cf43 TJx3cf43 0
theorem nmJx3cf43 : ∀ a, a < 0 → ∀ b, b < 0 → a ≠ b → (TJx3cf43 a).2.1 ≠ (TJx3cf43 b).2.1 := by decide +kernel
theorem tyJx3cf43_ok : ∀ k, k < 0 → parseFieldDescriptor (TJx3cf43 k).2.2.1 = some (tyJx3cf43 k) := by decide +kernel
def RJ7 : String := "java/util/Arrays"
def TJ7 : u_T := fun k => match k with
  | _ => ("", "", "", false)
def tyJ7 : Nat → FieldType := fun k => match k with
  | _ => .int
abbrev wsJ70 : List Cond := u_ws RJ7 TJ7 0
theorem nmJ7 : ∀ a, a < 0 → ∀ b, b < 0 → a ≠ b → (TJ7 a).2.1 ≠ (TJ7 b).2.1 := by decide +kernel
theorem tyJ7_ok : ∀ k, k < 0 → parseFieldDescriptor (TJ7 k).2.2.1 = some (tyJ7 k) := by decide +kernel
abbrev cJ7_fill_53178 : ByteArray := prog_20_method_103_code
def yJ7_fill_53178 : MethodName := ⟨RJ7, "fill", "([II)V"⟩
def RJ3 : String := "jdk/internal/util/Preconditions"
def TJ3 : u_T := fun k => match k with
  | _ => ("", "", "", false)
def tyJ3 : Nat → FieldType := fun k => match k with
  | _ => .int
abbrev wsJ30 : List Cond := u_ws RJ3 TJ3 0
theorem nmJ3 : ∀ a, a < 0 → ∀ b, b < 0 → a ≠ b → (TJ3 a).2.1 ≠ (TJ3 b).2.1 := by decide +kernel
theorem tyJ3_ok : ∀ k, k < 0 → parseFieldDescriptor (TJ3 k).2.2.1 = some (tyJ3 k) := by decide +kernel
abbrev cJ3_checkIndex_8e157 : ByteArray := prog_21_method_11_code
def yJ3_checkIndex_8e157 : MethodName := ⟨RJ3, "checkIndex", "(IILjava/util/function/BiFunction;)I"⟩
def RL : String := "LineDiscLaw"
abbrev cL_law : ByteArray := code
def yL_law : MethodName := ⟨RL, "law", "([I)Z"⟩
theorem dX1_init_0 : decode cX1_init 0 = .ok (.aload_n 0, 1) := by decide +kernel
theorem dX1_init_1 : decode cX1_init 1 = .ok (.invokespecial 3, 3) := by decide +kernel
theorem dX1_init_4 : decode cX1_init 4 = .ok (.aload_n 0, 1) := by decide +kernel
theorem dX1_init_5 : decode cX1_init 5 = .ok (.iconst 0, 1) := by decide +kernel
theorem dX1_init_6 : decode cX1_init 6 = .ok (.putfield 9, 3) := by decide +kernel
theorem dX1_init_9 : decode cX1_init 9 = .ok (.aload_n 0, 1) := by decide +kernel
theorem dX1_init_10 : decode cX1_init 10 = .ok (.bipush 20, 2) := by decide +kernel
theorem dX1_init_12 : decode cX1_init 12 = .ok (.putfield 15, 3) := by decide +kernel
theorem dX1_init_15 : decode cX1_init 15 = .ok (.aload_n 0, 1) := by decide +kernel
theorem dX1_init_16 : decode cX1_init 16 = .ok (.iconst 0, 1) := by decide +kernel
theorem dX1_init_17 : decode cX1_init 17 = .ok (.putfield 18, 3) := by decide +kernel
theorem dX1_init_20 : decode cX1_init 20 = .ok (.aload_n 0, 1) := by decide +kernel
theorem dX1_init_21 : decode cX1_init 21 = .ok (.iconst 0, 1) := by decide +kernel
theorem dX1_init_22 : decode cX1_init 22 = .ok (.putfield 21, 3) := by decide +kernel
theorem dX1_init_25 : decode cX1_init 25 = .ok (.aload_n 0, 1) := by decide +kernel
theorem dX1_init_26 : decode cX1_init 26 = .ok (.iconst 0, 1) := by decide +kernel
theorem dX1_init_27 : decode cX1_init 27 = .ok (.putfield 24, 3) := by decide +kernel
theorem dX1_init_30 : decode cX1_init 30 = .ok (.aload_n 0, 1) := by decide +kernel
theorem dX1_init_31 : decode cX1_init 31 = .ok (.iconst 0, 1) := by decide +kernel
theorem dX1_init_32 : decode cX1_init 32 = .ok (.putfield 27, 3) := by decide +kernel
theorem dX1_init_35 : decode cX1_init 35 = .ok (.return_, 1) := by decide +kernel
theorem dX1_copyFrom_0 : decode cX1_copyFrom 0 = .ok (.aload_n 0, 1) := by decide +kernel
theorem dX1_copyFrom_1 : decode cX1_copyFrom 1 = .ok (.aload_n 1, 1) := by decide +kernel
theorem dX1_copyFrom_2 : decode cX1_copyFrom 2 = .ok (.getfield 9, 3) := by decide +kernel
theorem dX1_copyFrom_5 : decode cX1_copyFrom 5 = .ok (.putfield 9, 3) := by decide +kernel
theorem dX1_copyFrom_8 : decode cX1_copyFrom 8 = .ok (.aload_n 0, 1) := by decide +kernel
theorem dX1_copyFrom_9 : decode cX1_copyFrom 9 = .ok (.aload_n 1, 1) := by decide +kernel
theorem dX1_copyFrom_10 : decode cX1_copyFrom 10 = .ok (.getfield 15, 3) := by decide +kernel
theorem dX1_copyFrom_13 : decode cX1_copyFrom 13 = .ok (.putfield 15, 3) := by decide +kernel
theorem dX1_copyFrom_16 : decode cX1_copyFrom 16 = .ok (.aload_n 0, 1) := by decide +kernel
theorem dX1_copyFrom_17 : decode cX1_copyFrom 17 = .ok (.aload_n 1, 1) := by decide +kernel
theorem dX1_copyFrom_18 : decode cX1_copyFrom 18 = .ok (.getfield 18, 3) := by decide +kernel
theorem dX1_copyFrom_21 : decode cX1_copyFrom 21 = .ok (.putfield 18, 3) := by decide +kernel
theorem dX1_copyFrom_24 : decode cX1_copyFrom 24 = .ok (.aload_n 0, 1) := by decide +kernel
theorem dX1_copyFrom_25 : decode cX1_copyFrom 25 = .ok (.aload_n 1, 1) := by decide +kernel
theorem dX1_copyFrom_26 : decode cX1_copyFrom 26 = .ok (.getfield 21, 3) := by decide +kernel
theorem dX1_copyFrom_29 : decode cX1_copyFrom 29 = .ok (.putfield 21, 3) := by decide +kernel
theorem dX1_copyFrom_32 : decode cX1_copyFrom 32 = .ok (.aload_n 0, 1) := by decide +kernel
theorem dX1_copyFrom_33 : decode cX1_copyFrom 33 = .ok (.aload_n 1, 1) := by decide +kernel
theorem dX1_copyFrom_34 : decode cX1_copyFrom 34 = .ok (.getfield 24, 3) := by decide +kernel
theorem dX1_copyFrom_37 : decode cX1_copyFrom 37 = .ok (.putfield 24, 3) := by decide +kernel
theorem dX1_copyFrom_40 : decode cX1_copyFrom 40 = .ok (.aload_n 0, 1) := by decide +kernel
theorem dX1_copyFrom_41 : decode cX1_copyFrom 41 = .ok (.aload_n 1, 1) := by decide +kernel
theorem dX1_copyFrom_42 : decode cX1_copyFrom 42 = .ok (.getfield 27, 3) := by decide +kernel
theorem dX1_copyFrom_45 : decode cX1_copyFrom 45 = .ok (.putfield 27, 3) := by decide +kernel
theorem dX1_copyFrom_48 : decode cX1_copyFrom 48 = .ok (.return_, 1) := by decide +kernel
set_option maxRecDepth 20000 in
theorem dX1_goToStart_0 : decode cX1_goToStart 0 = .ok (.aload_n 0, 1) := by decide +kernel
theorem dX1_goToStart_1 : decode cX1_goToStart 1 = .ok (.iconst 0, 1) := by decide +kernel
theorem dX1_goToStart_2 : decode cX1_goToStart 2 = .ok (.putfield 9, 3) := by decide +kernel
theorem dX1_goToStart_5 : decode cX1_goToStart 5 = .ok (.aload_n 0, 1) := by decide +kernel
theorem dX1_goToStart_6 : decode cX1_goToStart 6 = .ok (.aload_n 1, 1) := by decide +kernel
theorem dX1_goToStart_7 : decode cX1_goToStart 7 = .ok (.iconst 0, 1) := by decide +kernel
theorem dX1_goToStart_8 : decode cX1_goToStart 8 = .ok (.invokevirtual 30, 3) := by decide +kernel
theorem dX1_goToStart_11 : decode cX1_goToStart 11 = .ok (.putfield 15, 3) := by decide +kernel
theorem dX1_goToStart_14 : decode cX1_goToStart 14 = .ok (.return_, 1) := by decide +kernel
theorem dX1_spin_0 : decode cX1_spin 0 = .ok (.iload_n 1, 1) := by decide +kernel
theorem dX1_spin_1 : decode cX1_spin 1 = .ok (.aload_n 3, 1) := by decide +kernel
theorem dX1_spin_2 : decode cX1_spin 2 = .ok (.getfield 36, 3) := by decide +kernel
theorem dX1_spin_5 : decode cX1_spin 5 = .ok (.imul, 1) := by decide +kernel
theorem dX1_spin_6 : decode cX1_spin 6 = .ok (.istore 4, 2) := by decide +kernel
theorem dX1_spin_8 : decode cX1_spin 8 = .ok (.aload_n 0, 1) := by decide +kernel
theorem dX1_spin_9 : decode cX1_spin 9 = .ok (.aload_n 0, 1) := by decide +kernel
theorem dX1_spin_10 : decode cX1_spin 10 = .ok (.getfield 15, 3) := by decide +kernel
theorem dX1_spin_13 : decode cX1_spin 13 = .ok (.iload_n 2, 1) := by decide +kernel
theorem dX1_spin_14 : decode cX1_spin 14 = .ok (.if_icmp .ge 17, 3) := by decide +kernel
theorem dX1_spin_17 : decode cX1_spin 17 = .ok (.iload_n 2, 1) := by decide +kernel
theorem dX1_spin_18 : decode cX1_spin 18 = .ok (.aload_n 0, 1) := by decide +kernel
theorem dX1_spin_19 : decode cX1_spin 19 = .ok (.getfield 15, 3) := by decide +kernel
theorem dX1_spin_22 : decode cX1_spin 22 = .ok (.iload 4, 2) := by decide +kernel
theorem dX1_spin_24 : decode cX1_spin 24 = .ok (.iadd, 1) := by decide +kernel
theorem dX1_spin_25 : decode cX1_spin 25 = .ok (.invokestatic 39, 3) := by decide +kernel
theorem dX1_spin_28 : decode cX1_spin 28 = .ok (.goto 14, 3) := by decide +kernel
theorem dX1_spin_31 : decode cX1_spin 31 = .ok (.iload_n 2, 1) := by decide +kernel
theorem dX1_spin_32 : decode cX1_spin 32 = .ok (.aload_n 0, 1) := by decide +kernel
theorem dX1_spin_33 : decode cX1_spin 33 = .ok (.getfield 15, 3) := by decide +kernel
theorem dX1_spin_36 : decode cX1_spin 36 = .ok (.iload 4, 2) := by decide +kernel
theorem dX1_spin_38 : decode cX1_spin 38 = .ok (.isub, 1) := by decide +kernel
theorem dX1_spin_39 : decode cX1_spin 39 = .ok (.invokestatic 45, 3) := by decide +kernel
theorem dX1_spin_42 : decode cX1_spin 42 = .ok (.putfield 15, 3) := by decide +kernel
theorem dX1_spin_45 : decode cX1_spin 45 = .ok (.aload_n 0, 1) := by decide +kernel
theorem dX1_spin_46 : decode cX1_spin 46 = .ok (.dup, 1) := by decide +kernel
theorem dX1_spin_47 : decode cX1_spin 47 = .ok (.getfield 18, 3) := by decide +kernel
theorem dX1_spin_50 : decode cX1_spin 50 = .ok (.iload_n 1, 1) := by decide +kernel
theorem dX1_spin_51 : decode cX1_spin 51 = .ok (.iadd, 1) := by decide +kernel
theorem dX1_spin_52 : decode cX1_spin 52 = .ok (.putfield 18, 3) := by decide +kernel
theorem dX1_spin_55 : decode cX1_spin 55 = .ok (.return_, 1) := by decide +kernel
theorem dX1_isNear_0 : decode cX1_isNear 0 = .ok (.aload_n 0, 1) := by decide +kernel
theorem dX1_isNear_1 : decode cX1_isNear 1 = .ok (.getfield 15, 3) := by decide +kernel
theorem dX1_isNear_4 : decode cX1_isNear 4 = .ok (.iload_n 1, 1) := by decide +kernel
theorem dX1_isNear_5 : decode cX1_isNear 5 = .ok (.isub, 1) := by decide +kernel
theorem dX1_isNear_6 : decode cX1_isNear 6 = .ok (.invokestatic 48, 3) := by decide +kernel
theorem dX1_isNear_9 : decode cX1_isNear 9 = .ok (.aload_n 2, 1) := by decide +kernel
theorem dX1_isNear_10 : decode cX1_isNear 10 = .ok (.getfield 51, 3) := by decide +kernel
theorem dX1_isNear_13 : decode cX1_isNear 13 = .ok (.if_icmp .gt 7, 3) := by decide +kernel
theorem dX1_isNear_16 : decode cX1_isNear 16 = .ok (.iconst 1, 1) := by decide +kernel
theorem dX1_isNear_17 : decode cX1_isNear 17 = .ok (.goto 4, 3) := by decide +kernel
theorem dX1_isNear_20 : decode cX1_isNear 20 = .ok (.iconst 0, 1) := by decide +kernel
theorem dX1_isNear_21 : decode cX1_isNear 21 = .ok (.ireturn, 1) := by decide +kernel
set_option maxRecDepth 20000 in
theorem dX1_readFrames_0 : decode cX1_readFrames 0 = .ok (.iconst 0, 1) := by decide +kernel
theorem dX1_readFrames_1 : decode cX1_readFrames 1 = .ok (.istore 4, 2) := by decide +kernel
theorem dX1_readFrames_3 : decode cX1_readFrames 3 = .ok (.iconst 0, 1) := by decide +kernel
theorem dX1_readFrames_4 : decode cX1_readFrames 4 = .ok (.istore 5, 2) := by decide +kernel
theorem dX1_readFrames_6 : decode cX1_readFrames 6 = .ok (.aload_n 2, 1) := by decide +kernel
theorem dX1_readFrames_7 : decode cX1_readFrames 7 = .ok (.invokevirtual 54, 3) := by decide +kernel
theorem dX1_readFrames_10 : decode cX1_readFrames 10 = .ok (.istore 6, 2) := by decide +kernel
theorem dX1_readFrames_12 : decode cX1_readFrames 12 = .ok (.iconst 0, 1) := by decide +kernel
theorem dX1_readFrames_13 : decode cX1_readFrames 13 = .ok (.istore 7, 2) := by decide +kernel
theorem dX1_readFrames_15 : decode cX1_readFrames 15 = .ok (.iload 7, 2) := by decide +kernel
theorem dX1_readFrames_17 : decode cX1_readFrames 17 = .ok (.ldc 58, 2) := by decide +kernel
theorem dX1_readFrames_19 : decode cX1_readFrames 19 = .ok (.if_icmp .ge 90, 3) := by decide +kernel
theorem dX1_readFrames_22 : decode cX1_readFrames 22 = .ok (.iload 4, 2) := by decide +kernel
theorem dX1_readFrames_24 : decode cX1_readFrames 24 = .ok (.iload_n 1, 1) := by decide +kernel
theorem dX1_readFrames_25 : decode cX1_readFrames 25 = .ok (.if_icmp .ge 84, 3) := by decide +kernel
theorem dX1_readFrames_28 : decode cX1_readFrames 28 = .ok (.aload_n 0, 1) := by decide +kernel
theorem dX1_readFrames_29 : decode cX1_readFrames 29 = .ok (.getfield 9, 3) := by decide +kernel
theorem dX1_readFrames_32 : decode cX1_readFrames 32 = .ok (.iload 6, 2) := by decide +kernel
theorem dX1_readFrames_34 : decode cX1_readFrames 34 = .ok (.if_icmp .ge 75, 3) := by decide +kernel
theorem dX1_readFrames_37 : decode cX1_readFrames 37 = .ok (.aload_n 2, 1) := by decide +kernel
theorem dX1_readFrames_38 : decode cX1_readFrames 38 = .ok (.aload_n 2, 1) := by decide +kernel
theorem dX1_readFrames_39 : decode cX1_readFrames 39 = .ok (.aload_n 0, 1) := by decide +kernel
theorem dX1_readFrames_40 : decode cX1_readFrames 40 = .ok (.getfield 9, 3) := by decide +kernel
theorem dX1_readFrames_43 : decode cX1_readFrames 43 = .ok (.invokevirtual 59, 3) := by decide +kernel
theorem dX1_readFrames_46 : decode cX1_readFrames 46 = .ok (.invokevirtual 30, 3) := by decide +kernel
theorem dX1_readFrames_49 : decode cX1_readFrames 49 = .ok (.istore 8, 2) := by decide +kernel
theorem dX1_readFrames_51 : decode cX1_readFrames 51 = .ok (.aload_n 0, 1) := by decide +kernel
theorem dX1_readFrames_52 : decode cX1_readFrames 52 = .ok (.iconst 1, 1) := by decide +kernel
theorem dX1_readFrames_53 : decode cX1_readFrames 53 = .ok (.iload 8, 2) := by decide +kernel
theorem dX1_readFrames_55 : decode cX1_readFrames 55 = .ok (.aload_n 2, 1) := by decide +kernel
theorem dX1_readFrames_56 : decode cX1_readFrames 56 = .ok (.invokevirtual 62, 3) := by decide +kernel
theorem dX1_readFrames_59 : decode cX1_readFrames 59 = .ok (.aload_n 0, 1) := by decide +kernel
theorem dX1_readFrames_60 : decode cX1_readFrames 60 = .ok (.iload 8, 2) := by decide +kernel
theorem dX1_readFrames_62 : decode cX1_readFrames 62 = .ok (.aload_n 2, 1) := by decide +kernel
theorem dX1_readFrames_63 : decode cX1_readFrames 63 = .ok (.invokevirtual 66, 3) := by decide +kernel
theorem dX1_readFrames_66 : decode cX1_readFrames 66 = .ok (.ifCond .eq 37, 3) := by decide +kernel
theorem dX1_readFrames_69 : decode cX1_readFrames 69 = .ok (.iload 5, 2) := by decide +kernel
theorem dX1_readFrames_71 : decode cX1_readFrames 71 = .ok (.aload_n 3, 1) := by decide +kernel
theorem dX1_readFrames_72 : decode cX1_readFrames 72 = .ok (.aload_n 0, 1) := by decide +kernel
theorem dX1_readFrames_73 : decode cX1_readFrames 73 = .ok (.getfield 9, 3) := by decide +kernel
theorem dX1_readFrames_76 : decode cX1_readFrames 76 = .ok (.invokevirtual 70, 3) := by decide +kernel
theorem dX1_readFrames_79 : decode cX1_readFrames 79 = .ok (.ifCond .eq 7, 3) := by decide +kernel
theorem dX1_readFrames_82 : decode cX1_readFrames 82 = .ok (.iconst 0, 1) := by decide +kernel
theorem dX1_readFrames_83 : decode cX1_readFrames 83 = .ok (.goto 4, 3) := by decide +kernel
theorem dX1_readFrames_86 : decode cX1_readFrames 86 = .ok (.iconst 1, 1) := by decide +kernel
theorem dX1_readFrames_87 : decode cX1_readFrames 87 = .ok (.iadd, 1) := by decide +kernel
theorem dX1_readFrames_88 : decode cX1_readFrames 88 = .ok (.istore 5, 2) := by decide +kernel
theorem dX1_readFrames_90 : decode cX1_readFrames 90 = .ok (.iinc 4 1, 3) := by decide +kernel
theorem dX1_readFrames_93 : decode cX1_readFrames 93 = .ok (.aload_n 0, 1) := by decide +kernel
theorem dX1_readFrames_94 : decode cX1_readFrames 94 = .ok (.dup, 1) := by decide +kernel
theorem dX1_readFrames_95 : decode cX1_readFrames 95 = .ok (.getfield 9, 3) := by decide +kernel
theorem dX1_readFrames_98 : decode cX1_readFrames 98 = .ok (.iconst 1, 1) := by decide +kernel
theorem dX1_readFrames_99 : decode cX1_readFrames 99 = .ok (.iadd, 1) := by decide +kernel
theorem dX1_readFrames_100 : decode cX1_readFrames 100 = .ok (.putfield 9, 3) := by decide +kernel
theorem dX1_readFrames_103 : decode cX1_readFrames 103 = .ok (.iinc 7 1, 3) := by decide +kernel
theorem dX1_readFrames_106 : decode cX1_readFrames 106 = .ok (.goto (-91), 3) := by decide +kernel
theorem dX1_readFrames_109 : decode cX1_readFrames 109 = .ok (.aload_n 0, 1) := by decide +kernel
theorem dX1_readFrames_110 : decode cX1_readFrames 110 = .ok (.dup, 1) := by decide +kernel
theorem dX1_readFrames_111 : decode cX1_readFrames 111 = .ok (.getfield 21, 3) := by decide +kernel
theorem dX1_readFrames_114 : decode cX1_readFrames 114 = .ok (.iload 4, 2) := by decide +kernel
theorem dX1_readFrames_116 : decode cX1_readFrames 116 = .ok (.iadd, 1) := by decide +kernel
theorem dX1_readFrames_117 : decode cX1_readFrames 117 = .ok (.putfield 21, 3) := by decide +kernel
theorem dX1_readFrames_120 : decode cX1_readFrames 120 = .ok (.aload_n 0, 1) := by decide +kernel
theorem dX1_readFrames_121 : decode cX1_readFrames 121 = .ok (.dup, 1) := by decide +kernel
theorem dX1_readFrames_122 : decode cX1_readFrames 122 = .ok (.getfield 24, 3) := by decide +kernel
theorem dX1_readFrames_125 : decode cX1_readFrames 125 = .ok (.iload 5, 2) := by decide +kernel
theorem dX1_readFrames_127 : decode cX1_readFrames 127 = .ok (.iadd, 1) := by decide +kernel
theorem dX1_readFrames_128 : decode cX1_readFrames 128 = .ok (.putfield 24, 3) := by decide +kernel
theorem dX1_readFrames_131 : decode cX1_readFrames 131 = .ok (.iload 5, 2) := by decide +kernel
theorem dX1_readFrames_133 : decode cX1_readFrames 133 = .ok (.ireturn, 1) := by decide +kernel
set_option maxRecDepth 20000 in
theorem dX1_goTo_0 : decode cX1_goTo 0 = .ok (.aload_n 2, 1) := by decide +kernel
theorem dX1_goTo_1 : decode cX1_goTo 1 = .ok (.iload_n 1, 1) := by decide +kernel
theorem dX1_goTo_2 : decode cX1_goTo 2 = .ok (.invokevirtual 59, 3) := by decide +kernel
theorem dX1_goTo_5 : decode cX1_goTo 5 = .ok (.istore 4, 2) := by decide +kernel
theorem dX1_goTo_7 : decode cX1_goTo 7 = .ok (.aload_n 2, 1) := by decide +kernel
theorem dX1_goTo_8 : decode cX1_goTo 8 = .ok (.aload_n 0, 1) := by decide +kernel
theorem dX1_goTo_9 : decode cX1_goTo 9 = .ok (.getfield 9, 3) := by decide +kernel
theorem dX1_goTo_12 : decode cX1_goTo 12 = .ok (.invokevirtual 59, 3) := by decide +kernel
theorem dX1_goTo_15 : decode cX1_goTo 15 = .ok (.istore 5, 2) := by decide +kernel
theorem dX1_goTo_17 : decode cX1_goTo 17 = .ok (.iconst 0, 1) := by decide +kernel
theorem dX1_goTo_18 : decode cX1_goTo 18 = .ok (.istore 6, 2) := by decide +kernel
theorem dX1_goTo_20 : decode cX1_goTo 20 = .ok (.iload 6, 2) := by decide +kernel
theorem dX1_goTo_22 : decode cX1_goTo 22 = .ok (.ldc 58, 2) := by decide +kernel
theorem dX1_goTo_24 : decode cX1_goTo 24 = .ok (.if_icmp .ge 28, 3) := by decide +kernel
theorem dX1_goTo_27 : decode cX1_goTo 27 = .ok (.iload 5, 2) := by decide +kernel
theorem dX1_goTo_29 : decode cX1_goTo 29 = .ok (.iload 4, 2) := by decide +kernel
theorem dX1_goTo_31 : decode cX1_goTo 31 = .ok (.if_icmp .eq 21, 3) := by decide +kernel
theorem dX1_goTo_34 : decode cX1_goTo 34 = .ok (.aload_n 0, 1) := by decide +kernel
theorem dX1_goTo_35 : decode cX1_goTo 35 = .ok (.iload 5, 2) := by decide +kernel
theorem dX1_goTo_37 : decode cX1_goTo 37 = .ok (.iload 4, 2) := by decide +kernel
theorem dX1_goTo_39 : decode cX1_goTo 39 = .ok (.aload_n 2, 1) := by decide +kernel
theorem dX1_goTo_40 : decode cX1_goTo 40 = .ok (.iload_n 3, 1) := by decide +kernel
theorem dX1_goTo_41 : decode cX1_goTo 41 = .ok (.invokevirtual 76, 3) := by decide +kernel
theorem dX1_goTo_44 : decode cX1_goTo 44 = .ok (.istore 5, 2) := by decide +kernel
theorem dX1_goTo_46 : decode cX1_goTo 46 = .ok (.iinc 6 1, 3) := by decide +kernel
theorem dX1_goTo_49 : decode cX1_goTo 49 = .ok (.goto (-29), 3) := by decide +kernel
theorem dX1_goTo_52 : decode cX1_goTo 52 = .ok (.aload_n 2, 1) := by decide +kernel
theorem dX1_goTo_53 : decode cX1_goTo 53 = .ok (.iload 4, 2) := by decide +kernel
theorem dX1_goTo_55 : decode cX1_goTo 55 = .ok (.invokevirtual 30, 3) := by decide +kernel
theorem dX1_goTo_58 : decode cX1_goTo 58 = .ok (.istore 6, 2) := by decide +kernel
theorem dX1_goTo_60 : decode cX1_goTo 60 = .ok (.iconst 0, 1) := by decide +kernel
theorem dX1_goTo_61 : decode cX1_goTo 61 = .ok (.istore 7, 2) := by decide +kernel
theorem dX1_goTo_63 : decode cX1_goTo 63 = .ok (.iload 7, 2) := by decide +kernel
theorem dX1_goTo_65 : decode cX1_goTo 65 = .ok (.ldc 58, 2) := by decide +kernel
theorem dX1_goTo_67 : decode cX1_goTo 67 = .ok (.if_icmp .ge 27, 3) := by decide +kernel
theorem dX1_goTo_70 : decode cX1_goTo 70 = .ok (.aload_n 0, 1) := by decide +kernel
theorem dX1_goTo_71 : decode cX1_goTo 71 = .ok (.iload 6, 2) := by decide +kernel
theorem dX1_goTo_73 : decode cX1_goTo 73 = .ok (.aload_n 2, 1) := by decide +kernel
theorem dX1_goTo_74 : decode cX1_goTo 74 = .ok (.invokevirtual 66, 3) := by decide +kernel
theorem dX1_goTo_77 : decode cX1_goTo 77 = .ok (.ifCond .ne 17, 3) := by decide +kernel
theorem dX1_goTo_80 : decode cX1_goTo 80 = .ok (.aload_n 0, 1) := by decide +kernel
theorem dX1_goTo_81 : decode cX1_goTo 81 = .ok (.iconst 1, 1) := by decide +kernel
theorem dX1_goTo_82 : decode cX1_goTo 82 = .ok (.iload 6, 2) := by decide +kernel
theorem dX1_goTo_84 : decode cX1_goTo 84 = .ok (.aload_n 2, 1) := by decide +kernel
theorem dX1_goTo_85 : decode cX1_goTo 85 = .ok (.invokevirtual 62, 3) := by decide +kernel
theorem dX1_goTo_88 : decode cX1_goTo 88 = .ok (.iinc 7 1, 3) := by decide +kernel
theorem dX1_goTo_91 : decode cX1_goTo 91 = .ok (.goto (-28), 3) := by decide +kernel
theorem dX1_goTo_94 : decode cX1_goTo 94 = .ok (.aload_n 2, 1) := by decide +kernel
theorem dX1_goTo_95 : decode cX1_goTo 95 = .ok (.iload 4, 2) := by decide +kernel
theorem dX1_goTo_97 : decode cX1_goTo 97 = .ok (.invokevirtual 80, 3) := by decide +kernel
theorem dX1_goTo_100 : decode cX1_goTo 100 = .ok (.istore 7, 2) := by decide +kernel
theorem dX1_goTo_102 : decode cX1_goTo 102 = .ok (.aload_n 0, 1) := by decide +kernel
theorem dX1_goTo_103 : decode cX1_goTo 103 = .ok (.getfield 9, 3) := by decide +kernel
theorem dX1_goTo_106 : decode cX1_goTo 106 = .ok (.iload_n 1, 1) := by decide +kernel
theorem dX1_goTo_107 : decode cX1_goTo 107 = .ok (.if_icmp .le 28, 3) := by decide +kernel
theorem dX1_goTo_110 : decode cX1_goTo 110 = .ok (.aload_n 0, 1) := by decide +kernel
theorem dX1_goTo_111 : decode cX1_goTo 111 = .ok (.dup, 1) := by decide +kernel
theorem dX1_goTo_112 : decode cX1_goTo 112 = .ok (.getfield 18, 3) := by decide +kernel
theorem dX1_goTo_115 : decode cX1_goTo 115 = .ok (.iload 7, 2) := by decide +kernel
theorem dX1_goTo_117 : decode cX1_goTo 117 = .ok (.iload 6, 2) := by decide +kernel
theorem dX1_goTo_119 : decode cX1_goTo 119 = .ok (.iadd, 1) := by decide +kernel
theorem dX1_goTo_120 : decode cX1_goTo 120 = .ok (.aload_n 0, 1) := by decide +kernel
theorem dX1_goTo_121 : decode cX1_goTo 121 = .ok (.getfield 9, 3) := by decide +kernel
theorem dX1_goTo_124 : decode cX1_goTo 124 = .ok (.isub, 1) := by decide +kernel
theorem dX1_goTo_125 : decode cX1_goTo 125 = .ok (.iadd, 1) := by decide +kernel
theorem dX1_goTo_126 : decode cX1_goTo 126 = .ok (.putfield 18, 3) := by decide +kernel
theorem dX1_goTo_129 : decode cX1_goTo 129 = .ok (.aload_n 0, 1) := by decide +kernel
theorem dX1_goTo_130 : decode cX1_goTo 130 = .ok (.iload 7, 2) := by decide +kernel
theorem dX1_goTo_132 : decode cX1_goTo 132 = .ok (.putfield 9, 3) := by decide +kernel
theorem dX1_goTo_135 : decode cX1_goTo 135 = .ok (.aload_n 0, 1) := by decide +kernel
theorem dX1_goTo_136 : decode cX1_goTo 136 = .ok (.dup, 1) := by decide +kernel
theorem dX1_goTo_137 : decode cX1_goTo 137 = .ok (.getfield 18, 3) := by decide +kernel
theorem dX1_goTo_140 : decode cX1_goTo 140 = .ok (.iload_n 1, 1) := by decide +kernel
theorem dX1_goTo_141 : decode cX1_goTo 141 = .ok (.aload_n 0, 1) := by decide +kernel
theorem dX1_goTo_142 : decode cX1_goTo 142 = .ok (.getfield 9, 3) := by decide +kernel
theorem dX1_goTo_145 : decode cX1_goTo 145 = .ok (.isub, 1) := by decide +kernel
theorem dX1_goTo_146 : decode cX1_goTo 146 = .ok (.iadd, 1) := by decide +kernel
theorem dX1_goTo_147 : decode cX1_goTo 147 = .ok (.putfield 18, 3) := by decide +kernel
theorem dX1_goTo_150 : decode cX1_goTo 150 = .ok (.aload_n 0, 1) := by decide +kernel
theorem dX1_goTo_151 : decode cX1_goTo 151 = .ok (.iload_n 1, 1) := by decide +kernel
theorem dX1_goTo_152 : decode cX1_goTo 152 = .ok (.putfield 9, 3) := by decide +kernel
theorem dX1_goTo_155 : decode cX1_goTo 155 = .ok (.return_, 1) := by decide +kernel
set_option maxRecDepth 20000 in
theorem dX1_jump_0 : decode cX1_jump 0 = .ok (.iload_n 2, 1) := by decide +kernel
theorem dX1_jump_1 : decode cX1_jump 1 = .ok (.iload_n 1, 1) := by decide +kernel
theorem dX1_jump_2 : decode cX1_jump 2 = .ok (.isub, 1) := by decide +kernel
theorem dX1_jump_3 : decode cX1_jump 3 = .ok (.istore 5, 2) := by decide +kernel
theorem dX1_jump_5 : decode cX1_jump 5 = .ok (.iload 5, 2) := by decide +kernel
theorem dX1_jump_7 : decode cX1_jump 7 = .ok (.iload 4, 2) := by decide +kernel
theorem dX1_jump_9 : decode cX1_jump 9 = .ok (.imul, 1) := by decide +kernel
theorem dX1_jump_10 : decode cX1_jump 10 = .ok (.bipush 100, 2) := by decide +kernel
theorem dX1_jump_12 : decode cX1_jump 12 = .ok (.idiv, 1) := by decide +kernel
theorem dX1_jump_13 : decode cX1_jump 13 = .ok (.istore 6, 2) := by decide +kernel
theorem dX1_jump_15 : decode cX1_jump 15 = .ok (.iload 6, 2) := by decide +kernel
theorem dX1_jump_17 : decode cX1_jump 17 = .ok (.ifCond .ne 15, 3) := by decide +kernel
theorem dX1_jump_20 : decode cX1_jump 20 = .ok (.iload 5, 2) := by decide +kernel
theorem dX1_jump_22 : decode cX1_jump 22 = .ok (.ifCond .le 7, 3) := by decide +kernel
theorem dX1_jump_25 : decode cX1_jump 25 = .ok (.iconst 1, 1) := by decide +kernel
theorem dX1_jump_26 : decode cX1_jump 26 = .ok (.goto 4, 3) := by decide +kernel
theorem dX1_jump_29 : decode cX1_jump 29 = .ok (.iconst (-1), 1) := by decide +kernel
theorem dX1_jump_30 : decode cX1_jump 30 = .ok (.istore 6, 2) := by decide +kernel
theorem dX1_jump_32 : decode cX1_jump 32 = .ok (.iconst 0, 1) := by decide +kernel
theorem dX1_jump_33 : decode cX1_jump 33 = .ok (.bipush 29, 2) := by decide +kernel
theorem dX1_jump_35 : decode cX1_jump 35 = .ok (.iload_n 1, 1) := by decide +kernel
theorem dX1_jump_36 : decode cX1_jump 36 = .ok (.iload 6, 2) := by decide +kernel
theorem dX1_jump_38 : decode cX1_jump 38 = .ok (.iadd, 1) := by decide +kernel
theorem dX1_jump_39 : decode cX1_jump 39 = .ok (.invokestatic 39, 3) := by decide +kernel
theorem dX1_jump_42 : decode cX1_jump 42 = .ok (.invokestatic 45, 3) := by decide +kernel
theorem dX1_jump_45 : decode cX1_jump 45 = .ok (.istore 7, 2) := by decide +kernel
theorem dX1_jump_47 : decode cX1_jump 47 = .ok (.aload_n 3, 1) := by decide +kernel
theorem dX1_jump_48 : decode cX1_jump 48 = .ok (.getfield 83, 3) := by decide +kernel
theorem dX1_jump_51 : decode cX1_jump 51 = .ok (.iload 7, 2) := by decide +kernel
theorem dX1_jump_53 : decode cX1_jump 53 = .ok (.iload_n 1, 1) := by decide +kernel
theorem dX1_jump_54 : decode cX1_jump 54 = .ok (.isub, 1) := by decide +kernel
theorem dX1_jump_55 : decode cX1_jump 55 = .ok (.invokestatic 48, 3) := by decide +kernel
theorem dX1_jump_58 : decode cX1_jump 58 = .ok (.iadd, 1) := by decide +kernel
theorem dX1_jump_59 : decode cX1_jump 59 = .ok (.istore 8, 2) := by decide +kernel
theorem dX1_jump_61 : decode cX1_jump 61 = .ok (.aload_n 0, 1) := by decide +kernel
theorem dX1_jump_62 : decode cX1_jump 62 = .ok (.iload 8, 2) := by decide +kernel
theorem dX1_jump_64 : decode cX1_jump 64 = .ok (.aload_n 3, 1) := by decide +kernel
theorem dX1_jump_65 : decode cX1_jump 65 = .ok (.iload 7, 2) := by decide +kernel
theorem dX1_jump_67 : decode cX1_jump 67 = .ok (.invokevirtual 30, 3) := by decide +kernel
theorem dX1_jump_70 : decode cX1_jump 70 = .ok (.aload_n 3, 1) := by decide +kernel
theorem dX1_jump_71 : decode cX1_jump 71 = .ok (.invokevirtual 62, 3) := by decide +kernel
theorem dX1_jump_74 : decode cX1_jump 74 = .ok (.aload_n 0, 1) := by decide +kernel
theorem dX1_jump_75 : decode cX1_jump 75 = .ok (.aload_n 3, 1) := by decide +kernel
theorem dX1_jump_76 : decode cX1_jump 76 = .ok (.iload 7, 2) := by decide +kernel
theorem dX1_jump_78 : decode cX1_jump 78 = .ok (.invokevirtual 80, 3) := by decide +kernel
theorem dX1_jump_81 : decode cX1_jump 81 = .ok (.putfield 9, 3) := by decide +kernel
theorem dX1_jump_84 : decode cX1_jump 84 = .ok (.aload_n 0, 1) := by decide +kernel
theorem dX1_jump_85 : decode cX1_jump 85 = .ok (.dup, 1) := by decide +kernel
theorem dX1_jump_86 : decode cX1_jump 86 = .ok (.getfield 27, 3) := by decide +kernel
theorem dX1_jump_89 : decode cX1_jump 89 = .ok (.iconst 1, 1) := by decide +kernel
theorem dX1_jump_90 : decode cX1_jump 90 = .ok (.iadd, 1) := by decide +kernel
theorem dX1_jump_91 : decode cX1_jump 91 = .ok (.putfield 27, 3) := by decide +kernel
theorem dX1_jump_94 : decode cX1_jump 94 = .ok (.iload 7, 2) := by decide +kernel
theorem dX1_jump_96 : decode cX1_jump 96 = .ok (.ireturn, 1) := by decide +kernel
set_option maxRecDepth 20000 in
theorem dX2_init_0 : decode cX2_init 0 = .ok (.aload_n 0, 1) := by decide +kernel
theorem dX2_init_1 : decode cX2_init 1 = .ok (.invokespecial 1, 3) := by decide +kernel
theorem dX2_init_4 : decode cX2_init 4 = .ok (.aload_n 0, 1) := by decide +kernel
theorem dX2_init_5 : decode cX2_init 5 = .ok (.iconst 4, 1) := by decide +kernel
theorem dX2_init_6 : decode cX2_init 6 = .ok (.anewarray 9, 3) := by decide +kernel
theorem dX2_init_9 : decode cX2_init 9 = .ok (.putfield 11, 3) := by decide +kernel
theorem dX2_init_12 : decode cX2_init 12 = .ok (.aload_n 0, 1) := by decide +kernel
theorem dX2_init_13 : decode cX2_init 13 = .ok (.iconst 0, 1) := by decide +kernel
theorem dX2_init_14 : decode cX2_init 14 = .ok (.putfield 15, 3) := by decide +kernel
theorem dX2_init_17 : decode cX2_init 17 = .ok (.iconst 0, 1) := by decide +kernel
theorem dX2_init_18 : decode cX2_init 18 = .ok (.istore_n 1, 1) := by decide +kernel
theorem dX2_init_19 : decode cX2_init 19 = .ok (.iload_n 1, 1) := by decide +kernel
theorem dX2_init_20 : decode cX2_init 20 = .ok (.aload_n 0, 1) := by decide +kernel
theorem dX2_init_21 : decode cX2_init 21 = .ok (.getfield 11, 3) := by decide +kernel
theorem dX2_init_24 : decode cX2_init 24 = .ok (.arraylength, 1) := by decide +kernel
theorem dX2_init_25 : decode cX2_init 25 = .ok (.if_icmp .ge 22, 3) := by decide +kernel
theorem dX2_init_28 : decode cX2_init 28 = .ok (.aload_n 0, 1) := by decide +kernel
theorem dX2_init_29 : decode cX2_init 29 = .ok (.getfield 11, 3) := by decide +kernel
theorem dX2_init_32 : decode cX2_init 32 = .ok (.iload_n 1, 1) := by decide +kernel
theorem dX2_init_33 : decode cX2_init 33 = .ok (.new 9, 3) := by decide +kernel
theorem dX2_init_36 : decode cX2_init 36 = .ok (.dup, 1) := by decide +kernel
theorem dX2_init_37 : decode cX2_init 37 = .ok (.invokespecial 19, 3) := by decide +kernel
theorem dX2_init_40 : decode cX2_init 40 = .ok (.aastore, 1) := by decide +kernel
theorem dX2_init_41 : decode cX2_init 41 = .ok (.iinc 1 1, 3) := by decide +kernel
theorem dX2_init_44 : decode cX2_init 44 = .ok (.goto (-25), 3) := by decide +kernel
theorem dX2_init_47 : decode cX2_init 47 = .ok (.return_, 1) := by decide +kernel
set_option maxRecDepth 20000 in
theorem dX2_add_0 : decode cX2_add 0 = .ok (.aload_n 0, 1) := by decide +kernel
theorem dX2_add_1 : decode cX2_add 1 = .ok (.getfield 15, 3) := by decide +kernel
theorem dX2_add_4 : decode cX2_add 4 = .ok (.iconst 4, 1) := by decide +kernel
theorem dX2_add_5 : decode cX2_add 5 = .ok (.if_icmp .lt 7, 3) := by decide +kernel
theorem dX2_add_8 : decode cX2_add 8 = .ok (.aload_n 0, 1) := by decide +kernel
theorem dX2_add_9 : decode cX2_add 9 = .ok (.invokevirtual 20, 3) := by decide +kernel
theorem dX2_add_12 : decode cX2_add 12 = .ok (.aload_n 0, 1) := by decide +kernel
theorem dX2_add_13 : decode cX2_add 13 = .ok (.aload_n 0, 1) := by decide +kernel
theorem dX2_add_14 : decode cX2_add 14 = .ok (.getfield 15, 3) := by decide +kernel
theorem dX2_add_17 : decode cX2_add 17 = .ok (.invokevirtual 23, 3) := by decide +kernel
theorem dX2_add_20 : decode cX2_add 20 = .ok (.astore_n 2, 1) := by decide +kernel
theorem dX2_add_21 : decode cX2_add 21 = .ok (.aload_n 2, 1) := by decide +kernel
theorem dX2_add_22 : decode cX2_add 22 = .ok (.ifnull 18, 3) := by decide +kernel
theorem dX2_add_25 : decode cX2_add 25 = .ok (.aload_n 2, 1) := by decide +kernel
theorem dX2_add_26 : decode cX2_add 26 = .ok (.aload_n 1, 1) := by decide +kernel
theorem dX2_add_27 : decode cX2_add 27 = .ok (.invokevirtual 27, 3) := by decide +kernel
theorem dX2_add_30 : decode cX2_add 30 = .ok (.aload_n 0, 1) := by decide +kernel
theorem dX2_add_31 : decode cX2_add 31 = .ok (.dup, 1) := by decide +kernel
theorem dX2_add_32 : decode cX2_add 32 = .ok (.getfield 15, 3) := by decide +kernel
theorem dX2_add_35 : decode cX2_add 35 = .ok (.iconst 1, 1) := by decide +kernel
theorem dX2_add_36 : decode cX2_add 36 = .ok (.iadd, 1) := by decide +kernel
theorem dX2_add_37 : decode cX2_add 37 = .ok (.putfield 15, 3) := by decide +kernel
theorem dX2_add_40 : decode cX2_add 40 = .ok (.return_, 1) := by decide +kernel
set_option maxRecDepth 20000 in
theorem dX2_takeLatest_0 : decode cX2_takeLatest 0 = .ok (.aload_n 0, 1) := by decide +kernel
theorem dX2_takeLatest_1 : decode cX2_takeLatest 1 = .ok (.aload_n 0, 1) := by decide +kernel
theorem dX2_takeLatest_2 : decode cX2_takeLatest 2 = .ok (.getfield 15, 3) := by decide +kernel
theorem dX2_takeLatest_5 : decode cX2_takeLatest 5 = .ok (.iconst 1, 1) := by decide +kernel
theorem dX2_takeLatest_6 : decode cX2_takeLatest 6 = .ok (.isub, 1) := by decide +kernel
theorem dX2_takeLatest_7 : decode cX2_takeLatest 7 = .ok (.invokevirtual 23, 3) := by decide +kernel
theorem dX2_takeLatest_10 : decode cX2_takeLatest 10 = .ok (.astore_n 2, 1) := by decide +kernel
theorem dX2_takeLatest_11 : decode cX2_takeLatest 11 = .ok (.aload_n 2, 1) := by decide +kernel
theorem dX2_takeLatest_12 : decode cX2_takeLatest 12 = .ok (.ifnonnull 5, 3) := by decide +kernel
theorem dX2_takeLatest_15 : decode cX2_takeLatest 15 = .ok (.iconst 0, 1) := by decide +kernel
theorem dX2_takeLatest_16 : decode cX2_takeLatest 16 = .ok (.ireturn, 1) := by decide +kernel
theorem dX2_takeLatest_17 : decode cX2_takeLatest 17 = .ok (.aload_n 1, 1) := by decide +kernel
theorem dX2_takeLatest_18 : decode cX2_takeLatest 18 = .ok (.aload_n 2, 1) := by decide +kernel
theorem dX2_takeLatest_19 : decode cX2_takeLatest 19 = .ok (.invokevirtual 27, 3) := by decide +kernel
theorem dX2_takeLatest_22 : decode cX2_takeLatest 22 = .ok (.aload_n 0, 1) := by decide +kernel
theorem dX2_takeLatest_23 : decode cX2_takeLatest 23 = .ok (.dup, 1) := by decide +kernel
theorem dX2_takeLatest_24 : decode cX2_takeLatest 24 = .ok (.getfield 15, 3) := by decide +kernel
theorem dX2_takeLatest_27 : decode cX2_takeLatest 27 = .ok (.iconst 1, 1) := by decide +kernel
theorem dX2_takeLatest_28 : decode cX2_takeLatest 28 = .ok (.isub, 1) := by decide +kernel
theorem dX2_takeLatest_29 : decode cX2_takeLatest 29 = .ok (.putfield 15, 3) := by decide +kernel
theorem dX2_takeLatest_32 : decode cX2_takeLatest 32 = .ok (.iconst 1, 1) := by decide +kernel
theorem dX2_takeLatest_33 : decode cX2_takeLatest 33 = .ok (.ireturn, 1) := by decide +kernel
set_option maxRecDepth 20000 in
theorem dX2_dropOldest_0 : decode cX2_dropOldest 0 = .ok (.aload_n 0, 1) := by decide +kernel
theorem dX2_dropOldest_1 : decode cX2_dropOldest 1 = .ok (.iconst 0, 1) := by decide +kernel
theorem dX2_dropOldest_2 : decode cX2_dropOldest 2 = .ok (.invokevirtual 23, 3) := by decide +kernel
theorem dX2_dropOldest_5 : decode cX2_dropOldest 5 = .ok (.astore_n 1, 1) := by decide +kernel
theorem dX2_dropOldest_6 : decode cX2_dropOldest 6 = .ok (.iconst 1, 1) := by decide +kernel
theorem dX2_dropOldest_7 : decode cX2_dropOldest 7 = .ok (.istore_n 2, 1) := by decide +kernel
theorem dX2_dropOldest_8 : decode cX2_dropOldest 8 = .ok (.iload_n 2, 1) := by decide +kernel
theorem dX2_dropOldest_9 : decode cX2_dropOldest 9 = .ok (.aload_n 0, 1) := by decide +kernel
theorem dX2_dropOldest_10 : decode cX2_dropOldest 10 = .ok (.getfield 11, 3) := by decide +kernel
theorem dX2_dropOldest_13 : decode cX2_dropOldest 13 = .ok (.arraylength, 1) := by decide +kernel
theorem dX2_dropOldest_14 : decode cX2_dropOldest 14 = .ok (.if_icmp .ge 23, 3) := by decide +kernel
theorem dX2_dropOldest_17 : decode cX2_dropOldest 17 = .ok (.aload_n 0, 1) := by decide +kernel
theorem dX2_dropOldest_18 : decode cX2_dropOldest 18 = .ok (.getfield 11, 3) := by decide +kernel
theorem dX2_dropOldest_21 : decode cX2_dropOldest 21 = .ok (.iload_n 2, 1) := by decide +kernel
theorem dX2_dropOldest_22 : decode cX2_dropOldest 22 = .ok (.iconst 1, 1) := by decide +kernel
theorem dX2_dropOldest_23 : decode cX2_dropOldest 23 = .ok (.isub, 1) := by decide +kernel
theorem dX2_dropOldest_24 : decode cX2_dropOldest 24 = .ok (.aload_n 0, 1) := by decide +kernel
theorem dX2_dropOldest_25 : decode cX2_dropOldest 25 = .ok (.getfield 11, 3) := by decide +kernel
theorem dX2_dropOldest_28 : decode cX2_dropOldest 28 = .ok (.iload_n 2, 1) := by decide +kernel
theorem dX2_dropOldest_29 : decode cX2_dropOldest 29 = .ok (.aaload, 1) := by decide +kernel
theorem dX2_dropOldest_30 : decode cX2_dropOldest 30 = .ok (.aastore, 1) := by decide +kernel
theorem dX2_dropOldest_31 : decode cX2_dropOldest 31 = .ok (.iinc 2 1, 3) := by decide +kernel
theorem dX2_dropOldest_34 : decode cX2_dropOldest 34 = .ok (.goto (-26), 3) := by decide +kernel
theorem dX2_dropOldest_37 : decode cX2_dropOldest 37 = .ok (.aload_n 0, 1) := by decide +kernel
theorem dX2_dropOldest_38 : decode cX2_dropOldest 38 = .ok (.getfield 11, 3) := by decide +kernel
theorem dX2_dropOldest_41 : decode cX2_dropOldest 41 = .ok (.arraylength, 1) := by decide +kernel
theorem dX2_dropOldest_42 : decode cX2_dropOldest 42 = .ok (.ifCond .le 16, 3) := by decide +kernel
theorem dX2_dropOldest_45 : decode cX2_dropOldest 45 = .ok (.aload_n 0, 1) := by decide +kernel
theorem dX2_dropOldest_46 : decode cX2_dropOldest 46 = .ok (.getfield 11, 3) := by decide +kernel
theorem dX2_dropOldest_49 : decode cX2_dropOldest 49 = .ok (.aload_n 0, 1) := by decide +kernel
theorem dX2_dropOldest_50 : decode cX2_dropOldest 50 = .ok (.getfield 11, 3) := by decide +kernel
theorem dX2_dropOldest_53 : decode cX2_dropOldest 53 = .ok (.arraylength, 1) := by decide +kernel
theorem dX2_dropOldest_54 : decode cX2_dropOldest 54 = .ok (.iconst 1, 1) := by decide +kernel
theorem dX2_dropOldest_55 : decode cX2_dropOldest 55 = .ok (.isub, 1) := by decide +kernel
theorem dX2_dropOldest_56 : decode cX2_dropOldest 56 = .ok (.aload_n 1, 1) := by decide +kernel
theorem dX2_dropOldest_57 : decode cX2_dropOldest 57 = .ok (.aastore, 1) := by decide +kernel
theorem dX2_dropOldest_58 : decode cX2_dropOldest 58 = .ok (.aload_n 0, 1) := by decide +kernel
theorem dX2_dropOldest_59 : decode cX2_dropOldest 59 = .ok (.dup, 1) := by decide +kernel
theorem dX2_dropOldest_60 : decode cX2_dropOldest 60 = .ok (.getfield 15, 3) := by decide +kernel
theorem dX2_dropOldest_63 : decode cX2_dropOldest 63 = .ok (.iconst 1, 1) := by decide +kernel
theorem dX2_dropOldest_64 : decode cX2_dropOldest 64 = .ok (.isub, 1) := by decide +kernel
theorem dX2_dropOldest_65 : decode cX2_dropOldest 65 = .ok (.putfield 15, 3) := by decide +kernel
theorem dX2_dropOldest_68 : decode cX2_dropOldest 68 = .ok (.return_, 1) := by decide +kernel
theorem dX2_stateAt_0 : decode cX2_stateAt 0 = .ok (.iload_n 1, 1) := by decide +kernel
theorem dX2_stateAt_1 : decode cX2_stateAt 1 = .ok (.ifCond .lt 21, 3) := by decide +kernel
theorem dX2_stateAt_4 : decode cX2_stateAt 4 = .ok (.iload_n 1, 1) := by decide +kernel
theorem dX2_stateAt_5 : decode cX2_stateAt 5 = .ok (.aload_n 0, 1) := by decide +kernel
theorem dX2_stateAt_6 : decode cX2_stateAt 6 = .ok (.getfield 11, 3) := by decide +kernel
theorem dX2_stateAt_9 : decode cX2_stateAt 9 = .ok (.arraylength, 1) := by decide +kernel
theorem dX2_stateAt_10 : decode cX2_stateAt 10 = .ok (.if_icmp .ge 12, 3) := by decide +kernel
theorem dX2_stateAt_13 : decode cX2_stateAt 13 = .ok (.aload_n 0, 1) := by decide +kernel
theorem dX2_stateAt_14 : decode cX2_stateAt 14 = .ok (.getfield 11, 3) := by decide +kernel
theorem dX2_stateAt_17 : decode cX2_stateAt 17 = .ok (.iload_n 1, 1) := by decide +kernel
theorem dX2_stateAt_18 : decode cX2_stateAt 18 = .ok (.aaload, 1) := by decide +kernel
theorem dX2_stateAt_19 : decode cX2_stateAt 19 = .ok (.goto 4, 3) := by decide +kernel
theorem dX2_stateAt_22 : decode cX2_stateAt 22 = .ok (.aconst_null, 1) := by decide +kernel
theorem dX2_stateAt_23 : decode cX2_stateAt 23 = .ok (.areturn, 1) := by decide +kernel
theorem dX3_init_0 : decode cX3_init 0 = .ok (.aload_n 0, 1) := by decide +kernel
theorem dX3_init_1 : decode cX3_init 1 = .ok (.invokespecial 3, 3) := by decide +kernel
theorem dX3_init_4 : decode cX3_init 4 = .ok (.aload_n 0, 1) := by decide +kernel
theorem dX3_init_5 : decode cX3_init 5 = .ok (.bipush 60, 2) := by decide +kernel
theorem dX3_init_7 : decode cX3_init 7 = .ok (.newarray .char, 2) := by decide +kernel
theorem dX3_init_9 : decode cX3_init 9 = .ok (.putfield 11, 3) := by decide +kernel
theorem dX3_init_12 : decode cX3_init 12 = .ok (.aload_n 0, 1) := by decide +kernel
theorem dX3_init_13 : decode cX3_init 13 = .ok (.iconst 0, 1) := by decide +kernel
theorem dX3_init_14 : decode cX3_init 14 = .ok (.putfield 15, 3) := by decide +kernel
theorem dX3_init_17 : decode cX3_init 17 = .ok (.aload_n 0, 1) := by decide +kernel
theorem dX3_init_18 : decode cX3_init 18 = .ok (.bipush 10, 2) := by decide +kernel
theorem dX3_init_20 : decode cX3_init 20 = .ok (.anewarray 19, 3) := by decide +kernel
theorem dX3_init_23 : decode cX3_init 23 = .ok (.putfield 21, 3) := by decide +kernel
theorem dX3_init_26 : decode cX3_init 26 = .ok (.aload_n 0, 1) := by decide +kernel
theorem dX3_init_27 : decode cX3_init 27 = .ok (.bipush 40, 2) := by decide +kernel
theorem dX3_init_29 : decode cX3_init 29 = .ok (.newarray .int, 2) := by decide +kernel
theorem dX3_init_31 : decode cX3_init 31 = .ok (.putfield 25, 3) := by decide +kernel
theorem dX3_init_34 : decode cX3_init 34 = .ok (.aload_n 0, 1) := by decide +kernel
theorem dX3_init_35 : decode cX3_init 35 = .ok (.iconst 0, 1) := by decide +kernel
theorem dX3_init_36 : decode cX3_init 36 = .ok (.putfield 29, 3) := by decide +kernel
theorem dX3_init_39 : decode cX3_init 39 = .ok (.aload_n 0, 1) := by decide +kernel
theorem dX3_init_40 : decode cX3_init 40 = .ok (.iconst 0, 1) := by decide +kernel
theorem dX3_init_41 : decode cX3_init 41 = .ok (.putfield 32, 3) := by decide +kernel
theorem dX3_init_44 : decode cX3_init 44 = .ok (.return_, 1) := by decide +kernel
theorem dX3_append_0 : decode cX3_append 0 = .ok (.aload_n 0, 1) := by decide +kernel
theorem dX3_append_1 : decode cX3_append 1 = .ok (.getfield 15, 3) := by decide +kernel
theorem dX3_append_4 : decode cX3_append 4 = .ok (.ifCond .lt 15, 3) := by decide +kernel
theorem dX3_append_7 : decode cX3_append 7 = .ok (.aload_n 0, 1) := by decide +kernel
theorem dX3_append_8 : decode cX3_append 8 = .ok (.getfield 15, 3) := by decide +kernel
theorem dX3_append_11 : decode cX3_append 11 = .ok (.aload_n 0, 1) := by decide +kernel
theorem dX3_append_12 : decode cX3_append 12 = .ok (.getfield 11, 3) := by decide +kernel
theorem dX3_append_15 : decode cX3_append 15 = .ok (.arraylength, 1) := by decide +kernel
theorem dX3_append_16 : decode cX3_append 16 = .ok (.if_icmp .lt 5, 3) := by decide +kernel
theorem dX3_append_19 : decode cX3_append 19 = .ok (.iconst 0, 1) := by decide +kernel
theorem dX3_append_20 : decode cX3_append 20 = .ok (.ireturn, 1) := by decide +kernel
theorem dX3_append_21 : decode cX3_append 21 = .ok (.aload_n 0, 1) := by decide +kernel
theorem dX3_append_22 : decode cX3_append 22 = .ok (.getfield 11, 3) := by decide +kernel
theorem dX3_append_25 : decode cX3_append 25 = .ok (.aload_n 0, 1) := by decide +kernel
theorem dX3_append_26 : decode cX3_append 26 = .ok (.getfield 15, 3) := by decide +kernel
theorem dX3_append_29 : decode cX3_append 29 = .ok (.iload_n 1, 1) := by decide +kernel
theorem dX3_append_30 : decode cX3_append 30 = .ok (.castore, 1) := by decide +kernel
theorem dX3_append_31 : decode cX3_append 31 = .ok (.aload_n 0, 1) := by decide +kernel
theorem dX3_append_32 : decode cX3_append 32 = .ok (.dup, 1) := by decide +kernel
theorem dX3_append_33 : decode cX3_append 33 = .ok (.getfield 15, 3) := by decide +kernel
theorem dX3_append_36 : decode cX3_append 36 = .ok (.iconst 1, 1) := by decide +kernel
theorem dX3_append_37 : decode cX3_append 37 = .ok (.iadd, 1) := by decide +kernel
theorem dX3_append_38 : decode cX3_append 38 = .ok (.putfield 15, 3) := by decide +kernel
theorem dX3_append_41 : decode cX3_append 41 = .ok (.iconst 1, 1) := by decide +kernel
theorem dX3_append_42 : decode cX3_append 42 = .ok (.ireturn, 1) := by decide +kernel
theorem dX3_clear_0 : decode cX3_clear 0 = .ok (.aload_n 0, 1) := by decide +kernel
theorem dX3_clear_1 : decode cX3_clear 1 = .ok (.getfield 15, 3) := by decide +kernel
theorem dX3_clear_4 : decode cX3_clear 4 = .ok (.istore_n 1, 1) := by decide +kernel
theorem dX3_clear_5 : decode cX3_clear 5 = .ok (.aload_n 0, 1) := by decide +kernel
theorem dX3_clear_6 : decode cX3_clear 6 = .ok (.iconst 0, 1) := by decide +kernel
theorem dX3_clear_7 : decode cX3_clear 7 = .ok (.putfield 15, 3) := by decide +kernel
theorem dX3_clear_10 : decode cX3_clear 10 = .ok (.iload_n 1, 1) := by decide +kernel
theorem dX3_clear_11 : decode cX3_clear 11 = .ok (.ireturn, 1) := by decide +kernel
theorem dX3_wordOf_0 : decode cX3_wordOf 0 = .ok (.iload_n 1, 1) := by decide +kernel
theorem dX3_wordOf_1 : decode cX3_wordOf 1 = .ok (.ifCond .lt 21, 3) := by decide +kernel
theorem dX3_wordOf_4 : decode cX3_wordOf 4 = .ok (.iload_n 1, 1) := by decide +kernel
theorem dX3_wordOf_5 : decode cX3_wordOf 5 = .ok (.aload_n 0, 1) := by decide +kernel
theorem dX3_wordOf_6 : decode cX3_wordOf 6 = .ok (.getfield 21, 3) := by decide +kernel
theorem dX3_wordOf_9 : decode cX3_wordOf 9 = .ok (.arraylength, 1) := by decide +kernel
theorem dX3_wordOf_10 : decode cX3_wordOf 10 = .ok (.if_icmp .ge 12, 3) := by decide +kernel
theorem dX3_wordOf_13 : decode cX3_wordOf 13 = .ok (.aload_n 0, 1) := by decide +kernel
theorem dX3_wordOf_14 : decode cX3_wordOf 14 = .ok (.getfield 21, 3) := by decide +kernel
theorem dX3_wordOf_17 : decode cX3_wordOf 17 = .ok (.iload_n 1, 1) := by decide +kernel
theorem dX3_wordOf_18 : decode cX3_wordOf 18 = .ok (.aaload, 1) := by decide +kernel
theorem dX3_wordOf_19 : decode cX3_wordOf 19 = .ok (.goto 4, 3) := by decide +kernel
theorem dX3_wordOf_22 : decode cX3_wordOf 22 = .ok (.aconst_null, 1) := by decide +kernel
theorem dX3_wordOf_23 : decode cX3_wordOf 23 = .ok (.areturn, 1) := by decide +kernel
set_option maxRecDepth 20000 in
theorem dX3_numberOf_0 : decode cX3_numberOf 0 = .ok (.aload_n 0, 1) := by decide +kernel
theorem dX3_numberOf_1 : decode cX3_numberOf 1 = .ok (.getfield 25, 3) := by decide +kernel
theorem dX3_numberOf_4 : decode cX3_numberOf 4 = .ok (.iload_n 1, 1) := by decide +kernel
theorem dX3_numberOf_5 : decode cX3_numberOf 5 = .ok (.iconst 4, 1) := by decide +kernel
theorem dX3_numberOf_6 : decode cX3_numberOf 6 = .ok (.imul, 1) := by decide +kernel
theorem dX3_numberOf_7 : decode cX3_numberOf 7 = .ok (.iload_n 2, 1) := by decide +kernel
theorem dX3_numberOf_8 : decode cX3_numberOf 8 = .ok (.iadd, 1) := by decide +kernel
theorem dX3_numberOf_9 : decode cX3_numberOf 9 = .ok (.invokestatic 35, 3) := by decide +kernel
theorem dX3_numberOf_12 : decode cX3_numberOf 12 = .ok (.ireturn, 1) := by decide +kernel
set_option maxRecDepth 20000 in
theorem dX3_readAll_0 : decode cX3_readAll 0 = .ok (.aload_n 0, 1) := by decide +kernel
theorem dX3_readAll_1 : decode cX3_readAll 1 = .ok (.iconst 0, 1) := by decide +kernel
theorem dX3_readAll_2 : decode cX3_readAll 2 = .ok (.putfield 32, 3) := by decide +kernel
theorem dX3_readAll_5 : decode cX3_readAll 5 = .ok (.aload_n 0, 1) := by decide +kernel
theorem dX3_readAll_6 : decode cX3_readAll 6 = .ok (.iconst 0, 1) := by decide +kernel
theorem dX3_readAll_7 : decode cX3_readAll 7 = .ok (.putfield 29, 3) := by decide +kernel
theorem dX3_readAll_10 : decode cX3_readAll 10 = .ok (.iconst 0, 1) := by decide +kernel
theorem dX3_readAll_11 : decode cX3_readAll 11 = .ok (.istore_n 1, 1) := by decide +kernel
theorem dX3_readAll_12 : decode cX3_readAll 12 = .ok (.iload_n 1, 1) := by decide +kernel
theorem dX3_readAll_13 : decode cX3_readAll 13 = .ok (.bipush 10, 2) := by decide +kernel
theorem dX3_readAll_15 : decode cX3_readAll 15 = .ok (.if_icmp .ge 49, 3) := by decide +kernel
theorem dX3_readAll_18 : decode cX3_readAll 18 = .ok (.aload_n 0, 1) := by decide +kernel
theorem dX3_readAll_19 : decode cX3_readAll 19 = .ok (.invokevirtual 39, 3) := by decide +kernel
theorem dX3_readAll_22 : decode cX3_readAll 22 = .ok (.ifCond .ne 8, 3) := by decide +kernel
theorem dX3_readAll_25 : decode cX3_readAll 25 = .ok (.aload_n 0, 1) := by decide +kernel
theorem dX3_readAll_26 : decode cX3_readAll 26 = .ok (.getfield 32, 3) := by decide +kernel
theorem dX3_readAll_29 : decode cX3_readAll 29 = .ok (.ireturn, 1) := by decide +kernel
theorem dX3_readAll_30 : decode cX3_readAll 30 = .ok (.aload_n 0, 1) := by decide +kernel
theorem dX3_readAll_31 : decode cX3_readAll 31 = .ok (.getfield 32, 3) := by decide +kernel
theorem dX3_readAll_34 : decode cX3_readAll 34 = .ok (.aload_n 0, 1) := by decide +kernel
theorem dX3_readAll_35 : decode cX3_readAll 35 = .ok (.getfield 15, 3) := by decide +kernel
theorem dX3_readAll_38 : decode cX3_readAll 38 = .ok (.if_icmp .lt 6, 3) := by decide +kernel
theorem dX3_readAll_41 : decode cX3_readAll 41 = .ok (.bipush (-5), 2) := by decide +kernel
theorem dX3_readAll_43 : decode cX3_readAll 43 = .ok (.ireturn, 1) := by decide +kernel
theorem dX3_readAll_44 : decode cX3_readAll 44 = .ok (.aload_n 0, 1) := by decide +kernel
theorem dX3_readAll_45 : decode cX3_readAll 45 = .ok (.bipush 59, 2) := by decide +kernel
theorem dX3_readAll_47 : decode cX3_readAll 47 = .ok (.invokevirtual 43, 3) := by decide +kernel
theorem dX3_readAll_50 : decode cX3_readAll 50 = .ok (.ifCond .ne 8, 3) := by decide +kernel
theorem dX3_readAll_53 : decode cX3_readAll 53 = .ok (.aload_n 0, 1) := by decide +kernel
theorem dX3_readAll_54 : decode cX3_readAll 54 = .ok (.getfield 32, 3) := by decide +kernel
theorem dX3_readAll_57 : decode cX3_readAll 57 = .ok (.ireturn, 1) := by decide +kernel
theorem dX3_readAll_58 : decode cX3_readAll 58 = .ok (.iinc 1 1, 3) := by decide +kernel
theorem dX3_readAll_61 : decode cX3_readAll 61 = .ok (.goto (-49), 3) := by decide +kernel
theorem dX3_readAll_64 : decode cX3_readAll 64 = .ok (.aload_n 0, 1) := by decide +kernel
theorem dX3_readAll_65 : decode cX3_readAll 65 = .ok (.getfield 32, 3) := by decide +kernel
theorem dX3_readAll_68 : decode cX3_readAll 68 = .ok (.ireturn, 1) := by decide +kernel
set_option maxRecDepth 20000 in
theorem dX3_readOrder_0 : decode cX3_readOrder 0 = .ok (.aload_n 0, 1) := by decide +kernel
theorem dX3_readOrder_1 : decode cX3_readOrder 1 = .ok (.invokevirtual 47, 3) := by decide +kernel
theorem dX3_readOrder_4 : decode cX3_readOrder 4 = .ok (.astore_n 1, 1) := by decide +kernel
theorem dX3_readOrder_5 : decode cX3_readOrder 5 = .ok (.aload_n 1, 1) := by decide +kernel
theorem dX3_readOrder_6 : decode cX3_readOrder 6 = .ok (.ifnull 15, 3) := by decide +kernel
theorem dX3_readOrder_9 : decode cX3_readOrder 9 = .ok (.aload_n 0, 1) := by decide +kernel
theorem dX3_readOrder_10 : decode cX3_readOrder 10 = .ok (.getfield 29, 3) := by decide +kernel
theorem dX3_readOrder_13 : decode cX3_readOrder 13 = .ok (.aload_n 0, 1) := by decide +kernel
theorem dX3_readOrder_14 : decode cX3_readOrder 14 = .ok (.getfield 21, 3) := by decide +kernel
theorem dX3_readOrder_17 : decode cX3_readOrder 17 = .ok (.arraylength, 1) := by decide +kernel
theorem dX3_readOrder_18 : decode cX3_readOrder 18 = .ok (.if_icmp .lt 5, 3) := by decide +kernel
theorem dX3_readOrder_21 : decode cX3_readOrder 21 = .ok (.iconst 0, 1) := by decide +kernel
theorem dX3_readOrder_22 : decode cX3_readOrder 22 = .ok (.ireturn, 1) := by decide +kernel
theorem dX3_readOrder_23 : decode cX3_readOrder 23 = .ok (.aload_n 0, 1) := by decide +kernel
theorem dX3_readOrder_24 : decode cX3_readOrder 24 = .ok (.getfield 21, 3) := by decide +kernel
theorem dX3_readOrder_27 : decode cX3_readOrder 27 = .ok (.aload_n 0, 1) := by decide +kernel
theorem dX3_readOrder_28 : decode cX3_readOrder 28 = .ok (.getfield 29, 3) := by decide +kernel
theorem dX3_readOrder_31 : decode cX3_readOrder 31 = .ok (.aload_n 1, 1) := by decide +kernel
theorem dX3_readOrder_32 : decode cX3_readOrder 32 = .ok (.aastore, 1) := by decide +kernel
theorem dX3_readOrder_33 : decode cX3_readOrder 33 = .ok (.iconst 0, 1) := by decide +kernel
theorem dX3_readOrder_34 : decode cX3_readOrder 34 = .ok (.istore_n 2, 1) := by decide +kernel
theorem dX3_readOrder_35 : decode cX3_readOrder 35 = .ok (.iconst 0, 1) := by decide +kernel
theorem dX3_readOrder_36 : decode cX3_readOrder 36 = .ok (.istore_n 3, 1) := by decide +kernel
theorem dX3_readOrder_37 : decode cX3_readOrder 37 = .ok (.iload_n 3, 1) := by decide +kernel
theorem dX3_readOrder_38 : decode cX3_readOrder 38 = .ok (.aload_n 1, 1) := by decide +kernel
theorem dX3_readOrder_39 : decode cX3_readOrder 39 = .ok (.getfield 51, 3) := by decide +kernel
theorem dX3_readOrder_42 : decode cX3_readOrder 42 = .ok (.invokevirtual 55, 3) := by decide +kernel
theorem dX3_readOrder_45 : decode cX3_readOrder 45 = .ok (.if_icmp .ge 75, 3) := by decide +kernel
theorem dX3_readOrder_48 : decode cX3_readOrder 48 = .ok (.aload_n 1, 1) := by decide +kernel
theorem dX3_readOrder_49 : decode cX3_readOrder 49 = .ok (.getfield 51, 3) := by decide +kernel
theorem dX3_readOrder_52 : decode cX3_readOrder 52 = .ok (.iload_n 3, 1) := by decide +kernel
theorem dX3_readOrder_53 : decode cX3_readOrder 53 = .ok (.invokevirtual 60, 3) := by decide +kernel
theorem dX3_readOrder_56 : decode cX3_readOrder 56 = .ok (.istore 4, 2) := by decide +kernel
theorem dX3_readOrder_58 : decode cX3_readOrder 58 = .ok (.iload 4, 2) := by decide +kernel
theorem dX3_readOrder_60 : decode cX3_readOrder 60 = .ok (.invokestatic 64, 3) := by decide +kernel
theorem dX3_readOrder_63 : decode cX3_readOrder 63 = .ok (.istore 5, 2) := by decide +kernel
theorem dX3_readOrder_65 : decode cX3_readOrder 65 = .ok (.iload 5, 2) := by decide +kernel
theorem dX3_readOrder_67 : decode cX3_readOrder 67 = .ok (.ifCond .eq 23, 3) := by decide +kernel
theorem dX3_readOrder_70 : decode cX3_readOrder 70 = .ok (.aload_n 0, 1) := by decide +kernel
theorem dX3_readOrder_71 : decode cX3_readOrder 71 = .ok (.iload 4, 2) := by decide +kernel
theorem dX3_readOrder_73 : decode cX3_readOrder 73 = .ok (.aload_n 0, 1) := by decide +kernel
theorem dX3_readOrder_74 : decode cX3_readOrder 74 = .ok (.getfield 29, 3) := by decide +kernel
theorem dX3_readOrder_77 : decode cX3_readOrder 77 = .ok (.iconst 4, 1) := by decide +kernel
theorem dX3_readOrder_78 : decode cX3_readOrder 78 = .ok (.imul, 1) := by decide +kernel
theorem dX3_readOrder_79 : decode cX3_readOrder 79 = .ok (.iload_n 2, 1) := by decide +kernel
theorem dX3_readOrder_80 : decode cX3_readOrder 80 = .ok (.iadd, 1) := by decide +kernel
theorem dX3_readOrder_81 : decode cX3_readOrder 81 = .ok (.invokevirtual 67, 3) := by decide +kernel
theorem dX3_readOrder_84 : decode cX3_readOrder 84 = .ok (.ifCond .ne 17, 3) := by decide +kernel
theorem dX3_readOrder_87 : decode cX3_readOrder 87 = .ok (.goto 12, 3) := by decide +kernel
theorem dX3_readOrder_90 : decode cX3_readOrder 90 = .ok (.aload_n 0, 1) := by decide +kernel
theorem dX3_readOrder_91 : decode cX3_readOrder 91 = .ok (.iload 4, 2) := by decide +kernel
theorem dX3_readOrder_93 : decode cX3_readOrder 93 = .ok (.invokevirtual 43, 3) := by decide +kernel
theorem dX3_readOrder_96 : decode cX3_readOrder 96 = .ok (.ifCond .ne 5, 3) := by decide +kernel
theorem dX3_readOrder_99 : decode cX3_readOrder 99 = .ok (.iconst 0, 1) := by decide +kernel
theorem dX3_readOrder_100 : decode cX3_readOrder 100 = .ok (.ireturn, 1) := by decide +kernel
theorem dX3_readOrder_101 : decode cX3_readOrder 101 = .ok (.iload_n 2, 1) := by decide +kernel
theorem dX3_readOrder_102 : decode cX3_readOrder 102 = .ok (.iload 5, 2) := by decide +kernel
theorem dX3_readOrder_104 : decode cX3_readOrder 104 = .ok (.ifCond .eq 7, 3) := by decide +kernel
theorem dX3_readOrder_107 : decode cX3_readOrder 107 = .ok (.iconst 1, 1) := by decide +kernel
theorem dX3_readOrder_108 : decode cX3_readOrder 108 = .ok (.goto 4, 3) := by decide +kernel
theorem dX3_readOrder_111 : decode cX3_readOrder 111 = .ok (.iconst 0, 1) := by decide +kernel
theorem dX3_readOrder_112 : decode cX3_readOrder 112 = .ok (.iadd, 1) := by decide +kernel
theorem dX3_readOrder_113 : decode cX3_readOrder 113 = .ok (.istore_n 2, 1) := by decide +kernel
theorem dX3_readOrder_114 : decode cX3_readOrder 114 = .ok (.iinc 3 1, 3) := by decide +kernel
theorem dX3_readOrder_117 : decode cX3_readOrder 117 = .ok (.goto (-80), 3) := by decide +kernel
theorem dX3_readOrder_120 : decode cX3_readOrder 120 = .ok (.aload_n 0, 1) := by decide +kernel
theorem dX3_readOrder_121 : decode cX3_readOrder 121 = .ok (.dup, 1) := by decide +kernel
theorem dX3_readOrder_122 : decode cX3_readOrder 122 = .ok (.getfield 29, 3) := by decide +kernel
theorem dX3_readOrder_125 : decode cX3_readOrder 125 = .ok (.iconst 1, 1) := by decide +kernel
theorem dX3_readOrder_126 : decode cX3_readOrder 126 = .ok (.iadd, 1) := by decide +kernel
theorem dX3_readOrder_127 : decode cX3_readOrder 127 = .ok (.putfield 29, 3) := by decide +kernel
theorem dX3_readOrder_130 : decode cX3_readOrder 130 = .ok (.iconst 1, 1) := by decide +kernel
theorem dX3_readOrder_131 : decode cX3_readOrder 131 = .ok (.ireturn, 1) := by decide +kernel
set_option maxRecDepth 20000 in
theorem dX3_readWord_0 : decode cX3_readWord 0 = .ok (.iconst 0, 1) := by decide +kernel
theorem dX3_readWord_1 : decode cX3_readWord 1 = .ok (.istore_n 1, 1) := by decide +kernel
theorem dX3_readWord_2 : decode cX3_readWord 2 = .ok (.getstatic 71, 3) := by decide +kernel
theorem dX3_readWord_5 : decode cX3_readWord 5 = .ok (.astore_n 2, 1) := by decide +kernel
theorem dX3_readWord_6 : decode cX3_readWord 6 = .ok (.aload_n 2, 1) := by decide +kernel
theorem dX3_readWord_7 : decode cX3_readWord 7 = .ok (.arraylength, 1) := by decide +kernel
theorem dX3_readWord_8 : decode cX3_readWord 8 = .ok (.istore_n 3, 1) := by decide +kernel
theorem dX3_readWord_9 : decode cX3_readWord 9 = .ok (.iconst 0, 1) := by decide +kernel
theorem dX3_readWord_10 : decode cX3_readWord 10 = .ok (.istore 4, 2) := by decide +kernel
theorem dX3_readWord_12 : decode cX3_readWord 12 = .ok (.iload 4, 2) := by decide +kernel
theorem dX3_readWord_14 : decode cX3_readWord 14 = .ok (.iload_n 3, 1) := by decide +kernel
theorem dX3_readWord_15 : decode cX3_readWord 15 = .ok (.if_icmp .ge 60, 3) := by decide +kernel
theorem dX3_readWord_18 : decode cX3_readWord 18 = .ok (.aload_n 2, 1) := by decide +kernel
theorem dX3_readWord_19 : decode cX3_readWord 19 = .ok (.iload 4, 2) := by decide +kernel
theorem dX3_readWord_21 : decode cX3_readWord 21 = .ok (.aaload, 1) := by decide +kernel
theorem dX3_readWord_22 : decode cX3_readWord 22 = .ok (.astore 5, 2) := by decide +kernel
theorem dX3_readWord_24 : decode cX3_readWord 24 = .ok (.aload_n 0, 1) := by decide +kernel
theorem dX3_readWord_25 : decode cX3_readWord 25 = .ok (.aload 5, 2) := by decide +kernel
theorem dX3_readWord_27 : decode cX3_readWord 27 = .ok (.getfield 74, 3) := by decide +kernel
theorem dX3_readWord_30 : decode cX3_readWord 30 = .ok (.invokevirtual 77, 3) := by decide +kernel
theorem dX3_readWord_33 : decode cX3_readWord 33 = .ok (.istore 6, 2) := by decide +kernel
theorem dX3_readWord_35 : decode cX3_readWord 35 = .ok (.iload 6, 2) := by decide +kernel
theorem dX3_readWord_37 : decode cX3_readWord 37 = .ok (.aload 5, 2) := by decide +kernel
theorem dX3_readWord_39 : decode cX3_readWord 39 = .ok (.getfield 74, 3) := by decide +kernel
theorem dX3_readWord_42 : decode cX3_readWord 42 = .ok (.invokevirtual 55, 3) := by decide +kernel
theorem dX3_readWord_45 : decode cX3_readWord 45 = .ok (.if_icmp .ne 17, 3) := by decide +kernel
theorem dX3_readWord_48 : decode cX3_readWord 48 = .ok (.aload_n 0, 1) := by decide +kernel
theorem dX3_readWord_49 : decode cX3_readWord 49 = .ok (.dup, 1) := by decide +kernel
theorem dX3_readWord_50 : decode cX3_readWord 50 = .ok (.getfield 32, 3) := by decide +kernel
theorem dX3_readWord_53 : decode cX3_readWord 53 = .ok (.iload 6, 2) := by decide +kernel
theorem dX3_readWord_55 : decode cX3_readWord 55 = .ok (.iadd, 1) := by decide +kernel
theorem dX3_readWord_56 : decode cX3_readWord 56 = .ok (.putfield 32, 3) := by decide +kernel
theorem dX3_readWord_59 : decode cX3_readWord 59 = .ok (.aload 5, 2) := by decide +kernel
theorem dX3_readWord_61 : decode cX3_readWord 61 = .ok (.areturn, 1) := by decide +kernel
theorem dX3_readWord_62 : decode cX3_readWord 62 = .ok (.iload_n 1, 1) := by decide +kernel
theorem dX3_readWord_63 : decode cX3_readWord 63 = .ok (.iload 6, 2) := by decide +kernel
theorem dX3_readWord_65 : decode cX3_readWord 65 = .ok (.invokestatic 81, 3) := by decide +kernel
theorem dX3_readWord_68 : decode cX3_readWord 68 = .ok (.istore_n 1, 1) := by decide +kernel
theorem dX3_readWord_69 : decode cX3_readWord 69 = .ok (.iinc 4 1, 3) := by decide +kernel
theorem dX3_readWord_72 : decode cX3_readWord 72 = .ok (.goto (-60), 3) := by decide +kernel
theorem dX3_readWord_75 : decode cX3_readWord 75 = .ok (.aload_n 0, 1) := by decide +kernel
theorem dX3_readWord_76 : decode cX3_readWord 76 = .ok (.dup, 1) := by decide +kernel
theorem dX3_readWord_77 : decode cX3_readWord 77 = .ok (.getfield 32, 3) := by decide +kernel
theorem dX3_readWord_80 : decode cX3_readWord 80 = .ok (.iload_n 1, 1) := by decide +kernel
theorem dX3_readWord_81 : decode cX3_readWord 81 = .ok (.iadd, 1) := by decide +kernel
theorem dX3_readWord_82 : decode cX3_readWord 82 = .ok (.putfield 32, 3) := by decide +kernel
theorem dX3_readWord_85 : decode cX3_readWord 85 = .ok (.aconst_null, 1) := by decide +kernel
theorem dX3_readWord_86 : decode cX3_readWord 86 = .ok (.areturn, 1) := by decide +kernel
set_option maxRecDepth 20000 in
theorem dX3_sameAs_0 : decode cX3_sameAs 0 = .ok (.iconst 0, 1) := by decide +kernel
theorem dX3_sameAs_1 : decode cX3_sameAs 1 = .ok (.istore_n 2, 1) := by decide +kernel
theorem dX3_sameAs_2 : decode cX3_sameAs 2 = .ok (.iload_n 2, 1) := by decide +kernel
theorem dX3_sameAs_3 : decode cX3_sameAs 3 = .ok (.aload_n 1, 1) := by decide +kernel
theorem dX3_sameAs_4 : decode cX3_sameAs 4 = .ok (.invokevirtual 55, 3) := by decide +kernel
theorem dX3_sameAs_7 : decode cX3_sameAs 7 = .ok (.if_icmp .ge 27, 3) := by decide +kernel
theorem dX3_sameAs_10 : decode cX3_sameAs 10 = .ok (.aload_n 0, 1) := by decide +kernel
theorem dX3_sameAs_11 : decode cX3_sameAs 11 = .ok (.aload_n 0, 1) := by decide +kernel
theorem dX3_sameAs_12 : decode cX3_sameAs 12 = .ok (.getfield 32, 3) := by decide +kernel
theorem dX3_sameAs_15 : decode cX3_sameAs 15 = .ok (.iload_n 2, 1) := by decide +kernel
theorem dX3_sameAs_16 : decode cX3_sameAs 16 = .ok (.iadd, 1) := by decide +kernel
theorem dX3_sameAs_17 : decode cX3_sameAs 17 = .ok (.aload_n 1, 1) := by decide +kernel
theorem dX3_sameAs_18 : decode cX3_sameAs 18 = .ok (.iload_n 2, 1) := by decide +kernel
theorem dX3_sameAs_19 : decode cX3_sameAs 19 = .ok (.invokevirtual 60, 3) := by decide +kernel
theorem dX3_sameAs_22 : decode cX3_sameAs 22 = .ok (.invokevirtual 87, 3) := by decide +kernel
theorem dX3_sameAs_25 : decode cX3_sameAs 25 = .ok (.ifCond .eq 9, 3) := by decide +kernel
theorem dX3_sameAs_28 : decode cX3_sameAs 28 = .ok (.iinc 2 1, 3) := by decide +kernel
theorem dX3_sameAs_31 : decode cX3_sameAs 31 = .ok (.goto (-29), 3) := by decide +kernel
theorem dX3_sameAs_34 : decode cX3_sameAs 34 = .ok (.iload_n 2, 1) := by decide +kernel
theorem dX3_sameAs_35 : decode cX3_sameAs 35 = .ok (.ireturn, 1) := by decide +kernel
set_option maxRecDepth 20000 in
theorem dX3_readSign_0 : decode cX3_readSign 0 = .ok (.aload_n 0, 1) := by decide +kernel
theorem dX3_readSign_1 : decode cX3_readSign 1 = .ok (.aload_n 0, 1) := by decide +kernel
theorem dX3_readSign_2 : decode cX3_readSign 2 = .ok (.getfield 32, 3) := by decide +kernel
theorem dX3_readSign_5 : decode cX3_readSign 5 = .ok (.iload_n 1, 1) := by decide +kernel
theorem dX3_readSign_6 : decode cX3_readSign 6 = .ok (.invokevirtual 87, 3) := by decide +kernel
theorem dX3_readSign_9 : decode cX3_readSign 9 = .ok (.istore_n 2, 1) := by decide +kernel
theorem dX3_readSign_10 : decode cX3_readSign 10 = .ok (.aload_n 0, 1) := by decide +kernel
theorem dX3_readSign_11 : decode cX3_readSign 11 = .ok (.dup, 1) := by decide +kernel
theorem dX3_readSign_12 : decode cX3_readSign 12 = .ok (.getfield 32, 3) := by decide +kernel
theorem dX3_readSign_15 : decode cX3_readSign 15 = .ok (.iload_n 2, 1) := by decide +kernel
theorem dX3_readSign_16 : decode cX3_readSign 16 = .ok (.ifCond .eq 7, 3) := by decide +kernel
theorem dX3_readSign_19 : decode cX3_readSign 19 = .ok (.iconst 1, 1) := by decide +kernel
theorem dX3_readSign_20 : decode cX3_readSign 20 = .ok (.goto 4, 3) := by decide +kernel
theorem dX3_readSign_23 : decode cX3_readSign 23 = .ok (.iconst 0, 1) := by decide +kernel
theorem dX3_readSign_24 : decode cX3_readSign 24 = .ok (.iadd, 1) := by decide +kernel
theorem dX3_readSign_25 : decode cX3_readSign 25 = .ok (.putfield 32, 3) := by decide +kernel
theorem dX3_readSign_28 : decode cX3_readSign 28 = .ok (.iload_n 2, 1) := by decide +kernel
theorem dX3_readSign_29 : decode cX3_readSign 29 = .ok (.ireturn, 1) := by decide +kernel
theorem dX3_hasSign_0 : decode cX3_hasSign 0 = .ok (.iload_n 1, 1) := by decide +kernel
theorem dX3_hasSign_1 : decode cX3_hasSign 1 = .ok (.ifCond .lt 34, 3) := by decide +kernel
theorem dX3_hasSign_4 : decode cX3_hasSign 4 = .ok (.iload_n 1, 1) := by decide +kernel
theorem dX3_hasSign_5 : decode cX3_hasSign 5 = .ok (.aload_n 0, 1) := by decide +kernel
theorem dX3_hasSign_6 : decode cX3_hasSign 6 = .ok (.getfield 15, 3) := by decide +kernel
theorem dX3_hasSign_9 : decode cX3_hasSign 9 = .ok (.if_icmp .ge 26, 3) := by decide +kernel
theorem dX3_hasSign_12 : decode cX3_hasSign 12 = .ok (.iload_n 1, 1) := by decide +kernel
theorem dX3_hasSign_13 : decode cX3_hasSign 13 = .ok (.aload_n 0, 1) := by decide +kernel
theorem dX3_hasSign_14 : decode cX3_hasSign 14 = .ok (.getfield 11, 3) := by decide +kernel
theorem dX3_hasSign_17 : decode cX3_hasSign 17 = .ok (.arraylength, 1) := by decide +kernel
theorem dX3_hasSign_18 : decode cX3_hasSign 18 = .ok (.if_icmp .ge 17, 3) := by decide +kernel
theorem dX3_hasSign_21 : decode cX3_hasSign 21 = .ok (.aload_n 0, 1) := by decide +kernel
theorem dX3_hasSign_22 : decode cX3_hasSign 22 = .ok (.getfield 11, 3) := by decide +kernel
theorem dX3_hasSign_25 : decode cX3_hasSign 25 = .ok (.iload_n 1, 1) := by decide +kernel
theorem dX3_hasSign_26 : decode cX3_hasSign 26 = .ok (.caload, 1) := by decide +kernel
theorem dX3_hasSign_27 : decode cX3_hasSign 27 = .ok (.iload_n 2, 1) := by decide +kernel
theorem dX3_hasSign_28 : decode cX3_hasSign 28 = .ok (.if_icmp .ne 7, 3) := by decide +kernel
theorem dX3_hasSign_31 : decode cX3_hasSign 31 = .ok (.iconst 1, 1) := by decide +kernel
theorem dX3_hasSign_32 : decode cX3_hasSign 32 = .ok (.goto 4, 3) := by decide +kernel
theorem dX3_hasSign_35 : decode cX3_hasSign 35 = .ok (.iconst 0, 1) := by decide +kernel
theorem dX3_hasSign_36 : decode cX3_hasSign 36 = .ok (.ireturn, 1) := by decide +kernel
set_option maxRecDepth 20000 in
theorem dX3_readNumber_0 : decode cX3_readNumber 0 = .ok (.iconst 0, 1) := by decide +kernel
theorem dX3_readNumber_1 : decode cX3_readNumber 1 = .ok (.istore_n 3, 1) := by decide +kernel
theorem dX3_readNumber_2 : decode cX3_readNumber 2 = .ok (.iconst 0, 1) := by decide +kernel
theorem dX3_readNumber_3 : decode cX3_readNumber 3 = .ok (.istore 4, 2) := by decide +kernel
theorem dX3_readNumber_5 : decode cX3_readNumber 5 = .ok (.aload_n 0, 1) := by decide +kernel
theorem dX3_readNumber_6 : decode cX3_readNumber 6 = .ok (.iload_n 3, 1) := by decide +kernel
theorem dX3_readNumber_7 : decode cX3_readNumber 7 = .ok (.iload 4, 2) := by decide +kernel
theorem dX3_readNumber_9 : decode cX3_readNumber 9 = .ok (.iload_n 1, 1) := by decide +kernel
theorem dX3_readNumber_10 : decode cX3_readNumber 10 = .ok (.invokevirtual 91, 3) := by decide +kernel
theorem dX3_readNumber_13 : decode cX3_readNumber 13 = .ok (.istore 5, 2) := by decide +kernel
theorem dX3_readNumber_15 : decode cX3_readNumber 15 = .ok (.iload 4, 2) := by decide +kernel
theorem dX3_readNumber_17 : decode cX3_readNumber 17 = .ok (.iconst 4, 1) := by decide +kernel
theorem dX3_readNumber_18 : decode cX3_readNumber 18 = .ok (.if_icmp .ge 37, 3) := by decide +kernel
theorem dX3_readNumber_21 : decode cX3_readNumber 21 = .ok (.iload 5, 2) := by decide +kernel
theorem dX3_readNumber_23 : decode cX3_readNumber 23 = .ok (.ifCond .lt 32, 3) := by decide +kernel
theorem dX3_readNumber_26 : decode cX3_readNumber 26 = .ok (.iload 5, 2) := by decide +kernel
theorem dX3_readNumber_28 : decode cX3_readNumber 28 = .ok (.istore_n 3, 1) := by decide +kernel
theorem dX3_readNumber_29 : decode cX3_readNumber 29 = .ok (.iinc 4 1, 3) := by decide +kernel
theorem dX3_readNumber_32 : decode cX3_readNumber 32 = .ok (.aload_n 0, 1) := by decide +kernel
theorem dX3_readNumber_33 : decode cX3_readNumber 33 = .ok (.dup, 1) := by decide +kernel
theorem dX3_readNumber_34 : decode cX3_readNumber 34 = .ok (.getfield 32, 3) := by decide +kernel
theorem dX3_readNumber_37 : decode cX3_readNumber 37 = .ok (.iconst 1, 1) := by decide +kernel
theorem dX3_readNumber_38 : decode cX3_readNumber 38 = .ok (.iadd, 1) := by decide +kernel
theorem dX3_readNumber_39 : decode cX3_readNumber 39 = .ok (.putfield 32, 3) := by decide +kernel
theorem dX3_readNumber_42 : decode cX3_readNumber 42 = .ok (.aload_n 0, 1) := by decide +kernel
theorem dX3_readNumber_43 : decode cX3_readNumber 43 = .ok (.iload_n 3, 1) := by decide +kernel
theorem dX3_readNumber_44 : decode cX3_readNumber 44 = .ok (.iload 4, 2) := by decide +kernel
theorem dX3_readNumber_46 : decode cX3_readNumber 46 = .ok (.iload_n 1, 1) := by decide +kernel
theorem dX3_readNumber_47 : decode cX3_readNumber 47 = .ok (.invokevirtual 91, 3) := by decide +kernel
theorem dX3_readNumber_50 : decode cX3_readNumber 50 = .ok (.istore 5, 2) := by decide +kernel
theorem dX3_readNumber_52 : decode cX3_readNumber 52 = .ok (.goto (-37), 3) := by decide +kernel
theorem dX3_readNumber_55 : decode cX3_readNumber 55 = .ok (.aload_n 0, 1) := by decide +kernel
theorem dX3_readNumber_56 : decode cX3_readNumber 56 = .ok (.getfield 25, 3) := by decide +kernel
theorem dX3_readNumber_59 : decode cX3_readNumber 59 = .ok (.iload_n 2, 1) := by decide +kernel
theorem dX3_readNumber_60 : decode cX3_readNumber 60 = .ok (.iload_n 3, 1) := by decide +kernel
theorem dX3_readNumber_61 : decode cX3_readNumber 61 = .ok (.invokestatic 95, 3) := by decide +kernel
theorem dX3_readNumber_64 : decode cX3_readNumber 64 = .ok (.iload 4, 2) := by decide +kernel
theorem dX3_readNumber_66 : decode cX3_readNumber 66 = .ok (.ifCond .le 7, 3) := by decide +kernel
theorem dX3_readNumber_69 : decode cX3_readNumber 69 = .ok (.iconst 1, 1) := by decide +kernel
theorem dX3_readNumber_70 : decode cX3_readNumber 70 = .ok (.goto 4, 3) := by decide +kernel
theorem dX3_readNumber_73 : decode cX3_readNumber 73 = .ok (.iconst 0, 1) := by decide +kernel
theorem dX3_readNumber_74 : decode cX3_readNumber 74 = .ok (.ireturn, 1) := by decide +kernel
set_option maxRecDepth 20000 in
theorem dX3_longerBy_0 : decode cX3_longerBy 0 = .ok (.iload_n 2, 1) := by decide +kernel
theorem dX3_longerBy_1 : decode cX3_longerBy 1 = .ok (.ifCond .le 11, 3) := by decide +kernel
theorem dX3_longerBy_4 : decode cX3_longerBy 4 = .ok (.iload_n 1, 1) := by decide +kernel
theorem dX3_longerBy_5 : decode cX3_longerBy 5 = .ok (.ifCond .ne 7, 3) := by decide +kernel
theorem dX3_longerBy_8 : decode cX3_longerBy 8 = .ok (.iconst 1, 1) := by decide +kernel
theorem dX3_longerBy_9 : decode cX3_longerBy 9 = .ok (.goto 4, 3) := by decide +kernel
theorem dX3_longerBy_12 : decode cX3_longerBy 12 = .ok (.iconst 0, 1) := by decide +kernel
theorem dX3_longerBy_13 : decode cX3_longerBy 13 = .ok (.istore 4, 2) := by decide +kernel
theorem dX3_longerBy_15 : decode cX3_longerBy 15 = .ok (.iload 4, 2) := by decide +kernel
theorem dX3_longerBy_17 : decode cX3_longerBy 17 = .ok (.ifCond .ne 33, 3) := by decide +kernel
theorem dX3_longerBy_20 : decode cX3_longerBy 20 = .ok (.aload_n 0, 1) := by decide +kernel
theorem dX3_longerBy_21 : decode cX3_longerBy 21 = .ok (.getfield 32, 3) := by decide +kernel
theorem dX3_longerBy_24 : decode cX3_longerBy 24 = .ok (.ifCond .lt 26, 3) := by decide +kernel
theorem dX3_longerBy_27 : decode cX3_longerBy 27 = .ok (.aload_n 0, 1) := by decide +kernel
theorem dX3_longerBy_28 : decode cX3_longerBy 28 = .ok (.getfield 32, 3) := by decide +kernel
theorem dX3_longerBy_31 : decode cX3_longerBy 31 = .ok (.aload_n 0, 1) := by decide +kernel
theorem dX3_longerBy_32 : decode cX3_longerBy 32 = .ok (.getfield 15, 3) := by decide +kernel
theorem dX3_longerBy_35 : decode cX3_longerBy 35 = .ok (.if_icmp .ge 15, 3) := by decide +kernel
theorem dX3_longerBy_38 : decode cX3_longerBy 38 = .ok (.aload_n 0, 1) := by decide +kernel
theorem dX3_longerBy_39 : decode cX3_longerBy 39 = .ok (.getfield 32, 3) := by decide +kernel
theorem dX3_longerBy_42 : decode cX3_longerBy 42 = .ok (.aload_n 0, 1) := by decide +kernel
theorem dX3_longerBy_43 : decode cX3_longerBy 43 = .ok (.getfield 11, 3) := by decide +kernel
theorem dX3_longerBy_46 : decode cX3_longerBy 46 = .ok (.arraylength, 1) := by decide +kernel
theorem dX3_longerBy_47 : decode cX3_longerBy 47 = .ok (.if_icmp .lt 5, 3) := by decide +kernel
theorem dX3_longerBy_50 : decode cX3_longerBy 50 = .ok (.iconst (-1), 1) := by decide +kernel
theorem dX3_longerBy_51 : decode cX3_longerBy 51 = .ok (.ireturn, 1) := by decide +kernel
theorem dX3_longerBy_52 : decode cX3_longerBy 52 = .ok (.aload_n 0, 1) := by decide +kernel
theorem dX3_longerBy_53 : decode cX3_longerBy 53 = .ok (.getfield 11, 3) := by decide +kernel
theorem dX3_longerBy_56 : decode cX3_longerBy 56 = .ok (.aload_n 0, 1) := by decide +kernel
theorem dX3_longerBy_57 : decode cX3_longerBy 57 = .ok (.getfield 32, 3) := by decide +kernel
theorem dX3_longerBy_60 : decode cX3_longerBy 60 = .ok (.caload, 1) := by decide +kernel
theorem dX3_longerBy_61 : decode cX3_longerBy 61 = .ok (.istore 5, 2) := by decide +kernel
theorem dX3_longerBy_63 : decode cX3_longerBy 63 = .ok (.iload 5, 2) := by decide +kernel
theorem dX3_longerBy_65 : decode cX3_longerBy 65 = .ok (.bipush 48, 2) := by decide +kernel
theorem dX3_longerBy_67 : decode cX3_longerBy 67 = .ok (.if_icmp .lt 10, 3) := by decide +kernel
theorem dX3_longerBy_70 : decode cX3_longerBy 70 = .ok (.iload 5, 2) := by decide +kernel
theorem dX3_longerBy_72 : decode cX3_longerBy 72 = .ok (.bipush 57, 2) := by decide +kernel
theorem dX3_longerBy_74 : decode cX3_longerBy 74 = .ok (.if_icmp .le 5, 3) := by decide +kernel
theorem dX3_longerBy_77 : decode cX3_longerBy 77 = .ok (.iconst (-1), 1) := by decide +kernel
theorem dX3_longerBy_78 : decode cX3_longerBy 78 = .ok (.ireturn, 1) := by decide +kernel
theorem dX3_longerBy_79 : decode cX3_longerBy 79 = .ok (.iload_n 1, 1) := by decide +kernel
theorem dX3_longerBy_80 : decode cX3_longerBy 80 = .ok (.bipush 10, 2) := by decide +kernel
theorem dX3_longerBy_82 : decode cX3_longerBy 82 = .ok (.imul, 1) := by decide +kernel
theorem dX3_longerBy_83 : decode cX3_longerBy 83 = .ok (.iload 5, 2) := by decide +kernel
theorem dX3_longerBy_85 : decode cX3_longerBy 85 = .ok (.bipush 48, 2) := by decide +kernel
theorem dX3_longerBy_87 : decode cX3_longerBy 87 = .ok (.isub, 1) := by decide +kernel
theorem dX3_longerBy_88 : decode cX3_longerBy 88 = .ok (.iadd, 1) := by decide +kernel
theorem dX3_longerBy_89 : decode cX3_longerBy 89 = .ok (.istore 6, 2) := by decide +kernel
theorem dX3_longerBy_91 : decode cX3_longerBy 91 = .ok (.iload 6, 2) := by decide +kernel
theorem dX3_longerBy_93 : decode cX3_longerBy 93 = .ok (.iload_n 3, 1) := by decide +kernel
theorem dX3_longerBy_94 : decode cX3_longerBy 94 = .ok (.invokestatic 99, 3) := by decide +kernel
theorem dX3_longerBy_97 : decode cX3_longerBy 97 = .ok (.if_icmp .lt 17, 3) := by decide +kernel
theorem dX3_longerBy_100 : decode cX3_longerBy 100 = .ok (.iload 6, 2) := by decide +kernel
theorem dX3_longerBy_102 : decode cX3_longerBy 102 = .ok (.iload_n 3, 1) := by decide +kernel
theorem dX3_longerBy_103 : decode cX3_longerBy 103 = .ok (.invokestatic 103, 3) := by decide +kernel
theorem dX3_longerBy_106 : decode cX3_longerBy 106 = .ok (.if_icmp .gt 8, 3) := by decide +kernel
theorem dX3_longerBy_109 : decode cX3_longerBy 109 = .ok (.iload 6, 2) := by decide +kernel
theorem dX3_longerBy_111 : decode cX3_longerBy 111 = .ok (.goto 4, 3) := by decide +kernel
theorem dX3_longerBy_114 : decode cX3_longerBy 114 = .ok (.iconst (-1), 1) := by decide +kernel
theorem dX3_longerBy_115 : decode cX3_longerBy 115 = .ok (.ireturn, 1) := by decide +kernel
theorem dX4_init_0 : decode cX4_init 0 = .ok (.aload_n 0, 1) := by decide +kernel
theorem dX4_init_1 : decode cX4_init 1 = .ok (.invokespecial 1, 3) := by decide +kernel
theorem dX4_init_4 : decode cX4_init 4 = .ok (.aload_n 0, 1) := by decide +kernel
theorem dX4_init_5 : decode cX4_init 5 = .ok (.bipush 32, 2) := by decide +kernel
theorem dX4_init_7 : decode cX4_init 7 = .ok (.newarray .int, 2) := by decide +kernel
theorem dX4_init_9 : decode cX4_init 9 = .ok (.putfield 9, 3) := by decide +kernel
theorem dX4_init_12 : decode cX4_init 12 = .ok (.aload_n 0, 1) := by decide +kernel
theorem dX4_init_13 : decode cX4_init 13 = .ok (.iconst 0, 1) := by decide +kernel
theorem dX4_init_14 : decode cX4_init 14 = .ok (.putfield 13, 3) := by decide +kernel
theorem dX4_init_17 : decode cX4_init 17 = .ok (.return_, 1) := by decide +kernel
set_option maxRecDepth 20000 in
theorem dX4_add_0 : decode cX4_add 0 = .ok (.aload_n 0, 1) := by decide +kernel
theorem dX4_add_1 : decode cX4_add 1 = .ok (.getfield 13, 3) := by decide +kernel
theorem dX4_add_4 : decode cX4_add 4 = .ok (.bipush 8, 2) := by decide +kernel
theorem dX4_add_6 : decode cX4_add 6 = .ok (.if_icmp .lt 5, 3) := by decide +kernel
theorem dX4_add_9 : decode cX4_add 9 = .ok (.iconst 0, 1) := by decide +kernel
theorem dX4_add_10 : decode cX4_add 10 = .ok (.ireturn, 1) := by decide +kernel
theorem dX4_add_11 : decode cX4_add 11 = .ok (.aload_n 0, 1) := by decide +kernel
theorem dX4_add_12 : decode cX4_add 12 = .ok (.getfield 9, 3) := by decide +kernel
theorem dX4_add_15 : decode cX4_add 15 = .ok (.aload_n 0, 1) := by decide +kernel
theorem dX4_add_16 : decode cX4_add 16 = .ok (.getfield 13, 3) := by decide +kernel
theorem dX4_add_19 : decode cX4_add 19 = .ok (.iconst 4, 1) := by decide +kernel
theorem dX4_add_20 : decode cX4_add 20 = .ok (.imul, 1) := by decide +kernel
theorem dX4_add_21 : decode cX4_add 21 = .ok (.iload_n 1, 1) := by decide +kernel
theorem dX4_add_22 : decode cX4_add 22 = .ok (.invokestatic 17, 3) := by decide +kernel
theorem dX4_add_25 : decode cX4_add 25 = .ok (.aload_n 0, 1) := by decide +kernel
theorem dX4_add_26 : decode cX4_add 26 = .ok (.getfield 9, 3) := by decide +kernel
theorem dX4_add_29 : decode cX4_add 29 = .ok (.aload_n 0, 1) := by decide +kernel
theorem dX4_add_30 : decode cX4_add 30 = .ok (.getfield 13, 3) := by decide +kernel
theorem dX4_add_33 : decode cX4_add 33 = .ok (.iconst 4, 1) := by decide +kernel
theorem dX4_add_34 : decode cX4_add 34 = .ok (.imul, 1) := by decide +kernel
theorem dX4_add_35 : decode cX4_add 35 = .ok (.iconst 1, 1) := by decide +kernel
theorem dX4_add_36 : decode cX4_add 36 = .ok (.iadd, 1) := by decide +kernel
theorem dX4_add_37 : decode cX4_add 37 = .ok (.iload_n 2, 1) := by decide +kernel
theorem dX4_add_38 : decode cX4_add 38 = .ok (.invokestatic 17, 3) := by decide +kernel
theorem dX4_add_41 : decode cX4_add 41 = .ok (.aload_n 0, 1) := by decide +kernel
theorem dX4_add_42 : decode cX4_add 42 = .ok (.getfield 9, 3) := by decide +kernel
theorem dX4_add_45 : decode cX4_add 45 = .ok (.aload_n 0, 1) := by decide +kernel
theorem dX4_add_46 : decode cX4_add 46 = .ok (.getfield 13, 3) := by decide +kernel
theorem dX4_add_49 : decode cX4_add 49 = .ok (.iconst 4, 1) := by decide +kernel
theorem dX4_add_50 : decode cX4_add 50 = .ok (.imul, 1) := by decide +kernel
theorem dX4_add_51 : decode cX4_add 51 = .ok (.iconst 2, 1) := by decide +kernel
theorem dX4_add_52 : decode cX4_add 52 = .ok (.iadd, 1) := by decide +kernel
theorem dX4_add_53 : decode cX4_add 53 = .ok (.iload_n 3, 1) := by decide +kernel
theorem dX4_add_54 : decode cX4_add 54 = .ok (.invokestatic 17, 3) := by decide +kernel
theorem dX4_add_57 : decode cX4_add 57 = .ok (.aload_n 0, 1) := by decide +kernel
theorem dX4_add_58 : decode cX4_add 58 = .ok (.getfield 9, 3) := by decide +kernel
theorem dX4_add_61 : decode cX4_add 61 = .ok (.aload_n 0, 1) := by decide +kernel
theorem dX4_add_62 : decode cX4_add 62 = .ok (.getfield 13, 3) := by decide +kernel
theorem dX4_add_65 : decode cX4_add 65 = .ok (.iconst 4, 1) := by decide +kernel
theorem dX4_add_66 : decode cX4_add 66 = .ok (.imul, 1) := by decide +kernel
theorem dX4_add_67 : decode cX4_add 67 = .ok (.iconst 3, 1) := by decide +kernel
theorem dX4_add_68 : decode cX4_add 68 = .ok (.iadd, 1) := by decide +kernel
theorem dX4_add_69 : decode cX4_add 69 = .ok (.iload 4, 2) := by decide +kernel
theorem dX4_add_71 : decode cX4_add 71 = .ok (.invokestatic 17, 3) := by decide +kernel
theorem dX4_add_74 : decode cX4_add 74 = .ok (.aload_n 0, 1) := by decide +kernel
theorem dX4_add_75 : decode cX4_add 75 = .ok (.dup, 1) := by decide +kernel
theorem dX4_add_76 : decode cX4_add 76 = .ok (.getfield 13, 3) := by decide +kernel
theorem dX4_add_79 : decode cX4_add 79 = .ok (.iconst 1, 1) := by decide +kernel
theorem dX4_add_80 : decode cX4_add 80 = .ok (.iadd, 1) := by decide +kernel
theorem dX4_add_81 : decode cX4_add 81 = .ok (.putfield 13, 3) := by decide +kernel
theorem dX4_add_84 : decode cX4_add 84 = .ok (.iconst 1, 1) := by decide +kernel
theorem dX4_add_85 : decode cX4_add 85 = .ok (.ireturn, 1) := by decide +kernel
set_option maxRecDepth 20000 in
theorem dX4_drop_0 : decode cX4_drop 0 = .ok (.aload_n 0, 1) := by decide +kernel
theorem dX4_drop_1 : decode cX4_drop 1 = .ok (.iload_n 1, 1) := by decide +kernel
theorem dX4_drop_2 : decode cX4_drop 2 = .ok (.invokevirtual 23, 3) := by decide +kernel
theorem dX4_drop_5 : decode cX4_drop 5 = .ok (.ifCond .ne 4, 3) := by decide +kernel
theorem dX4_drop_8 : decode cX4_drop 8 = .ok (.return_, 1) := by decide +kernel
theorem dX4_drop_9 : decode cX4_drop 9 = .ok (.iload_n 1, 1) := by decide +kernel
theorem dX4_drop_10 : decode cX4_drop 10 = .ok (.iconst 4, 1) := by decide +kernel
theorem dX4_drop_11 : decode cX4_drop 11 = .ok (.imul, 1) := by decide +kernel
theorem dX4_drop_12 : decode cX4_drop 12 = .ok (.istore_n 2, 1) := by decide +kernel
theorem dX4_drop_13 : decode cX4_drop 13 = .ok (.iload_n 2, 1) := by decide +kernel
theorem dX4_drop_14 : decode cX4_drop 14 = .ok (.aload_n 0, 1) := by decide +kernel
theorem dX4_drop_15 : decode cX4_drop 15 = .ok (.getfield 9, 3) := by decide +kernel
theorem dX4_drop_18 : decode cX4_drop 18 = .ok (.arraylength, 1) := by decide +kernel
theorem dX4_drop_19 : decode cX4_drop 19 = .ok (.iconst 4, 1) := by decide +kernel
theorem dX4_drop_20 : decode cX4_drop 20 = .ok (.isub, 1) := by decide +kernel
theorem dX4_drop_21 : decode cX4_drop 21 = .ok (.if_icmp .ge 27, 3) := by decide +kernel
theorem dX4_drop_24 : decode cX4_drop 24 = .ok (.aload_n 0, 1) := by decide +kernel
theorem dX4_drop_25 : decode cX4_drop 25 = .ok (.getfield 9, 3) := by decide +kernel
theorem dX4_drop_28 : decode cX4_drop 28 = .ok (.iload_n 2, 1) := by decide +kernel
theorem dX4_drop_29 : decode cX4_drop 29 = .ok (.aload_n 0, 1) := by decide +kernel
theorem dX4_drop_30 : decode cX4_drop 30 = .ok (.getfield 9, 3) := by decide +kernel
theorem dX4_drop_33 : decode cX4_drop 33 = .ok (.iload_n 2, 1) := by decide +kernel
theorem dX4_drop_34 : decode cX4_drop 34 = .ok (.iconst 4, 1) := by decide +kernel
theorem dX4_drop_35 : decode cX4_drop 35 = .ok (.iadd, 1) := by decide +kernel
theorem dX4_drop_36 : decode cX4_drop 36 = .ok (.invokestatic 27, 3) := by decide +kernel
theorem dX4_drop_39 : decode cX4_drop 39 = .ok (.invokestatic 17, 3) := by decide +kernel
theorem dX4_drop_42 : decode cX4_drop 42 = .ok (.iinc 2 1, 3) := by decide +kernel
theorem dX4_drop_45 : decode cX4_drop 45 = .ok (.goto (-32), 3) := by decide +kernel
theorem dX4_drop_48 : decode cX4_drop 48 = .ok (.aload_n 0, 1) := by decide +kernel
theorem dX4_drop_49 : decode cX4_drop 49 = .ok (.dup, 1) := by decide +kernel
theorem dX4_drop_50 : decode cX4_drop 50 = .ok (.getfield 13, 3) := by decide +kernel
theorem dX4_drop_53 : decode cX4_drop 53 = .ok (.iconst 1, 1) := by decide +kernel
theorem dX4_drop_54 : decode cX4_drop 54 = .ok (.isub, 1) := by decide +kernel
theorem dX4_drop_55 : decode cX4_drop 55 = .ok (.putfield 13, 3) := by decide +kernel
theorem dX4_drop_58 : decode cX4_drop 58 = .ok (.return_, 1) := by decide +kernel
theorem dX4_has_0 : decode cX4_has 0 = .ok (.iload_n 1, 1) := by decide +kernel
theorem dX4_has_1 : decode cX4_has 1 = .ok (.ifCond .lt 15, 3) := by decide +kernel
theorem dX4_has_4 : decode cX4_has 4 = .ok (.iload_n 1, 1) := by decide +kernel
theorem dX4_has_5 : decode cX4_has 5 = .ok (.aload_n 0, 1) := by decide +kernel
theorem dX4_has_6 : decode cX4_has 6 = .ok (.getfield 13, 3) := by decide +kernel
theorem dX4_has_9 : decode cX4_has 9 = .ok (.if_icmp .ge 7, 3) := by decide +kernel
theorem dX4_has_12 : decode cX4_has 12 = .ok (.iconst 1, 1) := by decide +kernel
theorem dX4_has_13 : decode cX4_has 13 = .ok (.goto 4, 3) := by decide +kernel
theorem dX4_has_16 : decode cX4_has 16 = .ok (.iconst 0, 1) := by decide +kernel
theorem dX4_has_17 : decode cX4_has 17 = .ok (.ireturn, 1) := by decide +kernel
set_option maxRecDepth 20000 in
theorem dX4_fromOf_0 : decode cX4_fromOf 0 = .ok (.aload_n 0, 1) := by decide +kernel
theorem dX4_fromOf_1 : decode cX4_fromOf 1 = .ok (.getfield 9, 3) := by decide +kernel
theorem dX4_fromOf_4 : decode cX4_fromOf 4 = .ok (.iload_n 1, 1) := by decide +kernel
theorem dX4_fromOf_5 : decode cX4_fromOf 5 = .ok (.iconst 4, 1) := by decide +kernel
theorem dX4_fromOf_6 : decode cX4_fromOf 6 = .ok (.imul, 1) := by decide +kernel
theorem dX4_fromOf_7 : decode cX4_fromOf 7 = .ok (.invokestatic 27, 3) := by decide +kernel
theorem dX4_fromOf_10 : decode cX4_fromOf 10 = .ok (.ireturn, 1) := by decide +kernel
set_option maxRecDepth 20000 in
theorem dX4_toOf_0 : decode cX4_toOf 0 = .ok (.aload_n 0, 1) := by decide +kernel
theorem dX4_toOf_1 : decode cX4_toOf 1 = .ok (.getfield 9, 3) := by decide +kernel
theorem dX4_toOf_4 : decode cX4_toOf 4 = .ok (.iload_n 1, 1) := by decide +kernel
theorem dX4_toOf_5 : decode cX4_toOf 5 = .ok (.iconst 4, 1) := by decide +kernel
theorem dX4_toOf_6 : decode cX4_toOf 6 = .ok (.imul, 1) := by decide +kernel
theorem dX4_toOf_7 : decode cX4_toOf 7 = .ok (.iconst 1, 1) := by decide +kernel
theorem dX4_toOf_8 : decode cX4_toOf 8 = .ok (.iadd, 1) := by decide +kernel
theorem dX4_toOf_9 : decode cX4_toOf 9 = .ok (.invokestatic 27, 3) := by decide +kernel
theorem dX4_toOf_12 : decode cX4_toOf 12 = .ok (.ireturn, 1) := by decide +kernel
set_option maxRecDepth 20000 in
theorem dX4_innerOf_0 : decode cX4_innerOf 0 = .ok (.aload_n 0, 1) := by decide +kernel
theorem dX4_innerOf_1 : decode cX4_innerOf 1 = .ok (.getfield 9, 3) := by decide +kernel
theorem dX4_innerOf_4 : decode cX4_innerOf 4 = .ok (.iload_n 1, 1) := by decide +kernel
theorem dX4_innerOf_5 : decode cX4_innerOf 5 = .ok (.iconst 4, 1) := by decide +kernel
theorem dX4_innerOf_6 : decode cX4_innerOf 6 = .ok (.imul, 1) := by decide +kernel
theorem dX4_innerOf_7 : decode cX4_innerOf 7 = .ok (.iconst 2, 1) := by decide +kernel
theorem dX4_innerOf_8 : decode cX4_innerOf 8 = .ok (.iadd, 1) := by decide +kernel
theorem dX4_innerOf_9 : decode cX4_innerOf 9 = .ok (.invokestatic 27, 3) := by decide +kernel
theorem dX4_innerOf_12 : decode cX4_innerOf 12 = .ok (.ireturn, 1) := by decide +kernel
set_option maxRecDepth 20000 in
theorem dX4_outerOf_0 : decode cX4_outerOf 0 = .ok (.aload_n 0, 1) := by decide +kernel
theorem dX4_outerOf_1 : decode cX4_outerOf 1 = .ok (.getfield 9, 3) := by decide +kernel
theorem dX4_outerOf_4 : decode cX4_outerOf 4 = .ok (.iload_n 1, 1) := by decide +kernel
theorem dX4_outerOf_5 : decode cX4_outerOf 5 = .ok (.iconst 4, 1) := by decide +kernel
theorem dX4_outerOf_6 : decode cX4_outerOf 6 = .ok (.imul, 1) := by decide +kernel
theorem dX4_outerOf_7 : decode cX4_outerOf 7 = .ok (.iconst 3, 1) := by decide +kernel
theorem dX4_outerOf_8 : decode cX4_outerOf 8 = .ok (.iadd, 1) := by decide +kernel
theorem dX4_outerOf_9 : decode cX4_outerOf 9 = .ok (.invokestatic 27, 3) := by decide +kernel
theorem dX4_outerOf_12 : decode cX4_outerOf 12 = .ok (.ireturn, 1) := by decide +kernel
theorem dX4_copyFrom_0 : decode cX4_copyFrom 0 = .ok (.aload_n 1, 1) := by decide +kernel
theorem dX4_copyFrom_1 : decode cX4_copyFrom 1 = .ok (.getfield 9, 3) := by decide +kernel
theorem dX4_copyFrom_4 : decode cX4_copyFrom 4 = .ok (.iconst 0, 1) := by decide +kernel
theorem dX4_copyFrom_5 : decode cX4_copyFrom 5 = .ok (.aload_n 0, 1) := by decide +kernel
theorem dX4_copyFrom_6 : decode cX4_copyFrom 6 = .ok (.getfield 9, 3) := by decide +kernel
theorem dX4_copyFrom_9 : decode cX4_copyFrom 9 = .ok (.iconst 0, 1) := by decide +kernel
theorem dX4_copyFrom_10 : decode cX4_copyFrom 10 = .ok (.bipush 32, 2) := by decide +kernel
theorem dX4_copyFrom_12 : decode cX4_copyFrom 12 = .ok (.invokestatic 31, 3) := by decide +kernel
theorem dX4_copyFrom_15 : decode cX4_copyFrom 15 = .ok (.aload_n 0, 1) := by decide +kernel
theorem dX4_copyFrom_16 : decode cX4_copyFrom 16 = .ok (.aload_n 1, 1) := by decide +kernel
theorem dX4_copyFrom_17 : decode cX4_copyFrom 17 = .ok (.getfield 13, 3) := by decide +kernel
theorem dX4_copyFrom_20 : decode cX4_copyFrom 20 = .ok (.putfield 13, 3) := by decide +kernel
theorem dX4_copyFrom_23 : decode cX4_copyFrom 23 = .ok (.return_, 1) := by decide +kernel
set_option maxRecDepth 20000 in
theorem dX4_isLike_0 : decode cX4_isLike 0 = .ok (.aload_n 0, 1) := by decide +kernel
theorem dX4_isLike_1 : decode cX4_isLike 1 = .ok (.getfield 13, 3) := by decide +kernel
theorem dX4_isLike_4 : decode cX4_isLike 4 = .ok (.aload_n 1, 1) := by decide +kernel
theorem dX4_isLike_5 : decode cX4_isLike 5 = .ok (.getfield 13, 3) := by decide +kernel
theorem dX4_isLike_8 : decode cX4_isLike 8 = .ok (.if_icmp .ne 7, 3) := by decide +kernel
theorem dX4_isLike_11 : decode cX4_isLike 11 = .ok (.iconst 1, 1) := by decide +kernel
theorem dX4_isLike_12 : decode cX4_isLike 12 = .ok (.goto 4, 3) := by decide +kernel
theorem dX4_isLike_15 : decode cX4_isLike 15 = .ok (.iconst 0, 1) := by decide +kernel
theorem dX4_isLike_16 : decode cX4_isLike 16 = .ok (.istore_n 2, 1) := by decide +kernel
theorem dX4_isLike_17 : decode cX4_isLike 17 = .ok (.iconst 0, 1) := by decide +kernel
theorem dX4_isLike_18 : decode cX4_isLike 18 = .ok (.istore_n 3, 1) := by decide +kernel
theorem dX4_isLike_19 : decode cX4_isLike 19 = .ok (.iload_n 2, 1) := by decide +kernel
theorem dX4_isLike_20 : decode cX4_isLike 20 = .ok (.ifCond .eq 44, 3) := by decide +kernel
theorem dX4_isLike_23 : decode cX4_isLike 23 = .ok (.iload_n 3, 1) := by decide +kernel
theorem dX4_isLike_24 : decode cX4_isLike 24 = .ok (.aload_n 0, 1) := by decide +kernel
theorem dX4_isLike_25 : decode cX4_isLike 25 = .ok (.getfield 13, 3) := by decide +kernel
theorem dX4_isLike_28 : decode cX4_isLike 28 = .ok (.iconst 4, 1) := by decide +kernel
theorem dX4_isLike_29 : decode cX4_isLike 29 = .ok (.imul, 1) := by decide +kernel
theorem dX4_isLike_30 : decode cX4_isLike 30 = .ok (.if_icmp .ge 34, 3) := by decide +kernel
theorem dX4_isLike_33 : decode cX4_isLike 33 = .ok (.aload_n 0, 1) := by decide +kernel
theorem dX4_isLike_34 : decode cX4_isLike 34 = .ok (.getfield 9, 3) := by decide +kernel
theorem dX4_isLike_37 : decode cX4_isLike 37 = .ok (.iload_n 3, 1) := by decide +kernel
theorem dX4_isLike_38 : decode cX4_isLike 38 = .ok (.invokestatic 27, 3) := by decide +kernel
theorem dX4_isLike_41 : decode cX4_isLike 41 = .ok (.aload_n 1, 1) := by decide +kernel
theorem dX4_isLike_42 : decode cX4_isLike 42 = .ok (.getfield 9, 3) := by decide +kernel
theorem dX4_isLike_45 : decode cX4_isLike 45 = .ok (.iload_n 3, 1) := by decide +kernel
theorem dX4_isLike_46 : decode cX4_isLike 46 = .ok (.invokestatic 27, 3) := by decide +kernel
theorem dX4_isLike_49 : decode cX4_isLike 49 = .ok (.if_icmp .ne 7, 3) := by decide +kernel
theorem dX4_isLike_52 : decode cX4_isLike 52 = .ok (.iconst 1, 1) := by decide +kernel
theorem dX4_isLike_53 : decode cX4_isLike 53 = .ok (.goto 4, 3) := by decide +kernel
theorem dX4_isLike_56 : decode cX4_isLike 56 = .ok (.iconst 0, 1) := by decide +kernel
theorem dX4_isLike_57 : decode cX4_isLike 57 = .ok (.istore_n 2, 1) := by decide +kernel
theorem dX4_isLike_58 : decode cX4_isLike 58 = .ok (.iinc 3 1, 3) := by decide +kernel
theorem dX4_isLike_61 : decode cX4_isLike 61 = .ok (.goto (-42), 3) := by decide +kernel
theorem dX4_isLike_64 : decode cX4_isLike 64 = .ok (.iload_n 2, 1) := by decide +kernel
theorem dX4_isLike_65 : decode cX4_isLike 65 = .ok (.ireturn, 1) := by decide +kernel
theorem dX5_init_0 : decode cX5_init 0 = .ok (.aload_n 0, 1) := by decide +kernel
theorem dX5_init_1 : decode cX5_init 1 = .ok (.invokespecial 3, 3) := by decide +kernel
theorem dX5_init_4 : decode cX5_init 4 = .ok (.aload_n 0, 1) := by decide +kernel
theorem dX5_init_5 : decode cX5_init 5 = .ok (.bipush 20, 2) := by decide +kernel
theorem dX5_init_7 : decode cX5_init 7 = .ok (.putfield 9, 3) := by decide +kernel
theorem dX5_init_10 : decode cX5_init 10 = .ok (.aload_n 0, 1) := by decide +kernel
theorem dX5_init_11 : decode cX5_init 11 = .ok (.iconst 2, 1) := by decide +kernel
theorem dX5_init_12 : decode cX5_init 12 = .ok (.putfield 15, 3) := by decide +kernel
theorem dX5_init_15 : decode cX5_init 15 = .ok (.aload_n 0, 1) := by decide +kernel
theorem dX5_init_16 : decode cX5_init 16 = .ok (.iconst 3, 1) := by decide +kernel
theorem dX5_init_17 : decode cX5_init 17 = .ok (.putfield 18, 3) := by decide +kernel
theorem dX5_init_20 : decode cX5_init 20 = .ok (.aload_n 0, 1) := by decide +kernel
theorem dX5_init_21 : decode cX5_init 21 = .ok (.iconst 1, 1) := by decide +kernel
theorem dX5_init_22 : decode cX5_init 22 = .ok (.putfield 21, 3) := by decide +kernel
theorem dX5_init_25 : decode cX5_init 25 = .ok (.aload_n 0, 1) := by decide +kernel
theorem dX5_init_26 : decode cX5_init 26 = .ok (.bipush 90, 2) := by decide +kernel
theorem dX5_init_28 : decode cX5_init 28 = .ok (.putfield 24, 3) := by decide +kernel
theorem dX5_init_31 : decode cX5_init 31 = .ok (.aload_n 0, 1) := by decide +kernel
theorem dX5_init_32 : decode cX5_init 32 = .ok (.iconst 4, 1) := by decide +kernel
theorem dX5_init_33 : decode cX5_init 33 = .ok (.putfield 27, 3) := by decide +kernel
theorem dX5_init_36 : decode cX5_init 36 = .ok (.return_, 1) := by decide +kernel
theorem dX5_isSetting_0 : decode cX5_isSetting 0 = .ok (.iload_n 0, 1) := by decide +kernel
theorem dX5_isSetting_1 : decode cX5_isSetting 1 = .ok (.ifCond .lt 12, 3) := by decide +kernel
theorem dX5_isSetting_4 : decode cX5_isSetting 4 = .ok (.iload_n 0, 1) := by decide +kernel
theorem dX5_isSetting_5 : decode cX5_isSetting 5 = .ok (.iconst 5, 1) := by decide +kernel
theorem dX5_isSetting_6 : decode cX5_isSetting 6 = .ok (.if_icmp .gt 7, 3) := by decide +kernel
theorem dX5_isSetting_9 : decode cX5_isSetting 9 = .ok (.iconst 1, 1) := by decide +kernel
theorem dX5_isSetting_10 : decode cX5_isSetting 10 = .ok (.goto 4, 3) := by decide +kernel
theorem dX5_isSetting_13 : decode cX5_isSetting 13 = .ok (.iconst 0, 1) := by decide +kernel
theorem dX5_isSetting_14 : decode cX5_isSetting 14 = .ok (.ireturn, 1) := by decide +kernel
theorem dX5_isInRange_0 : decode cX5_isInRange 0 = .ok (.iload_n 0, 1) := by decide +kernel
theorem dX5_isInRange_1 : decode cX5_isInRange 1 = .ok (.tableswitch 140 0 5 #[39, 57, 73, 90, 105, 124], 39) := by decide +kernel
theorem dX5_isInRange_40 : decode cX5_isInRange 40 = .ok (.iload_n 1, 1) := by decide +kernel
theorem dX5_isInRange_41 : decode cX5_isInRange 41 = .ok (.bipush 8, 2) := by decide +kernel
theorem dX5_isInRange_43 : decode cX5_isInRange 43 = .ok (.if_icmp .lt 13, 3) := by decide +kernel
theorem dX5_isInRange_46 : decode cX5_isInRange 46 = .ok (.iload_n 1, 1) := by decide +kernel
theorem dX5_isInRange_47 : decode cX5_isInRange 47 = .ok (.bipush 40, 2) := by decide +kernel
theorem dX5_isInRange_49 : decode cX5_isInRange 49 = .ok (.if_icmp .gt 7, 3) := by decide +kernel
theorem dX5_isInRange_52 : decode cX5_isInRange 52 = .ok (.iconst 1, 1) := by decide +kernel
theorem dX5_isInRange_53 : decode cX5_isInRange 53 = .ok (.goto 4, 3) := by decide +kernel
theorem dX5_isInRange_56 : decode cX5_isInRange 56 = .ok (.iconst 0, 1) := by decide +kernel
theorem dX5_isInRange_57 : decode cX5_isInRange 57 = .ok (.ireturn, 1) := by decide +kernel
theorem dX5_isInRange_58 : decode cX5_isInRange 58 = .ok (.iload_n 1, 1) := by decide +kernel
theorem dX5_isInRange_59 : decode cX5_isInRange 59 = .ok (.ifCond .lt 13, 3) := by decide +kernel
theorem dX5_isInRange_62 : decode cX5_isInRange 62 = .ok (.iload_n 1, 1) := by decide +kernel
theorem dX5_isInRange_63 : decode cX5_isInRange 63 = .ok (.bipush 6, 2) := by decide +kernel
theorem dX5_isInRange_65 : decode cX5_isInRange 65 = .ok (.if_icmp .gt 7, 3) := by decide +kernel
theorem dX5_isInRange_68 : decode cX5_isInRange 68 = .ok (.iconst 1, 1) := by decide +kernel
theorem dX5_isInRange_69 : decode cX5_isInRange 69 = .ok (.goto 4, 3) := by decide +kernel
theorem dX5_isInRange_72 : decode cX5_isInRange 72 = .ok (.iconst 0, 1) := by decide +kernel
theorem dX5_isInRange_73 : decode cX5_isInRange 73 = .ok (.ireturn, 1) := by decide +kernel
theorem dX5_isInRange_74 : decode cX5_isInRange 74 = .ok (.iload_n 1, 1) := by decide +kernel
theorem dX5_isInRange_75 : decode cX5_isInRange 75 = .ok (.iconst 1, 1) := by decide +kernel
theorem dX5_isInRange_76 : decode cX5_isInRange 76 = .ok (.if_icmp .lt 13, 3) := by decide +kernel
theorem dX5_isInRange_79 : decode cX5_isInRange 79 = .ok (.iload_n 1, 1) := by decide +kernel
theorem dX5_isInRange_80 : decode cX5_isInRange 80 = .ok (.bipush 9, 2) := by decide +kernel
theorem dX5_isInRange_82 : decode cX5_isInRange 82 = .ok (.if_icmp .gt 7, 3) := by decide +kernel
theorem dX5_isInRange_85 : decode cX5_isInRange 85 = .ok (.iconst 1, 1) := by decide +kernel
theorem dX5_isInRange_86 : decode cX5_isInRange 86 = .ok (.goto 4, 3) := by decide +kernel
theorem dX5_isInRange_89 : decode cX5_isInRange 89 = .ok (.iconst 0, 1) := by decide +kernel
theorem dX5_isInRange_90 : decode cX5_isInRange 90 = .ok (.ireturn, 1) := by decide +kernel
theorem dX5_isInRange_91 : decode cX5_isInRange 91 = .ok (.iload_n 1, 1) := by decide +kernel
theorem dX5_isInRange_92 : decode cX5_isInRange 92 = .ok (.ifCond .lt 12, 3) := by decide +kernel
theorem dX5_isInRange_95 : decode cX5_isInRange 95 = .ok (.iload_n 1, 1) := by decide +kernel
theorem dX5_isInRange_96 : decode cX5_isInRange 96 = .ok (.iconst 5, 1) := by decide +kernel
theorem dX5_isInRange_97 : decode cX5_isInRange 97 = .ok (.if_icmp .gt 7, 3) := by decide +kernel
theorem dX5_isInRange_100 : decode cX5_isInRange 100 = .ok (.iconst 1, 1) := by decide +kernel
theorem dX5_isInRange_101 : decode cX5_isInRange 101 = .ok (.goto 4, 3) := by decide +kernel
theorem dX5_isInRange_104 : decode cX5_isInRange 104 = .ok (.iconst 0, 1) := by decide +kernel
theorem dX5_isInRange_105 : decode cX5_isInRange 105 = .ok (.ireturn, 1) := by decide +kernel
theorem dX5_isInRange_106 : decode cX5_isInRange 106 = .ok (.iload_n 1, 1) := by decide +kernel
theorem dX5_isInRange_107 : decode cX5_isInRange 107 = .ok (.bipush 60, 2) := by decide +kernel
theorem dX5_isInRange_109 : decode cX5_isInRange 109 = .ok (.if_icmp .lt 14, 3) := by decide +kernel
theorem dX5_isInRange_112 : decode cX5_isInRange 112 = .ok (.iload_n 1, 1) := by decide +kernel
theorem dX5_isInRange_113 : decode cX5_isInRange 113 = .ok (.sipush 140, 3) := by decide +kernel
theorem dX5_isInRange_116 : decode cX5_isInRange 116 = .ok (.if_icmp .gt 7, 3) := by decide +kernel
theorem dX5_isInRange_119 : decode cX5_isInRange 119 = .ok (.iconst 1, 1) := by decide +kernel
theorem dX5_isInRange_120 : decode cX5_isInRange 120 = .ok (.goto 4, 3) := by decide +kernel
theorem dX5_isInRange_123 : decode cX5_isInRange 123 = .ok (.iconst 0, 1) := by decide +kernel
theorem dX5_isInRange_124 : decode cX5_isInRange 124 = .ok (.ireturn, 1) := by decide +kernel
theorem dX5_isInRange_125 : decode cX5_isInRange 125 = .ok (.iload_n 1, 1) := by decide +kernel
theorem dX5_isInRange_126 : decode cX5_isInRange 126 = .ok (.ifCond .lt 13, 3) := by decide +kernel
theorem dX5_isInRange_129 : decode cX5_isInRange 129 = .ok (.iload_n 1, 1) := by decide +kernel
theorem dX5_isInRange_130 : decode cX5_isInRange 130 = .ok (.bipush 20, 2) := by decide +kernel
theorem dX5_isInRange_132 : decode cX5_isInRange 132 = .ok (.if_icmp .gt 7, 3) := by decide +kernel
theorem dX5_isInRange_135 : decode cX5_isInRange 135 = .ok (.iconst 1, 1) := by decide +kernel
theorem dX5_isInRange_136 : decode cX5_isInRange 136 = .ok (.goto 4, 3) := by decide +kernel
theorem dX5_isInRange_139 : decode cX5_isInRange 139 = .ok (.iconst 0, 1) := by decide +kernel
theorem dX5_isInRange_140 : decode cX5_isInRange 140 = .ok (.ireturn, 1) := by decide +kernel
theorem dX5_isInRange_141 : decode cX5_isInRange 141 = .ok (.iconst 0, 1) := by decide +kernel
theorem dX5_isInRange_142 : decode cX5_isInRange 142 = .ok (.ireturn, 1) := by decide +kernel
theorem dX5_settingAt_0 : decode cX5_settingAt 0 = .ok (.iload_n 1, 1) := by decide +kernel
theorem dX5_settingAt_1 : decode cX5_settingAt 1 = .ok (.tableswitch 60 0 4 #[35, 40, 45, 50, 55], 35) := by decide +kernel
theorem dX5_settingAt_36 : decode cX5_settingAt 36 = .ok (.aload_n 0, 1) := by decide +kernel
theorem dX5_settingAt_37 : decode cX5_settingAt 37 = .ok (.getfield 9, 3) := by decide +kernel
theorem dX5_settingAt_40 : decode cX5_settingAt 40 = .ok (.ireturn, 1) := by decide +kernel
theorem dX5_settingAt_41 : decode cX5_settingAt 41 = .ok (.aload_n 0, 1) := by decide +kernel
theorem dX5_settingAt_42 : decode cX5_settingAt 42 = .ok (.getfield 15, 3) := by decide +kernel
theorem dX5_settingAt_45 : decode cX5_settingAt 45 = .ok (.ireturn, 1) := by decide +kernel
theorem dX5_settingAt_46 : decode cX5_settingAt 46 = .ok (.aload_n 0, 1) := by decide +kernel
theorem dX5_settingAt_47 : decode cX5_settingAt 47 = .ok (.getfield 18, 3) := by decide +kernel
theorem dX5_settingAt_50 : decode cX5_settingAt 50 = .ok (.ireturn, 1) := by decide +kernel
theorem dX5_settingAt_51 : decode cX5_settingAt 51 = .ok (.aload_n 0, 1) := by decide +kernel
theorem dX5_settingAt_52 : decode cX5_settingAt 52 = .ok (.getfield 21, 3) := by decide +kernel
theorem dX5_settingAt_55 : decode cX5_settingAt 55 = .ok (.ireturn, 1) := by decide +kernel
theorem dX5_settingAt_56 : decode cX5_settingAt 56 = .ok (.aload_n 0, 1) := by decide +kernel
theorem dX5_settingAt_57 : decode cX5_settingAt 57 = .ok (.getfield 24, 3) := by decide +kernel
theorem dX5_settingAt_60 : decode cX5_settingAt 60 = .ok (.ireturn, 1) := by decide +kernel
theorem dX5_settingAt_61 : decode cX5_settingAt 61 = .ok (.aload_n 0, 1) := by decide +kernel
theorem dX5_settingAt_62 : decode cX5_settingAt 62 = .ok (.getfield 27, 3) := by decide +kernel
theorem dX5_settingAt_65 : decode cX5_settingAt 65 = .ok (.ireturn, 1) := by decide +kernel
theorem dX5_change_0 : decode cX5_change 0 = .ok (.iload_n 1, 1) := by decide +kernel
theorem dX5_change_1 : decode cX5_change 1 = .ok (.tableswitch 75 0 4 #[35, 43, 51, 59, 67], 35) := by decide +kernel
theorem dX5_change_36 : decode cX5_change 36 = .ok (.aload_n 0, 1) := by decide +kernel
theorem dX5_change_37 : decode cX5_change 37 = .ok (.iload_n 2, 1) := by decide +kernel
theorem dX5_change_38 : decode cX5_change 38 = .ok (.putfield 9, 3) := by decide +kernel
theorem dX5_change_41 : decode cX5_change 41 = .ok (.goto 40, 3) := by decide +kernel
theorem dX5_change_44 : decode cX5_change 44 = .ok (.aload_n 0, 1) := by decide +kernel
theorem dX5_change_45 : decode cX5_change 45 = .ok (.iload_n 2, 1) := by decide +kernel
theorem dX5_change_46 : decode cX5_change 46 = .ok (.putfield 15, 3) := by decide +kernel
theorem dX5_change_49 : decode cX5_change 49 = .ok (.goto 32, 3) := by decide +kernel
theorem dX5_change_52 : decode cX5_change 52 = .ok (.aload_n 0, 1) := by decide +kernel
theorem dX5_change_53 : decode cX5_change 53 = .ok (.iload_n 2, 1) := by decide +kernel
theorem dX5_change_54 : decode cX5_change 54 = .ok (.putfield 18, 3) := by decide +kernel
theorem dX5_change_57 : decode cX5_change 57 = .ok (.goto 24, 3) := by decide +kernel
theorem dX5_change_60 : decode cX5_change 60 = .ok (.aload_n 0, 1) := by decide +kernel
theorem dX5_change_61 : decode cX5_change 61 = .ok (.iload_n 2, 1) := by decide +kernel
theorem dX5_change_62 : decode cX5_change 62 = .ok (.putfield 21, 3) := by decide +kernel
theorem dX5_change_65 : decode cX5_change 65 = .ok (.goto 16, 3) := by decide +kernel
theorem dX5_change_68 : decode cX5_change 68 = .ok (.aload_n 0, 1) := by decide +kernel
theorem dX5_change_69 : decode cX5_change 69 = .ok (.iload_n 2, 1) := by decide +kernel
theorem dX5_change_70 : decode cX5_change 70 = .ok (.putfield 24, 3) := by decide +kernel
theorem dX5_change_73 : decode cX5_change 73 = .ok (.goto 8, 3) := by decide +kernel
theorem dX5_change_76 : decode cX5_change 76 = .ok (.aload_n 0, 1) := by decide +kernel
theorem dX5_change_77 : decode cX5_change 77 = .ok (.iload_n 2, 1) := by decide +kernel
theorem dX5_change_78 : decode cX5_change 78 = .ok (.putfield 27, 3) := by decide +kernel
theorem dX5_change_81 : decode cX5_change 81 = .ok (.return_, 1) := by decide +kernel
theorem dX5_copyFrom_0 : decode cX5_copyFrom 0 = .ok (.aload_n 0, 1) := by decide +kernel
theorem dX5_copyFrom_1 : decode cX5_copyFrom 1 = .ok (.aload_n 1, 1) := by decide +kernel
theorem dX5_copyFrom_2 : decode cX5_copyFrom 2 = .ok (.getfield 9, 3) := by decide +kernel
theorem dX5_copyFrom_5 : decode cX5_copyFrom 5 = .ok (.putfield 9, 3) := by decide +kernel
theorem dX5_copyFrom_8 : decode cX5_copyFrom 8 = .ok (.aload_n 0, 1) := by decide +kernel
theorem dX5_copyFrom_9 : decode cX5_copyFrom 9 = .ok (.aload_n 1, 1) := by decide +kernel
theorem dX5_copyFrom_10 : decode cX5_copyFrom 10 = .ok (.getfield 15, 3) := by decide +kernel
theorem dX5_copyFrom_13 : decode cX5_copyFrom 13 = .ok (.putfield 15, 3) := by decide +kernel
theorem dX5_copyFrom_16 : decode cX5_copyFrom 16 = .ok (.aload_n 0, 1) := by decide +kernel
theorem dX5_copyFrom_17 : decode cX5_copyFrom 17 = .ok (.aload_n 1, 1) := by decide +kernel
theorem dX5_copyFrom_18 : decode cX5_copyFrom 18 = .ok (.getfield 18, 3) := by decide +kernel
theorem dX5_copyFrom_21 : decode cX5_copyFrom 21 = .ok (.putfield 18, 3) := by decide +kernel
theorem dX5_copyFrom_24 : decode cX5_copyFrom 24 = .ok (.aload_n 0, 1) := by decide +kernel
theorem dX5_copyFrom_25 : decode cX5_copyFrom 25 = .ok (.aload_n 1, 1) := by decide +kernel
theorem dX5_copyFrom_26 : decode cX5_copyFrom 26 = .ok (.getfield 21, 3) := by decide +kernel
theorem dX5_copyFrom_29 : decode cX5_copyFrom 29 = .ok (.putfield 21, 3) := by decide +kernel
theorem dX5_copyFrom_32 : decode cX5_copyFrom 32 = .ok (.aload_n 0, 1) := by decide +kernel
theorem dX5_copyFrom_33 : decode cX5_copyFrom 33 = .ok (.aload_n 1, 1) := by decide +kernel
theorem dX5_copyFrom_34 : decode cX5_copyFrom 34 = .ok (.getfield 24, 3) := by decide +kernel
theorem dX5_copyFrom_37 : decode cX5_copyFrom 37 = .ok (.putfield 24, 3) := by decide +kernel
theorem dX5_copyFrom_40 : decode cX5_copyFrom 40 = .ok (.aload_n 0, 1) := by decide +kernel
theorem dX5_copyFrom_41 : decode cX5_copyFrom 41 = .ok (.aload_n 1, 1) := by decide +kernel
theorem dX5_copyFrom_42 : decode cX5_copyFrom 42 = .ok (.getfield 27, 3) := by decide +kernel
theorem dX5_copyFrom_45 : decode cX5_copyFrom 45 = .ok (.putfield 27, 3) := by decide +kernel
theorem dX5_copyFrom_48 : decode cX5_copyFrom 48 = .ok (.return_, 1) := by decide +kernel
theorem dX5_hasSpiralOf_0 : decode cX5_hasSpiralOf 0 = .ok (.aload_n 0, 1) := by decide +kernel
theorem dX5_hasSpiralOf_1 : decode cX5_hasSpiralOf 1 = .ok (.getfield 9, 3) := by decide +kernel
theorem dX5_hasSpiralOf_4 : decode cX5_hasSpiralOf 4 = .ok (.aload_n 1, 1) := by decide +kernel
theorem dX5_hasSpiralOf_5 : decode cX5_hasSpiralOf 5 = .ok (.getfield 9, 3) := by decide +kernel
theorem dX5_hasSpiralOf_8 : decode cX5_hasSpiralOf 8 = .ok (.if_icmp .ne 18, 3) := by decide +kernel
theorem dX5_hasSpiralOf_11 : decode cX5_hasSpiralOf 11 = .ok (.aload_n 0, 1) := by decide +kernel
theorem dX5_hasSpiralOf_12 : decode cX5_hasSpiralOf 12 = .ok (.getfield 15, 3) := by decide +kernel
theorem dX5_hasSpiralOf_15 : decode cX5_hasSpiralOf 15 = .ok (.aload_n 1, 1) := by decide +kernel
theorem dX5_hasSpiralOf_16 : decode cX5_hasSpiralOf 16 = .ok (.getfield 15, 3) := by decide +kernel
theorem dX5_hasSpiralOf_19 : decode cX5_hasSpiralOf 19 = .ok (.if_icmp .ne 7, 3) := by decide +kernel
theorem dX5_hasSpiralOf_22 : decode cX5_hasSpiralOf 22 = .ok (.iconst 1, 1) := by decide +kernel
theorem dX5_hasSpiralOf_23 : decode cX5_hasSpiralOf 23 = .ok (.goto 4, 3) := by decide +kernel
theorem dX5_hasSpiralOf_26 : decode cX5_hasSpiralOf 26 = .ok (.iconst 0, 1) := by decide +kernel
theorem dX5_hasSpiralOf_27 : decode cX5_hasSpiralOf 27 = .ok (.ireturn, 1) := by decide +kernel
theorem dX5_framesOf_0 : decode cX5_framesOf 0 = .ok (.aload_n 0, 1) := by decide +kernel
theorem dX5_framesOf_1 : decode cX5_framesOf 1 = .ok (.getfield 9, 3) := by decide +kernel
theorem dX5_framesOf_4 : decode cX5_framesOf 4 = .ok (.aload_n 0, 1) := by decide +kernel
theorem dX5_framesOf_5 : decode cX5_framesOf 5 = .ok (.getfield 15, 3) := by decide +kernel
theorem dX5_framesOf_8 : decode cX5_framesOf 8 = .ok (.iload_n 1, 1) := by decide +kernel
theorem dX5_framesOf_9 : decode cX5_framesOf 9 = .ok (.imul, 1) := by decide +kernel
theorem dX5_framesOf_10 : decode cX5_framesOf 10 = .ok (.iadd, 1) := by decide +kernel
theorem dX5_framesOf_11 : decode cX5_framesOf 11 = .ok (.ireturn, 1) := by decide +kernel
theorem dX5_firstOf_0 : decode cX5_firstOf 0 = .ok (.aload_n 0, 1) := by decide +kernel
theorem dX5_firstOf_1 : decode cX5_firstOf 1 = .ok (.getfield 9, 3) := by decide +kernel
theorem dX5_firstOf_4 : decode cX5_firstOf 4 = .ok (.iload_n 1, 1) := by decide +kernel
theorem dX5_firstOf_5 : decode cX5_firstOf 5 = .ok (.imul, 1) := by decide +kernel
theorem dX5_firstOf_6 : decode cX5_firstOf 6 = .ok (.aload_n 0, 1) := by decide +kernel
theorem dX5_firstOf_7 : decode cX5_firstOf 7 = .ok (.getfield 15, 3) := by decide +kernel
theorem dX5_firstOf_10 : decode cX5_firstOf 10 = .ok (.iload_n 1, 1) := by decide +kernel
theorem dX5_firstOf_11 : decode cX5_firstOf 11 = .ok (.iload_n 1, 1) := by decide +kernel
theorem dX5_firstOf_12 : decode cX5_firstOf 12 = .ok (.iconst 1, 1) := by decide +kernel
theorem dX5_firstOf_13 : decode cX5_firstOf 13 = .ok (.isub, 1) := by decide +kernel
theorem dX5_firstOf_14 : decode cX5_firstOf 14 = .ok (.imul, 1) := by decide +kernel
theorem dX5_firstOf_15 : decode cX5_firstOf 15 = .ok (.iconst 2, 1) := by decide +kernel
theorem dX5_firstOf_16 : decode cX5_firstOf 16 = .ok (.idiv, 1) := by decide +kernel
theorem dX5_firstOf_17 : decode cX5_firstOf 17 = .ok (.imul, 1) := by decide +kernel
theorem dX5_firstOf_18 : decode cX5_firstOf 18 = .ok (.iadd, 1) := by decide +kernel
theorem dX5_firstOf_19 : decode cX5_firstOf 19 = .ok (.ireturn, 1) := by decide +kernel
set_option maxRecDepth 20000 in
theorem dX5_allFrames_0 : decode cX5_allFrames 0 = .ok (.aload_n 0, 1) := by decide +kernel
theorem dX5_allFrames_1 : decode cX5_allFrames 1 = .ok (.bipush 30, 2) := by decide +kernel
theorem dX5_allFrames_3 : decode cX5_allFrames 3 = .ok (.invokevirtual 30, 3) := by decide +kernel
theorem dX5_allFrames_6 : decode cX5_allFrames 6 = .ok (.ireturn, 1) := by decide +kernel
set_option maxRecDepth 20000 in
theorem dX5_hasFrame_0 : decode cX5_hasFrame 0 = .ok (.iload_n 1, 1) := by decide +kernel
theorem dX5_hasFrame_1 : decode cX5_hasFrame 1 = .ok (.ifCond .lt 15, 3) := by decide +kernel
theorem dX5_hasFrame_4 : decode cX5_hasFrame 4 = .ok (.iload_n 1, 1) := by decide +kernel
theorem dX5_hasFrame_5 : decode cX5_hasFrame 5 = .ok (.aload_n 0, 1) := by decide +kernel
theorem dX5_hasFrame_6 : decode cX5_hasFrame 6 = .ok (.invokevirtual 34, 3) := by decide +kernel
theorem dX5_hasFrame_9 : decode cX5_hasFrame 9 = .ok (.if_icmp .ge 7, 3) := by decide +kernel
theorem dX5_hasFrame_12 : decode cX5_hasFrame 12 = .ok (.iconst 1, 1) := by decide +kernel
theorem dX5_hasFrame_13 : decode cX5_hasFrame 13 = .ok (.goto 4, 3) := by decide +kernel
theorem dX5_hasFrame_16 : decode cX5_hasFrame 16 = .ok (.iconst 0, 1) := by decide +kernel
theorem dX5_hasFrame_17 : decode cX5_hasFrame 17 = .ok (.ireturn, 1) := by decide +kernel
set_option maxRecDepth 20000 in
theorem dX5_turnOf_0 : decode cX5_turnOf 0 = .ok (.iconst 0, 1) := by decide +kernel
theorem dX5_turnOf_1 : decode cX5_turnOf 1 = .ok (.istore_n 2, 1) := by decide +kernel
theorem dX5_turnOf_2 : decode cX5_turnOf 2 = .ok (.iload_n 2, 1) := by decide +kernel
theorem dX5_turnOf_3 : decode cX5_turnOf 3 = .ok (.bipush 29, 2) := by decide +kernel
theorem dX5_turnOf_5 : decode cX5_turnOf 5 = .ok (.if_icmp .ge 20, 3) := by decide +kernel
theorem dX5_turnOf_8 : decode cX5_turnOf 8 = .ok (.iload_n 1, 1) := by decide +kernel
theorem dX5_turnOf_9 : decode cX5_turnOf 9 = .ok (.aload_n 0, 1) := by decide +kernel
theorem dX5_turnOf_10 : decode cX5_turnOf 10 = .ok (.iload_n 2, 1) := by decide +kernel
theorem dX5_turnOf_11 : decode cX5_turnOf 11 = .ok (.iconst 1, 1) := by decide +kernel
theorem dX5_turnOf_12 : decode cX5_turnOf 12 = .ok (.iadd, 1) := by decide +kernel
theorem dX5_turnOf_13 : decode cX5_turnOf 13 = .ok (.invokevirtual 30, 3) := by decide +kernel
theorem dX5_turnOf_16 : decode cX5_turnOf 16 = .ok (.if_icmp .lt 9, 3) := by decide +kernel
theorem dX5_turnOf_19 : decode cX5_turnOf 19 = .ok (.iinc 2 1, 3) := by decide +kernel
theorem dX5_turnOf_22 : decode cX5_turnOf 22 = .ok (.goto (-20), 3) := by decide +kernel
theorem dX5_turnOf_25 : decode cX5_turnOf 25 = .ok (.iload_n 2, 1) := by decide +kernel
theorem dX5_turnOf_26 : decode cX5_turnOf 26 = .ok (.ireturn, 1) := by decide +kernel
set_option maxRecDepth 20000 in
theorem dX5_groups_0 : decode cX5_groups 0 = .ok (.aload_n 0, 1) := by decide +kernel
theorem dX5_groups_1 : decode cX5_groups 1 = .ok (.invokevirtual 34, 3) := by decide +kernel
theorem dX5_groups_4 : decode cX5_groups 4 = .ok (.iconst 5, 1) := by decide +kernel
theorem dX5_groups_5 : decode cX5_groups 5 = .ok (.idiv, 1) := by decide +kernel
theorem dX5_groups_6 : decode cX5_groups 6 = .ok (.ireturn, 1) := by decide +kernel
set_option maxRecDepth 20000 in
theorem dX5_groupOf_0 : decode cX5_groupOf 0 = .ok (.iload_n 1, 1) := by decide +kernel
theorem dX5_groupOf_1 : decode cX5_groupOf 1 = .ok (.iconst 5, 1) := by decide +kernel
theorem dX5_groupOf_2 : decode cX5_groupOf 2 = .ok (.idiv, 1) := by decide +kernel
theorem dX5_groupOf_3 : decode cX5_groupOf 3 = .ok (.istore_n 2, 1) := by decide +kernel
theorem dX5_groupOf_4 : decode cX5_groupOf 4 = .ok (.iload_n 2, 1) := by decide +kernel
theorem dX5_groupOf_5 : decode cX5_groupOf 5 = .ok (.aload_n 0, 1) := by decide +kernel
theorem dX5_groupOf_6 : decode cX5_groupOf 6 = .ok (.invokevirtual 38, 3) := by decide +kernel
theorem dX5_groupOf_9 : decode cX5_groupOf 9 = .ok (.if_icmp .ge 7, 3) := by decide +kernel
theorem dX5_groupOf_12 : decode cX5_groupOf 12 = .ok (.iload_n 2, 1) := by decide +kernel
theorem dX5_groupOf_13 : decode cX5_groupOf 13 = .ok (.goto 5, 3) := by decide +kernel
theorem dX5_groupOf_16 : decode cX5_groupOf 16 = .ok (.bipush (-5), 2) := by decide +kernel
theorem dX5_groupOf_18 : decode cX5_groupOf 18 = .ok (.ireturn, 1) := by decide +kernel
theorem dX5_isCheck_0 : decode cX5_isCheck 0 = .ok (.iload_n 0, 1) := by decide +kernel
theorem dX5_isCheck_1 : decode cX5_isCheck 1 = .ok (.iconst 5, 1) := by decide +kernel
theorem dX5_isCheck_2 : decode cX5_isCheck 2 = .ok (.irem, 1) := by decide +kernel
theorem dX5_isCheck_3 : decode cX5_isCheck 3 = .ok (.iconst 4, 1) := by decide +kernel
theorem dX5_isCheck_4 : decode cX5_isCheck 4 = .ok (.if_icmp .ne 7, 3) := by decide +kernel
theorem dX5_isCheck_7 : decode cX5_isCheck 7 = .ok (.iconst 1, 1) := by decide +kernel
theorem dX5_isCheck_8 : decode cX5_isCheck 8 = .ok (.goto 4, 3) := by decide +kernel
theorem dX5_isCheck_11 : decode cX5_isCheck 11 = .ok (.iconst 0, 1) := by decide +kernel
theorem dX5_isCheck_12 : decode cX5_isCheck 12 = .ok (.ireturn, 1) := by decide +kernel
theorem dX5_dataAhead_0 : decode cX5_dataAhead 0 = .ok (.iload_n 0, 1) := by decide +kernel
theorem dX5_dataAhead_1 : decode cX5_dataAhead 1 = .ok (.iconst 5, 1) := by decide +kernel
theorem dX5_dataAhead_2 : decode cX5_dataAhead 2 = .ok (.irem, 1) := by decide +kernel
theorem dX5_dataAhead_3 : decode cX5_dataAhead 3 = .ok (.ifCond .ne 9, 3) := by decide +kernel
theorem dX5_dataAhead_6 : decode cX5_dataAhead 6 = .ok (.iload_n 0, 1) := by decide +kernel
theorem dX5_dataAhead_7 : decode cX5_dataAhead 7 = .ok (.iconst 2, 1) := by decide +kernel
theorem dX5_dataAhead_8 : decode cX5_dataAhead 8 = .ok (.isub, 1) := by decide +kernel
theorem dX5_dataAhead_9 : decode cX5_dataAhead 9 = .ok (.goto 6, 3) := by decide +kernel
theorem dX5_dataAhead_12 : decode cX5_dataAhead 12 = .ok (.iload_n 0, 1) := by decide +kernel
theorem dX5_dataAhead_13 : decode cX5_dataAhead 13 = .ok (.iconst 1, 1) := by decide +kernel
theorem dX5_dataAhead_14 : decode cX5_dataAhead 14 = .ok (.isub, 1) := by decide +kernel
theorem dX5_dataAhead_15 : decode cX5_dataAhead 15 = .ok (.ireturn, 1) := by decide +kernel
theorem dX5_dataBehind_0 : decode cX5_dataBehind 0 = .ok (.iload_n 0, 1) := by decide +kernel
theorem dX5_dataBehind_1 : decode cX5_dataBehind 1 = .ok (.iconst 5, 1) := by decide +kernel
theorem dX5_dataBehind_2 : decode cX5_dataBehind 2 = .ok (.irem, 1) := by decide +kernel
theorem dX5_dataBehind_3 : decode cX5_dataBehind 3 = .ok (.iconst 3, 1) := by decide +kernel
theorem dX5_dataBehind_4 : decode cX5_dataBehind 4 = .ok (.if_icmp .ne 9, 3) := by decide +kernel
theorem dX5_dataBehind_7 : decode cX5_dataBehind 7 = .ok (.iload_n 0, 1) := by decide +kernel
theorem dX5_dataBehind_8 : decode cX5_dataBehind 8 = .ok (.iconst 2, 1) := by decide +kernel
theorem dX5_dataBehind_9 : decode cX5_dataBehind 9 = .ok (.iadd, 1) := by decide +kernel
theorem dX5_dataBehind_10 : decode cX5_dataBehind 10 = .ok (.goto 6, 3) := by decide +kernel
theorem dX5_dataBehind_13 : decode cX5_dataBehind 13 = .ok (.iload_n 0, 1) := by decide +kernel
theorem dX5_dataBehind_14 : decode cX5_dataBehind 14 = .ok (.iconst 1, 1) := by decide +kernel
theorem dX5_dataBehind_15 : decode cX5_dataBehind 15 = .ok (.iadd, 1) := by decide +kernel
theorem dX5_dataBehind_16 : decode cX5_dataBehind 16 = .ok (.ireturn, 1) := by decide +kernel
set_option maxRecDepth 20000 in
theorem dX6_init_0 : decode cX6_init 0 = .ok (.aload_n 0, 1) := by decide +kernel
theorem dX6_init_1 : decode cX6_init 1 = .ok (.invokespecial 1, 3) := by decide +kernel
theorem dX6_init_4 : decode cX6_init 4 = .ok (.aload_n 0, 1) := by decide +kernel
theorem dX6_init_5 : decode cX6_init 5 = .ok (.new 7, 3) := by decide +kernel
theorem dX6_init_8 : decode cX6_init 8 = .ok (.dup, 1) := by decide +kernel
theorem dX6_init_9 : decode cX6_init 9 = .ok (.invokespecial 9, 3) := by decide +kernel
theorem dX6_init_12 : decode cX6_init 12 = .ok (.putfield 10, 3) := by decide +kernel
theorem dX6_init_15 : decode cX6_init 15 = .ok (.aload_n 0, 1) := by decide +kernel
theorem dX6_init_16 : decode cX6_init 16 = .ok (.new 16, 3) := by decide +kernel
theorem dX6_init_19 : decode cX6_init 19 = .ok (.dup, 1) := by decide +kernel
theorem dX6_init_20 : decode cX6_init 20 = .ok (.invokespecial 18, 3) := by decide +kernel
theorem dX6_init_23 : decode cX6_init 23 = .ok (.putfield 19, 3) := by decide +kernel
theorem dX6_init_26 : decode cX6_init 26 = .ok (.aload_n 0, 1) := by decide +kernel
theorem dX6_init_27 : decode cX6_init 27 = .ok (.new 23, 3) := by decide +kernel
theorem dX6_init_30 : decode cX6_init 30 = .ok (.dup, 1) := by decide +kernel
theorem dX6_init_31 : decode cX6_init 31 = .ok (.invokespecial 25, 3) := by decide +kernel
theorem dX6_init_34 : decode cX6_init 34 = .ok (.putfield 26, 3) := by decide +kernel
theorem dX6_init_37 : decode cX6_init 37 = .ok (.aload_n 0, 1) := by decide +kernel
theorem dX6_init_38 : decode cX6_init 38 = .ok (.new 30, 3) := by decide +kernel
theorem dX6_init_41 : decode cX6_init 41 = .ok (.dup, 1) := by decide +kernel
theorem dX6_init_42 : decode cX6_init 42 = .ok (.invokespecial 32, 3) := by decide +kernel
theorem dX6_init_45 : decode cX6_init 45 = .ok (.putfield 33, 3) := by decide +kernel
theorem dX6_init_48 : decode cX6_init 48 = .ok (.return_, 1) := by decide +kernel
set_option maxRecDepth 20000 in
theorem dX6_copyFrom_0 : decode cX6_copyFrom 0 = .ok (.aload_n 0, 1) := by decide +kernel
theorem dX6_copyFrom_1 : decode cX6_copyFrom 1 = .ok (.getfield 10, 3) := by decide +kernel
theorem dX6_copyFrom_4 : decode cX6_copyFrom 4 = .ok (.aload_n 1, 1) := by decide +kernel
theorem dX6_copyFrom_5 : decode cX6_copyFrom 5 = .ok (.getfield 10, 3) := by decide +kernel
theorem dX6_copyFrom_8 : decode cX6_copyFrom 8 = .ok (.invokevirtual 37, 3) := by decide +kernel
theorem dX6_copyFrom_11 : decode cX6_copyFrom 11 = .ok (.aload_n 0, 1) := by decide +kernel
theorem dX6_copyFrom_12 : decode cX6_copyFrom 12 = .ok (.getfield 19, 3) := by decide +kernel
theorem dX6_copyFrom_15 : decode cX6_copyFrom 15 = .ok (.aload_n 1, 1) := by decide +kernel
theorem dX6_copyFrom_16 : decode cX6_copyFrom 16 = .ok (.getfield 19, 3) := by decide +kernel
theorem dX6_copyFrom_19 : decode cX6_copyFrom 19 = .ok (.invokevirtual 41, 3) := by decide +kernel
theorem dX6_copyFrom_22 : decode cX6_copyFrom 22 = .ok (.aload_n 0, 1) := by decide +kernel
theorem dX6_copyFrom_23 : decode cX6_copyFrom 23 = .ok (.getfield 26, 3) := by decide +kernel
theorem dX6_copyFrom_26 : decode cX6_copyFrom 26 = .ok (.aload_n 1, 1) := by decide +kernel
theorem dX6_copyFrom_27 : decode cX6_copyFrom 27 = .ok (.getfield 26, 3) := by decide +kernel
theorem dX6_copyFrom_30 : decode cX6_copyFrom 30 = .ok (.invokevirtual 44, 3) := by decide +kernel
theorem dX6_copyFrom_33 : decode cX6_copyFrom 33 = .ok (.aload_n 0, 1) := by decide +kernel
theorem dX6_copyFrom_34 : decode cX6_copyFrom 34 = .ok (.getfield 33, 3) := by decide +kernel
theorem dX6_copyFrom_37 : decode cX6_copyFrom 37 = .ok (.aload_n 1, 1) := by decide +kernel
theorem dX6_copyFrom_38 : decode cX6_copyFrom 38 = .ok (.getfield 33, 3) := by decide +kernel
theorem dX6_copyFrom_41 : decode cX6_copyFrom 41 = .ok (.invokevirtual 47, 3) := by decide +kernel
theorem dX6_copyFrom_44 : decode cX6_copyFrom 44 = .ok (.return_, 1) := by decide +kernel
set_option maxRecDepth 20000 in
theorem dX7_init_0 : decode cX7_init 0 = .ok (.aload_n 0, 1) := by decide +kernel
theorem dX7_init_1 : decode cX7_init 1 = .ok (.invokespecial 3, 3) := by decide +kernel
theorem dX7_init_4 : decode cX7_init 4 = .ok (.aload_n 0, 1) := by decide +kernel
theorem dX7_init_5 : decode cX7_init 5 = .ok (.new 9, 3) := by decide +kernel
theorem dX7_init_8 : decode cX7_init 8 = .ok (.dup, 1) := by decide +kernel
theorem dX7_init_9 : decode cX7_init 9 = .ok (.invokespecial 11, 3) := by decide +kernel
theorem dX7_init_12 : decode cX7_init 12 = .ok (.putfield 12, 3) := by decide +kernel
theorem dX7_init_15 : decode cX7_init 15 = .ok (.aload_n 0, 1) := by decide +kernel
theorem dX7_init_16 : decode cX7_init 16 = .ok (.new 18, 3) := by decide +kernel
theorem dX7_init_19 : decode cX7_init 19 = .ok (.dup, 1) := by decide +kernel
theorem dX7_init_20 : decode cX7_init 20 = .ok (.invokespecial 20, 3) := by decide +kernel
theorem dX7_init_23 : decode cX7_init 23 = .ok (.putfield 21, 3) := by decide +kernel
theorem dX7_init_26 : decode cX7_init 26 = .ok (.aload_n 0, 1) := by decide +kernel
theorem dX7_init_27 : decode cX7_init 27 = .ok (.sipush 3810, 3) := by decide +kernel
theorem dX7_init_30 : decode cX7_init 30 = .ok (.newarray .int, 2) := by decide +kernel
theorem dX7_init_32 : decode cX7_init 32 = .ok (.putfield 25, 3) := by decide +kernel
theorem dX7_init_35 : decode cX7_init 35 = .ok (.aload_n 0, 1) := by decide +kernel
theorem dX7_init_36 : decode cX7_init 36 = .ok (.sipush 3810, 3) := by decide +kernel
theorem dX7_init_39 : decode cX7_init 39 = .ok (.newarray .int, 2) := by decide +kernel
theorem dX7_init_41 : decode cX7_init 41 = .ok (.putfield 29, 3) := by decide +kernel
theorem dX7_init_44 : decode cX7_init 44 = .ok (.return_, 1) := by decide +kernel
set_option maxRecDepth 20000 in
theorem dX7_of_0 : decode cX7_of 0 = .ok (.aload_n 0, 1) := by decide +kernel
theorem dX7_of_1 : decode cX7_of 1 = .ok (.getfield 12, 3) := by decide +kernel
theorem dX7_of_4 : decode cX7_of 4 = .ok (.aload_n 1, 1) := by decide +kernel
theorem dX7_of_5 : decode cX7_of 5 = .ok (.getfield 32, 3) := by decide +kernel
theorem dX7_of_8 : decode cX7_of 8 = .ok (.invokevirtual 37, 3) := by decide +kernel
theorem dX7_of_11 : decode cX7_of 11 = .ok (.ifCond .eq 17, 3) := by decide +kernel
theorem dX7_of_14 : decode cX7_of 14 = .ok (.aload_n 0, 1) := by decide +kernel
theorem dX7_of_15 : decode cX7_of 15 = .ok (.getfield 21, 3) := by decide +kernel
theorem dX7_of_18 : decode cX7_of 18 = .ok (.aload_n 1, 1) := by decide +kernel
theorem dX7_of_19 : decode cX7_of 19 = .ok (.getfield 41, 3) := by decide +kernel
theorem dX7_of_22 : decode cX7_of 22 = .ok (.invokevirtual 42, 3) := by decide +kernel
theorem dX7_of_25 : decode cX7_of 25 = .ok (.ifCond .ne 62, 3) := by decide +kernel
theorem dX7_of_28 : decode cX7_of 28 = .ok (.aload_n 0, 1) := by decide +kernel
theorem dX7_of_29 : decode cX7_of 29 = .ok (.getfield 12, 3) := by decide +kernel
theorem dX7_of_32 : decode cX7_of 32 = .ok (.aload_n 1, 1) := by decide +kernel
theorem dX7_of_33 : decode cX7_of 33 = .ok (.getfield 32, 3) := by decide +kernel
theorem dX7_of_36 : decode cX7_of 36 = .ok (.invokevirtual 46, 3) := by decide +kernel
theorem dX7_of_39 : decode cX7_of 39 = .ok (.aload_n 0, 1) := by decide +kernel
theorem dX7_of_40 : decode cX7_of 40 = .ok (.getfield 21, 3) := by decide +kernel
theorem dX7_of_43 : decode cX7_of 43 = .ok (.aload_n 1, 1) := by decide +kernel
theorem dX7_of_44 : decode cX7_of 44 = .ok (.getfield 41, 3) := by decide +kernel
theorem dX7_of_47 : decode cX7_of 47 = .ok (.invokevirtual 50, 3) := by decide +kernel
theorem dX7_of_50 : decode cX7_of 50 = .ok (.aload_n 0, 1) := by decide +kernel
theorem dX7_of_51 : decode cX7_of 51 = .ok (.getfield 25, 3) := by decide +kernel
theorem dX7_of_54 : decode cX7_of 54 = .ok (.iconst 0, 1) := by decide +kernel
theorem dX7_of_55 : decode cX7_of 55 = .ok (.invokestatic 53, 3) := by decide +kernel
theorem dX7_of_58 : decode cX7_of 58 = .ok (.iconst 0, 1) := by decide +kernel
theorem dX7_of_59 : decode cX7_of 59 = .ok (.istore_n 2, 1) := by decide +kernel
theorem dX7_of_60 : decode cX7_of 60 = .ok (.iload_n 2, 1) := by decide +kernel
theorem dX7_of_61 : decode cX7_of 61 = .ok (.aload_n 0, 1) := by decide +kernel
theorem dX7_of_62 : decode cX7_of 62 = .ok (.getfield 21, 3) := by decide +kernel
theorem dX7_of_65 : decode cX7_of 65 = .ok (.getfield 59, 3) := by decide +kernel
theorem dX7_of_68 : decode cX7_of 68 = .ok (.if_icmp .ge 14, 3) := by decide +kernel
theorem dX7_of_71 : decode cX7_of 71 = .ok (.aload_n 0, 1) := by decide +kernel
theorem dX7_of_72 : decode cX7_of 72 = .ok (.iload_n 2, 1) := by decide +kernel
theorem dX7_of_73 : decode cX7_of 73 = .ok (.invokevirtual 63, 3) := by decide +kernel
theorem dX7_of_76 : decode cX7_of 76 = .ok (.iinc 2 1, 3) := by decide +kernel
theorem dX7_of_79 : decode cX7_of 79 = .ok (.goto (-19), 3) := by decide +kernel
theorem dX7_of_82 : decode cX7_of 82 = .ok (.aload_n 0, 1) := by decide +kernel
theorem dX7_of_83 : decode cX7_of 83 = .ok (.iconst (-1), 1) := by decide +kernel
theorem dX7_of_84 : decode cX7_of 84 = .ok (.invokevirtual 67, 3) := by decide +kernel
theorem dX7_of_87 : decode cX7_of 87 = .ok (.aload_n 0, 1) := by decide +kernel
theorem dX7_of_88 : decode cX7_of 88 = .ok (.areturn, 1) := by decide +kernel
set_option maxRecDepth 20000 in
theorem dX7_markScratch_0 : decode cX7_markScratch 0 = .ok (.aload_n 0, 1) := by decide +kernel
theorem dX7_markScratch_1 : decode cX7_markScratch 1 = .ok (.getfield 21, 3) := by decide +kernel
theorem dX7_markScratch_4 : decode cX7_markScratch 4 = .ok (.iload_n 1, 1) := by decide +kernel
theorem dX7_markScratch_5 : decode cX7_markScratch 5 = .ok (.invokevirtual 70, 3) := by decide +kernel
theorem dX7_markScratch_8 : decode cX7_markScratch 8 = .ok (.istore_n 2, 1) := by decide +kernel
theorem dX7_markScratch_9 : decode cX7_markScratch 9 = .ok (.aload_n 0, 1) := by decide +kernel
theorem dX7_markScratch_10 : decode cX7_markScratch 10 = .ok (.getfield 21, 3) := by decide +kernel
theorem dX7_markScratch_13 : decode cX7_markScratch 13 = .ok (.iload_n 1, 1) := by decide +kernel
theorem dX7_markScratch_14 : decode cX7_markScratch 14 = .ok (.invokevirtual 74, 3) := by decide +kernel
theorem dX7_markScratch_17 : decode cX7_markScratch 17 = .ok (.iconst 1, 1) := by decide +kernel
theorem dX7_markScratch_18 : decode cX7_markScratch 18 = .ok (.iadd, 1) := by decide +kernel
theorem dX7_markScratch_19 : decode cX7_markScratch 19 = .ok (.istore_n 3, 1) := by decide +kernel
theorem dX7_markScratch_20 : decode cX7_markScratch 20 = .ok (.aload_n 0, 1) := by decide +kernel
theorem dX7_markScratch_21 : decode cX7_markScratch 21 = .ok (.getfield 21, 3) := by decide +kernel
theorem dX7_markScratch_24 : decode cX7_markScratch 24 = .ok (.iload_n 1, 1) := by decide +kernel
theorem dX7_markScratch_25 : decode cX7_markScratch 25 = .ok (.invokevirtual 77, 3) := by decide +kernel
theorem dX7_markScratch_28 : decode cX7_markScratch 28 = .ok (.bipush 29, 2) := by decide +kernel
theorem dX7_markScratch_30 : decode cX7_markScratch 30 = .ok (.invokestatic 80, 3) := by decide +kernel
theorem dX7_markScratch_33 : decode cX7_markScratch 33 = .ok (.istore 4, 2) := by decide +kernel
theorem dX7_markScratch_35 : decode cX7_markScratch 35 = .ok (.aload_n 0, 1) := by decide +kernel
theorem dX7_markScratch_36 : decode cX7_markScratch 36 = .ok (.getfield 21, 3) := by decide +kernel
theorem dX7_markScratch_39 : decode cX7_markScratch 39 = .ok (.iload_n 1, 1) := by decide +kernel
theorem dX7_markScratch_40 : decode cX7_markScratch 40 = .ok (.invokevirtual 86, 3) := by decide +kernel
theorem dX7_markScratch_43 : decode cX7_markScratch 43 = .ok (.iconst 0, 1) := by decide +kernel
theorem dX7_markScratch_44 : decode cX7_markScratch 44 = .ok (.invokestatic 89, 3) := by decide +kernel
theorem dX7_markScratch_47 : decode cX7_markScratch 47 = .ok (.istore 5, 2) := by decide +kernel
theorem dX7_markScratch_49 : decode cX7_markScratch 49 = .ok (.iload 5, 2) := by decide +kernel
theorem dX7_markScratch_51 : decode cX7_markScratch 51 = .ok (.iload 4, 2) := by decide +kernel
theorem dX7_markScratch_53 : decode cX7_markScratch 53 = .ok (.if_icmp .gt 62, 3) := by decide +kernel
theorem dX7_markScratch_56 : decode cX7_markScratch 56 = .ok (.aload_n 0, 1) := by decide +kernel
theorem dX7_markScratch_57 : decode cX7_markScratch 57 = .ok (.getfield 12, 3) := by decide +kernel
theorem dX7_markScratch_60 : decode cX7_markScratch 60 = .ok (.iload 5, 2) := by decide +kernel
theorem dX7_markScratch_62 : decode cX7_markScratch 62 = .ok (.invokevirtual 92, 3) := by decide +kernel
theorem dX7_markScratch_65 : decode cX7_markScratch 65 = .ok (.istore 6, 2) := by decide +kernel
theorem dX7_markScratch_67 : decode cX7_markScratch 67 = .ok (.aload_n 0, 1) := by decide +kernel
theorem dX7_markScratch_68 : decode cX7_markScratch 68 = .ok (.getfield 12, 3) := by decide +kernel
theorem dX7_markScratch_71 : decode cX7_markScratch 71 = .ok (.iload 5, 2) := by decide +kernel
theorem dX7_markScratch_73 : decode cX7_markScratch 73 = .ok (.invokevirtual 95, 3) := by decide +kernel
theorem dX7_markScratch_76 : decode cX7_markScratch 76 = .ok (.istore 7, 2) := by decide +kernel
theorem dX7_markScratch_78 : decode cX7_markScratch 78 = .ok (.aload_n 0, 1) := by decide +kernel
theorem dX7_markScratch_79 : decode cX7_markScratch 79 = .ok (.iload 7, 2) := by decide +kernel
theorem dX7_markScratch_81 : decode cX7_markScratch 81 = .ok (.iload_n 2, 1) := by decide +kernel
theorem dX7_markScratch_82 : decode cX7_markScratch 82 = .ok (.iload 6, 2) := by decide +kernel
theorem dX7_markScratch_84 : decode cX7_markScratch 84 = .ok (.imul, 1) := by decide +kernel
theorem dX7_markScratch_85 : decode cX7_markScratch 85 = .ok (.sipush 360, 3) := by decide +kernel
theorem dX7_markScratch_88 : decode cX7_markScratch 88 = .ok (.idiv, 1) := by decide +kernel
theorem dX7_markScratch_89 : decode cX7_markScratch 89 = .ok (.iadd, 1) := by decide +kernel
theorem dX7_markScratch_90 : decode cX7_markScratch 90 = .ok (.iload 7, 2) := by decide +kernel
theorem dX7_markScratch_92 : decode cX7_markScratch 92 = .ok (.iload_n 3, 1) := by decide +kernel
theorem dX7_markScratch_93 : decode cX7_markScratch 93 = .ok (.iload 6, 2) := by decide +kernel
theorem dX7_markScratch_95 : decode cX7_markScratch 95 = .ok (.imul, 1) := by decide +kernel
theorem dX7_markScratch_96 : decode cX7_markScratch 96 = .ok (.iconst 1, 1) := by decide +kernel
theorem dX7_markScratch_97 : decode cX7_markScratch 97 = .ok (.isub, 1) := by decide +kernel
theorem dX7_markScratch_98 : decode cX7_markScratch 98 = .ok (.sipush 360, 3) := by decide +kernel
theorem dX7_markScratch_101 : decode cX7_markScratch 101 = .ok (.idiv, 1) := by decide +kernel
theorem dX7_markScratch_102 : decode cX7_markScratch 102 = .ok (.iadd, 1) := by decide +kernel
theorem dX7_markScratch_103 : decode cX7_markScratch 103 = .ok (.iconst 1, 1) := by decide +kernel
theorem dX7_markScratch_104 : decode cX7_markScratch 104 = .ok (.iload_n 1, 1) := by decide +kernel
theorem dX7_markScratch_105 : decode cX7_markScratch 105 = .ok (.ishl, 1) := by decide +kernel
theorem dX7_markScratch_106 : decode cX7_markScratch 106 = .ok (.invokevirtual 98, 3) := by decide +kernel
theorem dX7_markScratch_109 : decode cX7_markScratch 109 = .ok (.iinc 5 1, 3) := by decide +kernel
theorem dX7_markScratch_112 : decode cX7_markScratch 112 = .ok (.goto (-63), 3) := by decide +kernel
theorem dX7_markScratch_115 : decode cX7_markScratch 115 = .ok (.return_, 1) := by decide +kernel
theorem dX7_markRow_0 : decode cX7_markRow 0 = .ok (.iload_n 1, 1) := by decide +kernel
theorem dX7_markRow_1 : decode cX7_markRow 1 = .ok (.iconst 0, 1) := by decide +kernel
theorem dX7_markRow_2 : decode cX7_markRow 2 = .ok (.invokestatic 89, 3) := by decide +kernel
theorem dX7_markRow_5 : decode cX7_markRow 5 = .ok (.istore 4, 2) := by decide +kernel
theorem dX7_markRow_7 : decode cX7_markRow 7 = .ok (.iload 4, 2) := by decide +kernel
theorem dX7_markRow_9 : decode cX7_markRow 9 = .ok (.iload_n 2, 1) := by decide +kernel
theorem dX7_markRow_10 : decode cX7_markRow 10 = .ok (.if_icmp .gt 30, 3) := by decide +kernel
theorem dX7_markRow_13 : decode cX7_markRow 13 = .ok (.iload 4, 2) := by decide +kernel
theorem dX7_markRow_15 : decode cX7_markRow 15 = .ok (.aload_n 0, 1) := by decide +kernel
theorem dX7_markRow_16 : decode cX7_markRow 16 = .ok (.getfield 25, 3) := by decide +kernel
theorem dX7_markRow_19 : decode cX7_markRow 19 = .ok (.arraylength, 1) := by decide +kernel
theorem dX7_markRow_20 : decode cX7_markRow 20 = .ok (.if_icmp .ge 20, 3) := by decide +kernel
theorem dX7_markRow_23 : decode cX7_markRow 23 = .ok (.aload_n 0, 1) := by decide +kernel
theorem dX7_markRow_24 : decode cX7_markRow 24 = .ok (.getfield 25, 3) := by decide +kernel
theorem dX7_markRow_27 : decode cX7_markRow 27 = .ok (.iload 4, 2) := by decide +kernel
theorem dX7_markRow_29 : decode cX7_markRow 29 = .ok (.dup2, 1) := by decide +kernel
theorem dX7_markRow_30 : decode cX7_markRow 30 = .ok (.iaload, 1) := by decide +kernel
theorem dX7_markRow_31 : decode cX7_markRow 31 = .ok (.iload_n 3, 1) := by decide +kernel
theorem dX7_markRow_32 : decode cX7_markRow 32 = .ok (.ior, 1) := by decide +kernel
theorem dX7_markRow_33 : decode cX7_markRow 33 = .ok (.iastore, 1) := by decide +kernel
theorem dX7_markRow_34 : decode cX7_markRow 34 = .ok (.iinc 4 1, 3) := by decide +kernel
theorem dX7_markRow_37 : decode cX7_markRow 37 = .ok (.goto (-30), 3) := by decide +kernel
theorem dX7_markRow_40 : decode cX7_markRow 40 = .ok (.return_, 1) := by decide +kernel
set_option maxRecDepth 20000 in
theorem dX7_judge_0 : decode cX7_judge 0 = .ok (.aload_n 0, 1) := by decide +kernel
theorem dX7_judge_1 : decode cX7_judge 1 = .ok (.getfield 12, 3) := by decide +kernel
theorem dX7_judge_4 : decode cX7_judge 4 = .ok (.invokevirtual 102, 3) := by decide +kernel
theorem dX7_judge_7 : decode cX7_judge 7 = .ok (.istore_n 2, 1) := by decide +kernel
theorem dX7_judge_8 : decode cX7_judge 8 = .ok (.iconst 0, 1) := by decide +kernel
theorem dX7_judge_9 : decode cX7_judge 9 = .ok (.istore_n 3, 1) := by decide +kernel
theorem dX7_judge_10 : decode cX7_judge 10 = .ok (.iload_n 3, 1) := by decide +kernel
theorem dX7_judge_11 : decode cX7_judge 11 = .ok (.iload_n 2, 1) := by decide +kernel
theorem dX7_judge_12 : decode cX7_judge 12 = .ok (.if_icmp .ge 22, 3) := by decide +kernel
theorem dX7_judge_15 : decode cX7_judge 15 = .ok (.aload_n 0, 1) := by decide +kernel
theorem dX7_judge_16 : decode cX7_judge 16 = .ok (.iload_n 3, 1) := by decide +kernel
theorem dX7_judge_17 : decode cX7_judge 17 = .ok (.iload_n 3, 1) := by decide +kernel
theorem dX7_judge_18 : decode cX7_judge 18 = .ok (.iconst 5, 1) := by decide +kernel
theorem dX7_judge_19 : decode cX7_judge 19 = .ok (.iadd, 1) := by decide +kernel
theorem dX7_judge_20 : decode cX7_judge 20 = .ok (.iload_n 2, 1) := by decide +kernel
theorem dX7_judge_21 : decode cX7_judge 21 = .ok (.invokestatic 80, 3) := by decide +kernel
theorem dX7_judge_24 : decode cX7_judge 24 = .ok (.iload_n 1, 1) := by decide +kernel
theorem dX7_judge_25 : decode cX7_judge 25 = .ok (.invokevirtual 106, 3) := by decide +kernel
theorem dX7_judge_28 : decode cX7_judge 28 = .ok (.iinc 3 5, 3) := by decide +kernel
theorem dX7_judge_31 : decode cX7_judge 31 = .ok (.goto (-21), 3) := by decide +kernel
theorem dX7_judge_34 : decode cX7_judge 34 = .ok (.iconst 0, 1) := by decide +kernel
theorem dX7_judge_35 : decode cX7_judge 35 = .ok (.istore_n 3, 1) := by decide +kernel
theorem dX7_judge_36 : decode cX7_judge 36 = .ok (.iload_n 3, 1) := by decide +kernel
theorem dX7_judge_37 : decode cX7_judge 37 = .ok (.iload_n 2, 1) := by decide +kernel
theorem dX7_judge_38 : decode cX7_judge 38 = .ok (.if_icmp .ge 39, 3) := by decide +kernel
theorem dX7_judge_41 : decode cX7_judge 41 = .ok (.aload_n 0, 1) := by decide +kernel
theorem dX7_judge_42 : decode cX7_judge 42 = .ok (.getfield 29, 3) := by decide +kernel
theorem dX7_judge_45 : decode cX7_judge 45 = .ok (.iload_n 3, 1) := by decide +kernel
theorem dX7_judge_46 : decode cX7_judge 46 = .ok (.invokestatic 109, 3) := by decide +kernel
theorem dX7_judge_49 : decode cX7_judge 49 = .ok (.iconst 3, 1) := by decide +kernel
theorem dX7_judge_50 : decode cX7_judge 50 = .ok (.if_icmp .ne 21, 3) := by decide +kernel
theorem dX7_judge_53 : decode cX7_judge 53 = .ok (.aload_n 0, 1) := by decide +kernel
theorem dX7_judge_54 : decode cX7_judge 54 = .ok (.iload_n 3, 1) := by decide +kernel
theorem dX7_judge_55 : decode cX7_judge 55 = .ok (.iload_n 2, 1) := by decide +kernel
theorem dX7_judge_56 : decode cX7_judge 56 = .ok (.invokevirtual 113, 3) := by decide +kernel
theorem dX7_judge_59 : decode cX7_judge 59 = .ok (.ifCond .eq 12, 3) := by decide +kernel
theorem dX7_judge_62 : decode cX7_judge 62 = .ok (.aload_n 0, 1) := by decide +kernel
theorem dX7_judge_63 : decode cX7_judge 63 = .ok (.getfield 29, 3) := by decide +kernel
theorem dX7_judge_66 : decode cX7_judge 66 = .ok (.iload_n 3, 1) := by decide +kernel
theorem dX7_judge_67 : decode cX7_judge 67 = .ok (.iconst 2, 1) := by decide +kernel
theorem dX7_judge_68 : decode cX7_judge 68 = .ok (.invokestatic 117, 3) := by decide +kernel
theorem dX7_judge_71 : decode cX7_judge 71 = .ok (.iinc 3 1, 3) := by decide +kernel
theorem dX7_judge_74 : decode cX7_judge 74 = .ok (.goto (-38), 3) := by decide +kernel
theorem dX7_judge_77 : decode cX7_judge 77 = .ok (.return_, 1) := by decide +kernel
set_option maxRecDepth 20000 in
theorem dX7_judgeGroup_0 : decode cX7_judgeGroup 0 = .ok (.iload_n 2, 1) := by decide +kernel
theorem dX7_judgeGroup_1 : decode cX7_judgeGroup 1 = .ok (.iload_n 1, 1) := by decide +kernel
theorem dX7_judgeGroup_2 : decode cX7_judgeGroup 2 = .ok (.isub, 1) := by decide +kernel
theorem dX7_judgeGroup_3 : decode cX7_judgeGroup 3 = .ok (.iconst 5, 1) := by decide +kernel
theorem dX7_judgeGroup_4 : decode cX7_judgeGroup 4 = .ok (.if_icmp .ne 18, 3) := by decide +kernel
theorem dX7_judgeGroup_7 : decode cX7_judgeGroup 7 = .ok (.aload_n 0, 1) := by decide +kernel
theorem dX7_judgeGroup_8 : decode cX7_judgeGroup 8 = .ok (.iload_n 1, 1) := by decide +kernel
theorem dX7_judgeGroup_9 : decode cX7_judgeGroup 9 = .ok (.iload_n 2, 1) := by decide +kernel
theorem dX7_judgeGroup_10 : decode cX7_judgeGroup 10 = .ok (.iload_n 3, 1) := by decide +kernel
theorem dX7_judgeGroup_11 : decode cX7_judgeGroup 11 = .ok (.invokevirtual 121, 3) := by decide +kernel
theorem dX7_judgeGroup_14 : decode cX7_judgeGroup 14 = .ok (.iconst 1, 1) := by decide +kernel
theorem dX7_judgeGroup_15 : decode cX7_judgeGroup 15 = .ok (.if_icmp .ne 7, 3) := by decide +kernel
theorem dX7_judgeGroup_18 : decode cX7_judgeGroup 18 = .ok (.iconst 1, 1) := by decide +kernel
theorem dX7_judgeGroup_19 : decode cX7_judgeGroup 19 = .ok (.goto 4, 3) := by decide +kernel
theorem dX7_judgeGroup_22 : decode cX7_judgeGroup 22 = .ok (.iconst 0, 1) := by decide +kernel
theorem dX7_judgeGroup_23 : decode cX7_judgeGroup 23 = .ok (.istore 4, 2) := by decide +kernel
theorem dX7_judgeGroup_25 : decode cX7_judgeGroup 25 = .ok (.iload 4, 2) := by decide +kernel
theorem dX7_judgeGroup_27 : decode cX7_judgeGroup 27 = .ok (.ifCond .eq 7, 3) := by decide +kernel
theorem dX7_judgeGroup_30 : decode cX7_judgeGroup 30 = .ok (.iconst 1, 1) := by decide +kernel
theorem dX7_judgeGroup_31 : decode cX7_judgeGroup 31 = .ok (.goto 4, 3) := by decide +kernel
theorem dX7_judgeGroup_34 : decode cX7_judgeGroup 34 = .ok (.iconst 3, 1) := by decide +kernel
theorem dX7_judgeGroup_35 : decode cX7_judgeGroup 35 = .ok (.istore 5, 2) := by decide +kernel
theorem dX7_judgeGroup_37 : decode cX7_judgeGroup 37 = .ok (.iload_n 1, 1) := by decide +kernel
theorem dX7_judgeGroup_38 : decode cX7_judgeGroup 38 = .ok (.istore 6, 2) := by decide +kernel
theorem dX7_judgeGroup_40 : decode cX7_judgeGroup 40 = .ok (.iload 6, 2) := by decide +kernel
theorem dX7_judgeGroup_42 : decode cX7_judgeGroup 42 = .ok (.iload_n 2, 1) := by decide +kernel
theorem dX7_judgeGroup_43 : decode cX7_judgeGroup 43 = .ok (.if_icmp .ge 38, 3) := by decide +kernel
theorem dX7_judgeGroup_46 : decode cX7_judgeGroup 46 = .ok (.aload_n 0, 1) := by decide +kernel
theorem dX7_judgeGroup_47 : decode cX7_judgeGroup 47 = .ok (.getfield 29, 3) := by decide +kernel
theorem dX7_judgeGroup_50 : decode cX7_judgeGroup 50 = .ok (.iload 6, 2) := by decide +kernel
theorem dX7_judgeGroup_52 : decode cX7_judgeGroup 52 = .ok (.aload_n 0, 1) := by decide +kernel
theorem dX7_judgeGroup_53 : decode cX7_judgeGroup 53 = .ok (.getfield 25, 3) := by decide +kernel
theorem dX7_judgeGroup_56 : decode cX7_judgeGroup 56 = .ok (.iload 6, 2) := by decide +kernel
theorem dX7_judgeGroup_58 : decode cX7_judgeGroup 58 = .ok (.invokestatic 109, 3) := by decide +kernel
theorem dX7_judgeGroup_61 : decode cX7_judgeGroup 61 = .ok (.iload_n 3, 1) := by decide +kernel
theorem dX7_judgeGroup_62 : decode cX7_judgeGroup 62 = .ok (.iand, 1) := by decide +kernel
theorem dX7_judgeGroup_63 : decode cX7_judgeGroup 63 = .ok (.ifCond .ne 7, 3) := by decide +kernel
theorem dX7_judgeGroup_66 : decode cX7_judgeGroup 66 = .ok (.iconst 0, 1) := by decide +kernel
theorem dX7_judgeGroup_67 : decode cX7_judgeGroup 67 = .ok (.goto 5, 3) := by decide +kernel
theorem dX7_judgeGroup_70 : decode cX7_judgeGroup 70 = .ok (.iload 5, 2) := by decide +kernel
theorem dX7_judgeGroup_72 : decode cX7_judgeGroup 72 = .ok (.invokestatic 117, 3) := by decide +kernel
theorem dX7_judgeGroup_75 : decode cX7_judgeGroup 75 = .ok (.iinc 6 1, 3) := by decide +kernel
theorem dX7_judgeGroup_78 : decode cX7_judgeGroup 78 = .ok (.goto (-38), 3) := by decide +kernel
theorem dX7_judgeGroup_81 : decode cX7_judgeGroup 81 = .ok (.return_, 1) := by decide +kernel
set_option maxRecDepth 20000 in
theorem dX7_canBeFilled_0 : decode cX7_canBeFilled 0 = .ok (.iload_n 1, 1) := by decide +kernel
theorem dX7_canBeFilled_1 : decode cX7_canBeFilled 1 = .ok (.invokestatic 125, 3) := by decide +kernel
theorem dX7_canBeFilled_4 : decode cX7_canBeFilled 4 = .ok (.istore_n 3, 1) := by decide +kernel
theorem dX7_canBeFilled_5 : decode cX7_canBeFilled 5 = .ok (.iload_n 1, 1) := by decide +kernel
theorem dX7_canBeFilled_6 : decode cX7_canBeFilled 6 = .ok (.invokestatic 128, 3) := by decide +kernel
theorem dX7_canBeFilled_9 : decode cX7_canBeFilled 9 = .ok (.istore 4, 2) := by decide +kernel
theorem dX7_canBeFilled_11 : decode cX7_canBeFilled 11 = .ok (.iload_n 1, 1) := by decide +kernel
theorem dX7_canBeFilled_12 : decode cX7_canBeFilled 12 = .ok (.invokestatic 131, 3) := by decide +kernel
theorem dX7_canBeFilled_15 : decode cX7_canBeFilled 15 = .ok (.ifCond .ne 42, 3) := by decide +kernel
theorem dX7_canBeFilled_18 : decode cX7_canBeFilled 18 = .ok (.iload_n 3, 1) := by decide +kernel
theorem dX7_canBeFilled_19 : decode cX7_canBeFilled 19 = .ok (.ifCond .lt 38, 3) := by decide +kernel
theorem dX7_canBeFilled_22 : decode cX7_canBeFilled 22 = .ok (.iload 4, 2) := by decide +kernel
theorem dX7_canBeFilled_24 : decode cX7_canBeFilled 24 = .ok (.iload_n 2, 1) := by decide +kernel
theorem dX7_canBeFilled_25 : decode cX7_canBeFilled 25 = .ok (.if_icmp .ge 32, 3) := by decide +kernel
theorem dX7_canBeFilled_28 : decode cX7_canBeFilled 28 = .ok (.aload_n 0, 1) := by decide +kernel
theorem dX7_canBeFilled_29 : decode cX7_canBeFilled 29 = .ok (.getfield 29, 3) := by decide +kernel
theorem dX7_canBeFilled_32 : decode cX7_canBeFilled 32 = .ok (.iload_n 3, 1) := by decide +kernel
theorem dX7_canBeFilled_33 : decode cX7_canBeFilled 33 = .ok (.invokestatic 109, 3) := by decide +kernel
theorem dX7_canBeFilled_36 : decode cX7_canBeFilled 36 = .ok (.iconst 1, 1) := by decide +kernel
theorem dX7_canBeFilled_37 : decode cX7_canBeFilled 37 = .ok (.if_icmp .gt 20, 3) := by decide +kernel
theorem dX7_canBeFilled_40 : decode cX7_canBeFilled 40 = .ok (.aload_n 0, 1) := by decide +kernel
theorem dX7_canBeFilled_41 : decode cX7_canBeFilled 41 = .ok (.getfield 29, 3) := by decide +kernel
theorem dX7_canBeFilled_44 : decode cX7_canBeFilled 44 = .ok (.iload 4, 2) := by decide +kernel
theorem dX7_canBeFilled_46 : decode cX7_canBeFilled 46 = .ok (.invokestatic 109, 3) := by decide +kernel
theorem dX7_canBeFilled_49 : decode cX7_canBeFilled 49 = .ok (.iconst 1, 1) := by decide +kernel
theorem dX7_canBeFilled_50 : decode cX7_canBeFilled 50 = .ok (.if_icmp .gt 7, 3) := by decide +kernel
theorem dX7_canBeFilled_53 : decode cX7_canBeFilled 53 = .ok (.iconst 1, 1) := by decide +kernel
theorem dX7_canBeFilled_54 : decode cX7_canBeFilled 54 = .ok (.goto 4, 3) := by decide +kernel
theorem dX7_canBeFilled_57 : decode cX7_canBeFilled 57 = .ok (.iconst 0, 1) := by decide +kernel
theorem dX7_canBeFilled_58 : decode cX7_canBeFilled 58 = .ok (.ireturn, 1) := by decide +kernel
set_option maxRecDepth 20000 in
theorem dX7_missingWithout_0 : decode cX7_missingWithout 0 = .ok (.aload_n 0, 1) := by decide +kernel
theorem dX7_missingWithout_1 : decode cX7_missingWithout 1 = .ok (.iconst 1, 1) := by decide +kernel
theorem dX7_missingWithout_2 : decode cX7_missingWithout 2 = .ok (.iload_n 1, 1) := by decide +kernel
theorem dX7_missingWithout_3 : decode cX7_missingWithout 3 = .ok (.ishl, 1) := by decide +kernel
theorem dX7_missingWithout_4 : decode cX7_missingWithout 4 = .ok (.iconst (-1), 1) := by decide +kernel
theorem dX7_missingWithout_5 : decode cX7_missingWithout 5 = .ok (.ixor, 1) := by decide +kernel
theorem dX7_missingWithout_6 : decode cX7_missingWithout 6 = .ok (.invokevirtual 67, 3) := by decide +kernel
theorem dX7_missingWithout_9 : decode cX7_missingWithout 9 = .ok (.aload_n 0, 1) := by decide +kernel
theorem dX7_missingWithout_10 : decode cX7_missingWithout 10 = .ok (.iconst 3, 1) := by decide +kernel
theorem dX7_missingWithout_11 : decode cX7_missingWithout 11 = .ok (.invokevirtual 135, 3) := by decide +kernel
theorem dX7_missingWithout_14 : decode cX7_missingWithout 14 = .ok (.ireturn, 1) := by decide +kernel
set_option maxRecDepth 20000 in
theorem dX7_isDamaged_0 : decode cX7_isDamaged 0 = .ok (.aload_n 0, 1) := by decide +kernel
theorem dX7_isDamaged_1 : decode cX7_isDamaged 1 = .ok (.getfield 25, 3) := by decide +kernel
theorem dX7_isDamaged_4 : decode cX7_isDamaged 4 = .ok (.iload_n 1, 1) := by decide +kernel
theorem dX7_isDamaged_5 : decode cX7_isDamaged 5 = .ok (.invokestatic 109, 3) := by decide +kernel
theorem dX7_isDamaged_8 : decode cX7_isDamaged 8 = .ok (.ifCond .eq 7, 3) := by decide +kernel
theorem dX7_isDamaged_11 : decode cX7_isDamaged 11 = .ok (.iconst 1, 1) := by decide +kernel
theorem dX7_isDamaged_12 : decode cX7_isDamaged 12 = .ok (.goto 4, 3) := by decide +kernel
theorem dX7_isDamaged_15 : decode cX7_isDamaged 15 = .ok (.iconst 0, 1) := by decide +kernel
theorem dX7_isDamaged_16 : decode cX7_isDamaged 16 = .ok (.ireturn, 1) := by decide +kernel
set_option maxRecDepth 20000 in
theorem dX7_howIs_0 : decode cX7_howIs 0 = .ok (.aload_n 0, 1) := by decide +kernel
theorem dX7_howIs_1 : decode cX7_howIs 1 = .ok (.getfield 29, 3) := by decide +kernel
theorem dX7_howIs_4 : decode cX7_howIs 4 = .ok (.iload_n 1, 1) := by decide +kernel
theorem dX7_howIs_5 : decode cX7_howIs 5 = .ok (.invokestatic 109, 3) := by decide +kernel
theorem dX7_howIs_8 : decode cX7_howIs 8 = .ok (.ireturn, 1) := by decide +kernel
theorem dX7_damagedIn_0 : decode cX7_damagedIn 0 = .ok (.iconst 0, 1) := by decide +kernel
theorem dX7_damagedIn_1 : decode cX7_damagedIn 1 = .ok (.istore 4, 2) := by decide +kernel
theorem dX7_damagedIn_3 : decode cX7_damagedIn 3 = .ok (.iload_n 1, 1) := by decide +kernel
theorem dX7_damagedIn_4 : decode cX7_damagedIn 4 = .ok (.iconst 0, 1) := by decide +kernel
theorem dX7_damagedIn_5 : decode cX7_damagedIn 5 = .ok (.invokestatic 89, 3) := by decide +kernel
theorem dX7_damagedIn_8 : decode cX7_damagedIn 8 = .ok (.istore 5, 2) := by decide +kernel
theorem dX7_damagedIn_10 : decode cX7_damagedIn 10 = .ok (.iload 5, 2) := by decide +kernel
theorem dX7_damagedIn_12 : decode cX7_damagedIn 12 = .ok (.iload_n 2, 1) := by decide +kernel
theorem dX7_damagedIn_13 : decode cX7_damagedIn 13 = .ok (.if_icmp .ge 34, 3) := by decide +kernel
theorem dX7_damagedIn_16 : decode cX7_damagedIn 16 = .ok (.iload 5, 2) := by decide +kernel
theorem dX7_damagedIn_18 : decode cX7_damagedIn 18 = .ok (.aload_n 0, 1) := by decide +kernel
theorem dX7_damagedIn_19 : decode cX7_damagedIn 19 = .ok (.getfield 25, 3) := by decide +kernel
theorem dX7_damagedIn_22 : decode cX7_damagedIn 22 = .ok (.arraylength, 1) := by decide +kernel
theorem dX7_damagedIn_23 : decode cX7_damagedIn 23 = .ok (.if_icmp .ge 24, 3) := by decide +kernel
theorem dX7_damagedIn_26 : decode cX7_damagedIn 26 = .ok (.aload_n 0, 1) := by decide +kernel
theorem dX7_damagedIn_27 : decode cX7_damagedIn 27 = .ok (.getfield 25, 3) := by decide +kernel
theorem dX7_damagedIn_30 : decode cX7_damagedIn 30 = .ok (.iload 5, 2) := by decide +kernel
theorem dX7_damagedIn_32 : decode cX7_damagedIn 32 = .ok (.iaload, 1) := by decide +kernel
theorem dX7_damagedIn_33 : decode cX7_damagedIn 33 = .ok (.iload_n 3, 1) := by decide +kernel
theorem dX7_damagedIn_34 : decode cX7_damagedIn 34 = .ok (.iand, 1) := by decide +kernel
theorem dX7_damagedIn_35 : decode cX7_damagedIn 35 = .ok (.ifCond .eq 6, 3) := by decide +kernel
theorem dX7_damagedIn_38 : decode cX7_damagedIn 38 = .ok (.iinc 4 1, 3) := by decide +kernel
theorem dX7_damagedIn_41 : decode cX7_damagedIn 41 = .ok (.iinc 5 1, 3) := by decide +kernel
theorem dX7_damagedIn_44 : decode cX7_damagedIn 44 = .ok (.goto (-34), 3) := by decide +kernel
theorem dX7_damagedIn_47 : decode cX7_damagedIn 47 = .ok (.iload 4, 2) := by decide +kernel
theorem dX7_damagedIn_49 : decode cX7_damagedIn 49 = .ok (.ireturn, 1) := by decide +kernel
set_option maxRecDepth 20000 in
theorem dX7_framesThatAre_0 : decode cX7_framesThatAre 0 = .ok (.iconst 0, 1) := by decide +kernel
theorem dX7_framesThatAre_1 : decode cX7_framesThatAre 1 = .ok (.istore_n 2, 1) := by decide +kernel
theorem dX7_framesThatAre_2 : decode cX7_framesThatAre 2 = .ok (.aload_n 0, 1) := by decide +kernel
theorem dX7_framesThatAre_3 : decode cX7_framesThatAre 3 = .ok (.getfield 12, 3) := by decide +kernel
theorem dX7_framesThatAre_6 : decode cX7_framesThatAre 6 = .ok (.invokevirtual 102, 3) := by decide +kernel
theorem dX7_framesThatAre_9 : decode cX7_framesThatAre 9 = .ok (.istore_n 3, 1) := by decide +kernel
theorem dX7_framesThatAre_10 : decode cX7_framesThatAre 10 = .ok (.iconst 0, 1) := by decide +kernel
theorem dX7_framesThatAre_11 : decode cX7_framesThatAre 11 = .ok (.istore 4, 2) := by decide +kernel
theorem dX7_framesThatAre_13 : decode cX7_framesThatAre 13 = .ok (.iload 4, 2) := by decide +kernel
theorem dX7_framesThatAre_15 : decode cX7_framesThatAre 15 = .ok (.iload_n 3, 1) := by decide +kernel
theorem dX7_framesThatAre_16 : decode cX7_framesThatAre 16 = .ok (.if_icmp .ge 33, 3) := by decide +kernel
theorem dX7_framesThatAre_19 : decode cX7_framesThatAre 19 = .ok (.iload 4, 2) := by decide +kernel
theorem dX7_framesThatAre_21 : decode cX7_framesThatAre 21 = .ok (.aload_n 0, 1) := by decide +kernel
theorem dX7_framesThatAre_22 : decode cX7_framesThatAre 22 = .ok (.getfield 29, 3) := by decide +kernel
theorem dX7_framesThatAre_25 : decode cX7_framesThatAre 25 = .ok (.arraylength, 1) := by decide +kernel
theorem dX7_framesThatAre_26 : decode cX7_framesThatAre 26 = .ok (.if_icmp .ge 23, 3) := by decide +kernel
theorem dX7_framesThatAre_29 : decode cX7_framesThatAre 29 = .ok (.aload_n 0, 1) := by decide +kernel
theorem dX7_framesThatAre_30 : decode cX7_framesThatAre 30 = .ok (.getfield 29, 3) := by decide +kernel
theorem dX7_framesThatAre_33 : decode cX7_framesThatAre 33 = .ok (.iload 4, 2) := by decide +kernel
theorem dX7_framesThatAre_35 : decode cX7_framesThatAre 35 = .ok (.iaload, 1) := by decide +kernel
theorem dX7_framesThatAre_36 : decode cX7_framesThatAre 36 = .ok (.iload_n 1, 1) := by decide +kernel
theorem dX7_framesThatAre_37 : decode cX7_framesThatAre 37 = .ok (.if_icmp .ne 6, 3) := by decide +kernel
theorem dX7_framesThatAre_40 : decode cX7_framesThatAre 40 = .ok (.iinc 2 1, 3) := by decide +kernel
theorem dX7_framesThatAre_43 : decode cX7_framesThatAre 43 = .ok (.iinc 4 1, 3) := by decide +kernel
theorem dX7_framesThatAre_46 : decode cX7_framesThatAre 46 = .ok (.goto (-33), 3) := by decide +kernel
theorem dX7_framesThatAre_49 : decode cX7_framesThatAre 49 = .ok (.iload_n 2, 1) := by decide +kernel
theorem dX7_framesThatAre_50 : decode cX7_framesThatAre 50 = .ok (.ireturn, 1) := by decide +kernel
theorem dX8_init_0 : decode cX8_init 0 = .ok (.aload_n 0, 1) := by decide +kernel
theorem dX8_init_1 : decode cX8_init 1 = .ok (.invokespecial 3, 3) := by decide +kernel
theorem dX8_init_4 : decode cX8_init 4 = .ok (.aload_n 0, 1) := by decide +kernel
theorem dX8_init_5 : decode cX8_init 5 = .ok (.bipush 40, 2) := by decide +kernel
theorem dX8_init_7 : decode cX8_init 7 = .ok (.newarray .int, 2) := by decide +kernel
theorem dX8_init_9 : decode cX8_init 9 = .ok (.putfield 11, 3) := by decide +kernel
theorem dX8_init_12 : decode cX8_init 12 = .ok (.aload_n 0, 1) := by decide +kernel
theorem dX8_init_13 : decode cX8_init 13 = .ok (.bipush 40, 2) := by decide +kernel
theorem dX8_init_15 : decode cX8_init 15 = .ok (.newarray .int, 2) := by decide +kernel
theorem dX8_init_17 : decode cX8_init 17 = .ok (.putfield 15, 3) := by decide +kernel
theorem dX8_init_20 : decode cX8_init 20 = .ok (.aload_n 0, 1) := by decide +kernel
theorem dX8_init_21 : decode cX8_init 21 = .ok (.iconst 0, 1) := by decide +kernel
theorem dX8_init_22 : decode cX8_init 22 = .ok (.putfield 18, 3) := by decide +kernel
theorem dX8_init_25 : decode cX8_init 25 = .ok (.return_, 1) := by decide +kernel
theorem dX8_atFirst_0 : decode cX8_atFirst 0 = .ok (.bipush 7, 2) := by decide +kernel
theorem dX8_atFirst_2 : decode cX8_atFirst 2 = .ok (.iload_n 0, 1) := by decide +kernel
theorem dX8_atFirst_3 : decode cX8_atFirst 3 = .ok (.imul, 1) := by decide +kernel
theorem dX8_atFirst_4 : decode cX8_atFirst 4 = .ok (.iconst 3, 1) := by decide +kernel
theorem dX8_atFirst_5 : decode cX8_atFirst 5 = .ok (.iload_n 1, 1) := by decide +kernel
theorem dX8_atFirst_6 : decode cX8_atFirst 6 = .ok (.imul, 1) := by decide +kernel
theorem dX8_atFirst_7 : decode cX8_atFirst 7 = .ok (.iadd, 1) := by decide +kernel
theorem dX8_atFirst_8 : decode cX8_atFirst 8 = .ok (.bipush 16, 2) := by decide +kernel
theorem dX8_atFirst_10 : decode cX8_atFirst 10 = .ok (.irem, 1) := by decide +kernel
theorem dX8_atFirst_11 : decode cX8_atFirst 11 = .ok (.ireturn, 1) := by decide +kernel
set_option maxRecDepth 20000 in
theorem dX8_standsAt_0 : decode cX8_standsAt 0 = .ok (.iload_n 1, 1) := by decide +kernel
theorem dX8_standsAt_1 : decode cX8_standsAt 1 = .ok (.invokestatic 22, 3) := by decide +kernel
theorem dX8_standsAt_4 : decode cX8_standsAt 4 = .ok (.ifCond .ne 10, 3) := by decide +kernel
theorem dX8_standsAt_7 : decode cX8_standsAt 7 = .ok (.aload_n 0, 1) := by decide +kernel
theorem dX8_standsAt_8 : decode cX8_standsAt 8 = .ok (.iload_n 1, 1) := by decide +kernel
theorem dX8_standsAt_9 : decode cX8_standsAt 9 = .ok (.iload_n 2, 1) := by decide +kernel
theorem dX8_standsAt_10 : decode cX8_standsAt 10 = .ok (.invokevirtual 28, 3) := by decide +kernel
theorem dX8_standsAt_13 : decode cX8_standsAt 13 = .ok (.ireturn, 1) := by decide +kernel
theorem dX8_standsAt_14 : decode cX8_standsAt 14 = .ok (.iconst 0, 1) := by decide +kernel
theorem dX8_standsAt_15 : decode cX8_standsAt 15 = .ok (.istore_n 3, 1) := by decide +kernel
theorem dX8_standsAt_16 : decode cX8_standsAt 16 = .ok (.iload_n 1, 1) := by decide +kernel
theorem dX8_standsAt_17 : decode cX8_standsAt 17 = .ok (.iconst 5, 1) := by decide +kernel
theorem dX8_standsAt_18 : decode cX8_standsAt 18 = .ok (.isub, 1) := by decide +kernel
theorem dX8_standsAt_19 : decode cX8_standsAt 19 = .ok (.iconst 1, 1) := by decide +kernel
theorem dX8_standsAt_20 : decode cX8_standsAt 20 = .ok (.iadd, 1) := by decide +kernel
theorem dX8_standsAt_21 : decode cX8_standsAt 21 = .ok (.istore 4, 2) := by decide +kernel
theorem dX8_standsAt_23 : decode cX8_standsAt 23 = .ok (.iload 4, 2) := by decide +kernel
theorem dX8_standsAt_25 : decode cX8_standsAt 25 = .ok (.iload_n 1, 1) := by decide +kernel
theorem dX8_standsAt_26 : decode cX8_standsAt 26 = .ok (.if_icmp .ge 19, 3) := by decide +kernel
theorem dX8_standsAt_29 : decode cX8_standsAt 29 = .ok (.iload_n 3, 1) := by decide +kernel
theorem dX8_standsAt_30 : decode cX8_standsAt 30 = .ok (.aload_n 0, 1) := by decide +kernel
theorem dX8_standsAt_31 : decode cX8_standsAt 31 = .ok (.iload 4, 2) := by decide +kernel
theorem dX8_standsAt_33 : decode cX8_standsAt 33 = .ok (.iload_n 2, 1) := by decide +kernel
theorem dX8_standsAt_34 : decode cX8_standsAt 34 = .ok (.invokevirtual 28, 3) := by decide +kernel
theorem dX8_standsAt_37 : decode cX8_standsAt 37 = .ok (.iadd, 1) := by decide +kernel
theorem dX8_standsAt_38 : decode cX8_standsAt 38 = .ok (.istore_n 3, 1) := by decide +kernel
theorem dX8_standsAt_39 : decode cX8_standsAt 39 = .ok (.iinc 4 1, 3) := by decide +kernel
theorem dX8_standsAt_42 : decode cX8_standsAt 42 = .ok (.goto (-19), 3) := by decide +kernel
theorem dX8_standsAt_45 : decode cX8_standsAt 45 = .ok (.iload_n 3, 1) := by decide +kernel
theorem dX8_standsAt_46 : decode cX8_standsAt 46 = .ok (.bipush 16, 2) := by decide +kernel
theorem dX8_standsAt_48 : decode cX8_standsAt 48 = .ok (.irem, 1) := by decide +kernel
theorem dX8_standsAt_49 : decode cX8_standsAt 49 = .ok (.ireturn, 1) := by decide +kernel
set_option maxRecDepth 20000 in
theorem dX8_dataAt_0 : decode cX8_dataAt 0 = .ok (.aload_n 0, 1) := by decide +kernel
theorem dX8_dataAt_1 : decode cX8_dataAt 1 = .ok (.iload_n 1, 1) := by decide +kernel
theorem dX8_dataAt_2 : decode cX8_dataAt 2 = .ok (.iconst 4, 1) := by decide +kernel
theorem dX8_dataAt_3 : decode cX8_dataAt 3 = .ok (.imul, 1) := by decide +kernel
theorem dX8_dataAt_4 : decode cX8_dataAt 4 = .ok (.iload_n 2, 1) := by decide +kernel
theorem dX8_dataAt_5 : decode cX8_dataAt 5 = .ok (.iadd, 1) := by decide +kernel
theorem dX8_dataAt_6 : decode cX8_dataAt 6 = .ok (.invokevirtual 32, 3) := by decide +kernel
theorem dX8_dataAt_9 : decode cX8_dataAt 9 = .ok (.istore_n 3, 1) := by decide +kernel
theorem dX8_dataAt_10 : decode cX8_dataAt 10 = .ok (.iload_n 3, 1) := by decide +kernel
theorem dX8_dataAt_11 : decode cX8_dataAt 11 = .ok (.ifCond .ge 11, 3) := by decide +kernel
theorem dX8_dataAt_14 : decode cX8_dataAt 14 = .ok (.iload_n 1, 1) := by decide +kernel
theorem dX8_dataAt_15 : decode cX8_dataAt 15 = .ok (.iload_n 2, 1) := by decide +kernel
theorem dX8_dataAt_16 : decode cX8_dataAt 16 = .ok (.invokestatic 36, 3) := by decide +kernel
theorem dX8_dataAt_19 : decode cX8_dataAt 19 = .ok (.goto 11, 3) := by decide +kernel
theorem dX8_dataAt_22 : decode cX8_dataAt 22 = .ok (.aload_n 0, 1) := by decide +kernel
theorem dX8_dataAt_23 : decode cX8_dataAt 23 = .ok (.getfield 15, 3) := by decide +kernel
theorem dX8_dataAt_26 : decode cX8_dataAt 26 = .ok (.iload_n 3, 1) := by decide +kernel
theorem dX8_dataAt_27 : decode cX8_dataAt 27 = .ok (.invokestatic 39, 3) := by decide +kernel
theorem dX8_dataAt_30 : decode cX8_dataAt 30 = .ok (.ireturn, 1) := by decide +kernel
theorem dX8_indexOf_0 : decode cX8_indexOf 0 = .ok (.iconst 0, 1) := by decide +kernel
theorem dX8_indexOf_1 : decode cX8_indexOf 1 = .ok (.istore_n 2, 1) := by decide +kernel
theorem dX8_indexOf_2 : decode cX8_indexOf 2 = .ok (.iload_n 2, 1) := by decide +kernel
theorem dX8_indexOf_3 : decode cX8_indexOf 3 = .ok (.aload_n 0, 1) := by decide +kernel
theorem dX8_indexOf_4 : decode cX8_indexOf 4 = .ok (.getfield 18, 3) := by decide +kernel
theorem dX8_indexOf_7 : decode cX8_indexOf 7 = .ok (.if_icmp .ge 30, 3) := by decide +kernel
theorem dX8_indexOf_10 : decode cX8_indexOf 10 = .ok (.iload_n 2, 1) := by decide +kernel
theorem dX8_indexOf_11 : decode cX8_indexOf 11 = .ok (.aload_n 0, 1) := by decide +kernel
theorem dX8_indexOf_12 : decode cX8_indexOf 12 = .ok (.getfield 11, 3) := by decide +kernel
theorem dX8_indexOf_15 : decode cX8_indexOf 15 = .ok (.arraylength, 1) := by decide +kernel
theorem dX8_indexOf_16 : decode cX8_indexOf 16 = .ok (.if_icmp .ge 21, 3) := by decide +kernel
theorem dX8_indexOf_19 : decode cX8_indexOf 19 = .ok (.aload_n 0, 1) := by decide +kernel
theorem dX8_indexOf_20 : decode cX8_indexOf 20 = .ok (.getfield 11, 3) := by decide +kernel
theorem dX8_indexOf_23 : decode cX8_indexOf 23 = .ok (.iload_n 2, 1) := by decide +kernel
theorem dX8_indexOf_24 : decode cX8_indexOf 24 = .ok (.iaload, 1) := by decide +kernel
theorem dX8_indexOf_25 : decode cX8_indexOf 25 = .ok (.iload_n 1, 1) := by decide +kernel
theorem dX8_indexOf_26 : decode cX8_indexOf 26 = .ok (.if_icmp .ne 5, 3) := by decide +kernel
theorem dX8_indexOf_29 : decode cX8_indexOf 29 = .ok (.iload_n 2, 1) := by decide +kernel
theorem dX8_indexOf_30 : decode cX8_indexOf 30 = .ok (.ireturn, 1) := by decide +kernel
theorem dX8_indexOf_31 : decode cX8_indexOf 31 = .ok (.iinc 2 1, 3) := by decide +kernel
theorem dX8_indexOf_34 : decode cX8_indexOf 34 = .ok (.goto (-32), 3) := by decide +kernel
theorem dX8_indexOf_37 : decode cX8_indexOf 37 = .ok (.iconst (-1), 1) := by decide +kernel
theorem dX8_indexOf_38 : decode cX8_indexOf 38 = .ok (.ireturn, 1) := by decide +kernel
set_option maxRecDepth 20000 in
theorem dX8_write_0 : decode cX8_write 0 = .ok (.iload_n 1, 1) := by decide +kernel
theorem dX8_write_1 : decode cX8_write 1 = .ok (.iconst 4, 1) := by decide +kernel
theorem dX8_write_2 : decode cX8_write 2 = .ok (.imul, 1) := by decide +kernel
theorem dX8_write_3 : decode cX8_write 3 = .ok (.iload_n 2, 1) := by decide +kernel
theorem dX8_write_4 : decode cX8_write 4 = .ok (.iadd, 1) := by decide +kernel
theorem dX8_write_5 : decode cX8_write 5 = .ok (.istore 4, 2) := by decide +kernel
theorem dX8_write_7 : decode cX8_write 7 = .ok (.aload_n 0, 1) := by decide +kernel
theorem dX8_write_8 : decode cX8_write 8 = .ok (.iload 4, 2) := by decide +kernel
theorem dX8_write_10 : decode cX8_write 10 = .ok (.invokevirtual 32, 3) := by decide +kernel
theorem dX8_write_13 : decode cX8_write 13 = .ok (.istore 5, 2) := by decide +kernel
theorem dX8_write_15 : decode cX8_write 15 = .ok (.iload_n 3, 1) := by decide +kernel
theorem dX8_write_16 : decode cX8_write 16 = .ok (.iload_n 1, 1) := by decide +kernel
theorem dX8_write_17 : decode cX8_write 17 = .ok (.iload_n 2, 1) := by decide +kernel
theorem dX8_write_18 : decode cX8_write 18 = .ok (.invokestatic 36, 3) := by decide +kernel
theorem dX8_write_21 : decode cX8_write 21 = .ok (.if_icmp .ne 11, 3) := by decide +kernel
theorem dX8_write_24 : decode cX8_write 24 = .ok (.aload_n 0, 1) := by decide +kernel
theorem dX8_write_25 : decode cX8_write 25 = .ok (.iload 5, 2) := by decide +kernel
theorem dX8_write_27 : decode cX8_write 27 = .ok (.invokevirtual 43, 3) := by decide +kernel
theorem dX8_write_30 : decode cX8_write 30 = .ok (.iconst 1, 1) := by decide +kernel
theorem dX8_write_31 : decode cX8_write 31 = .ok (.ireturn, 1) := by decide +kernel
theorem dX8_write_32 : decode cX8_write 32 = .ok (.iload 5, 2) := by decide +kernel
theorem dX8_write_34 : decode cX8_write 34 = .ok (.ifCond .ge 14, 3) := by decide +kernel
theorem dX8_write_37 : decode cX8_write 37 = .ok (.aload_n 0, 1) := by decide +kernel
theorem dX8_write_38 : decode cX8_write 38 = .ok (.getfield 18, 3) := by decide +kernel
theorem dX8_write_41 : decode cX8_write 41 = .ok (.bipush 40, 2) := by decide +kernel
theorem dX8_write_43 : decode cX8_write 43 = .ok (.if_icmp .lt 5, 3) := by decide +kernel
theorem dX8_write_46 : decode cX8_write 46 = .ok (.iconst 0, 1) := by decide +kernel
theorem dX8_write_47 : decode cX8_write 47 = .ok (.ireturn, 1) := by decide +kernel
theorem dX8_write_48 : decode cX8_write 48 = .ok (.iload 5, 2) := by decide +kernel
theorem dX8_write_50 : decode cX8_write 50 = .ok (.ifCond .ge 19, 3) := by decide +kernel
theorem dX8_write_53 : decode cX8_write 53 = .ok (.aload_n 0, 1) := by decide +kernel
theorem dX8_write_54 : decode cX8_write 54 = .ok (.getfield 18, 3) := by decide +kernel
theorem dX8_write_57 : decode cX8_write 57 = .ok (.istore 5, 2) := by decide +kernel
theorem dX8_write_59 : decode cX8_write 59 = .ok (.aload_n 0, 1) := by decide +kernel
theorem dX8_write_60 : decode cX8_write 60 = .ok (.dup, 1) := by decide +kernel
theorem dX8_write_61 : decode cX8_write 61 = .ok (.getfield 18, 3) := by decide +kernel
theorem dX8_write_64 : decode cX8_write 64 = .ok (.iconst 1, 1) := by decide +kernel
theorem dX8_write_65 : decode cX8_write 65 = .ok (.iadd, 1) := by decide +kernel
theorem dX8_write_66 : decode cX8_write 66 = .ok (.putfield 18, 3) := by decide +kernel
theorem dX8_write_69 : decode cX8_write 69 = .ok (.aload_n 0, 1) := by decide +kernel
theorem dX8_write_70 : decode cX8_write 70 = .ok (.getfield 11, 3) := by decide +kernel
theorem dX8_write_73 : decode cX8_write 73 = .ok (.iload 5, 2) := by decide +kernel
theorem dX8_write_75 : decode cX8_write 75 = .ok (.iload 4, 2) := by decide +kernel
theorem dX8_write_77 : decode cX8_write 77 = .ok (.invokestatic 47, 3) := by decide +kernel
theorem dX8_write_80 : decode cX8_write 80 = .ok (.aload_n 0, 1) := by decide +kernel
theorem dX8_write_81 : decode cX8_write 81 = .ok (.getfield 15, 3) := by decide +kernel
theorem dX8_write_84 : decode cX8_write 84 = .ok (.iload 5, 2) := by decide +kernel
theorem dX8_write_86 : decode cX8_write 86 = .ok (.iload_n 3, 1) := by decide +kernel
theorem dX8_write_87 : decode cX8_write 87 = .ok (.invokestatic 47, 3) := by decide +kernel
theorem dX8_write_90 : decode cX8_write 90 = .ok (.iconst 1, 1) := by decide +kernel
theorem dX8_write_91 : decode cX8_write 91 = .ok (.ireturn, 1) := by decide +kernel
set_option maxRecDepth 20000 in
theorem dX8_drop_0 : decode cX8_drop 0 = .ok (.iload_n 1, 1) := by decide +kernel
theorem dX8_drop_1 : decode cX8_drop 1 = .ok (.ifCond .lt 11, 3) := by decide +kernel
theorem dX8_drop_4 : decode cX8_drop 4 = .ok (.iload_n 1, 1) := by decide +kernel
theorem dX8_drop_5 : decode cX8_drop 5 = .ok (.aload_n 0, 1) := by decide +kernel
theorem dX8_drop_6 : decode cX8_drop 6 = .ok (.getfield 18, 3) := by decide +kernel
theorem dX8_drop_9 : decode cX8_drop 9 = .ok (.if_icmp .lt 4, 3) := by decide +kernel
theorem dX8_drop_12 : decode cX8_drop 12 = .ok (.return_, 1) := by decide +kernel
theorem dX8_drop_13 : decode cX8_drop 13 = .ok (.aload_n 0, 1) := by decide +kernel
theorem dX8_drop_14 : decode cX8_drop 14 = .ok (.dup, 1) := by decide +kernel
theorem dX8_drop_15 : decode cX8_drop 15 = .ok (.getfield 18, 3) := by decide +kernel
theorem dX8_drop_18 : decode cX8_drop 18 = .ok (.iconst 1, 1) := by decide +kernel
theorem dX8_drop_19 : decode cX8_drop 19 = .ok (.isub, 1) := by decide +kernel
theorem dX8_drop_20 : decode cX8_drop 20 = .ok (.putfield 18, 3) := by decide +kernel
theorem dX8_drop_23 : decode cX8_drop 23 = .ok (.aload_n 0, 1) := by decide +kernel
theorem dX8_drop_24 : decode cX8_drop 24 = .ok (.getfield 11, 3) := by decide +kernel
theorem dX8_drop_27 : decode cX8_drop 27 = .ok (.iload_n 1, 1) := by decide +kernel
theorem dX8_drop_28 : decode cX8_drop 28 = .ok (.aload_n 0, 1) := by decide +kernel
theorem dX8_drop_29 : decode cX8_drop 29 = .ok (.getfield 11, 3) := by decide +kernel
theorem dX8_drop_32 : decode cX8_drop 32 = .ok (.aload_n 0, 1) := by decide +kernel
theorem dX8_drop_33 : decode cX8_drop 33 = .ok (.getfield 18, 3) := by decide +kernel
theorem dX8_drop_36 : decode cX8_drop 36 = .ok (.invokestatic 39, 3) := by decide +kernel
theorem dX8_drop_39 : decode cX8_drop 39 = .ok (.invokestatic 47, 3) := by decide +kernel
theorem dX8_drop_42 : decode cX8_drop 42 = .ok (.aload_n 0, 1) := by decide +kernel
theorem dX8_drop_43 : decode cX8_drop 43 = .ok (.getfield 15, 3) := by decide +kernel
theorem dX8_drop_46 : decode cX8_drop 46 = .ok (.iload_n 1, 1) := by decide +kernel
theorem dX8_drop_47 : decode cX8_drop 47 = .ok (.aload_n 0, 1) := by decide +kernel
theorem dX8_drop_48 : decode cX8_drop 48 = .ok (.getfield 15, 3) := by decide +kernel
theorem dX8_drop_51 : decode cX8_drop 51 = .ok (.aload_n 0, 1) := by decide +kernel
theorem dX8_drop_52 : decode cX8_drop 52 = .ok (.getfield 18, 3) := by decide +kernel
theorem dX8_drop_55 : decode cX8_drop 55 = .ok (.invokestatic 39, 3) := by decide +kernel
theorem dX8_drop_58 : decode cX8_drop 58 = .ok (.invokestatic 47, 3) := by decide +kernel
theorem dX8_drop_61 : decode cX8_drop 61 = .ok (.return_, 1) := by decide +kernel
theorem dX8_copyFrom_0 : decode cX8_copyFrom 0 = .ok (.aload_n 1, 1) := by decide +kernel
theorem dX8_copyFrom_1 : decode cX8_copyFrom 1 = .ok (.getfield 11, 3) := by decide +kernel
theorem dX8_copyFrom_4 : decode cX8_copyFrom 4 = .ok (.iconst 0, 1) := by decide +kernel
theorem dX8_copyFrom_5 : decode cX8_copyFrom 5 = .ok (.aload_n 0, 1) := by decide +kernel
theorem dX8_copyFrom_6 : decode cX8_copyFrom 6 = .ok (.getfield 11, 3) := by decide +kernel
theorem dX8_copyFrom_9 : decode cX8_copyFrom 9 = .ok (.iconst 0, 1) := by decide +kernel
theorem dX8_copyFrom_10 : decode cX8_copyFrom 10 = .ok (.bipush 40, 2) := by decide +kernel
theorem dX8_copyFrom_12 : decode cX8_copyFrom 12 = .ok (.invokestatic 51, 3) := by decide +kernel
theorem dX8_copyFrom_15 : decode cX8_copyFrom 15 = .ok (.aload_n 1, 1) := by decide +kernel
theorem dX8_copyFrom_16 : decode cX8_copyFrom 16 = .ok (.getfield 15, 3) := by decide +kernel
theorem dX8_copyFrom_19 : decode cX8_copyFrom 19 = .ok (.iconst 0, 1) := by decide +kernel
theorem dX8_copyFrom_20 : decode cX8_copyFrom 20 = .ok (.aload_n 0, 1) := by decide +kernel
theorem dX8_copyFrom_21 : decode cX8_copyFrom 21 = .ok (.getfield 15, 3) := by decide +kernel
theorem dX8_copyFrom_24 : decode cX8_copyFrom 24 = .ok (.iconst 0, 1) := by decide +kernel
theorem dX8_copyFrom_25 : decode cX8_copyFrom 25 = .ok (.bipush 40, 2) := by decide +kernel
theorem dX8_copyFrom_27 : decode cX8_copyFrom 27 = .ok (.invokestatic 51, 3) := by decide +kernel
theorem dX8_copyFrom_30 : decode cX8_copyFrom 30 = .ok (.aload_n 0, 1) := by decide +kernel
theorem dX8_copyFrom_31 : decode cX8_copyFrom 31 = .ok (.aload_n 1, 1) := by decide +kernel
theorem dX8_copyFrom_32 : decode cX8_copyFrom 32 = .ok (.getfield 18, 3) := by decide +kernel
theorem dX8_copyFrom_35 : decode cX8_copyFrom 35 = .ok (.putfield 18, 3) := by decide +kernel
theorem dX8_copyFrom_38 : decode cX8_copyFrom 38 = .ok (.return_, 1) := by decide +kernel
theorem dX8_pitOf_0 : decode cX8_pitOf 0 = .ok (.iconst 3, 1) := by decide +kernel
theorem dX8_pitOf_1 : decode cX8_pitOf 1 = .ok (.iload_n 0, 1) := by decide +kernel
theorem dX8_pitOf_2 : decode cX8_pitOf 2 = .ok (.iconst 4, 1) := by decide +kernel
theorem dX8_pitOf_3 : decode cX8_pitOf 3 = .ok (.idiv, 1) := by decide +kernel
theorem dX8_pitOf_4 : decode cX8_pitOf 4 = .ok (.iadd, 1) := by decide +kernel
theorem dX8_pitOf_5 : decode cX8_pitOf 5 = .ok (.ireturn, 1) := by decide +kernel
theorem dX8_flatOf_0 : decode cX8_flatOf 0 = .ok (.iconst 3, 1) := by decide +kernel
theorem dX8_flatOf_1 : decode cX8_flatOf 1 = .ok (.iload_n 0, 1) := by decide +kernel
theorem dX8_flatOf_2 : decode cX8_flatOf 2 = .ok (.iconst 4, 1) := by decide +kernel
theorem dX8_flatOf_3 : decode cX8_flatOf 3 = .ok (.irem, 1) := by decide +kernel
theorem dX8_flatOf_4 : decode cX8_flatOf 4 = .ok (.iadd, 1) := by decide +kernel
theorem dX8_flatOf_5 : decode cX8_flatOf 5 = .ok (.ireturn, 1) := by decide +kernel
set_option maxRecDepth 20000 in
theorem dX8_lengthOf_0 : decode cX8_lengthOf 0 = .ok (.iconst 0, 1) := by decide +kernel
theorem dX8_lengthOf_1 : decode cX8_lengthOf 1 = .ok (.istore_n 2, 1) := by decide +kernel
theorem dX8_lengthOf_2 : decode cX8_lengthOf 2 = .ok (.iconst 0, 1) := by decide +kernel
theorem dX8_lengthOf_3 : decode cX8_lengthOf 3 = .ok (.istore_n 3, 1) := by decide +kernel
theorem dX8_lengthOf_4 : decode cX8_lengthOf 4 = .ok (.iload_n 3, 1) := by decide +kernel
theorem dX8_lengthOf_5 : decode cX8_lengthOf 5 = .ok (.iconst 4, 1) := by decide +kernel
theorem dX8_lengthOf_6 : decode cX8_lengthOf 6 = .ok (.if_icmp .ge 31, 3) := by decide +kernel
theorem dX8_lengthOf_9 : decode cX8_lengthOf 9 = .ok (.aload_n 0, 1) := by decide +kernel
theorem dX8_lengthOf_10 : decode cX8_lengthOf 10 = .ok (.iload_n 1, 1) := by decide +kernel
theorem dX8_lengthOf_11 : decode cX8_lengthOf 11 = .ok (.iload_n 3, 1) := by decide +kernel
theorem dX8_lengthOf_12 : decode cX8_lengthOf 12 = .ok (.invokevirtual 57, 3) := by decide +kernel
theorem dX8_lengthOf_15 : decode cX8_lengthOf 15 = .ok (.istore 4, 2) := by decide +kernel
theorem dX8_lengthOf_17 : decode cX8_lengthOf 17 = .ok (.iload_n 2, 1) := by decide +kernel
theorem dX8_lengthOf_18 : decode cX8_lengthOf 18 = .ok (.iload 4, 2) := by decide +kernel
theorem dX8_lengthOf_20 : decode cX8_lengthOf 20 = .ok (.invokestatic 60, 3) := by decide +kernel
theorem dX8_lengthOf_23 : decode cX8_lengthOf 23 = .ok (.iload 4, 2) := by decide +kernel
theorem dX8_lengthOf_25 : decode cX8_lengthOf 25 = .ok (.invokestatic 63, 3) := by decide +kernel
theorem dX8_lengthOf_28 : decode cX8_lengthOf 28 = .ok (.iadd, 1) := by decide +kernel
theorem dX8_lengthOf_29 : decode cX8_lengthOf 29 = .ok (.iadd, 1) := by decide +kernel
theorem dX8_lengthOf_30 : decode cX8_lengthOf 30 = .ok (.istore_n 2, 1) := by decide +kernel
theorem dX8_lengthOf_31 : decode cX8_lengthOf 31 = .ok (.iinc 3 1, 3) := by decide +kernel
theorem dX8_lengthOf_34 : decode cX8_lengthOf 34 = .ok (.goto (-30), 3) := by decide +kernel
theorem dX8_lengthOf_37 : decode cX8_lengthOf 37 = .ok (.iload_n 2, 1) := by decide +kernel
theorem dX8_lengthOf_38 : decode cX8_lengthOf 38 = .ok (.ireturn, 1) := by decide +kernel
set_option maxRecDepth 20000 in
theorem dX8_lengthOfAll_0 : decode cX8_lengthOfAll 0 = .ok (.iconst 0, 1) := by decide +kernel
theorem dX8_lengthOfAll_1 : decode cX8_lengthOfAll 1 = .ok (.istore_n 3, 1) := by decide +kernel
theorem dX8_lengthOfAll_2 : decode cX8_lengthOfAll 2 = .ok (.iload_n 1, 1) := by decide +kernel
theorem dX8_lengthOfAll_3 : decode cX8_lengthOfAll 3 = .ok (.istore 4, 2) := by decide +kernel
theorem dX8_lengthOfAll_5 : decode cX8_lengthOfAll 5 = .ok (.iload 4, 2) := by decide +kernel
theorem dX8_lengthOfAll_7 : decode cX8_lengthOfAll 7 = .ok (.iload_n 2, 1) := by decide +kernel
theorem dX8_lengthOfAll_8 : decode cX8_lengthOfAll 8 = .ok (.if_icmp .ge 18, 3) := by decide +kernel
theorem dX8_lengthOfAll_11 : decode cX8_lengthOfAll 11 = .ok (.iload_n 3, 1) := by decide +kernel
theorem dX8_lengthOfAll_12 : decode cX8_lengthOfAll 12 = .ok (.aload_n 0, 1) := by decide +kernel
theorem dX8_lengthOfAll_13 : decode cX8_lengthOfAll 13 = .ok (.iload 4, 2) := by decide +kernel
theorem dX8_lengthOfAll_15 : decode cX8_lengthOfAll 15 = .ok (.invokevirtual 66, 3) := by decide +kernel
theorem dX8_lengthOfAll_18 : decode cX8_lengthOfAll 18 = .ok (.iadd, 1) := by decide +kernel
theorem dX8_lengthOfAll_19 : decode cX8_lengthOfAll 19 = .ok (.istore_n 3, 1) := by decide +kernel
theorem dX8_lengthOfAll_20 : decode cX8_lengthOfAll 20 = .ok (.iinc 4 1, 3) := by decide +kernel
theorem dX8_lengthOfAll_23 : decode cX8_lengthOfAll 23 = .ok (.goto (-18), 3) := by decide +kernel
theorem dX8_lengthOfAll_26 : decode cX8_lengthOfAll 26 = .ok (.iload_n 3, 1) := by decide +kernel
theorem dX8_lengthOfAll_27 : decode cX8_lengthOfAll 27 = .ok (.ireturn, 1) := by decide +kernel
set_option maxRecDepth 20000 in
theorem dX8_balanceOf_0 : decode cX8_balanceOf 0 = .ok (.iconst 0, 1) := by decide +kernel
theorem dX8_balanceOf_1 : decode cX8_balanceOf 1 = .ok (.istore_n 2, 1) := by decide +kernel
theorem dX8_balanceOf_2 : decode cX8_balanceOf 2 = .ok (.iconst 0, 1) := by decide +kernel
theorem dX8_balanceOf_3 : decode cX8_balanceOf 3 = .ok (.istore_n 3, 1) := by decide +kernel
theorem dX8_balanceOf_4 : decode cX8_balanceOf 4 = .ok (.iload_n 3, 1) := by decide +kernel
theorem dX8_balanceOf_5 : decode cX8_balanceOf 5 = .ok (.iconst 4, 1) := by decide +kernel
theorem dX8_balanceOf_6 : decode cX8_balanceOf 6 = .ok (.if_icmp .ge 31, 3) := by decide +kernel
theorem dX8_balanceOf_9 : decode cX8_balanceOf 9 = .ok (.aload_n 0, 1) := by decide +kernel
theorem dX8_balanceOf_10 : decode cX8_balanceOf 10 = .ok (.iload_n 1, 1) := by decide +kernel
theorem dX8_balanceOf_11 : decode cX8_balanceOf 11 = .ok (.iload_n 3, 1) := by decide +kernel
theorem dX8_balanceOf_12 : decode cX8_balanceOf 12 = .ok (.invokevirtual 57, 3) := by decide +kernel
theorem dX8_balanceOf_15 : decode cX8_balanceOf 15 = .ok (.istore 4, 2) := by decide +kernel
theorem dX8_balanceOf_17 : decode cX8_balanceOf 17 = .ok (.iload_n 2, 1) := by decide +kernel
theorem dX8_balanceOf_18 : decode cX8_balanceOf 18 = .ok (.iload 4, 2) := by decide +kernel
theorem dX8_balanceOf_20 : decode cX8_balanceOf 20 = .ok (.invokestatic 60, 3) := by decide +kernel
theorem dX8_balanceOf_23 : decode cX8_balanceOf 23 = .ok (.iload 4, 2) := by decide +kernel
theorem dX8_balanceOf_25 : decode cX8_balanceOf 25 = .ok (.invokestatic 63, 3) := by decide +kernel
theorem dX8_balanceOf_28 : decode cX8_balanceOf 28 = .ok (.isub, 1) := by decide +kernel
theorem dX8_balanceOf_29 : decode cX8_balanceOf 29 = .ok (.iadd, 1) := by decide +kernel
theorem dX8_balanceOf_30 : decode cX8_balanceOf 30 = .ok (.istore_n 2, 1) := by decide +kernel
theorem dX8_balanceOf_31 : decode cX8_balanceOf 31 = .ok (.iinc 3 1, 3) := by decide +kernel
theorem dX8_balanceOf_34 : decode cX8_balanceOf 34 = .ok (.goto (-30), 3) := by decide +kernel
theorem dX8_balanceOf_37 : decode cX8_balanceOf 37 = .ok (.iload_n 2, 1) := by decide +kernel
theorem dX8_balanceOf_38 : decode cX8_balanceOf 38 = .ok (.ireturn, 1) := by decide +kernel
set_option maxRecDepth 20000 in
theorem dX8_longestRunOf_0 : decode cX8_longestRunOf 0 = .ok (.iconst 0, 1) := by decide +kernel
theorem dX8_longestRunOf_1 : decode cX8_longestRunOf 1 = .ok (.istore_n 2, 1) := by decide +kernel
theorem dX8_longestRunOf_2 : decode cX8_longestRunOf 2 = .ok (.iconst 0, 1) := by decide +kernel
theorem dX8_longestRunOf_3 : decode cX8_longestRunOf 3 = .ok (.istore_n 3, 1) := by decide +kernel
theorem dX8_longestRunOf_4 : decode cX8_longestRunOf 4 = .ok (.iload_n 3, 1) := by decide +kernel
theorem dX8_longestRunOf_5 : decode cX8_longestRunOf 5 = .ok (.iconst 4, 1) := by decide +kernel
theorem dX8_longestRunOf_6 : decode cX8_longestRunOf 6 = .ok (.if_icmp .ge 35, 3) := by decide +kernel
theorem dX8_longestRunOf_9 : decode cX8_longestRunOf 9 = .ok (.aload_n 0, 1) := by decide +kernel
theorem dX8_longestRunOf_10 : decode cX8_longestRunOf 10 = .ok (.iload_n 1, 1) := by decide +kernel
theorem dX8_longestRunOf_11 : decode cX8_longestRunOf 11 = .ok (.iload_n 3, 1) := by decide +kernel
theorem dX8_longestRunOf_12 : decode cX8_longestRunOf 12 = .ok (.invokevirtual 57, 3) := by decide +kernel
theorem dX8_longestRunOf_15 : decode cX8_longestRunOf 15 = .ok (.istore 4, 2) := by decide +kernel
theorem dX8_longestRunOf_17 : decode cX8_longestRunOf 17 = .ok (.iload_n 2, 1) := by decide +kernel
theorem dX8_longestRunOf_18 : decode cX8_longestRunOf 18 = .ok (.iload 4, 2) := by decide +kernel
theorem dX8_longestRunOf_20 : decode cX8_longestRunOf 20 = .ok (.invokestatic 60, 3) := by decide +kernel
theorem dX8_longestRunOf_23 : decode cX8_longestRunOf 23 = .ok (.iload 4, 2) := by decide +kernel
theorem dX8_longestRunOf_25 : decode cX8_longestRunOf 25 = .ok (.invokestatic 63, 3) := by decide +kernel
theorem dX8_longestRunOf_28 : decode cX8_longestRunOf 28 = .ok (.invokestatic 69, 3) := by decide +kernel
theorem dX8_longestRunOf_31 : decode cX8_longestRunOf 31 = .ok (.invokestatic 69, 3) := by decide +kernel
theorem dX8_longestRunOf_34 : decode cX8_longestRunOf 34 = .ok (.istore_n 2, 1) := by decide +kernel
theorem dX8_longestRunOf_35 : decode cX8_longestRunOf 35 = .ok (.iinc 3 1, 3) := by decide +kernel
theorem dX8_longestRunOf_38 : decode cX8_longestRunOf 38 = .ok (.goto (-34), 3) := by decide +kernel
theorem dX8_longestRunOf_41 : decode cX8_longestRunOf 41 = .ok (.iload_n 2, 1) := by decide +kernel
theorem dX8_longestRunOf_42 : decode cX8_longestRunOf 42 = .ok (.ireturn, 1) := by decide +kernel
theorem dX9_isKind_0 : decode cX9_isKind 0 = .ok (.iload_n 0, 1) := by decide +kernel
theorem dX9_isKind_1 : decode cX9_isKind 1 = .ok (.bipush 65, 2) := by decide +kernel
theorem dX9_isKind_3 : decode cX9_isKind 3 = .ok (.if_icmp .lt 13, 3) := by decide +kernel
theorem dX9_isKind_6 : decode cX9_isKind 6 = .ok (.iload_n 0, 1) := by decide +kernel
theorem dX9_isKind_7 : decode cX9_isKind 7 = .ok (.bipush 90, 2) := by decide +kernel
theorem dX9_isKind_9 : decode cX9_isKind 9 = .ok (.if_icmp .gt 7, 3) := by decide +kernel
theorem dX9_isKind_12 : decode cX9_isKind 12 = .ok (.iconst 1, 1) := by decide +kernel
theorem dX9_isKind_13 : decode cX9_isKind 13 = .ok (.goto 4, 3) := by decide +kernel
theorem dX9_isKind_16 : decode cX9_isKind 16 = .ok (.iconst 0, 1) := by decide +kernel
theorem dX9_isKind_17 : decode cX9_isKind 17 = .ok (.ireturn, 1) := by decide +kernel
theorem dX9_lowest_0 : decode cX9_lowest 0 = .ok (.iload_n 0, 1) := by decide +kernel
theorem dX9_lowest_1 : decode cX9_lowest 1 = .ok (.bipush 78, 2) := by decide +kernel
theorem dX9_lowest_3 : decode cX9_lowest 3 = .ok (.if_icmp .ne 7, 3) := by decide +kernel
theorem dX9_lowest_6 : decode cX9_lowest 6 = .ok (.iconst 1, 1) := by decide +kernel
theorem dX9_lowest_7 : decode cX9_lowest 7 = .ok (.goto 4, 3) := by decide +kernel
theorem dX9_lowest_10 : decode cX9_lowest 10 = .ok (.iconst 0, 1) := by decide +kernel
theorem dX9_lowest_11 : decode cX9_lowest 11 = .ok (.ireturn, 1) := by decide +kernel
theorem dX9_highest_0 : decode cX9_highest 0 = .ok (.iload_n 0, 1) := by decide +kernel
theorem dX9_highest_1 : decode cX9_highest 1 = .ok (.tableswitch 115 65 84 #[95, 115, 115, 102, 115, 105, 115, 115, 115, 115, 115, 115, 115, 109, 115, 113, 115, 115, 115, 99], 95) := by decide +kernel
theorem dX9_highest_96 : decode cX9_highest 96 = .ok (.sipush 359, 3) := by decide +kernel
theorem dX9_highest_99 : decode cX9_highest 99 = .ok (.ireturn, 1) := by decide +kernel
theorem dX9_highest_100 : decode cX9_highest 100 = .ok (.bipush 29, 2) := by decide +kernel
theorem dX9_highest_102 : decode cX9_highest 102 = .ok (.ireturn, 1) := by decide +kernel
theorem dX9_highest_103 : decode cX9_highest 103 = .ok (.bipush 9, 2) := by decide +kernel
theorem dX9_highest_105 : decode cX9_highest 105 = .ok (.ireturn, 1) := by decide +kernel
theorem dX9_highest_106 : decode cX9_highest 106 = .ok (.sipush 9999, 3) := by decide +kernel
theorem dX9_highest_109 : decode cX9_highest 109 = .ok (.ireturn, 1) := by decide +kernel
theorem dX9_highest_110 : decode cX9_highest 110 = .ok (.sipush 999, 3) := by decide +kernel
theorem dX9_highest_113 : decode cX9_highest 113 = .ok (.ireturn, 1) := by decide +kernel
theorem dX9_highest_114 : decode cX9_highest 114 = .ok (.iconst 3, 1) := by decide +kernel
theorem dX9_highest_115 : decode cX9_highest 115 = .ok (.ireturn, 1) := by decide +kernel
theorem dX9_highest_116 : decode cX9_highest 116 = .ok (.bipush 15, 2) := by decide +kernel
theorem dX9_highest_118 : decode cX9_highest 118 = .ok (.ireturn, 1) := by decide +kernel
set_option maxRecDepth 20000 in
theorem dX10_init_0 : decode cX10_init 0 = .ok (.aload_n 0, 1) := by decide +kernel
theorem dX10_init_1 : decode cX10_init 1 = .ok (.invokespecial 1, 3) := by decide +kernel
theorem dX10_init_4 : decode cX10_init 4 = .ok (.aload_n 0, 1) := by decide +kernel
theorem dX10_init_5 : decode cX10_init 5 = .ok (.new 7, 3) := by decide +kernel
theorem dX10_init_8 : decode cX10_init 8 = .ok (.dup, 1) := by decide +kernel
theorem dX10_init_9 : decode cX10_init 9 = .ok (.invokespecial 9, 3) := by decide +kernel
theorem dX10_init_12 : decode cX10_init 12 = .ok (.putfield 10, 3) := by decide +kernel
theorem dX10_init_15 : decode cX10_init 15 = .ok (.aload_n 0, 1) := by decide +kernel
theorem dX10_init_16 : decode cX10_init 16 = .ok (.new 7, 3) := by decide +kernel
theorem dX10_init_19 : decode cX10_init 19 = .ok (.dup, 1) := by decide +kernel
theorem dX10_init_20 : decode cX10_init 20 = .ok (.invokespecial 9, 3) := by decide +kernel
theorem dX10_init_23 : decode cX10_init 23 = .ok (.putfield 16, 3) := by decide +kernel
theorem dX10_init_26 : decode cX10_init 26 = .ok (.aload_n 0, 1) := by decide +kernel
theorem dX10_init_27 : decode cX10_init 27 = .ok (.new 7, 3) := by decide +kernel
theorem dX10_init_30 : decode cX10_init 30 = .ok (.dup, 1) := by decide +kernel
theorem dX10_init_31 : decode cX10_init 31 = .ok (.invokespecial 9, 3) := by decide +kernel
theorem dX10_init_34 : decode cX10_init 34 = .ok (.putfield 19, 3) := by decide +kernel
theorem dX10_init_37 : decode cX10_init 37 = .ok (.aload_n 0, 1) := by decide +kernel
theorem dX10_init_38 : decode cX10_init 38 = .ok (.iconst 0, 1) := by decide +kernel
theorem dX10_init_39 : decode cX10_init 39 = .ok (.putfield 22, 3) := by decide +kernel
theorem dX10_init_42 : decode cX10_init 42 = .ok (.aload_n 0, 1) := by decide +kernel
theorem dX10_init_43 : decode cX10_init 43 = .ok (.new 26, 3) := by decide +kernel
theorem dX10_init_46 : decode cX10_init 46 = .ok (.dup, 1) := by decide +kernel
theorem dX10_init_47 : decode cX10_init 47 = .ok (.invokespecial 28, 3) := by decide +kernel
theorem dX10_init_50 : decode cX10_init 50 = .ok (.putfield 29, 3) := by decide +kernel
theorem dX10_init_53 : decode cX10_init 53 = .ok (.aload_n 0, 1) := by decide +kernel
theorem dX10_init_54 : decode cX10_init 54 = .ok (.new 33, 3) := by decide +kernel
theorem dX10_init_57 : decode cX10_init 57 = .ok (.dup, 1) := by decide +kernel
theorem dX10_init_58 : decode cX10_init 58 = .ok (.invokespecial 35, 3) := by decide +kernel
theorem dX10_init_61 : decode cX10_init 61 = .ok (.putfield 36, 3) := by decide +kernel
theorem dX10_init_64 : decode cX10_init 64 = .ok (.aload_n 0, 1) := by decide +kernel
theorem dX10_init_65 : decode cX10_init 65 = .ok (.new 40, 3) := by decide +kernel
theorem dX10_init_68 : decode cX10_init 68 = .ok (.dup, 1) := by decide +kernel
theorem dX10_init_69 : decode cX10_init 69 = .ok (.invokespecial 42, 3) := by decide +kernel
theorem dX10_init_72 : decode cX10_init 72 = .ok (.putfield 43, 3) := by decide +kernel
theorem dX10_init_75 : decode cX10_init 75 = .ok (.aload_n 0, 1) := by decide +kernel
theorem dX10_init_76 : decode cX10_init 76 = .ok (.new 47, 3) := by decide +kernel
theorem dX10_init_79 : decode cX10_init 79 = .ok (.dup, 1) := by decide +kernel
theorem dX10_init_80 : decode cX10_init 80 = .ok (.invokespecial 49, 3) := by decide +kernel
theorem dX10_init_83 : decode cX10_init 83 = .ok (.putfield 50, 3) := by decide +kernel
theorem dX10_init_86 : decode cX10_init 86 = .ok (.return_, 1) := by decide +kernel
set_option maxRecDepth 20000 in
theorem dX10_press_0 : decode cX10_press 0 = .ok (.aload_n 0, 1) := by decide +kernel
theorem dX10_press_1 : decode cX10_press 1 = .ok (.getfield 16, 3) := by decide +kernel
theorem dX10_press_4 : decode cX10_press 4 = .ok (.aload_n 0, 1) := by decide +kernel
theorem dX10_press_5 : decode cX10_press 5 = .ok (.getfield 10, 3) := by decide +kernel
theorem dX10_press_8 : decode cX10_press 8 = .ok (.invokevirtual 54, 3) := by decide +kernel
theorem dX10_press_11 : decode cX10_press 11 = .ok (.aload_n 0, 1) := by decide +kernel
theorem dX10_press_12 : decode cX10_press 12 = .ok (.aload_n 0, 1) := by decide +kernel
theorem dX10_press_13 : decode cX10_press 13 = .ok (.iload_n 1, 1) := by decide +kernel
theorem dX10_press_14 : decode cX10_press 14 = .ok (.iload_n 2, 1) := by decide +kernel
theorem dX10_press_15 : decode cX10_press 15 = .ok (.iload_n 3, 1) := by decide +kernel
theorem dX10_press_16 : decode cX10_press 16 = .ok (.invokevirtual 58, 3) := by decide +kernel
theorem dX10_press_19 : decode cX10_press 19 = .ok (.invokevirtual 62, 3) := by decide +kernel
theorem dX10_press_22 : decode cX10_press 22 = .ok (.ireturn, 1) := by decide +kernel
set_option maxRecDepth 20000 in
theorem dX10_scratch_0 : decode cX10_scratch 0 = .ok (.aload_n 0, 1) := by decide +kernel
theorem dX10_scratch_1 : decode cX10_scratch 1 = .ok (.getfield 16, 3) := by decide +kernel
theorem dX10_scratch_4 : decode cX10_scratch 4 = .ok (.aload_n 0, 1) := by decide +kernel
theorem dX10_scratch_5 : decode cX10_scratch 5 = .ok (.getfield 10, 3) := by decide +kernel
theorem dX10_scratch_8 : decode cX10_scratch 8 = .ok (.invokevirtual 54, 3) := by decide +kernel
theorem dX10_scratch_11 : decode cX10_scratch 11 = .ok (.aload_n 0, 1) := by decide +kernel
theorem dX10_scratch_12 : decode cX10_scratch 12 = .ok (.aload_n 0, 1) := by decide +kernel
theorem dX10_scratch_13 : decode cX10_scratch 13 = .ok (.iload_n 1, 1) := by decide +kernel
theorem dX10_scratch_14 : decode cX10_scratch 14 = .ok (.iload_n 2, 1) := by decide +kernel
theorem dX10_scratch_15 : decode cX10_scratch 15 = .ok (.iload_n 3, 1) := by decide +kernel
theorem dX10_scratch_16 : decode cX10_scratch 16 = .ok (.iload 4, 2) := by decide +kernel
theorem dX10_scratch_18 : decode cX10_scratch 18 = .ok (.invokevirtual 66, 3) := by decide +kernel
theorem dX10_scratch_21 : decode cX10_scratch 21 = .ok (.invokevirtual 62, 3) := by decide +kernel
theorem dX10_scratch_24 : decode cX10_scratch 24 = .ok (.ireturn, 1) := by decide +kernel
set_option maxRecDepth 20000 in
theorem dX10_polish_0 : decode cX10_polish 0 = .ok (.aload_n 0, 1) := by decide +kernel
theorem dX10_polish_1 : decode cX10_polish 1 = .ok (.getfield 16, 3) := by decide +kernel
theorem dX10_polish_4 : decode cX10_polish 4 = .ok (.aload_n 0, 1) := by decide +kernel
theorem dX10_polish_5 : decode cX10_polish 5 = .ok (.getfield 10, 3) := by decide +kernel
theorem dX10_polish_8 : decode cX10_polish 8 = .ok (.invokevirtual 54, 3) := by decide +kernel
theorem dX10_polish_11 : decode cX10_polish 11 = .ok (.aload_n 0, 1) := by decide +kernel
theorem dX10_polish_12 : decode cX10_polish 12 = .ok (.aload_n 0, 1) := by decide +kernel
theorem dX10_polish_13 : decode cX10_polish 13 = .ok (.iload_n 1, 1) := by decide +kernel
theorem dX10_polish_14 : decode cX10_polish 14 = .ok (.invokevirtual 70, 3) := by decide +kernel
theorem dX10_polish_17 : decode cX10_polish 17 = .ok (.invokevirtual 62, 3) := by decide +kernel
theorem dX10_polish_20 : decode cX10_polish 20 = .ok (.ireturn, 1) := by decide +kernel
set_option maxRecDepth 20000 in
theorem dX10_set_0 : decode cX10_set 0 = .ok (.iload_n 1, 1) := by decide +kernel
theorem dX10_set_1 : decode cX10_set 1 = .ok (.iload_n 2, 1) := by decide +kernel
theorem dX10_set_2 : decode cX10_set 2 = .ok (.invokestatic 73, 3) := by decide +kernel
theorem dX10_set_5 : decode cX10_set 5 = .ok (.ifCond .ne 6, 3) := by decide +kernel
theorem dX10_set_8 : decode cX10_set 8 = .ok (.bipush (-2), 2) := by decide +kernel
theorem dX10_set_10 : decode cX10_set 10 = .ok (.ireturn, 1) := by decide +kernel
theorem dX10_set_11 : decode cX10_set 11 = .ok (.aload_n 0, 1) := by decide +kernel
theorem dX10_set_12 : decode cX10_set 12 = .ok (.getfield 10, 3) := by decide +kernel
theorem dX10_set_15 : decode cX10_set 15 = .ok (.getfield 79, 3) := by decide +kernel
theorem dX10_set_18 : decode cX10_set 18 = .ok (.iload_n 1, 1) := by decide +kernel
theorem dX10_set_19 : decode cX10_set 19 = .ok (.invokevirtual 83, 3) := by decide +kernel
theorem dX10_set_22 : decode cX10_set 22 = .ok (.istore_n 3, 1) := by decide +kernel
theorem dX10_set_23 : decode cX10_set 23 = .ok (.iload_n 3, 1) := by decide +kernel
theorem dX10_set_24 : decode cX10_set 24 = .ok (.iload_n 2, 1) := by decide +kernel
theorem dX10_set_25 : decode cX10_set 25 = .ok (.if_icmp .ne 6, 3) := by decide +kernel
theorem dX10_set_28 : decode cX10_set 28 = .ok (.bipush (-5), 2) := by decide +kernel
theorem dX10_set_30 : decode cX10_set 30 = .ok (.ireturn, 1) := by decide +kernel
theorem dX10_set_31 : decode cX10_set 31 = .ok (.aload_n 0, 1) := by decide +kernel
theorem dX10_set_32 : decode cX10_set 32 = .ok (.getfield 16, 3) := by decide +kernel
theorem dX10_set_35 : decode cX10_set 35 = .ok (.aload_n 0, 1) := by decide +kernel
theorem dX10_set_36 : decode cX10_set 36 = .ok (.getfield 10, 3) := by decide +kernel
theorem dX10_set_39 : decode cX10_set 39 = .ok (.invokevirtual 54, 3) := by decide +kernel
theorem dX10_set_42 : decode cX10_set 42 = .ok (.aload_n 0, 1) := by decide +kernel
theorem dX10_set_43 : decode cX10_set 43 = .ok (.getfield 10, 3) := by decide +kernel
theorem dX10_set_46 : decode cX10_set 46 = .ok (.getfield 79, 3) := by decide +kernel
theorem dX10_set_49 : decode cX10_set 49 = .ok (.iload_n 1, 1) := by decide +kernel
theorem dX10_set_50 : decode cX10_set 50 = .ok (.iload_n 2, 1) := by decide +kernel
theorem dX10_set_51 : decode cX10_set 51 = .ok (.invokevirtual 86, 3) := by decide +kernel
theorem dX10_set_54 : decode cX10_set 54 = .ok (.iload_n 1, 1) := by decide +kernel
theorem dX10_set_55 : decode cX10_set 55 = .ok (.iconst 1, 1) := by decide +kernel
theorem dX10_set_56 : decode cX10_set 56 = .ok (.if_icmp .gt 20, 3) := by decide +kernel
theorem dX10_set_59 : decode cX10_set 59 = .ok (.aload_n 0, 1) := by decide +kernel
theorem dX10_set_60 : decode cX10_set 60 = .ok (.getfield 10, 3) := by decide +kernel
theorem dX10_set_63 : decode cX10_set 63 = .ok (.getfield 90, 3) := by decide +kernel
theorem dX10_set_66 : decode cX10_set 66 = .ok (.aload_n 0, 1) := by decide +kernel
theorem dX10_set_67 : decode cX10_set 67 = .ok (.getfield 10, 3) := by decide +kernel
theorem dX10_set_70 : decode cX10_set 70 = .ok (.getfield 79, 3) := by decide +kernel
theorem dX10_set_73 : decode cX10_set 73 = .ok (.invokevirtual 93, 3) := by decide +kernel
theorem dX10_set_76 : decode cX10_set 76 = .ok (.aload_n 0, 1) := by decide +kernel
theorem dX10_set_77 : decode cX10_set 77 = .ok (.iload_n 3, 1) := by decide +kernel
theorem dX10_set_78 : decode cX10_set 78 = .ok (.invokevirtual 62, 3) := by decide +kernel
theorem dX10_set_81 : decode cX10_set 81 = .ok (.ireturn, 1) := by decide +kernel
set_option maxRecDepth 20000 in
theorem dX10_play_0 : decode cX10_play 0 = .ok (.aload_n 0, 1) := by decide +kernel
theorem dX10_play_1 : decode cX10_play 1 = .ok (.getfield 16, 3) := by decide +kernel
theorem dX10_play_4 : decode cX10_play 4 = .ok (.aload_n 0, 1) := by decide +kernel
theorem dX10_play_5 : decode cX10_play 5 = .ok (.getfield 10, 3) := by decide +kernel
theorem dX10_play_8 : decode cX10_play 8 = .ok (.invokevirtual 54, 3) := by decide +kernel
theorem dX10_play_11 : decode cX10_play 11 = .ok (.aload_n 0, 1) := by decide +kernel
theorem dX10_play_12 : decode cX10_play 12 = .ok (.aload_n 0, 1) := by decide +kernel
theorem dX10_play_13 : decode cX10_play 13 = .ok (.iload_n 1, 1) := by decide +kernel
theorem dX10_play_14 : decode cX10_play 14 = .ok (.invokevirtual 97, 3) := by decide +kernel
theorem dX10_play_17 : decode cX10_play 17 = .ok (.invokevirtual 62, 3) := by decide +kernel
theorem dX10_play_20 : decode cX10_play 20 = .ok (.ireturn, 1) := by decide +kernel
set_option maxRecDepth 20000 in
theorem dX10_seek_0 : decode cX10_seek 0 = .ok (.aload_n 0, 1) := by decide +kernel
theorem dX10_seek_1 : decode cX10_seek 1 = .ok (.getfield 16, 3) := by decide +kernel
theorem dX10_seek_4 : decode cX10_seek 4 = .ok (.aload_n 0, 1) := by decide +kernel
theorem dX10_seek_5 : decode cX10_seek 5 = .ok (.getfield 10, 3) := by decide +kernel
theorem dX10_seek_8 : decode cX10_seek 8 = .ok (.invokevirtual 54, 3) := by decide +kernel
theorem dX10_seek_11 : decode cX10_seek 11 = .ok (.aload_n 0, 1) := by decide +kernel
theorem dX10_seek_12 : decode cX10_seek 12 = .ok (.aload_n 0, 1) := by decide +kernel
theorem dX10_seek_13 : decode cX10_seek 13 = .ok (.iload_n 1, 1) := by decide +kernel
theorem dX10_seek_14 : decode cX10_seek 14 = .ok (.invokevirtual 100, 3) := by decide +kernel
theorem dX10_seek_17 : decode cX10_seek 17 = .ok (.invokevirtual 62, 3) := by decide +kernel
theorem dX10_seek_20 : decode cX10_seek 20 = .ok (.ireturn, 1) := by decide +kernel
set_option maxRecDepth 20000 in
theorem dX10_type_0 : decode cX10_type 0 = .ok (.aload_n 0, 1) := by decide +kernel
theorem dX10_type_1 : decode cX10_type 1 = .ok (.getfield 36, 3) := by decide +kernel
theorem dX10_type_4 : decode cX10_type 4 = .ok (.iload_n 1, 1) := by decide +kernel
theorem dX10_type_5 : decode cX10_type 5 = .ok (.invokevirtual 103, 3) := by decide +kernel
theorem dX10_type_8 : decode cX10_type 8 = .ok (.ifCond .eq 13, 3) := by decide +kernel
theorem dX10_type_11 : decode cX10_type 11 = .ok (.aload_n 0, 1) := by decide +kernel
theorem dX10_type_12 : decode cX10_type 12 = .ok (.getfield 36, 3) := by decide +kernel
theorem dX10_type_15 : decode cX10_type 15 = .ok (.getfield 107, 3) := by decide +kernel
theorem dX10_type_18 : decode cX10_type 18 = .ok (.goto 5, 3) := by decide +kernel
theorem dX10_type_21 : decode cX10_type 21 = .ok (.bipush (-3), 2) := by decide +kernel
theorem dX10_type_23 : decode cX10_type 23 = .ok (.ireturn, 1) := by decide +kernel
set_option maxRecDepth 20000 in
theorem dX10_clearText_0 : decode cX10_clearText 0 = .ok (.aload_n 0, 1) := by decide +kernel
theorem dX10_clearText_1 : decode cX10_clearText 1 = .ok (.getfield 36, 3) := by decide +kernel
theorem dX10_clearText_4 : decode cX10_clearText 4 = .ok (.invokevirtual 111, 3) := by decide +kernel
theorem dX10_clearText_7 : decode cX10_clearText 7 = .ok (.ireturn, 1) := by decide +kernel
set_option maxRecDepth 20000 in
theorem dX10_fault_0 : decode cX10_fault 0 = .ok (.aload_n 0, 1) := by decide +kernel
theorem dX10_fault_1 : decode cX10_fault 1 = .ok (.getfield 36, 3) := by decide +kernel
theorem dX10_fault_4 : decode cX10_fault 4 = .ok (.invokevirtual 115, 3) := by decide +kernel
theorem dX10_fault_7 : decode cX10_fault 7 = .ok (.ireturn, 1) := by decide +kernel
set_option maxRecDepth 20000 in
theorem dX10_doAll_0 : decode cX10_doAll 0 = .ok (.aload_n 0, 1) := by decide +kernel
theorem dX10_doAll_1 : decode cX10_doAll 1 = .ok (.getfield 36, 3) := by decide +kernel
theorem dX10_doAll_4 : decode cX10_doAll 4 = .ok (.invokevirtual 115, 3) := by decide +kernel
theorem dX10_doAll_7 : decode cX10_doAll 7 = .ok (.istore_n 1, 1) := by decide +kernel
theorem dX10_doAll_8 : decode cX10_doAll 8 = .ok (.iload_n 1, 1) := by decide +kernel
theorem dX10_doAll_9 : decode cX10_doAll 9 = .ok (.bipush (-5), 2) := by decide +kernel
theorem dX10_doAll_11 : decode cX10_doAll 11 = .ok (.if_icmp .eq 8, 3) := by decide +kernel
theorem dX10_doAll_14 : decode cX10_doAll 14 = .ok (.bipush (-100), 2) := by decide +kernel
theorem dX10_doAll_16 : decode cX10_doAll 16 = .ok (.iload_n 1, 1) := by decide +kernel
theorem dX10_doAll_17 : decode cX10_doAll 17 = .ok (.isub, 1) := by decide +kernel
theorem dX10_doAll_18 : decode cX10_doAll 18 = .ok (.ireturn, 1) := by decide +kernel
theorem dX10_doAll_19 : decode cX10_doAll 19 = .ok (.aload_n 0, 1) := by decide +kernel
theorem dX10_doAll_20 : decode cX10_doAll 20 = .ok (.getfield 16, 3) := by decide +kernel
theorem dX10_doAll_23 : decode cX10_doAll 23 = .ok (.aload_n 0, 1) := by decide +kernel
theorem dX10_doAll_24 : decode cX10_doAll 24 = .ok (.getfield 10, 3) := by decide +kernel
theorem dX10_doAll_27 : decode cX10_doAll 27 = .ok (.invokevirtual 54, 3) := by decide +kernel
theorem dX10_doAll_30 : decode cX10_doAll 30 = .ok (.iconst 0, 1) := by decide +kernel
theorem dX10_doAll_31 : decode cX10_doAll 31 = .ok (.istore_n 2, 1) := by decide +kernel
theorem dX10_doAll_32 : decode cX10_doAll 32 = .ok (.iload_n 2, 1) := by decide +kernel
theorem dX10_doAll_33 : decode cX10_doAll 33 = .ok (.aload_n 0, 1) := by decide +kernel
theorem dX10_doAll_34 : decode cX10_doAll 34 = .ok (.getfield 36, 3) := by decide +kernel
theorem dX10_doAll_37 : decode cX10_doAll 37 = .ok (.getfield 118, 3) := by decide +kernel
theorem dX10_doAll_40 : decode cX10_doAll 40 = .ok (.if_icmp .ge 38, 3) := by decide +kernel
theorem dX10_doAll_43 : decode cX10_doAll 43 = .ok (.aload_n 0, 1) := by decide +kernel
theorem dX10_doAll_44 : decode cX10_doAll 44 = .ok (.iload_n 2, 1) := by decide +kernel
theorem dX10_doAll_45 : decode cX10_doAll 45 = .ok (.invokevirtual 121, 3) := by decide +kernel
theorem dX10_doAll_48 : decode cX10_doAll 48 = .ok (.istore_n 3, 1) := by decide +kernel
theorem dX10_doAll_49 : decode cX10_doAll 49 = .ok (.iload_n 3, 1) := by decide +kernel
theorem dX10_doAll_50 : decode cX10_doAll 50 = .ok (.ifCond .ge 22, 3) := by decide +kernel
theorem dX10_doAll_53 : decode cX10_doAll 53 = .ok (.iload_n 3, 1) := by decide +kernel
theorem dX10_doAll_54 : decode cX10_doAll 54 = .ok (.bipush (-5), 2) := by decide +kernel
theorem dX10_doAll_56 : decode cX10_doAll 56 = .ok (.if_icmp .eq 16, 3) := by decide +kernel
theorem dX10_doAll_59 : decode cX10_doAll 59 = .ok (.aload_n 0, 1) := by decide +kernel
theorem dX10_doAll_60 : decode cX10_doAll 60 = .ok (.getfield 10, 3) := by decide +kernel
theorem dX10_doAll_63 : decode cX10_doAll 63 = .ok (.aload_n 0, 1) := by decide +kernel
theorem dX10_doAll_64 : decode cX10_doAll 64 = .ok (.getfield 16, 3) := by decide +kernel
theorem dX10_doAll_67 : decode cX10_doAll 67 = .ok (.invokevirtual 54, 3) := by decide +kernel
theorem dX10_doAll_70 : decode cX10_doAll 70 = .ok (.iload_n 3, 1) := by decide +kernel
theorem dX10_doAll_71 : decode cX10_doAll 71 = .ok (.ireturn, 1) := by decide +kernel
theorem dX10_doAll_72 : decode cX10_doAll 72 = .ok (.iinc 2 1, 3) := by decide +kernel
theorem dX10_doAll_75 : decode cX10_doAll 75 = .ok (.goto (-43), 3) := by decide +kernel
theorem dX10_doAll_78 : decode cX10_doAll 78 = .ok (.aload_n 0, 1) := by decide +kernel
theorem dX10_doAll_79 : decode cX10_doAll 79 = .ok (.aload_n 0, 1) := by decide +kernel
theorem dX10_doAll_80 : decode cX10_doAll 80 = .ok (.getfield 36, 3) := by decide +kernel
theorem dX10_doAll_83 : decode cX10_doAll 83 = .ok (.getfield 118, 3) := by decide +kernel
theorem dX10_doAll_86 : decode cX10_doAll 86 = .ok (.invokevirtual 62, 3) := by decide +kernel
theorem dX10_doAll_89 : decode cX10_doAll 89 = .ok (.ireturn, 1) := by decide +kernel
set_option maxRecDepth 20000 in
theorem dX10_undo_0 : decode cX10_undo 0 = .ok (.aload_n 0, 1) := by decide +kernel
theorem dX10_undo_1 : decode cX10_undo 1 = .ok (.getfield 29, 3) := by decide +kernel
theorem dX10_undo_4 : decode cX10_undo 4 = .ok (.aload_n 0, 1) := by decide +kernel
theorem dX10_undo_5 : decode cX10_undo 5 = .ok (.getfield 10, 3) := by decide +kernel
theorem dX10_undo_8 : decode cX10_undo 8 = .ok (.invokevirtual 124, 3) := by decide +kernel
theorem dX10_undo_11 : decode cX10_undo 11 = .ok (.ifCond .eq 13, 3) := by decide +kernel
theorem dX10_undo_14 : decode cX10_undo 14 = .ok (.aload_n 0, 1) := by decide +kernel
theorem dX10_undo_15 : decode cX10_undo 15 = .ok (.getfield 29, 3) := by decide +kernel
theorem dX10_undo_18 : decode cX10_undo 18 = .ok (.getfield 128, 3) := by decide +kernel
theorem dX10_undo_21 : decode cX10_undo 21 = .ok (.goto 5, 3) := by decide +kernel
theorem dX10_undo_24 : decode cX10_undo 24 = .ok (.bipush (-5), 2) := by decide +kernel
theorem dX10_undo_26 : decode cX10_undo 26 = .ok (.ireturn, 1) := by decide +kernel
set_option maxRecDepth 20000 in
theorem dX10_keep_0 : decode cX10_keep 0 = .ok (.aload_n 0, 1) := by decide +kernel
theorem dX10_keep_1 : decode cX10_keep 1 = .ok (.getfield 19, 3) := by decide +kernel
theorem dX10_keep_4 : decode cX10_keep 4 = .ok (.aload_n 0, 1) := by decide +kernel
theorem dX10_keep_5 : decode cX10_keep 5 = .ok (.getfield 10, 3) := by decide +kernel
theorem dX10_keep_8 : decode cX10_keep 8 = .ok (.invokevirtual 54, 3) := by decide +kernel
theorem dX10_keep_11 : decode cX10_keep 11 = .ok (.aload_n 0, 1) := by decide +kernel
theorem dX10_keep_12 : decode cX10_keep 12 = .ok (.iconst 1, 1) := by decide +kernel
theorem dX10_keep_13 : decode cX10_keep 13 = .ok (.putfield 22, 3) := by decide +kernel
theorem dX10_keep_16 : decode cX10_keep 16 = .ok (.aload_n 0, 1) := by decide +kernel
theorem dX10_keep_17 : decode cX10_keep 17 = .ok (.getfield 10, 3) := by decide +kernel
theorem dX10_keep_20 : decode cX10_keep 20 = .ok (.getfield 90, 3) := by decide +kernel
theorem dX10_keep_23 : decode cX10_keep 23 = .ok (.getfield 129, 3) := by decide +kernel
theorem dX10_keep_26 : decode cX10_keep 26 = .ok (.ireturn, 1) := by decide +kernel
set_option maxRecDepth 20000 in
theorem dX10_restore_0 : decode cX10_restore 0 = .ok (.aload_n 0, 1) := by decide +kernel
theorem dX10_restore_1 : decode cX10_restore 1 = .ok (.getfield 22, 3) := by decide +kernel
theorem dX10_restore_4 : decode cX10_restore 4 = .ok (.ifCond .ne 6, 3) := by decide +kernel
theorem dX10_restore_7 : decode cX10_restore 7 = .ok (.bipush (-5), 2) := by decide +kernel
theorem dX10_restore_9 : decode cX10_restore 9 = .ok (.ireturn, 1) := by decide +kernel
theorem dX10_restore_10 : decode cX10_restore 10 = .ok (.aload_n 0, 1) := by decide +kernel
theorem dX10_restore_11 : decode cX10_restore 11 = .ok (.getfield 16, 3) := by decide +kernel
theorem dX10_restore_14 : decode cX10_restore 14 = .ok (.aload_n 0, 1) := by decide +kernel
theorem dX10_restore_15 : decode cX10_restore 15 = .ok (.getfield 10, 3) := by decide +kernel
theorem dX10_restore_18 : decode cX10_restore 18 = .ok (.invokevirtual 54, 3) := by decide +kernel
theorem dX10_restore_21 : decode cX10_restore 21 = .ok (.aload_n 0, 1) := by decide +kernel
theorem dX10_restore_22 : decode cX10_restore 22 = .ok (.getfield 10, 3) := by decide +kernel
theorem dX10_restore_25 : decode cX10_restore 25 = .ok (.aload_n 0, 1) := by decide +kernel
theorem dX10_restore_26 : decode cX10_restore 26 = .ok (.getfield 19, 3) := by decide +kernel
theorem dX10_restore_29 : decode cX10_restore 29 = .ok (.invokevirtual 54, 3) := by decide +kernel
theorem dX10_restore_32 : decode cX10_restore 32 = .ok (.aload_n 0, 1) := by decide +kernel
theorem dX10_restore_33 : decode cX10_restore 33 = .ok (.aload_n 0, 1) := by decide +kernel
theorem dX10_restore_34 : decode cX10_restore 34 = .ok (.getfield 10, 3) := by decide +kernel
theorem dX10_restore_37 : decode cX10_restore 37 = .ok (.getfield 90, 3) := by decide +kernel
theorem dX10_restore_40 : decode cX10_restore 40 = .ok (.getfield 129, 3) := by decide +kernel
theorem dX10_restore_43 : decode cX10_restore 43 = .ok (.invokevirtual 62, 3) := by decide +kernel
theorem dX10_restore_46 : decode cX10_restore 46 = .ok (.ireturn, 1) := by decide +kernel
set_option maxRecDepth 20000 in
theorem dX10_frame_0 : decode cX10_frame 0 = .ok (.aload_n 0, 1) := by decide +kernel
theorem dX10_frame_1 : decode cX10_frame 1 = .ok (.getfield 10, 3) := by decide +kernel
theorem dX10_frame_4 : decode cX10_frame 4 = .ok (.getfield 79, 3) := by decide +kernel
theorem dX10_frame_7 : decode cX10_frame 7 = .ok (.astore_n 3, 1) := by decide +kernel
theorem dX10_frame_8 : decode cX10_frame 8 = .ok (.aload_n 3, 1) := by decide +kernel
theorem dX10_frame_9 : decode cX10_frame 9 = .ok (.iload_n 1, 1) := by decide +kernel
theorem dX10_frame_10 : decode cX10_frame 10 = .ok (.invokevirtual 132, 3) := by decide +kernel
theorem dX10_frame_13 : decode cX10_frame 13 = .ok (.ifCond .ne 5, 3) := by decide +kernel
theorem dX10_frame_16 : decode cX10_frame 16 = .ok (.iconst (-1), 1) := by decide +kernel
theorem dX10_frame_17 : decode cX10_frame 17 = .ok (.ireturn, 1) := by decide +kernel
theorem dX10_frame_18 : decode cX10_frame 18 = .ok (.iload_n 2, 1) := by decide +kernel
theorem dX10_frame_19 : decode cX10_frame 19 = .ok (.tableswitch 165 0 8 #[49, 55, 67, 73, 86, 110, 126, 138, 153], 49) := by decide +kernel
theorem dX10_frame_68 : decode cX10_frame 68 = .ok (.aload_n 3, 1) := by decide +kernel
theorem dX10_frame_69 : decode cX10_frame 69 = .ok (.iload_n 1, 1) := by decide +kernel
theorem dX10_frame_70 : decode cX10_frame 70 = .ok (.invokevirtual 136, 3) := by decide +kernel
theorem dX10_frame_73 : decode cX10_frame 73 = .ok (.ireturn, 1) := by decide +kernel
theorem dX10_frame_74 : decode cX10_frame 74 = .ok (.iload_n 1, 1) := by decide +kernel
theorem dX10_frame_75 : decode cX10_frame 75 = .ok (.aload_n 3, 1) := by decide +kernel
theorem dX10_frame_76 : decode cX10_frame 76 = .ok (.aload_n 3, 1) := by decide +kernel
theorem dX10_frame_77 : decode cX10_frame 77 = .ok (.iload_n 1, 1) := by decide +kernel
theorem dX10_frame_78 : decode cX10_frame 78 = .ok (.invokevirtual 136, 3) := by decide +kernel
theorem dX10_frame_81 : decode cX10_frame 81 = .ok (.invokevirtual 139, 3) := by decide +kernel
theorem dX10_frame_84 : decode cX10_frame 84 = .ok (.isub, 1) := by decide +kernel
theorem dX10_frame_85 : decode cX10_frame 85 = .ok (.ireturn, 1) := by decide +kernel
theorem dX10_frame_86 : decode cX10_frame 86 = .ok (.aload_n 3, 1) := by decide +kernel
theorem dX10_frame_87 : decode cX10_frame 87 = .ok (.iload_n 1, 1) := by decide +kernel
theorem dX10_frame_88 : decode cX10_frame 88 = .ok (.invokevirtual 142, 3) := by decide +kernel
theorem dX10_frame_91 : decode cX10_frame 91 = .ok (.ireturn, 1) := by decide +kernel
theorem dX10_frame_92 : decode cX10_frame 92 = .ok (.iload_n 1, 1) := by decide +kernel
theorem dX10_frame_93 : decode cX10_frame 93 = .ok (.invokestatic 145, 3) := by decide +kernel
theorem dX10_frame_96 : decode cX10_frame 96 = .ok (.ifCond .eq 7, 3) := by decide +kernel
theorem dX10_frame_99 : decode cX10_frame 99 = .ok (.iconst 1, 1) := by decide +kernel
theorem dX10_frame_100 : decode cX10_frame 100 = .ok (.goto 4, 3) := by decide +kernel
theorem dX10_frame_103 : decode cX10_frame 103 = .ok (.iconst 0, 1) := by decide +kernel
theorem dX10_frame_104 : decode cX10_frame 104 = .ok (.ireturn, 1) := by decide +kernel
theorem dX10_frame_105 : decode cX10_frame 105 = .ok (.aload_n 0, 1) := by decide +kernel
theorem dX10_frame_106 : decode cX10_frame 106 = .ok (.getfield 43, 3) := by decide +kernel
theorem dX10_frame_109 : decode cX10_frame 109 = .ok (.aload_n 0, 1) := by decide +kernel
theorem dX10_frame_110 : decode cX10_frame 110 = .ok (.getfield 10, 3) := by decide +kernel
theorem dX10_frame_113 : decode cX10_frame 113 = .ok (.invokevirtual 148, 3) := by decide +kernel
theorem dX10_frame_116 : decode cX10_frame 116 = .ok (.iload_n 1, 1) := by decide +kernel
theorem dX10_frame_117 : decode cX10_frame 117 = .ok (.invokevirtual 152, 3) := by decide +kernel
theorem dX10_frame_120 : decode cX10_frame 120 = .ok (.ifCond .eq 7, 3) := by decide +kernel
theorem dX10_frame_123 : decode cX10_frame 123 = .ok (.iconst 1, 1) := by decide +kernel
theorem dX10_frame_124 : decode cX10_frame 124 = .ok (.goto 4, 3) := by decide +kernel
theorem dX10_frame_127 : decode cX10_frame 127 = .ok (.iconst 0, 1) := by decide +kernel
theorem dX10_frame_128 : decode cX10_frame 128 = .ok (.ireturn, 1) := by decide +kernel
theorem dX10_frame_129 : decode cX10_frame 129 = .ok (.aload_n 0, 1) := by decide +kernel
theorem dX10_frame_130 : decode cX10_frame 130 = .ok (.getfield 43, 3) := by decide +kernel
theorem dX10_frame_133 : decode cX10_frame 133 = .ok (.aload_n 0, 1) := by decide +kernel
theorem dX10_frame_134 : decode cX10_frame 134 = .ok (.getfield 10, 3) := by decide +kernel
theorem dX10_frame_137 : decode cX10_frame 137 = .ok (.invokevirtual 148, 3) := by decide +kernel
theorem dX10_frame_140 : decode cX10_frame 140 = .ok (.iload_n 1, 1) := by decide +kernel
theorem dX10_frame_141 : decode cX10_frame 141 = .ok (.invokevirtual 155, 3) := by decide +kernel
theorem dX10_frame_144 : decode cX10_frame 144 = .ok (.ireturn, 1) := by decide +kernel
theorem dX10_frame_145 : decode cX10_frame 145 = .ok (.aload_n 0, 1) := by decide +kernel
theorem dX10_frame_146 : decode cX10_frame 146 = .ok (.getfield 10, 3) := by decide +kernel
theorem dX10_frame_149 : decode cX10_frame 149 = .ok (.getfield 158, 3) := by decide +kernel
theorem dX10_frame_152 : decode cX10_frame 152 = .ok (.iload_n 1, 1) := by decide +kernel
theorem dX10_frame_153 : decode cX10_frame 153 = .ok (.invokevirtual 162, 3) := by decide +kernel
theorem dX10_frame_156 : decode cX10_frame 156 = .ok (.ireturn, 1) := by decide +kernel
theorem dX10_frame_157 : decode cX10_frame 157 = .ok (.aload_n 0, 1) := by decide +kernel
theorem dX10_frame_158 : decode cX10_frame 158 = .ok (.getfield 10, 3) := by decide +kernel
theorem dX10_frame_161 : decode cX10_frame 161 = .ok (.getfield 158, 3) := by decide +kernel
theorem dX10_frame_164 : decode cX10_frame 164 = .ok (.iload_n 1, 1) := by decide +kernel
theorem dX10_frame_165 : decode cX10_frame 165 = .ok (.invokevirtual 167, 3) := by decide +kernel
theorem dX10_frame_168 : decode cX10_frame 168 = .ok (.bipush 100, 2) := by decide +kernel
theorem dX10_frame_170 : decode cX10_frame 170 = .ok (.iadd, 1) := by decide +kernel
theorem dX10_frame_171 : decode cX10_frame 171 = .ok (.ireturn, 1) := by decide +kernel
theorem dX10_frame_172 : decode cX10_frame 172 = .ok (.aload_n 0, 1) := by decide +kernel
theorem dX10_frame_173 : decode cX10_frame 173 = .ok (.getfield 10, 3) := by decide +kernel
theorem dX10_frame_176 : decode cX10_frame 176 = .ok (.getfield 158, 3) := by decide +kernel
theorem dX10_frame_179 : decode cX10_frame 179 = .ok (.iload_n 1, 1) := by decide +kernel
theorem dX10_frame_180 : decode cX10_frame 180 = .ok (.invokevirtual 170, 3) := by decide +kernel
theorem dX10_frame_183 : decode cX10_frame 183 = .ok (.ireturn, 1) := by decide +kernel
theorem dX10_frame_184 : decode cX10_frame 184 = .ok (.bipush (-2), 2) := by decide +kernel
theorem dX10_frame_186 : decode cX10_frame 186 = .ok (.ireturn, 1) := by decide +kernel
set_option maxRecDepth 20000 in
theorem dX10_symbol_0 : decode cX10_symbol 0 = .ok (.aload_n 0, 1) := by decide +kernel
theorem dX10_symbol_1 : decode cX10_symbol 1 = .ok (.getfield 10, 3) := by decide +kernel
theorem dX10_symbol_4 : decode cX10_symbol 4 = .ok (.getfield 79, 3) := by decide +kernel
theorem dX10_symbol_7 : decode cX10_symbol 7 = .ok (.iload_n 1, 1) := by decide +kernel
theorem dX10_symbol_8 : decode cX10_symbol 8 = .ok (.invokevirtual 132, 3) := by decide +kernel
theorem dX10_symbol_11 : decode cX10_symbol 11 = .ok (.ifCond .ne 5, 3) := by decide +kernel
theorem dX10_symbol_14 : decode cX10_symbol 14 = .ok (.iconst (-1), 1) := by decide +kernel
theorem dX10_symbol_15 : decode cX10_symbol 15 = .ok (.ireturn, 1) := by decide +kernel
theorem dX10_symbol_16 : decode cX10_symbol 16 = .ok (.iload_n 2, 1) := by decide +kernel
theorem dX10_symbol_17 : decode cX10_symbol 17 = .ok (.invokestatic 173, 3) := by decide +kernel
theorem dX10_symbol_20 : decode cX10_symbol 20 = .ok (.ifCond .ne 6, 3) := by decide +kernel
theorem dX10_symbol_23 : decode cX10_symbol 23 = .ok (.bipush (-2), 2) := by decide +kernel
theorem dX10_symbol_25 : decode cX10_symbol 25 = .ok (.ireturn, 1) := by decide +kernel
theorem dX10_symbol_26 : decode cX10_symbol 26 = .ok (.iload_n 3, 1) := by decide +kernel
theorem dX10_symbol_27 : decode cX10_symbol 27 = .ok (.ifCond .eq 12, 3) := by decide +kernel
theorem dX10_symbol_30 : decode cX10_symbol 30 = .ok (.aload_n 0, 1) := by decide +kernel
theorem dX10_symbol_31 : decode cX10_symbol 31 = .ok (.iload_n 1, 1) := by decide +kernel
theorem dX10_symbol_32 : decode cX10_symbol 32 = .ok (.iload_n 2, 1) := by decide +kernel
theorem dX10_symbol_33 : decode cX10_symbol 33 = .ok (.invokevirtual 176, 3) := by decide +kernel
theorem dX10_symbol_36 : decode cX10_symbol 36 = .ok (.goto 15, 3) := by decide +kernel
theorem dX10_symbol_39 : decode cX10_symbol 39 = .ok (.aload_n 0, 1) := by decide +kernel
theorem dX10_symbol_40 : decode cX10_symbol 40 = .ok (.getfield 10, 3) := by decide +kernel
theorem dX10_symbol_43 : decode cX10_symbol 43 = .ok (.getfield 158, 3) := by decide +kernel
theorem dX10_symbol_46 : decode cX10_symbol 46 = .ok (.iload_n 1, 1) := by decide +kernel
theorem dX10_symbol_47 : decode cX10_symbol 47 = .ok (.iload_n 2, 1) := by decide +kernel
theorem dX10_symbol_48 : decode cX10_symbol 48 = .ok (.invokevirtual 180, 3) := by decide +kernel
theorem dX10_symbol_51 : decode cX10_symbol 51 = .ok (.ireturn, 1) := by decide +kernel
set_option maxRecDepth 20000 in
theorem dX10_turn_0 : decode cX10_turn 0 = .ok (.iload_n 1, 1) := by decide +kernel
theorem dX10_turn_1 : decode cX10_turn 1 = .ok (.ifCond .lt 9, 3) := by decide +kernel
theorem dX10_turn_4 : decode cX10_turn 4 = .ok (.iload_n 1, 1) := by decide +kernel
theorem dX10_turn_5 : decode cX10_turn 5 = .ok (.bipush 30, 2) := by decide +kernel
theorem dX10_turn_7 : decode cX10_turn 7 = .ok (.if_icmp .lt 5, 3) := by decide +kernel
theorem dX10_turn_10 : decode cX10_turn 10 = .ok (.iconst (-1), 1) := by decide +kernel
theorem dX10_turn_11 : decode cX10_turn 11 = .ok (.ireturn, 1) := by decide +kernel
theorem dX10_turn_12 : decode cX10_turn 12 = .ok (.aload_n 0, 1) := by decide +kernel
theorem dX10_turn_13 : decode cX10_turn 13 = .ok (.getfield 10, 3) := by decide +kernel
theorem dX10_turn_16 : decode cX10_turn 16 = .ok (.getfield 79, 3) := by decide +kernel
theorem dX10_turn_19 : decode cX10_turn 19 = .ok (.iload_n 1, 1) := by decide +kernel
theorem dX10_turn_20 : decode cX10_turn 20 = .ok (.invokevirtual 139, 3) := by decide +kernel
theorem dX10_turn_23 : decode cX10_turn 23 = .ok (.istore_n 3, 1) := by decide +kernel
theorem dX10_turn_24 : decode cX10_turn 24 = .ok (.aload_n 0, 1) := by decide +kernel
theorem dX10_turn_25 : decode cX10_turn 25 = .ok (.getfield 10, 3) := by decide +kernel
theorem dX10_turn_28 : decode cX10_turn 28 = .ok (.getfield 79, 3) := by decide +kernel
theorem dX10_turn_31 : decode cX10_turn 31 = .ok (.iload_n 1, 1) := by decide +kernel
theorem dX10_turn_32 : decode cX10_turn 32 = .ok (.invokevirtual 183, 3) := by decide +kernel
theorem dX10_turn_35 : decode cX10_turn 35 = .ok (.istore 4, 2) := by decide +kernel
theorem dX10_turn_37 : decode cX10_turn 37 = .ok (.iload_n 2, 1) := by decide +kernel
theorem dX10_turn_38 : decode cX10_turn 38 = .ok (.tableswitch 72 0 3 #[30, 33, 35, 56], 30) := by decide +kernel
theorem dX10_turn_68 : decode cX10_turn 68 = .ok (.iload 4, 2) := by decide +kernel
theorem dX10_turn_70 : decode cX10_turn 70 = .ok (.ireturn, 1) := by decide +kernel
theorem dX10_turn_71 : decode cX10_turn 71 = .ok (.iload_n 3, 1) := by decide +kernel
theorem dX10_turn_72 : decode cX10_turn 72 = .ok (.ireturn, 1) := by decide +kernel
theorem dX10_turn_73 : decode cX10_turn 73 = .ok (.aload_n 0, 1) := by decide +kernel
theorem dX10_turn_74 : decode cX10_turn 74 = .ok (.getfield 43, 3) := by decide +kernel
theorem dX10_turn_77 : decode cX10_turn 77 = .ok (.aload_n 0, 1) := by decide +kernel
theorem dX10_turn_78 : decode cX10_turn 78 = .ok (.getfield 10, 3) := by decide +kernel
theorem dX10_turn_81 : decode cX10_turn 81 = .ok (.invokevirtual 148, 3) := by decide +kernel
theorem dX10_turn_84 : decode cX10_turn 84 = .ok (.iload_n 3, 1) := by decide +kernel
theorem dX10_turn_85 : decode cX10_turn 85 = .ok (.iload_n 3, 1) := by decide +kernel
theorem dX10_turn_86 : decode cX10_turn 86 = .ok (.iload 4, 2) := by decide +kernel
theorem dX10_turn_88 : decode cX10_turn 88 = .ok (.iadd, 1) := by decide +kernel
theorem dX10_turn_89 : decode cX10_turn 89 = .ok (.iconst (-1), 1) := by decide +kernel
theorem dX10_turn_90 : decode cX10_turn 90 = .ok (.invokevirtual 186, 3) := by decide +kernel
theorem dX10_turn_93 : decode cX10_turn 93 = .ok (.ireturn, 1) := by decide +kernel
theorem dX10_turn_94 : decode cX10_turn 94 = .ok (.aload_n 0, 1) := by decide +kernel
theorem dX10_turn_95 : decode cX10_turn 95 = .ok (.getfield 10, 3) := by decide +kernel
theorem dX10_turn_98 : decode cX10_turn 98 = .ok (.getfield 158, 3) := by decide +kernel
theorem dX10_turn_101 : decode cX10_turn 101 = .ok (.iload_n 3, 1) := by decide +kernel
theorem dX10_turn_102 : decode cX10_turn 102 = .ok (.iload_n 3, 1) := by decide +kernel
theorem dX10_turn_103 : decode cX10_turn 103 = .ok (.iload 4, 2) := by decide +kernel
theorem dX10_turn_105 : decode cX10_turn 105 = .ok (.iadd, 1) := by decide +kernel
theorem dX10_turn_106 : decode cX10_turn 106 = .ok (.invokevirtual 189, 3) := by decide +kernel
theorem dX10_turn_109 : decode cX10_turn 109 = .ok (.ireturn, 1) := by decide +kernel
theorem dX10_turn_110 : decode cX10_turn 110 = .ok (.bipush (-2), 2) := by decide +kernel
theorem dX10_turn_112 : decode cX10_turn 112 = .ok (.ireturn, 1) := by decide +kernel
set_option maxRecDepth 20000 in
theorem dX10_scratchOf_0 : decode cX10_scratchOf 0 = .ok (.aload_n 0, 1) := by decide +kernel
theorem dX10_scratchOf_1 : decode cX10_scratchOf 1 = .ok (.getfield 10, 3) := by decide +kernel
theorem dX10_scratchOf_4 : decode cX10_scratchOf 4 = .ok (.getfield 192, 3) := by decide +kernel
theorem dX10_scratchOf_7 : decode cX10_scratchOf 7 = .ok (.iload_n 1, 1) := by decide +kernel
theorem dX10_scratchOf_8 : decode cX10_scratchOf 8 = .ok (.invokevirtual 196, 3) := by decide +kernel
theorem dX10_scratchOf_11 : decode cX10_scratchOf 11 = .ok (.ifCond .ne 5, 3) := by decide +kernel
theorem dX10_scratchOf_14 : decode cX10_scratchOf 14 = .ok (.iconst (-1), 1) := by decide +kernel
theorem dX10_scratchOf_15 : decode cX10_scratchOf 15 = .ok (.ireturn, 1) := by decide +kernel
theorem dX10_scratchOf_16 : decode cX10_scratchOf 16 = .ok (.iload_n 2, 1) := by decide +kernel
theorem dX10_scratchOf_17 : decode cX10_scratchOf 17 = .ok (.tableswitch 105 0 4 #[35, 47, 59, 71, 83], 35) := by decide +kernel
theorem dX10_scratchOf_52 : decode cX10_scratchOf 52 = .ok (.aload_n 0, 1) := by decide +kernel
theorem dX10_scratchOf_53 : decode cX10_scratchOf 53 = .ok (.getfield 10, 3) := by decide +kernel
theorem dX10_scratchOf_56 : decode cX10_scratchOf 56 = .ok (.getfield 192, 3) := by decide +kernel
theorem dX10_scratchOf_59 : decode cX10_scratchOf 59 = .ok (.iload_n 1, 1) := by decide +kernel
theorem dX10_scratchOf_60 : decode cX10_scratchOf 60 = .ok (.invokevirtual 201, 3) := by decide +kernel
theorem dX10_scratchOf_63 : decode cX10_scratchOf 63 = .ok (.ireturn, 1) := by decide +kernel
theorem dX10_scratchOf_64 : decode cX10_scratchOf 64 = .ok (.aload_n 0, 1) := by decide +kernel
theorem dX10_scratchOf_65 : decode cX10_scratchOf 65 = .ok (.getfield 10, 3) := by decide +kernel
theorem dX10_scratchOf_68 : decode cX10_scratchOf 68 = .ok (.getfield 192, 3) := by decide +kernel
theorem dX10_scratchOf_71 : decode cX10_scratchOf 71 = .ok (.iload_n 1, 1) := by decide +kernel
theorem dX10_scratchOf_72 : decode cX10_scratchOf 72 = .ok (.invokevirtual 204, 3) := by decide +kernel
theorem dX10_scratchOf_75 : decode cX10_scratchOf 75 = .ok (.ireturn, 1) := by decide +kernel
theorem dX10_scratchOf_76 : decode cX10_scratchOf 76 = .ok (.aload_n 0, 1) := by decide +kernel
theorem dX10_scratchOf_77 : decode cX10_scratchOf 77 = .ok (.getfield 10, 3) := by decide +kernel
theorem dX10_scratchOf_80 : decode cX10_scratchOf 80 = .ok (.getfield 192, 3) := by decide +kernel
theorem dX10_scratchOf_83 : decode cX10_scratchOf 83 = .ok (.iload_n 1, 1) := by decide +kernel
theorem dX10_scratchOf_84 : decode cX10_scratchOf 84 = .ok (.invokevirtual 207, 3) := by decide +kernel
theorem dX10_scratchOf_87 : decode cX10_scratchOf 87 = .ok (.ireturn, 1) := by decide +kernel
theorem dX10_scratchOf_88 : decode cX10_scratchOf 88 = .ok (.aload_n 0, 1) := by decide +kernel
theorem dX10_scratchOf_89 : decode cX10_scratchOf 89 = .ok (.getfield 10, 3) := by decide +kernel
theorem dX10_scratchOf_92 : decode cX10_scratchOf 92 = .ok (.getfield 192, 3) := by decide +kernel
theorem dX10_scratchOf_95 : decode cX10_scratchOf 95 = .ok (.iload_n 1, 1) := by decide +kernel
theorem dX10_scratchOf_96 : decode cX10_scratchOf 96 = .ok (.invokevirtual 210, 3) := by decide +kernel
theorem dX10_scratchOf_99 : decode cX10_scratchOf 99 = .ok (.ireturn, 1) := by decide +kernel
theorem dX10_scratchOf_100 : decode cX10_scratchOf 100 = .ok (.aload_n 0, 1) := by decide +kernel
theorem dX10_scratchOf_101 : decode cX10_scratchOf 101 = .ok (.getfield 43, 3) := by decide +kernel
theorem dX10_scratchOf_104 : decode cX10_scratchOf 104 = .ok (.aload_n 0, 1) := by decide +kernel
theorem dX10_scratchOf_105 : decode cX10_scratchOf 105 = .ok (.getfield 10, 3) := by decide +kernel
theorem dX10_scratchOf_108 : decode cX10_scratchOf 108 = .ok (.invokevirtual 148, 3) := by decide +kernel
theorem dX10_scratchOf_111 : decode cX10_scratchOf 111 = .ok (.iconst 0, 1) := by decide +kernel
theorem dX10_scratchOf_112 : decode cX10_scratchOf 112 = .ok (.sipush 3810, 3) := by decide +kernel
theorem dX10_scratchOf_115 : decode cX10_scratchOf 115 = .ok (.iconst 1, 1) := by decide +kernel
theorem dX10_scratchOf_116 : decode cX10_scratchOf 116 = .ok (.iload_n 1, 1) := by decide +kernel
theorem dX10_scratchOf_117 : decode cX10_scratchOf 117 = .ok (.ishl, 1) := by decide +kernel
theorem dX10_scratchOf_118 : decode cX10_scratchOf 118 = .ok (.invokevirtual 186, 3) := by decide +kernel
theorem dX10_scratchOf_121 : decode cX10_scratchOf 121 = .ok (.ireturn, 1) := by decide +kernel
theorem dX10_scratchOf_122 : decode cX10_scratchOf 122 = .ok (.bipush (-2), 2) := by decide +kernel
theorem dX10_scratchOf_124 : decode cX10_scratchOf 124 = .ok (.ireturn, 1) := by decide +kernel
set_option maxRecDepth 20000 in
theorem dX10_count_0 : decode cX10_count 0 = .ok (.iload_n 1, 1) := by decide +kernel
theorem dX10_count_1 : decode cX10_count 1 = .ok (.tableswitch 294 0 16 #[83, 94, 105, 116, 127, 148, 159, 170, 181, 192, 203, 219, 235, 251, 267, 278, 286], 83) := by decide +kernel
theorem dX10_count_84 : decode cX10_count 84 = .ok (.aload_n 0, 1) := by decide +kernel
theorem dX10_count_85 : decode cX10_count 85 = .ok (.getfield 10, 3) := by decide +kernel
theorem dX10_count_88 : decode cX10_count 88 = .ok (.getfield 79, 3) := by decide +kernel
theorem dX10_count_91 : decode cX10_count 91 = .ok (.invokevirtual 213, 3) := by decide +kernel
theorem dX10_count_94 : decode cX10_count 94 = .ok (.ireturn, 1) := by decide +kernel
theorem dX10_count_95 : decode cX10_count 95 = .ok (.aload_n 0, 1) := by decide +kernel
theorem dX10_count_96 : decode cX10_count 96 = .ok (.getfield 10, 3) := by decide +kernel
theorem dX10_count_99 : decode cX10_count 99 = .ok (.getfield 79, 3) := by decide +kernel
theorem dX10_count_102 : decode cX10_count 102 = .ok (.invokevirtual 216, 3) := by decide +kernel
theorem dX10_count_105 : decode cX10_count 105 = .ok (.ireturn, 1) := by decide +kernel
theorem dX10_count_106 : decode cX10_count 106 = .ok (.aload_n 0, 1) := by decide +kernel
theorem dX10_count_107 : decode cX10_count 107 = .ok (.getfield 10, 3) := by decide +kernel
theorem dX10_count_110 : decode cX10_count 110 = .ok (.getfield 192, 3) := by decide +kernel
theorem dX10_count_113 : decode cX10_count 113 = .ok (.getfield 219, 3) := by decide +kernel
theorem dX10_count_116 : decode cX10_count 116 = .ok (.ireturn, 1) := by decide +kernel
theorem dX10_count_117 : decode cX10_count 117 = .ok (.aload_n 0, 1) := by decide +kernel
theorem dX10_count_118 : decode cX10_count 118 = .ok (.getfield 10, 3) := by decide +kernel
theorem dX10_count_121 : decode cX10_count 121 = .ok (.getfield 90, 3) := by decide +kernel
theorem dX10_count_124 : decode cX10_count 124 = .ok (.getfield 220, 3) := by decide +kernel
theorem dX10_count_127 : decode cX10_count 127 = .ok (.ireturn, 1) := by decide +kernel
theorem dX10_count_128 : decode cX10_count 128 = .ok (.aload_n 0, 1) := by decide +kernel
theorem dX10_count_129 : decode cX10_count 129 = .ok (.getfield 10, 3) := by decide +kernel
theorem dX10_count_132 : decode cX10_count 132 = .ok (.getfield 79, 3) := by decide +kernel
theorem dX10_count_135 : decode cX10_count 135 = .ok (.aload_n 0, 1) := by decide +kernel
theorem dX10_count_136 : decode cX10_count 136 = .ok (.getfield 10, 3) := by decide +kernel
theorem dX10_count_139 : decode cX10_count 139 = .ok (.getfield 90, 3) := by decide +kernel
theorem dX10_count_142 : decode cX10_count 142 = .ok (.getfield 220, 3) := by decide +kernel
theorem dX10_count_145 : decode cX10_count 145 = .ok (.invokevirtual 136, 3) := by decide +kernel
theorem dX10_count_148 : decode cX10_count 148 = .ok (.ireturn, 1) := by decide +kernel
theorem dX10_count_149 : decode cX10_count 149 = .ok (.aload_n 0, 1) := by decide +kernel
theorem dX10_count_150 : decode cX10_count 150 = .ok (.getfield 10, 3) := by decide +kernel
theorem dX10_count_153 : decode cX10_count 153 = .ok (.getfield 90, 3) := by decide +kernel
theorem dX10_count_156 : decode cX10_count 156 = .ok (.getfield 223, 3) := by decide +kernel
theorem dX10_count_159 : decode cX10_count 159 = .ok (.ireturn, 1) := by decide +kernel
theorem dX10_count_160 : decode cX10_count 160 = .ok (.aload_n 0, 1) := by decide +kernel
theorem dX10_count_161 : decode cX10_count 161 = .ok (.getfield 10, 3) := by decide +kernel
theorem dX10_count_164 : decode cX10_count 164 = .ok (.getfield 90, 3) := by decide +kernel
theorem dX10_count_167 : decode cX10_count 167 = .ok (.getfield 129, 3) := by decide +kernel
theorem dX10_count_170 : decode cX10_count 170 = .ok (.ireturn, 1) := by decide +kernel
theorem dX10_count_171 : decode cX10_count 171 = .ok (.aload_n 0, 1) := by decide +kernel
theorem dX10_count_172 : decode cX10_count 172 = .ok (.getfield 10, 3) := by decide +kernel
theorem dX10_count_175 : decode cX10_count 175 = .ok (.getfield 90, 3) := by decide +kernel
theorem dX10_count_178 : decode cX10_count 178 = .ok (.getfield 226, 3) := by decide +kernel
theorem dX10_count_181 : decode cX10_count 181 = .ok (.ireturn, 1) := by decide +kernel
theorem dX10_count_182 : decode cX10_count 182 = .ok (.aload_n 0, 1) := by decide +kernel
theorem dX10_count_183 : decode cX10_count 183 = .ok (.getfield 10, 3) := by decide +kernel
theorem dX10_count_186 : decode cX10_count 186 = .ok (.getfield 90, 3) := by decide +kernel
theorem dX10_count_189 : decode cX10_count 189 = .ok (.getfield 229, 3) := by decide +kernel
theorem dX10_count_192 : decode cX10_count 192 = .ok (.ireturn, 1) := by decide +kernel
theorem dX10_count_193 : decode cX10_count 193 = .ok (.aload_n 0, 1) := by decide +kernel
theorem dX10_count_194 : decode cX10_count 194 = .ok (.getfield 10, 3) := by decide +kernel
theorem dX10_count_197 : decode cX10_count 197 = .ok (.getfield 90, 3) := by decide +kernel
theorem dX10_count_200 : decode cX10_count 200 = .ok (.getfield 232, 3) := by decide +kernel
theorem dX10_count_203 : decode cX10_count 203 = .ok (.ireturn, 1) := by decide +kernel
theorem dX10_count_204 : decode cX10_count 204 = .ok (.aload_n 0, 1) := by decide +kernel
theorem dX10_count_205 : decode cX10_count 205 = .ok (.getfield 43, 3) := by decide +kernel
theorem dX10_count_208 : decode cX10_count 208 = .ok (.aload_n 0, 1) := by decide +kernel
theorem dX10_count_209 : decode cX10_count 209 = .ok (.getfield 10, 3) := by decide +kernel
theorem dX10_count_212 : decode cX10_count 212 = .ok (.invokevirtual 148, 3) := by decide +kernel
theorem dX10_count_215 : decode cX10_count 215 = .ok (.iconst 0, 1) := by decide +kernel
theorem dX10_count_216 : decode cX10_count 216 = .ok (.invokevirtual 235, 3) := by decide +kernel
theorem dX10_count_219 : decode cX10_count 219 = .ok (.ireturn, 1) := by decide +kernel
theorem dX10_count_220 : decode cX10_count 220 = .ok (.aload_n 0, 1) := by decide +kernel
theorem dX10_count_221 : decode cX10_count 221 = .ok (.getfield 43, 3) := by decide +kernel
theorem dX10_count_224 : decode cX10_count 224 = .ok (.aload_n 0, 1) := by decide +kernel
theorem dX10_count_225 : decode cX10_count 225 = .ok (.getfield 10, 3) := by decide +kernel
theorem dX10_count_228 : decode cX10_count 228 = .ok (.invokevirtual 148, 3) := by decide +kernel
theorem dX10_count_231 : decode cX10_count 231 = .ok (.iconst 1, 1) := by decide +kernel
theorem dX10_count_232 : decode cX10_count 232 = .ok (.invokevirtual 235, 3) := by decide +kernel
theorem dX10_count_235 : decode cX10_count 235 = .ok (.ireturn, 1) := by decide +kernel
theorem dX10_count_236 : decode cX10_count 236 = .ok (.aload_n 0, 1) := by decide +kernel
theorem dX10_count_237 : decode cX10_count 237 = .ok (.getfield 43, 3) := by decide +kernel
theorem dX10_count_240 : decode cX10_count 240 = .ok (.aload_n 0, 1) := by decide +kernel
theorem dX10_count_241 : decode cX10_count 241 = .ok (.getfield 10, 3) := by decide +kernel
theorem dX10_count_244 : decode cX10_count 244 = .ok (.invokevirtual 148, 3) := by decide +kernel
theorem dX10_count_247 : decode cX10_count 247 = .ok (.iconst 2, 1) := by decide +kernel
theorem dX10_count_248 : decode cX10_count 248 = .ok (.invokevirtual 235, 3) := by decide +kernel
theorem dX10_count_251 : decode cX10_count 251 = .ok (.ireturn, 1) := by decide +kernel
theorem dX10_count_252 : decode cX10_count 252 = .ok (.aload_n 0, 1) := by decide +kernel
theorem dX10_count_253 : decode cX10_count 253 = .ok (.getfield 43, 3) := by decide +kernel
theorem dX10_count_256 : decode cX10_count 256 = .ok (.aload_n 0, 1) := by decide +kernel
theorem dX10_count_257 : decode cX10_count 257 = .ok (.getfield 10, 3) := by decide +kernel
theorem dX10_count_260 : decode cX10_count 260 = .ok (.invokevirtual 148, 3) := by decide +kernel
theorem dX10_count_263 : decode cX10_count 263 = .ok (.iconst 3, 1) := by decide +kernel
theorem dX10_count_264 : decode cX10_count 264 = .ok (.invokevirtual 235, 3) := by decide +kernel
theorem dX10_count_267 : decode cX10_count 267 = .ok (.ireturn, 1) := by decide +kernel
theorem dX10_count_268 : decode cX10_count 268 = .ok (.aload_n 0, 1) := by decide +kernel
theorem dX10_count_269 : decode cX10_count 269 = .ok (.getfield 10, 3) := by decide +kernel
theorem dX10_count_272 : decode cX10_count 272 = .ok (.getfield 158, 3) := by decide +kernel
theorem dX10_count_275 : decode cX10_count 275 = .ok (.getfield 238, 3) := by decide +kernel
theorem dX10_count_278 : decode cX10_count 278 = .ok (.ireturn, 1) := by decide +kernel
theorem dX10_count_279 : decode cX10_count 279 = .ok (.aload_n 0, 1) := by decide +kernel
theorem dX10_count_280 : decode cX10_count 280 = .ok (.getfield 29, 3) := by decide +kernel
theorem dX10_count_283 : decode cX10_count 283 = .ok (.getfield 128, 3) := by decide +kernel
theorem dX10_count_286 : decode cX10_count 286 = .ok (.ireturn, 1) := by decide +kernel
theorem dX10_count_287 : decode cX10_count 287 = .ok (.aload_n 0, 1) := by decide +kernel
theorem dX10_count_288 : decode cX10_count 288 = .ok (.getfield 36, 3) := by decide +kernel
theorem dX10_count_291 : decode cX10_count 291 = .ok (.getfield 107, 3) := by decide +kernel
theorem dX10_count_294 : decode cX10_count 294 = .ok (.ireturn, 1) := by decide +kernel
theorem dX10_count_295 : decode cX10_count 295 = .ok (.aload_n 0, 1) := by decide +kernel
theorem dX10_count_296 : decode cX10_count 296 = .ok (.iload_n 1, 1) := by decide +kernel
theorem dX10_count_297 : decode cX10_count 297 = .ok (.bipush 17, 2) := by decide +kernel
theorem dX10_count_299 : decode cX10_count 299 = .ok (.isub, 1) := by decide +kernel
theorem dX10_count_300 : decode cX10_count 300 = .ok (.invokevirtual 239, 3) := by decide +kernel
theorem dX10_count_303 : decode cX10_count 303 = .ok (.ireturn, 1) := by decide +kernel
set_option maxRecDepth 20000 in
theorem dX10_right_0 : decode cX10_right 0 = .ok (.iconst 0, 1) := by decide +kernel
theorem dX10_right_1 : decode cX10_right 1 = .ok (.istore_n 1, 1) := by decide +kernel
theorem dX10_right_2 : decode cX10_right 2 = .ok (.iconst 0, 1) := by decide +kernel
theorem dX10_right_3 : decode cX10_right 3 = .ok (.istore_n 2, 1) := by decide +kernel
theorem dX10_right_4 : decode cX10_right 4 = .ok (.aload_n 0, 1) := by decide +kernel
theorem dX10_right_5 : decode cX10_right 5 = .ok (.getfield 10, 3) := by decide +kernel
theorem dX10_right_8 : decode cX10_right 8 = .ok (.getfield 79, 3) := by decide +kernel
theorem dX10_right_11 : decode cX10_right 11 = .ok (.invokevirtual 213, 3) := by decide +kernel
theorem dX10_right_14 : decode cX10_right 14 = .ok (.istore_n 3, 1) := by decide +kernel
theorem dX10_right_15 : decode cX10_right 15 = .ok (.aload_n 0, 1) := by decide +kernel
theorem dX10_right_16 : decode cX10_right 16 = .ok (.getfield 43, 3) := by decide +kernel
theorem dX10_right_19 : decode cX10_right 19 = .ok (.aload_n 0, 1) := by decide +kernel
theorem dX10_right_20 : decode cX10_right 20 = .ok (.getfield 10, 3) := by decide +kernel
theorem dX10_right_23 : decode cX10_right 23 = .ok (.invokevirtual 148, 3) := by decide +kernel
theorem dX10_right_26 : decode cX10_right 26 = .ok (.pop, 1) := by decide +kernel
theorem dX10_right_27 : decode cX10_right 27 = .ok (.iconst 0, 1) := by decide +kernel
theorem dX10_right_28 : decode cX10_right 28 = .ok (.istore 4, 2) := by decide +kernel
theorem dX10_right_30 : decode cX10_right 30 = .ok (.iload 4, 2) := by decide +kernel
theorem dX10_right_32 : decode cX10_right 32 = .ok (.iload_n 3, 1) := by decide +kernel
theorem dX10_right_33 : decode cX10_right 33 = .ok (.if_icmp .ge 37, 3) := by decide +kernel
theorem dX10_right_36 : decode cX10_right 36 = .ok (.iload 4, 2) := by decide +kernel
theorem dX10_right_38 : decode cX10_right 38 = .ok (.invokestatic 145, 3) := by decide +kernel
theorem dX10_right_41 : decode cX10_right 41 = .ok (.ifCond .ne 23, 3) := by decide +kernel
theorem dX10_right_44 : decode cX10_right 44 = .ok (.iinc 1 1, 3) := by decide +kernel
theorem dX10_right_47 : decode cX10_right 47 = .ok (.iload_n 2, 1) := by decide +kernel
theorem dX10_right_48 : decode cX10_right 48 = .ok (.aload_n 0, 1) := by decide +kernel
theorem dX10_right_49 : decode cX10_right 49 = .ok (.iload 4, 2) := by decide +kernel
theorem dX10_right_51 : decode cX10_right 51 = .ok (.invokevirtual 242, 3) := by decide +kernel
theorem dX10_right_54 : decode cX10_right 54 = .ok (.ifCond .eq 7, 3) := by decide +kernel
theorem dX10_right_57 : decode cX10_right 57 = .ok (.iconst 1, 1) := by decide +kernel
theorem dX10_right_58 : decode cX10_right 58 = .ok (.goto 4, 3) := by decide +kernel
theorem dX10_right_61 : decode cX10_right 61 = .ok (.iconst 0, 1) := by decide +kernel
theorem dX10_right_62 : decode cX10_right 62 = .ok (.iadd, 1) := by decide +kernel
theorem dX10_right_63 : decode cX10_right 63 = .ok (.istore_n 2, 1) := by decide +kernel
theorem dX10_right_64 : decode cX10_right 64 = .ok (.iinc 4 1, 3) := by decide +kernel
theorem dX10_right_67 : decode cX10_right 67 = .ok (.goto (-37), 3) := by decide +kernel
theorem dX10_right_70 : decode cX10_right 70 = .ok (.iload_n 1, 1) := by decide +kernel
theorem dX10_right_71 : decode cX10_right 71 = .ok (.ifCond .ne 7, 3) := by decide +kernel
theorem dX10_right_74 : decode cX10_right 74 = .ok (.dconst 1, 1) := by decide +kernel
theorem dX10_right_75 : decode cX10_right 75 = .ok (.goto 8, 3) := by decide +kernel
theorem dX10_right_78 : decode cX10_right 78 = .ok (.iload_n 2, 1) := by decide +kernel
theorem dX10_right_79 : decode cX10_right 79 = .ok (.i2d, 1) := by decide +kernel
theorem dX10_right_80 : decode cX10_right 80 = .ok (.iload_n 1, 1) := by decide +kernel
theorem dX10_right_81 : decode cX10_right 81 = .ok (.i2d, 1) := by decide +kernel
theorem dX10_right_82 : decode cX10_right 82 = .ok (.ddiv, 1) := by decide +kernel
theorem dX10_right_83 : decode cX10_right 83 = .ok (.dreturn, 1) := by decide +kernel
set_option maxRecDepth 20000 in
theorem dX10_ifSought_0 : decode cX10_ifSought 0 = .ok (.aload_n 0, 1) := by decide +kernel
theorem dX10_ifSought_1 : decode cX10_ifSought 1 = .ok (.getfield 10, 3) := by decide +kernel
theorem dX10_ifSought_4 : decode cX10_ifSought 4 = .ok (.getfield 79, 3) := by decide +kernel
theorem dX10_ifSought_7 : decode cX10_ifSought 7 = .ok (.iload_n 1, 1) := by decide +kernel
theorem dX10_ifSought_8 : decode cX10_ifSought 8 = .ok (.invokevirtual 132, 3) := by decide +kernel
theorem dX10_ifSought_11 : decode cX10_ifSought 11 = .ok (.ifCond .ne 5, 3) := by decide +kernel
theorem dX10_ifSought_14 : decode cX10_ifSought 14 = .ok (.iconst (-1), 1) := by decide +kernel
theorem dX10_ifSought_15 : decode cX10_ifSought 15 = .ok (.ireturn, 1) := by decide +kernel
theorem dX10_ifSought_16 : decode cX10_ifSought 16 = .ok (.iload_n 2, 1) := by decide +kernel
theorem dX10_ifSought_17 : decode cX10_ifSought 17 = .ok (.ifCond .eq 11, 3) := by decide +kernel
theorem dX10_ifSought_20 : decode cX10_ifSought 20 = .ok (.iload_n 2, 1) := by decide +kernel
theorem dX10_ifSought_21 : decode cX10_ifSought 21 = .ok (.iconst 1, 1) := by decide +kernel
theorem dX10_ifSought_22 : decode cX10_ifSought 22 = .ok (.if_icmp .eq 6, 3) := by decide +kernel
theorem dX10_ifSought_25 : decode cX10_ifSought 25 = .ok (.bipush (-2), 2) := by decide +kernel
theorem dX10_ifSought_27 : decode cX10_ifSought 27 = .ok (.ireturn, 1) := by decide +kernel
theorem dX10_ifSought_28 : decode cX10_ifSought 28 = .ok (.aload_n 0, 1) := by decide +kernel
theorem dX10_ifSought_29 : decode cX10_ifSought 29 = .ok (.iload_n 1, 1) := by decide +kernel
theorem dX10_ifSought_30 : decode cX10_ifSought 30 = .ok (.aload_n 0, 1) := by decide +kernel
theorem dX10_ifSought_31 : decode cX10_ifSought 31 = .ok (.getfield 10, 3) := by decide +kernel
theorem dX10_ifSought_34 : decode cX10_ifSought 34 = .ok (.getfield 79, 3) := by decide +kernel
theorem dX10_ifSought_37 : decode cX10_ifSought 37 = .ok (.getfield 245, 3) := by decide +kernel
theorem dX10_ifSought_40 : decode cX10_ifSought 40 = .ok (.invokevirtual 248, 3) := by decide +kernel
theorem dX10_ifSought_43 : decode cX10_ifSought 43 = .ok (.istore_n 3, 1) := by decide +kernel
theorem dX10_ifSought_44 : decode cX10_ifSought 44 = .ok (.iload_n 2, 1) := by decide +kernel
theorem dX10_ifSought_45 : decode cX10_ifSought 45 = .ok (.ifCond .ne 7, 3) := by decide +kernel
theorem dX10_ifSought_48 : decode cX10_ifSought 48 = .ok (.iload_n 3, 1) := by decide +kernel
theorem dX10_ifSought_49 : decode cX10_ifSought 49 = .ok (.goto 21, 3) := by decide +kernel
theorem dX10_ifSought_52 : decode cX10_ifSought 52 = .ok (.aload_n 0, 1) := by decide +kernel
theorem dX10_ifSought_53 : decode cX10_ifSought 53 = .ok (.getfield 50, 3) := by decide +kernel
theorem dX10_ifSought_56 : decode cX10_ifSought 56 = .ok (.getfield 232, 3) := by decide +kernel
theorem dX10_ifSought_59 : decode cX10_ifSought 59 = .ok (.aload_n 0, 1) := by decide +kernel
theorem dX10_ifSought_60 : decode cX10_ifSought 60 = .ok (.getfield 10, 3) := by decide +kernel
theorem dX10_ifSought_63 : decode cX10_ifSought 63 = .ok (.getfield 90, 3) := by decide +kernel
theorem dX10_ifSought_66 : decode cX10_ifSought 66 = .ok (.getfield 232, 3) := by decide +kernel
theorem dX10_ifSought_69 : decode cX10_ifSought 69 = .ok (.isub, 1) := by decide +kernel
theorem dX10_ifSought_70 : decode cX10_ifSought 70 = .ok (.ireturn, 1) := by decide +kernel
set_option maxRecDepth 20000 in
theorem dX10_bestGuess_0 : decode cX10_bestGuess 0 = .ok (.aload_n 0, 1) := by decide +kernel
theorem dX10_bestGuess_1 : decode cX10_bestGuess 1 = .ok (.getfield 10, 3) := by decide +kernel
theorem dX10_bestGuess_4 : decode cX10_bestGuess 4 = .ok (.getfield 79, 3) := by decide +kernel
theorem dX10_bestGuess_7 : decode cX10_bestGuess 7 = .ok (.iload_n 1, 1) := by decide +kernel
theorem dX10_bestGuess_8 : decode cX10_bestGuess 8 = .ok (.invokevirtual 132, 3) := by decide +kernel
theorem dX10_bestGuess_11 : decode cX10_bestGuess 11 = .ok (.ifCond .ne 5, 3) := by decide +kernel
theorem dX10_bestGuess_14 : decode cX10_bestGuess 14 = .ok (.iconst (-1), 1) := by decide +kernel
theorem dX10_bestGuess_15 : decode cX10_bestGuess 15 = .ok (.ireturn, 1) := by decide +kernel
theorem dX10_bestGuess_16 : decode cX10_bestGuess 16 = .ok (.bipush 60, 2) := by decide +kernel
theorem dX10_bestGuess_18 : decode cX10_bestGuess 18 = .ok (.istore_n 2, 1) := by decide +kernel
theorem dX10_bestGuess_19 : decode cX10_bestGuess 19 = .ok (.aload_n 0, 1) := by decide +kernel
theorem dX10_bestGuess_20 : decode cX10_bestGuess 20 = .ok (.iload_n 1, 1) := by decide +kernel
theorem dX10_bestGuess_21 : decode cX10_bestGuess 21 = .ok (.bipush 60, 2) := by decide +kernel
theorem dX10_bestGuess_23 : decode cX10_bestGuess 23 = .ok (.invokevirtual 248, 3) := by decide +kernel
theorem dX10_bestGuess_26 : decode cX10_bestGuess 26 = .ok (.istore_n 3, 1) := by decide +kernel
theorem dX10_bestGuess_27 : decode cX10_bestGuess 27 = .ok (.bipush 61, 2) := by decide +kernel
theorem dX10_bestGuess_29 : decode cX10_bestGuess 29 = .ok (.istore 4, 2) := by decide +kernel
theorem dX10_bestGuess_31 : decode cX10_bestGuess 31 = .ok (.iload 4, 2) := by decide +kernel
theorem dX10_bestGuess_33 : decode cX10_bestGuess 33 = .ok (.sipush 140, 3) := by decide +kernel
theorem dX10_bestGuess_36 : decode cX10_bestGuess 36 = .ok (.if_icmp .gt 30, 3) := by decide +kernel
theorem dX10_bestGuess_39 : decode cX10_bestGuess 39 = .ok (.aload_n 0, 1) := by decide +kernel
theorem dX10_bestGuess_40 : decode cX10_bestGuess 40 = .ok (.iload_n 1, 1) := by decide +kernel
theorem dX10_bestGuess_41 : decode cX10_bestGuess 41 = .ok (.iload 4, 2) := by decide +kernel
theorem dX10_bestGuess_43 : decode cX10_bestGuess 43 = .ok (.invokevirtual 248, 3) := by decide +kernel
theorem dX10_bestGuess_46 : decode cX10_bestGuess 46 = .ok (.istore 5, 2) := by decide +kernel
theorem dX10_bestGuess_48 : decode cX10_bestGuess 48 = .ok (.iload 5, 2) := by decide +kernel
theorem dX10_bestGuess_50 : decode cX10_bestGuess 50 = .ok (.iload_n 3, 1) := by decide +kernel
theorem dX10_bestGuess_51 : decode cX10_bestGuess 51 = .ok (.if_icmp .ge 9, 3) := by decide +kernel
theorem dX10_bestGuess_54 : decode cX10_bestGuess 54 = .ok (.iload 4, 2) := by decide +kernel
theorem dX10_bestGuess_56 : decode cX10_bestGuess 56 = .ok (.istore_n 2, 1) := by decide +kernel
theorem dX10_bestGuess_57 : decode cX10_bestGuess 57 = .ok (.iload 5, 2) := by decide +kernel
theorem dX10_bestGuess_59 : decode cX10_bestGuess 59 = .ok (.istore_n 3, 1) := by decide +kernel
theorem dX10_bestGuess_60 : decode cX10_bestGuess 60 = .ok (.iinc 4 1, 3) := by decide +kernel
theorem dX10_bestGuess_63 : decode cX10_bestGuess 63 = .ok (.goto (-32), 3) := by decide +kernel
theorem dX10_bestGuess_66 : decode cX10_bestGuess 66 = .ok (.iload_n 2, 1) := by decide +kernel
theorem dX10_bestGuess_67 : decode cX10_bestGuess 67 = .ok (.ireturn, 1) := by decide +kernel
set_option maxRecDepth 20000 in
theorem dX10_polishFirst_0 : decode cX10_polishFirst 0 = .ok (.iload_n 1, 1) := by decide +kernel
theorem dX10_polishFirst_1 : decode cX10_polishFirst 1 = .ok (.ifCond .eq 11, 3) := by decide +kernel
theorem dX10_polishFirst_4 : decode cX10_polishFirst 4 = .ok (.iload_n 1, 1) := by decide +kernel
theorem dX10_polishFirst_5 : decode cX10_polishFirst 5 = .ok (.iconst 1, 1) := by decide +kernel
theorem dX10_polishFirst_6 : decode cX10_polishFirst 6 = .ok (.if_icmp .eq 6, 3) := by decide +kernel
theorem dX10_polishFirst_9 : decode cX10_polishFirst 9 = .ok (.bipush (-2), 2) := by decide +kernel
theorem dX10_polishFirst_11 : decode cX10_polishFirst 11 = .ok (.ireturn, 1) := by decide +kernel
theorem dX10_polishFirst_12 : decode cX10_polishFirst 12 = .ok (.aload_n 0, 1) := by decide +kernel
theorem dX10_polishFirst_13 : decode cX10_polishFirst 13 = .ok (.getfield 10, 3) := by decide +kernel
theorem dX10_polishFirst_16 : decode cX10_polishFirst 16 = .ok (.getfield 192, 3) := by decide +kernel
theorem dX10_polishFirst_19 : decode cX10_polishFirst 19 = .ok (.getfield 219, 3) := by decide +kernel
theorem dX10_polishFirst_22 : decode cX10_polishFirst 22 = .ok (.ifCond .ne 6, 3) := by decide +kernel
theorem dX10_polishFirst_25 : decode cX10_polishFirst 25 = .ok (.bipush (-5), 2) := by decide +kernel
theorem dX10_polishFirst_27 : decode cX10_polishFirst 27 = .ok (.ireturn, 1) := by decide +kernel
theorem dX10_polishFirst_28 : decode cX10_polishFirst 28 = .ok (.iconst 0, 1) := by decide +kernel
theorem dX10_polishFirst_29 : decode cX10_polishFirst 29 = .ok (.istore_n 2, 1) := by decide +kernel
theorem dX10_polishFirst_30 : decode cX10_polishFirst 30 = .ok (.aload_n 0, 1) := by decide +kernel
theorem dX10_polishFirst_31 : decode cX10_polishFirst 31 = .ok (.getfield 43, 3) := by decide +kernel
theorem dX10_polishFirst_34 : decode cX10_polishFirst 34 = .ok (.aload_n 0, 1) := by decide +kernel
theorem dX10_polishFirst_35 : decode cX10_polishFirst 35 = .ok (.getfield 10, 3) := by decide +kernel
theorem dX10_polishFirst_38 : decode cX10_polishFirst 38 = .ok (.invokevirtual 148, 3) := by decide +kernel
theorem dX10_polishFirst_41 : decode cX10_polishFirst 41 = .ok (.iconst 0, 1) := by decide +kernel
theorem dX10_polishFirst_42 : decode cX10_polishFirst 42 = .ok (.invokevirtual 251, 3) := by decide +kernel
theorem dX10_polishFirst_45 : decode cX10_polishFirst 45 = .ok (.istore_n 3, 1) := by decide +kernel
theorem dX10_polishFirst_46 : decode cX10_polishFirst 46 = .ok (.iconst 1, 1) := by decide +kernel
theorem dX10_polishFirst_47 : decode cX10_polishFirst 47 = .ok (.istore 4, 2) := by decide +kernel
theorem dX10_polishFirst_49 : decode cX10_polishFirst 49 = .ok (.iload 4, 2) := by decide +kernel
theorem dX10_polishFirst_51 : decode cX10_polishFirst 51 = .ok (.aload_n 0, 1) := by decide +kernel
theorem dX10_polishFirst_52 : decode cX10_polishFirst 52 = .ok (.getfield 10, 3) := by decide +kernel
theorem dX10_polishFirst_55 : decode cX10_polishFirst 55 = .ok (.getfield 192, 3) := by decide +kernel
theorem dX10_polishFirst_58 : decode cX10_polishFirst 58 = .ok (.getfield 219, 3) := by decide +kernel
theorem dX10_polishFirst_61 : decode cX10_polishFirst 61 = .ok (.if_icmp .ge 32, 3) := by decide +kernel
theorem dX10_polishFirst_64 : decode cX10_polishFirst 64 = .ok (.aload_n 0, 1) := by decide +kernel
theorem dX10_polishFirst_65 : decode cX10_polishFirst 65 = .ok (.getfield 43, 3) := by decide +kernel
theorem dX10_polishFirst_68 : decode cX10_polishFirst 68 = .ok (.iload 4, 2) := by decide +kernel
theorem dX10_polishFirst_70 : decode cX10_polishFirst 70 = .ok (.invokevirtual 251, 3) := by decide +kernel
theorem dX10_polishFirst_73 : decode cX10_polishFirst 73 = .ok (.istore 5, 2) := by decide +kernel
theorem dX10_polishFirst_75 : decode cX10_polishFirst 75 = .ok (.iload 5, 2) := by decide +kernel
theorem dX10_polishFirst_77 : decode cX10_polishFirst 77 = .ok (.iload_n 3, 1) := by decide +kernel
theorem dX10_polishFirst_78 : decode cX10_polishFirst 78 = .ok (.if_icmp .ge 9, 3) := by decide +kernel
theorem dX10_polishFirst_81 : decode cX10_polishFirst 81 = .ok (.iload 4, 2) := by decide +kernel
theorem dX10_polishFirst_83 : decode cX10_polishFirst 83 = .ok (.istore_n 2, 1) := by decide +kernel
theorem dX10_polishFirst_84 : decode cX10_polishFirst 84 = .ok (.iload 5, 2) := by decide +kernel
theorem dX10_polishFirst_86 : decode cX10_polishFirst 86 = .ok (.istore_n 3, 1) := by decide +kernel
theorem dX10_polishFirst_87 : decode cX10_polishFirst 87 = .ok (.iinc 4 1, 3) := by decide +kernel
theorem dX10_polishFirst_90 : decode cX10_polishFirst 90 = .ok (.goto (-41), 3) := by decide +kernel
theorem dX10_polishFirst_93 : decode cX10_polishFirst 93 = .ok (.aload_n 0, 1) := by decide +kernel
theorem dX10_polishFirst_94 : decode cX10_polishFirst 94 = .ok (.getfield 43, 3) := by decide +kernel
theorem dX10_polishFirst_97 : decode cX10_polishFirst 97 = .ok (.iconst (-1), 1) := by decide +kernel
theorem dX10_polishFirst_98 : decode cX10_polishFirst 98 = .ok (.invokevirtual 254, 3) := by decide +kernel
theorem dX10_polishFirst_101 : decode cX10_polishFirst 101 = .ok (.iload_n 1, 1) := by decide +kernel
theorem dX10_polishFirst_102 : decode cX10_polishFirst 102 = .ok (.ifCond .ne 7, 3) := by decide +kernel
theorem dX10_polishFirst_105 : decode cX10_polishFirst 105 = .ok (.iload_n 2, 1) := by decide +kernel
theorem dX10_polishFirst_106 : decode cX10_polishFirst 106 = .ok (.goto 4, 3) := by decide +kernel
theorem dX10_polishFirst_109 : decode cX10_polishFirst 109 = .ok (.iload_n 3, 1) := by decide +kernel
theorem dX10_polishFirst_110 : decode cX10_polishFirst 110 = .ok (.ireturn, 1) := by decide +kernel
set_option maxRecDepth 20000 in
theorem dX10_gap_0 : decode cX10_gap 0 = .ok (.iload_n 1, 1) := by decide +kernel
theorem dX10_gap_1 : decode cX10_gap 1 = .ok (.ifCond .eq 11, 3) := by decide +kernel
theorem dX10_gap_4 : decode cX10_gap 4 = .ok (.iload_n 1, 1) := by decide +kernel
theorem dX10_gap_5 : decode cX10_gap 5 = .ok (.iconst 1, 1) := by decide +kernel
theorem dX10_gap_6 : decode cX10_gap 6 = .ok (.if_icmp .eq 6, 3) := by decide +kernel
theorem dX10_gap_9 : decode cX10_gap 9 = .ok (.bipush (-2), 2) := by decide +kernel
theorem dX10_gap_11 : decode cX10_gap 11 = .ok (.ireturn, 1) := by decide +kernel
theorem dX10_gap_12 : decode cX10_gap 12 = .ok (.iconst 0, 1) := by decide +kernel
theorem dX10_gap_13 : decode cX10_gap 13 = .ok (.istore_n 2, 1) := by decide +kernel
theorem dX10_gap_14 : decode cX10_gap 14 = .ok (.iconst 0, 1) := by decide +kernel
theorem dX10_gap_15 : decode cX10_gap 15 = .ok (.istore_n 3, 1) := by decide +kernel
theorem dX10_gap_16 : decode cX10_gap 16 = .ok (.iconst 0, 1) := by decide +kernel
theorem dX10_gap_17 : decode cX10_gap 17 = .ok (.istore 4, 2) := by decide +kernel
theorem dX10_gap_19 : decode cX10_gap 19 = .ok (.aload_n 0, 1) := by decide +kernel
theorem dX10_gap_20 : decode cX10_gap 20 = .ok (.getfield 10, 3) := by decide +kernel
theorem dX10_gap_23 : decode cX10_gap 23 = .ok (.getfield 79, 3) := by decide +kernel
theorem dX10_gap_26 : decode cX10_gap 26 = .ok (.invokevirtual 213, 3) := by decide +kernel
theorem dX10_gap_29 : decode cX10_gap 29 = .ok (.istore 5, 2) := by decide +kernel
theorem dX10_gap_31 : decode cX10_gap 31 = .ok (.aload_n 0, 1) := by decide +kernel
theorem dX10_gap_32 : decode cX10_gap 32 = .ok (.getfield 43, 3) := by decide +kernel
theorem dX10_gap_35 : decode cX10_gap 35 = .ok (.aload_n 0, 1) := by decide +kernel
theorem dX10_gap_36 : decode cX10_gap 36 = .ok (.getfield 10, 3) := by decide +kernel
theorem dX10_gap_39 : decode cX10_gap 39 = .ok (.invokevirtual 148, 3) := by decide +kernel
theorem dX10_gap_42 : decode cX10_gap 42 = .ok (.pop, 1) := by decide +kernel
theorem dX10_gap_43 : decode cX10_gap 43 = .ok (.iconst 0, 1) := by decide +kernel
theorem dX10_gap_44 : decode cX10_gap 44 = .ok (.istore 6, 2) := by decide +kernel
theorem dX10_gap_46 : decode cX10_gap 46 = .ok (.iload 6, 2) := by decide +kernel
theorem dX10_gap_48 : decode cX10_gap 48 = .ok (.iload 5, 2) := by decide +kernel
theorem dX10_gap_50 : decode cX10_gap 50 = .ok (.if_icmp .ge 49, 3) := by decide +kernel
theorem dX10_gap_53 : decode cX10_gap 53 = .ok (.aload_n 0, 1) := by decide +kernel
theorem dX10_gap_54 : decode cX10_gap 54 = .ok (.getfield 43, 3) := by decide +kernel
theorem dX10_gap_57 : decode cX10_gap 57 = .ok (.iload 6, 2) := by decide +kernel
theorem dX10_gap_59 : decode cX10_gap 59 = .ok (.invokevirtual 155, 3) := by decide +kernel
theorem dX10_gap_62 : decode cX10_gap 62 = .ok (.iconst 3, 1) := by decide +kernel
theorem dX10_gap_63 : decode cX10_gap 63 = .ok (.if_icmp .ne 10, 3) := by decide +kernel
theorem dX10_gap_66 : decode cX10_gap 66 = .ok (.iload 4, 2) := by decide +kernel
theorem dX10_gap_68 : decode cX10_gap 68 = .ok (.iconst 1, 1) := by decide +kernel
theorem dX10_gap_69 : decode cX10_gap 69 = .ok (.iadd, 1) := by decide +kernel
theorem dX10_gap_70 : decode cX10_gap 70 = .ok (.goto 4, 3) := by decide +kernel
theorem dX10_gap_73 : decode cX10_gap 73 = .ok (.iconst 0, 1) := by decide +kernel
theorem dX10_gap_74 : decode cX10_gap 74 = .ok (.istore 4, 2) := by decide +kernel
theorem dX10_gap_76 : decode cX10_gap 76 = .ok (.iload 4, 2) := by decide +kernel
theorem dX10_gap_78 : decode cX10_gap 78 = .ok (.iload_n 2, 1) := by decide +kernel
theorem dX10_gap_79 : decode cX10_gap 79 = .ok (.if_icmp .le 14, 3) := by decide +kernel
theorem dX10_gap_82 : decode cX10_gap 82 = .ok (.iload 4, 2) := by decide +kernel
theorem dX10_gap_84 : decode cX10_gap 84 = .ok (.istore_n 2, 1) := by decide +kernel
theorem dX10_gap_85 : decode cX10_gap 85 = .ok (.iload 6, 2) := by decide +kernel
theorem dX10_gap_87 : decode cX10_gap 87 = .ok (.iload 4, 2) := by decide +kernel
theorem dX10_gap_89 : decode cX10_gap 89 = .ok (.isub, 1) := by decide +kernel
theorem dX10_gap_90 : decode cX10_gap 90 = .ok (.iconst 1, 1) := by decide +kernel
theorem dX10_gap_91 : decode cX10_gap 91 = .ok (.iadd, 1) := by decide +kernel
theorem dX10_gap_92 : decode cX10_gap 92 = .ok (.istore_n 3, 1) := by decide +kernel
theorem dX10_gap_93 : decode cX10_gap 93 = .ok (.iinc 6 1, 3) := by decide +kernel
theorem dX10_gap_96 : decode cX10_gap 96 = .ok (.goto (-50), 3) := by decide +kernel
theorem dX10_gap_99 : decode cX10_gap 99 = .ok (.iload_n 2, 1) := by decide +kernel
theorem dX10_gap_100 : decode cX10_gap 100 = .ok (.ifCond .ne 6, 3) := by decide +kernel
theorem dX10_gap_103 : decode cX10_gap 103 = .ok (.bipush (-5), 2) := by decide +kernel
theorem dX10_gap_105 : decode cX10_gap 105 = .ok (.ireturn, 1) := by decide +kernel
theorem dX10_gap_106 : decode cX10_gap 106 = .ok (.iload_n 1, 1) := by decide +kernel
theorem dX10_gap_107 : decode cX10_gap 107 = .ok (.ifCond .ne 7, 3) := by decide +kernel
theorem dX10_gap_110 : decode cX10_gap 110 = .ok (.iload_n 3, 1) := by decide +kernel
theorem dX10_gap_111 : decode cX10_gap 111 = .ok (.goto 4, 3) := by decide +kernel
theorem dX10_gap_114 : decode cX10_gap 114 = .ok (.iload_n 2, 1) := by decide +kernel
theorem dX10_gap_115 : decode cX10_gap 115 = .ok (.ireturn, 1) := by decide +kernel
set_option maxRecDepth 20000 in
theorem dX10_pressSymbol_0 : decode cX10_pressSymbol 0 = .ok (.aload_n 0, 1) := by decide +kernel
theorem dX10_pressSymbol_1 : decode cX10_pressSymbol 1 = .ok (.getfield 10, 3) := by decide +kernel
theorem dX10_pressSymbol_4 : decode cX10_pressSymbol 4 = .ok (.getfield 79, 3) := by decide +kernel
theorem dX10_pressSymbol_7 : decode cX10_pressSymbol 7 = .ok (.iload_n 1, 1) := by decide +kernel
theorem dX10_pressSymbol_8 : decode cX10_pressSymbol 8 = .ok (.invokevirtual 132, 3) := by decide +kernel
theorem dX10_pressSymbol_11 : decode cX10_pressSymbol 11 = .ok (.ifCond .ne 5, 3) := by decide +kernel
theorem dX10_pressSymbol_14 : decode cX10_pressSymbol 14 = .ok (.iconst (-1), 1) := by decide +kernel
theorem dX10_pressSymbol_15 : decode cX10_pressSymbol 15 = .ok (.ireturn, 1) := by decide +kernel
theorem dX10_pressSymbol_16 : decode cX10_pressSymbol 16 = .ok (.iload_n 2, 1) := by decide +kernel
theorem dX10_pressSymbol_17 : decode cX10_pressSymbol 17 = .ok (.invokestatic 173, 3) := by decide +kernel
theorem dX10_pressSymbol_20 : decode cX10_pressSymbol 20 = .ok (.ifCond .eq 13, 3) := by decide +kernel
theorem dX10_pressSymbol_23 : decode cX10_pressSymbol 23 = .ok (.iload_n 3, 1) := by decide +kernel
theorem dX10_pressSymbol_24 : decode cX10_pressSymbol 24 = .ok (.ifCond .lt 9, 3) := by decide +kernel
theorem dX10_pressSymbol_27 : decode cX10_pressSymbol 27 = .ok (.iload_n 3, 1) := by decide +kernel
theorem dX10_pressSymbol_28 : decode cX10_pressSymbol 28 = .ok (.bipush 16, 2) := by decide +kernel
theorem dX10_pressSymbol_30 : decode cX10_pressSymbol 30 = .ok (.if_icmp .lt 6, 3) := by decide +kernel
theorem dX10_pressSymbol_33 : decode cX10_pressSymbol 33 = .ok (.bipush (-2), 2) := by decide +kernel
theorem dX10_pressSymbol_35 : decode cX10_pressSymbol 35 = .ok (.ireturn, 1) := by decide +kernel
theorem dX10_pressSymbol_36 : decode cX10_pressSymbol 36 = .ok (.iload_n 1, 1) := by decide +kernel
theorem dX10_pressSymbol_37 : decode cX10_pressSymbol 37 = .ok (.invokestatic 145, 3) := by decide +kernel
theorem dX10_pressSymbol_40 : decode cX10_pressSymbol 40 = .ok (.ifCond .eq 6, 3) := by decide +kernel
theorem dX10_pressSymbol_43 : decode cX10_pressSymbol 43 = .ok (.bipush (-4), 2) := by decide +kernel
theorem dX10_pressSymbol_45 : decode cX10_pressSymbol 45 = .ok (.ireturn, 1) := by decide +kernel
theorem dX10_pressSymbol_46 : decode cX10_pressSymbol 46 = .ok (.aload_n 0, 1) := by decide +kernel
theorem dX10_pressSymbol_47 : decode cX10_pressSymbol 47 = .ok (.getfield 10, 3) := by decide +kernel
theorem dX10_pressSymbol_50 : decode cX10_pressSymbol 50 = .ok (.getfield 158, 3) := by decide +kernel
theorem dX10_pressSymbol_53 : decode cX10_pressSymbol 53 = .ok (.iload_n 1, 1) := by decide +kernel
theorem dX10_pressSymbol_54 : decode cX10_pressSymbol 54 = .ok (.iload_n 2, 1) := by decide +kernel
theorem dX10_pressSymbol_55 : decode cX10_pressSymbol 55 = .ok (.invokevirtual 180, 3) := by decide +kernel
theorem dX10_pressSymbol_58 : decode cX10_pressSymbol 58 = .ok (.istore 4, 2) := by decide +kernel
theorem dX10_pressSymbol_60 : decode cX10_pressSymbol 60 = .ok (.iload 4, 2) := by decide +kernel
theorem dX10_pressSymbol_62 : decode cX10_pressSymbol 62 = .ok (.iload_n 3, 1) := by decide +kernel
theorem dX10_pressSymbol_63 : decode cX10_pressSymbol 63 = .ok (.if_icmp .ne 6, 3) := by decide +kernel
theorem dX10_pressSymbol_66 : decode cX10_pressSymbol 66 = .ok (.bipush (-5), 2) := by decide +kernel
theorem dX10_pressSymbol_68 : decode cX10_pressSymbol 68 = .ok (.ireturn, 1) := by decide +kernel
theorem dX10_pressSymbol_69 : decode cX10_pressSymbol 69 = .ok (.aload_n 0, 1) := by decide +kernel
theorem dX10_pressSymbol_70 : decode cX10_pressSymbol 70 = .ok (.getfield 10, 3) := by decide +kernel
theorem dX10_pressSymbol_73 : decode cX10_pressSymbol 73 = .ok (.getfield 158, 3) := by decide +kernel
theorem dX10_pressSymbol_76 : decode cX10_pressSymbol 76 = .ok (.iload_n 1, 1) := by decide +kernel
theorem dX10_pressSymbol_77 : decode cX10_pressSymbol 77 = .ok (.iload_n 2, 1) := by decide +kernel
theorem dX10_pressSymbol_78 : decode cX10_pressSymbol 78 = .ok (.iload_n 3, 1) := by decide +kernel
theorem dX10_pressSymbol_79 : decode cX10_pressSymbol 79 = .ok (.invokevirtual 258, 3) := by decide +kernel
theorem dX10_pressSymbol_82 : decode cX10_pressSymbol 82 = .ok (.ifCond .eq 8, 3) := by decide +kernel
theorem dX10_pressSymbol_85 : decode cX10_pressSymbol 85 = .ok (.iload 4, 2) := by decide +kernel
theorem dX10_pressSymbol_87 : decode cX10_pressSymbol 87 = .ok (.goto 5, 3) := by decide +kernel
theorem dX10_pressSymbol_90 : decode cX10_pressSymbol 90 = .ok (.bipush (-3), 2) := by decide +kernel
theorem dX10_pressSymbol_92 : decode cX10_pressSymbol 92 = .ok (.ireturn, 1) := by decide +kernel
set_option maxRecDepth 20000 in
theorem dX10_addScratch_0 : decode cX10_addScratch 0 = .ok (.iload_n 1, 1) := by decide +kernel
theorem dX10_addScratch_1 : decode cX10_addScratch 1 = .ok (.ifCond .lt 19, 3) := by decide +kernel
theorem dX10_addScratch_4 : decode cX10_addScratch 4 = .ok (.iload_n 1, 1) := by decide +kernel
theorem dX10_addScratch_5 : decode cX10_addScratch 5 = .ok (.iload_n 2, 1) := by decide +kernel
theorem dX10_addScratch_6 : decode cX10_addScratch 6 = .ok (.if_icmp .gt 14, 3) := by decide +kernel
theorem dX10_addScratch_9 : decode cX10_addScratch 9 = .ok (.iload_n 2, 1) := by decide +kernel
theorem dX10_addScratch_10 : decode cX10_addScratch 10 = .ok (.sipush 360, 3) := by decide +kernel
theorem dX10_addScratch_13 : decode cX10_addScratch 13 = .ok (.if_icmp .ge 7, 3) := by decide +kernel
theorem dX10_addScratch_16 : decode cX10_addScratch 16 = .ok (.iconst 1, 1) := by decide +kernel
theorem dX10_addScratch_17 : decode cX10_addScratch 17 = .ok (.goto 4, 3) := by decide +kernel
theorem dX10_addScratch_20 : decode cX10_addScratch 20 = .ok (.iconst 0, 1) := by decide +kernel
theorem dX10_addScratch_21 : decode cX10_addScratch 21 = .ok (.istore 5, 2) := by decide +kernel
theorem dX10_addScratch_23 : decode cX10_addScratch 23 = .ok (.iload_n 3, 1) := by decide +kernel
theorem dX10_addScratch_24 : decode cX10_addScratch 24 = .ok (.ifCond .lt 20, 3) := by decide +kernel
theorem dX10_addScratch_27 : decode cX10_addScratch 27 = .ok (.iload_n 3, 1) := by decide +kernel
theorem dX10_addScratch_28 : decode cX10_addScratch 28 = .ok (.iload 4, 2) := by decide +kernel
theorem dX10_addScratch_30 : decode cX10_addScratch 30 = .ok (.if_icmp .gt 14, 3) := by decide +kernel
theorem dX10_addScratch_33 : decode cX10_addScratch 33 = .ok (.iload 4, 2) := by decide +kernel
theorem dX10_addScratch_35 : decode cX10_addScratch 35 = .ok (.bipush 30, 2) := by decide +kernel
theorem dX10_addScratch_37 : decode cX10_addScratch 37 = .ok (.if_icmp .ge 7, 3) := by decide +kernel
theorem dX10_addScratch_40 : decode cX10_addScratch 40 = .ok (.iconst 1, 1) := by decide +kernel
theorem dX10_addScratch_41 : decode cX10_addScratch 41 = .ok (.goto 4, 3) := by decide +kernel
theorem dX10_addScratch_44 : decode cX10_addScratch 44 = .ok (.iconst 0, 1) := by decide +kernel
theorem dX10_addScratch_45 : decode cX10_addScratch 45 = .ok (.istore 6, 2) := by decide +kernel
theorem dX10_addScratch_47 : decode cX10_addScratch 47 = .ok (.iload 5, 2) := by decide +kernel
theorem dX10_addScratch_49 : decode cX10_addScratch 49 = .ok (.ifCond .eq 8, 3) := by decide +kernel
theorem dX10_addScratch_52 : decode cX10_addScratch 52 = .ok (.iload 6, 2) := by decide +kernel
theorem dX10_addScratch_54 : decode cX10_addScratch 54 = .ok (.ifCond .ne 6, 3) := by decide +kernel
theorem dX10_addScratch_57 : decode cX10_addScratch 57 = .ok (.bipush (-2), 2) := by decide +kernel
theorem dX10_addScratch_59 : decode cX10_addScratch 59 = .ok (.ireturn, 1) := by decide +kernel
theorem dX10_addScratch_60 : decode cX10_addScratch 60 = .ok (.aload_n 0, 1) := by decide +kernel
theorem dX10_addScratch_61 : decode cX10_addScratch 61 = .ok (.getfield 10, 3) := by decide +kernel
theorem dX10_addScratch_64 : decode cX10_addScratch 64 = .ok (.getfield 192, 3) := by decide +kernel
theorem dX10_addScratch_67 : decode cX10_addScratch 67 = .ok (.iload_n 1, 1) := by decide +kernel
theorem dX10_addScratch_68 : decode cX10_addScratch 68 = .ok (.iload_n 2, 1) := by decide +kernel
theorem dX10_addScratch_69 : decode cX10_addScratch 69 = .ok (.iload_n 3, 1) := by decide +kernel
theorem dX10_addScratch_70 : decode cX10_addScratch 70 = .ok (.iload 4, 2) := by decide +kernel
theorem dX10_addScratch_72 : decode cX10_addScratch 72 = .ok (.invokevirtual 262, 3) := by decide +kernel
theorem dX10_addScratch_75 : decode cX10_addScratch 75 = .ok (.ifCond .ne 6, 3) := by decide +kernel
theorem dX10_addScratch_78 : decode cX10_addScratch 78 = .ok (.bipush (-3), 2) := by decide +kernel
theorem dX10_addScratch_80 : decode cX10_addScratch 80 = .ok (.ireturn, 1) := by decide +kernel
theorem dX10_addScratch_81 : decode cX10_addScratch 81 = .ok (.aload_n 0, 1) := by decide +kernel
theorem dX10_addScratch_82 : decode cX10_addScratch 82 = .ok (.getfield 43, 3) := by decide +kernel
theorem dX10_addScratch_85 : decode cX10_addScratch 85 = .ok (.aload_n 0, 1) := by decide +kernel
theorem dX10_addScratch_86 : decode cX10_addScratch 86 = .ok (.getfield 10, 3) := by decide +kernel
theorem dX10_addScratch_89 : decode cX10_addScratch 89 = .ok (.invokevirtual 148, 3) := by decide +kernel
theorem dX10_addScratch_92 : decode cX10_addScratch 92 = .ok (.iconst 0, 1) := by decide +kernel
theorem dX10_addScratch_93 : decode cX10_addScratch 93 = .ok (.sipush 3810, 3) := by decide +kernel
theorem dX10_addScratch_96 : decode cX10_addScratch 96 = .ok (.iconst (-1), 1) := by decide +kernel
theorem dX10_addScratch_97 : decode cX10_addScratch 97 = .ok (.invokevirtual 186, 3) := by decide +kernel
theorem dX10_addScratch_100 : decode cX10_addScratch 100 = .ok (.ireturn, 1) := by decide +kernel
set_option maxRecDepth 20000 in
theorem dX10_polishAway_0 : decode cX10_polishAway 0 = .ok (.aload_n 0, 1) := by decide +kernel
theorem dX10_polishAway_1 : decode cX10_polishAway 1 = .ok (.getfield 10, 3) := by decide +kernel
theorem dX10_polishAway_4 : decode cX10_polishAway 4 = .ok (.getfield 192, 3) := by decide +kernel
theorem dX10_polishAway_7 : decode cX10_polishAway 7 = .ok (.iload_n 1, 1) := by decide +kernel
theorem dX10_polishAway_8 : decode cX10_polishAway 8 = .ok (.invokevirtual 196, 3) := by decide +kernel
theorem dX10_polishAway_11 : decode cX10_polishAway 11 = .ok (.ifCond .ne 5, 3) := by decide +kernel
theorem dX10_polishAway_14 : decode cX10_polishAway 14 = .ok (.iconst (-1), 1) := by decide +kernel
theorem dX10_polishAway_15 : decode cX10_polishAway 15 = .ok (.ireturn, 1) := by decide +kernel
theorem dX10_polishAway_16 : decode cX10_polishAway 16 = .ok (.aload_n 0, 1) := by decide +kernel
theorem dX10_polishAway_17 : decode cX10_polishAway 17 = .ok (.getfield 10, 3) := by decide +kernel
theorem dX10_polishAway_20 : decode cX10_polishAway 20 = .ok (.getfield 192, 3) := by decide +kernel
theorem dX10_polishAway_23 : decode cX10_polishAway 23 = .ok (.iload_n 1, 1) := by decide +kernel
theorem dX10_polishAway_24 : decode cX10_polishAway 24 = .ok (.invokevirtual 266, 3) := by decide +kernel
theorem dX10_polishAway_27 : decode cX10_polishAway 27 = .ok (.aload_n 0, 1) := by decide +kernel
theorem dX10_polishAway_28 : decode cX10_polishAway 28 = .ok (.getfield 43, 3) := by decide +kernel
theorem dX10_polishAway_31 : decode cX10_polishAway 31 = .ok (.aload_n 0, 1) := by decide +kernel
theorem dX10_polishAway_32 : decode cX10_polishAway 32 = .ok (.getfield 10, 3) := by decide +kernel
theorem dX10_polishAway_35 : decode cX10_polishAway 35 = .ok (.invokevirtual 148, 3) := by decide +kernel
theorem dX10_polishAway_38 : decode cX10_polishAway 38 = .ok (.iconst 0, 1) := by decide +kernel
theorem dX10_polishAway_39 : decode cX10_polishAway 39 = .ok (.sipush 3810, 3) := by decide +kernel
theorem dX10_polishAway_42 : decode cX10_polishAway 42 = .ok (.iconst (-1), 1) := by decide +kernel
theorem dX10_polishAway_43 : decode cX10_polishAway 43 = .ok (.invokevirtual 186, 3) := by decide +kernel
theorem dX10_polishAway_46 : decode cX10_polishAway 46 = .ok (.ireturn, 1) := by decide +kernel
set_option maxRecDepth 20000 in
theorem dX10_playFrames_0 : decode cX10_playFrames 0 = .ok (.iload_n 1, 1) := by decide +kernel
theorem dX10_playFrames_1 : decode cX10_playFrames 1 = .ok (.iconst 1, 1) := by decide +kernel
theorem dX10_playFrames_2 : decode cX10_playFrames 2 = .ok (.if_icmp .lt 10, 3) := by decide +kernel
theorem dX10_playFrames_5 : decode cX10_playFrames 5 = .ok (.iload_n 1, 1) := by decide +kernel
theorem dX10_playFrames_6 : decode cX10_playFrames 6 = .ok (.sipush 999, 3) := by decide +kernel
theorem dX10_playFrames_9 : decode cX10_playFrames 9 = .ok (.if_icmp .le 6, 3) := by decide +kernel
theorem dX10_playFrames_12 : decode cX10_playFrames 12 = .ok (.bipush (-2), 2) := by decide +kernel
theorem dX10_playFrames_14 : decode cX10_playFrames 14 = .ok (.ireturn, 1) := by decide +kernel
theorem dX10_playFrames_15 : decode cX10_playFrames 15 = .ok (.aload_n 0, 1) := by decide +kernel
theorem dX10_playFrames_16 : decode cX10_playFrames 16 = .ok (.getfield 10, 3) := by decide +kernel
theorem dX10_playFrames_19 : decode cX10_playFrames 19 = .ok (.getfield 90, 3) := by decide +kernel
theorem dX10_playFrames_22 : decode cX10_playFrames 22 = .ok (.getfield 220, 3) := by decide +kernel
theorem dX10_playFrames_25 : decode cX10_playFrames 25 = .ok (.aload_n 0, 1) := by decide +kernel
theorem dX10_playFrames_26 : decode cX10_playFrames 26 = .ok (.getfield 10, 3) := by decide +kernel
theorem dX10_playFrames_29 : decode cX10_playFrames 29 = .ok (.getfield 79, 3) := by decide +kernel
theorem dX10_playFrames_32 : decode cX10_playFrames 32 = .ok (.invokevirtual 213, 3) := by decide +kernel
theorem dX10_playFrames_35 : decode cX10_playFrames 35 = .ok (.if_icmp .lt 6, 3) := by decide +kernel
theorem dX10_playFrames_38 : decode cX10_playFrames 38 = .ok (.bipush (-5), 2) := by decide +kernel
theorem dX10_playFrames_40 : decode cX10_playFrames 40 = .ok (.ireturn, 1) := by decide +kernel
theorem dX10_playFrames_41 : decode cX10_playFrames 41 = .ok (.aload_n 0, 1) := by decide +kernel
theorem dX10_playFrames_42 : decode cX10_playFrames 42 = .ok (.getfield 10, 3) := by decide +kernel
theorem dX10_playFrames_45 : decode cX10_playFrames 45 = .ok (.getfield 90, 3) := by decide +kernel
theorem dX10_playFrames_48 : decode cX10_playFrames 48 = .ok (.iload_n 1, 1) := by decide +kernel
theorem dX10_playFrames_49 : decode cX10_playFrames 49 = .ok (.aload_n 0, 1) := by decide +kernel
theorem dX10_playFrames_50 : decode cX10_playFrames 50 = .ok (.getfield 10, 3) := by decide +kernel
theorem dX10_playFrames_53 : decode cX10_playFrames 53 = .ok (.getfield 79, 3) := by decide +kernel
theorem dX10_playFrames_56 : decode cX10_playFrames 56 = .ok (.aload_n 0, 1) := by decide +kernel
theorem dX10_playFrames_57 : decode cX10_playFrames 57 = .ok (.getfield 43, 3) := by decide +kernel
theorem dX10_playFrames_60 : decode cX10_playFrames 60 = .ok (.aload_n 0, 1) := by decide +kernel
theorem dX10_playFrames_61 : decode cX10_playFrames 61 = .ok (.getfield 10, 3) := by decide +kernel
theorem dX10_playFrames_64 : decode cX10_playFrames 64 = .ok (.invokevirtual 148, 3) := by decide +kernel
theorem dX10_playFrames_67 : decode cX10_playFrames 67 = .ok (.invokevirtual 269, 3) := by decide +kernel
theorem dX10_playFrames_70 : decode cX10_playFrames 70 = .ok (.ireturn, 1) := by decide +kernel
set_option maxRecDepth 20000 in
theorem dX10_seekFrame_0 : decode cX10_seekFrame 0 = .ok (.aload_n 0, 1) := by decide +kernel
theorem dX10_seekFrame_1 : decode cX10_seekFrame 1 = .ok (.getfield 10, 3) := by decide +kernel
theorem dX10_seekFrame_4 : decode cX10_seekFrame 4 = .ok (.getfield 79, 3) := by decide +kernel
theorem dX10_seekFrame_7 : decode cX10_seekFrame 7 = .ok (.iload_n 1, 1) := by decide +kernel
theorem dX10_seekFrame_8 : decode cX10_seekFrame 8 = .ok (.invokevirtual 132, 3) := by decide +kernel
theorem dX10_seekFrame_11 : decode cX10_seekFrame 11 = .ok (.ifCond .ne 5, 3) := by decide +kernel
theorem dX10_seekFrame_14 : decode cX10_seekFrame 14 = .ok (.iconst (-1), 1) := by decide +kernel
theorem dX10_seekFrame_15 : decode cX10_seekFrame 15 = .ok (.ireturn, 1) := by decide +kernel
theorem dX10_seekFrame_16 : decode cX10_seekFrame 16 = .ok (.aload_n 0, 1) := by decide +kernel
theorem dX10_seekFrame_17 : decode cX10_seekFrame 17 = .ok (.getfield 10, 3) := by decide +kernel
theorem dX10_seekFrame_20 : decode cX10_seekFrame 20 = .ok (.getfield 90, 3) := by decide +kernel
theorem dX10_seekFrame_23 : decode cX10_seekFrame 23 = .ok (.getfield 129, 3) := by decide +kernel
theorem dX10_seekFrame_26 : decode cX10_seekFrame 26 = .ok (.istore_n 2, 1) := by decide +kernel
theorem dX10_seekFrame_27 : decode cX10_seekFrame 27 = .ok (.aload_n 0, 1) := by decide +kernel
theorem dX10_seekFrame_28 : decode cX10_seekFrame 28 = .ok (.getfield 10, 3) := by decide +kernel
theorem dX10_seekFrame_31 : decode cX10_seekFrame 31 = .ok (.getfield 90, 3) := by decide +kernel
theorem dX10_seekFrame_34 : decode cX10_seekFrame 34 = .ok (.iload_n 1, 1) := by decide +kernel
theorem dX10_seekFrame_35 : decode cX10_seekFrame 35 = .ok (.aload_n 0, 1) := by decide +kernel
theorem dX10_seekFrame_36 : decode cX10_seekFrame 36 = .ok (.getfield 10, 3) := by decide +kernel
theorem dX10_seekFrame_39 : decode cX10_seekFrame 39 = .ok (.getfield 79, 3) := by decide +kernel
theorem dX10_seekFrame_42 : decode cX10_seekFrame 42 = .ok (.aload_n 0, 1) := by decide +kernel
theorem dX10_seekFrame_43 : decode cX10_seekFrame 43 = .ok (.getfield 10, 3) := by decide +kernel
theorem dX10_seekFrame_46 : decode cX10_seekFrame 46 = .ok (.getfield 79, 3) := by decide +kernel
theorem dX10_seekFrame_49 : decode cX10_seekFrame 49 = .ok (.getfield 245, 3) := by decide +kernel
theorem dX10_seekFrame_52 : decode cX10_seekFrame 52 = .ok (.invokevirtual 273, 3) := by decide +kernel
theorem dX10_seekFrame_55 : decode cX10_seekFrame 55 = .ok (.aload_n 0, 1) := by decide +kernel
theorem dX10_seekFrame_56 : decode cX10_seekFrame 56 = .ok (.getfield 10, 3) := by decide +kernel
theorem dX10_seekFrame_59 : decode cX10_seekFrame 59 = .ok (.getfield 90, 3) := by decide +kernel
theorem dX10_seekFrame_62 : decode cX10_seekFrame 62 = .ok (.getfield 129, 3) := by decide +kernel
theorem dX10_seekFrame_65 : decode cX10_seekFrame 65 = .ok (.iload_n 2, 1) := by decide +kernel
theorem dX10_seekFrame_66 : decode cX10_seekFrame 66 = .ok (.isub, 1) := by decide +kernel
theorem dX10_seekFrame_67 : decode cX10_seekFrame 67 = .ok (.ireturn, 1) := by decide +kernel
set_option maxRecDepth 20000 in
theorem dX10_doOrder_0 : decode cX10_doOrder 0 = .ok (.aload_n 0, 1) := by decide +kernel
theorem dX10_doOrder_1 : decode cX10_doOrder 1 = .ok (.getfield 36, 3) := by decide +kernel
theorem dX10_doOrder_4 : decode cX10_doOrder 4 = .ok (.iload_n 1, 1) := by decide +kernel
theorem dX10_doOrder_5 : decode cX10_doOrder 5 = .ok (.invokevirtual 277, 3) := by decide +kernel
theorem dX10_doOrder_8 : decode cX10_doOrder 8 = .ok (.astore_n 2, 1) := by decide +kernel
theorem dX10_doOrder_9 : decode cX10_doOrder 9 = .ok (.aload_n 2, 1) := by decide +kernel
theorem dX10_doOrder_10 : decode cX10_doOrder 10 = .ok (.ifnonnull 6, 3) := by decide +kernel
theorem dX10_doOrder_13 : decode cX10_doOrder 13 = .ok (.bipush (-5), 2) := by decide +kernel
theorem dX10_doOrder_15 : decode cX10_doOrder 15 = .ok (.ireturn, 1) := by decide +kernel
theorem dX10_doOrder_16 : decode cX10_doOrder 16 = .ok (.aload_n 0, 1) := by decide +kernel
theorem dX10_doOrder_17 : decode cX10_doOrder 17 = .ok (.getfield 36, 3) := by decide +kernel
theorem dX10_doOrder_20 : decode cX10_doOrder 20 = .ok (.iload_n 1, 1) := by decide +kernel
theorem dX10_doOrder_21 : decode cX10_doOrder 21 = .ok (.iconst 0, 1) := by decide +kernel
theorem dX10_doOrder_22 : decode cX10_doOrder 22 = .ok (.invokevirtual 281, 3) := by decide +kernel
theorem dX10_doOrder_25 : decode cX10_doOrder 25 = .ok (.istore_n 3, 1) := by decide +kernel
theorem dX10_doOrder_26 : decode cX10_doOrder 26 = .ok (.aload_n 0, 1) := by decide +kernel
theorem dX10_doOrder_27 : decode cX10_doOrder 27 = .ok (.getfield 36, 3) := by decide +kernel
theorem dX10_doOrder_30 : decode cX10_doOrder 30 = .ok (.iload_n 1, 1) := by decide +kernel
theorem dX10_doOrder_31 : decode cX10_doOrder 31 = .ok (.iconst 1, 1) := by decide +kernel
theorem dX10_doOrder_32 : decode cX10_doOrder 32 = .ok (.invokevirtual 281, 3) := by decide +kernel
theorem dX10_doOrder_35 : decode cX10_doOrder 35 = .ok (.istore 4, 2) := by decide +kernel
theorem dX10_doOrder_37 : decode cX10_doOrder 37 = .ok (.aload_n 0, 1) := by decide +kernel
theorem dX10_doOrder_38 : decode cX10_doOrder 38 = .ok (.getfield 36, 3) := by decide +kernel
theorem dX10_doOrder_41 : decode cX10_doOrder 41 = .ok (.iload_n 1, 1) := by decide +kernel
theorem dX10_doOrder_42 : decode cX10_doOrder 42 = .ok (.iconst 2, 1) := by decide +kernel
theorem dX10_doOrder_43 : decode cX10_doOrder 43 = .ok (.invokevirtual 281, 3) := by decide +kernel
theorem dX10_doOrder_46 : decode cX10_doOrder 46 = .ok (.istore 5, 2) := by decide +kernel
theorem dX10_doOrder_48 : decode cX10_doOrder 48 = .ok (.getstatic 284, 3) := by decide +kernel
theorem dX10_doOrder_51 : decode cX10_doOrder 51 = .ok (.aload_n 2, 1) := by decide +kernel
theorem dX10_doOrder_52 : decode cX10_doOrder 52 = .ok (.invokevirtual 290, 3) := by decide +kernel
theorem dX10_doOrder_55 : decode cX10_doOrder 55 = .ok (.iaload, 1) := by decide +kernel
theorem dX10_doOrder_56 : decode cX10_doOrder 56 = .ok (.tableswitch 83 1 5 #[36, 55, 61, 67, 73], 36) := by decide +kernel
theorem dX10_doOrder_92 : decode cX10_doOrder 92 = .ok (.aload_n 0, 1) := by decide +kernel
theorem dX10_doOrder_93 : decode cX10_doOrder 93 = .ok (.iload_n 3, 1) := by decide +kernel
theorem dX10_doOrder_94 : decode cX10_doOrder 94 = .ok (.iload 4, 2) := by decide +kernel
theorem dX10_doOrder_96 : decode cX10_doOrder 96 = .ok (.iload 5, 2) := by decide +kernel
theorem dX10_doOrder_98 : decode cX10_doOrder 98 = .ok (.aload_n 0, 1) := by decide +kernel
theorem dX10_doOrder_99 : decode cX10_doOrder 99 = .ok (.getfield 36, 3) := by decide +kernel
theorem dX10_doOrder_102 : decode cX10_doOrder 102 = .ok (.iload_n 1, 1) := by decide +kernel
theorem dX10_doOrder_103 : decode cX10_doOrder 103 = .ok (.iconst 3, 1) := by decide +kernel
theorem dX10_doOrder_104 : decode cX10_doOrder 104 = .ok (.invokevirtual 281, 3) := by decide +kernel
theorem dX10_doOrder_107 : decode cX10_doOrder 107 = .ok (.invokevirtual 66, 3) := by decide +kernel
theorem dX10_doOrder_110 : decode cX10_doOrder 110 = .ok (.ireturn, 1) := by decide +kernel
theorem dX10_doOrder_111 : decode cX10_doOrder 111 = .ok (.aload_n 0, 1) := by decide +kernel
theorem dX10_doOrder_112 : decode cX10_doOrder 112 = .ok (.iload_n 3, 1) := by decide +kernel
theorem dX10_doOrder_113 : decode cX10_doOrder 113 = .ok (.invokevirtual 70, 3) := by decide +kernel
theorem dX10_doOrder_116 : decode cX10_doOrder 116 = .ok (.ireturn, 1) := by decide +kernel
theorem dX10_doOrder_117 : decode cX10_doOrder 117 = .ok (.aload_n 0, 1) := by decide +kernel
theorem dX10_doOrder_118 : decode cX10_doOrder 118 = .ok (.iload_n 3, 1) := by decide +kernel
theorem dX10_doOrder_119 : decode cX10_doOrder 119 = .ok (.invokevirtual 100, 3) := by decide +kernel
theorem dX10_doOrder_122 : decode cX10_doOrder 122 = .ok (.ireturn, 1) := by decide +kernel
theorem dX10_doOrder_123 : decode cX10_doOrder 123 = .ok (.aload_n 0, 1) := by decide +kernel
theorem dX10_doOrder_124 : decode cX10_doOrder 124 = .ok (.iload_n 3, 1) := by decide +kernel
theorem dX10_doOrder_125 : decode cX10_doOrder 125 = .ok (.invokevirtual 97, 3) := by decide +kernel
theorem dX10_doOrder_128 : decode cX10_doOrder 128 = .ok (.ireturn, 1) := by decide +kernel
theorem dX10_doOrder_129 : decode cX10_doOrder 129 = .ok (.aload_n 0, 1) := by decide +kernel
theorem dX10_doOrder_130 : decode cX10_doOrder 130 = .ok (.iload_n 3, 1) := by decide +kernel
theorem dX10_doOrder_131 : decode cX10_doOrder 131 = .ok (.iload 4, 2) := by decide +kernel
theorem dX10_doOrder_133 : decode cX10_doOrder 133 = .ok (.iload 5, 2) := by decide +kernel
theorem dX10_doOrder_135 : decode cX10_doOrder 135 = .ok (.invokevirtual 58, 3) := by decide +kernel
theorem dX10_doOrder_138 : decode cX10_doOrder 138 = .ok (.ireturn, 1) := by decide +kernel
theorem dX10_doOrder_139 : decode cX10_doOrder 139 = .ok (.bipush (-5), 2) := by decide +kernel
theorem dX10_doOrder_141 : decode cX10_doOrder 141 = .ok (.ireturn, 1) := by decide +kernel
set_option maxRecDepth 20000 in
theorem dX10_recorded_0 : decode cX10_recorded 0 = .ok (.iload_n 1, 1) := by decide +kernel
theorem dX10_recorded_1 : decode cX10_recorded 1 = .ok (.ifCond .lt 14, 3) := by decide +kernel
theorem dX10_recorded_4 : decode cX10_recorded 4 = .ok (.aload_n 0, 1) := by decide +kernel
theorem dX10_recorded_5 : decode cX10_recorded 5 = .ok (.getfield 29, 3) := by decide +kernel
theorem dX10_recorded_8 : decode cX10_recorded 8 = .ok (.aload_n 0, 1) := by decide +kernel
theorem dX10_recorded_9 : decode cX10_recorded 9 = .ok (.getfield 16, 3) := by decide +kernel
theorem dX10_recorded_12 : decode cX10_recorded 12 = .ok (.invokevirtual 295, 3) := by decide +kernel
theorem dX10_recorded_15 : decode cX10_recorded 15 = .ok (.iload_n 1, 1) := by decide +kernel
theorem dX10_recorded_16 : decode cX10_recorded 16 = .ok (.ireturn, 1) := by decide +kernel
set_option maxRecDepth 20000 in
theorem dX10_countSetting_0 : decode cX10_countSetting 0 = .ok (.iload_n 1, 1) := by decide +kernel
theorem dX10_countSetting_1 : decode cX10_countSetting 1 = .ok (.invokestatic 297, 3) := by decide +kernel
theorem dX10_countSetting_4 : decode cX10_countSetting 4 = .ok (.ifCond .eq 17, 3) := by decide +kernel
theorem dX10_countSetting_7 : decode cX10_countSetting 7 = .ok (.aload_n 0, 1) := by decide +kernel
theorem dX10_countSetting_8 : decode cX10_countSetting 8 = .ok (.getfield 10, 3) := by decide +kernel
theorem dX10_countSetting_11 : decode cX10_countSetting 11 = .ok (.getfield 79, 3) := by decide +kernel
theorem dX10_countSetting_14 : decode cX10_countSetting 14 = .ok (.iload_n 1, 1) := by decide +kernel
theorem dX10_countSetting_15 : decode cX10_countSetting 15 = .ok (.invokevirtual 83, 3) := by decide +kernel
theorem dX10_countSetting_18 : decode cX10_countSetting 18 = .ok (.goto 5, 3) := by decide +kernel
theorem dX10_countSetting_21 : decode cX10_countSetting 21 = .ok (.bipush (-2), 2) := by decide +kernel
theorem dX10_countSetting_23 : decode cX10_countSetting 23 = .ok (.ireturn, 1) := by decide +kernel
set_option maxRecDepth 20000 in
theorem dX10_toldSymbol_0 : decode cX10_toldSymbol 0 = .ok (.aload_n 0, 1) := by decide +kernel
theorem dX10_toldSymbol_1 : decode cX10_toldSymbol 1 = .ok (.getfield 43, 3) := by decide +kernel
theorem dX10_toldSymbol_4 : decode cX10_toldSymbol 4 = .ok (.aload_n 0, 1) := by decide +kernel
theorem dX10_toldSymbol_5 : decode cX10_toldSymbol 5 = .ok (.getfield 10, 3) := by decide +kernel
theorem dX10_toldSymbol_8 : decode cX10_toldSymbol 8 = .ok (.invokevirtual 148, 3) := by decide +kernel
theorem dX10_toldSymbol_11 : decode cX10_toldSymbol 11 = .ok (.iload_n 1, 1) := by decide +kernel
theorem dX10_toldSymbol_12 : decode cX10_toldSymbol 12 = .ok (.invokevirtual 155, 3) := by decide +kernel
theorem dX10_toldSymbol_15 : decode cX10_toldSymbol 15 = .ok (.istore_n 3, 1) := by decide +kernel
theorem dX10_toldSymbol_16 : decode cX10_toldSymbol 16 = .ok (.iload_n 3, 1) := by decide +kernel
theorem dX10_toldSymbol_17 : decode cX10_toldSymbol 17 = .ok (.iconst 3, 1) := by decide +kernel
theorem dX10_toldSymbol_18 : decode cX10_toldSymbol 18 = .ok (.if_icmp .ne 6, 3) := by decide +kernel
theorem dX10_toldSymbol_21 : decode cX10_toldSymbol 21 = .ok (.bipush (-5), 2) := by decide +kernel
theorem dX10_toldSymbol_23 : decode cX10_toldSymbol 23 = .ok (.ireturn, 1) := by decide +kernel
theorem dX10_toldSymbol_24 : decode cX10_toldSymbol 24 = .ok (.iload_n 3, 1) := by decide +kernel
theorem dX10_toldSymbol_25 : decode cX10_toldSymbol 25 = .ok (.iconst 2, 1) := by decide +kernel
theorem dX10_toldSymbol_26 : decode cX10_toldSymbol 26 = .ok (.if_icmp .ne 12, 3) := by decide +kernel
theorem dX10_toldSymbol_29 : decode cX10_toldSymbol 29 = .ok (.aload_n 0, 1) := by decide +kernel
theorem dX10_toldSymbol_30 : decode cX10_toldSymbol 30 = .ok (.iload_n 1, 1) := by decide +kernel
theorem dX10_toldSymbol_31 : decode cX10_toldSymbol 31 = .ok (.iload_n 2, 1) := by decide +kernel
theorem dX10_toldSymbol_32 : decode cX10_toldSymbol 32 = .ok (.invokevirtual 300, 3) := by decide +kernel
theorem dX10_toldSymbol_35 : decode cX10_toldSymbol 35 = .ok (.goto 15, 3) := by decide +kernel
theorem dX10_toldSymbol_38 : decode cX10_toldSymbol 38 = .ok (.aload_n 0, 1) := by decide +kernel
theorem dX10_toldSymbol_39 : decode cX10_toldSymbol 39 = .ok (.getfield 10, 3) := by decide +kernel
theorem dX10_toldSymbol_42 : decode cX10_toldSymbol 42 = .ok (.getfield 158, 3) := by decide +kernel
theorem dX10_toldSymbol_45 : decode cX10_toldSymbol 45 = .ok (.iload_n 1, 1) := by decide +kernel
theorem dX10_toldSymbol_46 : decode cX10_toldSymbol 46 = .ok (.iload_n 2, 1) := by decide +kernel
theorem dX10_toldSymbol_47 : decode cX10_toldSymbol 47 = .ok (.invokevirtual 180, 3) := by decide +kernel
theorem dX10_toldSymbol_50 : decode cX10_toldSymbol 50 = .ok (.ireturn, 1) := by decide +kernel
set_option maxRecDepth 20000 in
theorem dX10_filledSymbol_0 : decode cX10_filledSymbol 0 = .ok (.aload_n 0, 1) := by decide +kernel
theorem dX10_filledSymbol_1 : decode cX10_filledSymbol 1 = .ok (.getfield 10, 3) := by decide +kernel
theorem dX10_filledSymbol_4 : decode cX10_filledSymbol 4 = .ok (.getfield 158, 3) := by decide +kernel
theorem dX10_filledSymbol_7 : decode cX10_filledSymbol 7 = .ok (.iload_n 1, 1) := by decide +kernel
theorem dX10_filledSymbol_8 : decode cX10_filledSymbol 8 = .ok (.invokestatic 303, 3) := by decide +kernel
theorem dX10_filledSymbol_11 : decode cX10_filledSymbol 11 = .ok (.iload_n 2, 1) := by decide +kernel
theorem dX10_filledSymbol_12 : decode cX10_filledSymbol 12 = .ok (.invokevirtual 180, 3) := by decide +kernel
theorem dX10_filledSymbol_15 : decode cX10_filledSymbol 15 = .ok (.istore_n 3, 1) := by decide +kernel
theorem dX10_filledSymbol_16 : decode cX10_filledSymbol 16 = .ok (.aload_n 0, 1) := by decide +kernel
theorem dX10_filledSymbol_17 : decode cX10_filledSymbol 17 = .ok (.getfield 10, 3) := by decide +kernel
theorem dX10_filledSymbol_20 : decode cX10_filledSymbol 20 = .ok (.getfield 158, 3) := by decide +kernel
theorem dX10_filledSymbol_23 : decode cX10_filledSymbol 23 = .ok (.iload_n 1, 1) := by decide +kernel
theorem dX10_filledSymbol_24 : decode cX10_filledSymbol 24 = .ok (.invokestatic 306, 3) := by decide +kernel
theorem dX10_filledSymbol_27 : decode cX10_filledSymbol 27 = .ok (.iload_n 2, 1) := by decide +kernel
theorem dX10_filledSymbol_28 : decode cX10_filledSymbol 28 = .ok (.invokevirtual 180, 3) := by decide +kernel
theorem dX10_filledSymbol_31 : decode cX10_filledSymbol 31 = .ok (.istore 4, 2) := by decide +kernel
theorem dX10_filledSymbol_33 : decode cX10_filledSymbol 33 = .ok (.iload_n 3, 1) := by decide +kernel
theorem dX10_filledSymbol_34 : decode cX10_filledSymbol 34 = .ok (.iload 4, 2) := by decide +kernel
theorem dX10_filledSymbol_36 : decode cX10_filledSymbol 36 = .ok (.iadd, 1) := by decide +kernel
theorem dX10_filledSymbol_37 : decode cX10_filledSymbol 37 = .ok (.iconst 2, 1) := by decide +kernel
theorem dX10_filledSymbol_38 : decode cX10_filledSymbol 38 = .ok (.idiv, 1) := by decide +kernel
theorem dX10_filledSymbol_39 : decode cX10_filledSymbol 39 = .ok (.ireturn, 1) := by decide +kernel
set_option maxRecDepth 20000 in
theorem dX10_isToldRight_0 : decode cX10_isToldRight 0 = .ok (.aload_n 0, 1) := by decide +kernel
theorem dX10_isToldRight_1 : decode cX10_isToldRight 1 = .ok (.getfield 43, 3) := by decide +kernel
theorem dX10_isToldRight_4 : decode cX10_isToldRight 4 = .ok (.iload_n 1, 1) := by decide +kernel
theorem dX10_isToldRight_5 : decode cX10_isToldRight 5 = .ok (.invokevirtual 155, 3) := by decide +kernel
theorem dX10_isToldRight_8 : decode cX10_isToldRight 8 = .ok (.istore_n 2, 1) := by decide +kernel
theorem dX10_isToldRight_9 : decode cX10_isToldRight 9 = .ok (.iload_n 2, 1) := by decide +kernel
theorem dX10_isToldRight_10 : decode cX10_isToldRight 10 = .ok (.iconst 3, 1) := by decide +kernel
theorem dX10_isToldRight_11 : decode cX10_isToldRight 11 = .ok (.if_icmp .eq 7, 3) := by decide +kernel
theorem dX10_isToldRight_14 : decode cX10_isToldRight 14 = .ok (.iconst 1, 1) := by decide +kernel
theorem dX10_isToldRight_15 : decode cX10_isToldRight 15 = .ok (.goto 4, 3) := by decide +kernel
theorem dX10_isToldRight_18 : decode cX10_isToldRight 18 = .ok (.iconst 0, 1) := by decide +kernel
theorem dX10_isToldRight_19 : decode cX10_isToldRight 19 = .ok (.istore_n 3, 1) := by decide +kernel
theorem dX10_isToldRight_20 : decode cX10_isToldRight 20 = .ok (.iconst 0, 1) := by decide +kernel
theorem dX10_isToldRight_21 : decode cX10_isToldRight 21 = .ok (.istore 4, 2) := by decide +kernel
theorem dX10_isToldRight_23 : decode cX10_isToldRight 23 = .ok (.iload 4, 2) := by decide +kernel
theorem dX10_isToldRight_25 : decode cX10_isToldRight 25 = .ok (.iconst 4, 1) := by decide +kernel
theorem dX10_isToldRight_26 : decode cX10_isToldRight 26 = .ok (.if_icmp .ge 47, 3) := by decide +kernel
theorem dX10_isToldRight_29 : decode cX10_isToldRight 29 = .ok (.iload_n 3, 1) := by decide +kernel
theorem dX10_isToldRight_30 : decode cX10_isToldRight 30 = .ok (.ifCond .eq 43, 3) := by decide +kernel
theorem dX10_isToldRight_33 : decode cX10_isToldRight 33 = .ok (.iload_n 2, 1) := by decide +kernel
theorem dX10_isToldRight_34 : decode cX10_isToldRight 34 = .ok (.iconst 2, 1) := by decide +kernel
theorem dX10_isToldRight_35 : decode cX10_isToldRight 35 = .ok (.if_icmp .ne 38, 3) := by decide +kernel
theorem dX10_isToldRight_38 : decode cX10_isToldRight 38 = .ok (.aload_n 0, 1) := by decide +kernel
theorem dX10_isToldRight_39 : decode cX10_isToldRight 39 = .ok (.iload_n 1, 1) := by decide +kernel
theorem dX10_isToldRight_40 : decode cX10_isToldRight 40 = .ok (.iload 4, 2) := by decide +kernel
theorem dX10_isToldRight_42 : decode cX10_isToldRight 42 = .ok (.invokevirtual 300, 3) := by decide +kernel
theorem dX10_isToldRight_45 : decode cX10_isToldRight 45 = .ok (.aload_n 0, 1) := by decide +kernel
theorem dX10_isToldRight_46 : decode cX10_isToldRight 46 = .ok (.getfield 10, 3) := by decide +kernel
theorem dX10_isToldRight_49 : decode cX10_isToldRight 49 = .ok (.getfield 158, 3) := by decide +kernel
theorem dX10_isToldRight_52 : decode cX10_isToldRight 52 = .ok (.iload_n 1, 1) := by decide +kernel
theorem dX10_isToldRight_53 : decode cX10_isToldRight 53 = .ok (.iload 4, 2) := by decide +kernel
theorem dX10_isToldRight_55 : decode cX10_isToldRight 55 = .ok (.invokevirtual 180, 3) := by decide +kernel
theorem dX10_isToldRight_58 : decode cX10_isToldRight 58 = .ok (.if_icmp .ne 7, 3) := by decide +kernel
theorem dX10_isToldRight_61 : decode cX10_isToldRight 61 = .ok (.iconst 1, 1) := by decide +kernel
theorem dX10_isToldRight_62 : decode cX10_isToldRight 62 = .ok (.goto 4, 3) := by decide +kernel
theorem dX10_isToldRight_65 : decode cX10_isToldRight 65 = .ok (.iconst 0, 1) := by decide +kernel
theorem dX10_isToldRight_66 : decode cX10_isToldRight 66 = .ok (.istore_n 3, 1) := by decide +kernel
theorem dX10_isToldRight_67 : decode cX10_isToldRight 67 = .ok (.iinc 4 1, 3) := by decide +kernel
theorem dX10_isToldRight_70 : decode cX10_isToldRight 70 = .ok (.goto (-47), 3) := by decide +kernel
theorem dX10_isToldRight_73 : decode cX10_isToldRight 73 = .ok (.iload_n 3, 1) := by decide +kernel
theorem dX10_isToldRight_74 : decode cX10_isToldRight 74 = .ok (.ireturn, 1) := by decide +kernel
set_option maxRecDepth 20000 in
theorem dX10_trySeek_0 : decode cX10_trySeek 0 = .ok (.aload_n 0, 1) := by decide +kernel
theorem dX10_trySeek_1 : decode cX10_trySeek 1 = .ok (.getfield 50, 3) := by decide +kernel
theorem dX10_trySeek_4 : decode cX10_trySeek 4 = .ok (.aload_n 0, 1) := by decide +kernel
theorem dX10_trySeek_5 : decode cX10_trySeek 5 = .ok (.getfield 10, 3) := by decide +kernel
theorem dX10_trySeek_8 : decode cX10_trySeek 8 = .ok (.getfield 90, 3) := by decide +kernel
theorem dX10_trySeek_11 : decode cX10_trySeek 11 = .ok (.invokevirtual 309, 3) := by decide +kernel
theorem dX10_trySeek_14 : decode cX10_trySeek 14 = .ok (.aload_n 0, 1) := by decide +kernel
theorem dX10_trySeek_15 : decode cX10_trySeek 15 = .ok (.getfield 50, 3) := by decide +kernel
theorem dX10_trySeek_18 : decode cX10_trySeek 18 = .ok (.iload_n 1, 1) := by decide +kernel
theorem dX10_trySeek_19 : decode cX10_trySeek 19 = .ok (.aload_n 0, 1) := by decide +kernel
theorem dX10_trySeek_20 : decode cX10_trySeek 20 = .ok (.getfield 10, 3) := by decide +kernel
theorem dX10_trySeek_23 : decode cX10_trySeek 23 = .ok (.getfield 79, 3) := by decide +kernel
theorem dX10_trySeek_26 : decode cX10_trySeek 26 = .ok (.iload_n 2, 1) := by decide +kernel
theorem dX10_trySeek_27 : decode cX10_trySeek 27 = .ok (.invokevirtual 273, 3) := by decide +kernel
theorem dX10_trySeek_30 : decode cX10_trySeek 30 = .ok (.aload_n 0, 1) := by decide +kernel
theorem dX10_trySeek_31 : decode cX10_trySeek 31 = .ok (.getfield 50, 3) := by decide +kernel
theorem dX10_trySeek_34 : decode cX10_trySeek 34 = .ok (.getfield 129, 3) := by decide +kernel
theorem dX10_trySeek_37 : decode cX10_trySeek 37 = .ok (.aload_n 0, 1) := by decide +kernel
theorem dX10_trySeek_38 : decode cX10_trySeek 38 = .ok (.getfield 10, 3) := by decide +kernel
theorem dX10_trySeek_41 : decode cX10_trySeek 41 = .ok (.getfield 90, 3) := by decide +kernel
theorem dX10_trySeek_44 : decode cX10_trySeek 44 = .ok (.getfield 129, 3) := by decide +kernel
theorem dX10_trySeek_47 : decode cX10_trySeek 47 = .ok (.isub, 1) := by decide +kernel
theorem dX10_trySeek_48 : decode cX10_trySeek 48 = .ok (.ireturn, 1) := by decide +kernel
theorem dX10_isPlace_0 : decode cX10_isPlace 0 = .ok (.iload_n 0, 1) := by decide +kernel
theorem dX10_isPlace_1 : decode cX10_isPlace 1 = .ok (.ifCond .lt 12, 3) := by decide +kernel
theorem dX10_isPlace_4 : decode cX10_isPlace 4 = .ok (.iload_n 0, 1) := by decide +kernel
theorem dX10_isPlace_5 : decode cX10_isPlace 5 = .ok (.iconst 4, 1) := by decide +kernel
theorem dX10_isPlace_6 : decode cX10_isPlace 6 = .ok (.if_icmp .ge 7, 3) := by decide +kernel
theorem dX10_isPlace_9 : decode cX10_isPlace 9 = .ok (.iconst 1, 1) := by decide +kernel
theorem dX10_isPlace_10 : decode cX10_isPlace 10 = .ok (.goto 4, 3) := by decide +kernel
theorem dX10_isPlace_13 : decode cX10_isPlace 13 = .ok (.iconst 0, 1) := by decide +kernel
theorem dX10_isPlace_14 : decode cX10_isPlace 14 = .ok (.ireturn, 1) := by decide +kernel
theorem dX10_at_0 : decode cX10_at 0 = .ok (.iload_n 1, 1) := by decide +kernel
theorem dX10_at_1 : decode cX10_at 1 = .ok (.ifCond .lt 15, 3) := by decide +kernel
theorem dX10_at_4 : decode cX10_at 4 = .ok (.iload_n 1, 1) := by decide +kernel
theorem dX10_at_5 : decode cX10_at 5 = .ok (.aload_n 0, 1) := by decide +kernel
theorem dX10_at_6 : decode cX10_at 6 = .ok (.arraylength, 1) := by decide +kernel
theorem dX10_at_7 : decode cX10_at 7 = .ok (.if_icmp .ge 9, 3) := by decide +kernel
theorem dX10_at_10 : decode cX10_at 10 = .ok (.aload_n 0, 1) := by decide +kernel
theorem dX10_at_11 : decode cX10_at 11 = .ok (.iload_n 1, 1) := by decide +kernel
theorem dX10_at_12 : decode cX10_at 12 = .ok (.iaload, 1) := by decide +kernel
theorem dX10_at_13 : decode cX10_at 13 = .ok (.goto 4, 3) := by decide +kernel
theorem dX10_at_16 : decode cX10_at 16 = .ok (.iconst 0, 1) := by decide +kernel
theorem dX10_at_17 : decode cX10_at 17 = .ok (.ireturn, 1) := by decide +kernel
theorem dX10_put_0 : decode cX10_put 0 = .ok (.iload_n 1, 1) := by decide +kernel
theorem dX10_put_1 : decode cX10_put 1 = .ok (.ifCond .lt 13, 3) := by decide +kernel
theorem dX10_put_4 : decode cX10_put 4 = .ok (.iload_n 1, 1) := by decide +kernel
theorem dX10_put_5 : decode cX10_put 5 = .ok (.aload_n 0, 1) := by decide +kernel
theorem dX10_put_6 : decode cX10_put 6 = .ok (.arraylength, 1) := by decide +kernel
theorem dX10_put_7 : decode cX10_put 7 = .ok (.if_icmp .ge 7, 3) := by decide +kernel
theorem dX10_put_10 : decode cX10_put 10 = .ok (.aload_n 0, 1) := by decide +kernel
theorem dX10_put_11 : decode cX10_put 11 = .ok (.iload_n 1, 1) := by decide +kernel
theorem dX10_put_12 : decode cX10_put 12 = .ok (.iload_n 2, 1) := by decide +kernel
theorem dX10_put_13 : decode cX10_put 13 = .ok (.iastore, 1) := by decide +kernel
theorem dX10_put_14 : decode cX10_put 14 = .ok (.return_, 1) := by decide +kernel
theorem dX11_init_0 : decode cX11_init 0 = .ok (.aload_n 0, 1) := by decide +kernel
theorem dX11_init_1 : decode cX11_init 1 = .ok (.invokespecial 1, 3) := by decide +kernel
theorem dX11_init_4 : decode cX11_init 4 = .ok (.aload_n 0, 1) := by decide +kernel
theorem dX11_init_5 : decode cX11_init 5 = .ok (.sipush 166, 3) := by decide +kernel
theorem dX11_init_8 : decode cX11_init 8 = .ok (.newarray .int, 2) := by decide +kernel
theorem dX11_init_10 : decode cX11_init 10 = .ok (.putfield 7, 3) := by decide +kernel
theorem dX11_init_13 : decode cX11_init 13 = .ok (.aload_n 0, 1) := by decide +kernel
theorem dX11_init_14 : decode cX11_init 14 = .ok (.sipush 166, 3) := by decide +kernel
theorem dX11_init_17 : decode cX11_init 17 = .ok (.newarray .int, 2) := by decide +kernel
theorem dX11_init_19 : decode cX11_init 19 = .ok (.putfield 13, 3) := by decide +kernel
theorem dX11_init_22 : decode cX11_init 22 = .ok (.aload_n 0, 1) := by decide +kernel
theorem dX11_init_23 : decode cX11_init 23 = .ok (.sipush 664, 3) := by decide +kernel
theorem dX11_init_26 : decode cX11_init 26 = .ok (.newarray .int, 2) := by decide +kernel
theorem dX11_init_28 : decode cX11_init 28 = .ok (.putfield 16, 3) := by decide +kernel
theorem dX11_init_31 : decode cX11_init 31 = .ok (.aload_n 0, 1) := by decide +kernel
theorem dX11_init_32 : decode cX11_init 32 = .ok (.sipush 166, 3) := by decide +kernel
theorem dX11_init_35 : decode cX11_init 35 = .ok (.newarray .int, 2) := by decide +kernel
theorem dX11_init_37 : decode cX11_init 37 = .ok (.putfield 19, 3) := by decide +kernel
theorem dX11_init_40 : decode cX11_init 40 = .ok (.aload_n 0, 1) := by decide +kernel
theorem dX11_init_41 : decode cX11_init 41 = .ok (.bipush 60, 2) := by decide +kernel
theorem dX11_init_43 : decode cX11_init 43 = .ok (.newarray .int, 2) := by decide +kernel
theorem dX11_init_45 : decode cX11_init 45 = .ok (.putfield 22, 3) := by decide +kernel
theorem dX11_init_48 : decode cX11_init 48 = .ok (.aload_n 0, 1) := by decide +kernel
theorem dX11_init_49 : decode cX11_init 49 = .ok (.sipush 3810, 3) := by decide +kernel
theorem dX11_init_52 : decode cX11_init 52 = .ok (.newarray .boolean, 2) := by decide +kernel
theorem dX11_init_54 : decode cX11_init 54 = .ok (.putfield 25, 3) := by decide +kernel
theorem dX11_init_57 : decode cX11_init 57 = .ok (.aload_n 0, 1) := by decide +kernel
theorem dX11_init_58 : decode cX11_init 58 = .ok (.getfield 7, 3) := by decide +kernel
theorem dX11_init_61 : decode cX11_init 61 = .ok (.iconst 0, 1) := by decide +kernel
theorem dX11_init_62 : decode cX11_init 62 = .ok (.bipush 20, 2) := by decide +kernel
theorem dX11_init_64 : decode cX11_init 64 = .ok (.iastore, 1) := by decide +kernel
theorem dX11_init_65 : decode cX11_init 65 = .ok (.aload_n 0, 1) := by decide +kernel
theorem dX11_init_66 : decode cX11_init 66 = .ok (.getfield 7, 3) := by decide +kernel
theorem dX11_init_69 : decode cX11_init 69 = .ok (.iconst 1, 1) := by decide +kernel
theorem dX11_init_70 : decode cX11_init 70 = .ok (.iconst 2, 1) := by decide +kernel
theorem dX11_init_71 : decode cX11_init 71 = .ok (.iastore, 1) := by decide +kernel
theorem dX11_init_72 : decode cX11_init 72 = .ok (.aload_n 0, 1) := by decide +kernel
theorem dX11_init_73 : decode cX11_init 73 = .ok (.getfield 7, 3) := by decide +kernel
theorem dX11_init_76 : decode cX11_init 76 = .ok (.iconst 2, 1) := by decide +kernel
theorem dX11_init_77 : decode cX11_init 77 = .ok (.iconst 3, 1) := by decide +kernel
theorem dX11_init_78 : decode cX11_init 78 = .ok (.iastore, 1) := by decide +kernel
theorem dX11_init_79 : decode cX11_init 79 = .ok (.aload_n 0, 1) := by decide +kernel
theorem dX11_init_80 : decode cX11_init 80 = .ok (.getfield 7, 3) := by decide +kernel
theorem dX11_init_83 : decode cX11_init 83 = .ok (.iconst 3, 1) := by decide +kernel
theorem dX11_init_84 : decode cX11_init 84 = .ok (.iconst 1, 1) := by decide +kernel
theorem dX11_init_85 : decode cX11_init 85 = .ok (.iastore, 1) := by decide +kernel
theorem dX11_init_86 : decode cX11_init 86 = .ok (.aload_n 0, 1) := by decide +kernel
theorem dX11_init_87 : decode cX11_init 87 = .ok (.getfield 7, 3) := by decide +kernel
theorem dX11_init_90 : decode cX11_init 90 = .ok (.iconst 4, 1) := by decide +kernel
theorem dX11_init_91 : decode cX11_init 91 = .ok (.bipush 90, 2) := by decide +kernel
theorem dX11_init_93 : decode cX11_init 93 = .ok (.iastore, 1) := by decide +kernel
theorem dX11_init_94 : decode cX11_init 94 = .ok (.aload_n 0, 1) := by decide +kernel
theorem dX11_init_95 : decode cX11_init 95 = .ok (.getfield 7, 3) := by decide +kernel
theorem dX11_init_98 : decode cX11_init 98 = .ok (.iconst 5, 1) := by decide +kernel
theorem dX11_init_99 : decode cX11_init 99 = .ok (.iconst 4, 1) := by decide +kernel
theorem dX11_init_100 : decode cX11_init 100 = .ok (.iastore, 1) := by decide +kernel
theorem dX11_init_101 : decode cX11_init 101 = .ok (.aload_n 0, 1) := by decide +kernel
theorem dX11_init_102 : decode cX11_init 102 = .ok (.getfield 7, 3) := by decide +kernel
theorem dX11_init_105 : decode cX11_init 105 = .ok (.bipush 7, 2) := by decide +kernel
theorem dX11_init_107 : decode cX11_init 107 = .ok (.bipush 20, 2) := by decide +kernel
theorem dX11_init_109 : decode cX11_init 109 = .ok (.iastore, 1) := by decide +kernel
theorem dX11_init_110 : decode cX11_init 110 = .ok (.return_, 1) := by decide +kernel
theorem dX11_in_0 : decode cX11_in 0 = .ok (.iload_n 0, 1) := by decide +kernel
theorem dX11_in_1 : decode cX11_in 1 = .ok (.iload_n 1, 1) := by decide +kernel
theorem dX11_in_2 : decode cX11_in 2 = .ok (.if_icmp .lt 12, 3) := by decide +kernel
theorem dX11_in_5 : decode cX11_in 5 = .ok (.iload_n 0, 1) := by decide +kernel
theorem dX11_in_6 : decode cX11_in 6 = .ok (.iload_n 2, 1) := by decide +kernel
theorem dX11_in_7 : decode cX11_in 7 = .ok (.if_icmp .gt 7, 3) := by decide +kernel
theorem dX11_in_10 : decode cX11_in 10 = .ok (.iconst 1, 1) := by decide +kernel
theorem dX11_in_11 : decode cX11_in 11 = .ok (.goto 4, 3) := by decide +kernel
theorem dX11_in_14 : decode cX11_in 14 = .ok (.iconst 0, 1) := by decide +kernel
theorem dX11_in_15 : decode cX11_in 15 = .ok (.ireturn, 1) := by decide +kernel
theorem dX11_size_0 : decode cX11_size 0 = .ok (.iload_n 0, 1) := by decide +kernel
theorem dX11_size_1 : decode cX11_size 1 = .ok (.ifCond .ge 8, 3) := by decide +kernel
theorem dX11_size_4 : decode cX11_size 4 = .ok (.iload_n 0, 1) := by decide +kernel
theorem dX11_size_5 : decode cX11_size 5 = .ok (.ineg, 1) := by decide +kernel
theorem dX11_size_6 : decode cX11_size 6 = .ok (.goto 4, 3) := by decide +kernel
theorem dX11_size_9 : decode cX11_size 9 = .ok (.iload_n 0, 1) := by decide +kernel
theorem dX11_size_10 : decode cX11_size 10 = .ok (.ireturn, 1) := by decide +kernel
theorem dX11_putAside_0 : decode cX11_putAside 0 = .ok (.iconst 0, 1) := by decide +kernel
theorem dX11_putAside_1 : decode cX11_putAside 1 = .ok (.istore_n 1, 1) := by decide +kernel
theorem dX11_putAside_2 : decode cX11_putAside 2 = .ok (.iload_n 1, 1) := by decide +kernel
theorem dX11_putAside_3 : decode cX11_putAside 3 = .ok (.sipush 166, 3) := by decide +kernel
theorem dX11_putAside_6 : decode cX11_putAside 6 = .ok (.if_icmp .ge 21, 3) := by decide +kernel
theorem dX11_putAside_9 : decode cX11_putAside 9 = .ok (.aload_n 0, 1) := by decide +kernel
theorem dX11_putAside_10 : decode cX11_putAside 10 = .ok (.getfield 13, 3) := by decide +kernel
theorem dX11_putAside_13 : decode cX11_putAside 13 = .ok (.iload_n 1, 1) := by decide +kernel
theorem dX11_putAside_14 : decode cX11_putAside 14 = .ok (.aload_n 0, 1) := by decide +kernel
theorem dX11_putAside_15 : decode cX11_putAside 15 = .ok (.getfield 7, 3) := by decide +kernel
theorem dX11_putAside_18 : decode cX11_putAside 18 = .ok (.iload_n 1, 1) := by decide +kernel
theorem dX11_putAside_19 : decode cX11_putAside 19 = .ok (.iaload, 1) := by decide +kernel
theorem dX11_putAside_20 : decode cX11_putAside 20 = .ok (.iastore, 1) := by decide +kernel
theorem dX11_putAside_21 : decode cX11_putAside 21 = .ok (.iinc 1 1, 3) := by decide +kernel
theorem dX11_putAside_24 : decode cX11_putAside 24 = .ok (.goto (-22), 3) := by decide +kernel
theorem dX11_putAside_27 : decode cX11_putAside 27 = .ok (.return_, 1) := by decide +kernel
theorem dX11_putBack_0 : decode cX11_putBack 0 = .ok (.iconst 0, 1) := by decide +kernel
theorem dX11_putBack_1 : decode cX11_putBack 1 = .ok (.istore_n 1, 1) := by decide +kernel
theorem dX11_putBack_2 : decode cX11_putBack 2 = .ok (.iload_n 1, 1) := by decide +kernel
theorem dX11_putBack_3 : decode cX11_putBack 3 = .ok (.sipush 166, 3) := by decide +kernel
theorem dX11_putBack_6 : decode cX11_putBack 6 = .ok (.if_icmp .ge 21, 3) := by decide +kernel
theorem dX11_putBack_9 : decode cX11_putBack 9 = .ok (.aload_n 0, 1) := by decide +kernel
theorem dX11_putBack_10 : decode cX11_putBack 10 = .ok (.getfield 7, 3) := by decide +kernel
theorem dX11_putBack_13 : decode cX11_putBack 13 = .ok (.iload_n 1, 1) := by decide +kernel
theorem dX11_putBack_14 : decode cX11_putBack 14 = .ok (.aload_n 0, 1) := by decide +kernel
theorem dX11_putBack_15 : decode cX11_putBack 15 = .ok (.getfield 13, 3) := by decide +kernel
theorem dX11_putBack_18 : decode cX11_putBack 18 = .ok (.iload_n 1, 1) := by decide +kernel
theorem dX11_putBack_19 : decode cX11_putBack 19 = .ok (.iaload, 1) := by decide +kernel
theorem dX11_putBack_20 : decode cX11_putBack 20 = .ok (.iastore, 1) := by decide +kernel
theorem dX11_putBack_21 : decode cX11_putBack 21 = .ok (.iinc 1 1, 3) := by decide +kernel
theorem dX11_putBack_24 : decode cX11_putBack 24 = .ok (.goto (-22), 3) := by decide +kernel
theorem dX11_putBack_27 : decode cX11_putBack 27 = .ok (.return_, 1) := by decide +kernel
set_option maxRecDepth 20000 in
theorem dX11_act_0 : decode cX11_act 0 = .ok (.iload_n 1, 1) := by decide +kernel
theorem dX11_act_1 : decode cX11_act 1 = .ok (.ifCond .ge 9, 3) := by decide +kernel
theorem dX11_act_4 : decode cX11_act 4 = .ok (.aload_n 0, 1) := by decide +kernel
theorem dX11_act_5 : decode cX11_act 5 = .ok (.invokevirtual 29, 3) := by decide +kernel
theorem dX11_act_8 : decode cX11_act 8 = .ok (.iload_n 1, 1) := by decide +kernel
theorem dX11_act_9 : decode cX11_act 9 = .ok (.ireturn, 1) := by decide +kernel
theorem dX11_act_10 : decode cX11_act 10 = .ok (.aload_n 0, 1) := by decide +kernel
theorem dX11_act_11 : decode cX11_act 11 = .ok (.getfield 32, 3) := by decide +kernel
theorem dX11_act_14 : decode cX11_act 14 = .ok (.iconst 4, 1) := by decide +kernel
theorem dX11_act_15 : decode cX11_act 15 = .ok (.if_icmp .ne 44, 3) := by decide +kernel
theorem dX11_act_18 : decode cX11_act 18 = .ok (.iconst 0, 1) := by decide +kernel
theorem dX11_act_19 : decode cX11_act 19 = .ok (.istore_n 2, 1) := by decide +kernel
theorem dX11_act_20 : decode cX11_act 20 = .ok (.iload_n 2, 1) := by decide +kernel
theorem dX11_act_21 : decode cX11_act 21 = .ok (.sipush 498, 3) := by decide +kernel
theorem dX11_act_24 : decode cX11_act 24 = .ok (.if_icmp .ge 25, 3) := by decide +kernel
theorem dX11_act_27 : decode cX11_act 27 = .ok (.aload_n 0, 1) := by decide +kernel
theorem dX11_act_28 : decode cX11_act 28 = .ok (.getfield 16, 3) := by decide +kernel
theorem dX11_act_31 : decode cX11_act 31 = .ok (.iload_n 2, 1) := by decide +kernel
theorem dX11_act_32 : decode cX11_act 32 = .ok (.aload_n 0, 1) := by decide +kernel
theorem dX11_act_33 : decode cX11_act 33 = .ok (.getfield 16, 3) := by decide +kernel
theorem dX11_act_36 : decode cX11_act 36 = .ok (.sipush 166, 3) := by decide +kernel
theorem dX11_act_39 : decode cX11_act 39 = .ok (.iload_n 2, 1) := by decide +kernel
theorem dX11_act_40 : decode cX11_act 40 = .ok (.iadd, 1) := by decide +kernel
theorem dX11_act_41 : decode cX11_act 41 = .ok (.iaload, 1) := by decide +kernel
theorem dX11_act_42 : decode cX11_act 42 = .ok (.iastore, 1) := by decide +kernel
theorem dX11_act_43 : decode cX11_act 43 = .ok (.iinc 2 1, 3) := by decide +kernel
theorem dX11_act_46 : decode cX11_act 46 = .ok (.goto (-26), 3) := by decide +kernel
theorem dX11_act_49 : decode cX11_act 49 = .ok (.aload_n 0, 1) := by decide +kernel
theorem dX11_act_50 : decode cX11_act 50 = .ok (.dup, 1) := by decide +kernel
theorem dX11_act_51 : decode cX11_act 51 = .ok (.getfield 32, 3) := by decide +kernel
theorem dX11_act_54 : decode cX11_act 54 = .ok (.iconst 1, 1) := by decide +kernel
theorem dX11_act_55 : decode cX11_act 55 = .ok (.isub, 1) := by decide +kernel
theorem dX11_act_56 : decode cX11_act 56 = .ok (.putfield 32, 3) := by decide +kernel
theorem dX11_act_59 : decode cX11_act 59 = .ok (.iconst 0, 1) := by decide +kernel
theorem dX11_act_60 : decode cX11_act 60 = .ok (.istore_n 2, 1) := by decide +kernel
theorem dX11_act_61 : decode cX11_act 61 = .ok (.iload_n 2, 1) := by decide +kernel
theorem dX11_act_62 : decode cX11_act 62 = .ok (.sipush 166, 3) := by decide +kernel
theorem dX11_act_65 : decode cX11_act 65 = .ok (.if_icmp .ge 30, 3) := by decide +kernel
theorem dX11_act_68 : decode cX11_act 68 = .ok (.aload_n 0, 1) := by decide +kernel
theorem dX11_act_69 : decode cX11_act 69 = .ok (.getfield 16, 3) := by decide +kernel
theorem dX11_act_72 : decode cX11_act 72 = .ok (.sipush 166, 3) := by decide +kernel
theorem dX11_act_75 : decode cX11_act 75 = .ok (.aload_n 0, 1) := by decide +kernel
theorem dX11_act_76 : decode cX11_act 76 = .ok (.getfield 32, 3) := by decide +kernel
theorem dX11_act_79 : decode cX11_act 79 = .ok (.imul, 1) := by decide +kernel
theorem dX11_act_80 : decode cX11_act 80 = .ok (.iload_n 2, 1) := by decide +kernel
theorem dX11_act_81 : decode cX11_act 81 = .ok (.iadd, 1) := by decide +kernel
theorem dX11_act_82 : decode cX11_act 82 = .ok (.aload_n 0, 1) := by decide +kernel
theorem dX11_act_83 : decode cX11_act 83 = .ok (.getfield 13, 3) := by decide +kernel
theorem dX11_act_86 : decode cX11_act 86 = .ok (.iload_n 2, 1) := by decide +kernel
theorem dX11_act_87 : decode cX11_act 87 = .ok (.iaload, 1) := by decide +kernel
theorem dX11_act_88 : decode cX11_act 88 = .ok (.iastore, 1) := by decide +kernel
theorem dX11_act_89 : decode cX11_act 89 = .ok (.iinc 2 1, 3) := by decide +kernel
theorem dX11_act_92 : decode cX11_act 92 = .ok (.goto (-31), 3) := by decide +kernel
theorem dX11_act_95 : decode cX11_act 95 = .ok (.aload_n 0, 1) := by decide +kernel
theorem dX11_act_96 : decode cX11_act 96 = .ok (.dup, 1) := by decide +kernel
theorem dX11_act_97 : decode cX11_act 97 = .ok (.getfield 32, 3) := by decide +kernel
theorem dX11_act_100 : decode cX11_act 100 = .ok (.iconst 1, 1) := by decide +kernel
theorem dX11_act_101 : decode cX11_act 101 = .ok (.iadd, 1) := by decide +kernel
theorem dX11_act_102 : decode cX11_act 102 = .ok (.putfield 32, 3) := by decide +kernel
theorem dX11_act_105 : decode cX11_act 105 = .ok (.iload_n 1, 1) := by decide +kernel
theorem dX11_act_106 : decode cX11_act 106 = .ok (.ireturn, 1) := by decide +kernel
theorem dX11_framesOf_0 : decode cX11_framesOf 0 = .ok (.aload_n 0, 1) := by decide +kernel
theorem dX11_framesOf_1 : decode cX11_framesOf 1 = .ok (.getfield 7, 3) := by decide +kernel
theorem dX11_framesOf_4 : decode cX11_framesOf 4 = .ok (.iconst 0, 1) := by decide +kernel
theorem dX11_framesOf_5 : decode cX11_framesOf 5 = .ok (.iaload, 1) := by decide +kernel
theorem dX11_framesOf_6 : decode cX11_framesOf 6 = .ok (.iload_n 1, 1) := by decide +kernel
theorem dX11_framesOf_7 : decode cX11_framesOf 7 = .ok (.aload_n 0, 1) := by decide +kernel
theorem dX11_framesOf_8 : decode cX11_framesOf 8 = .ok (.getfield 7, 3) := by decide +kernel
theorem dX11_framesOf_11 : decode cX11_framesOf 11 = .ok (.iconst 1, 1) := by decide +kernel
theorem dX11_framesOf_12 : decode cX11_framesOf 12 = .ok (.iaload, 1) := by decide +kernel
theorem dX11_framesOf_13 : decode cX11_framesOf 13 = .ok (.imul, 1) := by decide +kernel
theorem dX11_framesOf_14 : decode cX11_framesOf 14 = .ok (.iadd, 1) := by decide +kernel
theorem dX11_framesOf_15 : decode cX11_framesOf 15 = .ok (.ireturn, 1) := by decide +kernel
theorem dX11_start_0 : decode cX11_start 0 = .ok (.iload_n 1, 1) := by decide +kernel
theorem dX11_start_1 : decode cX11_start 1 = .ok (.aload_n 0, 1) := by decide +kernel
theorem dX11_start_2 : decode cX11_start 2 = .ok (.getfield 7, 3) := by decide +kernel
theorem dX11_start_5 : decode cX11_start 5 = .ok (.iconst 0, 1) := by decide +kernel
theorem dX11_start_6 : decode cX11_start 6 = .ok (.iaload, 1) := by decide +kernel
theorem dX11_start_7 : decode cX11_start 7 = .ok (.imul, 1) := by decide +kernel
theorem dX11_start_8 : decode cX11_start 8 = .ok (.iload_n 1, 1) := by decide +kernel
theorem dX11_start_9 : decode cX11_start 9 = .ok (.iload_n 1, 1) := by decide +kernel
theorem dX11_start_10 : decode cX11_start 10 = .ok (.iconst 1, 1) := by decide +kernel
theorem dX11_start_11 : decode cX11_start 11 = .ok (.isub, 1) := by decide +kernel
theorem dX11_start_12 : decode cX11_start 12 = .ok (.imul, 1) := by decide +kernel
theorem dX11_start_13 : decode cX11_start 13 = .ok (.iconst 2, 1) := by decide +kernel
theorem dX11_start_14 : decode cX11_start 14 = .ok (.idiv, 1) := by decide +kernel
theorem dX11_start_15 : decode cX11_start 15 = .ok (.aload_n 0, 1) := by decide +kernel
theorem dX11_start_16 : decode cX11_start 16 = .ok (.getfield 7, 3) := by decide +kernel
theorem dX11_start_19 : decode cX11_start 19 = .ok (.iconst 1, 1) := by decide +kernel
theorem dX11_start_20 : decode cX11_start 20 = .ok (.iaload, 1) := by decide +kernel
theorem dX11_start_21 : decode cX11_start 21 = .ok (.imul, 1) := by decide +kernel
theorem dX11_start_22 : decode cX11_start 22 = .ok (.iadd, 1) := by decide +kernel
theorem dX11_start_23 : decode cX11_start 23 = .ok (.ireturn, 1) := by decide +kernel
set_option maxRecDepth 20000 in
theorem dX11_frames_0 : decode cX11_frames 0 = .ok (.aload_n 0, 1) := by decide +kernel
theorem dX11_frames_1 : decode cX11_frames 1 = .ok (.bipush 30, 2) := by decide +kernel
theorem dX11_frames_3 : decode cX11_frames 3 = .ok (.invokevirtual 36, 3) := by decide +kernel
theorem dX11_frames_6 : decode cX11_frames 6 = .ok (.ireturn, 1) := by decide +kernel
set_option maxRecDepth 20000 in
theorem dX11_isFrame_0 : decode cX11_isFrame 0 = .ok (.iload_n 1, 1) := by decide +kernel
theorem dX11_isFrame_1 : decode cX11_isFrame 1 = .ok (.iconst 0, 1) := by decide +kernel
theorem dX11_isFrame_2 : decode cX11_isFrame 2 = .ok (.aload_n 0, 1) := by decide +kernel
theorem dX11_isFrame_3 : decode cX11_isFrame 3 = .ok (.invokevirtual 40, 3) := by decide +kernel
theorem dX11_isFrame_6 : decode cX11_isFrame 6 = .ok (.iconst 1, 1) := by decide +kernel
theorem dX11_isFrame_7 : decode cX11_isFrame 7 = .ok (.isub, 1) := by decide +kernel
theorem dX11_isFrame_8 : decode cX11_isFrame 8 = .ok (.invokestatic 44, 3) := by decide +kernel
theorem dX11_isFrame_11 : decode cX11_isFrame 11 = .ok (.ireturn, 1) := by decide +kernel
set_option maxRecDepth 20000 in
theorem dX11_turnOf_0 : decode cX11_turnOf 0 = .ok (.iconst 0, 1) := by decide +kernel
theorem dX11_turnOf_1 : decode cX11_turnOf 1 = .ok (.istore_n 2, 1) := by decide +kernel
theorem dX11_turnOf_2 : decode cX11_turnOf 2 = .ok (.iload_n 2, 1) := by decide +kernel
theorem dX11_turnOf_3 : decode cX11_turnOf 3 = .ok (.bipush 29, 2) := by decide +kernel
theorem dX11_turnOf_5 : decode cX11_turnOf 5 = .ok (.if_icmp .ge 20, 3) := by decide +kernel
theorem dX11_turnOf_8 : decode cX11_turnOf 8 = .ok (.aload_n 0, 1) := by decide +kernel
theorem dX11_turnOf_9 : decode cX11_turnOf 9 = .ok (.iload_n 2, 1) := by decide +kernel
theorem dX11_turnOf_10 : decode cX11_turnOf 10 = .ok (.iconst 1, 1) := by decide +kernel
theorem dX11_turnOf_11 : decode cX11_turnOf 11 = .ok (.iadd, 1) := by decide +kernel
theorem dX11_turnOf_12 : decode cX11_turnOf 12 = .ok (.invokevirtual 36, 3) := by decide +kernel
theorem dX11_turnOf_15 : decode cX11_turnOf 15 = .ok (.iload_n 1, 1) := by decide +kernel
theorem dX11_turnOf_16 : decode cX11_turnOf 16 = .ok (.if_icmp .gt 9, 3) := by decide +kernel
theorem dX11_turnOf_19 : decode cX11_turnOf 19 = .ok (.iinc 2 1, 3) := by decide +kernel
theorem dX11_turnOf_22 : decode cX11_turnOf 22 = .ok (.goto (-20), 3) := by decide +kernel
theorem dX11_turnOf_25 : decode cX11_turnOf 25 = .ok (.iload_n 2, 1) := by decide +kernel
theorem dX11_turnOf_26 : decode cX11_turnOf 26 = .ok (.ireturn, 1) := by decide +kernel
theorem dX11_isCheck_0 : decode cX11_isCheck 0 = .ok (.iload_n 0, 1) := by decide +kernel
theorem dX11_isCheck_1 : decode cX11_isCheck 1 = .ok (.iconst 5, 1) := by decide +kernel
theorem dX11_isCheck_2 : decode cX11_isCheck 2 = .ok (.irem, 1) := by decide +kernel
theorem dX11_isCheck_3 : decode cX11_isCheck 3 = .ok (.iconst 4, 1) := by decide +kernel
theorem dX11_isCheck_4 : decode cX11_isCheck 4 = .ok (.if_icmp .ne 7, 3) := by decide +kernel
theorem dX11_isCheck_7 : decode cX11_isCheck 7 = .ok (.iconst 1, 1) := by decide +kernel
theorem dX11_isCheck_8 : decode cX11_isCheck 8 = .ok (.goto 4, 3) := by decide +kernel
theorem dX11_isCheck_11 : decode cX11_isCheck 11 = .ok (.iconst 0, 1) := by decide +kernel
theorem dX11_isCheck_12 : decode cX11_isCheck 12 = .ok (.ireturn, 1) := by decide +kernel
set_option maxRecDepth 20000 in
theorem dX11_hasGroup_0 : decode cX11_hasGroup 0 = .ok (.iload_n 1, 1) := by decide +kernel
theorem dX11_hasGroup_1 : decode cX11_hasGroup 1 = .ok (.iconst 5, 1) := by decide +kernel
theorem dX11_hasGroup_2 : decode cX11_hasGroup 2 = .ok (.idiv, 1) := by decide +kernel
theorem dX11_hasGroup_3 : decode cX11_hasGroup 3 = .ok (.aload_n 0, 1) := by decide +kernel
theorem dX11_hasGroup_4 : decode cX11_hasGroup 4 = .ok (.invokevirtual 40, 3) := by decide +kernel
theorem dX11_hasGroup_7 : decode cX11_hasGroup 7 = .ok (.iconst 5, 1) := by decide +kernel
theorem dX11_hasGroup_8 : decode cX11_hasGroup 8 = .ok (.idiv, 1) := by decide +kernel
theorem dX11_hasGroup_9 : decode cX11_hasGroup 9 = .ok (.if_icmp .ge 7, 3) := by decide +kernel
theorem dX11_hasGroup_12 : decode cX11_hasGroup 12 = .ok (.iconst 1, 1) := by decide +kernel
theorem dX11_hasGroup_13 : decode cX11_hasGroup 13 = .ok (.goto 4, 3) := by decide +kernel
theorem dX11_hasGroup_16 : decode cX11_hasGroup 16 = .ok (.iconst 0, 1) := by decide +kernel
theorem dX11_hasGroup_17 : decode cX11_hasGroup 17 = .ok (.ireturn, 1) := by decide +kernel
theorem dX11_findPressed_0 : decode cX11_findPressed 0 = .ok (.iconst 0, 1) := by decide +kernel
theorem dX11_findPressed_1 : decode cX11_findPressed 1 = .ok (.istore_n 3, 1) := by decide +kernel
theorem dX11_findPressed_2 : decode cX11_findPressed 2 = .ok (.iload_n 3, 1) := by decide +kernel
theorem dX11_findPressed_3 : decode cX11_findPressed 3 = .ok (.aload_n 0, 1) := by decide +kernel
theorem dX11_findPressed_4 : decode cX11_findPressed 4 = .ok (.getfield 7, 3) := by decide +kernel
theorem dX11_findPressed_7 : decode cX11_findPressed 7 = .ok (.bipush 45, 2) := by decide +kernel
theorem dX11_findPressed_9 : decode cX11_findPressed 9 = .ok (.iaload, 1) := by decide +kernel
theorem dX11_findPressed_10 : decode cX11_findPressed 10 = .ok (.if_icmp .ge 43, 3) := by decide +kernel
theorem dX11_findPressed_13 : decode cX11_findPressed 13 = .ok (.aload_n 0, 1) := by decide +kernel
theorem dX11_findPressed_14 : decode cX11_findPressed 14 = .ok (.getfield 7, 3) := by decide +kernel
theorem dX11_findPressed_17 : decode cX11_findPressed 17 = .ok (.bipush 46, 2) := by decide +kernel
theorem dX11_findPressed_19 : decode cX11_findPressed 19 = .ok (.iconst 3, 1) := by decide +kernel
theorem dX11_findPressed_20 : decode cX11_findPressed 20 = .ok (.iload_n 3, 1) := by decide +kernel
theorem dX11_findPressed_21 : decode cX11_findPressed 21 = .ok (.imul, 1) := by decide +kernel
theorem dX11_findPressed_22 : decode cX11_findPressed 22 = .ok (.iadd, 1) := by decide +kernel
theorem dX11_findPressed_23 : decode cX11_findPressed 23 = .ok (.iaload, 1) := by decide +kernel
theorem dX11_findPressed_24 : decode cX11_findPressed 24 = .ok (.iload_n 1, 1) := by decide +kernel
theorem dX11_findPressed_25 : decode cX11_findPressed 25 = .ok (.if_icmp .ne 22, 3) := by decide +kernel
theorem dX11_findPressed_28 : decode cX11_findPressed 28 = .ok (.aload_n 0, 1) := by decide +kernel
theorem dX11_findPressed_29 : decode cX11_findPressed 29 = .ok (.getfield 7, 3) := by decide +kernel
theorem dX11_findPressed_32 : decode cX11_findPressed 32 = .ok (.bipush 46, 2) := by decide +kernel
theorem dX11_findPressed_34 : decode cX11_findPressed 34 = .ok (.iconst 3, 1) := by decide +kernel
theorem dX11_findPressed_35 : decode cX11_findPressed 35 = .ok (.iload_n 3, 1) := by decide +kernel
theorem dX11_findPressed_36 : decode cX11_findPressed 36 = .ok (.imul, 1) := by decide +kernel
theorem dX11_findPressed_37 : decode cX11_findPressed 37 = .ok (.iadd, 1) := by decide +kernel
theorem dX11_findPressed_38 : decode cX11_findPressed 38 = .ok (.iconst 1, 1) := by decide +kernel
theorem dX11_findPressed_39 : decode cX11_findPressed 39 = .ok (.iadd, 1) := by decide +kernel
theorem dX11_findPressed_40 : decode cX11_findPressed 40 = .ok (.iaload, 1) := by decide +kernel
theorem dX11_findPressed_41 : decode cX11_findPressed 41 = .ok (.iload_n 2, 1) := by decide +kernel
theorem dX11_findPressed_42 : decode cX11_findPressed 42 = .ok (.if_icmp .ne 5, 3) := by decide +kernel
theorem dX11_findPressed_45 : decode cX11_findPressed 45 = .ok (.iload_n 3, 1) := by decide +kernel
theorem dX11_findPressed_46 : decode cX11_findPressed 46 = .ok (.ireturn, 1) := by decide +kernel
theorem dX11_findPressed_47 : decode cX11_findPressed 47 = .ok (.iinc 3 1, 3) := by decide +kernel
theorem dX11_findPressed_50 : decode cX11_findPressed 50 = .ok (.goto (-48), 3) := by decide +kernel
theorem dX11_findPressed_53 : decode cX11_findPressed 53 = .ok (.bipush (-5), 2) := by decide +kernel
theorem dX11_findPressed_55 : decode cX11_findPressed 55 = .ok (.ireturn, 1) := by decide +kernel
theorem dX11_atFirst_0 : decode cX11_atFirst 0 = .ok (.bipush 7, 2) := by decide +kernel
theorem dX11_atFirst_2 : decode cX11_atFirst 2 = .ok (.iload_n 0, 1) := by decide +kernel
theorem dX11_atFirst_3 : decode cX11_atFirst 3 = .ok (.imul, 1) := by decide +kernel
theorem dX11_atFirst_4 : decode cX11_atFirst 4 = .ok (.iconst 3, 1) := by decide +kernel
theorem dX11_atFirst_5 : decode cX11_atFirst 5 = .ok (.iload_n 1, 1) := by decide +kernel
theorem dX11_atFirst_6 : decode cX11_atFirst 6 = .ok (.imul, 1) := by decide +kernel
theorem dX11_atFirst_7 : decode cX11_atFirst 7 = .ok (.iadd, 1) := by decide +kernel
theorem dX11_atFirst_8 : decode cX11_atFirst 8 = .ok (.bipush 16, 2) := by decide +kernel
theorem dX11_atFirst_10 : decode cX11_atFirst 10 = .ok (.irem, 1) := by decide +kernel
theorem dX11_atFirst_11 : decode cX11_atFirst 11 = .ok (.ireturn, 1) := by decide +kernel
set_option maxRecDepth 20000 in
theorem dX11_dataSymbol_0 : decode cX11_dataSymbol 0 = .ok (.aload_n 0, 1) := by decide +kernel
theorem dX11_dataSymbol_1 : decode cX11_dataSymbol 1 = .ok (.iload_n 1, 1) := by decide +kernel
theorem dX11_dataSymbol_2 : decode cX11_dataSymbol 2 = .ok (.iload_n 2, 1) := by decide +kernel
theorem dX11_dataSymbol_3 : decode cX11_dataSymbol 3 = .ok (.invokevirtual 48, 3) := by decide +kernel
theorem dX11_dataSymbol_6 : decode cX11_dataSymbol 6 = .ok (.istore_n 3, 1) := by decide +kernel
theorem dX11_dataSymbol_7 : decode cX11_dataSymbol 7 = .ok (.iload_n 3, 1) := by decide +kernel
theorem dX11_dataSymbol_8 : decode cX11_dataSymbol 8 = .ok (.bipush (-5), 2) := by decide +kernel
theorem dX11_dataSymbol_10 : decode cX11_dataSymbol 10 = .ok (.if_icmp .ne 11, 3) := by decide +kernel
theorem dX11_dataSymbol_13 : decode cX11_dataSymbol 13 = .ok (.iload_n 1, 1) := by decide +kernel
theorem dX11_dataSymbol_14 : decode cX11_dataSymbol 14 = .ok (.iload_n 2, 1) := by decide +kernel
theorem dX11_dataSymbol_15 : decode cX11_dataSymbol 15 = .ok (.invokestatic 52, 3) := by decide +kernel
theorem dX11_dataSymbol_18 : decode cX11_dataSymbol 18 = .ok (.goto 16, 3) := by decide +kernel
theorem dX11_dataSymbol_21 : decode cX11_dataSymbol 21 = .ok (.aload_n 0, 1) := by decide +kernel
theorem dX11_dataSymbol_22 : decode cX11_dataSymbol 22 = .ok (.getfield 7, 3) := by decide +kernel
theorem dX11_dataSymbol_25 : decode cX11_dataSymbol 25 = .ok (.bipush 46, 2) := by decide +kernel
theorem dX11_dataSymbol_27 : decode cX11_dataSymbol 27 = .ok (.iconst 3, 1) := by decide +kernel
theorem dX11_dataSymbol_28 : decode cX11_dataSymbol 28 = .ok (.iload_n 3, 1) := by decide +kernel
theorem dX11_dataSymbol_29 : decode cX11_dataSymbol 29 = .ok (.imul, 1) := by decide +kernel
theorem dX11_dataSymbol_30 : decode cX11_dataSymbol 30 = .ok (.iadd, 1) := by decide +kernel
theorem dX11_dataSymbol_31 : decode cX11_dataSymbol 31 = .ok (.iconst 2, 1) := by decide +kernel
theorem dX11_dataSymbol_32 : decode cX11_dataSymbol 32 = .ok (.iadd, 1) := by decide +kernel
theorem dX11_dataSymbol_33 : decode cX11_dataSymbol 33 = .ok (.iaload, 1) := by decide +kernel
theorem dX11_dataSymbol_34 : decode cX11_dataSymbol 34 = .ok (.ireturn, 1) := by decide +kernel
set_option maxRecDepth 20000 in
theorem dX11_symbolOf_0 : decode cX11_symbolOf 0 = .ok (.iload_n 1, 1) := by decide +kernel
theorem dX11_symbolOf_1 : decode cX11_symbolOf 1 = .ok (.invokestatic 55, 3) := by decide +kernel
theorem dX11_symbolOf_4 : decode cX11_symbolOf 4 = .ok (.ifCond .ne 10, 3) := by decide +kernel
theorem dX11_symbolOf_7 : decode cX11_symbolOf 7 = .ok (.aload_n 0, 1) := by decide +kernel
theorem dX11_symbolOf_8 : decode cX11_symbolOf 8 = .ok (.iload_n 1, 1) := by decide +kernel
theorem dX11_symbolOf_9 : decode cX11_symbolOf 9 = .ok (.iload_n 2, 1) := by decide +kernel
theorem dX11_symbolOf_10 : decode cX11_symbolOf 10 = .ok (.invokevirtual 59, 3) := by decide +kernel
theorem dX11_symbolOf_13 : decode cX11_symbolOf 13 = .ok (.ireturn, 1) := by decide +kernel
theorem dX11_symbolOf_14 : decode cX11_symbolOf 14 = .ok (.iconst 0, 1) := by decide +kernel
theorem dX11_symbolOf_15 : decode cX11_symbolOf 15 = .ok (.istore_n 3, 1) := by decide +kernel
theorem dX11_symbolOf_16 : decode cX11_symbolOf 16 = .ok (.iconst 1, 1) := by decide +kernel
theorem dX11_symbolOf_17 : decode cX11_symbolOf 17 = .ok (.istore 4, 2) := by decide +kernel
theorem dX11_symbolOf_19 : decode cX11_symbolOf 19 = .ok (.iload 4, 2) := by decide +kernel
theorem dX11_symbolOf_21 : decode cX11_symbolOf 21 = .ok (.iconst 5, 1) := by decide +kernel
theorem dX11_symbolOf_22 : decode cX11_symbolOf 22 = .ok (.if_icmp .ge 21, 3) := by decide +kernel
theorem dX11_symbolOf_25 : decode cX11_symbolOf 25 = .ok (.iload_n 3, 1) := by decide +kernel
theorem dX11_symbolOf_26 : decode cX11_symbolOf 26 = .ok (.aload_n 0, 1) := by decide +kernel
theorem dX11_symbolOf_27 : decode cX11_symbolOf 27 = .ok (.iload_n 1, 1) := by decide +kernel
theorem dX11_symbolOf_28 : decode cX11_symbolOf 28 = .ok (.iload 4, 2) := by decide +kernel
theorem dX11_symbolOf_30 : decode cX11_symbolOf 30 = .ok (.isub, 1) := by decide +kernel
theorem dX11_symbolOf_31 : decode cX11_symbolOf 31 = .ok (.iload_n 2, 1) := by decide +kernel
theorem dX11_symbolOf_32 : decode cX11_symbolOf 32 = .ok (.invokevirtual 59, 3) := by decide +kernel
theorem dX11_symbolOf_35 : decode cX11_symbolOf 35 = .ok (.iadd, 1) := by decide +kernel
theorem dX11_symbolOf_36 : decode cX11_symbolOf 36 = .ok (.istore_n 3, 1) := by decide +kernel
theorem dX11_symbolOf_37 : decode cX11_symbolOf 37 = .ok (.iinc 4 1, 3) := by decide +kernel
theorem dX11_symbolOf_40 : decode cX11_symbolOf 40 = .ok (.goto (-21), 3) := by decide +kernel
theorem dX11_symbolOf_43 : decode cX11_symbolOf 43 = .ok (.iload_n 3, 1) := by decide +kernel
theorem dX11_symbolOf_44 : decode cX11_symbolOf 44 = .ok (.bipush 16, 2) := by decide +kernel
theorem dX11_symbolOf_46 : decode cX11_symbolOf 46 = .ok (.irem, 1) := by decide +kernel
theorem dX11_symbolOf_47 : decode cX11_symbolOf 47 = .ok (.ireturn, 1) := by decide +kernel
theorem dX11_pit_0 : decode cX11_pit 0 = .ok (.iconst 3, 1) := by decide +kernel
theorem dX11_pit_1 : decode cX11_pit 1 = .ok (.iload_n 0, 1) := by decide +kernel
theorem dX11_pit_2 : decode cX11_pit 2 = .ok (.iconst 4, 1) := by decide +kernel
theorem dX11_pit_3 : decode cX11_pit 3 = .ok (.idiv, 1) := by decide +kernel
theorem dX11_pit_4 : decode cX11_pit 4 = .ok (.iadd, 1) := by decide +kernel
theorem dX11_pit_5 : decode cX11_pit 5 = .ok (.ireturn, 1) := by decide +kernel
theorem dX11_flat_0 : decode cX11_flat 0 = .ok (.iconst 3, 1) := by decide +kernel
theorem dX11_flat_1 : decode cX11_flat 1 = .ok (.iload_n 0, 1) := by decide +kernel
theorem dX11_flat_2 : decode cX11_flat 2 = .ok (.iconst 4, 1) := by decide +kernel
theorem dX11_flat_3 : decode cX11_flat 3 = .ok (.irem, 1) := by decide +kernel
theorem dX11_flat_4 : decode cX11_flat 4 = .ok (.iadd, 1) := by decide +kernel
theorem dX11_flat_5 : decode cX11_flat 5 = .ok (.ireturn, 1) := by decide +kernel
set_option maxRecDepth 20000 in
theorem dX11_pits_0 : decode cX11_pits 0 = .ok (.iconst 0, 1) := by decide +kernel
theorem dX11_pits_1 : decode cX11_pits 1 = .ok (.istore_n 2, 1) := by decide +kernel
theorem dX11_pits_2 : decode cX11_pits 2 = .ok (.iconst 0, 1) := by decide +kernel
theorem dX11_pits_3 : decode cX11_pits 3 = .ok (.istore_n 3, 1) := by decide +kernel
theorem dX11_pits_4 : decode cX11_pits 4 = .ok (.iload_n 3, 1) := by decide +kernel
theorem dX11_pits_5 : decode cX11_pits 5 = .ok (.iconst 4, 1) := by decide +kernel
theorem dX11_pits_6 : decode cX11_pits 6 = .ok (.if_icmp .ge 21, 3) := by decide +kernel
theorem dX11_pits_9 : decode cX11_pits 9 = .ok (.iload_n 2, 1) := by decide +kernel
theorem dX11_pits_10 : decode cX11_pits 10 = .ok (.aload_n 0, 1) := by decide +kernel
theorem dX11_pits_11 : decode cX11_pits 11 = .ok (.iload_n 1, 1) := by decide +kernel
theorem dX11_pits_12 : decode cX11_pits 12 = .ok (.iload_n 3, 1) := by decide +kernel
theorem dX11_pits_13 : decode cX11_pits 13 = .ok (.invokevirtual 62, 3) := by decide +kernel
theorem dX11_pits_16 : decode cX11_pits 16 = .ok (.invokestatic 65, 3) := by decide +kernel
theorem dX11_pits_19 : decode cX11_pits 19 = .ok (.iadd, 1) := by decide +kernel
theorem dX11_pits_20 : decode cX11_pits 20 = .ok (.istore_n 2, 1) := by decide +kernel
theorem dX11_pits_21 : decode cX11_pits 21 = .ok (.iinc 3 1, 3) := by decide +kernel
theorem dX11_pits_24 : decode cX11_pits 24 = .ok (.goto (-20), 3) := by decide +kernel
theorem dX11_pits_27 : decode cX11_pits 27 = .ok (.iload_n 2, 1) := by decide +kernel
theorem dX11_pits_28 : decode cX11_pits 28 = .ok (.ireturn, 1) := by decide +kernel
set_option maxRecDepth 20000 in
theorem dX11_flats_0 : decode cX11_flats 0 = .ok (.iconst 0, 1) := by decide +kernel
theorem dX11_flats_1 : decode cX11_flats 1 = .ok (.istore_n 2, 1) := by decide +kernel
theorem dX11_flats_2 : decode cX11_flats 2 = .ok (.iconst 0, 1) := by decide +kernel
theorem dX11_flats_3 : decode cX11_flats 3 = .ok (.istore_n 3, 1) := by decide +kernel
theorem dX11_flats_4 : decode cX11_flats 4 = .ok (.iload_n 3, 1) := by decide +kernel
theorem dX11_flats_5 : decode cX11_flats 5 = .ok (.iconst 4, 1) := by decide +kernel
theorem dX11_flats_6 : decode cX11_flats 6 = .ok (.if_icmp .ge 21, 3) := by decide +kernel
theorem dX11_flats_9 : decode cX11_flats 9 = .ok (.iload_n 2, 1) := by decide +kernel
theorem dX11_flats_10 : decode cX11_flats 10 = .ok (.aload_n 0, 1) := by decide +kernel
theorem dX11_flats_11 : decode cX11_flats 11 = .ok (.iload_n 1, 1) := by decide +kernel
theorem dX11_flats_12 : decode cX11_flats 12 = .ok (.iload_n 3, 1) := by decide +kernel
theorem dX11_flats_13 : decode cX11_flats 13 = .ok (.invokevirtual 62, 3) := by decide +kernel
theorem dX11_flats_16 : decode cX11_flats 16 = .ok (.invokestatic 68, 3) := by decide +kernel
theorem dX11_flats_19 : decode cX11_flats 19 = .ok (.iadd, 1) := by decide +kernel
theorem dX11_flats_20 : decode cX11_flats 20 = .ok (.istore_n 2, 1) := by decide +kernel
theorem dX11_flats_21 : decode cX11_flats 21 = .ok (.iinc 3 1, 3) := by decide +kernel
theorem dX11_flats_24 : decode cX11_flats 24 = .ok (.goto (-20), 3) := by decide +kernel
theorem dX11_flats_27 : decode cX11_flats 27 = .ok (.iload_n 2, 1) := by decide +kernel
theorem dX11_flats_28 : decode cX11_flats 28 = .ok (.ireturn, 1) := by decide +kernel
set_option maxRecDepth 20000 in
theorem dX11_longestRun_0 : decode cX11_longestRun 0 = .ok (.iconst 0, 1) := by decide +kernel
theorem dX11_longestRun_1 : decode cX11_longestRun 1 = .ok (.istore_n 2, 1) := by decide +kernel
theorem dX11_longestRun_2 : decode cX11_longestRun 2 = .ok (.iconst 0, 1) := by decide +kernel
theorem dX11_longestRun_3 : decode cX11_longestRun 3 = .ok (.istore_n 3, 1) := by decide +kernel
theorem dX11_longestRun_4 : decode cX11_longestRun 4 = .ok (.iload_n 3, 1) := by decide +kernel
theorem dX11_longestRun_5 : decode cX11_longestRun 5 = .ok (.iconst 4, 1) := by decide +kernel
theorem dX11_longestRun_6 : decode cX11_longestRun 6 = .ok (.if_icmp .ge 55, 3) := by decide +kernel
theorem dX11_longestRun_9 : decode cX11_longestRun 9 = .ok (.aload_n 0, 1) := by decide +kernel
theorem dX11_longestRun_10 : decode cX11_longestRun 10 = .ok (.iload_n 1, 1) := by decide +kernel
theorem dX11_longestRun_11 : decode cX11_longestRun 11 = .ok (.iload_n 3, 1) := by decide +kernel
theorem dX11_longestRun_12 : decode cX11_longestRun 12 = .ok (.invokevirtual 62, 3) := by decide +kernel
theorem dX11_longestRun_15 : decode cX11_longestRun 15 = .ok (.istore 4, 2) := by decide +kernel
theorem dX11_longestRun_17 : decode cX11_longestRun 17 = .ok (.iload 4, 2) := by decide +kernel
theorem dX11_longestRun_19 : decode cX11_longestRun 19 = .ok (.invokestatic 65, 3) := by decide +kernel
theorem dX11_longestRun_22 : decode cX11_longestRun 22 = .ok (.iload_n 2, 1) := by decide +kernel
theorem dX11_longestRun_23 : decode cX11_longestRun 23 = .ok (.if_icmp .le 11, 3) := by decide +kernel
theorem dX11_longestRun_26 : decode cX11_longestRun 26 = .ok (.iload 4, 2) := by decide +kernel
theorem dX11_longestRun_28 : decode cX11_longestRun 28 = .ok (.invokestatic 65, 3) := by decide +kernel
theorem dX11_longestRun_31 : decode cX11_longestRun 31 = .ok (.goto 4, 3) := by decide +kernel
theorem dX11_longestRun_34 : decode cX11_longestRun 34 = .ok (.iload_n 2, 1) := by decide +kernel
theorem dX11_longestRun_35 : decode cX11_longestRun 35 = .ok (.istore_n 2, 1) := by decide +kernel
theorem dX11_longestRun_36 : decode cX11_longestRun 36 = .ok (.iload 4, 2) := by decide +kernel
theorem dX11_longestRun_38 : decode cX11_longestRun 38 = .ok (.invokestatic 68, 3) := by decide +kernel
theorem dX11_longestRun_41 : decode cX11_longestRun 41 = .ok (.iload_n 2, 1) := by decide +kernel
theorem dX11_longestRun_42 : decode cX11_longestRun 42 = .ok (.if_icmp .le 11, 3) := by decide +kernel
theorem dX11_longestRun_45 : decode cX11_longestRun 45 = .ok (.iload 4, 2) := by decide +kernel
theorem dX11_longestRun_47 : decode cX11_longestRun 47 = .ok (.invokestatic 68, 3) := by decide +kernel
theorem dX11_longestRun_50 : decode cX11_longestRun 50 = .ok (.goto 4, 3) := by decide +kernel
theorem dX11_longestRun_53 : decode cX11_longestRun 53 = .ok (.iload_n 2, 1) := by decide +kernel
theorem dX11_longestRun_54 : decode cX11_longestRun 54 = .ok (.istore_n 2, 1) := by decide +kernel
theorem dX11_longestRun_55 : decode cX11_longestRun 55 = .ok (.iinc 3 1, 3) := by decide +kernel
theorem dX11_longestRun_58 : decode cX11_longestRun 58 = .ok (.goto (-54), 3) := by decide +kernel
theorem dX11_longestRun_61 : decode cX11_longestRun 61 = .ok (.iload_n 2, 1) := by decide +kernel
theorem dX11_longestRun_62 : decode cX11_longestRun 62 = .ok (.ireturn, 1) := by decide +kernel
set_option maxRecDepth 20000 in
theorem dX11_damages_0 : decode cX11_damages 0 = .ok (.bipush 13, 2) := by decide +kernel
theorem dX11_damages_2 : decode cX11_damages 2 = .ok (.iconst 4, 1) := by decide +kernel
theorem dX11_damages_3 : decode cX11_damages 3 = .ok (.iload_n 1, 1) := by decide +kernel
theorem dX11_damages_4 : decode cX11_damages 4 = .ok (.imul, 1) := by decide +kernel
theorem dX11_damages_5 : decode cX11_damages 5 = .ok (.iadd, 1) := by decide +kernel
theorem dX11_damages_6 : decode cX11_damages 6 = .ok (.istore 4, 2) := by decide +kernel
theorem dX11_damages_8 : decode cX11_damages 8 = .ok (.aload_n 0, 1) := by decide +kernel
theorem dX11_damages_9 : decode cX11_damages 9 = .ok (.iload_n 2, 1) := by decide +kernel
theorem dX11_damages_10 : decode cX11_damages 10 = .ok (.invokevirtual 71, 3) := by decide +kernel
theorem dX11_damages_13 : decode cX11_damages 13 = .ok (.istore 5, 2) := by decide +kernel
theorem dX11_damages_15 : decode cX11_damages 15 = .ok (.iload_n 2, 1) := by decide +kernel
theorem dX11_damages_16 : decode cX11_damages 16 = .ok (.aload_n 0, 1) := by decide +kernel
theorem dX11_damages_17 : decode cX11_damages 17 = .ok (.getfield 7, 3) := by decide +kernel
theorem dX11_damages_20 : decode cX11_damages 20 = .ok (.iload 4, 2) := by decide +kernel
theorem dX11_damages_22 : decode cX11_damages 22 = .ok (.iconst 2, 1) := by decide +kernel
theorem dX11_damages_23 : decode cX11_damages 23 = .ok (.iadd, 1) := by decide +kernel
theorem dX11_damages_24 : decode cX11_damages 24 = .ok (.iaload, 1) := by decide +kernel
theorem dX11_damages_25 : decode cX11_damages 25 = .ok (.aload_n 0, 1) := by decide +kernel
theorem dX11_damages_26 : decode cX11_damages 26 = .ok (.getfield 7, 3) := by decide +kernel
theorem dX11_damages_29 : decode cX11_damages 29 = .ok (.iload 4, 2) := by decide +kernel
theorem dX11_damages_31 : decode cX11_damages 31 = .ok (.iconst 3, 1) := by decide +kernel
theorem dX11_damages_32 : decode cX11_damages 32 = .ok (.iadd, 1) := by decide +kernel
theorem dX11_damages_33 : decode cX11_damages 33 = .ok (.iaload, 1) := by decide +kernel
theorem dX11_damages_34 : decode cX11_damages 34 = .ok (.invokestatic 44, 3) := by decide +kernel
theorem dX11_damages_37 : decode cX11_damages 37 = .ok (.ifCond .eq 49, 3) := by decide +kernel
theorem dX11_damages_40 : decode cX11_damages 40 = .ok (.sipush 360, 3) := by decide +kernel
theorem dX11_damages_43 : decode cX11_damages 43 = .ok (.iload_n 3, 1) := by decide +kernel
theorem dX11_damages_44 : decode cX11_damages 44 = .ok (.imul, 1) := by decide +kernel
theorem dX11_damages_45 : decode cX11_damages 45 = .ok (.aload_n 0, 1) := by decide +kernel
theorem dX11_damages_46 : decode cX11_damages 46 = .ok (.getfield 7, 3) := by decide +kernel
theorem dX11_damages_49 : decode cX11_damages 49 = .ok (.iload 4, 2) := by decide +kernel
theorem dX11_damages_51 : decode cX11_damages 51 = .ok (.iconst 1, 1) := by decide +kernel
theorem dX11_damages_52 : decode cX11_damages 52 = .ok (.iadd, 1) := by decide +kernel
theorem dX11_damages_53 : decode cX11_damages 53 = .ok (.iaload, 1) := by decide +kernel
theorem dX11_damages_54 : decode cX11_damages 54 = .ok (.iconst 1, 1) := by decide +kernel
theorem dX11_damages_55 : decode cX11_damages 55 = .ok (.iadd, 1) := by decide +kernel
theorem dX11_damages_56 : decode cX11_damages 56 = .ok (.iload 5, 2) := by decide +kernel
theorem dX11_damages_58 : decode cX11_damages 58 = .ok (.imul, 1) := by decide +kernel
theorem dX11_damages_59 : decode cX11_damages 59 = .ok (.if_icmp .ge 27, 3) := by decide +kernel
theorem dX11_damages_62 : decode cX11_damages 62 = .ok (.aload_n 0, 1) := by decide +kernel
theorem dX11_damages_63 : decode cX11_damages 63 = .ok (.getfield 7, 3) := by decide +kernel
theorem dX11_damages_66 : decode cX11_damages 66 = .ok (.iload 4, 2) := by decide +kernel
theorem dX11_damages_68 : decode cX11_damages 68 = .ok (.iaload, 1) := by decide +kernel
theorem dX11_damages_69 : decode cX11_damages 69 = .ok (.iload 5, 2) := by decide +kernel
theorem dX11_damages_71 : decode cX11_damages 71 = .ok (.imul, 1) := by decide +kernel
theorem dX11_damages_72 : decode cX11_damages 72 = .ok (.sipush 360, 3) := by decide +kernel
theorem dX11_damages_75 : decode cX11_damages 75 = .ok (.iload_n 3, 1) := by decide +kernel
theorem dX11_damages_76 : decode cX11_damages 76 = .ok (.iconst 1, 1) := by decide +kernel
theorem dX11_damages_77 : decode cX11_damages 77 = .ok (.iadd, 1) := by decide +kernel
theorem dX11_damages_78 : decode cX11_damages 78 = .ok (.imul, 1) := by decide +kernel
theorem dX11_damages_79 : decode cX11_damages 79 = .ok (.if_icmp .ge 7, 3) := by decide +kernel
theorem dX11_damages_82 : decode cX11_damages 82 = .ok (.iconst 1, 1) := by decide +kernel
theorem dX11_damages_83 : decode cX11_damages 83 = .ok (.goto 4, 3) := by decide +kernel
theorem dX11_damages_86 : decode cX11_damages 86 = .ok (.iconst 0, 1) := by decide +kernel
theorem dX11_damages_87 : decode cX11_damages 87 = .ok (.ireturn, 1) := by decide +kernel
set_option maxRecDepth 20000 in
theorem dX11_lay_0 : decode cX11_lay 0 = .ok (.iconst 0, 1) := by decide +kernel
theorem dX11_lay_1 : decode cX11_lay 1 = .ok (.istore_n 2, 1) := by decide +kernel
theorem dX11_lay_2 : decode cX11_lay 2 = .ok (.iload_n 2, 1) := by decide +kernel
theorem dX11_lay_3 : decode cX11_lay 3 = .ok (.bipush 30, 2) := by decide +kernel
theorem dX11_lay_5 : decode cX11_lay 5 = .ok (.if_icmp .ge 93, 3) := by decide +kernel
theorem dX11_lay_8 : decode cX11_lay 8 = .ok (.iconst 0, 1) := by decide +kernel
theorem dX11_lay_9 : decode cX11_lay 9 = .ok (.istore_n 3, 1) := by decide +kernel
theorem dX11_lay_10 : decode cX11_lay 10 = .ok (.iload_n 3, 1) := by decide +kernel
theorem dX11_lay_11 : decode cX11_lay 11 = .ok (.aload_n 0, 1) := by decide +kernel
theorem dX11_lay_12 : decode cX11_lay 12 = .ok (.iload_n 2, 1) := by decide +kernel
theorem dX11_lay_13 : decode cX11_lay 13 = .ok (.invokevirtual 71, 3) := by decide +kernel
theorem dX11_lay_16 : decode cX11_lay 16 = .ok (.if_icmp .ge 76, 3) := by decide +kernel
theorem dX11_lay_19 : decode cX11_lay 19 = .ok (.iconst 0, 1) := by decide +kernel
theorem dX11_lay_20 : decode cX11_lay 20 = .ok (.istore 4, 2) := by decide +kernel
theorem dX11_lay_22 : decode cX11_lay 22 = .ok (.iconst 0, 1) := by decide +kernel
theorem dX11_lay_23 : decode cX11_lay 23 = .ok (.istore 5, 2) := by decide +kernel
theorem dX11_lay_25 : decode cX11_lay 25 = .ok (.iload 5, 2) := by decide +kernel
theorem dX11_lay_27 : decode cX11_lay 27 = .ok (.aload_n 0, 1) := by decide +kernel
theorem dX11_lay_28 : decode cX11_lay 28 = .ok (.getfield 7, 3) := by decide +kernel
theorem dX11_lay_31 : decode cX11_lay 31 = .ok (.bipush 12, 2) := by decide +kernel
theorem dX11_lay_33 : decode cX11_lay 33 = .ok (.iaload, 1) := by decide +kernel
theorem dX11_lay_34 : decode cX11_lay 34 = .ok (.if_icmp .ge 38, 3) := by decide +kernel
theorem dX11_lay_37 : decode cX11_lay 37 = .ok (.iload 4, 2) := by decide +kernel
theorem dX11_lay_39 : decode cX11_lay 39 = .ok (.ifCond .ne 20, 3) := by decide +kernel
theorem dX11_lay_42 : decode cX11_lay 42 = .ok (.iload 5, 2) := by decide +kernel
theorem dX11_lay_44 : decode cX11_lay 44 = .ok (.iload_n 1, 1) := by decide +kernel
theorem dX11_lay_45 : decode cX11_lay 45 = .ok (.if_icmp .eq 18, 3) := by decide +kernel
theorem dX11_lay_48 : decode cX11_lay 48 = .ok (.aload_n 0, 1) := by decide +kernel
theorem dX11_lay_49 : decode cX11_lay 49 = .ok (.iload 5, 2) := by decide +kernel
theorem dX11_lay_51 : decode cX11_lay 51 = .ok (.iload_n 2, 1) := by decide +kernel
theorem dX11_lay_52 : decode cX11_lay 52 = .ok (.iload_n 3, 1) := by decide +kernel
theorem dX11_lay_53 : decode cX11_lay 53 = .ok (.invokevirtual 74, 3) := by decide +kernel
theorem dX11_lay_56 : decode cX11_lay 56 = .ok (.ifCond .eq 7, 3) := by decide +kernel
theorem dX11_lay_59 : decode cX11_lay 59 = .ok (.iconst 1, 1) := by decide +kernel
theorem dX11_lay_60 : decode cX11_lay 60 = .ok (.goto 4, 3) := by decide +kernel
theorem dX11_lay_63 : decode cX11_lay 63 = .ok (.iconst 0, 1) := by decide +kernel
theorem dX11_lay_64 : decode cX11_lay 64 = .ok (.istore 4, 2) := by decide +kernel
theorem dX11_lay_66 : decode cX11_lay 66 = .ok (.iinc 5 1, 3) := by decide +kernel
theorem dX11_lay_69 : decode cX11_lay 69 = .ok (.goto (-44), 3) := by decide +kernel
theorem dX11_lay_72 : decode cX11_lay 72 = .ok (.aload_n 0, 1) := by decide +kernel
theorem dX11_lay_73 : decode cX11_lay 73 = .ok (.getfield 25, 3) := by decide +kernel
theorem dX11_lay_76 : decode cX11_lay 76 = .ok (.aload_n 0, 1) := by decide +kernel
theorem dX11_lay_77 : decode cX11_lay 77 = .ok (.iload_n 2, 1) := by decide +kernel
theorem dX11_lay_78 : decode cX11_lay 78 = .ok (.invokevirtual 36, 3) := by decide +kernel
theorem dX11_lay_81 : decode cX11_lay 81 = .ok (.iload_n 3, 1) := by decide +kernel
theorem dX11_lay_82 : decode cX11_lay 82 = .ok (.iadd, 1) := by decide +kernel
theorem dX11_lay_83 : decode cX11_lay 83 = .ok (.iload 4, 2) := by decide +kernel
theorem dX11_lay_85 : decode cX11_lay 85 = .ok (.bastore, 1) := by decide +kernel
theorem dX11_lay_86 : decode cX11_lay 86 = .ok (.iinc 3 1, 3) := by decide +kernel
theorem dX11_lay_89 : decode cX11_lay 89 = .ok (.goto (-79), 3) := by decide +kernel
theorem dX11_lay_92 : decode cX11_lay 92 = .ok (.iinc 2 1, 3) := by decide +kernel
theorem dX11_lay_95 : decode cX11_lay 95 = .ok (.goto (-93), 3) := by decide +kernel
theorem dX11_lay_98 : decode cX11_lay 98 = .ok (.return_, 1) := by decide +kernel
set_option maxRecDepth 20000 in
theorem dX11_damaged_0 : decode cX11_damaged 0 = .ok (.aload_n 0, 1) := by decide +kernel
theorem dX11_damaged_1 : decode cX11_damaged 1 = .ok (.bipush (-5), 2) := by decide +kernel
theorem dX11_damaged_3 : decode cX11_damaged 3 = .ok (.invokevirtual 77, 3) := by decide +kernel
theorem dX11_damaged_6 : decode cX11_damaged 6 = .ok (.iconst 0, 1) := by decide +kernel
theorem dX11_damaged_7 : decode cX11_damaged 7 = .ok (.istore_n 1, 1) := by decide +kernel
theorem dX11_damaged_8 : decode cX11_damaged 8 = .ok (.iconst 0, 1) := by decide +kernel
theorem dX11_damaged_9 : decode cX11_damaged 9 = .ok (.istore_n 2, 1) := by decide +kernel
theorem dX11_damaged_10 : decode cX11_damaged 10 = .ok (.iload_n 2, 1) := by decide +kernel
theorem dX11_damaged_11 : decode cX11_damaged 11 = .ok (.aload_n 0, 1) := by decide +kernel
theorem dX11_damaged_12 : decode cX11_damaged 12 = .ok (.invokevirtual 40, 3) := by decide +kernel
theorem dX11_damaged_15 : decode cX11_damaged 15 = .ok (.if_icmp .ge 26, 3) := by decide +kernel
theorem dX11_damaged_18 : decode cX11_damaged 18 = .ok (.iload_n 1, 1) := by decide +kernel
theorem dX11_damaged_19 : decode cX11_damaged 19 = .ok (.aload_n 0, 1) := by decide +kernel
theorem dX11_damaged_20 : decode cX11_damaged 20 = .ok (.getfield 25, 3) := by decide +kernel
theorem dX11_damaged_23 : decode cX11_damaged 23 = .ok (.iload_n 2, 1) := by decide +kernel
theorem dX11_damaged_24 : decode cX11_damaged 24 = .ok (.baload, 1) := by decide +kernel
theorem dX11_damaged_25 : decode cX11_damaged 25 = .ok (.ifCond .eq 7, 3) := by decide +kernel
theorem dX11_damaged_28 : decode cX11_damaged 28 = .ok (.iconst 1, 1) := by decide +kernel
theorem dX11_damaged_29 : decode cX11_damaged 29 = .ok (.goto 4, 3) := by decide +kernel
theorem dX11_damaged_32 : decode cX11_damaged 32 = .ok (.iconst 0, 1) := by decide +kernel
theorem dX11_damaged_33 : decode cX11_damaged 33 = .ok (.iadd, 1) := by decide +kernel
theorem dX11_damaged_34 : decode cX11_damaged 34 = .ok (.istore_n 1, 1) := by decide +kernel
theorem dX11_damaged_35 : decode cX11_damaged 35 = .ok (.iinc 2 1, 3) := by decide +kernel
theorem dX11_damaged_38 : decode cX11_damaged 38 = .ok (.goto (-28), 3) := by decide +kernel
theorem dX11_damaged_41 : decode cX11_damaged 41 = .ok (.iload_n 1, 1) := by decide +kernel
theorem dX11_damaged_42 : decode cX11_damaged 42 = .ok (.ireturn, 1) := by decide +kernel
set_option maxRecDepth 20000 in
theorem dX11_isSound_0 : decode cX11_isSound 0 = .ok (.aload_n 0, 1) := by decide +kernel
theorem dX11_isSound_1 : decode cX11_isSound 1 = .ok (.getfield 25, 3) := by decide +kernel
theorem dX11_isSound_4 : decode cX11_isSound 4 = .ok (.iload_n 1, 1) := by decide +kernel
theorem dX11_isSound_5 : decode cX11_isSound 5 = .ok (.baload, 1) := by decide +kernel
theorem dX11_isSound_6 : decode cX11_isSound 6 = .ok (.ifCond .ne 5, 3) := by decide +kernel
theorem dX11_isSound_9 : decode cX11_isSound 9 = .ok (.iconst 1, 1) := by decide +kernel
theorem dX11_isSound_10 : decode cX11_isSound 10 = .ok (.ireturn, 1) := by decide +kernel
theorem dX11_isSound_11 : decode cX11_isSound 11 = .ok (.iconst 0, 1) := by decide +kernel
theorem dX11_isSound_12 : decode cX11_isSound 12 = .ok (.istore_n 2, 1) := by decide +kernel
theorem dX11_isSound_13 : decode cX11_isSound 13 = .ok (.iconst 0, 1) := by decide +kernel
theorem dX11_isSound_14 : decode cX11_isSound 14 = .ok (.istore_n 3, 1) := by decide +kernel
theorem dX11_isSound_15 : decode cX11_isSound 15 = .ok (.iload_n 3, 1) := by decide +kernel
theorem dX11_isSound_16 : decode cX11_isSound 16 = .ok (.iconst 5, 1) := by decide +kernel
theorem dX11_isSound_17 : decode cX11_isSound 17 = .ok (.if_icmp .ge 40, 3) := by decide +kernel
theorem dX11_isSound_20 : decode cX11_isSound 20 = .ok (.aload_n 0, 1) := by decide +kernel
theorem dX11_isSound_21 : decode cX11_isSound 21 = .ok (.iload_n 1, 1) := by decide +kernel
theorem dX11_isSound_22 : decode cX11_isSound 22 = .ok (.invokevirtual 81, 3) := by decide +kernel
theorem dX11_isSound_25 : decode cX11_isSound 25 = .ok (.ifCond .eq 32, 3) := by decide +kernel
theorem dX11_isSound_28 : decode cX11_isSound 28 = .ok (.iload_n 2, 1) := by decide +kernel
theorem dX11_isSound_29 : decode cX11_isSound 29 = .ok (.aload_n 0, 1) := by decide +kernel
theorem dX11_isSound_30 : decode cX11_isSound 30 = .ok (.getfield 25, 3) := by decide +kernel
theorem dX11_isSound_33 : decode cX11_isSound 33 = .ok (.iload_n 1, 1) := by decide +kernel
theorem dX11_isSound_34 : decode cX11_isSound 34 = .ok (.iconst 5, 1) := by decide +kernel
theorem dX11_isSound_35 : decode cX11_isSound 35 = .ok (.idiv, 1) := by decide +kernel
theorem dX11_isSound_36 : decode cX11_isSound 36 = .ok (.iconst 5, 1) := by decide +kernel
theorem dX11_isSound_37 : decode cX11_isSound 37 = .ok (.imul, 1) := by decide +kernel
theorem dX11_isSound_38 : decode cX11_isSound 38 = .ok (.iload_n 3, 1) := by decide +kernel
theorem dX11_isSound_39 : decode cX11_isSound 39 = .ok (.iadd, 1) := by decide +kernel
theorem dX11_isSound_40 : decode cX11_isSound 40 = .ok (.baload, 1) := by decide +kernel
theorem dX11_isSound_41 : decode cX11_isSound 41 = .ok (.ifCond .eq 7, 3) := by decide +kernel
theorem dX11_isSound_44 : decode cX11_isSound 44 = .ok (.iconst 1, 1) := by decide +kernel
theorem dX11_isSound_45 : decode cX11_isSound 45 = .ok (.goto 4, 3) := by decide +kernel
theorem dX11_isSound_48 : decode cX11_isSound 48 = .ok (.iconst 0, 1) := by decide +kernel
theorem dX11_isSound_49 : decode cX11_isSound 49 = .ok (.iadd, 1) := by decide +kernel
theorem dX11_isSound_50 : decode cX11_isSound 50 = .ok (.istore_n 2, 1) := by decide +kernel
theorem dX11_isSound_51 : decode cX11_isSound 51 = .ok (.iinc 3 1, 3) := by decide +kernel
theorem dX11_isSound_54 : decode cX11_isSound 54 = .ok (.goto (-39), 3) := by decide +kernel
theorem dX11_isSound_57 : decode cX11_isSound 57 = .ok (.iload_n 2, 1) := by decide +kernel
theorem dX11_isSound_58 : decode cX11_isSound 58 = .ok (.iconst 1, 1) := by decide +kernel
theorem dX11_isSound_59 : decode cX11_isSound 59 = .ok (.if_icmp .ne 7, 3) := by decide +kernel
theorem dX11_isSound_62 : decode cX11_isSound 62 = .ok (.iconst 1, 1) := by decide +kernel
theorem dX11_isSound_63 : decode cX11_isSound 63 = .ok (.goto 4, 3) := by decide +kernel
theorem dX11_isSound_66 : decode cX11_isSound 66 = .ok (.iconst 0, 1) := by decide +kernel
theorem dX11_isSound_67 : decode cX11_isSound 67 = .ok (.ireturn, 1) := by decide +kernel
set_option maxRecDepth 20000 in
theorem dX11_beside_0 : decode cX11_beside 0 = .ok (.iload_n 0, 1) := by decide +kernel
theorem dX11_beside_1 : decode cX11_beside 1 = .ok (.iload_n 1, 1) := by decide +kernel
theorem dX11_beside_2 : decode cX11_beside 2 = .ok (.iadd, 1) := by decide +kernel
theorem dX11_beside_3 : decode cX11_beside 3 = .ok (.iconst 5, 1) := by decide +kernel
theorem dX11_beside_4 : decode cX11_beside 4 = .ok (.iadd, 1) := by decide +kernel
theorem dX11_beside_5 : decode cX11_beside 5 = .ok (.invokestatic 55, 3) := by decide +kernel
theorem dX11_beside_8 : decode cX11_beside 8 = .ok (.ifCond .eq 11, 3) := by decide +kernel
theorem dX11_beside_11 : decode cX11_beside 11 = .ok (.iload_n 0, 1) := by decide +kernel
theorem dX11_beside_12 : decode cX11_beside 12 = .ok (.iconst 2, 1) := by decide +kernel
theorem dX11_beside_13 : decode cX11_beside 13 = .ok (.iload_n 1, 1) := by decide +kernel
theorem dX11_beside_14 : decode cX11_beside 14 = .ok (.imul, 1) := by decide +kernel
theorem dX11_beside_15 : decode cX11_beside 15 = .ok (.iadd, 1) := by decide +kernel
theorem dX11_beside_16 : decode cX11_beside 16 = .ok (.goto 6, 3) := by decide +kernel
theorem dX11_beside_19 : decode cX11_beside 19 = .ok (.iload_n 0, 1) := by decide +kernel
theorem dX11_beside_20 : decode cX11_beside 20 = .ok (.iload_n 1, 1) := by decide +kernel
theorem dX11_beside_21 : decode cX11_beside 21 = .ok (.iadd, 1) := by decide +kernel
theorem dX11_beside_22 : decode cX11_beside 22 = .ok (.ireturn, 1) := by decide +kernel
set_option maxRecDepth 20000 in
theorem dX11_how_0 : decode cX11_how 0 = .ok (.aload_n 0, 1) := by decide +kernel
theorem dX11_how_1 : decode cX11_how 1 = .ok (.getfield 25, 3) := by decide +kernel
theorem dX11_how_4 : decode cX11_how 4 = .ok (.iload_n 1, 1) := by decide +kernel
theorem dX11_how_5 : decode cX11_how 5 = .ok (.baload, 1) := by decide +kernel
theorem dX11_how_6 : decode cX11_how 6 = .ok (.ifCond .ne 5, 3) := by decide +kernel
theorem dX11_how_9 : decode cX11_how 9 = .ok (.iconst 0, 1) := by decide +kernel
theorem dX11_how_10 : decode cX11_how 10 = .ok (.ireturn, 1) := by decide +kernel
theorem dX11_how_11 : decode cX11_how 11 = .ok (.aload_n 0, 1) := by decide +kernel
theorem dX11_how_12 : decode cX11_how 12 = .ok (.iload_n 1, 1) := by decide +kernel
theorem dX11_how_13 : decode cX11_how 13 = .ok (.invokevirtual 84, 3) := by decide +kernel
theorem dX11_how_16 : decode cX11_how 16 = .ok (.ifCond .eq 5, 3) := by decide +kernel
theorem dX11_how_19 : decode cX11_how 19 = .ok (.iconst 1, 1) := by decide +kernel
theorem dX11_how_20 : decode cX11_how 20 = .ok (.ireturn, 1) := by decide +kernel
theorem dX11_how_21 : decode cX11_how 21 = .ok (.iload_n 1, 1) := by decide +kernel
theorem dX11_how_22 : decode cX11_how 22 = .ok (.iconst (-1), 1) := by decide +kernel
theorem dX11_how_23 : decode cX11_how 23 = .ok (.invokestatic 87, 3) := by decide +kernel
theorem dX11_how_26 : decode cX11_how 26 = .ok (.istore_n 2, 1) := by decide +kernel
theorem dX11_how_27 : decode cX11_how 27 = .ok (.iload_n 1, 1) := by decide +kernel
theorem dX11_how_28 : decode cX11_how 28 = .ok (.iconst 1, 1) := by decide +kernel
theorem dX11_how_29 : decode cX11_how 29 = .ok (.invokestatic 87, 3) := by decide +kernel
theorem dX11_how_32 : decode cX11_how 32 = .ok (.istore_n 3, 1) := by decide +kernel
theorem dX11_how_33 : decode cX11_how 33 = .ok (.iload_n 1, 1) := by decide +kernel
theorem dX11_how_34 : decode cX11_how 34 = .ok (.invokestatic 55, 3) := by decide +kernel
theorem dX11_how_37 : decode cX11_how 37 = .ok (.ifCond .ne 35, 3) := by decide +kernel
theorem dX11_how_40 : decode cX11_how 40 = .ok (.iload_n 2, 1) := by decide +kernel
theorem dX11_how_41 : decode cX11_how 41 = .ok (.ifCond .lt 31, 3) := by decide +kernel
theorem dX11_how_44 : decode cX11_how 44 = .ok (.iload_n 3, 1) := by decide +kernel
theorem dX11_how_45 : decode cX11_how 45 = .ok (.aload_n 0, 1) := by decide +kernel
theorem dX11_how_46 : decode cX11_how 46 = .ok (.invokevirtual 40, 3) := by decide +kernel
theorem dX11_how_49 : decode cX11_how 49 = .ok (.if_icmp .ge 23, 3) := by decide +kernel
theorem dX11_how_52 : decode cX11_how 52 = .ok (.aload_n 0, 1) := by decide +kernel
theorem dX11_how_53 : decode cX11_how 53 = .ok (.iload_n 2, 1) := by decide +kernel
theorem dX11_how_54 : decode cX11_how 54 = .ok (.invokevirtual 84, 3) := by decide +kernel
theorem dX11_how_57 : decode cX11_how 57 = .ok (.ifCond .eq 15, 3) := by decide +kernel
theorem dX11_how_60 : decode cX11_how 60 = .ok (.aload_n 0, 1) := by decide +kernel
theorem dX11_how_61 : decode cX11_how 61 = .ok (.iload_n 3, 1) := by decide +kernel
theorem dX11_how_62 : decode cX11_how 62 = .ok (.invokevirtual 84, 3) := by decide +kernel
theorem dX11_how_65 : decode cX11_how 65 = .ok (.ifCond .eq 7, 3) := by decide +kernel
theorem dX11_how_68 : decode cX11_how 68 = .ok (.iconst 1, 1) := by decide +kernel
theorem dX11_how_69 : decode cX11_how 69 = .ok (.goto 4, 3) := by decide +kernel
theorem dX11_how_72 : decode cX11_how 72 = .ok (.iconst 0, 1) := by decide +kernel
theorem dX11_how_73 : decode cX11_how 73 = .ok (.istore 4, 2) := by decide +kernel
theorem dX11_how_75 : decode cX11_how 75 = .ok (.iload 4, 2) := by decide +kernel
theorem dX11_how_77 : decode cX11_how 77 = .ok (.ifCond .eq 7, 3) := by decide +kernel
theorem dX11_how_80 : decode cX11_how 80 = .ok (.iconst 2, 1) := by decide +kernel
theorem dX11_how_81 : decode cX11_how 81 = .ok (.goto 4, 3) := by decide +kernel
theorem dX11_how_84 : decode cX11_how 84 = .ok (.iconst 3, 1) := by decide +kernel
theorem dX11_how_85 : decode cX11_how 85 = .ok (.ireturn, 1) := by decide +kernel
set_option maxRecDepth 20000 in
theorem dX11_toldSymbol_0 : decode cX11_toldSymbol 0 = .ok (.aload_n 0, 1) := by decide +kernel
theorem dX11_toldSymbol_1 : decode cX11_toldSymbol 1 = .ok (.iload_n 1, 1) := by decide +kernel
theorem dX11_toldSymbol_2 : decode cX11_toldSymbol 2 = .ok (.invokevirtual 90, 3) := by decide +kernel
theorem dX11_toldSymbol_5 : decode cX11_toldSymbol 5 = .ok (.iconst 2, 1) := by decide +kernel
theorem dX11_toldSymbol_6 : decode cX11_toldSymbol 6 = .ok (.if_icmp .ge 12, 3) := by decide +kernel
theorem dX11_toldSymbol_9 : decode cX11_toldSymbol 9 = .ok (.aload_n 0, 1) := by decide +kernel
theorem dX11_toldSymbol_10 : decode cX11_toldSymbol 10 = .ok (.iload_n 1, 1) := by decide +kernel
theorem dX11_toldSymbol_11 : decode cX11_toldSymbol 11 = .ok (.iload_n 2, 1) := by decide +kernel
theorem dX11_toldSymbol_12 : decode cX11_toldSymbol 12 = .ok (.invokevirtual 62, 3) := by decide +kernel
theorem dX11_toldSymbol_15 : decode cX11_toldSymbol 15 = .ok (.goto 26, 3) := by decide +kernel
theorem dX11_toldSymbol_18 : decode cX11_toldSymbol 18 = .ok (.aload_n 0, 1) := by decide +kernel
theorem dX11_toldSymbol_19 : decode cX11_toldSymbol 19 = .ok (.iload_n 1, 1) := by decide +kernel
theorem dX11_toldSymbol_20 : decode cX11_toldSymbol 20 = .ok (.iconst (-1), 1) := by decide +kernel
theorem dX11_toldSymbol_21 : decode cX11_toldSymbol 21 = .ok (.invokestatic 87, 3) := by decide +kernel
theorem dX11_toldSymbol_24 : decode cX11_toldSymbol 24 = .ok (.iload_n 2, 1) := by decide +kernel
theorem dX11_toldSymbol_25 : decode cX11_toldSymbol 25 = .ok (.invokevirtual 62, 3) := by decide +kernel
theorem dX11_toldSymbol_28 : decode cX11_toldSymbol 28 = .ok (.aload_n 0, 1) := by decide +kernel
theorem dX11_toldSymbol_29 : decode cX11_toldSymbol 29 = .ok (.iload_n 1, 1) := by decide +kernel
theorem dX11_toldSymbol_30 : decode cX11_toldSymbol 30 = .ok (.iconst 1, 1) := by decide +kernel
theorem dX11_toldSymbol_31 : decode cX11_toldSymbol 31 = .ok (.invokestatic 87, 3) := by decide +kernel
theorem dX11_toldSymbol_34 : decode cX11_toldSymbol 34 = .ok (.iload_n 2, 1) := by decide +kernel
theorem dX11_toldSymbol_35 : decode cX11_toldSymbol 35 = .ok (.invokevirtual 62, 3) := by decide +kernel
theorem dX11_toldSymbol_38 : decode cX11_toldSymbol 38 = .ok (.iadd, 1) := by decide +kernel
theorem dX11_toldSymbol_39 : decode cX11_toldSymbol 39 = .ok (.iconst 2, 1) := by decide +kernel
theorem dX11_toldSymbol_40 : decode cX11_toldSymbol 40 = .ok (.idiv, 1) := by decide +kernel
theorem dX11_toldSymbol_41 : decode cX11_toldSymbol 41 = .ok (.ireturn, 1) := by decide +kernel
set_option maxRecDepth 20000 in
theorem dX11_framesThat_0 : decode cX11_framesThat 0 = .ok (.iconst 0, 1) := by decide +kernel
theorem dX11_framesThat_1 : decode cX11_framesThat 1 = .ok (.istore_n 2, 1) := by decide +kernel
theorem dX11_framesThat_2 : decode cX11_framesThat 2 = .ok (.iconst 0, 1) := by decide +kernel
theorem dX11_framesThat_3 : decode cX11_framesThat 3 = .ok (.istore_n 3, 1) := by decide +kernel
theorem dX11_framesThat_4 : decode cX11_framesThat 4 = .ok (.iload_n 3, 1) := by decide +kernel
theorem dX11_framesThat_5 : decode cX11_framesThat 5 = .ok (.aload_n 0, 1) := by decide +kernel
theorem dX11_framesThat_6 : decode cX11_framesThat 6 = .ok (.invokevirtual 40, 3) := by decide +kernel
theorem dX11_framesThat_9 : decode cX11_framesThat 9 = .ok (.if_icmp .ge 26, 3) := by decide +kernel
theorem dX11_framesThat_12 : decode cX11_framesThat 12 = .ok (.iload_n 2, 1) := by decide +kernel
theorem dX11_framesThat_13 : decode cX11_framesThat 13 = .ok (.aload_n 0, 1) := by decide +kernel
theorem dX11_framesThat_14 : decode cX11_framesThat 14 = .ok (.iload_n 3, 1) := by decide +kernel
theorem dX11_framesThat_15 : decode cX11_framesThat 15 = .ok (.invokevirtual 90, 3) := by decide +kernel
theorem dX11_framesThat_18 : decode cX11_framesThat 18 = .ok (.iload_n 1, 1) := by decide +kernel
theorem dX11_framesThat_19 : decode cX11_framesThat 19 = .ok (.if_icmp .ne 7, 3) := by decide +kernel
theorem dX11_framesThat_22 : decode cX11_framesThat 22 = .ok (.iconst 1, 1) := by decide +kernel
theorem dX11_framesThat_23 : decode cX11_framesThat 23 = .ok (.goto 4, 3) := by decide +kernel
theorem dX11_framesThat_26 : decode cX11_framesThat 26 = .ok (.iconst 0, 1) := by decide +kernel
theorem dX11_framesThat_27 : decode cX11_framesThat 27 = .ok (.iadd, 1) := by decide +kernel
theorem dX11_framesThat_28 : decode cX11_framesThat 28 = .ok (.istore_n 2, 1) := by decide +kernel
theorem dX11_framesThat_29 : decode cX11_framesThat 29 = .ok (.iinc 3 1, 3) := by decide +kernel
theorem dX11_framesThat_32 : decode cX11_framesThat 32 = .ok (.goto (-28), 3) := by decide +kernel
theorem dX11_framesThat_35 : decode cX11_framesThat 35 = .ok (.iload_n 2, 1) := by decide +kernel
theorem dX11_framesThat_36 : decode cX11_framesThat 36 = .ok (.ireturn, 1) := by decide +kernel
set_option maxRecDepth 20000 in
theorem dX11_tick_0 : decode cX11_tick 0 = .ok (.aload_n 0, 1) := by decide +kernel
theorem dX11_tick_1 : decode cX11_tick 1 = .ok (.iload_n 1, 1) := by decide +kernel
theorem dX11_tick_2 : decode cX11_tick 2 = .ok (.invokevirtual 71, 3) := by decide +kernel
theorem dX11_tick_5 : decode cX11_tick 5 = .ok (.aload_n 0, 1) := by decide +kernel
theorem dX11_tick_6 : decode cX11_tick 6 = .ok (.getfield 7, 3) := by decide +kernel
theorem dX11_tick_9 : decode cX11_tick 9 = .ok (.bipush 7, 2) := by decide +kernel
theorem dX11_tick_11 : decode cX11_tick 11 = .ok (.iaload, 1) := by decide +kernel
theorem dX11_tick_12 : decode cX11_tick 12 = .ok (.isub, 1) := by decide +kernel
theorem dX11_tick_13 : decode cX11_tick 13 = .ok (.istore_n 2, 1) := by decide +kernel
theorem dX11_tick_14 : decode cX11_tick 14 = .ok (.aload_n 0, 1) := by decide +kernel
theorem dX11_tick_15 : decode cX11_tick 15 = .ok (.getfield 7, 3) := by decide +kernel
theorem dX11_tick_18 : decode cX11_tick 18 = .ok (.bipush 7, 2) := by decide +kernel
theorem dX11_tick_20 : decode cX11_tick 20 = .ok (.dup2, 1) := by decide +kernel
theorem dX11_tick_21 : decode cX11_tick 21 = .ok (.iaload, 1) := by decide +kernel
theorem dX11_tick_22 : decode cX11_tick 22 = .ok (.iload_n 2, 1) := by decide +kernel
theorem dX11_tick_23 : decode cX11_tick 23 = .ok (.aload_n 0, 1) := by decide +kernel
theorem dX11_tick_24 : decode cX11_tick 24 = .ok (.getfield 7, 3) := by decide +kernel
theorem dX11_tick_27 : decode cX11_tick 27 = .ok (.iconst 2, 1) := by decide +kernel
theorem dX11_tick_28 : decode cX11_tick 28 = .ok (.iaload, 1) := by decide +kernel
theorem dX11_tick_29 : decode cX11_tick 29 = .ok (.if_icmp .le 12, 3) := by decide +kernel
theorem dX11_tick_32 : decode cX11_tick 32 = .ok (.aload_n 0, 1) := by decide +kernel
theorem dX11_tick_33 : decode cX11_tick 33 = .ok (.getfield 7, 3) := by decide +kernel
theorem dX11_tick_36 : decode cX11_tick 36 = .ok (.iconst 2, 1) := by decide +kernel
theorem dX11_tick_37 : decode cX11_tick 37 = .ok (.iaload, 1) := by decide +kernel
theorem dX11_tick_38 : decode cX11_tick 38 = .ok (.goto 25, 3) := by decide +kernel
theorem dX11_tick_41 : decode cX11_tick 41 = .ok (.iload_n 2, 1) := by decide +kernel
theorem dX11_tick_42 : decode cX11_tick 42 = .ok (.aload_n 0, 1) := by decide +kernel
theorem dX11_tick_43 : decode cX11_tick 43 = .ok (.getfield 7, 3) := by decide +kernel
theorem dX11_tick_46 : decode cX11_tick 46 = .ok (.iconst 2, 1) := by decide +kernel
theorem dX11_tick_47 : decode cX11_tick 47 = .ok (.iaload, 1) := by decide +kernel
theorem dX11_tick_48 : decode cX11_tick 48 = .ok (.ineg, 1) := by decide +kernel
theorem dX11_tick_49 : decode cX11_tick 49 = .ok (.if_icmp .ge 13, 3) := by decide +kernel
theorem dX11_tick_52 : decode cX11_tick 52 = .ok (.aload_n 0, 1) := by decide +kernel
theorem dX11_tick_53 : decode cX11_tick 53 = .ok (.getfield 7, 3) := by decide +kernel
theorem dX11_tick_56 : decode cX11_tick 56 = .ok (.iconst 2, 1) := by decide +kernel
theorem dX11_tick_57 : decode cX11_tick 57 = .ok (.iaload, 1) := by decide +kernel
theorem dX11_tick_58 : decode cX11_tick 58 = .ok (.ineg, 1) := by decide +kernel
theorem dX11_tick_59 : decode cX11_tick 59 = .ok (.goto 4, 3) := by decide +kernel
theorem dX11_tick_62 : decode cX11_tick 62 = .ok (.iload_n 2, 1) := by decide +kernel
theorem dX11_tick_63 : decode cX11_tick 63 = .ok (.iadd, 1) := by decide +kernel
theorem dX11_tick_64 : decode cX11_tick 64 = .ok (.iastore, 1) := by decide +kernel
theorem dX11_tick_65 : decode cX11_tick 65 = .ok (.aload_n 0, 1) := by decide +kernel
theorem dX11_tick_66 : decode cX11_tick 66 = .ok (.getfield 7, 3) := by decide +kernel
theorem dX11_tick_69 : decode cX11_tick 69 = .ok (.bipush 8, 2) := by decide +kernel
theorem dX11_tick_71 : decode cX11_tick 71 = .ok (.dup2, 1) := by decide +kernel
theorem dX11_tick_72 : decode cX11_tick 72 = .ok (.iaload, 1) := by decide +kernel
theorem dX11_tick_73 : decode cX11_tick 73 = .ok (.iconst 1, 1) := by decide +kernel
theorem dX11_tick_74 : decode cX11_tick 74 = .ok (.iadd, 1) := by decide +kernel
theorem dX11_tick_75 : decode cX11_tick 75 = .ok (.iastore, 1) := by decide +kernel
theorem dX11_tick_76 : decode cX11_tick 76 = .ok (.return_, 1) := by decide +kernel
set_option maxRecDepth 20000 in
theorem dX11_isNear_0 : decode cX11_isNear 0 = .ok (.aload_n 0, 1) := by decide +kernel
theorem dX11_isNear_1 : decode cX11_isNear 1 = .ok (.iload_n 1, 1) := by decide +kernel
theorem dX11_isNear_2 : decode cX11_isNear 2 = .ok (.invokevirtual 71, 3) := by decide +kernel
theorem dX11_isNear_5 : decode cX11_isNear 5 = .ok (.aload_n 0, 1) := by decide +kernel
theorem dX11_isNear_6 : decode cX11_isNear 6 = .ok (.getfield 7, 3) := by decide +kernel
theorem dX11_isNear_9 : decode cX11_isNear 9 = .ok (.bipush 7, 2) := by decide +kernel
theorem dX11_isNear_11 : decode cX11_isNear 11 = .ok (.iaload, 1) := by decide +kernel
theorem dX11_isNear_12 : decode cX11_isNear 12 = .ok (.isub, 1) := by decide +kernel
theorem dX11_isNear_13 : decode cX11_isNear 13 = .ok (.invokestatic 93, 3) := by decide +kernel
theorem dX11_isNear_16 : decode cX11_isNear 16 = .ok (.aload_n 0, 1) := by decide +kernel
theorem dX11_isNear_17 : decode cX11_isNear 17 = .ok (.getfield 7, 3) := by decide +kernel
theorem dX11_isNear_20 : decode cX11_isNear 20 = .ok (.iconst 3, 1) := by decide +kernel
theorem dX11_isNear_21 : decode cX11_isNear 21 = .ok (.iaload, 1) := by decide +kernel
theorem dX11_isNear_22 : decode cX11_isNear 22 = .ok (.if_icmp .gt 7, 3) := by decide +kernel
theorem dX11_isNear_25 : decode cX11_isNear 25 = .ok (.iconst 1, 1) := by decide +kernel
theorem dX11_isNear_26 : decode cX11_isNear 26 = .ok (.goto 4, 3) := by decide +kernel
theorem dX11_isNear_29 : decode cX11_isNear 29 = .ok (.iconst 0, 1) := by decide +kernel
theorem dX11_isNear_30 : decode cX11_isNear 30 = .ok (.ireturn, 1) := by decide +kernel
set_option maxRecDepth 20000 in
theorem dX11_jumps_0 : decode cX11_jumps 0 = .ok (.aload_n 0, 1) := by decide +kernel
theorem dX11_jumps_1 : decode cX11_jumps 1 = .ok (.aload_n 0, 1) := by decide +kernel
theorem dX11_jumps_2 : decode cX11_jumps 2 = .ok (.getfield 7, 3) := by decide +kernel
theorem dX11_jumps_5 : decode cX11_jumps 5 = .ok (.bipush 6, 2) := by decide +kernel
theorem dX11_jumps_7 : decode cX11_jumps 7 = .ok (.iaload, 1) := by decide +kernel
theorem dX11_jumps_8 : decode cX11_jumps 8 = .ok (.invokevirtual 96, 3) := by decide +kernel
theorem dX11_jumps_11 : decode cX11_jumps 11 = .ok (.istore_n 2, 1) := by decide +kernel
theorem dX11_jumps_12 : decode cX11_jumps 12 = .ok (.iload_n 1, 1) := by decide +kernel
theorem dX11_jumps_13 : decode cX11_jumps 13 = .ok (.iload_n 2, 1) := by decide +kernel
theorem dX11_jumps_14 : decode cX11_jumps 14 = .ok (.isub, 1) := by decide +kernel
theorem dX11_jumps_15 : decode cX11_jumps 15 = .ok (.aload_n 0, 1) := by decide +kernel
theorem dX11_jumps_16 : decode cX11_jumps 16 = .ok (.getfield 7, 3) := by decide +kernel
theorem dX11_jumps_19 : decode cX11_jumps 19 = .ok (.iconst 4, 1) := by decide +kernel
theorem dX11_jumps_20 : decode cX11_jumps 20 = .ok (.iaload, 1) := by decide +kernel
theorem dX11_jumps_21 : decode cX11_jumps 21 = .ok (.imul, 1) := by decide +kernel
theorem dX11_jumps_22 : decode cX11_jumps 22 = .ok (.bipush 100, 2) := by decide +kernel
theorem dX11_jumps_24 : decode cX11_jumps 24 = .ok (.idiv, 1) := by decide +kernel
theorem dX11_jumps_25 : decode cX11_jumps 25 = .ok (.istore_n 3, 1) := by decide +kernel
theorem dX11_jumps_26 : decode cX11_jumps 26 = .ok (.iload_n 3, 1) := by decide +kernel
theorem dX11_jumps_27 : decode cX11_jumps 27 = .ok (.ifCond .ne 16, 3) := by decide +kernel
theorem dX11_jumps_30 : decode cX11_jumps 30 = .ok (.iload_n 1, 1) := by decide +kernel
theorem dX11_jumps_31 : decode cX11_jumps 31 = .ok (.iload_n 2, 1) := by decide +kernel
theorem dX11_jumps_32 : decode cX11_jumps 32 = .ok (.if_icmp .le 7, 3) := by decide +kernel
theorem dX11_jumps_35 : decode cX11_jumps 35 = .ok (.iconst 1, 1) := by decide +kernel
theorem dX11_jumps_36 : decode cX11_jumps 36 = .ok (.goto 8, 3) := by decide +kernel
theorem dX11_jumps_39 : decode cX11_jumps 39 = .ok (.iconst (-1), 1) := by decide +kernel
theorem dX11_jumps_40 : decode cX11_jumps 40 = .ok (.goto 4, 3) := by decide +kernel
theorem dX11_jumps_43 : decode cX11_jumps 43 = .ok (.iload_n 3, 1) := by decide +kernel
theorem dX11_jumps_44 : decode cX11_jumps 44 = .ok (.istore_n 3, 1) := by decide +kernel
theorem dX11_jumps_45 : decode cX11_jumps 45 = .ok (.iload_n 2, 1) := by decide +kernel
theorem dX11_jumps_46 : decode cX11_jumps 46 = .ok (.iload_n 3, 1) := by decide +kernel
theorem dX11_jumps_47 : decode cX11_jumps 47 = .ok (.iadd, 1) := by decide +kernel
theorem dX11_jumps_48 : decode cX11_jumps 48 = .ok (.ifCond .ge 7, 3) := by decide +kernel
theorem dX11_jumps_51 : decode cX11_jumps 51 = .ok (.iconst 0, 1) := by decide +kernel
theorem dX11_jumps_52 : decode cX11_jumps 52 = .ok (.goto 19, 3) := by decide +kernel
theorem dX11_jumps_55 : decode cX11_jumps 55 = .ok (.iload_n 2, 1) := by decide +kernel
theorem dX11_jumps_56 : decode cX11_jumps 56 = .ok (.iload_n 3, 1) := by decide +kernel
theorem dX11_jumps_57 : decode cX11_jumps 57 = .ok (.iadd, 1) := by decide +kernel
theorem dX11_jumps_58 : decode cX11_jumps 58 = .ok (.bipush 30, 2) := by decide +kernel
theorem dX11_jumps_60 : decode cX11_jumps 60 = .ok (.if_icmp .lt 8, 3) := by decide +kernel
theorem dX11_jumps_63 : decode cX11_jumps 63 = .ok (.bipush 29, 2) := by decide +kernel
theorem dX11_jumps_65 : decode cX11_jumps 65 = .ok (.goto 6, 3) := by decide +kernel
theorem dX11_jumps_68 : decode cX11_jumps 68 = .ok (.iload_n 2, 1) := by decide +kernel
theorem dX11_jumps_69 : decode cX11_jumps 69 = .ok (.iload_n 3, 1) := by decide +kernel
theorem dX11_jumps_70 : decode cX11_jumps 70 = .ok (.iadd, 1) := by decide +kernel
theorem dX11_jumps_71 : decode cX11_jumps 71 = .ok (.istore 4, 2) := by decide +kernel
theorem dX11_jumps_73 : decode cX11_jumps 73 = .ok (.aload_n 0, 1) := by decide +kernel
theorem dX11_jumps_74 : decode cX11_jumps 74 = .ok (.getfield 7, 3) := by decide +kernel
theorem dX11_jumps_77 : decode cX11_jumps 77 = .ok (.iconst 5, 1) := by decide +kernel
theorem dX11_jumps_78 : decode cX11_jumps 78 = .ok (.iaload, 1) := by decide +kernel
theorem dX11_jumps_79 : decode cX11_jumps 79 = .ok (.iload 4, 2) := by decide +kernel
theorem dX11_jumps_81 : decode cX11_jumps 81 = .ok (.iload_n 2, 1) := by decide +kernel
theorem dX11_jumps_82 : decode cX11_jumps 82 = .ok (.isub, 1) := by decide +kernel
theorem dX11_jumps_83 : decode cX11_jumps 83 = .ok (.invokestatic 93, 3) := by decide +kernel
theorem dX11_jumps_86 : decode cX11_jumps 86 = .ok (.iadd, 1) := by decide +kernel
theorem dX11_jumps_87 : decode cX11_jumps 87 = .ok (.istore 5, 2) := by decide +kernel
theorem dX11_jumps_89 : decode cX11_jumps 89 = .ok (.iconst 0, 1) := by decide +kernel
theorem dX11_jumps_90 : decode cX11_jumps 90 = .ok (.istore 6, 2) := by decide +kernel
theorem dX11_jumps_92 : decode cX11_jumps 92 = .ok (.iload 6, 2) := by decide +kernel
theorem dX11_jumps_94 : decode cX11_jumps 94 = .ok (.iload 5, 2) := by decide +kernel
theorem dX11_jumps_96 : decode cX11_jumps 96 = .ok (.if_icmp .ge 15, 3) := by decide +kernel
theorem dX11_jumps_99 : decode cX11_jumps 99 = .ok (.aload_n 0, 1) := by decide +kernel
theorem dX11_jumps_100 : decode cX11_jumps 100 = .ok (.iload 4, 2) := by decide +kernel
theorem dX11_jumps_102 : decode cX11_jumps 102 = .ok (.invokevirtual 99, 3) := by decide +kernel
theorem dX11_jumps_105 : decode cX11_jumps 105 = .ok (.iinc 6 1, 3) := by decide +kernel
theorem dX11_jumps_108 : decode cX11_jumps 108 = .ok (.goto (-16), 3) := by decide +kernel
theorem dX11_jumps_111 : decode cX11_jumps 111 = .ok (.aload_n 0, 1) := by decide +kernel
theorem dX11_jumps_112 : decode cX11_jumps 112 = .ok (.getfield 7, 3) := by decide +kernel
theorem dX11_jumps_115 : decode cX11_jumps 115 = .ok (.bipush 6, 2) := by decide +kernel
theorem dX11_jumps_117 : decode cX11_jumps 117 = .ok (.aload_n 0, 1) := by decide +kernel
theorem dX11_jumps_118 : decode cX11_jumps 118 = .ok (.iload 4, 2) := by decide +kernel
theorem dX11_jumps_120 : decode cX11_jumps 120 = .ok (.invokevirtual 36, 3) := by decide +kernel
theorem dX11_jumps_123 : decode cX11_jumps 123 = .ok (.iastore, 1) := by decide +kernel
theorem dX11_jumps_124 : decode cX11_jumps 124 = .ok (.aload_n 0, 1) := by decide +kernel
theorem dX11_jumps_125 : decode cX11_jumps 125 = .ok (.getfield 7, 3) := by decide +kernel
theorem dX11_jumps_128 : decode cX11_jumps 128 = .ok (.bipush 11, 2) := by decide +kernel
theorem dX11_jumps_130 : decode cX11_jumps 130 = .ok (.dup2, 1) := by decide +kernel
theorem dX11_jumps_131 : decode cX11_jumps 131 = .ok (.iaload, 1) := by decide +kernel
theorem dX11_jumps_132 : decode cX11_jumps 132 = .ok (.iconst 1, 1) := by decide +kernel
theorem dX11_jumps_133 : decode cX11_jumps 133 = .ok (.iadd, 1) := by decide +kernel
theorem dX11_jumps_134 : decode cX11_jumps 134 = .ok (.iastore, 1) := by decide +kernel
theorem dX11_jumps_135 : decode cX11_jumps 135 = .ok (.return_, 1) := by decide +kernel
set_option maxRecDepth 20000 in
theorem dX11_seeks_0 : decode cX11_seeks 0 = .ok (.aload_n 0, 1) := by decide +kernel
theorem dX11_seeks_1 : decode cX11_seeks 1 = .ok (.iload_n 1, 1) := by decide +kernel
theorem dX11_seeks_2 : decode cX11_seeks 2 = .ok (.invokevirtual 102, 3) := by decide +kernel
theorem dX11_seeks_5 : decode cX11_seeks 5 = .ok (.ifCond .ne 5, 3) := by decide +kernel
theorem dX11_seeks_8 : decode cX11_seeks 8 = .ok (.iconst (-1), 1) := by decide +kernel
theorem dX11_seeks_9 : decode cX11_seeks 9 = .ok (.ireturn, 1) := by decide +kernel
theorem dX11_seeks_10 : decode cX11_seeks 10 = .ok (.aload_n 0, 1) := by decide +kernel
theorem dX11_seeks_11 : decode cX11_seeks 11 = .ok (.getfield 7, 3) := by decide +kernel
theorem dX11_seeks_14 : decode cX11_seeks 14 = .ok (.bipush 8, 2) := by decide +kernel
theorem dX11_seeks_16 : decode cX11_seeks 16 = .ok (.iaload, 1) := by decide +kernel
theorem dX11_seeks_17 : decode cX11_seeks 17 = .ok (.istore_n 2, 1) := by decide +kernel
theorem dX11_seeks_18 : decode cX11_seeks 18 = .ok (.aload_n 0, 1) := by decide +kernel
theorem dX11_seeks_19 : decode cX11_seeks 19 = .ok (.iload_n 1, 1) := by decide +kernel
theorem dX11_seeks_20 : decode cX11_seeks 20 = .ok (.invokevirtual 96, 3) := by decide +kernel
theorem dX11_seeks_23 : decode cX11_seeks 23 = .ok (.istore_n 3, 1) := by decide +kernel
theorem dX11_seeks_24 : decode cX11_seeks 24 = .ok (.aload_n 0, 1) := by decide +kernel
theorem dX11_seeks_25 : decode cX11_seeks 25 = .ok (.aload_n 0, 1) := by decide +kernel
theorem dX11_seeks_26 : decode cX11_seeks 26 = .ok (.getfield 7, 3) := by decide +kernel
theorem dX11_seeks_29 : decode cX11_seeks 29 = .ok (.bipush 6, 2) := by decide +kernel
theorem dX11_seeks_31 : decode cX11_seeks 31 = .ok (.iaload, 1) := by decide +kernel
theorem dX11_seeks_32 : decode cX11_seeks 32 = .ok (.invokevirtual 96, 3) := by decide +kernel
theorem dX11_seeks_35 : decode cX11_seeks 35 = .ok (.iload_n 3, 1) := by decide +kernel
theorem dX11_seeks_36 : decode cX11_seeks 36 = .ok (.if_icmp .eq 11, 3) := by decide +kernel
theorem dX11_seeks_39 : decode cX11_seeks 39 = .ok (.aload_n 0, 1) := by decide +kernel
theorem dX11_seeks_40 : decode cX11_seeks 40 = .ok (.iload_n 3, 1) := by decide +kernel
theorem dX11_seeks_41 : decode cX11_seeks 41 = .ok (.invokevirtual 105, 3) := by decide +kernel
theorem dX11_seeks_44 : decode cX11_seeks 44 = .ok (.goto (-20), 3) := by decide +kernel
theorem dX11_seeks_47 : decode cX11_seeks 47 = .ok (.aload_n 0, 1) := by decide +kernel
theorem dX11_seeks_48 : decode cX11_seeks 48 = .ok (.iload_n 3, 1) := by decide +kernel
theorem dX11_seeks_49 : decode cX11_seeks 49 = .ok (.invokevirtual 108, 3) := by decide +kernel
theorem dX11_seeks_52 : decode cX11_seeks 52 = .ok (.ifCond .ne 11, 3) := by decide +kernel
theorem dX11_seeks_55 : decode cX11_seeks 55 = .ok (.aload_n 0, 1) := by decide +kernel
theorem dX11_seeks_56 : decode cX11_seeks 56 = .ok (.iload_n 3, 1) := by decide +kernel
theorem dX11_seeks_57 : decode cX11_seeks 57 = .ok (.invokevirtual 99, 3) := by decide +kernel
theorem dX11_seeks_60 : decode cX11_seeks 60 = .ok (.goto (-13), 3) := by decide +kernel
theorem dX11_seeks_63 : decode cX11_seeks 63 = .ok (.aload_n 0, 1) := by decide +kernel
theorem dX11_seeks_64 : decode cX11_seeks 64 = .ok (.getfield 7, 3) := by decide +kernel
theorem dX11_seeks_67 : decode cX11_seeks 67 = .ok (.bipush 6, 2) := by decide +kernel
theorem dX11_seeks_69 : decode cX11_seeks 69 = .ok (.iaload, 1) := by decide +kernel
theorem dX11_seeks_70 : decode cX11_seeks 70 = .ok (.iload_n 1, 1) := by decide +kernel
theorem dX11_seeks_71 : decode cX11_seeks 71 = .ok (.if_icmp .le 40, 3) := by decide +kernel
theorem dX11_seeks_74 : decode cX11_seeks 74 = .ok (.aload_n 0, 1) := by decide +kernel
theorem dX11_seeks_75 : decode cX11_seeks 75 = .ok (.getfield 7, 3) := by decide +kernel
theorem dX11_seeks_78 : decode cX11_seeks 78 = .ok (.bipush 8, 2) := by decide +kernel
theorem dX11_seeks_80 : decode cX11_seeks 80 = .ok (.dup2, 1) := by decide +kernel
theorem dX11_seeks_81 : decode cX11_seeks 81 = .ok (.iaload, 1) := by decide +kernel
theorem dX11_seeks_82 : decode cX11_seeks 82 = .ok (.aload_n 0, 1) := by decide +kernel
theorem dX11_seeks_83 : decode cX11_seeks 83 = .ok (.iload_n 3, 1) := by decide +kernel
theorem dX11_seeks_84 : decode cX11_seeks 84 = .ok (.iconst 1, 1) := by decide +kernel
theorem dX11_seeks_85 : decode cX11_seeks 85 = .ok (.iadd, 1) := by decide +kernel
theorem dX11_seeks_86 : decode cX11_seeks 86 = .ok (.invokevirtual 36, 3) := by decide +kernel
theorem dX11_seeks_89 : decode cX11_seeks 89 = .ok (.aload_n 0, 1) := by decide +kernel
theorem dX11_seeks_90 : decode cX11_seeks 90 = .ok (.getfield 7, 3) := by decide +kernel
theorem dX11_seeks_93 : decode cX11_seeks 93 = .ok (.bipush 6, 2) := by decide +kernel
theorem dX11_seeks_95 : decode cX11_seeks 95 = .ok (.iaload, 1) := by decide +kernel
theorem dX11_seeks_96 : decode cX11_seeks 96 = .ok (.isub, 1) := by decide +kernel
theorem dX11_seeks_97 : decode cX11_seeks 97 = .ok (.iadd, 1) := by decide +kernel
theorem dX11_seeks_98 : decode cX11_seeks 98 = .ok (.iastore, 1) := by decide +kernel
theorem dX11_seeks_99 : decode cX11_seeks 99 = .ok (.aload_n 0, 1) := by decide +kernel
theorem dX11_seeks_100 : decode cX11_seeks 100 = .ok (.getfield 7, 3) := by decide +kernel
theorem dX11_seeks_103 : decode cX11_seeks 103 = .ok (.bipush 6, 2) := by decide +kernel
theorem dX11_seeks_105 : decode cX11_seeks 105 = .ok (.aload_n 0, 1) := by decide +kernel
theorem dX11_seeks_106 : decode cX11_seeks 106 = .ok (.iload_n 3, 1) := by decide +kernel
theorem dX11_seeks_107 : decode cX11_seeks 107 = .ok (.invokevirtual 36, 3) := by decide +kernel
theorem dX11_seeks_110 : decode cX11_seeks 110 = .ok (.iastore, 1) := by decide +kernel
theorem dX11_seeks_111 : decode cX11_seeks 111 = .ok (.aload_n 0, 1) := by decide +kernel
theorem dX11_seeks_112 : decode cX11_seeks 112 = .ok (.getfield 7, 3) := by decide +kernel
theorem dX11_seeks_115 : decode cX11_seeks 115 = .ok (.bipush 8, 2) := by decide +kernel
theorem dX11_seeks_117 : decode cX11_seeks 117 = .ok (.dup2, 1) := by decide +kernel
theorem dX11_seeks_118 : decode cX11_seeks 118 = .ok (.iaload, 1) := by decide +kernel
theorem dX11_seeks_119 : decode cX11_seeks 119 = .ok (.iload_n 1, 1) := by decide +kernel
theorem dX11_seeks_120 : decode cX11_seeks 120 = .ok (.aload_n 0, 1) := by decide +kernel
theorem dX11_seeks_121 : decode cX11_seeks 121 = .ok (.getfield 7, 3) := by decide +kernel
theorem dX11_seeks_124 : decode cX11_seeks 124 = .ok (.bipush 6, 2) := by decide +kernel
theorem dX11_seeks_126 : decode cX11_seeks 126 = .ok (.iaload, 1) := by decide +kernel
theorem dX11_seeks_127 : decode cX11_seeks 127 = .ok (.isub, 1) := by decide +kernel
theorem dX11_seeks_128 : decode cX11_seeks 128 = .ok (.iadd, 1) := by decide +kernel
theorem dX11_seeks_129 : decode cX11_seeks 129 = .ok (.iastore, 1) := by decide +kernel
theorem dX11_seeks_130 : decode cX11_seeks 130 = .ok (.aload_n 0, 1) := by decide +kernel
theorem dX11_seeks_131 : decode cX11_seeks 131 = .ok (.getfield 7, 3) := by decide +kernel
theorem dX11_seeks_134 : decode cX11_seeks 134 = .ok (.bipush 6, 2) := by decide +kernel
theorem dX11_seeks_136 : decode cX11_seeks 136 = .ok (.iload_n 1, 1) := by decide +kernel
theorem dX11_seeks_137 : decode cX11_seeks 137 = .ok (.iastore, 1) := by decide +kernel
theorem dX11_seeks_138 : decode cX11_seeks 138 = .ok (.aload_n 0, 1) := by decide +kernel
theorem dX11_seeks_139 : decode cX11_seeks 139 = .ok (.getfield 7, 3) := by decide +kernel
theorem dX11_seeks_142 : decode cX11_seeks 142 = .ok (.bipush 8, 2) := by decide +kernel
theorem dX11_seeks_144 : decode cX11_seeks 144 = .ok (.iaload, 1) := by decide +kernel
theorem dX11_seeks_145 : decode cX11_seeks 145 = .ok (.iload_n 2, 1) := by decide +kernel
theorem dX11_seeks_146 : decode cX11_seeks 146 = .ok (.isub, 1) := by decide +kernel
theorem dX11_seeks_147 : decode cX11_seeks 147 = .ok (.ireturn, 1) := by decide +kernel
set_option maxRecDepth 20000 in
theorem dX11_plays_0 : decode cX11_plays 0 = .ok (.iload_n 1, 1) := by decide +kernel
theorem dX11_plays_1 : decode cX11_plays 1 = .ok (.iconst 1, 1) := by decide +kernel
theorem dX11_plays_2 : decode cX11_plays 2 = .ok (.sipush 999, 3) := by decide +kernel
theorem dX11_plays_5 : decode cX11_plays 5 = .ok (.invokestatic 44, 3) := by decide +kernel
theorem dX11_plays_8 : decode cX11_plays 8 = .ok (.ifCond .ne 6, 3) := by decide +kernel
theorem dX11_plays_11 : decode cX11_plays 11 = .ok (.bipush (-2), 2) := by decide +kernel
theorem dX11_plays_13 : decode cX11_plays 13 = .ok (.ireturn, 1) := by decide +kernel
theorem dX11_plays_14 : decode cX11_plays 14 = .ok (.aload_n 0, 1) := by decide +kernel
theorem dX11_plays_15 : decode cX11_plays 15 = .ok (.getfield 7, 3) := by decide +kernel
theorem dX11_plays_18 : decode cX11_plays 18 = .ok (.bipush 6, 2) := by decide +kernel
theorem dX11_plays_20 : decode cX11_plays 20 = .ok (.iaload, 1) := by decide +kernel
theorem dX11_plays_21 : decode cX11_plays 21 = .ok (.aload_n 0, 1) := by decide +kernel
theorem dX11_plays_22 : decode cX11_plays 22 = .ok (.invokevirtual 40, 3) := by decide +kernel
theorem dX11_plays_25 : decode cX11_plays 25 = .ok (.if_icmp .ne 6, 3) := by decide +kernel
theorem dX11_plays_28 : decode cX11_plays 28 = .ok (.bipush (-5), 2) := by decide +kernel
theorem dX11_plays_30 : decode cX11_plays 30 = .ok (.ireturn, 1) := by decide +kernel
theorem dX11_plays_31 : decode cX11_plays 31 = .ok (.aload_n 0, 1) := by decide +kernel
theorem dX11_plays_32 : decode cX11_plays 32 = .ok (.bipush (-5), 2) := by decide +kernel
theorem dX11_plays_34 : decode cX11_plays 34 = .ok (.invokevirtual 77, 3) := by decide +kernel
theorem dX11_plays_37 : decode cX11_plays 37 = .ok (.iload_n 1, 1) := by decide +kernel
theorem dX11_plays_38 : decode cX11_plays 38 = .ok (.istore_n 2, 1) := by decide +kernel
theorem dX11_plays_39 : decode cX11_plays 39 = .ok (.iconst 0, 1) := by decide +kernel
theorem dX11_plays_40 : decode cX11_plays 40 = .ok (.istore_n 3, 1) := by decide +kernel
theorem dX11_plays_41 : decode cX11_plays 41 = .ok (.iload_n 2, 1) := by decide +kernel
theorem dX11_plays_42 : decode cX11_plays 42 = .ok (.ifCond .le 96, 3) := by decide +kernel
theorem dX11_plays_45 : decode cX11_plays 45 = .ok (.aload_n 0, 1) := by decide +kernel
theorem dX11_plays_46 : decode cX11_plays 46 = .ok (.getfield 7, 3) := by decide +kernel
theorem dX11_plays_49 : decode cX11_plays 49 = .ok (.bipush 6, 2) := by decide +kernel
theorem dX11_plays_51 : decode cX11_plays 51 = .ok (.iaload, 1) := by decide +kernel
theorem dX11_plays_52 : decode cX11_plays 52 = .ok (.aload_n 0, 1) := by decide +kernel
theorem dX11_plays_53 : decode cX11_plays 53 = .ok (.invokevirtual 40, 3) := by decide +kernel
theorem dX11_plays_56 : decode cX11_plays 56 = .ok (.if_icmp .ge 82, 3) := by decide +kernel
theorem dX11_plays_59 : decode cX11_plays 59 = .ok (.aload_n 0, 1) := by decide +kernel
theorem dX11_plays_60 : decode cX11_plays 60 = .ok (.aload_n 0, 1) := by decide +kernel
theorem dX11_plays_61 : decode cX11_plays 61 = .ok (.getfield 7, 3) := by decide +kernel
theorem dX11_plays_64 : decode cX11_plays 64 = .ok (.bipush 6, 2) := by decide +kernel
theorem dX11_plays_66 : decode cX11_plays 66 = .ok (.iaload, 1) := by decide +kernel
theorem dX11_plays_67 : decode cX11_plays 67 = .ok (.invokevirtual 96, 3) := by decide +kernel
theorem dX11_plays_70 : decode cX11_plays 70 = .ok (.istore 4, 2) := by decide +kernel
theorem dX11_plays_72 : decode cX11_plays 72 = .ok (.aload_n 0, 1) := by decide +kernel
theorem dX11_plays_73 : decode cX11_plays 73 = .ok (.iload 4, 2) := by decide +kernel
theorem dX11_plays_75 : decode cX11_plays 75 = .ok (.invokevirtual 99, 3) := by decide +kernel
theorem dX11_plays_78 : decode cX11_plays 78 = .ok (.aload_n 0, 1) := by decide +kernel
theorem dX11_plays_79 : decode cX11_plays 79 = .ok (.iload 4, 2) := by decide +kernel
theorem dX11_plays_81 : decode cX11_plays 81 = .ok (.invokevirtual 108, 3) := by decide +kernel
theorem dX11_plays_84 : decode cX11_plays 84 = .ok (.ifCond .eq 51, 3) := by decide +kernel
theorem dX11_plays_87 : decode cX11_plays 87 = .ok (.iload_n 3, 1) := by decide +kernel
theorem dX11_plays_88 : decode cX11_plays 88 = .ok (.aload_n 0, 1) := by decide +kernel
theorem dX11_plays_89 : decode cX11_plays 89 = .ok (.getfield 25, 3) := by decide +kernel
theorem dX11_plays_92 : decode cX11_plays 92 = .ok (.aload_n 0, 1) := by decide +kernel
theorem dX11_plays_93 : decode cX11_plays 93 = .ok (.getfield 7, 3) := by decide +kernel
theorem dX11_plays_96 : decode cX11_plays 96 = .ok (.bipush 6, 2) := by decide +kernel
theorem dX11_plays_98 : decode cX11_plays 98 = .ok (.iaload, 1) := by decide +kernel
theorem dX11_plays_99 : decode cX11_plays 99 = .ok (.baload, 1) := by decide +kernel
theorem dX11_plays_100 : decode cX11_plays 100 = .ok (.ifCond .eq 7, 3) := by decide +kernel
theorem dX11_plays_103 : decode cX11_plays 103 = .ok (.iconst 0, 1) := by decide +kernel
theorem dX11_plays_104 : decode cX11_plays 104 = .ok (.goto 4, 3) := by decide +kernel
theorem dX11_plays_107 : decode cX11_plays 107 = .ok (.iconst 1, 1) := by decide +kernel
theorem dX11_plays_108 : decode cX11_plays 108 = .ok (.iadd, 1) := by decide +kernel
theorem dX11_plays_109 : decode cX11_plays 109 = .ok (.istore_n 3, 1) := by decide +kernel
theorem dX11_plays_110 : decode cX11_plays 110 = .ok (.aload_n 0, 1) := by decide +kernel
theorem dX11_plays_111 : decode cX11_plays 111 = .ok (.getfield 7, 3) := by decide +kernel
theorem dX11_plays_114 : decode cX11_plays 114 = .ok (.bipush 6, 2) := by decide +kernel
theorem dX11_plays_116 : decode cX11_plays 116 = .ok (.dup2, 1) := by decide +kernel
theorem dX11_plays_117 : decode cX11_plays 117 = .ok (.iaload, 1) := by decide +kernel
theorem dX11_plays_118 : decode cX11_plays 118 = .ok (.iconst 1, 1) := by decide +kernel
theorem dX11_plays_119 : decode cX11_plays 119 = .ok (.iadd, 1) := by decide +kernel
theorem dX11_plays_120 : decode cX11_plays 120 = .ok (.iastore, 1) := by decide +kernel
theorem dX11_plays_121 : decode cX11_plays 121 = .ok (.aload_n 0, 1) := by decide +kernel
theorem dX11_plays_122 : decode cX11_plays 122 = .ok (.getfield 7, 3) := by decide +kernel
theorem dX11_plays_125 : decode cX11_plays 125 = .ok (.bipush 9, 2) := by decide +kernel
theorem dX11_plays_127 : decode cX11_plays 127 = .ok (.dup2, 1) := by decide +kernel
theorem dX11_plays_128 : decode cX11_plays 128 = .ok (.iaload, 1) := by decide +kernel
theorem dX11_plays_129 : decode cX11_plays 129 = .ok (.iconst 1, 1) := by decide +kernel
theorem dX11_plays_130 : decode cX11_plays 130 = .ok (.iadd, 1) := by decide +kernel
theorem dX11_plays_131 : decode cX11_plays 131 = .ok (.iastore, 1) := by decide +kernel
theorem dX11_plays_132 : decode cX11_plays 132 = .ok (.iinc 2 (-1), 3) := by decide +kernel
theorem dX11_plays_135 : decode cX11_plays 135 = .ok (.goto (-94), 3) := by decide +kernel
theorem dX11_plays_138 : decode cX11_plays 138 = .ok (.aload_n 0, 1) := by decide +kernel
theorem dX11_plays_139 : decode cX11_plays 139 = .ok (.getfield 7, 3) := by decide +kernel
theorem dX11_plays_142 : decode cX11_plays 142 = .ok (.bipush 10, 2) := by decide +kernel
theorem dX11_plays_144 : decode cX11_plays 144 = .ok (.dup2, 1) := by decide +kernel
theorem dX11_plays_145 : decode cX11_plays 145 = .ok (.iaload, 1) := by decide +kernel
theorem dX11_plays_146 : decode cX11_plays 146 = .ok (.iload_n 3, 1) := by decide +kernel
theorem dX11_plays_147 : decode cX11_plays 147 = .ok (.iadd, 1) := by decide +kernel
theorem dX11_plays_148 : decode cX11_plays 148 = .ok (.iastore, 1) := by decide +kernel
theorem dX11_plays_149 : decode cX11_plays 149 = .ok (.iload_n 3, 1) := by decide +kernel
theorem dX11_plays_150 : decode cX11_plays 150 = .ok (.ireturn, 1) := by decide +kernel
set_option maxRecDepth 20000 in
theorem dX11_presses_0 : decode cX11_presses 0 = .ok (.aload_n 0, 1) := by decide +kernel
theorem dX11_presses_1 : decode cX11_presses 1 = .ok (.iload_n 1, 1) := by decide +kernel
theorem dX11_presses_2 : decode cX11_presses 2 = .ok (.invokevirtual 102, 3) := by decide +kernel
theorem dX11_presses_5 : decode cX11_presses 5 = .ok (.ifCond .ne 5, 3) := by decide +kernel
theorem dX11_presses_8 : decode cX11_presses 8 = .ok (.iconst (-1), 1) := by decide +kernel
theorem dX11_presses_9 : decode cX11_presses 9 = .ok (.ireturn, 1) := by decide +kernel
theorem dX11_presses_10 : decode cX11_presses 10 = .ok (.iload_n 2, 1) := by decide +kernel
theorem dX11_presses_11 : decode cX11_presses 11 = .ok (.iconst 0, 1) := by decide +kernel
theorem dX11_presses_12 : decode cX11_presses 12 = .ok (.iconst 3, 1) := by decide +kernel
theorem dX11_presses_13 : decode cX11_presses 13 = .ok (.invokestatic 44, 3) := by decide +kernel
theorem dX11_presses_16 : decode cX11_presses 16 = .ok (.ifCond .eq 13, 3) := by decide +kernel
theorem dX11_presses_19 : decode cX11_presses 19 = .ok (.iload_n 3, 1) := by decide +kernel
theorem dX11_presses_20 : decode cX11_presses 20 = .ok (.iconst 0, 1) := by decide +kernel
theorem dX11_presses_21 : decode cX11_presses 21 = .ok (.bipush 15, 2) := by decide +kernel
theorem dX11_presses_23 : decode cX11_presses 23 = .ok (.invokestatic 44, 3) := by decide +kernel
theorem dX11_presses_26 : decode cX11_presses 26 = .ok (.ifCond .ne 6, 3) := by decide +kernel
theorem dX11_presses_29 : decode cX11_presses 29 = .ok (.bipush (-2), 2) := by decide +kernel
theorem dX11_presses_31 : decode cX11_presses 31 = .ok (.ireturn, 1) := by decide +kernel
theorem dX11_presses_32 : decode cX11_presses 32 = .ok (.iload_n 1, 1) := by decide +kernel
theorem dX11_presses_33 : decode cX11_presses 33 = .ok (.invokestatic 55, 3) := by decide +kernel
theorem dX11_presses_36 : decode cX11_presses 36 = .ok (.ifCond .eq 6, 3) := by decide +kernel
theorem dX11_presses_39 : decode cX11_presses 39 = .ok (.bipush (-4), 2) := by decide +kernel
theorem dX11_presses_41 : decode cX11_presses 41 = .ok (.ireturn, 1) := by decide +kernel
theorem dX11_presses_42 : decode cX11_presses 42 = .ok (.aload_n 0, 1) := by decide +kernel
theorem dX11_presses_43 : decode cX11_presses 43 = .ok (.iload_n 1, 1) := by decide +kernel
theorem dX11_presses_44 : decode cX11_presses 44 = .ok (.iload_n 2, 1) := by decide +kernel
theorem dX11_presses_45 : decode cX11_presses 45 = .ok (.invokevirtual 59, 3) := by decide +kernel
theorem dX11_presses_48 : decode cX11_presses 48 = .ok (.istore 4, 2) := by decide +kernel
theorem dX11_presses_50 : decode cX11_presses 50 = .ok (.iload 4, 2) := by decide +kernel
theorem dX11_presses_52 : decode cX11_presses 52 = .ok (.iload_n 3, 1) := by decide +kernel
theorem dX11_presses_53 : decode cX11_presses 53 = .ok (.if_icmp .ne 6, 3) := by decide +kernel
theorem dX11_presses_56 : decode cX11_presses 56 = .ok (.bipush (-5), 2) := by decide +kernel
theorem dX11_presses_58 : decode cX11_presses 58 = .ok (.ireturn, 1) := by decide +kernel
theorem dX11_presses_59 : decode cX11_presses 59 = .ok (.aload_n 0, 1) := by decide +kernel
theorem dX11_presses_60 : decode cX11_presses 60 = .ok (.iload_n 1, 1) := by decide +kernel
theorem dX11_presses_61 : decode cX11_presses 61 = .ok (.iload_n 2, 1) := by decide +kernel
theorem dX11_presses_62 : decode cX11_presses 62 = .ok (.invokevirtual 48, 3) := by decide +kernel
theorem dX11_presses_65 : decode cX11_presses 65 = .ok (.istore 5, 2) := by decide +kernel
theorem dX11_presses_67 : decode cX11_presses 67 = .ok (.iload 5, 2) := by decide +kernel
theorem dX11_presses_69 : decode cX11_presses 69 = .ok (.bipush (-5), 2) := by decide +kernel
theorem dX11_presses_71 : decode cX11_presses 71 = .ok (.if_icmp .ne 18, 3) := by decide +kernel
theorem dX11_presses_74 : decode cX11_presses 74 = .ok (.aload_n 0, 1) := by decide +kernel
theorem dX11_presses_75 : decode cX11_presses 75 = .ok (.getfield 7, 3) := by decide +kernel
theorem dX11_presses_78 : decode cX11_presses 78 = .ok (.bipush 45, 2) := by decide +kernel
theorem dX11_presses_80 : decode cX11_presses 80 = .ok (.iaload, 1) := by decide +kernel
theorem dX11_presses_81 : decode cX11_presses 81 = .ok (.bipush 40, 2) := by decide +kernel
theorem dX11_presses_83 : decode cX11_presses 83 = .ok (.if_icmp .ne 6, 3) := by decide +kernel
theorem dX11_presses_86 : decode cX11_presses 86 = .ok (.bipush (-3), 2) := by decide +kernel
theorem dX11_presses_88 : decode cX11_presses 88 = .ok (.ireturn, 1) := by decide +kernel
theorem dX11_presses_89 : decode cX11_presses 89 = .ok (.iload 5, 2) := by decide +kernel
theorem dX11_presses_91 : decode cX11_presses 91 = .ok (.bipush (-5), 2) := by decide +kernel
theorem dX11_presses_93 : decode cX11_presses 93 = .ok (.if_icmp .ne 13, 3) := by decide +kernel
theorem dX11_presses_96 : decode cX11_presses 96 = .ok (.aload_n 0, 1) := by decide +kernel
theorem dX11_presses_97 : decode cX11_presses 97 = .ok (.getfield 7, 3) := by decide +kernel
theorem dX11_presses_100 : decode cX11_presses 100 = .ok (.bipush 45, 2) := by decide +kernel
theorem dX11_presses_102 : decode cX11_presses 102 = .ok (.iaload, 1) := by decide +kernel
theorem dX11_presses_103 : decode cX11_presses 103 = .ok (.goto 5, 3) := by decide +kernel
theorem dX11_presses_106 : decode cX11_presses 106 = .ok (.iload 5, 2) := by decide +kernel
theorem dX11_presses_108 : decode cX11_presses 108 = .ok (.istore 5, 2) := by decide +kernel
theorem dX11_presses_110 : decode cX11_presses 110 = .ok (.aload_n 0, 1) := by decide +kernel
theorem dX11_presses_111 : decode cX11_presses 111 = .ok (.getfield 7, 3) := by decide +kernel
theorem dX11_presses_114 : decode cX11_presses 114 = .ok (.bipush 45, 2) := by decide +kernel
theorem dX11_presses_116 : decode cX11_presses 116 = .ok (.iload 5, 2) := by decide +kernel
theorem dX11_presses_118 : decode cX11_presses 118 = .ok (.aload_n 0, 1) := by decide +kernel
theorem dX11_presses_119 : decode cX11_presses 119 = .ok (.getfield 7, 3) := by decide +kernel
theorem dX11_presses_122 : decode cX11_presses 122 = .ok (.bipush 45, 2) := by decide +kernel
theorem dX11_presses_124 : decode cX11_presses 124 = .ok (.iaload, 1) := by decide +kernel
theorem dX11_presses_125 : decode cX11_presses 125 = .ok (.if_icmp .ne 10, 3) := by decide +kernel
theorem dX11_presses_128 : decode cX11_presses 128 = .ok (.iload 5, 2) := by decide +kernel
theorem dX11_presses_130 : decode cX11_presses 130 = .ok (.iconst 1, 1) := by decide +kernel
theorem dX11_presses_131 : decode cX11_presses 131 = .ok (.iadd, 1) := by decide +kernel
theorem dX11_presses_132 : decode cX11_presses 132 = .ok (.goto 10, 3) := by decide +kernel
theorem dX11_presses_135 : decode cX11_presses 135 = .ok (.aload_n 0, 1) := by decide +kernel
theorem dX11_presses_136 : decode cX11_presses 136 = .ok (.getfield 7, 3) := by decide +kernel
theorem dX11_presses_139 : decode cX11_presses 139 = .ok (.bipush 45, 2) := by decide +kernel
theorem dX11_presses_141 : decode cX11_presses 141 = .ok (.iaload, 1) := by decide +kernel
theorem dX11_presses_142 : decode cX11_presses 142 = .ok (.iastore, 1) := by decide +kernel
theorem dX11_presses_143 : decode cX11_presses 143 = .ok (.aload_n 0, 1) := by decide +kernel
theorem dX11_presses_144 : decode cX11_presses 144 = .ok (.getfield 7, 3) := by decide +kernel
theorem dX11_presses_147 : decode cX11_presses 147 = .ok (.bipush 46, 2) := by decide +kernel
theorem dX11_presses_149 : decode cX11_presses 149 = .ok (.iconst 3, 1) := by decide +kernel
theorem dX11_presses_150 : decode cX11_presses 150 = .ok (.iload 5, 2) := by decide +kernel
theorem dX11_presses_152 : decode cX11_presses 152 = .ok (.imul, 1) := by decide +kernel
theorem dX11_presses_153 : decode cX11_presses 153 = .ok (.iadd, 1) := by decide +kernel
theorem dX11_presses_154 : decode cX11_presses 154 = .ok (.iload_n 1, 1) := by decide +kernel
theorem dX11_presses_155 : decode cX11_presses 155 = .ok (.iastore, 1) := by decide +kernel
theorem dX11_presses_156 : decode cX11_presses 156 = .ok (.aload_n 0, 1) := by decide +kernel
theorem dX11_presses_157 : decode cX11_presses 157 = .ok (.getfield 7, 3) := by decide +kernel
theorem dX11_presses_160 : decode cX11_presses 160 = .ok (.bipush 46, 2) := by decide +kernel
theorem dX11_presses_162 : decode cX11_presses 162 = .ok (.iconst 3, 1) := by decide +kernel
theorem dX11_presses_163 : decode cX11_presses 163 = .ok (.iload 5, 2) := by decide +kernel
theorem dX11_presses_165 : decode cX11_presses 165 = .ok (.imul, 1) := by decide +kernel
theorem dX11_presses_166 : decode cX11_presses 166 = .ok (.iadd, 1) := by decide +kernel
theorem dX11_presses_167 : decode cX11_presses 167 = .ok (.iconst 1, 1) := by decide +kernel
theorem dX11_presses_168 : decode cX11_presses 168 = .ok (.iadd, 1) := by decide +kernel
theorem dX11_presses_169 : decode cX11_presses 169 = .ok (.iload_n 2, 1) := by decide +kernel
theorem dX11_presses_170 : decode cX11_presses 170 = .ok (.iastore, 1) := by decide +kernel
theorem dX11_presses_171 : decode cX11_presses 171 = .ok (.aload_n 0, 1) := by decide +kernel
theorem dX11_presses_172 : decode cX11_presses 172 = .ok (.getfield 7, 3) := by decide +kernel
theorem dX11_presses_175 : decode cX11_presses 175 = .ok (.bipush 46, 2) := by decide +kernel
theorem dX11_presses_177 : decode cX11_presses 177 = .ok (.iconst 3, 1) := by decide +kernel
theorem dX11_presses_178 : decode cX11_presses 178 = .ok (.iload 5, 2) := by decide +kernel
theorem dX11_presses_180 : decode cX11_presses 180 = .ok (.imul, 1) := by decide +kernel
theorem dX11_presses_181 : decode cX11_presses 181 = .ok (.iadd, 1) := by decide +kernel
theorem dX11_presses_182 : decode cX11_presses 182 = .ok (.iconst 2, 1) := by decide +kernel
theorem dX11_presses_183 : decode cX11_presses 183 = .ok (.iadd, 1) := by decide +kernel
theorem dX11_presses_184 : decode cX11_presses 184 = .ok (.iload_n 3, 1) := by decide +kernel
theorem dX11_presses_185 : decode cX11_presses 185 = .ok (.iastore, 1) := by decide +kernel
theorem dX11_presses_186 : decode cX11_presses 186 = .ok (.iload_n 3, 1) := by decide +kernel
theorem dX11_presses_187 : decode cX11_presses 187 = .ok (.iload_n 1, 1) := by decide +kernel
theorem dX11_presses_188 : decode cX11_presses 188 = .ok (.iload_n 2, 1) := by decide +kernel
theorem dX11_presses_189 : decode cX11_presses 189 = .ok (.invokestatic 52, 3) := by decide +kernel
theorem dX11_presses_192 : decode cX11_presses 192 = .ok (.if_icmp .ne 85, 3) := by decide +kernel
theorem dX11_presses_195 : decode cX11_presses 195 = .ok (.aload_n 0, 1) := by decide +kernel
theorem dX11_presses_196 : decode cX11_presses 196 = .ok (.getfield 7, 3) := by decide +kernel
theorem dX11_presses_199 : decode cX11_presses 199 = .ok (.bipush 45, 2) := by decide +kernel
theorem dX11_presses_201 : decode cX11_presses 201 = .ok (.dup2, 1) := by decide +kernel
theorem dX11_presses_202 : decode cX11_presses 202 = .ok (.iaload, 1) := by decide +kernel
theorem dX11_presses_203 : decode cX11_presses 203 = .ok (.iconst 1, 1) := by decide +kernel
theorem dX11_presses_204 : decode cX11_presses 204 = .ok (.isub, 1) := by decide +kernel
theorem dX11_presses_205 : decode cX11_presses 205 = .ok (.iastore, 1) := by decide +kernel
theorem dX11_presses_206 : decode cX11_presses 206 = .ok (.iconst 0, 1) := by decide +kernel
theorem dX11_presses_207 : decode cX11_presses 207 = .ok (.istore 6, 2) := by decide +kernel
theorem dX11_presses_209 : decode cX11_presses 209 = .ok (.iload 6, 2) := by decide +kernel
theorem dX11_presses_211 : decode cX11_presses 211 = .ok (.iconst 3, 1) := by decide +kernel
theorem dX11_presses_212 : decode cX11_presses 212 = .ok (.if_icmp .ge 65, 3) := by decide +kernel
theorem dX11_presses_215 : decode cX11_presses 215 = .ok (.aload_n 0, 1) := by decide +kernel
theorem dX11_presses_216 : decode cX11_presses 216 = .ok (.getfield 7, 3) := by decide +kernel
theorem dX11_presses_219 : decode cX11_presses 219 = .ok (.bipush 46, 2) := by decide +kernel
theorem dX11_presses_221 : decode cX11_presses 221 = .ok (.iconst 3, 1) := by decide +kernel
theorem dX11_presses_222 : decode cX11_presses 222 = .ok (.iload 5, 2) := by decide +kernel
theorem dX11_presses_224 : decode cX11_presses 224 = .ok (.imul, 1) := by decide +kernel
theorem dX11_presses_225 : decode cX11_presses 225 = .ok (.iadd, 1) := by decide +kernel
theorem dX11_presses_226 : decode cX11_presses 226 = .ok (.iload 6, 2) := by decide +kernel
theorem dX11_presses_228 : decode cX11_presses 228 = .ok (.iadd, 1) := by decide +kernel
theorem dX11_presses_229 : decode cX11_presses 229 = .ok (.aload_n 0, 1) := by decide +kernel
theorem dX11_presses_230 : decode cX11_presses 230 = .ok (.getfield 7, 3) := by decide +kernel
theorem dX11_presses_233 : decode cX11_presses 233 = .ok (.bipush 46, 2) := by decide +kernel
theorem dX11_presses_235 : decode cX11_presses 235 = .ok (.iconst 3, 1) := by decide +kernel
theorem dX11_presses_236 : decode cX11_presses 236 = .ok (.aload_n 0, 1) := by decide +kernel
theorem dX11_presses_237 : decode cX11_presses 237 = .ok (.getfield 7, 3) := by decide +kernel
theorem dX11_presses_240 : decode cX11_presses 240 = .ok (.bipush 45, 2) := by decide +kernel
theorem dX11_presses_242 : decode cX11_presses 242 = .ok (.iaload, 1) := by decide +kernel
theorem dX11_presses_243 : decode cX11_presses 243 = .ok (.imul, 1) := by decide +kernel
theorem dX11_presses_244 : decode cX11_presses 244 = .ok (.iadd, 1) := by decide +kernel
theorem dX11_presses_245 : decode cX11_presses 245 = .ok (.iload 6, 2) := by decide +kernel
theorem dX11_presses_247 : decode cX11_presses 247 = .ok (.iadd, 1) := by decide +kernel
theorem dX11_presses_248 : decode cX11_presses 248 = .ok (.iaload, 1) := by decide +kernel
theorem dX11_presses_249 : decode cX11_presses 249 = .ok (.iastore, 1) := by decide +kernel
theorem dX11_presses_250 : decode cX11_presses 250 = .ok (.aload_n 0, 1) := by decide +kernel
theorem dX11_presses_251 : decode cX11_presses 251 = .ok (.getfield 7, 3) := by decide +kernel
theorem dX11_presses_254 : decode cX11_presses 254 = .ok (.bipush 46, 2) := by decide +kernel
theorem dX11_presses_256 : decode cX11_presses 256 = .ok (.iconst 3, 1) := by decide +kernel
theorem dX11_presses_257 : decode cX11_presses 257 = .ok (.aload_n 0, 1) := by decide +kernel
theorem dX11_presses_258 : decode cX11_presses 258 = .ok (.getfield 7, 3) := by decide +kernel
theorem dX11_presses_261 : decode cX11_presses 261 = .ok (.bipush 45, 2) := by decide +kernel
theorem dX11_presses_263 : decode cX11_presses 263 = .ok (.iaload, 1) := by decide +kernel
theorem dX11_presses_264 : decode cX11_presses 264 = .ok (.imul, 1) := by decide +kernel
theorem dX11_presses_265 : decode cX11_presses 265 = .ok (.iadd, 1) := by decide +kernel
theorem dX11_presses_266 : decode cX11_presses 266 = .ok (.iload 6, 2) := by decide +kernel
theorem dX11_presses_268 : decode cX11_presses 268 = .ok (.iadd, 1) := by decide +kernel
theorem dX11_presses_269 : decode cX11_presses 269 = .ok (.iconst 0, 1) := by decide +kernel
theorem dX11_presses_270 : decode cX11_presses 270 = .ok (.iastore, 1) := by decide +kernel
theorem dX11_presses_271 : decode cX11_presses 271 = .ok (.iinc 6 1, 3) := by decide +kernel
theorem dX11_presses_274 : decode cX11_presses 274 = .ok (.goto (-65), 3) := by decide +kernel
theorem dX11_presses_277 : decode cX11_presses 277 = .ok (.iload 4, 2) := by decide +kernel
theorem dX11_presses_279 : decode cX11_presses 279 = .ok (.ireturn, 1) := by decide +kernel
set_option maxRecDepth 20000 in
theorem dX11_scratches_0 : decode cX11_scratches 0 = .ok (.iload_n 1, 1) := by decide +kernel
theorem dX11_scratches_1 : decode cX11_scratches 1 = .ok (.iconst 0, 1) := by decide +kernel
theorem dX11_scratches_2 : decode cX11_scratches 2 = .ok (.sipush 359, 3) := by decide +kernel
theorem dX11_scratches_5 : decode cX11_scratches 5 = .ok (.invokestatic 44, 3) := by decide +kernel
theorem dX11_scratches_8 : decode cX11_scratches 8 = .ok (.ifCond .eq 35, 3) := by decide +kernel
theorem dX11_scratches_11 : decode cX11_scratches 11 = .ok (.iload_n 2, 1) := by decide +kernel
theorem dX11_scratches_12 : decode cX11_scratches 12 = .ok (.iload_n 1, 1) := by decide +kernel
theorem dX11_scratches_13 : decode cX11_scratches 13 = .ok (.sipush 359, 3) := by decide +kernel
theorem dX11_scratches_16 : decode cX11_scratches 16 = .ok (.invokestatic 44, 3) := by decide +kernel
theorem dX11_scratches_19 : decode cX11_scratches 19 = .ok (.ifCond .eq 24, 3) := by decide +kernel
theorem dX11_scratches_22 : decode cX11_scratches 22 = .ok (.iload_n 3, 1) := by decide +kernel
theorem dX11_scratches_23 : decode cX11_scratches 23 = .ok (.iconst 0, 1) := by decide +kernel
theorem dX11_scratches_24 : decode cX11_scratches 24 = .ok (.bipush 29, 2) := by decide +kernel
theorem dX11_scratches_26 : decode cX11_scratches 26 = .ok (.invokestatic 44, 3) := by decide +kernel
theorem dX11_scratches_29 : decode cX11_scratches 29 = .ok (.ifCond .eq 14, 3) := by decide +kernel
theorem dX11_scratches_32 : decode cX11_scratches 32 = .ok (.iload 4, 2) := by decide +kernel
theorem dX11_scratches_34 : decode cX11_scratches 34 = .ok (.iload_n 3, 1) := by decide +kernel
theorem dX11_scratches_35 : decode cX11_scratches 35 = .ok (.bipush 29, 2) := by decide +kernel
theorem dX11_scratches_37 : decode cX11_scratches 37 = .ok (.invokestatic 44, 3) := by decide +kernel
theorem dX11_scratches_40 : decode cX11_scratches 40 = .ok (.ifCond .ne 6, 3) := by decide +kernel
theorem dX11_scratches_43 : decode cX11_scratches 43 = .ok (.bipush (-2), 2) := by decide +kernel
theorem dX11_scratches_45 : decode cX11_scratches 45 = .ok (.ireturn, 1) := by decide +kernel
theorem dX11_scratches_46 : decode cX11_scratches 46 = .ok (.aload_n 0, 1) := by decide +kernel
theorem dX11_scratches_47 : decode cX11_scratches 47 = .ok (.getfield 7, 3) := by decide +kernel
theorem dX11_scratches_50 : decode cX11_scratches 50 = .ok (.bipush 12, 2) := by decide +kernel
theorem dX11_scratches_52 : decode cX11_scratches 52 = .ok (.iaload, 1) := by decide +kernel
theorem dX11_scratches_53 : decode cX11_scratches 53 = .ok (.bipush 8, 2) := by decide +kernel
theorem dX11_scratches_55 : decode cX11_scratches 55 = .ok (.if_icmp .ne 6, 3) := by decide +kernel
theorem dX11_scratches_58 : decode cX11_scratches 58 = .ok (.bipush (-3), 2) := by decide +kernel
theorem dX11_scratches_60 : decode cX11_scratches 60 = .ok (.ireturn, 1) := by decide +kernel
theorem dX11_scratches_61 : decode cX11_scratches 61 = .ok (.bipush 13, 2) := by decide +kernel
theorem dX11_scratches_63 : decode cX11_scratches 63 = .ok (.iconst 4, 1) := by decide +kernel
theorem dX11_scratches_64 : decode cX11_scratches 64 = .ok (.aload_n 0, 1) := by decide +kernel
theorem dX11_scratches_65 : decode cX11_scratches 65 = .ok (.getfield 7, 3) := by decide +kernel
theorem dX11_scratches_68 : decode cX11_scratches 68 = .ok (.bipush 12, 2) := by decide +kernel
theorem dX11_scratches_70 : decode cX11_scratches 70 = .ok (.iaload, 1) := by decide +kernel
theorem dX11_scratches_71 : decode cX11_scratches 71 = .ok (.imul, 1) := by decide +kernel
theorem dX11_scratches_72 : decode cX11_scratches 72 = .ok (.iadd, 1) := by decide +kernel
theorem dX11_scratches_73 : decode cX11_scratches 73 = .ok (.istore 5, 2) := by decide +kernel
theorem dX11_scratches_75 : decode cX11_scratches 75 = .ok (.aload_n 0, 1) := by decide +kernel
theorem dX11_scratches_76 : decode cX11_scratches 76 = .ok (.getfield 7, 3) := by decide +kernel
theorem dX11_scratches_79 : decode cX11_scratches 79 = .ok (.iload 5, 2) := by decide +kernel
theorem dX11_scratches_81 : decode cX11_scratches 81 = .ok (.iload_n 1, 1) := by decide +kernel
theorem dX11_scratches_82 : decode cX11_scratches 82 = .ok (.iastore, 1) := by decide +kernel
theorem dX11_scratches_83 : decode cX11_scratches 83 = .ok (.aload_n 0, 1) := by decide +kernel
theorem dX11_scratches_84 : decode cX11_scratches 84 = .ok (.getfield 7, 3) := by decide +kernel
theorem dX11_scratches_87 : decode cX11_scratches 87 = .ok (.iload 5, 2) := by decide +kernel
theorem dX11_scratches_89 : decode cX11_scratches 89 = .ok (.iconst 1, 1) := by decide +kernel
theorem dX11_scratches_90 : decode cX11_scratches 90 = .ok (.iadd, 1) := by decide +kernel
theorem dX11_scratches_91 : decode cX11_scratches 91 = .ok (.iload_n 2, 1) := by decide +kernel
theorem dX11_scratches_92 : decode cX11_scratches 92 = .ok (.iastore, 1) := by decide +kernel
theorem dX11_scratches_93 : decode cX11_scratches 93 = .ok (.aload_n 0, 1) := by decide +kernel
theorem dX11_scratches_94 : decode cX11_scratches 94 = .ok (.getfield 7, 3) := by decide +kernel
theorem dX11_scratches_97 : decode cX11_scratches 97 = .ok (.iload 5, 2) := by decide +kernel
theorem dX11_scratches_99 : decode cX11_scratches 99 = .ok (.iconst 2, 1) := by decide +kernel
theorem dX11_scratches_100 : decode cX11_scratches 100 = .ok (.iadd, 1) := by decide +kernel
theorem dX11_scratches_101 : decode cX11_scratches 101 = .ok (.iload_n 3, 1) := by decide +kernel
theorem dX11_scratches_102 : decode cX11_scratches 102 = .ok (.iastore, 1) := by decide +kernel
theorem dX11_scratches_103 : decode cX11_scratches 103 = .ok (.aload_n 0, 1) := by decide +kernel
theorem dX11_scratches_104 : decode cX11_scratches 104 = .ok (.getfield 7, 3) := by decide +kernel
theorem dX11_scratches_107 : decode cX11_scratches 107 = .ok (.iload 5, 2) := by decide +kernel
theorem dX11_scratches_109 : decode cX11_scratches 109 = .ok (.iconst 3, 1) := by decide +kernel
theorem dX11_scratches_110 : decode cX11_scratches 110 = .ok (.iadd, 1) := by decide +kernel
theorem dX11_scratches_111 : decode cX11_scratches 111 = .ok (.iload 4, 2) := by decide +kernel
theorem dX11_scratches_113 : decode cX11_scratches 113 = .ok (.iastore, 1) := by decide +kernel
theorem dX11_scratches_114 : decode cX11_scratches 114 = .ok (.aload_n 0, 1) := by decide +kernel
theorem dX11_scratches_115 : decode cX11_scratches 115 = .ok (.getfield 7, 3) := by decide +kernel
theorem dX11_scratches_118 : decode cX11_scratches 118 = .ok (.bipush 12, 2) := by decide +kernel
theorem dX11_scratches_120 : decode cX11_scratches 120 = .ok (.dup2, 1) := by decide +kernel
theorem dX11_scratches_121 : decode cX11_scratches 121 = .ok (.iaload, 1) := by decide +kernel
theorem dX11_scratches_122 : decode cX11_scratches 122 = .ok (.iconst 1, 1) := by decide +kernel
theorem dX11_scratches_123 : decode cX11_scratches 123 = .ok (.iadd, 1) := by decide +kernel
theorem dX11_scratches_124 : decode cX11_scratches 124 = .ok (.iastore, 1) := by decide +kernel
theorem dX11_scratches_125 : decode cX11_scratches 125 = .ok (.iconst 0, 1) := by decide +kernel
theorem dX11_scratches_126 : decode cX11_scratches 126 = .ok (.ireturn, 1) := by decide +kernel
set_option maxRecDepth 20000 in
theorem dX11_polishes_0 : decode cX11_polishes 0 = .ok (.iload_n 1, 1) := by decide +kernel
theorem dX11_polishes_1 : decode cX11_polishes 1 = .ok (.iconst 0, 1) := by decide +kernel
theorem dX11_polishes_2 : decode cX11_polishes 2 = .ok (.aload_n 0, 1) := by decide +kernel
theorem dX11_polishes_3 : decode cX11_polishes 3 = .ok (.getfield 7, 3) := by decide +kernel
theorem dX11_polishes_6 : decode cX11_polishes 6 = .ok (.bipush 12, 2) := by decide +kernel
theorem dX11_polishes_8 : decode cX11_polishes 8 = .ok (.iaload, 1) := by decide +kernel
theorem dX11_polishes_9 : decode cX11_polishes 9 = .ok (.iconst 1, 1) := by decide +kernel
theorem dX11_polishes_10 : decode cX11_polishes 10 = .ok (.isub, 1) := by decide +kernel
theorem dX11_polishes_11 : decode cX11_polishes 11 = .ok (.invokestatic 44, 3) := by decide +kernel
theorem dX11_polishes_14 : decode cX11_polishes 14 = .ok (.ifCond .ne 5, 3) := by decide +kernel
theorem dX11_polishes_17 : decode cX11_polishes 17 = .ok (.iconst (-1), 1) := by decide +kernel
theorem dX11_polishes_18 : decode cX11_polishes 18 = .ok (.ireturn, 1) := by decide +kernel
theorem dX11_polishes_19 : decode cX11_polishes 19 = .ok (.aload_n 0, 1) := by decide +kernel
theorem dX11_polishes_20 : decode cX11_polishes 20 = .ok (.getfield 7, 3) := by decide +kernel
theorem dX11_polishes_23 : decode cX11_polishes 23 = .ok (.bipush 12, 2) := by decide +kernel
theorem dX11_polishes_25 : decode cX11_polishes 25 = .ok (.dup2, 1) := by decide +kernel
theorem dX11_polishes_26 : decode cX11_polishes 26 = .ok (.iaload, 1) := by decide +kernel
theorem dX11_polishes_27 : decode cX11_polishes 27 = .ok (.iconst 1, 1) := by decide +kernel
theorem dX11_polishes_28 : decode cX11_polishes 28 = .ok (.isub, 1) := by decide +kernel
theorem dX11_polishes_29 : decode cX11_polishes 29 = .ok (.iastore, 1) := by decide +kernel
theorem dX11_polishes_30 : decode cX11_polishes 30 = .ok (.bipush 13, 2) := by decide +kernel
theorem dX11_polishes_32 : decode cX11_polishes 32 = .ok (.iconst 4, 1) := by decide +kernel
theorem dX11_polishes_33 : decode cX11_polishes 33 = .ok (.iload_n 1, 1) := by decide +kernel
theorem dX11_polishes_34 : decode cX11_polishes 34 = .ok (.imul, 1) := by decide +kernel
theorem dX11_polishes_35 : decode cX11_polishes 35 = .ok (.iadd, 1) := by decide +kernel
theorem dX11_polishes_36 : decode cX11_polishes 36 = .ok (.istore_n 2, 1) := by decide +kernel
theorem dX11_polishes_37 : decode cX11_polishes 37 = .ok (.iload_n 2, 1) := by decide +kernel
theorem dX11_polishes_38 : decode cX11_polishes 38 = .ok (.bipush 13, 2) := by decide +kernel
theorem dX11_polishes_40 : decode cX11_polishes 40 = .ok (.iconst 4, 1) := by decide +kernel
theorem dX11_polishes_41 : decode cX11_polishes 41 = .ok (.aload_n 0, 1) := by decide +kernel
theorem dX11_polishes_42 : decode cX11_polishes 42 = .ok (.getfield 7, 3) := by decide +kernel
theorem dX11_polishes_45 : decode cX11_polishes 45 = .ok (.bipush 12, 2) := by decide +kernel
theorem dX11_polishes_47 : decode cX11_polishes 47 = .ok (.iaload, 1) := by decide +kernel
theorem dX11_polishes_48 : decode cX11_polishes 48 = .ok (.imul, 1) := by decide +kernel
theorem dX11_polishes_49 : decode cX11_polishes 49 = .ok (.iadd, 1) := by decide +kernel
theorem dX11_polishes_50 : decode cX11_polishes 50 = .ok (.if_icmp .ge 23, 3) := by decide +kernel
theorem dX11_polishes_53 : decode cX11_polishes 53 = .ok (.aload_n 0, 1) := by decide +kernel
theorem dX11_polishes_54 : decode cX11_polishes 54 = .ok (.getfield 7, 3) := by decide +kernel
theorem dX11_polishes_57 : decode cX11_polishes 57 = .ok (.iload_n 2, 1) := by decide +kernel
theorem dX11_polishes_58 : decode cX11_polishes 58 = .ok (.aload_n 0, 1) := by decide +kernel
theorem dX11_polishes_59 : decode cX11_polishes 59 = .ok (.getfield 7, 3) := by decide +kernel
theorem dX11_polishes_62 : decode cX11_polishes 62 = .ok (.iload_n 2, 1) := by decide +kernel
theorem dX11_polishes_63 : decode cX11_polishes 63 = .ok (.iconst 4, 1) := by decide +kernel
theorem dX11_polishes_64 : decode cX11_polishes 64 = .ok (.iadd, 1) := by decide +kernel
theorem dX11_polishes_65 : decode cX11_polishes 65 = .ok (.iaload, 1) := by decide +kernel
theorem dX11_polishes_66 : decode cX11_polishes 66 = .ok (.iastore, 1) := by decide +kernel
theorem dX11_polishes_67 : decode cX11_polishes 67 = .ok (.iinc 2 1, 3) := by decide +kernel
theorem dX11_polishes_70 : decode cX11_polishes 70 = .ok (.goto (-33), 3) := by decide +kernel
theorem dX11_polishes_73 : decode cX11_polishes 73 = .ok (.iconst 0, 1) := by decide +kernel
theorem dX11_polishes_74 : decode cX11_polishes 74 = .ok (.istore_n 2, 1) := by decide +kernel
theorem dX11_polishes_75 : decode cX11_polishes 75 = .ok (.iload_n 2, 1) := by decide +kernel
theorem dX11_polishes_76 : decode cX11_polishes 76 = .ok (.iconst 4, 1) := by decide +kernel
theorem dX11_polishes_77 : decode cX11_polishes 77 = .ok (.if_icmp .ge 29, 3) := by decide +kernel
theorem dX11_polishes_80 : decode cX11_polishes 80 = .ok (.aload_n 0, 1) := by decide +kernel
theorem dX11_polishes_81 : decode cX11_polishes 81 = .ok (.getfield 7, 3) := by decide +kernel
theorem dX11_polishes_84 : decode cX11_polishes 84 = .ok (.bipush 13, 2) := by decide +kernel
theorem dX11_polishes_86 : decode cX11_polishes 86 = .ok (.iconst 4, 1) := by decide +kernel
theorem dX11_polishes_87 : decode cX11_polishes 87 = .ok (.aload_n 0, 1) := by decide +kernel
theorem dX11_polishes_88 : decode cX11_polishes 88 = .ok (.getfield 7, 3) := by decide +kernel
theorem dX11_polishes_91 : decode cX11_polishes 91 = .ok (.bipush 12, 2) := by decide +kernel
theorem dX11_polishes_93 : decode cX11_polishes 93 = .ok (.iaload, 1) := by decide +kernel
theorem dX11_polishes_94 : decode cX11_polishes 94 = .ok (.imul, 1) := by decide +kernel
theorem dX11_polishes_95 : decode cX11_polishes 95 = .ok (.iadd, 1) := by decide +kernel
theorem dX11_polishes_96 : decode cX11_polishes 96 = .ok (.iload_n 2, 1) := by decide +kernel
theorem dX11_polishes_97 : decode cX11_polishes 97 = .ok (.iadd, 1) := by decide +kernel
theorem dX11_polishes_98 : decode cX11_polishes 98 = .ok (.iconst 0, 1) := by decide +kernel
theorem dX11_polishes_99 : decode cX11_polishes 99 = .ok (.iastore, 1) := by decide +kernel
theorem dX11_polishes_100 : decode cX11_polishes 100 = .ok (.iinc 2 1, 3) := by decide +kernel
theorem dX11_polishes_103 : decode cX11_polishes 103 = .ok (.goto (-28), 3) := by decide +kernel
theorem dX11_polishes_106 : decode cX11_polishes 106 = .ok (.iconst 0, 1) := by decide +kernel
theorem dX11_polishes_107 : decode cX11_polishes 107 = .ok (.ireturn, 1) := by decide +kernel
set_option maxRecDepth 20000 in
theorem dX11_press_0 : decode cX11_press 0 = .ok (.aload_n 0, 1) := by decide +kernel
theorem dX11_press_1 : decode cX11_press 1 = .ok (.invokevirtual 111, 3) := by decide +kernel
theorem dX11_press_4 : decode cX11_press 4 = .ok (.aload_n 0, 1) := by decide +kernel
theorem dX11_press_5 : decode cX11_press 5 = .ok (.aload_n 0, 1) := by decide +kernel
theorem dX11_press_6 : decode cX11_press 6 = .ok (.iload_n 1, 1) := by decide +kernel
theorem dX11_press_7 : decode cX11_press 7 = .ok (.iload_n 2, 1) := by decide +kernel
theorem dX11_press_8 : decode cX11_press 8 = .ok (.iload_n 3, 1) := by decide +kernel
theorem dX11_press_9 : decode cX11_press 9 = .ok (.invokevirtual 114, 3) := by decide +kernel
theorem dX11_press_12 : decode cX11_press 12 = .ok (.invokevirtual 118, 3) := by decide +kernel
theorem dX11_press_15 : decode cX11_press 15 = .ok (.ireturn, 1) := by decide +kernel
set_option maxRecDepth 20000 in
theorem dX11_scratch_0 : decode cX11_scratch 0 = .ok (.aload_n 0, 1) := by decide +kernel
theorem dX11_scratch_1 : decode cX11_scratch 1 = .ok (.invokevirtual 111, 3) := by decide +kernel
theorem dX11_scratch_4 : decode cX11_scratch 4 = .ok (.aload_n 0, 1) := by decide +kernel
theorem dX11_scratch_5 : decode cX11_scratch 5 = .ok (.aload_n 0, 1) := by decide +kernel
theorem dX11_scratch_6 : decode cX11_scratch 6 = .ok (.iload_n 1, 1) := by decide +kernel
theorem dX11_scratch_7 : decode cX11_scratch 7 = .ok (.iload_n 2, 1) := by decide +kernel
theorem dX11_scratch_8 : decode cX11_scratch 8 = .ok (.iload_n 3, 1) := by decide +kernel
theorem dX11_scratch_9 : decode cX11_scratch 9 = .ok (.iload 4, 2) := by decide +kernel
theorem dX11_scratch_11 : decode cX11_scratch 11 = .ok (.invokevirtual 121, 3) := by decide +kernel
theorem dX11_scratch_14 : decode cX11_scratch 14 = .ok (.invokevirtual 118, 3) := by decide +kernel
theorem dX11_scratch_17 : decode cX11_scratch 17 = .ok (.istore 5, 2) := by decide +kernel
theorem dX11_scratch_19 : decode cX11_scratch 19 = .ok (.iload 5, 2) := by decide +kernel
theorem dX11_scratch_21 : decode cX11_scratch 21 = .ok (.ifCond .ge 8, 3) := by decide +kernel
theorem dX11_scratch_24 : decode cX11_scratch 24 = .ok (.iload 5, 2) := by decide +kernel
theorem dX11_scratch_26 : decode cX11_scratch 26 = .ok (.goto 7, 3) := by decide +kernel
theorem dX11_scratch_29 : decode cX11_scratch 29 = .ok (.aload_n 0, 1) := by decide +kernel
theorem dX11_scratch_30 : decode cX11_scratch 30 = .ok (.invokevirtual 125, 3) := by decide +kernel
theorem dX11_scratch_33 : decode cX11_scratch 33 = .ok (.ireturn, 1) := by decide +kernel
set_option maxRecDepth 20000 in
theorem dX11_polish_0 : decode cX11_polish 0 = .ok (.aload_n 0, 1) := by decide +kernel
theorem dX11_polish_1 : decode cX11_polish 1 = .ok (.invokevirtual 111, 3) := by decide +kernel
theorem dX11_polish_4 : decode cX11_polish 4 = .ok (.aload_n 0, 1) := by decide +kernel
theorem dX11_polish_5 : decode cX11_polish 5 = .ok (.aload_n 0, 1) := by decide +kernel
theorem dX11_polish_6 : decode cX11_polish 6 = .ok (.iload_n 1, 1) := by decide +kernel
theorem dX11_polish_7 : decode cX11_polish 7 = .ok (.invokevirtual 128, 3) := by decide +kernel
theorem dX11_polish_10 : decode cX11_polish 10 = .ok (.invokevirtual 118, 3) := by decide +kernel
theorem dX11_polish_13 : decode cX11_polish 13 = .ok (.istore_n 2, 1) := by decide +kernel
theorem dX11_polish_14 : decode cX11_polish 14 = .ok (.iload_n 2, 1) := by decide +kernel
theorem dX11_polish_15 : decode cX11_polish 15 = .ok (.ifCond .ge 7, 3) := by decide +kernel
theorem dX11_polish_18 : decode cX11_polish 18 = .ok (.iload_n 2, 1) := by decide +kernel
theorem dX11_polish_19 : decode cX11_polish 19 = .ok (.goto 7, 3) := by decide +kernel
theorem dX11_polish_22 : decode cX11_polish 22 = .ok (.aload_n 0, 1) := by decide +kernel
theorem dX11_polish_23 : decode cX11_polish 23 = .ok (.invokevirtual 125, 3) := by decide +kernel
theorem dX11_polish_26 : decode cX11_polish 26 = .ok (.ireturn, 1) := by decide +kernel
theorem dX11_low_0 : decode cX11_low 0 = .ok (.iload_n 0, 1) := by decide +kernel
theorem dX11_low_1 : decode cX11_low 1 = .ok (.ifCond .ne 8, 3) := by decide +kernel
theorem dX11_low_4 : decode cX11_low 4 = .ok (.bipush 8, 2) := by decide +kernel
theorem dX11_low_6 : decode cX11_low 6 = .ok (.goto 23, 3) := by decide +kernel
theorem dX11_low_9 : decode cX11_low 9 = .ok (.iload_n 0, 1) := by decide +kernel
theorem dX11_low_10 : decode cX11_low 10 = .ok (.iconst 2, 1) := by decide +kernel
theorem dX11_low_11 : decode cX11_low 11 = .ok (.if_icmp .ne 7, 3) := by decide +kernel
theorem dX11_low_14 : decode cX11_low 14 = .ok (.iconst 1, 1) := by decide +kernel
theorem dX11_low_15 : decode cX11_low 15 = .ok (.goto 14, 3) := by decide +kernel
theorem dX11_low_18 : decode cX11_low 18 = .ok (.iload_n 0, 1) := by decide +kernel
theorem dX11_low_19 : decode cX11_low 19 = .ok (.iconst 4, 1) := by decide +kernel
theorem dX11_low_20 : decode cX11_low 20 = .ok (.if_icmp .ne 8, 3) := by decide +kernel
theorem dX11_low_23 : decode cX11_low 23 = .ok (.bipush 60, 2) := by decide +kernel
theorem dX11_low_25 : decode cX11_low 25 = .ok (.goto 4, 3) := by decide +kernel
theorem dX11_low_28 : decode cX11_low 28 = .ok (.iconst 0, 1) := by decide +kernel
theorem dX11_low_29 : decode cX11_low 29 = .ok (.ireturn, 1) := by decide +kernel
theorem dX11_high_0 : decode cX11_high 0 = .ok (.iload_n 0, 1) := by decide +kernel
theorem dX11_high_1 : decode cX11_high 1 = .ok (.ifCond .ne 8, 3) := by decide +kernel
theorem dX11_high_4 : decode cX11_high 4 = .ok (.bipush 40, 2) := by decide +kernel
theorem dX11_high_6 : decode cX11_high 6 = .ok (.goto 45, 3) := by decide +kernel
theorem dX11_high_9 : decode cX11_high 9 = .ok (.iload_n 0, 1) := by decide +kernel
theorem dX11_high_10 : decode cX11_high 10 = .ok (.iconst 1, 1) := by decide +kernel
theorem dX11_high_11 : decode cX11_high 11 = .ok (.if_icmp .ne 8, 3) := by decide +kernel
theorem dX11_high_14 : decode cX11_high 14 = .ok (.bipush 6, 2) := by decide +kernel
theorem dX11_high_16 : decode cX11_high 16 = .ok (.goto 35, 3) := by decide +kernel
theorem dX11_high_19 : decode cX11_high 19 = .ok (.iload_n 0, 1) := by decide +kernel
theorem dX11_high_20 : decode cX11_high 20 = .ok (.iconst 2, 1) := by decide +kernel
theorem dX11_high_21 : decode cX11_high 21 = .ok (.if_icmp .ne 8, 3) := by decide +kernel
theorem dX11_high_24 : decode cX11_high 24 = .ok (.bipush 9, 2) := by decide +kernel
theorem dX11_high_26 : decode cX11_high 26 = .ok (.goto 25, 3) := by decide +kernel
theorem dX11_high_29 : decode cX11_high 29 = .ok (.iload_n 0, 1) := by decide +kernel
theorem dX11_high_30 : decode cX11_high 30 = .ok (.iconst 3, 1) := by decide +kernel
theorem dX11_high_31 : decode cX11_high 31 = .ok (.if_icmp .ne 7, 3) := by decide +kernel
theorem dX11_high_34 : decode cX11_high 34 = .ok (.iconst 5, 1) := by decide +kernel
theorem dX11_high_35 : decode cX11_high 35 = .ok (.goto 16, 3) := by decide +kernel
theorem dX11_high_38 : decode cX11_high 38 = .ok (.iload_n 0, 1) := by decide +kernel
theorem dX11_high_39 : decode cX11_high 39 = .ok (.iconst 4, 1) := by decide +kernel
theorem dX11_high_40 : decode cX11_high 40 = .ok (.if_icmp .ne 9, 3) := by decide +kernel
theorem dX11_high_43 : decode cX11_high 43 = .ok (.sipush 140, 3) := by decide +kernel
theorem dX11_high_46 : decode cX11_high 46 = .ok (.goto 5, 3) := by decide +kernel
theorem dX11_high_49 : decode cX11_high 49 = .ok (.bipush 20, 2) := by decide +kernel
theorem dX11_high_51 : decode cX11_high 51 = .ok (.ireturn, 1) := by decide +kernel
set_option maxRecDepth 20000 in
theorem dX11_set_0 : decode cX11_set 0 = .ok (.iload_n 1, 1) := by decide +kernel
theorem dX11_set_1 : decode cX11_set 1 = .ok (.iconst 0, 1) := by decide +kernel
theorem dX11_set_2 : decode cX11_set 2 = .ok (.iconst 5, 1) := by decide +kernel
theorem dX11_set_3 : decode cX11_set 3 = .ok (.invokestatic 44, 3) := by decide +kernel
theorem dX11_set_6 : decode cX11_set 6 = .ok (.ifCond .eq 18, 3) := by decide +kernel
theorem dX11_set_9 : decode cX11_set 9 = .ok (.iload_n 2, 1) := by decide +kernel
theorem dX11_set_10 : decode cX11_set 10 = .ok (.iload_n 1, 1) := by decide +kernel
theorem dX11_set_11 : decode cX11_set 11 = .ok (.invokestatic 131, 3) := by decide +kernel
theorem dX11_set_14 : decode cX11_set 14 = .ok (.iload_n 1, 1) := by decide +kernel
theorem dX11_set_15 : decode cX11_set 15 = .ok (.invokestatic 134, 3) := by decide +kernel
theorem dX11_set_18 : decode cX11_set 18 = .ok (.invokestatic 44, 3) := by decide +kernel
theorem dX11_set_21 : decode cX11_set 21 = .ok (.ifCond .ne 6, 3) := by decide +kernel
theorem dX11_set_24 : decode cX11_set 24 = .ok (.bipush (-2), 2) := by decide +kernel
theorem dX11_set_26 : decode cX11_set 26 = .ok (.ireturn, 1) := by decide +kernel
theorem dX11_set_27 : decode cX11_set 27 = .ok (.aload_n 0, 1) := by decide +kernel
theorem dX11_set_28 : decode cX11_set 28 = .ok (.getfield 7, 3) := by decide +kernel
theorem dX11_set_31 : decode cX11_set 31 = .ok (.iload_n 1, 1) := by decide +kernel
theorem dX11_set_32 : decode cX11_set 32 = .ok (.iaload, 1) := by decide +kernel
theorem dX11_set_33 : decode cX11_set 33 = .ok (.istore_n 3, 1) := by decide +kernel
theorem dX11_set_34 : decode cX11_set 34 = .ok (.iload_n 3, 1) := by decide +kernel
theorem dX11_set_35 : decode cX11_set 35 = .ok (.iload_n 2, 1) := by decide +kernel
theorem dX11_set_36 : decode cX11_set 36 = .ok (.if_icmp .ne 6, 3) := by decide +kernel
theorem dX11_set_39 : decode cX11_set 39 = .ok (.bipush (-5), 2) := by decide +kernel
theorem dX11_set_41 : decode cX11_set 41 = .ok (.ireturn, 1) := by decide +kernel
theorem dX11_set_42 : decode cX11_set 42 = .ok (.aload_n 0, 1) := by decide +kernel
theorem dX11_set_43 : decode cX11_set 43 = .ok (.invokevirtual 111, 3) := by decide +kernel
theorem dX11_set_46 : decode cX11_set 46 = .ok (.aload_n 0, 1) := by decide +kernel
theorem dX11_set_47 : decode cX11_set 47 = .ok (.getfield 7, 3) := by decide +kernel
theorem dX11_set_50 : decode cX11_set 50 = .ok (.iload_n 1, 1) := by decide +kernel
theorem dX11_set_51 : decode cX11_set 51 = .ok (.iload_n 2, 1) := by decide +kernel
theorem dX11_set_52 : decode cX11_set 52 = .ok (.iastore, 1) := by decide +kernel
theorem dX11_set_53 : decode cX11_set 53 = .ok (.iload_n 1, 1) := by decide +kernel
theorem dX11_set_54 : decode cX11_set 54 = .ok (.iconst 1, 1) := by decide +kernel
theorem dX11_set_55 : decode cX11_set 55 = .ok (.if_icmp .gt 24, 3) := by decide +kernel
theorem dX11_set_58 : decode cX11_set 58 = .ok (.aload_n 0, 1) := by decide +kernel
theorem dX11_set_59 : decode cX11_set 59 = .ok (.getfield 7, 3) := by decide +kernel
theorem dX11_set_62 : decode cX11_set 62 = .ok (.bipush 6, 2) := by decide +kernel
theorem dX11_set_64 : decode cX11_set 64 = .ok (.iconst 0, 1) := by decide +kernel
theorem dX11_set_65 : decode cX11_set 65 = .ok (.iastore, 1) := by decide +kernel
theorem dX11_set_66 : decode cX11_set 66 = .ok (.aload_n 0, 1) := by decide +kernel
theorem dX11_set_67 : decode cX11_set 67 = .ok (.getfield 7, 3) := by decide +kernel
theorem dX11_set_70 : decode cX11_set 70 = .ok (.bipush 7, 2) := by decide +kernel
theorem dX11_set_72 : decode cX11_set 72 = .ok (.aload_n 0, 1) := by decide +kernel
theorem dX11_set_73 : decode cX11_set 73 = .ok (.getfield 7, 3) := by decide +kernel
theorem dX11_set_76 : decode cX11_set 76 = .ok (.iconst 0, 1) := by decide +kernel
theorem dX11_set_77 : decode cX11_set 77 = .ok (.iaload, 1) := by decide +kernel
theorem dX11_set_78 : decode cX11_set 78 = .ok (.iastore, 1) := by decide +kernel
theorem dX11_set_79 : decode cX11_set 79 = .ok (.aload_n 0, 1) := by decide +kernel
theorem dX11_set_80 : decode cX11_set 80 = .ok (.iload_n 3, 1) := by decide +kernel
theorem dX11_set_81 : decode cX11_set 81 = .ok (.invokevirtual 118, 3) := by decide +kernel
theorem dX11_set_84 : decode cX11_set 84 = .ok (.ireturn, 1) := by decide +kernel
set_option maxRecDepth 20000 in
theorem dX11_play_0 : decode cX11_play 0 = .ok (.aload_n 0, 1) := by decide +kernel
theorem dX11_play_1 : decode cX11_play 1 = .ok (.invokevirtual 111, 3) := by decide +kernel
theorem dX11_play_4 : decode cX11_play 4 = .ok (.aload_n 0, 1) := by decide +kernel
theorem dX11_play_5 : decode cX11_play 5 = .ok (.aload_n 0, 1) := by decide +kernel
theorem dX11_play_6 : decode cX11_play 6 = .ok (.iload_n 1, 1) := by decide +kernel
theorem dX11_play_7 : decode cX11_play 7 = .ok (.invokevirtual 137, 3) := by decide +kernel
theorem dX11_play_10 : decode cX11_play 10 = .ok (.invokevirtual 118, 3) := by decide +kernel
theorem dX11_play_13 : decode cX11_play 13 = .ok (.ireturn, 1) := by decide +kernel
set_option maxRecDepth 20000 in
theorem dX11_seek_0 : decode cX11_seek 0 = .ok (.aload_n 0, 1) := by decide +kernel
theorem dX11_seek_1 : decode cX11_seek 1 = .ok (.invokevirtual 111, 3) := by decide +kernel
theorem dX11_seek_4 : decode cX11_seek 4 = .ok (.aload_n 0, 1) := by decide +kernel
theorem dX11_seek_5 : decode cX11_seek 5 = .ok (.aload_n 0, 1) := by decide +kernel
theorem dX11_seek_6 : decode cX11_seek 6 = .ok (.iload_n 1, 1) := by decide +kernel
theorem dX11_seek_7 : decode cX11_seek 7 = .ok (.invokevirtual 140, 3) := by decide +kernel
theorem dX11_seek_10 : decode cX11_seek 10 = .ok (.invokevirtual 118, 3) := by decide +kernel
theorem dX11_seek_13 : decode cX11_seek 13 = .ok (.ireturn, 1) := by decide +kernel
theorem dX11_type_0 : decode cX11_type 0 = .ok (.aload_n 0, 1) := by decide +kernel
theorem dX11_type_1 : decode cX11_type 1 = .ok (.getfield 143, 3) := by decide +kernel
theorem dX11_type_4 : decode cX11_type 4 = .ok (.bipush 60, 2) := by decide +kernel
theorem dX11_type_6 : decode cX11_type 6 = .ok (.if_icmp .ne 6, 3) := by decide +kernel
theorem dX11_type_9 : decode cX11_type 9 = .ok (.bipush (-3), 2) := by decide +kernel
theorem dX11_type_11 : decode cX11_type 11 = .ok (.ireturn, 1) := by decide +kernel
theorem dX11_type_12 : decode cX11_type 12 = .ok (.aload_n 0, 1) := by decide +kernel
theorem dX11_type_13 : decode cX11_type 13 = .ok (.getfield 22, 3) := by decide +kernel
theorem dX11_type_16 : decode cX11_type 16 = .ok (.aload_n 0, 1) := by decide +kernel
theorem dX11_type_17 : decode cX11_type 17 = .ok (.getfield 143, 3) := by decide +kernel
theorem dX11_type_20 : decode cX11_type 20 = .ok (.iload_n 1, 1) := by decide +kernel
theorem dX11_type_21 : decode cX11_type 21 = .ok (.iastore, 1) := by decide +kernel
theorem dX11_type_22 : decode cX11_type 22 = .ok (.aload_n 0, 1) := by decide +kernel
theorem dX11_type_23 : decode cX11_type 23 = .ok (.dup, 1) := by decide +kernel
theorem dX11_type_24 : decode cX11_type 24 = .ok (.getfield 143, 3) := by decide +kernel
theorem dX11_type_27 : decode cX11_type 27 = .ok (.iconst 1, 1) := by decide +kernel
theorem dX11_type_28 : decode cX11_type 28 = .ok (.iadd, 1) := by decide +kernel
theorem dX11_type_29 : decode cX11_type 29 = .ok (.putfield 143, 3) := by decide +kernel
theorem dX11_type_32 : decode cX11_type 32 = .ok (.aload_n 0, 1) := by decide +kernel
theorem dX11_type_33 : decode cX11_type 33 = .ok (.getfield 143, 3) := by decide +kernel
theorem dX11_type_36 : decode cX11_type 36 = .ok (.ireturn, 1) := by decide +kernel
theorem dX11_clearText_0 : decode cX11_clearText 0 = .ok (.aload_n 0, 1) := by decide +kernel
theorem dX11_clearText_1 : decode cX11_clearText 1 = .ok (.getfield 143, 3) := by decide +kernel
theorem dX11_clearText_4 : decode cX11_clearText 4 = .ok (.istore_n 1, 1) := by decide +kernel
theorem dX11_clearText_5 : decode cX11_clearText 5 = .ok (.aload_n 0, 1) := by decide +kernel
theorem dX11_clearText_6 : decode cX11_clearText 6 = .ok (.iconst 0, 1) := by decide +kernel
theorem dX11_clearText_7 : decode cX11_clearText 7 = .ok (.putfield 143, 3) := by decide +kernel
theorem dX11_clearText_10 : decode cX11_clearText 10 = .ok (.iload_n 1, 1) := by decide +kernel
theorem dX11_clearText_11 : decode cX11_clearText 11 = .ok (.ireturn, 1) := by decide +kernel
set_option maxRecDepth 20000 in
theorem dX11_sign_0 : decode cX11_sign 0 = .ok (.aload_n 0, 1) := by decide +kernel
theorem dX11_sign_1 : decode cX11_sign 1 = .ok (.getfield 146, 3) := by decide +kernel
theorem dX11_sign_4 : decode cX11_sign 4 = .ok (.aload_n 0, 1) := by decide +kernel
theorem dX11_sign_5 : decode cX11_sign 5 = .ok (.getfield 143, 3) := by decide +kernel
theorem dX11_sign_8 : decode cX11_sign 8 = .ok (.if_icmp .ge 15, 3) := by decide +kernel
theorem dX11_sign_11 : decode cX11_sign 11 = .ok (.aload_n 0, 1) := by decide +kernel
theorem dX11_sign_12 : decode cX11_sign 12 = .ok (.getfield 22, 3) := by decide +kernel
theorem dX11_sign_15 : decode cX11_sign 15 = .ok (.aload_n 0, 1) := by decide +kernel
theorem dX11_sign_16 : decode cX11_sign 16 = .ok (.getfield 146, 3) := by decide +kernel
theorem dX11_sign_19 : decode cX11_sign 19 = .ok (.iaload, 1) := by decide +kernel
theorem dX11_sign_20 : decode cX11_sign 20 = .ok (.goto 4, 3) := by decide +kernel
theorem dX11_sign_23 : decode cX11_sign 23 = .ok (.iconst 0, 1) := by decide +kernel
theorem dX11_sign_24 : decode cX11_sign 24 = .ok (.istore_n 3, 1) := by decide +kernel
theorem dX11_sign_25 : decode cX11_sign 25 = .ok (.aload_n 0, 1) := by decide +kernel
theorem dX11_sign_26 : decode cX11_sign 26 = .ok (.aload_n 0, 1) := by decide +kernel
theorem dX11_sign_27 : decode cX11_sign 27 = .ok (.getfield 149, 3) := by decide +kernel
theorem dX11_sign_30 : decode cX11_sign 30 = .ok (.ifCond .ne 23, 3) := by decide +kernel
theorem dX11_sign_33 : decode cX11_sign 33 = .ok (.aload_n 0, 1) := by decide +kernel
theorem dX11_sign_34 : decode cX11_sign 34 = .ok (.getfield 146, 3) := by decide +kernel
theorem dX11_sign_37 : decode cX11_sign 37 = .ok (.aload_n 0, 1) := by decide +kernel
theorem dX11_sign_38 : decode cX11_sign 38 = .ok (.getfield 143, 3) := by decide +kernel
theorem dX11_sign_41 : decode cX11_sign 41 = .ok (.if_icmp .ge 12, 3) := by decide +kernel
theorem dX11_sign_44 : decode cX11_sign 44 = .ok (.iload_n 3, 1) := by decide +kernel
theorem dX11_sign_45 : decode cX11_sign 45 = .ok (.iload_n 1, 1) := by decide +kernel
theorem dX11_sign_46 : decode cX11_sign 46 = .ok (.iload_n 2, 1) := by decide +kernel
theorem dX11_sign_47 : decode cX11_sign 47 = .ok (.invokestatic 44, 3) := by decide +kernel
theorem dX11_sign_50 : decode cX11_sign 50 = .ok (.ifCond .ne 7, 3) := by decide +kernel
theorem dX11_sign_53 : decode cX11_sign 53 = .ok (.iconst 1, 1) := by decide +kernel
theorem dX11_sign_54 : decode cX11_sign 54 = .ok (.goto 4, 3) := by decide +kernel
theorem dX11_sign_57 : decode cX11_sign 57 = .ok (.iconst 0, 1) := by decide +kernel
theorem dX11_sign_58 : decode cX11_sign 58 = .ok (.putfield 149, 3) := by decide +kernel
theorem dX11_sign_61 : decode cX11_sign 61 = .ok (.aload_n 0, 1) := by decide +kernel
theorem dX11_sign_62 : decode cX11_sign 62 = .ok (.dup, 1) := by decide +kernel
theorem dX11_sign_63 : decode cX11_sign 63 = .ok (.getfield 146, 3) := by decide +kernel
theorem dX11_sign_66 : decode cX11_sign 66 = .ok (.aload_n 0, 1) := by decide +kernel
theorem dX11_sign_67 : decode cX11_sign 67 = .ok (.getfield 149, 3) := by decide +kernel
theorem dX11_sign_70 : decode cX11_sign 70 = .ok (.ifCond .eq 7, 3) := by decide +kernel
theorem dX11_sign_73 : decode cX11_sign 73 = .ok (.iconst 0, 1) := by decide +kernel
theorem dX11_sign_74 : decode cX11_sign 74 = .ok (.goto 4, 3) := by decide +kernel
theorem dX11_sign_77 : decode cX11_sign 77 = .ok (.iconst 1, 1) := by decide +kernel
theorem dX11_sign_78 : decode cX11_sign 78 = .ok (.iadd, 1) := by decide +kernel
theorem dX11_sign_79 : decode cX11_sign 79 = .ok (.putfield 146, 3) := by decide +kernel
theorem dX11_sign_82 : decode cX11_sign 82 = .ok (.iload_n 3, 1) := by decide +kernel
theorem dX11_sign_83 : decode cX11_sign 83 = .ok (.ireturn, 1) := by decide +kernel
theorem dX11_isNext_0 : decode cX11_isNext 0 = .ok (.aload_n 0, 1) := by decide +kernel
theorem dX11_isNext_1 : decode cX11_isNext 1 = .ok (.getfield 149, 3) := by decide +kernel
theorem dX11_isNext_4 : decode cX11_isNext 4 = .ok (.ifCond .ne 31, 3) := by decide +kernel
theorem dX11_isNext_7 : decode cX11_isNext 7 = .ok (.aload_n 0, 1) := by decide +kernel
theorem dX11_isNext_8 : decode cX11_isNext 8 = .ok (.getfield 146, 3) := by decide +kernel
theorem dX11_isNext_11 : decode cX11_isNext 11 = .ok (.aload_n 0, 1) := by decide +kernel
theorem dX11_isNext_12 : decode cX11_isNext 12 = .ok (.getfield 143, 3) := by decide +kernel
theorem dX11_isNext_15 : decode cX11_isNext 15 = .ok (.if_icmp .ge 20, 3) := by decide +kernel
theorem dX11_isNext_18 : decode cX11_isNext 18 = .ok (.aload_n 0, 1) := by decide +kernel
theorem dX11_isNext_19 : decode cX11_isNext 19 = .ok (.getfield 22, 3) := by decide +kernel
theorem dX11_isNext_22 : decode cX11_isNext 22 = .ok (.aload_n 0, 1) := by decide +kernel
theorem dX11_isNext_23 : decode cX11_isNext 23 = .ok (.getfield 146, 3) := by decide +kernel
theorem dX11_isNext_26 : decode cX11_isNext 26 = .ok (.iaload, 1) := by decide +kernel
theorem dX11_isNext_27 : decode cX11_isNext 27 = .ok (.iload_n 1, 1) := by decide +kernel
theorem dX11_isNext_28 : decode cX11_isNext 28 = .ok (.if_icmp .ne 7, 3) := by decide +kernel
theorem dX11_isNext_31 : decode cX11_isNext 31 = .ok (.iconst 1, 1) := by decide +kernel
theorem dX11_isNext_32 : decode cX11_isNext 32 = .ok (.goto 4, 3) := by decide +kernel
theorem dX11_isNext_35 : decode cX11_isNext 35 = .ok (.iconst 0, 1) := by decide +kernel
theorem dX11_isNext_36 : decode cX11_isNext 36 = .ok (.ireturn, 1) := by decide +kernel
set_option maxRecDepth 20000 in
theorem dX11_signs_0 : decode cX11_signs 0 = .ok (.aload_n 0, 1) := by decide +kernel
theorem dX11_signs_1 : decode cX11_signs 1 = .ok (.iload_n 1, 1) := by decide +kernel
theorem dX11_signs_2 : decode cX11_signs 2 = .ok (.iload_n 1, 1) := by decide +kernel
theorem dX11_signs_3 : decode cX11_signs 3 = .ok (.invokevirtual 153, 3) := by decide +kernel
theorem dX11_signs_6 : decode cX11_signs 6 = .ok (.istore 5, 2) := by decide +kernel
theorem dX11_signs_8 : decode cX11_signs 8 = .ok (.aload_n 0, 1) := by decide +kernel
theorem dX11_signs_9 : decode cX11_signs 9 = .ok (.iload_n 2, 1) := by decide +kernel
theorem dX11_signs_10 : decode cX11_signs 10 = .ok (.iload_n 2, 1) := by decide +kernel
theorem dX11_signs_11 : decode cX11_signs 11 = .ok (.invokevirtual 153, 3) := by decide +kernel
theorem dX11_signs_14 : decode cX11_signs 14 = .ok (.istore 6, 2) := by decide +kernel
theorem dX11_signs_16 : decode cX11_signs 16 = .ok (.iload_n 3, 1) := by decide +kernel
theorem dX11_signs_17 : decode cX11_signs 17 = .ok (.ifCond .ne 7, 3) := by decide +kernel
theorem dX11_signs_20 : decode cX11_signs 20 = .ok (.iconst 0, 1) := by decide +kernel
theorem dX11_signs_21 : decode cX11_signs 21 = .ok (.goto 9, 3) := by decide +kernel
theorem dX11_signs_24 : decode cX11_signs 24 = .ok (.aload_n 0, 1) := by decide +kernel
theorem dX11_signs_25 : decode cX11_signs 25 = .ok (.iload_n 3, 1) := by decide +kernel
theorem dX11_signs_26 : decode cX11_signs 26 = .ok (.iload_n 3, 1) := by decide +kernel
theorem dX11_signs_27 : decode cX11_signs 27 = .ok (.invokevirtual 153, 3) := by decide +kernel
theorem dX11_signs_30 : decode cX11_signs 30 = .ok (.istore 7, 2) := by decide +kernel
theorem dX11_signs_32 : decode cX11_signs 32 = .ok (.iload 4, 2) := by decide +kernel
theorem dX11_signs_34 : decode cX11_signs 34 = .ok (.ifCond .ne 7, 3) := by decide +kernel
theorem dX11_signs_37 : decode cX11_signs 37 = .ok (.iconst 0, 1) := by decide +kernel
theorem dX11_signs_38 : decode cX11_signs 38 = .ok (.goto 11, 3) := by decide +kernel
theorem dX11_signs_41 : decode cX11_signs 41 = .ok (.aload_n 0, 1) := by decide +kernel
theorem dX11_signs_42 : decode cX11_signs 42 = .ok (.iload 4, 2) := by decide +kernel
theorem dX11_signs_44 : decode cX11_signs 44 = .ok (.iload 4, 2) := by decide +kernel
theorem dX11_signs_46 : decode cX11_signs 46 = .ok (.invokevirtual 153, 3) := by decide +kernel
theorem dX11_signs_49 : decode cX11_signs 49 = .ok (.istore 8, 2) := by decide +kernel
theorem dX11_signs_51 : decode cX11_signs 51 = .ok (.return_, 1) := by decide +kernel
set_option maxRecDepth 20000 in
theorem dX11_number_0 : decode cX11_number 0 = .ok (.aload_n 0, 1) := by decide +kernel
theorem dX11_number_1 : decode cX11_number 1 = .ok (.bipush 48, 2) := by decide +kernel
theorem dX11_number_3 : decode cX11_number 3 = .ok (.iload_n 1, 1) := by decide +kernel
theorem dX11_number_4 : decode cX11_number 4 = .ok (.iadd, 1) := by decide +kernel
theorem dX11_number_5 : decode cX11_number 5 = .ok (.bipush 57, 2) := by decide +kernel
theorem dX11_number_7 : decode cX11_number 7 = .ok (.invokevirtual 153, 3) := by decide +kernel
theorem dX11_number_10 : decode cX11_number 10 = .ok (.bipush 48, 2) := by decide +kernel
theorem dX11_number_12 : decode cX11_number 12 = .ok (.isub, 1) := by decide +kernel
theorem dX11_number_13 : decode cX11_number 13 = .ok (.istore_n 3, 1) := by decide +kernel
theorem dX11_number_14 : decode cX11_number 14 = .ok (.iload_n 3, 1) := by decide +kernel
theorem dX11_number_15 : decode cX11_number 15 = .ok (.ifCond .le 92, 3) := by decide +kernel
theorem dX11_number_18 : decode cX11_number 18 = .ok (.aload_n 0, 1) := by decide +kernel
theorem dX11_number_19 : decode cX11_number 19 = .ok (.getfield 149, 3) := by decide +kernel
theorem dX11_number_22 : decode cX11_number 22 = .ok (.ifCond .ne 85, 3) := by decide +kernel
theorem dX11_number_25 : decode cX11_number 25 = .ok (.aload_n 0, 1) := by decide +kernel
theorem dX11_number_26 : decode cX11_number 26 = .ok (.getfield 146, 3) := by decide +kernel
theorem dX11_number_29 : decode cX11_number 29 = .ok (.aload_n 0, 1) := by decide +kernel
theorem dX11_number_30 : decode cX11_number 30 = .ok (.getfield 143, 3) := by decide +kernel
theorem dX11_number_33 : decode cX11_number 33 = .ok (.if_icmp .ge 74, 3) := by decide +kernel
theorem dX11_number_36 : decode cX11_number 36 = .ok (.aload_n 0, 1) := by decide +kernel
theorem dX11_number_37 : decode cX11_number 37 = .ok (.getfield 22, 3) := by decide +kernel
theorem dX11_number_40 : decode cX11_number 40 = .ok (.aload_n 0, 1) := by decide +kernel
theorem dX11_number_41 : decode cX11_number 41 = .ok (.getfield 146, 3) := by decide +kernel
theorem dX11_number_44 : decode cX11_number 44 = .ok (.iaload, 1) := by decide +kernel
theorem dX11_number_45 : decode cX11_number 45 = .ok (.bipush 48, 2) := by decide +kernel
theorem dX11_number_47 : decode cX11_number 47 = .ok (.bipush 57, 2) := by decide +kernel
theorem dX11_number_49 : decode cX11_number 49 = .ok (.invokestatic 44, 3) := by decide +kernel
theorem dX11_number_52 : decode cX11_number 52 = .ok (.ifCond .eq 55, 3) := by decide +kernel
theorem dX11_number_55 : decode cX11_number 55 = .ok (.bipush 10, 2) := by decide +kernel
theorem dX11_number_57 : decode cX11_number 57 = .ok (.iload_n 3, 1) := by decide +kernel
theorem dX11_number_58 : decode cX11_number 58 = .ok (.imul, 1) := by decide +kernel
theorem dX11_number_59 : decode cX11_number 59 = .ok (.aload_n 0, 1) := by decide +kernel
theorem dX11_number_60 : decode cX11_number 60 = .ok (.getfield 22, 3) := by decide +kernel
theorem dX11_number_63 : decode cX11_number 63 = .ok (.aload_n 0, 1) := by decide +kernel
theorem dX11_number_64 : decode cX11_number 64 = .ok (.getfield 146, 3) := by decide +kernel
theorem dX11_number_67 : decode cX11_number 67 = .ok (.iaload, 1) := by decide +kernel
theorem dX11_number_68 : decode cX11_number 68 = .ok (.iadd, 1) := by decide +kernel
theorem dX11_number_69 : decode cX11_number 69 = .ok (.bipush 48, 2) := by decide +kernel
theorem dX11_number_71 : decode cX11_number 71 = .ok (.isub, 1) := by decide +kernel
theorem dX11_number_72 : decode cX11_number 72 = .ok (.iload_n 2, 1) := by decide +kernel
theorem dX11_number_73 : decode cX11_number 73 = .ok (.if_icmp .gt 34, 3) := by decide +kernel
theorem dX11_number_76 : decode cX11_number 76 = .ok (.bipush 10, 2) := by decide +kernel
theorem dX11_number_78 : decode cX11_number 78 = .ok (.iload_n 3, 1) := by decide +kernel
theorem dX11_number_79 : decode cX11_number 79 = .ok (.imul, 1) := by decide +kernel
theorem dX11_number_80 : decode cX11_number 80 = .ok (.aload_n 0, 1) := by decide +kernel
theorem dX11_number_81 : decode cX11_number 81 = .ok (.getfield 22, 3) := by decide +kernel
theorem dX11_number_84 : decode cX11_number 84 = .ok (.aload_n 0, 1) := by decide +kernel
theorem dX11_number_85 : decode cX11_number 85 = .ok (.getfield 146, 3) := by decide +kernel
theorem dX11_number_88 : decode cX11_number 88 = .ok (.iaload, 1) := by decide +kernel
theorem dX11_number_89 : decode cX11_number 89 = .ok (.iadd, 1) := by decide +kernel
theorem dX11_number_90 : decode cX11_number 90 = .ok (.bipush 48, 2) := by decide +kernel
theorem dX11_number_92 : decode cX11_number 92 = .ok (.isub, 1) := by decide +kernel
theorem dX11_number_93 : decode cX11_number 93 = .ok (.istore_n 3, 1) := by decide +kernel
theorem dX11_number_94 : decode cX11_number 94 = .ok (.aload_n 0, 1) := by decide +kernel
theorem dX11_number_95 : decode cX11_number 95 = .ok (.dup, 1) := by decide +kernel
theorem dX11_number_96 : decode cX11_number 96 = .ok (.getfield 146, 3) := by decide +kernel
theorem dX11_number_99 : decode cX11_number 99 = .ok (.iconst 1, 1) := by decide +kernel
theorem dX11_number_100 : decode cX11_number 100 = .ok (.iadd, 1) := by decide +kernel
theorem dX11_number_101 : decode cX11_number 101 = .ok (.putfield 146, 3) := by decide +kernel
theorem dX11_number_104 : decode cX11_number 104 = .ok (.goto (-90), 3) := by decide +kernel
theorem dX11_number_107 : decode cX11_number 107 = .ok (.iload_n 3, 1) := by decide +kernel
theorem dX11_number_108 : decode cX11_number 108 = .ok (.ireturn, 1) := by decide +kernel
set_option maxRecDepth 20000 in
theorem dX11_behind_0 : decode cX11_behind 0 = .ok (.aload_n 0, 1) := by decide +kernel
theorem dX11_behind_1 : decode cX11_behind 1 = .ok (.iload_n 1, 1) := by decide +kernel
theorem dX11_behind_2 : decode cX11_behind 2 = .ok (.iload_n 1, 1) := by decide +kernel
theorem dX11_behind_3 : decode cX11_behind 3 = .ok (.invokevirtual 153, 3) := by decide +kernel
theorem dX11_behind_6 : decode cX11_behind 6 = .ok (.istore 4, 2) := by decide +kernel
theorem dX11_behind_8 : decode cX11_behind 8 = .ok (.aload_n 0, 1) := by decide +kernel
theorem dX11_behind_9 : decode cX11_behind 9 = .ok (.iload_n 2, 1) := by decide +kernel
theorem dX11_behind_10 : decode cX11_behind 10 = .ok (.iload_n 3, 1) := by decide +kernel
theorem dX11_behind_11 : decode cX11_behind 11 = .ok (.invokevirtual 156, 3) := by decide +kernel
theorem dX11_behind_14 : decode cX11_behind 14 = .ok (.ireturn, 1) := by decide +kernel
set_option maxRecDepth 20000 in
theorem dX11_orderOfS_0 : decode cX11_orderOfS 0 = .ok (.aload_n 0, 1) := by decide +kernel
theorem dX11_orderOfS_1 : decode cX11_orderOfS 1 = .ok (.bipush 99, 2) := by decide +kernel
theorem dX11_orderOfS_3 : decode cX11_orderOfS 3 = .ok (.invokevirtual 159, 3) := by decide +kernel
theorem dX11_orderOfS_6 : decode cX11_orderOfS 6 = .ok (.ifCond .eq 87, 3) := by decide +kernel
theorem dX11_orderOfS_9 : decode cX11_orderOfS 9 = .ok (.aload_n 0, 1) := by decide +kernel
theorem dX11_orderOfS_10 : decode cX11_orderOfS 10 = .ok (.bipush 99, 2) := by decide +kernel
theorem dX11_orderOfS_12 : decode cX11_orderOfS 12 = .ok (.bipush 114, 2) := by decide +kernel
theorem dX11_orderOfS_14 : decode cX11_orderOfS 14 = .ok (.bipush 97, 2) := by decide +kernel
theorem dX11_orderOfS_16 : decode cX11_orderOfS 16 = .ok (.bipush 116, 2) := by decide +kernel
theorem dX11_orderOfS_18 : decode cX11_orderOfS 18 = .ok (.invokevirtual 162, 3) := by decide +kernel
theorem dX11_orderOfS_21 : decode cX11_orderOfS 21 = .ok (.aload_n 0, 1) := by decide +kernel
theorem dX11_orderOfS_22 : decode cX11_orderOfS 22 = .ok (.bipush 99, 2) := by decide +kernel
theorem dX11_orderOfS_24 : decode cX11_orderOfS 24 = .ok (.bipush 104, 2) := by decide +kernel
theorem dX11_orderOfS_26 : decode cX11_orderOfS 26 = .ok (.bipush 61, 2) := by decide +kernel
theorem dX11_orderOfS_28 : decode cX11_orderOfS 28 = .ok (.iconst 0, 1) := by decide +kernel
theorem dX11_orderOfS_29 : decode cX11_orderOfS 29 = .ok (.invokevirtual 162, 3) := by decide +kernel
theorem dX11_orderOfS_32 : decode cX11_orderOfS 32 = .ok (.aload_n 0, 1) := by decide +kernel
theorem dX11_orderOfS_33 : decode cX11_orderOfS 33 = .ok (.iconst 0, 1) := by decide +kernel
theorem dX11_orderOfS_34 : decode cX11_orderOfS 34 = .ok (.sipush 359, 3) := by decide +kernel
theorem dX11_orderOfS_37 : decode cX11_orderOfS 37 = .ok (.invokevirtual 156, 3) := by decide +kernel
theorem dX11_orderOfS_40 : decode cX11_orderOfS 40 = .ok (.istore_n 2, 1) := by decide +kernel
theorem dX11_orderOfS_41 : decode cX11_orderOfS 41 = .ok (.aload_n 0, 1) := by decide +kernel
theorem dX11_orderOfS_42 : decode cX11_orderOfS 42 = .ok (.bipush 45, 2) := by decide +kernel
theorem dX11_orderOfS_44 : decode cX11_orderOfS 44 = .ok (.iconst 0, 1) := by decide +kernel
theorem dX11_orderOfS_45 : decode cX11_orderOfS 45 = .ok (.sipush 359, 3) := by decide +kernel
theorem dX11_orderOfS_48 : decode cX11_orderOfS 48 = .ok (.invokevirtual 166, 3) := by decide +kernel
theorem dX11_orderOfS_51 : decode cX11_orderOfS 51 = .ok (.istore_n 3, 1) := by decide +kernel
theorem dX11_orderOfS_52 : decode cX11_orderOfS 52 = .ok (.aload_n 0, 1) := by decide +kernel
theorem dX11_orderOfS_53 : decode cX11_orderOfS 53 = .ok (.bipush 64, 2) := by decide +kernel
theorem dX11_orderOfS_55 : decode cX11_orderOfS 55 = .ok (.iconst 0, 1) := by decide +kernel
theorem dX11_orderOfS_56 : decode cX11_orderOfS 56 = .ok (.bipush 29, 2) := by decide +kernel
theorem dX11_orderOfS_58 : decode cX11_orderOfS 58 = .ok (.invokevirtual 166, 3) := by decide +kernel
theorem dX11_orderOfS_61 : decode cX11_orderOfS 61 = .ok (.istore 4, 2) := by decide +kernel
theorem dX11_orderOfS_63 : decode cX11_orderOfS 63 = .ok (.aload_n 0, 1) := by decide +kernel
theorem dX11_orderOfS_64 : decode cX11_orderOfS 64 = .ok (.bipush 45, 2) := by decide +kernel
theorem dX11_orderOfS_66 : decode cX11_orderOfS 66 = .ok (.iconst 0, 1) := by decide +kernel
theorem dX11_orderOfS_67 : decode cX11_orderOfS 67 = .ok (.bipush 29, 2) := by decide +kernel
theorem dX11_orderOfS_69 : decode cX11_orderOfS 69 = .ok (.invokevirtual 166, 3) := by decide +kernel
theorem dX11_orderOfS_72 : decode cX11_orderOfS 72 = .ok (.istore 5, 2) := by decide +kernel
theorem dX11_orderOfS_74 : decode cX11_orderOfS 74 = .ok (.iload_n 1, 1) := by decide +kernel
theorem dX11_orderOfS_75 : decode cX11_orderOfS 75 = .ok (.ifCond .eq 16, 3) := by decide +kernel
theorem dX11_orderOfS_78 : decode cX11_orderOfS 78 = .ok (.aload_n 0, 1) := by decide +kernel
theorem dX11_orderOfS_79 : decode cX11_orderOfS 79 = .ok (.iload_n 2, 1) := by decide +kernel
theorem dX11_orderOfS_80 : decode cX11_orderOfS 80 = .ok (.iload_n 3, 1) := by decide +kernel
theorem dX11_orderOfS_81 : decode cX11_orderOfS 81 = .ok (.iload 4, 2) := by decide +kernel
theorem dX11_orderOfS_83 : decode cX11_orderOfS 83 = .ok (.iload 5, 2) := by decide +kernel
theorem dX11_orderOfS_85 : decode cX11_orderOfS 85 = .ok (.invokevirtual 121, 3) := by decide +kernel
theorem dX11_orderOfS_88 : decode cX11_orderOfS 88 = .ok (.goto 4, 3) := by decide +kernel
theorem dX11_orderOfS_91 : decode cX11_orderOfS 91 = .ok (.iconst 0, 1) := by decide +kernel
theorem dX11_orderOfS_92 : decode cX11_orderOfS 92 = .ok (.ireturn, 1) := by decide +kernel
theorem dX11_orderOfS_93 : decode cX11_orderOfS 93 = .ok (.aload_n 0, 1) := by decide +kernel
theorem dX11_orderOfS_94 : decode cX11_orderOfS 94 = .ok (.bipush 101, 2) := by decide +kernel
theorem dX11_orderOfS_96 : decode cX11_orderOfS 96 = .ok (.bipush 101, 2) := by decide +kernel
theorem dX11_orderOfS_98 : decode cX11_orderOfS 98 = .ok (.bipush 107, 2) := by decide +kernel
theorem dX11_orderOfS_100 : decode cX11_orderOfS 100 = .ok (.bipush 61, 2) := by decide +kernel
theorem dX11_orderOfS_102 : decode cX11_orderOfS 102 = .ok (.invokevirtual 162, 3) := by decide +kernel
theorem dX11_orderOfS_105 : decode cX11_orderOfS 105 = .ok (.aload_n 0, 1) := by decide +kernel
theorem dX11_orderOfS_106 : decode cX11_orderOfS 106 = .ok (.iconst 0, 1) := by decide +kernel
theorem dX11_orderOfS_107 : decode cX11_orderOfS 107 = .ok (.sipush 9999, 3) := by decide +kernel
theorem dX11_orderOfS_110 : decode cX11_orderOfS 110 = .ok (.invokevirtual 156, 3) := by decide +kernel
theorem dX11_orderOfS_113 : decode cX11_orderOfS 113 = .ok (.istore_n 2, 1) := by decide +kernel
theorem dX11_orderOfS_114 : decode cX11_orderOfS 114 = .ok (.iload_n 1, 1) := by decide +kernel
theorem dX11_orderOfS_115 : decode cX11_orderOfS 115 = .ok (.ifCond .eq 11, 3) := by decide +kernel
theorem dX11_orderOfS_118 : decode cX11_orderOfS 118 = .ok (.aload_n 0, 1) := by decide +kernel
theorem dX11_orderOfS_119 : decode cX11_orderOfS 119 = .ok (.iload_n 2, 1) := by decide +kernel
theorem dX11_orderOfS_120 : decode cX11_orderOfS 120 = .ok (.invokevirtual 140, 3) := by decide +kernel
theorem dX11_orderOfS_123 : decode cX11_orderOfS 123 = .ok (.goto 4, 3) := by decide +kernel
theorem dX11_orderOfS_126 : decode cX11_orderOfS 126 = .ok (.iconst 0, 1) := by decide +kernel
theorem dX11_orderOfS_127 : decode cX11_orderOfS 127 = .ok (.ireturn, 1) := by decide +kernel
set_option maxRecDepth 20000 in
theorem dX11_orderOfP_0 : decode cX11_orderOfP 0 = .ok (.aload_n 0, 1) := by decide +kernel
theorem dX11_orderOfP_1 : decode cX11_orderOfP 1 = .ok (.bipush 111, 2) := by decide +kernel
theorem dX11_orderOfP_3 : decode cX11_orderOfP 3 = .ok (.invokevirtual 159, 3) := by decide +kernel
theorem dX11_orderOfP_6 : decode cX11_orderOfP 6 = .ok (.ifCond .eq 51, 3) := by decide +kernel
theorem dX11_orderOfP_9 : decode cX11_orderOfP 9 = .ok (.aload_n 0, 1) := by decide +kernel
theorem dX11_orderOfP_10 : decode cX11_orderOfP 10 = .ok (.bipush 111, 2) := by decide +kernel
theorem dX11_orderOfP_12 : decode cX11_orderOfP 12 = .ok (.bipush 108, 2) := by decide +kernel
theorem dX11_orderOfP_14 : decode cX11_orderOfP 14 = .ok (.bipush 105, 2) := by decide +kernel
theorem dX11_orderOfP_16 : decode cX11_orderOfP 16 = .ok (.bipush 115, 2) := by decide +kernel
theorem dX11_orderOfP_18 : decode cX11_orderOfP 18 = .ok (.invokevirtual 162, 3) := by decide +kernel
theorem dX11_orderOfP_21 : decode cX11_orderOfP 21 = .ok (.aload_n 0, 1) := by decide +kernel
theorem dX11_orderOfP_22 : decode cX11_orderOfP 22 = .ok (.bipush 104, 2) := by decide +kernel
theorem dX11_orderOfP_24 : decode cX11_orderOfP 24 = .ok (.bipush 61, 2) := by decide +kernel
theorem dX11_orderOfP_26 : decode cX11_orderOfP 26 = .ok (.iconst 0, 1) := by decide +kernel
theorem dX11_orderOfP_27 : decode cX11_orderOfP 27 = .ok (.iconst 0, 1) := by decide +kernel
theorem dX11_orderOfP_28 : decode cX11_orderOfP 28 = .ok (.invokevirtual 162, 3) := by decide +kernel
theorem dX11_orderOfP_31 : decode cX11_orderOfP 31 = .ok (.aload_n 0, 1) := by decide +kernel
theorem dX11_orderOfP_32 : decode cX11_orderOfP 32 = .ok (.bipush 48, 2) := by decide +kernel
theorem dX11_orderOfP_34 : decode cX11_orderOfP 34 = .ok (.bipush 57, 2) := by decide +kernel
theorem dX11_orderOfP_36 : decode cX11_orderOfP 36 = .ok (.invokevirtual 153, 3) := by decide +kernel
theorem dX11_orderOfP_39 : decode cX11_orderOfP 39 = .ok (.bipush 48, 2) := by decide +kernel
theorem dX11_orderOfP_41 : decode cX11_orderOfP 41 = .ok (.isub, 1) := by decide +kernel
theorem dX11_orderOfP_42 : decode cX11_orderOfP 42 = .ok (.istore_n 2, 1) := by decide +kernel
theorem dX11_orderOfP_43 : decode cX11_orderOfP 43 = .ok (.iload_n 1, 1) := by decide +kernel
theorem dX11_orderOfP_44 : decode cX11_orderOfP 44 = .ok (.ifCond .eq 11, 3) := by decide +kernel
theorem dX11_orderOfP_47 : decode cX11_orderOfP 47 = .ok (.aload_n 0, 1) := by decide +kernel
theorem dX11_orderOfP_48 : decode cX11_orderOfP 48 = .ok (.iload_n 2, 1) := by decide +kernel
theorem dX11_orderOfP_49 : decode cX11_orderOfP 49 = .ok (.invokevirtual 128, 3) := by decide +kernel
theorem dX11_orderOfP_52 : decode cX11_orderOfP 52 = .ok (.goto 4, 3) := by decide +kernel
theorem dX11_orderOfP_55 : decode cX11_orderOfP 55 = .ok (.iconst 0, 1) := by decide +kernel
theorem dX11_orderOfP_56 : decode cX11_orderOfP 56 = .ok (.ireturn, 1) := by decide +kernel
theorem dX11_orderOfP_57 : decode cX11_orderOfP 57 = .ok (.aload_n 0, 1) := by decide +kernel
theorem dX11_orderOfP_58 : decode cX11_orderOfP 58 = .ok (.bipush 108, 2) := by decide +kernel
theorem dX11_orderOfP_60 : decode cX11_orderOfP 60 = .ok (.invokevirtual 159, 3) := by decide +kernel
theorem dX11_orderOfP_63 : decode cX11_orderOfP 63 = .ok (.ifCond .eq 38, 3) := by decide +kernel
theorem dX11_orderOfP_66 : decode cX11_orderOfP 66 = .ok (.aload_n 0, 1) := by decide +kernel
theorem dX11_orderOfP_67 : decode cX11_orderOfP 67 = .ok (.bipush 108, 2) := by decide +kernel
theorem dX11_orderOfP_69 : decode cX11_orderOfP 69 = .ok (.bipush 97, 2) := by decide +kernel
theorem dX11_orderOfP_71 : decode cX11_orderOfP 71 = .ok (.bipush 121, 2) := by decide +kernel
theorem dX11_orderOfP_73 : decode cX11_orderOfP 73 = .ok (.bipush 61, 2) := by decide +kernel
theorem dX11_orderOfP_75 : decode cX11_orderOfP 75 = .ok (.invokevirtual 162, 3) := by decide +kernel
theorem dX11_orderOfP_78 : decode cX11_orderOfP 78 = .ok (.aload_n 0, 1) := by decide +kernel
theorem dX11_orderOfP_79 : decode cX11_orderOfP 79 = .ok (.iconst 1, 1) := by decide +kernel
theorem dX11_orderOfP_80 : decode cX11_orderOfP 80 = .ok (.sipush 999, 3) := by decide +kernel
theorem dX11_orderOfP_83 : decode cX11_orderOfP 83 = .ok (.invokevirtual 156, 3) := by decide +kernel
theorem dX11_orderOfP_86 : decode cX11_orderOfP 86 = .ok (.istore_n 2, 1) := by decide +kernel
theorem dX11_orderOfP_87 : decode cX11_orderOfP 87 = .ok (.iload_n 1, 1) := by decide +kernel
theorem dX11_orderOfP_88 : decode cX11_orderOfP 88 = .ok (.ifCond .eq 11, 3) := by decide +kernel
theorem dX11_orderOfP_91 : decode cX11_orderOfP 91 = .ok (.aload_n 0, 1) := by decide +kernel
theorem dX11_orderOfP_92 : decode cX11_orderOfP 92 = .ok (.iload_n 2, 1) := by decide +kernel
theorem dX11_orderOfP_93 : decode cX11_orderOfP 93 = .ok (.invokevirtual 137, 3) := by decide +kernel
theorem dX11_orderOfP_96 : decode cX11_orderOfP 96 = .ok (.goto 4, 3) := by decide +kernel
theorem dX11_orderOfP_99 : decode cX11_orderOfP 99 = .ok (.iconst 0, 1) := by decide +kernel
theorem dX11_orderOfP_100 : decode cX11_orderOfP 100 = .ok (.ireturn, 1) := by decide +kernel
theorem dX11_orderOfP_101 : decode cX11_orderOfP 101 = .ok (.aload_n 0, 1) := by decide +kernel
theorem dX11_orderOfP_102 : decode cX11_orderOfP 102 = .ok (.bipush 114, 2) := by decide +kernel
theorem dX11_orderOfP_104 : decode cX11_orderOfP 104 = .ok (.bipush 101, 2) := by decide +kernel
theorem dX11_orderOfP_106 : decode cX11_orderOfP 106 = .ok (.bipush 115, 2) := by decide +kernel
theorem dX11_orderOfP_108 : decode cX11_orderOfP 108 = .ok (.bipush 115, 2) := by decide +kernel
theorem dX11_orderOfP_110 : decode cX11_orderOfP 110 = .ok (.invokevirtual 162, 3) := by decide +kernel
theorem dX11_orderOfP_113 : decode cX11_orderOfP 113 = .ok (.aload_n 0, 1) := by decide +kernel
theorem dX11_orderOfP_114 : decode cX11_orderOfP 114 = .ok (.bipush 61, 2) := by decide +kernel
theorem dX11_orderOfP_116 : decode cX11_orderOfP 116 = .ok (.bipush 61, 2) := by decide +kernel
theorem dX11_orderOfP_118 : decode cX11_orderOfP 118 = .ok (.invokevirtual 153, 3) := by decide +kernel
theorem dX11_orderOfP_121 : decode cX11_orderOfP 121 = .ok (.istore_n 2, 1) := by decide +kernel
theorem dX11_orderOfP_122 : decode cX11_orderOfP 122 = .ok (.aload_n 0, 1) := by decide +kernel
theorem dX11_orderOfP_123 : decode cX11_orderOfP 123 = .ok (.iconst 0, 1) := by decide +kernel
theorem dX11_orderOfP_124 : decode cX11_orderOfP 124 = .ok (.sipush 9999, 3) := by decide +kernel
theorem dX11_orderOfP_127 : decode cX11_orderOfP 127 = .ok (.invokevirtual 156, 3) := by decide +kernel
theorem dX11_orderOfP_130 : decode cX11_orderOfP 130 = .ok (.istore_n 3, 1) := by decide +kernel
theorem dX11_orderOfP_131 : decode cX11_orderOfP 131 = .ok (.aload_n 0, 1) := by decide +kernel
theorem dX11_orderOfP_132 : decode cX11_orderOfP 132 = .ok (.bipush 46, 2) := by decide +kernel
theorem dX11_orderOfP_134 : decode cX11_orderOfP 134 = .ok (.bipush 46, 2) := by decide +kernel
theorem dX11_orderOfP_136 : decode cX11_orderOfP 136 = .ok (.invokevirtual 153, 3) := by decide +kernel
theorem dX11_orderOfP_139 : decode cX11_orderOfP 139 = .ok (.istore 4, 2) := by decide +kernel
theorem dX11_orderOfP_141 : decode cX11_orderOfP 141 = .ok (.aload_n 0, 1) := by decide +kernel
theorem dX11_orderOfP_142 : decode cX11_orderOfP 142 = .ok (.bipush 48, 2) := by decide +kernel
theorem dX11_orderOfP_144 : decode cX11_orderOfP 144 = .ok (.bipush 51, 2) := by decide +kernel
theorem dX11_orderOfP_146 : decode cX11_orderOfP 146 = .ok (.invokevirtual 153, 3) := by decide +kernel
theorem dX11_orderOfP_149 : decode cX11_orderOfP 149 = .ok (.bipush 48, 2) := by decide +kernel
theorem dX11_orderOfP_151 : decode cX11_orderOfP 151 = .ok (.isub, 1) := by decide +kernel
theorem dX11_orderOfP_152 : decode cX11_orderOfP 152 = .ok (.istore 5, 2) := by decide +kernel
theorem dX11_orderOfP_154 : decode cX11_orderOfP 154 = .ok (.aload_n 0, 1) := by decide +kernel
theorem dX11_orderOfP_155 : decode cX11_orderOfP 155 = .ok (.bipush 58, 2) := by decide +kernel
theorem dX11_orderOfP_157 : decode cX11_orderOfP 157 = .ok (.iconst 0, 1) := by decide +kernel
theorem dX11_orderOfP_158 : decode cX11_orderOfP 158 = .ok (.bipush 15, 2) := by decide +kernel
theorem dX11_orderOfP_160 : decode cX11_orderOfP 160 = .ok (.invokevirtual 166, 3) := by decide +kernel
theorem dX11_orderOfP_163 : decode cX11_orderOfP 163 = .ok (.istore 6, 2) := by decide +kernel
theorem dX11_orderOfP_165 : decode cX11_orderOfP 165 = .ok (.iload_n 1, 1) := by decide +kernel
theorem dX11_orderOfP_166 : decode cX11_orderOfP 166 = .ok (.ifCond .eq 15, 3) := by decide +kernel
theorem dX11_orderOfP_169 : decode cX11_orderOfP 169 = .ok (.aload_n 0, 1) := by decide +kernel
theorem dX11_orderOfP_170 : decode cX11_orderOfP 170 = .ok (.iload_n 3, 1) := by decide +kernel
theorem dX11_orderOfP_171 : decode cX11_orderOfP 171 = .ok (.iload 5, 2) := by decide +kernel
theorem dX11_orderOfP_173 : decode cX11_orderOfP 173 = .ok (.iload 6, 2) := by decide +kernel
theorem dX11_orderOfP_175 : decode cX11_orderOfP 175 = .ok (.invokevirtual 114, 3) := by decide +kernel
theorem dX11_orderOfP_178 : decode cX11_orderOfP 178 = .ok (.goto 4, 3) := by decide +kernel
theorem dX11_orderOfP_181 : decode cX11_orderOfP 181 = .ok (.iconst 0, 1) := by decide +kernel
theorem dX11_orderOfP_182 : decode cX11_orderOfP 182 = .ok (.ireturn, 1) := by decide +kernel
set_option maxRecDepth 20000 in
theorem dX11_go_0 : decode cX11_go 0 = .ok (.aload_n 0, 1) := by decide +kernel
theorem dX11_go_1 : decode cX11_go 1 = .ok (.iconst 0, 1) := by decide +kernel
theorem dX11_go_2 : decode cX11_go 2 = .ok (.putfield 146, 3) := by decide +kernel
theorem dX11_go_5 : decode cX11_go 5 = .ok (.aload_n 0, 1) := by decide +kernel
theorem dX11_go_6 : decode cX11_go 6 = .ok (.iconst 0, 1) := by decide +kernel
theorem dX11_go_7 : decode cX11_go 7 = .ok (.putfield 149, 3) := by decide +kernel
theorem dX11_go_10 : decode cX11_go 10 = .ok (.iconst 0, 1) := by decide +kernel
theorem dX11_go_11 : decode cX11_go 11 = .ok (.istore_n 2, 1) := by decide +kernel
theorem dX11_go_12 : decode cX11_go 12 = .ok (.iconst 1, 1) := by decide +kernel
theorem dX11_go_13 : decode cX11_go 13 = .ok (.istore_n 3, 1) := by decide +kernel
theorem dX11_go_14 : decode cX11_go 14 = .ok (.iload_n 3, 1) := by decide +kernel
theorem dX11_go_15 : decode cX11_go 15 = .ok (.ifCond .eq 140, 3) := by decide +kernel
theorem dX11_go_18 : decode cX11_go 18 = .ok (.aload_n 0, 1) := by decide +kernel
theorem dX11_go_19 : decode cX11_go 19 = .ok (.bipush 115, 2) := by decide +kernel
theorem dX11_go_21 : decode cX11_go 21 = .ok (.invokevirtual 159, 3) := by decide +kernel
theorem dX11_go_24 : decode cX11_go 24 = .ok (.istore 4, 2) := by decide +kernel
theorem dX11_go_26 : decode cX11_go 26 = .ok (.iload 4, 2) := by decide +kernel
theorem dX11_go_28 : decode cX11_go 28 = .ok (.ifCond .eq 14, 3) := by decide +kernel
theorem dX11_go_31 : decode cX11_go 31 = .ok (.aload_n 0, 1) := by decide +kernel
theorem dX11_go_32 : decode cX11_go 32 = .ok (.bipush 115, 2) := by decide +kernel
theorem dX11_go_34 : decode cX11_go 34 = .ok (.bipush 115, 2) := by decide +kernel
theorem dX11_go_36 : decode cX11_go 36 = .ok (.invokevirtual 153, 3) := by decide +kernel
theorem dX11_go_39 : decode cX11_go 39 = .ok (.goto 11, 3) := by decide +kernel
theorem dX11_go_42 : decode cX11_go 42 = .ok (.aload_n 0, 1) := by decide +kernel
theorem dX11_go_43 : decode cX11_go 43 = .ok (.bipush 112, 2) := by decide +kernel
theorem dX11_go_45 : decode cX11_go 45 = .ok (.bipush 112, 2) := by decide +kernel
theorem dX11_go_47 : decode cX11_go 47 = .ok (.invokevirtual 153, 3) := by decide +kernel
theorem dX11_go_50 : decode cX11_go 50 = .ok (.istore 5, 2) := by decide +kernel
theorem dX11_go_52 : decode cX11_go 52 = .ok (.aload_n 0, 1) := by decide +kernel
theorem dX11_go_53 : decode cX11_go 53 = .ok (.getfield 149, 3) := by decide +kernel
theorem dX11_go_56 : decode cX11_go 56 = .ok (.ifCond .eq 7, 3) := by decide +kernel
theorem dX11_go_59 : decode cX11_go 59 = .ok (.iconst 0, 1) := by decide +kernel
theorem dX11_go_60 : decode cX11_go 60 = .ok (.goto 21, 3) := by decide +kernel
theorem dX11_go_63 : decode cX11_go 63 = .ok (.iload 4, 2) := by decide +kernel
theorem dX11_go_65 : decode cX11_go 65 = .ok (.ifCond .eq 11, 3) := by decide +kernel
theorem dX11_go_68 : decode cX11_go 68 = .ok (.aload_n 0, 1) := by decide +kernel
theorem dX11_go_69 : decode cX11_go 69 = .ok (.iload_n 1, 1) := by decide +kernel
theorem dX11_go_70 : decode cX11_go 70 = .ok (.invokevirtual 169, 3) := by decide +kernel
theorem dX11_go_73 : decode cX11_go 73 = .ok (.goto 8, 3) := by decide +kernel
theorem dX11_go_76 : decode cX11_go 76 = .ok (.aload_n 0, 1) := by decide +kernel
theorem dX11_go_77 : decode cX11_go 77 = .ok (.iload_n 1, 1) := by decide +kernel
theorem dX11_go_78 : decode cX11_go 78 = .ok (.invokevirtual 173, 3) := by decide +kernel
theorem dX11_go_81 : decode cX11_go 81 = .ok (.istore 6, 2) := by decide +kernel
theorem dX11_go_83 : decode cX11_go 83 = .ok (.iload 6, 2) := by decide +kernel
theorem dX11_go_85 : decode cX11_go 85 = .ok (.ifCond .ge 13, 3) := by decide +kernel
theorem dX11_go_88 : decode cX11_go 88 = .ok (.iload 6, 2) := by decide +kernel
theorem dX11_go_90 : decode cX11_go 90 = .ok (.bipush (-5), 2) := by decide +kernel
theorem dX11_go_92 : decode cX11_go 92 = .ok (.if_icmp .eq 6, 3) := by decide +kernel
theorem dX11_go_95 : decode cX11_go 95 = .ok (.iload 6, 2) := by decide +kernel
theorem dX11_go_97 : decode cX11_go 97 = .ok (.ireturn, 1) := by decide +kernel
theorem dX11_go_98 : decode cX11_go 98 = .ok (.iinc 2 1, 3) := by decide +kernel
theorem dX11_go_101 : decode cX11_go 101 = .ok (.aload_n 0, 1) := by decide +kernel
theorem dX11_go_102 : decode cX11_go 102 = .ok (.getfield 149, 3) := by decide +kernel
theorem dX11_go_105 : decode cX11_go 105 = .ok (.ifCond .ne 18, 3) := by decide +kernel
theorem dX11_go_108 : decode cX11_go 108 = .ok (.aload_n 0, 1) := by decide +kernel
theorem dX11_go_109 : decode cX11_go 109 = .ok (.getfield 146, 3) := by decide +kernel
theorem dX11_go_112 : decode cX11_go 112 = .ok (.aload_n 0, 1) := by decide +kernel
theorem dX11_go_113 : decode cX11_go 113 = .ok (.getfield 143, 3) := by decide +kernel
theorem dX11_go_116 : decode cX11_go 116 = .ok (.if_icmp .ge 7, 3) := by decide +kernel
theorem dX11_go_119 : decode cX11_go 119 = .ok (.iconst 1, 1) := by decide +kernel
theorem dX11_go_120 : decode cX11_go 120 = .ok (.goto 4, 3) := by decide +kernel
theorem dX11_go_123 : decode cX11_go 123 = .ok (.iconst 0, 1) := by decide +kernel
theorem dX11_go_124 : decode cX11_go 124 = .ok (.istore_n 3, 1) := by decide +kernel
theorem dX11_go_125 : decode cX11_go 125 = .ok (.iload_n 3, 1) := by decide +kernel
theorem dX11_go_126 : decode cX11_go 126 = .ok (.ifCond .eq 26, 3) := by decide +kernel
theorem dX11_go_129 : decode cX11_go 129 = .ok (.aload_n 0, 1) := by decide +kernel
theorem dX11_go_130 : decode cX11_go 130 = .ok (.bipush 59, 2) := by decide +kernel
theorem dX11_go_132 : decode cX11_go 132 = .ok (.bipush 59, 2) := by decide +kernel
theorem dX11_go_134 : decode cX11_go 134 = .ok (.invokevirtual 153, 3) := by decide +kernel
theorem dX11_go_137 : decode cX11_go 137 = .ok (.istore 7, 2) := by decide +kernel
theorem dX11_go_139 : decode cX11_go 139 = .ok (.aload_n 0, 1) := by decide +kernel
theorem dX11_go_140 : decode cX11_go 140 = .ok (.getfield 149, 3) := by decide +kernel
theorem dX11_go_143 : decode cX11_go 143 = .ok (.ifCond .ne 7, 3) := by decide +kernel
theorem dX11_go_146 : decode cX11_go 146 = .ok (.iconst 1, 1) := by decide +kernel
theorem dX11_go_147 : decode cX11_go 147 = .ok (.goto 4, 3) := by decide +kernel
theorem dX11_go_150 : decode cX11_go 150 = .ok (.iconst 0, 1) := by decide +kernel
theorem dX11_go_151 : decode cX11_go 151 = .ok (.istore_n 3, 1) := by decide +kernel
theorem dX11_go_152 : decode cX11_go 152 = .ok (.goto (-138), 3) := by decide +kernel
theorem dX11_go_155 : decode cX11_go 155 = .ok (.iload_n 2, 1) := by decide +kernel
theorem dX11_go_156 : decode cX11_go 156 = .ok (.ireturn, 1) := by decide +kernel
set_option maxRecDepth 20000 in
theorem dX11_fault_0 : decode cX11_fault 0 = .ok (.aload_n 0, 1) := by decide +kernel
theorem dX11_fault_1 : decode cX11_fault 1 = .ok (.iconst 0, 1) := by decide +kernel
theorem dX11_fault_2 : decode cX11_fault 2 = .ok (.invokevirtual 176, 3) := by decide +kernel
theorem dX11_fault_5 : decode cX11_fault 5 = .ok (.istore_n 1, 1) := by decide +kernel
theorem dX11_fault_6 : decode cX11_fault 6 = .ok (.aload_n 0, 1) := by decide +kernel
theorem dX11_fault_7 : decode cX11_fault 7 = .ok (.getfield 149, 3) := by decide +kernel
theorem dX11_fault_10 : decode cX11_fault 10 = .ok (.ifCond .eq 10, 3) := by decide +kernel
theorem dX11_fault_13 : decode cX11_fault 13 = .ok (.aload_n 0, 1) := by decide +kernel
theorem dX11_fault_14 : decode cX11_fault 14 = .ok (.getfield 146, 3) := by decide +kernel
theorem dX11_fault_17 : decode cX11_fault 17 = .ok (.goto 5, 3) := by decide +kernel
theorem dX11_fault_20 : decode cX11_fault 20 = .ok (.bipush (-5), 2) := by decide +kernel
theorem dX11_fault_22 : decode cX11_fault 22 = .ok (.ireturn, 1) := by decide +kernel
set_option maxRecDepth 20000 in
theorem dX11_doAll_0 : decode cX11_doAll 0 = .ok (.aload_n 0, 1) := by decide +kernel
theorem dX11_doAll_1 : decode cX11_doAll 1 = .ok (.iconst 0, 1) := by decide +kernel
theorem dX11_doAll_2 : decode cX11_doAll 2 = .ok (.invokevirtual 176, 3) := by decide +kernel
theorem dX11_doAll_5 : decode cX11_doAll 5 = .ok (.istore_n 1, 1) := by decide +kernel
theorem dX11_doAll_6 : decode cX11_doAll 6 = .ok (.aload_n 0, 1) := by decide +kernel
theorem dX11_doAll_7 : decode cX11_doAll 7 = .ok (.getfield 149, 3) := by decide +kernel
theorem dX11_doAll_10 : decode cX11_doAll 10 = .ok (.ifCond .eq 11, 3) := by decide +kernel
theorem dX11_doAll_13 : decode cX11_doAll 13 = .ok (.bipush (-100), 2) := by decide +kernel
theorem dX11_doAll_15 : decode cX11_doAll 15 = .ok (.aload_n 0, 1) := by decide +kernel
theorem dX11_doAll_16 : decode cX11_doAll 16 = .ok (.getfield 146, 3) := by decide +kernel
theorem dX11_doAll_19 : decode cX11_doAll 19 = .ok (.isub, 1) := by decide +kernel
theorem dX11_doAll_20 : decode cX11_doAll 20 = .ok (.ireturn, 1) := by decide +kernel
theorem dX11_doAll_21 : decode cX11_doAll 21 = .ok (.aload_n 0, 1) := by decide +kernel
theorem dX11_doAll_22 : decode cX11_doAll 22 = .ok (.invokevirtual 111, 3) := by decide +kernel
theorem dX11_doAll_25 : decode cX11_doAll 25 = .ok (.aload_n 0, 1) := by decide +kernel
theorem dX11_doAll_26 : decode cX11_doAll 26 = .ok (.aload_n 0, 1) := by decide +kernel
theorem dX11_doAll_27 : decode cX11_doAll 27 = .ok (.iconst 1, 1) := by decide +kernel
theorem dX11_doAll_28 : decode cX11_doAll 28 = .ok (.invokevirtual 176, 3) := by decide +kernel
theorem dX11_doAll_31 : decode cX11_doAll 31 = .ok (.invokevirtual 118, 3) := by decide +kernel
theorem dX11_doAll_34 : decode cX11_doAll 34 = .ok (.ireturn, 1) := by decide +kernel
theorem dX11_undo_0 : decode cX11_undo 0 = .ok (.aload_n 0, 1) := by decide +kernel
theorem dX11_undo_1 : decode cX11_undo 1 = .ok (.getfield 32, 3) := by decide +kernel
theorem dX11_undo_4 : decode cX11_undo 4 = .ok (.ifCond .ne 6, 3) := by decide +kernel
theorem dX11_undo_7 : decode cX11_undo 7 = .ok (.bipush (-5), 2) := by decide +kernel
theorem dX11_undo_9 : decode cX11_undo 9 = .ok (.ireturn, 1) := by decide +kernel
theorem dX11_undo_10 : decode cX11_undo 10 = .ok (.aload_n 0, 1) := by decide +kernel
theorem dX11_undo_11 : decode cX11_undo 11 = .ok (.dup, 1) := by decide +kernel
theorem dX11_undo_12 : decode cX11_undo 12 = .ok (.getfield 32, 3) := by decide +kernel
theorem dX11_undo_15 : decode cX11_undo 15 = .ok (.iconst 1, 1) := by decide +kernel
theorem dX11_undo_16 : decode cX11_undo 16 = .ok (.isub, 1) := by decide +kernel
theorem dX11_undo_17 : decode cX11_undo 17 = .ok (.putfield 32, 3) := by decide +kernel
theorem dX11_undo_20 : decode cX11_undo 20 = .ok (.iconst 0, 1) := by decide +kernel
theorem dX11_undo_21 : decode cX11_undo 21 = .ok (.istore_n 1, 1) := by decide +kernel
theorem dX11_undo_22 : decode cX11_undo 22 = .ok (.iload_n 1, 1) := by decide +kernel
theorem dX11_undo_23 : decode cX11_undo 23 = .ok (.sipush 166, 3) := by decide +kernel
theorem dX11_undo_26 : decode cX11_undo 26 = .ok (.if_icmp .ge 30, 3) := by decide +kernel
theorem dX11_undo_29 : decode cX11_undo 29 = .ok (.aload_n 0, 1) := by decide +kernel
theorem dX11_undo_30 : decode cX11_undo 30 = .ok (.getfield 7, 3) := by decide +kernel
theorem dX11_undo_33 : decode cX11_undo 33 = .ok (.iload_n 1, 1) := by decide +kernel
theorem dX11_undo_34 : decode cX11_undo 34 = .ok (.aload_n 0, 1) := by decide +kernel
theorem dX11_undo_35 : decode cX11_undo 35 = .ok (.getfield 16, 3) := by decide +kernel
theorem dX11_undo_38 : decode cX11_undo 38 = .ok (.sipush 166, 3) := by decide +kernel
theorem dX11_undo_41 : decode cX11_undo 41 = .ok (.aload_n 0, 1) := by decide +kernel
theorem dX11_undo_42 : decode cX11_undo 42 = .ok (.getfield 32, 3) := by decide +kernel
theorem dX11_undo_45 : decode cX11_undo 45 = .ok (.imul, 1) := by decide +kernel
theorem dX11_undo_46 : decode cX11_undo 46 = .ok (.iload_n 1, 1) := by decide +kernel
theorem dX11_undo_47 : decode cX11_undo 47 = .ok (.iadd, 1) := by decide +kernel
theorem dX11_undo_48 : decode cX11_undo 48 = .ok (.iaload, 1) := by decide +kernel
theorem dX11_undo_49 : decode cX11_undo 49 = .ok (.iastore, 1) := by decide +kernel
theorem dX11_undo_50 : decode cX11_undo 50 = .ok (.iinc 1 1, 3) := by decide +kernel
theorem dX11_undo_53 : decode cX11_undo 53 = .ok (.goto (-31), 3) := by decide +kernel
theorem dX11_undo_56 : decode cX11_undo 56 = .ok (.aload_n 0, 1) := by decide +kernel
theorem dX11_undo_57 : decode cX11_undo 57 = .ok (.getfield 32, 3) := by decide +kernel
theorem dX11_undo_60 : decode cX11_undo 60 = .ok (.ireturn, 1) := by decide +kernel
theorem dX11_keep_0 : decode cX11_keep 0 = .ok (.iconst 0, 1) := by decide +kernel
theorem dX11_keep_1 : decode cX11_keep 1 = .ok (.istore_n 1, 1) := by decide +kernel
theorem dX11_keep_2 : decode cX11_keep 2 = .ok (.iload_n 1, 1) := by decide +kernel
theorem dX11_keep_3 : decode cX11_keep 3 = .ok (.sipush 166, 3) := by decide +kernel
theorem dX11_keep_6 : decode cX11_keep 6 = .ok (.if_icmp .ge 21, 3) := by decide +kernel
theorem dX11_keep_9 : decode cX11_keep 9 = .ok (.aload_n 0, 1) := by decide +kernel
theorem dX11_keep_10 : decode cX11_keep 10 = .ok (.getfield 19, 3) := by decide +kernel
theorem dX11_keep_13 : decode cX11_keep 13 = .ok (.iload_n 1, 1) := by decide +kernel
theorem dX11_keep_14 : decode cX11_keep 14 = .ok (.aload_n 0, 1) := by decide +kernel
theorem dX11_keep_15 : decode cX11_keep 15 = .ok (.getfield 7, 3) := by decide +kernel
theorem dX11_keep_18 : decode cX11_keep 18 = .ok (.iload_n 1, 1) := by decide +kernel
theorem dX11_keep_19 : decode cX11_keep 19 = .ok (.iaload, 1) := by decide +kernel
theorem dX11_keep_20 : decode cX11_keep 20 = .ok (.iastore, 1) := by decide +kernel
theorem dX11_keep_21 : decode cX11_keep 21 = .ok (.iinc 1 1, 3) := by decide +kernel
theorem dX11_keep_24 : decode cX11_keep 24 = .ok (.goto (-22), 3) := by decide +kernel
theorem dX11_keep_27 : decode cX11_keep 27 = .ok (.aload_n 0, 1) := by decide +kernel
theorem dX11_keep_28 : decode cX11_keep 28 = .ok (.iconst 1, 1) := by decide +kernel
theorem dX11_keep_29 : decode cX11_keep 29 = .ok (.putfield 179, 3) := by decide +kernel
theorem dX11_keep_32 : decode cX11_keep 32 = .ok (.aload_n 0, 1) := by decide +kernel
theorem dX11_keep_33 : decode cX11_keep 33 = .ok (.getfield 7, 3) := by decide +kernel
theorem dX11_keep_36 : decode cX11_keep 36 = .ok (.bipush 8, 2) := by decide +kernel
theorem dX11_keep_38 : decode cX11_keep 38 = .ok (.iaload, 1) := by decide +kernel
theorem dX11_keep_39 : decode cX11_keep 39 = .ok (.ireturn, 1) := by decide +kernel
set_option maxRecDepth 20000 in
theorem dX11_restore_0 : decode cX11_restore 0 = .ok (.aload_n 0, 1) := by decide +kernel
theorem dX11_restore_1 : decode cX11_restore 1 = .ok (.getfield 179, 3) := by decide +kernel
theorem dX11_restore_4 : decode cX11_restore 4 = .ok (.ifCond .ne 6, 3) := by decide +kernel
theorem dX11_restore_7 : decode cX11_restore 7 = .ok (.bipush (-5), 2) := by decide +kernel
theorem dX11_restore_9 : decode cX11_restore 9 = .ok (.ireturn, 1) := by decide +kernel
theorem dX11_restore_10 : decode cX11_restore 10 = .ok (.aload_n 0, 1) := by decide +kernel
theorem dX11_restore_11 : decode cX11_restore 11 = .ok (.invokevirtual 111, 3) := by decide +kernel
theorem dX11_restore_14 : decode cX11_restore 14 = .ok (.iconst 0, 1) := by decide +kernel
theorem dX11_restore_15 : decode cX11_restore 15 = .ok (.istore_n 1, 1) := by decide +kernel
theorem dX11_restore_16 : decode cX11_restore 16 = .ok (.iload_n 1, 1) := by decide +kernel
theorem dX11_restore_17 : decode cX11_restore 17 = .ok (.sipush 166, 3) := by decide +kernel
theorem dX11_restore_20 : decode cX11_restore 20 = .ok (.if_icmp .ge 21, 3) := by decide +kernel
theorem dX11_restore_23 : decode cX11_restore 23 = .ok (.aload_n 0, 1) := by decide +kernel
theorem dX11_restore_24 : decode cX11_restore 24 = .ok (.getfield 7, 3) := by decide +kernel
theorem dX11_restore_27 : decode cX11_restore 27 = .ok (.iload_n 1, 1) := by decide +kernel
theorem dX11_restore_28 : decode cX11_restore 28 = .ok (.aload_n 0, 1) := by decide +kernel
theorem dX11_restore_29 : decode cX11_restore 29 = .ok (.getfield 19, 3) := by decide +kernel
theorem dX11_restore_32 : decode cX11_restore 32 = .ok (.iload_n 1, 1) := by decide +kernel
theorem dX11_restore_33 : decode cX11_restore 33 = .ok (.iaload, 1) := by decide +kernel
theorem dX11_restore_34 : decode cX11_restore 34 = .ok (.iastore, 1) := by decide +kernel
theorem dX11_restore_35 : decode cX11_restore 35 = .ok (.iinc 1 1, 3) := by decide +kernel
theorem dX11_restore_38 : decode cX11_restore 38 = .ok (.goto (-22), 3) := by decide +kernel
theorem dX11_restore_41 : decode cX11_restore 41 = .ok (.aload_n 0, 1) := by decide +kernel
theorem dX11_restore_42 : decode cX11_restore 42 = .ok (.aload_n 0, 1) := by decide +kernel
theorem dX11_restore_43 : decode cX11_restore 43 = .ok (.getfield 7, 3) := by decide +kernel
theorem dX11_restore_46 : decode cX11_restore 46 = .ok (.bipush 8, 2) := by decide +kernel
theorem dX11_restore_48 : decode cX11_restore 48 = .ok (.iaload, 1) := by decide +kernel
theorem dX11_restore_49 : decode cX11_restore 49 = .ok (.invokevirtual 118, 3) := by decide +kernel
theorem dX11_restore_52 : decode cX11_restore 52 = .ok (.ireturn, 1) := by decide +kernel
set_option maxRecDepth 20000 in
theorem dX11_frame_0 : decode cX11_frame 0 = .ok (.aload_n 0, 1) := by decide +kernel
theorem dX11_frame_1 : decode cX11_frame 1 = .ok (.iload_n 1, 1) := by decide +kernel
theorem dX11_frame_2 : decode cX11_frame 2 = .ok (.invokevirtual 102, 3) := by decide +kernel
theorem dX11_frame_5 : decode cX11_frame 5 = .ok (.ifCond .ne 5, 3) := by decide +kernel
theorem dX11_frame_8 : decode cX11_frame 8 = .ok (.iconst (-1), 1) := by decide +kernel
theorem dX11_frame_9 : decode cX11_frame 9 = .ok (.ireturn, 1) := by decide +kernel
theorem dX11_frame_10 : decode cX11_frame 10 = .ok (.aload_n 0, 1) := by decide +kernel
theorem dX11_frame_11 : decode cX11_frame 11 = .ok (.bipush (-5), 2) := by decide +kernel
theorem dX11_frame_13 : decode cX11_frame 13 = .ok (.invokevirtual 77, 3) := by decide +kernel
theorem dX11_frame_16 : decode cX11_frame 16 = .ok (.iload_n 2, 1) := by decide +kernel
theorem dX11_frame_17 : decode cX11_frame 17 = .ok (.tableswitch 153 0 8 #[51, 57, 69, 86, 99, 114, 120, 132, 147], 51) := by decide +kernel
theorem dX11_frame_68 : decode cX11_frame 68 = .ok (.aload_n 0, 1) := by decide +kernel
theorem dX11_frame_69 : decode cX11_frame 69 = .ok (.iload_n 1, 1) := by decide +kernel
theorem dX11_frame_70 : decode cX11_frame 70 = .ok (.invokevirtual 96, 3) := by decide +kernel
theorem dX11_frame_73 : decode cX11_frame 73 = .ok (.ireturn, 1) := by decide +kernel
theorem dX11_frame_74 : decode cX11_frame 74 = .ok (.iload_n 1, 1) := by decide +kernel
theorem dX11_frame_75 : decode cX11_frame 75 = .ok (.aload_n 0, 1) := by decide +kernel
theorem dX11_frame_76 : decode cX11_frame 76 = .ok (.aload_n 0, 1) := by decide +kernel
theorem dX11_frame_77 : decode cX11_frame 77 = .ok (.iload_n 1, 1) := by decide +kernel
theorem dX11_frame_78 : decode cX11_frame 78 = .ok (.invokevirtual 96, 3) := by decide +kernel
theorem dX11_frame_81 : decode cX11_frame 81 = .ok (.invokevirtual 36, 3) := by decide +kernel
theorem dX11_frame_84 : decode cX11_frame 84 = .ok (.isub, 1) := by decide +kernel
theorem dX11_frame_85 : decode cX11_frame 85 = .ok (.ireturn, 1) := by decide +kernel
theorem dX11_frame_86 : decode cX11_frame 86 = .ok (.aload_n 0, 1) := by decide +kernel
theorem dX11_frame_87 : decode cX11_frame 87 = .ok (.iload_n 1, 1) := by decide +kernel
theorem dX11_frame_88 : decode cX11_frame 88 = .ok (.invokevirtual 81, 3) := by decide +kernel
theorem dX11_frame_91 : decode cX11_frame 91 = .ok (.ifCond .eq 9, 3) := by decide +kernel
theorem dX11_frame_94 : decode cX11_frame 94 = .ok (.iload_n 1, 1) := by decide +kernel
theorem dX11_frame_95 : decode cX11_frame 95 = .ok (.iconst 5, 1) := by decide +kernel
theorem dX11_frame_96 : decode cX11_frame 96 = .ok (.idiv, 1) := by decide +kernel
theorem dX11_frame_97 : decode cX11_frame 97 = .ok (.goto 5, 3) := by decide +kernel
theorem dX11_frame_100 : decode cX11_frame 100 = .ok (.bipush (-5), 2) := by decide +kernel
theorem dX11_frame_102 : decode cX11_frame 102 = .ok (.ireturn, 1) := by decide +kernel
theorem dX11_frame_103 : decode cX11_frame 103 = .ok (.iload_n 1, 1) := by decide +kernel
theorem dX11_frame_104 : decode cX11_frame 104 = .ok (.invokestatic 55, 3) := by decide +kernel
theorem dX11_frame_107 : decode cX11_frame 107 = .ok (.ifCond .eq 7, 3) := by decide +kernel
theorem dX11_frame_110 : decode cX11_frame 110 = .ok (.iconst 1, 1) := by decide +kernel
theorem dX11_frame_111 : decode cX11_frame 111 = .ok (.goto 4, 3) := by decide +kernel
theorem dX11_frame_114 : decode cX11_frame 114 = .ok (.iconst 0, 1) := by decide +kernel
theorem dX11_frame_115 : decode cX11_frame 115 = .ok (.ireturn, 1) := by decide +kernel
theorem dX11_frame_116 : decode cX11_frame 116 = .ok (.aload_n 0, 1) := by decide +kernel
theorem dX11_frame_117 : decode cX11_frame 117 = .ok (.getfield 25, 3) := by decide +kernel
theorem dX11_frame_120 : decode cX11_frame 120 = .ok (.iload_n 1, 1) := by decide +kernel
theorem dX11_frame_121 : decode cX11_frame 121 = .ok (.baload, 1) := by decide +kernel
theorem dX11_frame_122 : decode cX11_frame 122 = .ok (.ifCond .eq 7, 3) := by decide +kernel
theorem dX11_frame_125 : decode cX11_frame 125 = .ok (.iconst 1, 1) := by decide +kernel
theorem dX11_frame_126 : decode cX11_frame 126 = .ok (.goto 4, 3) := by decide +kernel
theorem dX11_frame_129 : decode cX11_frame 129 = .ok (.iconst 0, 1) := by decide +kernel
theorem dX11_frame_130 : decode cX11_frame 130 = .ok (.ireturn, 1) := by decide +kernel
theorem dX11_frame_131 : decode cX11_frame 131 = .ok (.aload_n 0, 1) := by decide +kernel
theorem dX11_frame_132 : decode cX11_frame 132 = .ok (.iload_n 1, 1) := by decide +kernel
theorem dX11_frame_133 : decode cX11_frame 133 = .ok (.invokevirtual 90, 3) := by decide +kernel
theorem dX11_frame_136 : decode cX11_frame 136 = .ok (.ireturn, 1) := by decide +kernel
theorem dX11_frame_137 : decode cX11_frame 137 = .ok (.aload_n 0, 1) := by decide +kernel
theorem dX11_frame_138 : decode cX11_frame 138 = .ok (.iload_n 1, 1) := by decide +kernel
theorem dX11_frame_139 : decode cX11_frame 139 = .ok (.invokevirtual 182, 3) := by decide +kernel
theorem dX11_frame_142 : decode cX11_frame 142 = .ok (.aload_n 0, 1) := by decide +kernel
theorem dX11_frame_143 : decode cX11_frame 143 = .ok (.iload_n 1, 1) := by decide +kernel
theorem dX11_frame_144 : decode cX11_frame 144 = .ok (.invokevirtual 185, 3) := by decide +kernel
theorem dX11_frame_147 : decode cX11_frame 147 = .ok (.iadd, 1) := by decide +kernel
theorem dX11_frame_148 : decode cX11_frame 148 = .ok (.ireturn, 1) := by decide +kernel
theorem dX11_frame_149 : decode cX11_frame 149 = .ok (.aload_n 0, 1) := by decide +kernel
theorem dX11_frame_150 : decode cX11_frame 150 = .ok (.iload_n 1, 1) := by decide +kernel
theorem dX11_frame_151 : decode cX11_frame 151 = .ok (.invokevirtual 182, 3) := by decide +kernel
theorem dX11_frame_154 : decode cX11_frame 154 = .ok (.aload_n 0, 1) := by decide +kernel
theorem dX11_frame_155 : decode cX11_frame 155 = .ok (.iload_n 1, 1) := by decide +kernel
theorem dX11_frame_156 : decode cX11_frame 156 = .ok (.invokevirtual 185, 3) := by decide +kernel
theorem dX11_frame_159 : decode cX11_frame 159 = .ok (.isub, 1) := by decide +kernel
theorem dX11_frame_160 : decode cX11_frame 160 = .ok (.bipush 100, 2) := by decide +kernel
theorem dX11_frame_162 : decode cX11_frame 162 = .ok (.iadd, 1) := by decide +kernel
theorem dX11_frame_163 : decode cX11_frame 163 = .ok (.ireturn, 1) := by decide +kernel
theorem dX11_frame_164 : decode cX11_frame 164 = .ok (.aload_n 0, 1) := by decide +kernel
theorem dX11_frame_165 : decode cX11_frame 165 = .ok (.iload_n 1, 1) := by decide +kernel
theorem dX11_frame_166 : decode cX11_frame 166 = .ok (.invokevirtual 188, 3) := by decide +kernel
theorem dX11_frame_169 : decode cX11_frame 169 = .ok (.ireturn, 1) := by decide +kernel
theorem dX11_frame_170 : decode cX11_frame 170 = .ok (.bipush (-2), 2) := by decide +kernel
theorem dX11_frame_172 : decode cX11_frame 172 = .ok (.ireturn, 1) := by decide +kernel
set_option maxRecDepth 20000 in
theorem dX11_symbol_0 : decode cX11_symbol 0 = .ok (.aload_n 0, 1) := by decide +kernel
theorem dX11_symbol_1 : decode cX11_symbol 1 = .ok (.iload_n 1, 1) := by decide +kernel
theorem dX11_symbol_2 : decode cX11_symbol 2 = .ok (.invokevirtual 102, 3) := by decide +kernel
theorem dX11_symbol_5 : decode cX11_symbol 5 = .ok (.ifCond .ne 5, 3) := by decide +kernel
theorem dX11_symbol_8 : decode cX11_symbol 8 = .ok (.iconst (-1), 1) := by decide +kernel
theorem dX11_symbol_9 : decode cX11_symbol 9 = .ok (.ireturn, 1) := by decide +kernel
theorem dX11_symbol_10 : decode cX11_symbol 10 = .ok (.iload_n 2, 1) := by decide +kernel
theorem dX11_symbol_11 : decode cX11_symbol 11 = .ok (.iconst 0, 1) := by decide +kernel
theorem dX11_symbol_12 : decode cX11_symbol 12 = .ok (.iconst 3, 1) := by decide +kernel
theorem dX11_symbol_13 : decode cX11_symbol 13 = .ok (.invokestatic 44, 3) := by decide +kernel
theorem dX11_symbol_16 : decode cX11_symbol 16 = .ok (.ifCond .ne 6, 3) := by decide +kernel
theorem dX11_symbol_19 : decode cX11_symbol 19 = .ok (.bipush (-2), 2) := by decide +kernel
theorem dX11_symbol_21 : decode cX11_symbol 21 = .ok (.ireturn, 1) := by decide +kernel
theorem dX11_symbol_22 : decode cX11_symbol 22 = .ok (.aload_n 0, 1) := by decide +kernel
theorem dX11_symbol_23 : decode cX11_symbol 23 = .ok (.bipush (-5), 2) := by decide +kernel
theorem dX11_symbol_25 : decode cX11_symbol 25 = .ok (.invokevirtual 77, 3) := by decide +kernel
theorem dX11_symbol_28 : decode cX11_symbol 28 = .ok (.iload_n 3, 1) := by decide +kernel
theorem dX11_symbol_29 : decode cX11_symbol 29 = .ok (.ifCond .ne 12, 3) := by decide +kernel
theorem dX11_symbol_32 : decode cX11_symbol 32 = .ok (.aload_n 0, 1) := by decide +kernel
theorem dX11_symbol_33 : decode cX11_symbol 33 = .ok (.iload_n 1, 1) := by decide +kernel
theorem dX11_symbol_34 : decode cX11_symbol 34 = .ok (.iload_n 2, 1) := by decide +kernel
theorem dX11_symbol_35 : decode cX11_symbol 35 = .ok (.invokevirtual 62, 3) := by decide +kernel
theorem dX11_symbol_38 : decode cX11_symbol 38 = .ok (.goto 23, 3) := by decide +kernel
theorem dX11_symbol_41 : decode cX11_symbol 41 = .ok (.aload_n 0, 1) := by decide +kernel
theorem dX11_symbol_42 : decode cX11_symbol 42 = .ok (.iload_n 1, 1) := by decide +kernel
theorem dX11_symbol_43 : decode cX11_symbol 43 = .ok (.invokevirtual 90, 3) := by decide +kernel
theorem dX11_symbol_46 : decode cX11_symbol 46 = .ok (.iconst 3, 1) := by decide +kernel
theorem dX11_symbol_47 : decode cX11_symbol 47 = .ok (.if_icmp .ne 8, 3) := by decide +kernel
theorem dX11_symbol_50 : decode cX11_symbol 50 = .ok (.bipush (-5), 2) := by decide +kernel
theorem dX11_symbol_52 : decode cX11_symbol 52 = .ok (.goto 9, 3) := by decide +kernel
theorem dX11_symbol_55 : decode cX11_symbol 55 = .ok (.aload_n 0, 1) := by decide +kernel
theorem dX11_symbol_56 : decode cX11_symbol 56 = .ok (.iload_n 1, 1) := by decide +kernel
theorem dX11_symbol_57 : decode cX11_symbol 57 = .ok (.iload_n 2, 1) := by decide +kernel
theorem dX11_symbol_58 : decode cX11_symbol 58 = .ok (.invokevirtual 191, 3) := by decide +kernel
theorem dX11_symbol_61 : decode cX11_symbol 61 = .ok (.ireturn, 1) := by decide +kernel
set_option maxRecDepth 20000 in
theorem dX11_turn_0 : decode cX11_turn 0 = .ok (.iload_n 1, 1) := by decide +kernel
theorem dX11_turn_1 : decode cX11_turn 1 = .ok (.iconst 0, 1) := by decide +kernel
theorem dX11_turn_2 : decode cX11_turn 2 = .ok (.bipush 29, 2) := by decide +kernel
theorem dX11_turn_4 : decode cX11_turn 4 = .ok (.invokestatic 44, 3) := by decide +kernel
theorem dX11_turn_7 : decode cX11_turn 7 = .ok (.ifCond .ne 5, 3) := by decide +kernel
theorem dX11_turn_10 : decode cX11_turn 10 = .ok (.iconst (-1), 1) := by decide +kernel
theorem dX11_turn_11 : decode cX11_turn 11 = .ok (.ireturn, 1) := by decide +kernel
theorem dX11_turn_12 : decode cX11_turn 12 = .ok (.iload_n 2, 1) := by decide +kernel
theorem dX11_turn_13 : decode cX11_turn 13 = .ok (.iconst 0, 1) := by decide +kernel
theorem dX11_turn_14 : decode cX11_turn 14 = .ok (.iconst 3, 1) := by decide +kernel
theorem dX11_turn_15 : decode cX11_turn 15 = .ok (.invokestatic 44, 3) := by decide +kernel
theorem dX11_turn_18 : decode cX11_turn 18 = .ok (.ifCond .ne 6, 3) := by decide +kernel
theorem dX11_turn_21 : decode cX11_turn 21 = .ok (.bipush (-2), 2) := by decide +kernel
theorem dX11_turn_23 : decode cX11_turn 23 = .ok (.ireturn, 1) := by decide +kernel
theorem dX11_turn_24 : decode cX11_turn 24 = .ok (.aload_n 0, 1) := by decide +kernel
theorem dX11_turn_25 : decode cX11_turn 25 = .ok (.bipush (-5), 2) := by decide +kernel
theorem dX11_turn_27 : decode cX11_turn 27 = .ok (.invokevirtual 77, 3) := by decide +kernel
theorem dX11_turn_30 : decode cX11_turn 30 = .ok (.iconst 0, 1) := by decide +kernel
theorem dX11_turn_31 : decode cX11_turn 31 = .ok (.istore_n 3, 1) := by decide +kernel
theorem dX11_turn_32 : decode cX11_turn 32 = .ok (.iconst 0, 1) := by decide +kernel
theorem dX11_turn_33 : decode cX11_turn 33 = .ok (.istore 4, 2) := by decide +kernel
theorem dX11_turn_35 : decode cX11_turn 35 = .ok (.aload_n 0, 1) := by decide +kernel
theorem dX11_turn_36 : decode cX11_turn 36 = .ok (.iload_n 1, 1) := by decide +kernel
theorem dX11_turn_37 : decode cX11_turn 37 = .ok (.invokevirtual 36, 3) := by decide +kernel
theorem dX11_turn_40 : decode cX11_turn 40 = .ok (.istore 5, 2) := by decide +kernel
theorem dX11_turn_42 : decode cX11_turn 42 = .ok (.iload 5, 2) := by decide +kernel
theorem dX11_turn_44 : decode cX11_turn 44 = .ok (.aload_n 0, 1) := by decide +kernel
theorem dX11_turn_45 : decode cX11_turn 45 = .ok (.iload_n 1, 1) := by decide +kernel
theorem dX11_turn_46 : decode cX11_turn 46 = .ok (.iconst 1, 1) := by decide +kernel
theorem dX11_turn_47 : decode cX11_turn 47 = .ok (.iadd, 1) := by decide +kernel
theorem dX11_turn_48 : decode cX11_turn 48 = .ok (.invokevirtual 36, 3) := by decide +kernel
theorem dX11_turn_51 : decode cX11_turn 51 = .ok (.if_icmp .ge 59, 3) := by decide +kernel
theorem dX11_turn_54 : decode cX11_turn 54 = .ok (.iload_n 2, 1) := by decide +kernel
theorem dX11_turn_55 : decode cX11_turn 55 = .ok (.iconst 1, 1) := by decide +kernel
theorem dX11_turn_56 : decode cX11_turn 56 = .ok (.if_icmp .le 54, 3) := by decide +kernel
theorem dX11_turn_59 : decode cX11_turn 59 = .ok (.iload_n 3, 1) := by decide +kernel
theorem dX11_turn_60 : decode cX11_turn 60 = .ok (.aload_n 0, 1) := by decide +kernel
theorem dX11_turn_61 : decode cX11_turn 61 = .ok (.getfield 25, 3) := by decide +kernel
theorem dX11_turn_64 : decode cX11_turn 64 = .ok (.iload 5, 2) := by decide +kernel
theorem dX11_turn_66 : decode cX11_turn 66 = .ok (.baload, 1) := by decide +kernel
theorem dX11_turn_67 : decode cX11_turn 67 = .ok (.ifCond .eq 7, 3) := by decide +kernel
theorem dX11_turn_70 : decode cX11_turn 70 = .ok (.iconst 1, 1) := by decide +kernel
theorem dX11_turn_71 : decode cX11_turn 71 = .ok (.goto 4, 3) := by decide +kernel
theorem dX11_turn_74 : decode cX11_turn 74 = .ok (.iconst 0, 1) := by decide +kernel
theorem dX11_turn_75 : decode cX11_turn 75 = .ok (.iadd, 1) := by decide +kernel
theorem dX11_turn_76 : decode cX11_turn 76 = .ok (.istore_n 3, 1) := by decide +kernel
theorem dX11_turn_77 : decode cX11_turn 77 = .ok (.iload 4, 2) := by decide +kernel
theorem dX11_turn_79 : decode cX11_turn 79 = .ok (.iload_n 2, 1) := by decide +kernel
theorem dX11_turn_80 : decode cX11_turn 80 = .ok (.iconst 3, 1) := by decide +kernel
theorem dX11_turn_81 : decode cX11_turn 81 = .ok (.if_icmp .ne 19, 3) := by decide +kernel
theorem dX11_turn_84 : decode cX11_turn 84 = .ok (.aload_n 0, 1) := by decide +kernel
theorem dX11_turn_85 : decode cX11_turn 85 = .ok (.iload 5, 2) := by decide +kernel
theorem dX11_turn_87 : decode cX11_turn 87 = .ok (.invokevirtual 182, 3) := by decide +kernel
theorem dX11_turn_90 : decode cX11_turn 90 = .ok (.aload_n 0, 1) := by decide +kernel
theorem dX11_turn_91 : decode cX11_turn 91 = .ok (.iload 5, 2) := by decide +kernel
theorem dX11_turn_93 : decode cX11_turn 93 = .ok (.invokevirtual 185, 3) := by decide +kernel
theorem dX11_turn_96 : decode cX11_turn 96 = .ok (.iadd, 1) := by decide +kernel
theorem dX11_turn_97 : decode cX11_turn 97 = .ok (.goto 4, 3) := by decide +kernel
theorem dX11_turn_100 : decode cX11_turn 100 = .ok (.iconst 0, 1) := by decide +kernel
theorem dX11_turn_101 : decode cX11_turn 101 = .ok (.iadd, 1) := by decide +kernel
theorem dX11_turn_102 : decode cX11_turn 102 = .ok (.istore 4, 2) := by decide +kernel
theorem dX11_turn_104 : decode cX11_turn 104 = .ok (.iinc 5 1, 3) := by decide +kernel
theorem dX11_turn_107 : decode cX11_turn 107 = .ok (.goto (-65), 3) := by decide +kernel
theorem dX11_turn_110 : decode cX11_turn 110 = .ok (.iload_n 2, 1) := by decide +kernel
theorem dX11_turn_111 : decode cX11_turn 111 = .ok (.ifCond .ne 11, 3) := by decide +kernel
theorem dX11_turn_114 : decode cX11_turn 114 = .ok (.aload_n 0, 1) := by decide +kernel
theorem dX11_turn_115 : decode cX11_turn 115 = .ok (.iload_n 1, 1) := by decide +kernel
theorem dX11_turn_116 : decode cX11_turn 116 = .ok (.invokevirtual 71, 3) := by decide +kernel
theorem dX11_turn_119 : decode cX11_turn 119 = .ok (.goto 27, 3) := by decide +kernel
theorem dX11_turn_122 : decode cX11_turn 122 = .ok (.iload_n 2, 1) := by decide +kernel
theorem dX11_turn_123 : decode cX11_turn 123 = .ok (.iconst 1, 1) := by decide +kernel
theorem dX11_turn_124 : decode cX11_turn 124 = .ok (.if_icmp .ne 11, 3) := by decide +kernel
theorem dX11_turn_127 : decode cX11_turn 127 = .ok (.aload_n 0, 1) := by decide +kernel
theorem dX11_turn_128 : decode cX11_turn 128 = .ok (.iload_n 1, 1) := by decide +kernel
theorem dX11_turn_129 : decode cX11_turn 129 = .ok (.invokevirtual 36, 3) := by decide +kernel
theorem dX11_turn_132 : decode cX11_turn 132 = .ok (.goto 14, 3) := by decide +kernel
theorem dX11_turn_135 : decode cX11_turn 135 = .ok (.iload_n 2, 1) := by decide +kernel
theorem dX11_turn_136 : decode cX11_turn 136 = .ok (.iconst 2, 1) := by decide +kernel
theorem dX11_turn_137 : decode cX11_turn 137 = .ok (.if_icmp .ne 7, 3) := by decide +kernel
theorem dX11_turn_140 : decode cX11_turn 140 = .ok (.iload_n 3, 1) := by decide +kernel
theorem dX11_turn_141 : decode cX11_turn 141 = .ok (.goto 5, 3) := by decide +kernel
theorem dX11_turn_144 : decode cX11_turn 144 = .ok (.iload 4, 2) := by decide +kernel
theorem dX11_turn_146 : decode cX11_turn 146 = .ok (.ireturn, 1) := by decide +kernel
set_option maxRecDepth 20000 in
theorem dX11_scratchOf_0 : decode cX11_scratchOf 0 = .ok (.iload_n 1, 1) := by decide +kernel
theorem dX11_scratchOf_1 : decode cX11_scratchOf 1 = .ok (.iconst 0, 1) := by decide +kernel
theorem dX11_scratchOf_2 : decode cX11_scratchOf 2 = .ok (.aload_n 0, 1) := by decide +kernel
theorem dX11_scratchOf_3 : decode cX11_scratchOf 3 = .ok (.getfield 7, 3) := by decide +kernel
theorem dX11_scratchOf_6 : decode cX11_scratchOf 6 = .ok (.bipush 12, 2) := by decide +kernel
theorem dX11_scratchOf_8 : decode cX11_scratchOf 8 = .ok (.iaload, 1) := by decide +kernel
theorem dX11_scratchOf_9 : decode cX11_scratchOf 9 = .ok (.iconst 1, 1) := by decide +kernel
theorem dX11_scratchOf_10 : decode cX11_scratchOf 10 = .ok (.isub, 1) := by decide +kernel
theorem dX11_scratchOf_11 : decode cX11_scratchOf 11 = .ok (.invokestatic 44, 3) := by decide +kernel
theorem dX11_scratchOf_14 : decode cX11_scratchOf 14 = .ok (.ifCond .ne 5, 3) := by decide +kernel
theorem dX11_scratchOf_17 : decode cX11_scratchOf 17 = .ok (.iconst (-1), 1) := by decide +kernel
theorem dX11_scratchOf_18 : decode cX11_scratchOf 18 = .ok (.ireturn, 1) := by decide +kernel
theorem dX11_scratchOf_19 : decode cX11_scratchOf 19 = .ok (.iload_n 2, 1) := by decide +kernel
theorem dX11_scratchOf_20 : decode cX11_scratchOf 20 = .ok (.iconst 0, 1) := by decide +kernel
theorem dX11_scratchOf_21 : decode cX11_scratchOf 21 = .ok (.iconst 4, 1) := by decide +kernel
theorem dX11_scratchOf_22 : decode cX11_scratchOf 22 = .ok (.invokestatic 44, 3) := by decide +kernel
theorem dX11_scratchOf_25 : decode cX11_scratchOf 25 = .ok (.ifCond .ne 6, 3) := by decide +kernel
theorem dX11_scratchOf_28 : decode cX11_scratchOf 28 = .ok (.bipush (-2), 2) := by decide +kernel
theorem dX11_scratchOf_30 : decode cX11_scratchOf 30 = .ok (.ireturn, 1) := by decide +kernel
theorem dX11_scratchOf_31 : decode cX11_scratchOf 31 = .ok (.iconst 0, 1) := by decide +kernel
theorem dX11_scratchOf_32 : decode cX11_scratchOf 32 = .ok (.istore_n 3, 1) := by decide +kernel
theorem dX11_scratchOf_33 : decode cX11_scratchOf 33 = .ok (.iconst 0, 1) := by decide +kernel
theorem dX11_scratchOf_34 : decode cX11_scratchOf 34 = .ok (.istore 4, 2) := by decide +kernel
theorem dX11_scratchOf_36 : decode cX11_scratchOf 36 = .ok (.iload 4, 2) := by decide +kernel
theorem dX11_scratchOf_38 : decode cX11_scratchOf 38 = .ok (.bipush 30, 2) := by decide +kernel
theorem dX11_scratchOf_40 : decode cX11_scratchOf 40 = .ok (.if_icmp .ge 54, 3) := by decide +kernel
theorem dX11_scratchOf_43 : decode cX11_scratchOf 43 = .ok (.iload_n 2, 1) := by decide +kernel
theorem dX11_scratchOf_44 : decode cX11_scratchOf 44 = .ok (.iconst 4, 1) := by decide +kernel
theorem dX11_scratchOf_45 : decode cX11_scratchOf 45 = .ok (.if_icmp .ne 49, 3) := by decide +kernel
theorem dX11_scratchOf_48 : decode cX11_scratchOf 48 = .ok (.iconst 0, 1) := by decide +kernel
theorem dX11_scratchOf_49 : decode cX11_scratchOf 49 = .ok (.istore 5, 2) := by decide +kernel
theorem dX11_scratchOf_51 : decode cX11_scratchOf 51 = .ok (.iload 5, 2) := by decide +kernel
theorem dX11_scratchOf_53 : decode cX11_scratchOf 53 = .ok (.aload_n 0, 1) := by decide +kernel
theorem dX11_scratchOf_54 : decode cX11_scratchOf 54 = .ok (.iload 4, 2) := by decide +kernel
theorem dX11_scratchOf_56 : decode cX11_scratchOf 56 = .ok (.invokevirtual 71, 3) := by decide +kernel
theorem dX11_scratchOf_59 : decode cX11_scratchOf 59 = .ok (.if_icmp .ge 29, 3) := by decide +kernel
theorem dX11_scratchOf_62 : decode cX11_scratchOf 62 = .ok (.iload_n 3, 1) := by decide +kernel
theorem dX11_scratchOf_63 : decode cX11_scratchOf 63 = .ok (.aload_n 0, 1) := by decide +kernel
theorem dX11_scratchOf_64 : decode cX11_scratchOf 64 = .ok (.iload_n 1, 1) := by decide +kernel
theorem dX11_scratchOf_65 : decode cX11_scratchOf 65 = .ok (.iload 4, 2) := by decide +kernel
theorem dX11_scratchOf_67 : decode cX11_scratchOf 67 = .ok (.iload 5, 2) := by decide +kernel
theorem dX11_scratchOf_69 : decode cX11_scratchOf 69 = .ok (.invokevirtual 74, 3) := by decide +kernel
theorem dX11_scratchOf_72 : decode cX11_scratchOf 72 = .ok (.ifCond .eq 7, 3) := by decide +kernel
theorem dX11_scratchOf_75 : decode cX11_scratchOf 75 = .ok (.iconst 1, 1) := by decide +kernel
theorem dX11_scratchOf_76 : decode cX11_scratchOf 76 = .ok (.goto 4, 3) := by decide +kernel
theorem dX11_scratchOf_79 : decode cX11_scratchOf 79 = .ok (.iconst 0, 1) := by decide +kernel
theorem dX11_scratchOf_80 : decode cX11_scratchOf 80 = .ok (.iadd, 1) := by decide +kernel
theorem dX11_scratchOf_81 : decode cX11_scratchOf 81 = .ok (.istore_n 3, 1) := by decide +kernel
theorem dX11_scratchOf_82 : decode cX11_scratchOf 82 = .ok (.iinc 5 1, 3) := by decide +kernel
theorem dX11_scratchOf_85 : decode cX11_scratchOf 85 = .ok (.goto (-34), 3) := by decide +kernel
theorem dX11_scratchOf_88 : decode cX11_scratchOf 88 = .ok (.iinc 4 1, 3) := by decide +kernel
theorem dX11_scratchOf_91 : decode cX11_scratchOf 91 = .ok (.goto (-55), 3) := by decide +kernel
theorem dX11_scratchOf_94 : decode cX11_scratchOf 94 = .ok (.iload_n 2, 1) := by decide +kernel
theorem dX11_scratchOf_95 : decode cX11_scratchOf 95 = .ok (.iconst 4, 1) := by decide +kernel
theorem dX11_scratchOf_96 : decode cX11_scratchOf 96 = .ok (.if_icmp .ne 7, 3) := by decide +kernel
theorem dX11_scratchOf_99 : decode cX11_scratchOf 99 = .ok (.iload_n 3, 1) := by decide +kernel
theorem dX11_scratchOf_100 : decode cX11_scratchOf 100 = .ok (.goto 16, 3) := by decide +kernel
theorem dX11_scratchOf_103 : decode cX11_scratchOf 103 = .ok (.aload_n 0, 1) := by decide +kernel
theorem dX11_scratchOf_104 : decode cX11_scratchOf 104 = .ok (.getfield 7, 3) := by decide +kernel
theorem dX11_scratchOf_107 : decode cX11_scratchOf 107 = .ok (.bipush 13, 2) := by decide +kernel
theorem dX11_scratchOf_109 : decode cX11_scratchOf 109 = .ok (.iconst 4, 1) := by decide +kernel
theorem dX11_scratchOf_110 : decode cX11_scratchOf 110 = .ok (.iload_n 1, 1) := by decide +kernel
theorem dX11_scratchOf_111 : decode cX11_scratchOf 111 = .ok (.imul, 1) := by decide +kernel
theorem dX11_scratchOf_112 : decode cX11_scratchOf 112 = .ok (.iadd, 1) := by decide +kernel
theorem dX11_scratchOf_113 : decode cX11_scratchOf 113 = .ok (.iload_n 2, 1) := by decide +kernel
theorem dX11_scratchOf_114 : decode cX11_scratchOf 114 = .ok (.iadd, 1) := by decide +kernel
theorem dX11_scratchOf_115 : decode cX11_scratchOf 115 = .ok (.iaload, 1) := by decide +kernel
theorem dX11_scratchOf_116 : decode cX11_scratchOf 116 = .ok (.ireturn, 1) := by decide +kernel
set_option maxRecDepth 20000 in
theorem dX11_count_0 : decode cX11_count 0 = .ok (.aload_n 0, 1) := by decide +kernel
theorem dX11_count_1 : decode cX11_count 1 = .ok (.bipush (-5), 2) := by decide +kernel
theorem dX11_count_3 : decode cX11_count 3 = .ok (.invokevirtual 77, 3) := by decide +kernel
theorem dX11_count_6 : decode cX11_count 6 = .ok (.iload_n 1, 1) := by decide +kernel
theorem dX11_count_7 : decode cX11_count 7 = .ok (.tableswitch 194 0 22 #[105, 110, 117, 125, 133, 145, 145, 145, 145, 145, 157, 157, 157, 157, 166, 174, 179, 184, 184, 184, 184, 184, 184], 105) := by decide +kernel
theorem dX11_count_112 : decode cX11_count 112 = .ok (.aload_n 0, 1) := by decide +kernel
theorem dX11_count_113 : decode cX11_count 113 = .ok (.invokevirtual 40, 3) := by decide +kernel
theorem dX11_count_116 : decode cX11_count 116 = .ok (.ireturn, 1) := by decide +kernel
theorem dX11_count_117 : decode cX11_count 117 = .ok (.aload_n 0, 1) := by decide +kernel
theorem dX11_count_118 : decode cX11_count 118 = .ok (.invokevirtual 40, 3) := by decide +kernel
theorem dX11_count_121 : decode cX11_count 121 = .ok (.iconst 5, 1) := by decide +kernel
theorem dX11_count_122 : decode cX11_count 122 = .ok (.idiv, 1) := by decide +kernel
theorem dX11_count_123 : decode cX11_count 123 = .ok (.ireturn, 1) := by decide +kernel
theorem dX11_count_124 : decode cX11_count 124 = .ok (.aload_n 0, 1) := by decide +kernel
theorem dX11_count_125 : decode cX11_count 125 = .ok (.getfield 7, 3) := by decide +kernel
theorem dX11_count_128 : decode cX11_count 128 = .ok (.bipush 12, 2) := by decide +kernel
theorem dX11_count_130 : decode cX11_count 130 = .ok (.iaload, 1) := by decide +kernel
theorem dX11_count_131 : decode cX11_count 131 = .ok (.ireturn, 1) := by decide +kernel
theorem dX11_count_132 : decode cX11_count 132 = .ok (.aload_n 0, 1) := by decide +kernel
theorem dX11_count_133 : decode cX11_count 133 = .ok (.getfield 7, 3) := by decide +kernel
theorem dX11_count_136 : decode cX11_count 136 = .ok (.bipush 6, 2) := by decide +kernel
theorem dX11_count_138 : decode cX11_count 138 = .ok (.iaload, 1) := by decide +kernel
theorem dX11_count_139 : decode cX11_count 139 = .ok (.ireturn, 1) := by decide +kernel
theorem dX11_count_140 : decode cX11_count 140 = .ok (.aload_n 0, 1) := by decide +kernel
theorem dX11_count_141 : decode cX11_count 141 = .ok (.aload_n 0, 1) := by decide +kernel
theorem dX11_count_142 : decode cX11_count 142 = .ok (.getfield 7, 3) := by decide +kernel
theorem dX11_count_145 : decode cX11_count 145 = .ok (.bipush 6, 2) := by decide +kernel
theorem dX11_count_147 : decode cX11_count 147 = .ok (.iaload, 1) := by decide +kernel
theorem dX11_count_148 : decode cX11_count 148 = .ok (.invokevirtual 96, 3) := by decide +kernel
theorem dX11_count_151 : decode cX11_count 151 = .ok (.ireturn, 1) := by decide +kernel
theorem dX11_count_152 : decode cX11_count 152 = .ok (.aload_n 0, 1) := by decide +kernel
theorem dX11_count_153 : decode cX11_count 153 = .ok (.getfield 7, 3) := by decide +kernel
theorem dX11_count_156 : decode cX11_count 156 = .ok (.bipush 7, 2) := by decide +kernel
theorem dX11_count_158 : decode cX11_count 158 = .ok (.iload_n 1, 1) := by decide +kernel
theorem dX11_count_159 : decode cX11_count 159 = .ok (.iadd, 1) := by decide +kernel
theorem dX11_count_160 : decode cX11_count 160 = .ok (.iconst 5, 1) := by decide +kernel
theorem dX11_count_161 : decode cX11_count 161 = .ok (.isub, 1) := by decide +kernel
theorem dX11_count_162 : decode cX11_count 162 = .ok (.iaload, 1) := by decide +kernel
theorem dX11_count_163 : decode cX11_count 163 = .ok (.ireturn, 1) := by decide +kernel
theorem dX11_count_164 : decode cX11_count 164 = .ok (.aload_n 0, 1) := by decide +kernel
theorem dX11_count_165 : decode cX11_count 165 = .ok (.iload_n 1, 1) := by decide +kernel
theorem dX11_count_166 : decode cX11_count 166 = .ok (.bipush 10, 2) := by decide +kernel
theorem dX11_count_168 : decode cX11_count 168 = .ok (.isub, 1) := by decide +kernel
theorem dX11_count_169 : decode cX11_count 169 = .ok (.invokevirtual 194, 3) := by decide +kernel
theorem dX11_count_172 : decode cX11_count 172 = .ok (.ireturn, 1) := by decide +kernel
theorem dX11_count_173 : decode cX11_count 173 = .ok (.aload_n 0, 1) := by decide +kernel
theorem dX11_count_174 : decode cX11_count 174 = .ok (.getfield 7, 3) := by decide +kernel
theorem dX11_count_177 : decode cX11_count 177 = .ok (.bipush 45, 2) := by decide +kernel
theorem dX11_count_179 : decode cX11_count 179 = .ok (.iaload, 1) := by decide +kernel
theorem dX11_count_180 : decode cX11_count 180 = .ok (.ireturn, 1) := by decide +kernel
theorem dX11_count_181 : decode cX11_count 181 = .ok (.aload_n 0, 1) := by decide +kernel
theorem dX11_count_182 : decode cX11_count 182 = .ok (.getfield 32, 3) := by decide +kernel
theorem dX11_count_185 : decode cX11_count 185 = .ok (.ireturn, 1) := by decide +kernel
theorem dX11_count_186 : decode cX11_count 186 = .ok (.aload_n 0, 1) := by decide +kernel
theorem dX11_count_187 : decode cX11_count 187 = .ok (.getfield 143, 3) := by decide +kernel
theorem dX11_count_190 : decode cX11_count 190 = .ok (.ireturn, 1) := by decide +kernel
theorem dX11_count_191 : decode cX11_count 191 = .ok (.aload_n 0, 1) := by decide +kernel
theorem dX11_count_192 : decode cX11_count 192 = .ok (.getfield 7, 3) := by decide +kernel
theorem dX11_count_195 : decode cX11_count 195 = .ok (.iload_n 1, 1) := by decide +kernel
theorem dX11_count_196 : decode cX11_count 196 = .ok (.bipush 17, 2) := by decide +kernel
theorem dX11_count_198 : decode cX11_count 198 = .ok (.isub, 1) := by decide +kernel
theorem dX11_count_199 : decode cX11_count 199 = .ok (.iaload, 1) := by decide +kernel
theorem dX11_count_200 : decode cX11_count 200 = .ok (.ireturn, 1) := by decide +kernel
theorem dX11_count_201 : decode cX11_count 201 = .ok (.bipush (-2), 2) := by decide +kernel
theorem dX11_count_203 : decode cX11_count 203 = .ok (.ireturn, 1) := by decide +kernel
set_option maxRecDepth 20000 in
theorem dX11_right_0 : decode cX11_right 0 = .ok (.aload_n 0, 1) := by decide +kernel
theorem dX11_right_1 : decode cX11_right 1 = .ok (.bipush (-5), 2) := by decide +kernel
theorem dX11_right_3 : decode cX11_right 3 = .ok (.invokevirtual 77, 3) := by decide +kernel
theorem dX11_right_6 : decode cX11_right 6 = .ok (.iconst 0, 1) := by decide +kernel
theorem dX11_right_7 : decode cX11_right 7 = .ok (.istore_n 1, 1) := by decide +kernel
theorem dX11_right_8 : decode cX11_right 8 = .ok (.iconst 0, 1) := by decide +kernel
theorem dX11_right_9 : decode cX11_right 9 = .ok (.istore_n 2, 1) := by decide +kernel
theorem dX11_right_10 : decode cX11_right 10 = .ok (.iconst 0, 1) := by decide +kernel
theorem dX11_right_11 : decode cX11_right 11 = .ok (.istore_n 3, 1) := by decide +kernel
theorem dX11_right_12 : decode cX11_right 12 = .ok (.iload_n 3, 1) := by decide +kernel
theorem dX11_right_13 : decode cX11_right 13 = .ok (.aload_n 0, 1) := by decide +kernel
theorem dX11_right_14 : decode cX11_right 14 = .ok (.invokevirtual 40, 3) := by decide +kernel
theorem dX11_right_17 : decode cX11_right 17 = .ok (.if_icmp .ge 104, 3) := by decide +kernel
theorem dX11_right_20 : decode cX11_right 20 = .ok (.aload_n 0, 1) := by decide +kernel
theorem dX11_right_21 : decode cX11_right 21 = .ok (.iload_n 3, 1) := by decide +kernel
theorem dX11_right_22 : decode cX11_right 22 = .ok (.invokevirtual 90, 3) := by decide +kernel
theorem dX11_right_25 : decode cX11_right 25 = .ok (.iconst 3, 1) := by decide +kernel
theorem dX11_right_26 : decode cX11_right 26 = .ok (.if_icmp .ge 7, 3) := by decide +kernel
theorem dX11_right_29 : decode cX11_right 29 = .ok (.iconst 1, 1) := by decide +kernel
theorem dX11_right_30 : decode cX11_right 30 = .ok (.goto 4, 3) := by decide +kernel
theorem dX11_right_33 : decode cX11_right 33 = .ok (.iconst 0, 1) := by decide +kernel
theorem dX11_right_34 : decode cX11_right 34 = .ok (.istore 4, 2) := by decide +kernel
theorem dX11_right_36 : decode cX11_right 36 = .ok (.iconst 0, 1) := by decide +kernel
theorem dX11_right_37 : decode cX11_right 37 = .ok (.istore 5, 2) := by decide +kernel
theorem dX11_right_39 : decode cX11_right 39 = .ok (.iload 5, 2) := by decide +kernel
theorem dX11_right_41 : decode cX11_right 41 = .ok (.iconst 4, 1) := by decide +kernel
theorem dX11_right_42 : decode cX11_right 42 = .ok (.if_icmp .ge 38, 3) := by decide +kernel
theorem dX11_right_45 : decode cX11_right 45 = .ok (.iload 4, 2) := by decide +kernel
theorem dX11_right_47 : decode cX11_right 47 = .ok (.ifCond .eq 33, 3) := by decide +kernel
theorem dX11_right_50 : decode cX11_right 50 = .ok (.aload_n 0, 1) := by decide +kernel
theorem dX11_right_51 : decode cX11_right 51 = .ok (.iload_n 3, 1) := by decide +kernel
theorem dX11_right_52 : decode cX11_right 52 = .ok (.iload 5, 2) := by decide +kernel
theorem dX11_right_54 : decode cX11_right 54 = .ok (.invokevirtual 191, 3) := by decide +kernel
theorem dX11_right_57 : decode cX11_right 57 = .ok (.aload_n 0, 1) := by decide +kernel
theorem dX11_right_58 : decode cX11_right 58 = .ok (.iload_n 3, 1) := by decide +kernel
theorem dX11_right_59 : decode cX11_right 59 = .ok (.iload 5, 2) := by decide +kernel
theorem dX11_right_61 : decode cX11_right 61 = .ok (.invokevirtual 62, 3) := by decide +kernel
theorem dX11_right_64 : decode cX11_right 64 = .ok (.if_icmp .ne 7, 3) := by decide +kernel
theorem dX11_right_67 : decode cX11_right 67 = .ok (.iconst 1, 1) := by decide +kernel
theorem dX11_right_68 : decode cX11_right 68 = .ok (.goto 4, 3) := by decide +kernel
theorem dX11_right_71 : decode cX11_right 71 = .ok (.iconst 0, 1) := by decide +kernel
theorem dX11_right_72 : decode cX11_right 72 = .ok (.istore 4, 2) := by decide +kernel
theorem dX11_right_74 : decode cX11_right 74 = .ok (.iinc 5 1, 3) := by decide +kernel
theorem dX11_right_77 : decode cX11_right 77 = .ok (.goto (-38), 3) := by decide +kernel
theorem dX11_right_80 : decode cX11_right 80 = .ok (.iload_n 1, 1) := by decide +kernel
theorem dX11_right_81 : decode cX11_right 81 = .ok (.iload_n 3, 1) := by decide +kernel
theorem dX11_right_82 : decode cX11_right 82 = .ok (.invokestatic 55, 3) := by decide +kernel
theorem dX11_right_85 : decode cX11_right 85 = .ok (.ifCond .eq 7, 3) := by decide +kernel
theorem dX11_right_88 : decode cX11_right 88 = .ok (.iconst 0, 1) := by decide +kernel
theorem dX11_right_89 : decode cX11_right 89 = .ok (.goto 4, 3) := by decide +kernel
theorem dX11_right_92 : decode cX11_right 92 = .ok (.iconst 1, 1) := by decide +kernel
theorem dX11_right_93 : decode cX11_right 93 = .ok (.iadd, 1) := by decide +kernel
theorem dX11_right_94 : decode cX11_right 94 = .ok (.istore_n 1, 1) := by decide +kernel
theorem dX11_right_95 : decode cX11_right 95 = .ok (.iload_n 2, 1) := by decide +kernel
theorem dX11_right_96 : decode cX11_right 96 = .ok (.iload 4, 2) := by decide +kernel
theorem dX11_right_98 : decode cX11_right 98 = .ok (.ifCond .eq 14, 3) := by decide +kernel
theorem dX11_right_101 : decode cX11_right 101 = .ok (.iload_n 3, 1) := by decide +kernel
theorem dX11_right_102 : decode cX11_right 102 = .ok (.invokestatic 55, 3) := by decide +kernel
theorem dX11_right_105 : decode cX11_right 105 = .ok (.ifCond .ne 7, 3) := by decide +kernel
theorem dX11_right_108 : decode cX11_right 108 = .ok (.iconst 1, 1) := by decide +kernel
theorem dX11_right_109 : decode cX11_right 109 = .ok (.goto 4, 3) := by decide +kernel
theorem dX11_right_112 : decode cX11_right 112 = .ok (.iconst 0, 1) := by decide +kernel
theorem dX11_right_113 : decode cX11_right 113 = .ok (.iadd, 1) := by decide +kernel
theorem dX11_right_114 : decode cX11_right 114 = .ok (.istore_n 2, 1) := by decide +kernel
theorem dX11_right_115 : decode cX11_right 115 = .ok (.iinc 3 1, 3) := by decide +kernel
theorem dX11_right_118 : decode cX11_right 118 = .ok (.goto (-106), 3) := by decide +kernel
theorem dX11_right_121 : decode cX11_right 121 = .ok (.iload_n 2, 1) := by decide +kernel
theorem dX11_right_122 : decode cX11_right 122 = .ok (.i2d, 1) := by decide +kernel
theorem dX11_right_123 : decode cX11_right 123 = .ok (.iload_n 1, 1) := by decide +kernel
theorem dX11_right_124 : decode cX11_right 124 = .ok (.i2d, 1) := by decide +kernel
theorem dX11_right_125 : decode cX11_right 125 = .ok (.ddiv, 1) := by decide +kernel
theorem dX11_right_126 : decode cX11_right 126 = .ok (.dreturn, 1) := by decide +kernel
set_option maxRecDepth 20000 in
theorem dX11_ifSought_0 : decode cX11_ifSought 0 = .ok (.aload_n 0, 1) := by decide +kernel
theorem dX11_ifSought_1 : decode cX11_ifSought 1 = .ok (.iload_n 1, 1) := by decide +kernel
theorem dX11_ifSought_2 : decode cX11_ifSought 2 = .ok (.invokevirtual 102, 3) := by decide +kernel
theorem dX11_ifSought_5 : decode cX11_ifSought 5 = .ok (.ifCond .ne 5, 3) := by decide +kernel
theorem dX11_ifSought_8 : decode cX11_ifSought 8 = .ok (.iconst (-1), 1) := by decide +kernel
theorem dX11_ifSought_9 : decode cX11_ifSought 9 = .ok (.ireturn, 1) := by decide +kernel
theorem dX11_ifSought_10 : decode cX11_ifSought 10 = .ok (.iload_n 2, 1) := by decide +kernel
theorem dX11_ifSought_11 : decode cX11_ifSought 11 = .ok (.iconst 0, 1) := by decide +kernel
theorem dX11_ifSought_12 : decode cX11_ifSought 12 = .ok (.iconst 1, 1) := by decide +kernel
theorem dX11_ifSought_13 : decode cX11_ifSought 13 = .ok (.invokestatic 44, 3) := by decide +kernel
theorem dX11_ifSought_16 : decode cX11_ifSought 16 = .ok (.ifCond .ne 6, 3) := by decide +kernel
theorem dX11_ifSought_19 : decode cX11_ifSought 19 = .ok (.bipush (-2), 2) := by decide +kernel
theorem dX11_ifSought_21 : decode cX11_ifSought 21 = .ok (.ireturn, 1) := by decide +kernel
theorem dX11_ifSought_22 : decode cX11_ifSought 22 = .ok (.aload_n 0, 1) := by decide +kernel
theorem dX11_ifSought_23 : decode cX11_ifSought 23 = .ok (.invokevirtual 111, 3) := by decide +kernel
theorem dX11_ifSought_26 : decode cX11_ifSought 26 = .ok (.aload_n 0, 1) := by decide +kernel
theorem dX11_ifSought_27 : decode cX11_ifSought 27 = .ok (.iload_n 1, 1) := by decide +kernel
theorem dX11_ifSought_28 : decode cX11_ifSought 28 = .ok (.invokevirtual 140, 3) := by decide +kernel
theorem dX11_ifSought_31 : decode cX11_ifSought 31 = .ok (.istore_n 3, 1) := by decide +kernel
theorem dX11_ifSought_32 : decode cX11_ifSought 32 = .ok (.aload_n 0, 1) := by decide +kernel
theorem dX11_ifSought_33 : decode cX11_ifSought 33 = .ok (.getfield 7, 3) := by decide +kernel
theorem dX11_ifSought_36 : decode cX11_ifSought 36 = .ok (.bipush 11, 2) := by decide +kernel
theorem dX11_ifSought_38 : decode cX11_ifSought 38 = .ok (.iaload, 1) := by decide +kernel
theorem dX11_ifSought_39 : decode cX11_ifSought 39 = .ok (.aload_n 0, 1) := by decide +kernel
theorem dX11_ifSought_40 : decode cX11_ifSought 40 = .ok (.getfield 13, 3) := by decide +kernel
theorem dX11_ifSought_43 : decode cX11_ifSought 43 = .ok (.bipush 11, 2) := by decide +kernel
theorem dX11_ifSought_45 : decode cX11_ifSought 45 = .ok (.iaload, 1) := by decide +kernel
theorem dX11_ifSought_46 : decode cX11_ifSought 46 = .ok (.isub, 1) := by decide +kernel
theorem dX11_ifSought_47 : decode cX11_ifSought 47 = .ok (.istore 4, 2) := by decide +kernel
theorem dX11_ifSought_49 : decode cX11_ifSought 49 = .ok (.aload_n 0, 1) := by decide +kernel
theorem dX11_ifSought_50 : decode cX11_ifSought 50 = .ok (.invokevirtual 29, 3) := by decide +kernel
theorem dX11_ifSought_53 : decode cX11_ifSought 53 = .ok (.iload_n 2, 1) := by decide +kernel
theorem dX11_ifSought_54 : decode cX11_ifSought 54 = .ok (.ifCond .ne 7, 3) := by decide +kernel
theorem dX11_ifSought_57 : decode cX11_ifSought 57 = .ok (.iload_n 3, 1) := by decide +kernel
theorem dX11_ifSought_58 : decode cX11_ifSought 58 = .ok (.goto 5, 3) := by decide +kernel
theorem dX11_ifSought_61 : decode cX11_ifSought 61 = .ok (.iload 4, 2) := by decide +kernel
theorem dX11_ifSought_63 : decode cX11_ifSought 63 = .ok (.ireturn, 1) := by decide +kernel
set_option maxRecDepth 20000 in
theorem dX11_bestGuess_0 : decode cX11_bestGuess 0 = .ok (.aload_n 0, 1) := by decide +kernel
theorem dX11_bestGuess_1 : decode cX11_bestGuess 1 = .ok (.iload_n 1, 1) := by decide +kernel
theorem dX11_bestGuess_2 : decode cX11_bestGuess 2 = .ok (.invokevirtual 102, 3) := by decide +kernel
theorem dX11_bestGuess_5 : decode cX11_bestGuess 5 = .ok (.ifCond .ne 5, 3) := by decide +kernel
theorem dX11_bestGuess_8 : decode cX11_bestGuess 8 = .ok (.iconst (-1), 1) := by decide +kernel
theorem dX11_bestGuess_9 : decode cX11_bestGuess 9 = .ok (.ireturn, 1) := by decide +kernel
theorem dX11_bestGuess_10 : decode cX11_bestGuess 10 = .ok (.aload_n 0, 1) := by decide +kernel
theorem dX11_bestGuess_11 : decode cX11_bestGuess 11 = .ok (.invokevirtual 111, 3) := by decide +kernel
theorem dX11_bestGuess_14 : decode cX11_bestGuess 14 = .ok (.bipush (-5), 2) := by decide +kernel
theorem dX11_bestGuess_16 : decode cX11_bestGuess 16 = .ok (.istore_n 2, 1) := by decide +kernel
theorem dX11_bestGuess_17 : decode cX11_bestGuess 17 = .ok (.iconst 0, 1) := by decide +kernel
theorem dX11_bestGuess_18 : decode cX11_bestGuess 18 = .ok (.istore_n 3, 1) := by decide +kernel
theorem dX11_bestGuess_19 : decode cX11_bestGuess 19 = .ok (.bipush 60, 2) := by decide +kernel
theorem dX11_bestGuess_21 : decode cX11_bestGuess 21 = .ok (.istore 4, 2) := by decide +kernel
theorem dX11_bestGuess_23 : decode cX11_bestGuess 23 = .ok (.iload 4, 2) := by decide +kernel
theorem dX11_bestGuess_25 : decode cX11_bestGuess 25 = .ok (.sipush 140, 3) := by decide +kernel
theorem dX11_bestGuess_28 : decode cX11_bestGuess 28 = .ok (.if_icmp .gt 60, 3) := by decide +kernel
theorem dX11_bestGuess_31 : decode cX11_bestGuess 31 = .ok (.aload_n 0, 1) := by decide +kernel
theorem dX11_bestGuess_32 : decode cX11_bestGuess 32 = .ok (.getfield 7, 3) := by decide +kernel
theorem dX11_bestGuess_35 : decode cX11_bestGuess 35 = .ok (.iconst 4, 1) := by decide +kernel
theorem dX11_bestGuess_36 : decode cX11_bestGuess 36 = .ok (.iload 4, 2) := by decide +kernel
theorem dX11_bestGuess_38 : decode cX11_bestGuess 38 = .ok (.iastore, 1) := by decide +kernel
theorem dX11_bestGuess_39 : decode cX11_bestGuess 39 = .ok (.aload_n 0, 1) := by decide +kernel
theorem dX11_bestGuess_40 : decode cX11_bestGuess 40 = .ok (.iload_n 1, 1) := by decide +kernel
theorem dX11_bestGuess_41 : decode cX11_bestGuess 41 = .ok (.invokevirtual 140, 3) := by decide +kernel
theorem dX11_bestGuess_44 : decode cX11_bestGuess 44 = .ok (.istore 5, 2) := by decide +kernel
theorem dX11_bestGuess_46 : decode cX11_bestGuess 46 = .ok (.iload_n 2, 1) := by decide +kernel
theorem dX11_bestGuess_47 : decode cX11_bestGuess 47 = .ok (.bipush (-5), 2) := by decide +kernel
theorem dX11_bestGuess_49 : decode cX11_bestGuess 49 = .ok (.if_icmp .eq 9, 3) := by decide +kernel
theorem dX11_bestGuess_52 : decode cX11_bestGuess 52 = .ok (.iload 5, 2) := by decide +kernel
theorem dX11_bestGuess_54 : decode cX11_bestGuess 54 = .ok (.iload_n 3, 1) := by decide +kernel
theorem dX11_bestGuess_55 : decode cX11_bestGuess 55 = .ok (.if_icmp .ge 8, 3) := by decide +kernel
theorem dX11_bestGuess_58 : decode cX11_bestGuess 58 = .ok (.iload 4, 2) := by decide +kernel
theorem dX11_bestGuess_60 : decode cX11_bestGuess 60 = .ok (.goto 4, 3) := by decide +kernel
theorem dX11_bestGuess_63 : decode cX11_bestGuess 63 = .ok (.iload_n 2, 1) := by decide +kernel
theorem dX11_bestGuess_64 : decode cX11_bestGuess 64 = .ok (.istore_n 2, 1) := by decide +kernel
theorem dX11_bestGuess_65 : decode cX11_bestGuess 65 = .ok (.iload_n 2, 1) := by decide +kernel
theorem dX11_bestGuess_66 : decode cX11_bestGuess 66 = .ok (.iload 4, 2) := by decide +kernel
theorem dX11_bestGuess_68 : decode cX11_bestGuess 68 = .ok (.if_icmp .ne 8, 3) := by decide +kernel
theorem dX11_bestGuess_71 : decode cX11_bestGuess 71 = .ok (.iload 5, 2) := by decide +kernel
theorem dX11_bestGuess_73 : decode cX11_bestGuess 73 = .ok (.goto 4, 3) := by decide +kernel
theorem dX11_bestGuess_76 : decode cX11_bestGuess 76 = .ok (.iload_n 3, 1) := by decide +kernel
theorem dX11_bestGuess_77 : decode cX11_bestGuess 77 = .ok (.istore_n 3, 1) := by decide +kernel
theorem dX11_bestGuess_78 : decode cX11_bestGuess 78 = .ok (.aload_n 0, 1) := by decide +kernel
theorem dX11_bestGuess_79 : decode cX11_bestGuess 79 = .ok (.invokevirtual 29, 3) := by decide +kernel
theorem dX11_bestGuess_82 : decode cX11_bestGuess 82 = .ok (.iinc 4 1, 3) := by decide +kernel
theorem dX11_bestGuess_85 : decode cX11_bestGuess 85 = .ok (.goto (-62), 3) := by decide +kernel
theorem dX11_bestGuess_88 : decode cX11_bestGuess 88 = .ok (.iload_n 2, 1) := by decide +kernel
theorem dX11_bestGuess_89 : decode cX11_bestGuess 89 = .ok (.ireturn, 1) := by decide +kernel
set_option maxRecDepth 20000 in
theorem dX11_polishFirst_0 : decode cX11_polishFirst 0 = .ok (.iload_n 1, 1) := by decide +kernel
theorem dX11_polishFirst_1 : decode cX11_polishFirst 1 = .ok (.iconst 0, 1) := by decide +kernel
theorem dX11_polishFirst_2 : decode cX11_polishFirst 2 = .ok (.iconst 1, 1) := by decide +kernel
theorem dX11_polishFirst_3 : decode cX11_polishFirst 3 = .ok (.invokestatic 44, 3) := by decide +kernel
theorem dX11_polishFirst_6 : decode cX11_polishFirst 6 = .ok (.ifCond .ne 6, 3) := by decide +kernel
theorem dX11_polishFirst_9 : decode cX11_polishFirst 9 = .ok (.bipush (-2), 2) := by decide +kernel
theorem dX11_polishFirst_11 : decode cX11_polishFirst 11 = .ok (.ireturn, 1) := by decide +kernel
theorem dX11_polishFirst_12 : decode cX11_polishFirst 12 = .ok (.bipush (-5), 2) := by decide +kernel
theorem dX11_polishFirst_14 : decode cX11_polishFirst 14 = .ok (.istore_n 2, 1) := by decide +kernel
theorem dX11_polishFirst_15 : decode cX11_polishFirst 15 = .ok (.iconst 0, 1) := by decide +kernel
theorem dX11_polishFirst_16 : decode cX11_polishFirst 16 = .ok (.istore_n 3, 1) := by decide +kernel
theorem dX11_polishFirst_17 : decode cX11_polishFirst 17 = .ok (.iconst 0, 1) := by decide +kernel
theorem dX11_polishFirst_18 : decode cX11_polishFirst 18 = .ok (.istore 4, 2) := by decide +kernel
theorem dX11_polishFirst_20 : decode cX11_polishFirst 20 = .ok (.iload 4, 2) := by decide +kernel
theorem dX11_polishFirst_22 : decode cX11_polishFirst 22 = .ok (.aload_n 0, 1) := by decide +kernel
theorem dX11_polishFirst_23 : decode cX11_polishFirst 23 = .ok (.getfield 7, 3) := by decide +kernel
theorem dX11_polishFirst_26 : decode cX11_polishFirst 26 = .ok (.bipush 12, 2) := by decide +kernel
theorem dX11_polishFirst_28 : decode cX11_polishFirst 28 = .ok (.iaload, 1) := by decide +kernel
theorem dX11_polishFirst_29 : decode cX11_polishFirst 29 = .ok (.if_icmp .ge 54, 3) := by decide +kernel
theorem dX11_polishFirst_32 : decode cX11_polishFirst 32 = .ok (.aload_n 0, 1) := by decide +kernel
theorem dX11_polishFirst_33 : decode cX11_polishFirst 33 = .ok (.iload 4, 2) := by decide +kernel
theorem dX11_polishFirst_35 : decode cX11_polishFirst 35 = .ok (.invokevirtual 77, 3) := by decide +kernel
theorem dX11_polishFirst_38 : decode cX11_polishFirst 38 = .ok (.aload_n 0, 1) := by decide +kernel
theorem dX11_polishFirst_39 : decode cX11_polishFirst 39 = .ok (.iconst 3, 1) := by decide +kernel
theorem dX11_polishFirst_40 : decode cX11_polishFirst 40 = .ok (.invokevirtual 194, 3) := by decide +kernel
theorem dX11_polishFirst_43 : decode cX11_polishFirst 43 = .ok (.istore 5, 2) := by decide +kernel
theorem dX11_polishFirst_45 : decode cX11_polishFirst 45 = .ok (.iload_n 2, 1) := by decide +kernel
theorem dX11_polishFirst_46 : decode cX11_polishFirst 46 = .ok (.bipush (-5), 2) := by decide +kernel
theorem dX11_polishFirst_48 : decode cX11_polishFirst 48 = .ok (.if_icmp .eq 9, 3) := by decide +kernel
theorem dX11_polishFirst_51 : decode cX11_polishFirst 51 = .ok (.iload 5, 2) := by decide +kernel
theorem dX11_polishFirst_53 : decode cX11_polishFirst 53 = .ok (.iload_n 3, 1) := by decide +kernel
theorem dX11_polishFirst_54 : decode cX11_polishFirst 54 = .ok (.if_icmp .ge 8, 3) := by decide +kernel
theorem dX11_polishFirst_57 : decode cX11_polishFirst 57 = .ok (.iload 4, 2) := by decide +kernel
theorem dX11_polishFirst_59 : decode cX11_polishFirst 59 = .ok (.goto 4, 3) := by decide +kernel
theorem dX11_polishFirst_62 : decode cX11_polishFirst 62 = .ok (.iload_n 2, 1) := by decide +kernel
theorem dX11_polishFirst_63 : decode cX11_polishFirst 63 = .ok (.istore_n 2, 1) := by decide +kernel
theorem dX11_polishFirst_64 : decode cX11_polishFirst 64 = .ok (.iload_n 2, 1) := by decide +kernel
theorem dX11_polishFirst_65 : decode cX11_polishFirst 65 = .ok (.iload 4, 2) := by decide +kernel
theorem dX11_polishFirst_67 : decode cX11_polishFirst 67 = .ok (.if_icmp .ne 8, 3) := by decide +kernel
theorem dX11_polishFirst_70 : decode cX11_polishFirst 70 = .ok (.iload 5, 2) := by decide +kernel
theorem dX11_polishFirst_72 : decode cX11_polishFirst 72 = .ok (.goto 4, 3) := by decide +kernel
theorem dX11_polishFirst_75 : decode cX11_polishFirst 75 = .ok (.iload_n 3, 1) := by decide +kernel
theorem dX11_polishFirst_76 : decode cX11_polishFirst 76 = .ok (.istore_n 3, 1) := by decide +kernel
theorem dX11_polishFirst_77 : decode cX11_polishFirst 77 = .ok (.iinc 4 1, 3) := by decide +kernel
theorem dX11_polishFirst_80 : decode cX11_polishFirst 80 = .ok (.goto (-60), 3) := by decide +kernel
theorem dX11_polishFirst_83 : decode cX11_polishFirst 83 = .ok (.iload_n 2, 1) := by decide +kernel
theorem dX11_polishFirst_84 : decode cX11_polishFirst 84 = .ok (.bipush (-5), 2) := by decide +kernel
theorem dX11_polishFirst_86 : decode cX11_polishFirst 86 = .ok (.if_icmp .ne 8, 3) := by decide +kernel
theorem dX11_polishFirst_89 : decode cX11_polishFirst 89 = .ok (.bipush (-5), 2) := by decide +kernel
theorem dX11_polishFirst_91 : decode cX11_polishFirst 91 = .ok (.goto 12, 3) := by decide +kernel
theorem dX11_polishFirst_94 : decode cX11_polishFirst 94 = .ok (.iload_n 1, 1) := by decide +kernel
theorem dX11_polishFirst_95 : decode cX11_polishFirst 95 = .ok (.ifCond .ne 7, 3) := by decide +kernel
theorem dX11_polishFirst_98 : decode cX11_polishFirst 98 = .ok (.iload_n 2, 1) := by decide +kernel
theorem dX11_polishFirst_99 : decode cX11_polishFirst 99 = .ok (.goto 4, 3) := by decide +kernel
theorem dX11_polishFirst_102 : decode cX11_polishFirst 102 = .ok (.iload_n 3, 1) := by decide +kernel
theorem dX11_polishFirst_103 : decode cX11_polishFirst 103 = .ok (.ireturn, 1) := by decide +kernel
set_option maxRecDepth 20000 in
theorem dX11_gap_0 : decode cX11_gap 0 = .ok (.iload_n 1, 1) := by decide +kernel
theorem dX11_gap_1 : decode cX11_gap 1 = .ok (.iconst 0, 1) := by decide +kernel
theorem dX11_gap_2 : decode cX11_gap 2 = .ok (.iconst 1, 1) := by decide +kernel
theorem dX11_gap_3 : decode cX11_gap 3 = .ok (.invokestatic 44, 3) := by decide +kernel
theorem dX11_gap_6 : decode cX11_gap 6 = .ok (.ifCond .ne 6, 3) := by decide +kernel
theorem dX11_gap_9 : decode cX11_gap 9 = .ok (.bipush (-2), 2) := by decide +kernel
theorem dX11_gap_11 : decode cX11_gap 11 = .ok (.ireturn, 1) := by decide +kernel
theorem dX11_gap_12 : decode cX11_gap 12 = .ok (.aload_n 0, 1) := by decide +kernel
theorem dX11_gap_13 : decode cX11_gap 13 = .ok (.bipush (-5), 2) := by decide +kernel
theorem dX11_gap_15 : decode cX11_gap 15 = .ok (.invokevirtual 77, 3) := by decide +kernel
theorem dX11_gap_18 : decode cX11_gap 18 = .ok (.bipush (-5), 2) := by decide +kernel
theorem dX11_gap_20 : decode cX11_gap 20 = .ok (.istore_n 2, 1) := by decide +kernel
theorem dX11_gap_21 : decode cX11_gap 21 = .ok (.iconst 0, 1) := by decide +kernel
theorem dX11_gap_22 : decode cX11_gap 22 = .ok (.istore_n 3, 1) := by decide +kernel
theorem dX11_gap_23 : decode cX11_gap 23 = .ok (.iconst 0, 1) := by decide +kernel
theorem dX11_gap_24 : decode cX11_gap 24 = .ok (.istore 4, 2) := by decide +kernel
theorem dX11_gap_26 : decode cX11_gap 26 = .ok (.iconst 0, 1) := by decide +kernel
theorem dX11_gap_27 : decode cX11_gap 27 = .ok (.istore 5, 2) := by decide +kernel
theorem dX11_gap_29 : decode cX11_gap 29 = .ok (.iload 5, 2) := by decide +kernel
theorem dX11_gap_31 : decode cX11_gap 31 = .ok (.aload_n 0, 1) := by decide +kernel
theorem dX11_gap_32 : decode cX11_gap 32 = .ok (.invokevirtual 40, 3) := by decide +kernel
theorem dX11_gap_35 : decode cX11_gap 35 = .ok (.if_icmp .ge 60, 3) := by decide +kernel
theorem dX11_gap_38 : decode cX11_gap 38 = .ok (.aload_n 0, 1) := by decide +kernel
theorem dX11_gap_39 : decode cX11_gap 39 = .ok (.iload 5, 2) := by decide +kernel
theorem dX11_gap_41 : decode cX11_gap 41 = .ok (.invokevirtual 90, 3) := by decide +kernel
theorem dX11_gap_44 : decode cX11_gap 44 = .ok (.iconst 3, 1) := by decide +kernel
theorem dX11_gap_45 : decode cX11_gap 45 = .ok (.if_icmp .ne 10, 3) := by decide +kernel
theorem dX11_gap_48 : decode cX11_gap 48 = .ok (.iload 4, 2) := by decide +kernel
theorem dX11_gap_50 : decode cX11_gap 50 = .ok (.iconst 1, 1) := by decide +kernel
theorem dX11_gap_51 : decode cX11_gap 51 = .ok (.iadd, 1) := by decide +kernel
theorem dX11_gap_52 : decode cX11_gap 52 = .ok (.goto 4, 3) := by decide +kernel
theorem dX11_gap_55 : decode cX11_gap 55 = .ok (.iconst 0, 1) := by decide +kernel
theorem dX11_gap_56 : decode cX11_gap 56 = .ok (.istore 4, 2) := by decide +kernel
theorem dX11_gap_58 : decode cX11_gap 58 = .ok (.iload 4, 2) := by decide +kernel
theorem dX11_gap_60 : decode cX11_gap 60 = .ok (.iload_n 3, 1) := by decide +kernel
theorem dX11_gap_61 : decode cX11_gap 61 = .ok (.if_icmp .le 13, 3) := by decide +kernel
theorem dX11_gap_64 : decode cX11_gap 64 = .ok (.iload 5, 2) := by decide +kernel
theorem dX11_gap_66 : decode cX11_gap 66 = .ok (.iload 4, 2) := by decide +kernel
theorem dX11_gap_68 : decode cX11_gap 68 = .ok (.isub, 1) := by decide +kernel
theorem dX11_gap_69 : decode cX11_gap 69 = .ok (.iconst 1, 1) := by decide +kernel
theorem dX11_gap_70 : decode cX11_gap 70 = .ok (.iadd, 1) := by decide +kernel
theorem dX11_gap_71 : decode cX11_gap 71 = .ok (.goto 4, 3) := by decide +kernel
theorem dX11_gap_74 : decode cX11_gap 74 = .ok (.iload_n 2, 1) := by decide +kernel
theorem dX11_gap_75 : decode cX11_gap 75 = .ok (.istore_n 2, 1) := by decide +kernel
theorem dX11_gap_76 : decode cX11_gap 76 = .ok (.iload 4, 2) := by decide +kernel
theorem dX11_gap_78 : decode cX11_gap 78 = .ok (.iload_n 3, 1) := by decide +kernel
theorem dX11_gap_79 : decode cX11_gap 79 = .ok (.if_icmp .le 8, 3) := by decide +kernel
theorem dX11_gap_82 : decode cX11_gap 82 = .ok (.iload 4, 2) := by decide +kernel
theorem dX11_gap_84 : decode cX11_gap 84 = .ok (.goto 4, 3) := by decide +kernel
theorem dX11_gap_87 : decode cX11_gap 87 = .ok (.iload_n 3, 1) := by decide +kernel
theorem dX11_gap_88 : decode cX11_gap 88 = .ok (.istore_n 3, 1) := by decide +kernel
theorem dX11_gap_89 : decode cX11_gap 89 = .ok (.iinc 5 1, 3) := by decide +kernel
theorem dX11_gap_92 : decode cX11_gap 92 = .ok (.goto (-63), 3) := by decide +kernel
theorem dX11_gap_95 : decode cX11_gap 95 = .ok (.iload_n 3, 1) := by decide +kernel
theorem dX11_gap_96 : decode cX11_gap 96 = .ok (.ifCond .ne 8, 3) := by decide +kernel
theorem dX11_gap_99 : decode cX11_gap 99 = .ok (.bipush (-5), 2) := by decide +kernel
theorem dX11_gap_101 : decode cX11_gap 101 = .ok (.goto 12, 3) := by decide +kernel
theorem dX11_gap_104 : decode cX11_gap 104 = .ok (.iload_n 1, 1) := by decide +kernel
theorem dX11_gap_105 : decode cX11_gap 105 = .ok (.ifCond .ne 7, 3) := by decide +kernel
theorem dX11_gap_108 : decode cX11_gap 108 = .ok (.iload_n 2, 1) := by decide +kernel
theorem dX11_gap_109 : decode cX11_gap 109 = .ok (.goto 4, 3) := by decide +kernel
theorem dX11_gap_112 : decode cX11_gap 112 = .ok (.iload_n 3, 1) := by decide +kernel
theorem dX11_gap_113 : decode cX11_gap 113 = .ok (.ireturn, 1) := by decide +kernel
theorem dJx29ce0_ordinal_8abf5_0 : decode cJx29ce0_ordinal_8abf5 0 = .ok (.aload_n 0, 1) := by decide +kernel
theorem dJx29ce0_ordinal_8abf5_1 : decode cJx29ce0_ordinal_8abf5 1 = .ok (.getfield 7, 3) := by decide +kernel
theorem dJx29ce0_ordinal_8abf5_4 : decode cJx29ce0_ordinal_8abf5 4 = .ok (.ireturn, 1) := by decide +kernel
theorem dJ9_abs_0f7a4_0 : decode cJ9_abs_0f7a4 0 = .ok (.iload_n 0, 1) := by decide +kernel
theorem dJ9_abs_0f7a4_1 : decode cJ9_abs_0f7a4 1 = .ok (.ifCond .ge 8, 3) := by decide +kernel
theorem dJ9_abs_0f7a4_4 : decode cJ9_abs_0f7a4 4 = .ok (.iload_n 0, 1) := by decide +kernel
theorem dJ9_abs_0f7a4_5 : decode cJ9_abs_0f7a4 5 = .ok (.ineg, 1) := by decide +kernel
theorem dJ9_abs_0f7a4_6 : decode cJ9_abs_0f7a4 6 = .ok (.goto 4, 3) := by decide +kernel
theorem dJ9_abs_0f7a4_9 : decode cJ9_abs_0f7a4 9 = .ok (.iload_n 0, 1) := by decide +kernel
theorem dJ9_abs_0f7a4_10 : decode cJ9_abs_0f7a4 10 = .ok (.ireturn, 1) := by decide +kernel
theorem dJ9_max_7cf53_0 : decode cJ9_max_7cf53 0 = .ok (.iload_n 0, 1) := by decide +kernel
theorem dJ9_max_7cf53_1 : decode cJ9_max_7cf53 1 = .ok (.iload_n 1, 1) := by decide +kernel
theorem dJ9_max_7cf53_2 : decode cJ9_max_7cf53 2 = .ok (.if_icmp .lt 7, 3) := by decide +kernel
theorem dJ9_max_7cf53_5 : decode cJ9_max_7cf53 5 = .ok (.iload_n 0, 1) := by decide +kernel
theorem dJ9_max_7cf53_6 : decode cJ9_max_7cf53 6 = .ok (.goto 4, 3) := by decide +kernel
theorem dJ9_max_7cf53_9 : decode cJ9_max_7cf53 9 = .ok (.iload_n 1, 1) := by decide +kernel
theorem dJ9_max_7cf53_10 : decode cJ9_max_7cf53 10 = .ok (.ireturn, 1) := by decide +kernel
theorem dJ9_min_7cf53_0 : decode cJ9_min_7cf53 0 = .ok (.iload_n 0, 1) := by decide +kernel
theorem dJ9_min_7cf53_1 : decode cJ9_min_7cf53 1 = .ok (.iload_n 1, 1) := by decide +kernel
theorem dJ9_min_7cf53_2 : decode cJ9_min_7cf53 2 = .ok (.if_icmp .gt 7, 3) := by decide +kernel
theorem dJ9_min_7cf53_5 : decode cJ9_min_7cf53 5 = .ok (.iload_n 0, 1) := by decide +kernel
theorem dJ9_min_7cf53_6 : decode cJ9_min_7cf53 6 = .ok (.goto 4, 3) := by decide +kernel
theorem dJ9_min_7cf53_9 : decode cJ9_min_7cf53 9 = .ok (.iload_n 1, 1) := by decide +kernel
theorem dJ9_min_7cf53_10 : decode cJ9_min_7cf53 10 = .ok (.ireturn, 1) := by decide +kernel
set_option maxRecDepth 20000 in
theorem dJ0_length_8abf5_0 : decode cJ0_length_8abf5 0 = .ok (.aload_n 0, 1) := by decide +kernel
theorem dJ0_length_8abf5_1 : decode cJ0_length_8abf5 1 = .ok (.getfield 9, 3) := by decide +kernel
theorem dJ0_length_8abf5_4 : decode cJ0_length_8abf5 4 = .ok (.arraylength, 1) := by decide +kernel
theorem dJ0_length_8abf5_5 : decode cJ0_length_8abf5 5 = .ok (.aload_n 0, 1) := by decide +kernel
theorem dJ0_length_8abf5_6 : decode cJ0_length_8abf5 6 = .ok (.invokevirtual 335, 3) := by decide +kernel
theorem dJ0_length_8abf5_9 : decode cJ0_length_8abf5 9 = .ok (.ishr, 1) := by decide +kernel
theorem dJ0_length_8abf5_10 : decode cJ0_length_8abf5 10 = .ok (.ireturn, 1) := by decide +kernel
set_option maxRecDepth 20000 in
theorem dJ0_charAt_5068e_0 : decode cJ0_charAt_5068e 0 = .ok (.aload_n 0, 1) := by decide +kernel
theorem dJ0_charAt_5068e_1 : decode cJ0_charAt_5068e 1 = .ok (.invokevirtual 492, 3) := by decide +kernel
theorem dJ0_charAt_5068e_4 : decode cJ0_charAt_5068e 4 = .ok (.ifCond .eq 12, 3) := by decide +kernel
theorem dJ0_charAt_5068e_7 : decode cJ0_charAt_5068e 7 = .ok (.aload_n 0, 1) := by decide +kernel
theorem dJ0_charAt_5068e_8 : decode cJ0_charAt_5068e 8 = .ok (.getfield 9, 3) := by decide +kernel
theorem dJ0_charAt_5068e_11 : decode cJ0_charAt_5068e 11 = .ok (.iload_n 1, 1) := by decide +kernel
theorem dJ0_charAt_5068e_12 : decode cJ0_charAt_5068e 12 = .ok (.invokestatic 495, 3) := by decide +kernel
theorem dJ0_charAt_5068e_15 : decode cJ0_charAt_5068e 15 = .ok (.ireturn, 1) := by decide +kernel
theorem dJ0_charAt_5068e_16 : decode cJ0_charAt_5068e 16 = .ok (.aload_n 0, 1) := by decide +kernel
theorem dJ0_charAt_5068e_17 : decode cJ0_charAt_5068e 17 = .ok (.getfield 9, 3) := by decide +kernel
theorem dJ0_charAt_5068e_20 : decode cJ0_charAt_5068e 20 = .ok (.iload_n 1, 1) := by decide +kernel
theorem dJ0_charAt_5068e_21 : decode cJ0_charAt_5068e 21 = .ok (.invokestatic 498, 3) := by decide +kernel
theorem dJ0_charAt_5068e_24 : decode cJ0_charAt_5068e 24 = .ok (.ireturn, 1) := by decide +kernel
theorem dJ0_coder_7d493_0 : decode cJ0_coder_7d493 0 = .ok (.getstatic 38, 3) := by decide +kernel
theorem dJ0_coder_7d493_3 : decode cJ0_coder_7d493 3 = .ok (.ifCond .eq 10, 3) := by decide +kernel
theorem dJ0_coder_7d493_6 : decode cJ0_coder_7d493 6 = .ok (.aload_n 0, 1) := by decide +kernel
theorem dJ0_coder_7d493_7 : decode cJ0_coder_7d493 7 = .ok (.getfield 15, 3) := by decide +kernel
theorem dJ0_coder_7d493_10 : decode cJ0_coder_7d493 10 = .ok (.goto 4, 3) := by decide +kernel
theorem dJ0_coder_7d493_13 : decode cJ0_coder_7d493 13 = .ok (.iconst 1, 1) := by decide +kernel
theorem dJ0_coder_7d493_14 : decode cJ0_coder_7d493 14 = .ok (.ireturn, 1) := by decide +kernel
theorem dJ0_isLatin1_aae02_0 : decode cJ0_isLatin1_aae02 0 = .ok (.getstatic 38, 3) := by decide +kernel
theorem dJ0_isLatin1_aae02_3 : decode cJ0_isLatin1_aae02 3 = .ok (.ifCond .eq 14, 3) := by decide +kernel
theorem dJ0_isLatin1_aae02_6 : decode cJ0_isLatin1_aae02 6 = .ok (.aload_n 0, 1) := by decide +kernel
theorem dJ0_isLatin1_aae02_7 : decode cJ0_isLatin1_aae02 7 = .ok (.getfield 15, 3) := by decide +kernel
theorem dJ0_isLatin1_aae02_10 : decode cJ0_isLatin1_aae02 10 = .ok (.ifCond .ne 7, 3) := by decide +kernel
theorem dJ0_isLatin1_aae02_13 : decode cJ0_isLatin1_aae02 13 = .ok (.iconst 1, 1) := by decide +kernel
theorem dJ0_isLatin1_aae02_14 : decode cJ0_isLatin1_aae02 14 = .ok (.goto 4, 3) := by decide +kernel
theorem dJ0_isLatin1_aae02_17 : decode cJ0_isLatin1_aae02 17 = .ok (.iconst 0, 1) := by decide +kernel
theorem dJ0_isLatin1_aae02_18 : decode cJ0_isLatin1_aae02 18 = .ok (.ireturn, 1) := by decide +kernel
set_option maxRecDepth 20000 in
theorem dJ0_checkIndex_df160_0 : decode cJ0_checkIndex_df160 0 = .ok (.iload_n 0, 1) := by decide +kernel
theorem dJ0_checkIndex_df160_1 : decode cJ0_checkIndex_df160 1 = .ok (.iload_n 1, 1) := by decide +kernel
theorem dJ0_checkIndex_df160_2 : decode cJ0_checkIndex_df160 2 = .ok (.getstatic 1053, 3) := by decide +kernel
theorem dJ0_checkIndex_df160_5 : decode cJ0_checkIndex_df160 5 = .ok (.invokestatic 1059, 3) := by decide +kernel
theorem dJ0_checkIndex_df160_8 : decode cJ0_checkIndex_df160 8 = .ok (.pop, 1) := by decide +kernel
theorem dJ0_checkIndex_df160_9 : decode cJ0_checkIndex_df160 9 = .ok (.return_, 1) := by decide +kernel
set_option maxRecDepth 20000 in
theorem dJ1_charAt_3b067_0 : decode cJ1_charAt_3b067 0 = .ok (.iload_n 1, 1) := by decide +kernel
theorem dJ1_charAt_3b067_1 : decode cJ1_charAt_3b067 1 = .ok (.aload_n 0, 1) := by decide +kernel
theorem dJ1_charAt_3b067_2 : decode cJ1_charAt_3b067 2 = .ok (.arraylength, 1) := by decide +kernel
theorem dJ1_charAt_3b067_3 : decode cJ1_charAt_3b067 3 = .ok (.invokestatic 9, 3) := by decide +kernel
theorem dJ1_charAt_3b067_6 : decode cJ1_charAt_3b067 6 = .ok (.aload_n 0, 1) := by decide +kernel
theorem dJ1_charAt_3b067_7 : decode cJ1_charAt_3b067 7 = .ok (.iload_n 1, 1) := by decide +kernel
theorem dJ1_charAt_3b067_8 : decode cJ1_charAt_3b067 8 = .ok (.baload, 1) := by decide +kernel
theorem dJ1_charAt_3b067_9 : decode cJ1_charAt_3b067 9 = .ok (.sipush 255, 3) := by decide +kernel
theorem dJ1_charAt_3b067_12 : decode cJ1_charAt_3b067 12 = .ok (.iand, 1) := by decide +kernel
theorem dJ1_charAt_3b067_13 : decode cJ1_charAt_3b067 13 = .ok (.i2c, 1) := by decide +kernel
theorem dJ1_charAt_3b067_14 : decode cJ1_charAt_3b067 14 = .ok (.ireturn, 1) := by decide +kernel
set_option maxRecDepth 20000 in
theorem dJ2_getChar_3b067_0 : decode cJ2_getChar_3b067 0 = .ok (.getstatic 44, 3) := by decide +kernel
theorem dJ2_getChar_3b067_3 : decode cJ2_getChar_3b067 3 = .ok (.ifCond .ne 25, 3) := by decide +kernel
theorem dJ2_getChar_3b067_6 : decode cJ2_getChar_3b067 6 = .ok (.iload_n 1, 1) := by decide +kernel
theorem dJ2_getChar_3b067_7 : decode cJ2_getChar_3b067 7 = .ok (.ifCond .lt 11, 3) := by decide +kernel
theorem dJ2_getChar_3b067_10 : decode cJ2_getChar_3b067 10 = .ok (.iload_n 1, 1) := by decide +kernel
theorem dJ2_getChar_3b067_11 : decode cJ2_getChar_3b067 11 = .ok (.aload_n 0, 1) := by decide +kernel
theorem dJ2_getChar_3b067_12 : decode cJ2_getChar_3b067 12 = .ok (.invokestatic 48, 3) := by decide +kernel
theorem dJ2_getChar_3b067_15 : decode cJ2_getChar_3b067 15 = .ok (.if_icmp .lt 13, 3) := by decide +kernel
theorem dJ2_getChar_3b067_18 : decode cJ2_getChar_3b067 18 = .ok (.new 52, 3) := by decide +kernel
theorem dJ2_getChar_3b067_21 : decode cJ2_getChar_3b067 21 = .ok (.dup, 1) := by decide +kernel
theorem dJ2_getChar_3b067_22 : decode cJ2_getChar_3b067 22 = .ok (.ldc 54, 2) := by decide +kernel
theorem dJ2_getChar_3b067_24 : decode cJ2_getChar_3b067 24 = .ok (.invokespecial 56, 3) := by decide +kernel
theorem dJ2_getChar_3b067_27 : decode cJ2_getChar_3b067 27 = .ok (.athrow, 1) := by decide +kernel
theorem dJ2_getChar_3b067_28 : decode cJ2_getChar_3b067 28 = .ok (.iload_n 1, 1) := by decide +kernel
theorem dJ2_getChar_3b067_29 : decode cJ2_getChar_3b067 29 = .ok (.iconst 1, 1) := by decide +kernel
theorem dJ2_getChar_3b067_30 : decode cJ2_getChar_3b067 30 = .ok (.ishl, 1) := by decide +kernel
theorem dJ2_getChar_3b067_31 : decode cJ2_getChar_3b067 31 = .ok (.istore_n 1, 1) := by decide +kernel
theorem dJ2_getChar_3b067_32 : decode cJ2_getChar_3b067 32 = .ok (.aload_n 0, 1) := by decide +kernel
theorem dJ2_getChar_3b067_33 : decode cJ2_getChar_3b067 33 = .ok (.iload_n 1, 1) := by decide +kernel
theorem dJ2_getChar_3b067_34 : decode cJ2_getChar_3b067 34 = .ok (.iinc 1 1, 3) := by decide +kernel
theorem dJ2_getChar_3b067_37 : decode cJ2_getChar_3b067 37 = .ok (.baload, 1) := by decide +kernel
theorem dJ2_getChar_3b067_38 : decode cJ2_getChar_3b067 38 = .ok (.sipush 255, 3) := by decide +kernel
theorem dJ2_getChar_3b067_41 : decode cJ2_getChar_3b067 41 = .ok (.iand, 1) := by decide +kernel
theorem dJ2_getChar_3b067_42 : decode cJ2_getChar_3b067 42 = .ok (.getstatic 59, 3) := by decide +kernel
theorem dJ2_getChar_3b067_45 : decode cJ2_getChar_3b067 45 = .ok (.ishl, 1) := by decide +kernel
theorem dJ2_getChar_3b067_46 : decode cJ2_getChar_3b067 46 = .ok (.aload_n 0, 1) := by decide +kernel
theorem dJ2_getChar_3b067_47 : decode cJ2_getChar_3b067 47 = .ok (.iload_n 1, 1) := by decide +kernel
theorem dJ2_getChar_3b067_48 : decode cJ2_getChar_3b067 48 = .ok (.baload, 1) := by decide +kernel
theorem dJ2_getChar_3b067_49 : decode cJ2_getChar_3b067 49 = .ok (.sipush 255, 3) := by decide +kernel
theorem dJ2_getChar_3b067_52 : decode cJ2_getChar_3b067 52 = .ok (.iand, 1) := by decide +kernel
theorem dJ2_getChar_3b067_53 : decode cJ2_getChar_3b067 53 = .ok (.getstatic 63, 3) := by decide +kernel
theorem dJ2_getChar_3b067_56 : decode cJ2_getChar_3b067 56 = .ok (.ishl, 1) := by decide +kernel
theorem dJ2_getChar_3b067_57 : decode cJ2_getChar_3b067 57 = .ok (.ior, 1) := by decide +kernel
theorem dJ2_getChar_3b067_58 : decode cJ2_getChar_3b067 58 = .ok (.i2c, 1) := by decide +kernel
theorem dJ2_getChar_3b067_59 : decode cJ2_getChar_3b067 59 = .ok (.ireturn, 1) := by decide +kernel
theorem dJ2_length_9d52b_0 : decode cJ2_length_9d52b 0 = .ok (.aload_n 0, 1) := by decide +kernel
theorem dJ2_length_9d52b_1 : decode cJ2_length_9d52b 1 = .ok (.arraylength, 1) := by decide +kernel
theorem dJ2_length_9d52b_2 : decode cJ2_length_9d52b 2 = .ok (.iconst 1, 1) := by decide +kernel
theorem dJ2_length_9d52b_3 : decode cJ2_length_9d52b 3 = .ok (.ishr, 1) := by decide +kernel
theorem dJ2_length_9d52b_4 : decode cJ2_length_9d52b 4 = .ok (.ireturn, 1) := by decide +kernel
set_option maxRecDepth 20000 in
theorem dJ2_charAt_3b067_0 : decode cJ2_charAt_3b067 0 = .ok (.iload_n 1, 1) := by decide +kernel
theorem dJ2_charAt_3b067_1 : decode cJ2_charAt_3b067 1 = .ok (.aload_n 0, 1) := by decide +kernel
theorem dJ2_charAt_3b067_2 : decode cJ2_charAt_3b067 2 = .ok (.invokestatic 67, 3) := by decide +kernel
theorem dJ2_charAt_3b067_5 : decode cJ2_charAt_3b067 5 = .ok (.aload_n 0, 1) := by decide +kernel
theorem dJ2_charAt_3b067_6 : decode cJ2_charAt_3b067 6 = .ok (.iload_n 1, 1) := by decide +kernel
theorem dJ2_charAt_3b067_7 : decode cJ2_charAt_3b067 7 = .ok (.invokestatic 71, 3) := by decide +kernel
theorem dJ2_charAt_3b067_10 : decode cJ2_charAt_3b067 10 = .ok (.ireturn, 1) := by decide +kernel
set_option maxRecDepth 20000 in
theorem dJ2_checkIndex_2214a_0 : decode cJ2_checkIndex_2214a 0 = .ok (.iload_n 0, 1) := by decide +kernel
theorem dJ2_checkIndex_2214a_1 : decode cJ2_checkIndex_2214a 1 = .ok (.aload_n 1, 1) := by decide +kernel
theorem dJ2_checkIndex_2214a_2 : decode cJ2_checkIndex_2214a 2 = .ok (.invokestatic 48, 3) := by decide +kernel
theorem dJ2_checkIndex_2214a_5 : decode cJ2_checkIndex_2214a 5 = .ok (.invokestatic 414, 3) := by decide +kernel
theorem dJ2_checkIndex_2214a_8 : decode cJ2_checkIndex_2214a 8 = .ok (.return_, 1) := by decide +kernel
theorem dJ7_fill_53178_0 : decode cJ7_fill_53178 0 = .ok (.iconst 0, 1) := by decide +kernel
theorem dJ7_fill_53178_1 : decode cJ7_fill_53178 1 = .ok (.istore_n 2, 1) := by decide +kernel
theorem dJ7_fill_53178_2 : decode cJ7_fill_53178 2 = .ok (.aload_n 0, 1) := by decide +kernel
theorem dJ7_fill_53178_3 : decode cJ7_fill_53178 3 = .ok (.arraylength, 1) := by decide +kernel
theorem dJ7_fill_53178_4 : decode cJ7_fill_53178 4 = .ok (.istore_n 3, 1) := by decide +kernel
theorem dJ7_fill_53178_5 : decode cJ7_fill_53178 5 = .ok (.iload_n 2, 1) := by decide +kernel
theorem dJ7_fill_53178_6 : decode cJ7_fill_53178 6 = .ok (.iload_n 3, 1) := by decide +kernel
theorem dJ7_fill_53178_7 : decode cJ7_fill_53178 7 = .ok (.if_icmp .ge 13, 3) := by decide +kernel
theorem dJ7_fill_53178_10 : decode cJ7_fill_53178 10 = .ok (.aload_n 0, 1) := by decide +kernel
theorem dJ7_fill_53178_11 : decode cJ7_fill_53178 11 = .ok (.iload_n 2, 1) := by decide +kernel
theorem dJ7_fill_53178_12 : decode cJ7_fill_53178 12 = .ok (.iload_n 1, 1) := by decide +kernel
theorem dJ7_fill_53178_13 : decode cJ7_fill_53178 13 = .ok (.iastore, 1) := by decide +kernel
theorem dJ7_fill_53178_14 : decode cJ7_fill_53178 14 = .ok (.iinc 2 1, 3) := by decide +kernel
theorem dJ7_fill_53178_17 : decode cJ7_fill_53178 17 = .ok (.goto (-12), 3) := by decide +kernel
theorem dJ7_fill_53178_20 : decode cJ7_fill_53178 20 = .ok (.return_, 1) := by decide +kernel
theorem dJ3_checkIndex_8e157_0 : decode cJ3_checkIndex_8e157 0 = .ok (.iload_n 0, 1) := by decide +kernel
theorem dJ3_checkIndex_8e157_1 : decode cJ3_checkIndex_8e157 1 = .ok (.ifCond .lt 8, 3) := by decide +kernel
theorem dJ3_checkIndex_8e157_4 : decode cJ3_checkIndex_8e157 4 = .ok (.iload_n 0, 1) := by decide +kernel
theorem dJ3_checkIndex_8e157_5 : decode cJ3_checkIndex_8e157 5 = .ok (.iload_n 1, 1) := by decide +kernel
theorem dJ3_checkIndex_8e157_6 : decode cJ3_checkIndex_8e157 6 = .ok (.if_icmp .lt 10, 3) := by decide +kernel
theorem dJ3_checkIndex_8e157_9 : decode cJ3_checkIndex_8e157 9 = .ok (.aload_n 2, 1) := by decide +kernel
theorem dJ3_checkIndex_8e157_10 : decode cJ3_checkIndex_8e157 10 = .ok (.iload_n 0, 1) := by decide +kernel
theorem dJ3_checkIndex_8e157_11 : decode cJ3_checkIndex_8e157 11 = .ok (.iload_n 1, 1) := by decide +kernel
theorem dJ3_checkIndex_8e157_12 : decode cJ3_checkIndex_8e157 12 = .ok (.invokestatic 95, 3) := by decide +kernel
theorem dJ3_checkIndex_8e157_15 : decode cJ3_checkIndex_8e157 15 = .ok (.athrow, 1) := by decide +kernel
theorem dJ3_checkIndex_8e157_16 : decode cJ3_checkIndex_8e157 16 = .ok (.iload_n 0, 1) := by decide +kernel
theorem dJ3_checkIndex_8e157_17 : decode cJ3_checkIndex_8e157 17 = .ok (.ireturn, 1) := by decide +kernel
set_option maxRecDepth 20000 in
theorem dL_law_0 : decode cL_law 0 = .ok (.new 7, 3) := by decide +kernel
theorem dL_law_3 : decode cL_law 3 = .ok (.dup, 1) := by decide +kernel
theorem dL_law_4 : decode cL_law 4 = .ok (.invokespecial 9, 3) := by decide +kernel
theorem dL_law_7 : decode cL_law 7 = .ok (.astore_n 1, 1) := by decide +kernel
theorem dL_law_8 : decode cL_law 8 = .ok (.new 10, 3) := by decide +kernel
theorem dL_law_11 : decode cL_law 11 = .ok (.dup, 1) := by decide +kernel
theorem dL_law_12 : decode cL_law 12 = .ok (.invokespecial 12, 3) := by decide +kernel
theorem dL_law_15 : decode cL_law 15 = .ok (.astore_n 2, 1) := by decide +kernel
theorem dL_law_16 : decode cL_law 16 = .ok (.iconst 0, 1) := by decide +kernel
theorem dL_law_17 : decode cL_law 17 = .ok (.istore_n 3, 1) := by decide +kernel
theorem dL_law_18 : decode cL_law 18 = .ok (.iload_n 3, 1) := by decide +kernel
theorem dL_law_19 : decode cL_law 19 = .ok (.aload_n 0, 1) := by decide +kernel
theorem dL_law_20 : decode cL_law 20 = .ok (.arraylength, 1) := by decide +kernel
theorem dL_law_21 : decode cL_law 21 = .ok (.iconst 5, 1) := by decide +kernel
theorem dL_law_22 : decode cL_law 22 = .ok (.isub, 1) := by decide +kernel
theorem dL_law_23 : decode cL_law 23 = .ok (.if_icmp .gt 748, 3) := by decide +kernel
theorem dL_law_26 : decode cL_law 26 = .ok (.aload_n 0, 1) := by decide +kernel
theorem dL_law_27 : decode cL_law 27 = .ok (.iload_n 3, 1) := by decide +kernel
theorem dL_law_28 : decode cL_law 28 = .ok (.iaload, 1) := by decide +kernel
theorem dL_law_29 : decode cL_law 29 = .ok (.bipush 31, 2) := by decide +kernel
theorem dL_law_31 : decode cL_law 31 = .ok (.iand, 1) := by decide +kernel
theorem dL_law_32 : decode cL_law 32 = .ok (.tableswitch 733 0 22 #[108, 151, 204, 227, 260, 283, 306, 331, 344, 357, 370, 383, 396, 409, 442, 501, 534, 567, 590, 631, 664, 687, 710], 108) := by decide +kernel
theorem dL_law_140 : decode cL_law 140 = .ok (.aload_n 1, 1) := by decide +kernel
theorem dL_law_141 : decode cL_law 141 = .ok (.aload_n 0, 1) := by decide +kernel
theorem dL_law_142 : decode cL_law 142 = .ok (.iload_n 3, 1) := by decide +kernel
theorem dL_law_143 : decode cL_law 143 = .ok (.iconst 1, 1) := by decide +kernel
theorem dL_law_144 : decode cL_law 144 = .ok (.iadd, 1) := by decide +kernel
theorem dL_law_145 : decode cL_law 145 = .ok (.iaload, 1) := by decide +kernel
theorem dL_law_146 : decode cL_law 146 = .ok (.aload_n 0, 1) := by decide +kernel
theorem dL_law_147 : decode cL_law 147 = .ok (.iload_n 3, 1) := by decide +kernel
theorem dL_law_148 : decode cL_law 148 = .ok (.iconst 2, 1) := by decide +kernel
theorem dL_law_149 : decode cL_law 149 = .ok (.iadd, 1) := by decide +kernel
theorem dL_law_150 : decode cL_law 150 = .ok (.iaload, 1) := by decide +kernel
theorem dL_law_151 : decode cL_law 151 = .ok (.aload_n 0, 1) := by decide +kernel
theorem dL_law_152 : decode cL_law 152 = .ok (.iload_n 3, 1) := by decide +kernel
theorem dL_law_153 : decode cL_law 153 = .ok (.iconst 3, 1) := by decide +kernel
theorem dL_law_154 : decode cL_law 154 = .ok (.iadd, 1) := by decide +kernel
theorem dL_law_155 : decode cL_law 155 = .ok (.iaload, 1) := by decide +kernel
theorem dL_law_156 : decode cL_law 156 = .ok (.invokevirtual 13, 3) := by decide +kernel
theorem dL_law_159 : decode cL_law 159 = .ok (.aload_n 2, 1) := by decide +kernel
theorem dL_law_160 : decode cL_law 160 = .ok (.aload_n 0, 1) := by decide +kernel
theorem dL_law_161 : decode cL_law 161 = .ok (.iload_n 3, 1) := by decide +kernel
theorem dL_law_162 : decode cL_law 162 = .ok (.iconst 1, 1) := by decide +kernel
theorem dL_law_163 : decode cL_law 163 = .ok (.iadd, 1) := by decide +kernel
theorem dL_law_164 : decode cL_law 164 = .ok (.iaload, 1) := by decide +kernel
theorem dL_law_165 : decode cL_law 165 = .ok (.aload_n 0, 1) := by decide +kernel
theorem dL_law_166 : decode cL_law 166 = .ok (.iload_n 3, 1) := by decide +kernel
theorem dL_law_167 : decode cL_law 167 = .ok (.iconst 2, 1) := by decide +kernel
theorem dL_law_168 : decode cL_law 168 = .ok (.iadd, 1) := by decide +kernel
theorem dL_law_169 : decode cL_law 169 = .ok (.iaload, 1) := by decide +kernel
theorem dL_law_170 : decode cL_law 170 = .ok (.aload_n 0, 1) := by decide +kernel
theorem dL_law_171 : decode cL_law 171 = .ok (.iload_n 3, 1) := by decide +kernel
theorem dL_law_172 : decode cL_law 172 = .ok (.iconst 3, 1) := by decide +kernel
theorem dL_law_173 : decode cL_law 173 = .ok (.iadd, 1) := by decide +kernel
theorem dL_law_174 : decode cL_law 174 = .ok (.iaload, 1) := by decide +kernel
theorem dL_law_175 : decode cL_law 175 = .ok (.invokevirtual 17, 3) := by decide +kernel
theorem dL_law_178 : decode cL_law 178 = .ok (.if_icmp .eq 587, 3) := by decide +kernel
theorem dL_law_181 : decode cL_law 181 = .ok (.iconst 0, 1) := by decide +kernel
theorem dL_law_182 : decode cL_law 182 = .ok (.ireturn, 1) := by decide +kernel
theorem dL_law_183 : decode cL_law 183 = .ok (.aload_n 1, 1) := by decide +kernel
theorem dL_law_184 : decode cL_law 184 = .ok (.aload_n 0, 1) := by decide +kernel
theorem dL_law_185 : decode cL_law 185 = .ok (.iload_n 3, 1) := by decide +kernel
theorem dL_law_186 : decode cL_law 186 = .ok (.iconst 1, 1) := by decide +kernel
theorem dL_law_187 : decode cL_law 187 = .ok (.iadd, 1) := by decide +kernel
theorem dL_law_188 : decode cL_law 188 = .ok (.iaload, 1) := by decide +kernel
theorem dL_law_189 : decode cL_law 189 = .ok (.aload_n 0, 1) := by decide +kernel
theorem dL_law_190 : decode cL_law 190 = .ok (.iload_n 3, 1) := by decide +kernel
theorem dL_law_191 : decode cL_law 191 = .ok (.iconst 2, 1) := by decide +kernel
theorem dL_law_192 : decode cL_law 192 = .ok (.iadd, 1) := by decide +kernel
theorem dL_law_193 : decode cL_law 193 = .ok (.iaload, 1) := by decide +kernel
theorem dL_law_194 : decode cL_law 194 = .ok (.aload_n 0, 1) := by decide +kernel
theorem dL_law_195 : decode cL_law 195 = .ok (.iload_n 3, 1) := by decide +kernel
theorem dL_law_196 : decode cL_law 196 = .ok (.iconst 3, 1) := by decide +kernel
theorem dL_law_197 : decode cL_law 197 = .ok (.iadd, 1) := by decide +kernel
theorem dL_law_198 : decode cL_law 198 = .ok (.iaload, 1) := by decide +kernel
theorem dL_law_199 : decode cL_law 199 = .ok (.aload_n 0, 1) := by decide +kernel
theorem dL_law_200 : decode cL_law 200 = .ok (.iload_n 3, 1) := by decide +kernel
theorem dL_law_201 : decode cL_law 201 = .ok (.iconst 4, 1) := by decide +kernel
theorem dL_law_202 : decode cL_law 202 = .ok (.iadd, 1) := by decide +kernel
theorem dL_law_203 : decode cL_law 203 = .ok (.iaload, 1) := by decide +kernel
theorem dL_law_204 : decode cL_law 204 = .ok (.invokevirtual 18, 3) := by decide +kernel
theorem dL_law_207 : decode cL_law 207 = .ok (.aload_n 2, 1) := by decide +kernel
theorem dL_law_208 : decode cL_law 208 = .ok (.aload_n 0, 1) := by decide +kernel
theorem dL_law_209 : decode cL_law 209 = .ok (.iload_n 3, 1) := by decide +kernel
theorem dL_law_210 : decode cL_law 210 = .ok (.iconst 1, 1) := by decide +kernel
theorem dL_law_211 : decode cL_law 211 = .ok (.iadd, 1) := by decide +kernel
theorem dL_law_212 : decode cL_law 212 = .ok (.iaload, 1) := by decide +kernel
theorem dL_law_213 : decode cL_law 213 = .ok (.aload_n 0, 1) := by decide +kernel
theorem dL_law_214 : decode cL_law 214 = .ok (.iload_n 3, 1) := by decide +kernel
theorem dL_law_215 : decode cL_law 215 = .ok (.iconst 2, 1) := by decide +kernel
theorem dL_law_216 : decode cL_law 216 = .ok (.iadd, 1) := by decide +kernel
theorem dL_law_217 : decode cL_law 217 = .ok (.iaload, 1) := by decide +kernel
theorem dL_law_218 : decode cL_law 218 = .ok (.aload_n 0, 1) := by decide +kernel
theorem dL_law_219 : decode cL_law 219 = .ok (.iload_n 3, 1) := by decide +kernel
theorem dL_law_220 : decode cL_law 220 = .ok (.iconst 3, 1) := by decide +kernel
theorem dL_law_221 : decode cL_law 221 = .ok (.iadd, 1) := by decide +kernel
theorem dL_law_222 : decode cL_law 222 = .ok (.iaload, 1) := by decide +kernel
theorem dL_law_223 : decode cL_law 223 = .ok (.aload_n 0, 1) := by decide +kernel
theorem dL_law_224 : decode cL_law 224 = .ok (.iload_n 3, 1) := by decide +kernel
theorem dL_law_225 : decode cL_law 225 = .ok (.iconst 4, 1) := by decide +kernel
theorem dL_law_226 : decode cL_law 226 = .ok (.iadd, 1) := by decide +kernel
theorem dL_law_227 : decode cL_law 227 = .ok (.iaload, 1) := by decide +kernel
theorem dL_law_228 : decode cL_law 228 = .ok (.invokevirtual 22, 3) := by decide +kernel
theorem dL_law_231 : decode cL_law 231 = .ok (.if_icmp .eq 534, 3) := by decide +kernel
theorem dL_law_234 : decode cL_law 234 = .ok (.iconst 0, 1) := by decide +kernel
theorem dL_law_235 : decode cL_law 235 = .ok (.ireturn, 1) := by decide +kernel
theorem dL_law_236 : decode cL_law 236 = .ok (.aload_n 1, 1) := by decide +kernel
theorem dL_law_237 : decode cL_law 237 = .ok (.aload_n 0, 1) := by decide +kernel
theorem dL_law_238 : decode cL_law 238 = .ok (.iload_n 3, 1) := by decide +kernel
theorem dL_law_239 : decode cL_law 239 = .ok (.iconst 1, 1) := by decide +kernel
theorem dL_law_240 : decode cL_law 240 = .ok (.iadd, 1) := by decide +kernel
theorem dL_law_241 : decode cL_law 241 = .ok (.iaload, 1) := by decide +kernel
theorem dL_law_242 : decode cL_law 242 = .ok (.invokevirtual 23, 3) := by decide +kernel
theorem dL_law_245 : decode cL_law 245 = .ok (.aload_n 2, 1) := by decide +kernel
theorem dL_law_246 : decode cL_law 246 = .ok (.aload_n 0, 1) := by decide +kernel
theorem dL_law_247 : decode cL_law 247 = .ok (.iload_n 3, 1) := by decide +kernel
theorem dL_law_248 : decode cL_law 248 = .ok (.iconst 1, 1) := by decide +kernel
theorem dL_law_249 : decode cL_law 249 = .ok (.iadd, 1) := by decide +kernel
theorem dL_law_250 : decode cL_law 250 = .ok (.iaload, 1) := by decide +kernel
theorem dL_law_251 : decode cL_law 251 = .ok (.invokevirtual 27, 3) := by decide +kernel
theorem dL_law_254 : decode cL_law 254 = .ok (.if_icmp .eq 511, 3) := by decide +kernel
theorem dL_law_257 : decode cL_law 257 = .ok (.iconst 0, 1) := by decide +kernel
theorem dL_law_258 : decode cL_law 258 = .ok (.ireturn, 1) := by decide +kernel
theorem dL_law_259 : decode cL_law 259 = .ok (.aload_n 1, 1) := by decide +kernel
theorem dL_law_260 : decode cL_law 260 = .ok (.aload_n 0, 1) := by decide +kernel
theorem dL_law_261 : decode cL_law 261 = .ok (.iload_n 3, 1) := by decide +kernel
theorem dL_law_262 : decode cL_law 262 = .ok (.iconst 1, 1) := by decide +kernel
theorem dL_law_263 : decode cL_law 263 = .ok (.iadd, 1) := by decide +kernel
theorem dL_law_264 : decode cL_law 264 = .ok (.iaload, 1) := by decide +kernel
theorem dL_law_265 : decode cL_law 265 = .ok (.aload_n 0, 1) := by decide +kernel
theorem dL_law_266 : decode cL_law 266 = .ok (.iload_n 3, 1) := by decide +kernel
theorem dL_law_267 : decode cL_law 267 = .ok (.iconst 2, 1) := by decide +kernel
theorem dL_law_268 : decode cL_law 268 = .ok (.iadd, 1) := by decide +kernel
theorem dL_law_269 : decode cL_law 269 = .ok (.iaload, 1) := by decide +kernel
theorem dL_law_270 : decode cL_law 270 = .ok (.invokevirtual 28, 3) := by decide +kernel
theorem dL_law_273 : decode cL_law 273 = .ok (.aload_n 2, 1) := by decide +kernel
theorem dL_law_274 : decode cL_law 274 = .ok (.aload_n 0, 1) := by decide +kernel
theorem dL_law_275 : decode cL_law 275 = .ok (.iload_n 3, 1) := by decide +kernel
theorem dL_law_276 : decode cL_law 276 = .ok (.iconst 1, 1) := by decide +kernel
theorem dL_law_277 : decode cL_law 277 = .ok (.iadd, 1) := by decide +kernel
theorem dL_law_278 : decode cL_law 278 = .ok (.iaload, 1) := by decide +kernel
theorem dL_law_279 : decode cL_law 279 = .ok (.aload_n 0, 1) := by decide +kernel
theorem dL_law_280 : decode cL_law 280 = .ok (.iload_n 3, 1) := by decide +kernel
theorem dL_law_281 : decode cL_law 281 = .ok (.iconst 2, 1) := by decide +kernel
theorem dL_law_282 : decode cL_law 282 = .ok (.iadd, 1) := by decide +kernel
theorem dL_law_283 : decode cL_law 283 = .ok (.iaload, 1) := by decide +kernel
theorem dL_law_284 : decode cL_law 284 = .ok (.invokevirtual 32, 3) := by decide +kernel
theorem dL_law_287 : decode cL_law 287 = .ok (.if_icmp .eq 478, 3) := by decide +kernel
theorem dL_law_290 : decode cL_law 290 = .ok (.iconst 0, 1) := by decide +kernel
theorem dL_law_291 : decode cL_law 291 = .ok (.ireturn, 1) := by decide +kernel
theorem dL_law_292 : decode cL_law 292 = .ok (.aload_n 1, 1) := by decide +kernel
theorem dL_law_293 : decode cL_law 293 = .ok (.aload_n 0, 1) := by decide +kernel
theorem dL_law_294 : decode cL_law 294 = .ok (.iload_n 3, 1) := by decide +kernel
theorem dL_law_295 : decode cL_law 295 = .ok (.iconst 1, 1) := by decide +kernel
theorem dL_law_296 : decode cL_law 296 = .ok (.iadd, 1) := by decide +kernel
theorem dL_law_297 : decode cL_law 297 = .ok (.iaload, 1) := by decide +kernel
theorem dL_law_298 : decode cL_law 298 = .ok (.invokevirtual 33, 3) := by decide +kernel
theorem dL_law_301 : decode cL_law 301 = .ok (.aload_n 2, 1) := by decide +kernel
theorem dL_law_302 : decode cL_law 302 = .ok (.aload_n 0, 1) := by decide +kernel
theorem dL_law_303 : decode cL_law 303 = .ok (.iload_n 3, 1) := by decide +kernel
theorem dL_law_304 : decode cL_law 304 = .ok (.iconst 1, 1) := by decide +kernel
theorem dL_law_305 : decode cL_law 305 = .ok (.iadd, 1) := by decide +kernel
theorem dL_law_306 : decode cL_law 306 = .ok (.iaload, 1) := by decide +kernel
theorem dL_law_307 : decode cL_law 307 = .ok (.invokevirtual 36, 3) := by decide +kernel
theorem dL_law_310 : decode cL_law 310 = .ok (.if_icmp .eq 455, 3) := by decide +kernel
theorem dL_law_313 : decode cL_law 313 = .ok (.iconst 0, 1) := by decide +kernel
theorem dL_law_314 : decode cL_law 314 = .ok (.ireturn, 1) := by decide +kernel
theorem dL_law_315 : decode cL_law 315 = .ok (.aload_n 1, 1) := by decide +kernel
theorem dL_law_316 : decode cL_law 316 = .ok (.aload_n 0, 1) := by decide +kernel
theorem dL_law_317 : decode cL_law 317 = .ok (.iload_n 3, 1) := by decide +kernel
theorem dL_law_318 : decode cL_law 318 = .ok (.iconst 1, 1) := by decide +kernel
theorem dL_law_319 : decode cL_law 319 = .ok (.iadd, 1) := by decide +kernel
theorem dL_law_320 : decode cL_law 320 = .ok (.iaload, 1) := by decide +kernel
theorem dL_law_321 : decode cL_law 321 = .ok (.invokevirtual 37, 3) := by decide +kernel
theorem dL_law_324 : decode cL_law 324 = .ok (.aload_n 2, 1) := by decide +kernel
theorem dL_law_325 : decode cL_law 325 = .ok (.aload_n 0, 1) := by decide +kernel
theorem dL_law_326 : decode cL_law 326 = .ok (.iload_n 3, 1) := by decide +kernel
theorem dL_law_327 : decode cL_law 327 = .ok (.iconst 1, 1) := by decide +kernel
theorem dL_law_328 : decode cL_law 328 = .ok (.iadd, 1) := by decide +kernel
theorem dL_law_329 : decode cL_law 329 = .ok (.iaload, 1) := by decide +kernel
theorem dL_law_330 : decode cL_law 330 = .ok (.invokevirtual 40, 3) := by decide +kernel
theorem dL_law_333 : decode cL_law 333 = .ok (.if_icmp .eq 432, 3) := by decide +kernel
theorem dL_law_336 : decode cL_law 336 = .ok (.iconst 0, 1) := by decide +kernel
theorem dL_law_337 : decode cL_law 337 = .ok (.ireturn, 1) := by decide +kernel
theorem dL_law_338 : decode cL_law 338 = .ok (.aload_n 1, 1) := by decide +kernel
theorem dL_law_339 : decode cL_law 339 = .ok (.aload_n 0, 1) := by decide +kernel
theorem dL_law_340 : decode cL_law 340 = .ok (.iload_n 3, 1) := by decide +kernel
theorem dL_law_341 : decode cL_law 341 = .ok (.iconst 1, 1) := by decide +kernel
theorem dL_law_342 : decode cL_law 342 = .ok (.iadd, 1) := by decide +kernel
theorem dL_law_343 : decode cL_law 343 = .ok (.iaload, 1) := by decide +kernel
theorem dL_law_344 : decode cL_law 344 = .ok (.i2c, 1) := by decide +kernel
theorem dL_law_345 : decode cL_law 345 = .ok (.invokevirtual 41, 3) := by decide +kernel
theorem dL_law_348 : decode cL_law 348 = .ok (.aload_n 2, 1) := by decide +kernel
theorem dL_law_349 : decode cL_law 349 = .ok (.aload_n 0, 1) := by decide +kernel
theorem dL_law_350 : decode cL_law 350 = .ok (.iload_n 3, 1) := by decide +kernel
theorem dL_law_351 : decode cL_law 351 = .ok (.iconst 1, 1) := by decide +kernel
theorem dL_law_352 : decode cL_law 352 = .ok (.iadd, 1) := by decide +kernel
theorem dL_law_353 : decode cL_law 353 = .ok (.iaload, 1) := by decide +kernel
theorem dL_law_354 : decode cL_law 354 = .ok (.i2c, 1) := by decide +kernel
theorem dL_law_355 : decode cL_law 355 = .ok (.invokevirtual 45, 3) := by decide +kernel
theorem dL_law_358 : decode cL_law 358 = .ok (.if_icmp .eq 407, 3) := by decide +kernel
theorem dL_law_361 : decode cL_law 361 = .ok (.iconst 0, 1) := by decide +kernel
theorem dL_law_362 : decode cL_law 362 = .ok (.ireturn, 1) := by decide +kernel
theorem dL_law_363 : decode cL_law 363 = .ok (.aload_n 1, 1) := by decide +kernel
theorem dL_law_364 : decode cL_law 364 = .ok (.invokevirtual 46, 3) := by decide +kernel
theorem dL_law_367 : decode cL_law 367 = .ok (.aload_n 2, 1) := by decide +kernel
theorem dL_law_368 : decode cL_law 368 = .ok (.invokevirtual 50, 3) := by decide +kernel
theorem dL_law_371 : decode cL_law 371 = .ok (.if_icmp .eq 394, 3) := by decide +kernel
theorem dL_law_374 : decode cL_law 374 = .ok (.iconst 0, 1) := by decide +kernel
theorem dL_law_375 : decode cL_law 375 = .ok (.ireturn, 1) := by decide +kernel
theorem dL_law_376 : decode cL_law 376 = .ok (.aload_n 1, 1) := by decide +kernel
theorem dL_law_377 : decode cL_law 377 = .ok (.invokevirtual 51, 3) := by decide +kernel
theorem dL_law_380 : decode cL_law 380 = .ok (.aload_n 2, 1) := by decide +kernel
theorem dL_law_381 : decode cL_law 381 = .ok (.invokevirtual 54, 3) := by decide +kernel
theorem dL_law_384 : decode cL_law 384 = .ok (.if_icmp .eq 381, 3) := by decide +kernel
theorem dL_law_387 : decode cL_law 387 = .ok (.iconst 0, 1) := by decide +kernel
theorem dL_law_388 : decode cL_law 388 = .ok (.ireturn, 1) := by decide +kernel
theorem dL_law_389 : decode cL_law 389 = .ok (.aload_n 1, 1) := by decide +kernel
theorem dL_law_390 : decode cL_law 390 = .ok (.invokevirtual 55, 3) := by decide +kernel
theorem dL_law_393 : decode cL_law 393 = .ok (.aload_n 2, 1) := by decide +kernel
theorem dL_law_394 : decode cL_law 394 = .ok (.invokevirtual 58, 3) := by decide +kernel
theorem dL_law_397 : decode cL_law 397 = .ok (.if_icmp .eq 368, 3) := by decide +kernel
theorem dL_law_400 : decode cL_law 400 = .ok (.iconst 0, 1) := by decide +kernel
theorem dL_law_401 : decode cL_law 401 = .ok (.ireturn, 1) := by decide +kernel
theorem dL_law_402 : decode cL_law 402 = .ok (.aload_n 1, 1) := by decide +kernel
theorem dL_law_403 : decode cL_law 403 = .ok (.invokevirtual 59, 3) := by decide +kernel
theorem dL_law_406 : decode cL_law 406 = .ok (.aload_n 2, 1) := by decide +kernel
theorem dL_law_407 : decode cL_law 407 = .ok (.invokevirtual 62, 3) := by decide +kernel
theorem dL_law_410 : decode cL_law 410 = .ok (.if_icmp .eq 355, 3) := by decide +kernel
theorem dL_law_413 : decode cL_law 413 = .ok (.iconst 0, 1) := by decide +kernel
theorem dL_law_414 : decode cL_law 414 = .ok (.ireturn, 1) := by decide +kernel
theorem dL_law_415 : decode cL_law 415 = .ok (.aload_n 1, 1) := by decide +kernel
theorem dL_law_416 : decode cL_law 416 = .ok (.invokevirtual 63, 3) := by decide +kernel
theorem dL_law_419 : decode cL_law 419 = .ok (.aload_n 2, 1) := by decide +kernel
theorem dL_law_420 : decode cL_law 420 = .ok (.invokevirtual 66, 3) := by decide +kernel
theorem dL_law_423 : decode cL_law 423 = .ok (.if_icmp .eq 342, 3) := by decide +kernel
theorem dL_law_426 : decode cL_law 426 = .ok (.iconst 0, 1) := by decide +kernel
theorem dL_law_427 : decode cL_law 427 = .ok (.ireturn, 1) := by decide +kernel
theorem dL_law_428 : decode cL_law 428 = .ok (.aload_n 1, 1) := by decide +kernel
theorem dL_law_429 : decode cL_law 429 = .ok (.invokevirtual 67, 3) := by decide +kernel
theorem dL_law_432 : decode cL_law 432 = .ok (.aload_n 2, 1) := by decide +kernel
theorem dL_law_433 : decode cL_law 433 = .ok (.invokevirtual 70, 3) := by decide +kernel
theorem dL_law_436 : decode cL_law 436 = .ok (.if_icmp .eq 329, 3) := by decide +kernel
theorem dL_law_439 : decode cL_law 439 = .ok (.iconst 0, 1) := by decide +kernel
theorem dL_law_440 : decode cL_law 440 = .ok (.ireturn, 1) := by decide +kernel
theorem dL_law_441 : decode cL_law 441 = .ok (.aload_n 1, 1) := by decide +kernel
theorem dL_law_442 : decode cL_law 442 = .ok (.aload_n 0, 1) := by decide +kernel
theorem dL_law_443 : decode cL_law 443 = .ok (.iload_n 3, 1) := by decide +kernel
theorem dL_law_444 : decode cL_law 444 = .ok (.iconst 1, 1) := by decide +kernel
theorem dL_law_445 : decode cL_law 445 = .ok (.iadd, 1) := by decide +kernel
theorem dL_law_446 : decode cL_law 446 = .ok (.iaload, 1) := by decide +kernel
theorem dL_law_447 : decode cL_law 447 = .ok (.aload_n 0, 1) := by decide +kernel
theorem dL_law_448 : decode cL_law 448 = .ok (.iload_n 3, 1) := by decide +kernel
theorem dL_law_449 : decode cL_law 449 = .ok (.iconst 2, 1) := by decide +kernel
theorem dL_law_450 : decode cL_law 450 = .ok (.iadd, 1) := by decide +kernel
theorem dL_law_451 : decode cL_law 451 = .ok (.iaload, 1) := by decide +kernel
theorem dL_law_452 : decode cL_law 452 = .ok (.invokevirtual 71, 3) := by decide +kernel
theorem dL_law_455 : decode cL_law 455 = .ok (.aload_n 2, 1) := by decide +kernel
theorem dL_law_456 : decode cL_law 456 = .ok (.aload_n 0, 1) := by decide +kernel
theorem dL_law_457 : decode cL_law 457 = .ok (.iload_n 3, 1) := by decide +kernel
theorem dL_law_458 : decode cL_law 458 = .ok (.iconst 1, 1) := by decide +kernel
theorem dL_law_459 : decode cL_law 459 = .ok (.iadd, 1) := by decide +kernel
theorem dL_law_460 : decode cL_law 460 = .ok (.iaload, 1) := by decide +kernel
theorem dL_law_461 : decode cL_law 461 = .ok (.aload_n 0, 1) := by decide +kernel
theorem dL_law_462 : decode cL_law 462 = .ok (.iload_n 3, 1) := by decide +kernel
theorem dL_law_463 : decode cL_law 463 = .ok (.iconst 2, 1) := by decide +kernel
theorem dL_law_464 : decode cL_law 464 = .ok (.iadd, 1) := by decide +kernel
theorem dL_law_465 : decode cL_law 465 = .ok (.iaload, 1) := by decide +kernel
theorem dL_law_466 : decode cL_law 466 = .ok (.invokevirtual 74, 3) := by decide +kernel
theorem dL_law_469 : decode cL_law 469 = .ok (.if_icmp .eq 296, 3) := by decide +kernel
theorem dL_law_472 : decode cL_law 472 = .ok (.iconst 0, 1) := by decide +kernel
theorem dL_law_473 : decode cL_law 473 = .ok (.ireturn, 1) := by decide +kernel
theorem dL_law_474 : decode cL_law 474 = .ok (.aload_n 1, 1) := by decide +kernel
theorem dL_law_475 : decode cL_law 475 = .ok (.aload_n 0, 1) := by decide +kernel
theorem dL_law_476 : decode cL_law 476 = .ok (.iload_n 3, 1) := by decide +kernel
theorem dL_law_477 : decode cL_law 477 = .ok (.iconst 1, 1) := by decide +kernel
theorem dL_law_478 : decode cL_law 478 = .ok (.iadd, 1) := by decide +kernel
theorem dL_law_479 : decode cL_law 479 = .ok (.iaload, 1) := by decide +kernel
theorem dL_law_480 : decode cL_law 480 = .ok (.aload_n 0, 1) := by decide +kernel
theorem dL_law_481 : decode cL_law 481 = .ok (.iload_n 3, 1) := by decide +kernel
theorem dL_law_482 : decode cL_law 482 = .ok (.iconst 2, 1) := by decide +kernel
theorem dL_law_483 : decode cL_law 483 = .ok (.iadd, 1) := by decide +kernel
theorem dL_law_484 : decode cL_law 484 = .ok (.iaload, 1) := by decide +kernel
theorem dL_law_485 : decode cL_law 485 = .ok (.aload_n 0, 1) := by decide +kernel
theorem dL_law_486 : decode cL_law 486 = .ok (.iload_n 3, 1) := by decide +kernel
theorem dL_law_487 : decode cL_law 487 = .ok (.iconst 3, 1) := by decide +kernel
theorem dL_law_488 : decode cL_law 488 = .ok (.iadd, 1) := by decide +kernel
theorem dL_law_489 : decode cL_law 489 = .ok (.iaload, 1) := by decide +kernel
theorem dL_law_490 : decode cL_law 490 = .ok (.ifCond .eq 7, 3) := by decide +kernel
theorem dL_law_493 : decode cL_law 493 = .ok (.iconst 1, 1) := by decide +kernel
theorem dL_law_494 : decode cL_law 494 = .ok (.goto 4, 3) := by decide +kernel
theorem dL_law_497 : decode cL_law 497 = .ok (.iconst 0, 1) := by decide +kernel
theorem dL_law_498 : decode cL_law 498 = .ok (.invokevirtual 75, 3) := by decide +kernel
theorem dL_law_501 : decode cL_law 501 = .ok (.aload_n 2, 1) := by decide +kernel
theorem dL_law_502 : decode cL_law 502 = .ok (.aload_n 0, 1) := by decide +kernel
theorem dL_law_503 : decode cL_law 503 = .ok (.iload_n 3, 1) := by decide +kernel
theorem dL_law_504 : decode cL_law 504 = .ok (.iconst 1, 1) := by decide +kernel
theorem dL_law_505 : decode cL_law 505 = .ok (.iadd, 1) := by decide +kernel
theorem dL_law_506 : decode cL_law 506 = .ok (.iaload, 1) := by decide +kernel
theorem dL_law_507 : decode cL_law 507 = .ok (.aload_n 0, 1) := by decide +kernel
theorem dL_law_508 : decode cL_law 508 = .ok (.iload_n 3, 1) := by decide +kernel
theorem dL_law_509 : decode cL_law 509 = .ok (.iconst 2, 1) := by decide +kernel
theorem dL_law_510 : decode cL_law 510 = .ok (.iadd, 1) := by decide +kernel
theorem dL_law_511 : decode cL_law 511 = .ok (.iaload, 1) := by decide +kernel
theorem dL_law_512 : decode cL_law 512 = .ok (.aload_n 0, 1) := by decide +kernel
theorem dL_law_513 : decode cL_law 513 = .ok (.iload_n 3, 1) := by decide +kernel
theorem dL_law_514 : decode cL_law 514 = .ok (.iconst 3, 1) := by decide +kernel
theorem dL_law_515 : decode cL_law 515 = .ok (.iadd, 1) := by decide +kernel
theorem dL_law_516 : decode cL_law 516 = .ok (.iaload, 1) := by decide +kernel
theorem dL_law_517 : decode cL_law 517 = .ok (.ifCond .eq 7, 3) := by decide +kernel
theorem dL_law_520 : decode cL_law 520 = .ok (.iconst 1, 1) := by decide +kernel
theorem dL_law_521 : decode cL_law 521 = .ok (.goto 4, 3) := by decide +kernel
theorem dL_law_524 : decode cL_law 524 = .ok (.iconst 0, 1) := by decide +kernel
theorem dL_law_525 : decode cL_law 525 = .ok (.invokevirtual 79, 3) := by decide +kernel
theorem dL_law_528 : decode cL_law 528 = .ok (.if_icmp .eq 237, 3) := by decide +kernel
theorem dL_law_531 : decode cL_law 531 = .ok (.iconst 0, 1) := by decide +kernel
theorem dL_law_532 : decode cL_law 532 = .ok (.ireturn, 1) := by decide +kernel
theorem dL_law_533 : decode cL_law 533 = .ok (.aload_n 1, 1) := by decide +kernel
theorem dL_law_534 : decode cL_law 534 = .ok (.aload_n 0, 1) := by decide +kernel
theorem dL_law_535 : decode cL_law 535 = .ok (.iload_n 3, 1) := by decide +kernel
theorem dL_law_536 : decode cL_law 536 = .ok (.iconst 1, 1) := by decide +kernel
theorem dL_law_537 : decode cL_law 537 = .ok (.iadd, 1) := by decide +kernel
theorem dL_law_538 : decode cL_law 538 = .ok (.iaload, 1) := by decide +kernel
theorem dL_law_539 : decode cL_law 539 = .ok (.aload_n 0, 1) := by decide +kernel
theorem dL_law_540 : decode cL_law 540 = .ok (.iload_n 3, 1) := by decide +kernel
theorem dL_law_541 : decode cL_law 541 = .ok (.iconst 2, 1) := by decide +kernel
theorem dL_law_542 : decode cL_law 542 = .ok (.iadd, 1) := by decide +kernel
theorem dL_law_543 : decode cL_law 543 = .ok (.iaload, 1) := by decide +kernel
theorem dL_law_544 : decode cL_law 544 = .ok (.invokevirtual 80, 3) := by decide +kernel
theorem dL_law_547 : decode cL_law 547 = .ok (.aload_n 2, 1) := by decide +kernel
theorem dL_law_548 : decode cL_law 548 = .ok (.aload_n 0, 1) := by decide +kernel
theorem dL_law_549 : decode cL_law 549 = .ok (.iload_n 3, 1) := by decide +kernel
theorem dL_law_550 : decode cL_law 550 = .ok (.iconst 1, 1) := by decide +kernel
theorem dL_law_551 : decode cL_law 551 = .ok (.iadd, 1) := by decide +kernel
theorem dL_law_552 : decode cL_law 552 = .ok (.iaload, 1) := by decide +kernel
theorem dL_law_553 : decode cL_law 553 = .ok (.aload_n 0, 1) := by decide +kernel
theorem dL_law_554 : decode cL_law 554 = .ok (.iload_n 3, 1) := by decide +kernel
theorem dL_law_555 : decode cL_law 555 = .ok (.iconst 2, 1) := by decide +kernel
theorem dL_law_556 : decode cL_law 556 = .ok (.iadd, 1) := by decide +kernel
theorem dL_law_557 : decode cL_law 557 = .ok (.iaload, 1) := by decide +kernel
theorem dL_law_558 : decode cL_law 558 = .ok (.invokevirtual 83, 3) := by decide +kernel
theorem dL_law_561 : decode cL_law 561 = .ok (.if_icmp .eq 204, 3) := by decide +kernel
theorem dL_law_564 : decode cL_law 564 = .ok (.iconst 0, 1) := by decide +kernel
theorem dL_law_565 : decode cL_law 565 = .ok (.ireturn, 1) := by decide +kernel
theorem dL_law_566 : decode cL_law 566 = .ok (.aload_n 1, 1) := by decide +kernel
theorem dL_law_567 : decode cL_law 567 = .ok (.aload_n 0, 1) := by decide +kernel
theorem dL_law_568 : decode cL_law 568 = .ok (.iload_n 3, 1) := by decide +kernel
theorem dL_law_569 : decode cL_law 569 = .ok (.iconst 1, 1) := by decide +kernel
theorem dL_law_570 : decode cL_law 570 = .ok (.iadd, 1) := by decide +kernel
theorem dL_law_571 : decode cL_law 571 = .ok (.iaload, 1) := by decide +kernel
theorem dL_law_572 : decode cL_law 572 = .ok (.aload_n 0, 1) := by decide +kernel
theorem dL_law_573 : decode cL_law 573 = .ok (.iload_n 3, 1) := by decide +kernel
theorem dL_law_574 : decode cL_law 574 = .ok (.iconst 2, 1) := by decide +kernel
theorem dL_law_575 : decode cL_law 575 = .ok (.iadd, 1) := by decide +kernel
theorem dL_law_576 : decode cL_law 576 = .ok (.iaload, 1) := by decide +kernel
theorem dL_law_577 : decode cL_law 577 = .ok (.invokevirtual 84, 3) := by decide +kernel
theorem dL_law_580 : decode cL_law 580 = .ok (.aload_n 2, 1) := by decide +kernel
theorem dL_law_581 : decode cL_law 581 = .ok (.aload_n 0, 1) := by decide +kernel
theorem dL_law_582 : decode cL_law 582 = .ok (.iload_n 3, 1) := by decide +kernel
theorem dL_law_583 : decode cL_law 583 = .ok (.iconst 1, 1) := by decide +kernel
theorem dL_law_584 : decode cL_law 584 = .ok (.iadd, 1) := by decide +kernel
theorem dL_law_585 : decode cL_law 585 = .ok (.iaload, 1) := by decide +kernel
theorem dL_law_586 : decode cL_law 586 = .ok (.aload_n 0, 1) := by decide +kernel
theorem dL_law_587 : decode cL_law 587 = .ok (.iload_n 3, 1) := by decide +kernel
theorem dL_law_588 : decode cL_law 588 = .ok (.iconst 2, 1) := by decide +kernel
theorem dL_law_589 : decode cL_law 589 = .ok (.iadd, 1) := by decide +kernel
theorem dL_law_590 : decode cL_law 590 = .ok (.iaload, 1) := by decide +kernel
theorem dL_law_591 : decode cL_law 591 = .ok (.invokevirtual 87, 3) := by decide +kernel
theorem dL_law_594 : decode cL_law 594 = .ok (.if_icmp .eq 171, 3) := by decide +kernel
theorem dL_law_597 : decode cL_law 597 = .ok (.iconst 0, 1) := by decide +kernel
theorem dL_law_598 : decode cL_law 598 = .ok (.ireturn, 1) := by decide +kernel
theorem dL_law_599 : decode cL_law 599 = .ok (.aload_n 1, 1) := by decide +kernel
theorem dL_law_600 : decode cL_law 600 = .ok (.aload_n 0, 1) := by decide +kernel
theorem dL_law_601 : decode cL_law 601 = .ok (.iload_n 3, 1) := by decide +kernel
theorem dL_law_602 : decode cL_law 602 = .ok (.iconst 1, 1) := by decide +kernel
theorem dL_law_603 : decode cL_law 603 = .ok (.iadd, 1) := by decide +kernel
theorem dL_law_604 : decode cL_law 604 = .ok (.iaload, 1) := by decide +kernel
theorem dL_law_605 : decode cL_law 605 = .ok (.invokevirtual 88, 3) := by decide +kernel
theorem dL_law_608 : decode cL_law 608 = .ok (.aload_n 2, 1) := by decide +kernel
theorem dL_law_609 : decode cL_law 609 = .ok (.aload_n 0, 1) := by decide +kernel
theorem dL_law_610 : decode cL_law 610 = .ok (.iload_n 3, 1) := by decide +kernel
theorem dL_law_611 : decode cL_law 611 = .ok (.iconst 1, 1) := by decide +kernel
theorem dL_law_612 : decode cL_law 612 = .ok (.iadd, 1) := by decide +kernel
theorem dL_law_613 : decode cL_law 613 = .ok (.iaload, 1) := by decide +kernel
theorem dL_law_614 : decode cL_law 614 = .ok (.invokevirtual 91, 3) := by decide +kernel
theorem dL_law_617 : decode cL_law 617 = .ok (.if_icmp .eq 148, 3) := by decide +kernel
theorem dL_law_620 : decode cL_law 620 = .ok (.iconst 0, 1) := by decide +kernel
theorem dL_law_621 : decode cL_law 621 = .ok (.ireturn, 1) := by decide +kernel
theorem dL_law_622 : decode cL_law 622 = .ok (.aload_n 1, 1) := by decide +kernel
theorem dL_law_623 : decode cL_law 623 = .ok (.invokevirtual 92, 3) := by decide +kernel
theorem dL_law_626 : decode cL_law 626 = .ok (.dstore 4, 2) := by decide +kernel
theorem dL_law_628 : decode cL_law 628 = .ok (.aload_n 2, 1) := by decide +kernel
theorem dL_law_629 : decode cL_law 629 = .ok (.invokevirtual 96, 3) := by decide +kernel
theorem dL_law_632 : decode cL_law 632 = .ok (.dstore 6, 2) := by decide +kernel
theorem dL_law_634 : decode cL_law 634 = .ok (.dload 4, 2) := by decide +kernel
theorem dL_law_636 : decode cL_law 636 = .ok (.dload 6, 2) := by decide +kernel
theorem dL_law_638 : decode cL_law 638 = .ok (.dcmp .l, 1) := by decide +kernel
theorem dL_law_639 : decode cL_law 639 = .ok (.ifCond .eq 21, 3) := by decide +kernel
theorem dL_law_642 : decode cL_law 642 = .ok (.dload 4, 2) := by decide +kernel
theorem dL_law_644 : decode cL_law 644 = .ok (.dload 4, 2) := by decide +kernel
theorem dL_law_646 : decode cL_law 646 = .ok (.dcmp .l, 1) := by decide +kernel
theorem dL_law_647 : decode cL_law 647 = .ok (.ifCond .eq 11, 3) := by decide +kernel
theorem dL_law_650 : decode cL_law 650 = .ok (.dload 6, 2) := by decide +kernel
theorem dL_law_652 : decode cL_law 652 = .ok (.dload 6, 2) := by decide +kernel
theorem dL_law_654 : decode cL_law 654 = .ok (.dcmp .l, 1) := by decide +kernel
theorem dL_law_655 : decode cL_law 655 = .ok (.ifCond .ne 5, 3) := by decide +kernel
theorem dL_law_658 : decode cL_law 658 = .ok (.iconst 0, 1) := by decide +kernel
theorem dL_law_659 : decode cL_law 659 = .ok (.ireturn, 1) := by decide +kernel
theorem dL_law_660 : decode cL_law 660 = .ok (.goto 105, 3) := by decide +kernel
theorem dL_law_663 : decode cL_law 663 = .ok (.aload_n 1, 1) := by decide +kernel
theorem dL_law_664 : decode cL_law 664 = .ok (.aload_n 0, 1) := by decide +kernel
theorem dL_law_665 : decode cL_law 665 = .ok (.iload_n 3, 1) := by decide +kernel
theorem dL_law_666 : decode cL_law 666 = .ok (.iconst 1, 1) := by decide +kernel
theorem dL_law_667 : decode cL_law 667 = .ok (.iadd, 1) := by decide +kernel
theorem dL_law_668 : decode cL_law 668 = .ok (.iaload, 1) := by decide +kernel
theorem dL_law_669 : decode cL_law 669 = .ok (.aload_n 0, 1) := by decide +kernel
theorem dL_law_670 : decode cL_law 670 = .ok (.iload_n 3, 1) := by decide +kernel
theorem dL_law_671 : decode cL_law 671 = .ok (.iconst 2, 1) := by decide +kernel
theorem dL_law_672 : decode cL_law 672 = .ok (.iadd, 1) := by decide +kernel
theorem dL_law_673 : decode cL_law 673 = .ok (.iaload, 1) := by decide +kernel
theorem dL_law_674 : decode cL_law 674 = .ok (.invokevirtual 97, 3) := by decide +kernel
theorem dL_law_677 : decode cL_law 677 = .ok (.aload_n 2, 1) := by decide +kernel
theorem dL_law_678 : decode cL_law 678 = .ok (.aload_n 0, 1) := by decide +kernel
theorem dL_law_679 : decode cL_law 679 = .ok (.iload_n 3, 1) := by decide +kernel
theorem dL_law_680 : decode cL_law 680 = .ok (.iconst 1, 1) := by decide +kernel
theorem dL_law_681 : decode cL_law 681 = .ok (.iadd, 1) := by decide +kernel
theorem dL_law_682 : decode cL_law 682 = .ok (.iaload, 1) := by decide +kernel
theorem dL_law_683 : decode cL_law 683 = .ok (.aload_n 0, 1) := by decide +kernel
theorem dL_law_684 : decode cL_law 684 = .ok (.iload_n 3, 1) := by decide +kernel
theorem dL_law_685 : decode cL_law 685 = .ok (.iconst 2, 1) := by decide +kernel
theorem dL_law_686 : decode cL_law 686 = .ok (.iadd, 1) := by decide +kernel
theorem dL_law_687 : decode cL_law 687 = .ok (.iaload, 1) := by decide +kernel
theorem dL_law_688 : decode cL_law 688 = .ok (.invokevirtual 100, 3) := by decide +kernel
theorem dL_law_691 : decode cL_law 691 = .ok (.if_icmp .eq 74, 3) := by decide +kernel
theorem dL_law_694 : decode cL_law 694 = .ok (.iconst 0, 1) := by decide +kernel
theorem dL_law_695 : decode cL_law 695 = .ok (.ireturn, 1) := by decide +kernel
theorem dL_law_696 : decode cL_law 696 = .ok (.aload_n 1, 1) := by decide +kernel
theorem dL_law_697 : decode cL_law 697 = .ok (.aload_n 0, 1) := by decide +kernel
theorem dL_law_698 : decode cL_law 698 = .ok (.iload_n 3, 1) := by decide +kernel
theorem dL_law_699 : decode cL_law 699 = .ok (.iconst 1, 1) := by decide +kernel
theorem dL_law_700 : decode cL_law 700 = .ok (.iadd, 1) := by decide +kernel
theorem dL_law_701 : decode cL_law 701 = .ok (.iaload, 1) := by decide +kernel
theorem dL_law_702 : decode cL_law 702 = .ok (.invokevirtual 101, 3) := by decide +kernel
theorem dL_law_705 : decode cL_law 705 = .ok (.aload_n 2, 1) := by decide +kernel
theorem dL_law_706 : decode cL_law 706 = .ok (.aload_n 0, 1) := by decide +kernel
theorem dL_law_707 : decode cL_law 707 = .ok (.iload_n 3, 1) := by decide +kernel
theorem dL_law_708 : decode cL_law 708 = .ok (.iconst 1, 1) := by decide +kernel
theorem dL_law_709 : decode cL_law 709 = .ok (.iadd, 1) := by decide +kernel
theorem dL_law_710 : decode cL_law 710 = .ok (.iaload, 1) := by decide +kernel
theorem dL_law_711 : decode cL_law 711 = .ok (.invokevirtual 104, 3) := by decide +kernel
theorem dL_law_714 : decode cL_law 714 = .ok (.if_icmp .eq 51, 3) := by decide +kernel
theorem dL_law_717 : decode cL_law 717 = .ok (.iconst 0, 1) := by decide +kernel
theorem dL_law_718 : decode cL_law 718 = .ok (.ireturn, 1) := by decide +kernel
theorem dL_law_719 : decode cL_law 719 = .ok (.aload_n 1, 1) := by decide +kernel
theorem dL_law_720 : decode cL_law 720 = .ok (.aload_n 0, 1) := by decide +kernel
theorem dL_law_721 : decode cL_law 721 = .ok (.iload_n 3, 1) := by decide +kernel
theorem dL_law_722 : decode cL_law 722 = .ok (.iconst 1, 1) := by decide +kernel
theorem dL_law_723 : decode cL_law 723 = .ok (.iadd, 1) := by decide +kernel
theorem dL_law_724 : decode cL_law 724 = .ok (.iaload, 1) := by decide +kernel
theorem dL_law_725 : decode cL_law 725 = .ok (.invokevirtual 105, 3) := by decide +kernel
theorem dL_law_728 : decode cL_law 728 = .ok (.aload_n 2, 1) := by decide +kernel
theorem dL_law_729 : decode cL_law 729 = .ok (.aload_n 0, 1) := by decide +kernel
theorem dL_law_730 : decode cL_law 730 = .ok (.iload_n 3, 1) := by decide +kernel
theorem dL_law_731 : decode cL_law 731 = .ok (.iconst 1, 1) := by decide +kernel
theorem dL_law_732 : decode cL_law 732 = .ok (.iadd, 1) := by decide +kernel
theorem dL_law_733 : decode cL_law 733 = .ok (.iaload, 1) := by decide +kernel
theorem dL_law_734 : decode cL_law 734 = .ok (.invokevirtual 108, 3) := by decide +kernel
theorem dL_law_737 : decode cL_law 737 = .ok (.if_icmp .eq 28, 3) := by decide +kernel
theorem dL_law_740 : decode cL_law 740 = .ok (.iconst 0, 1) := by decide +kernel
theorem dL_law_741 : decode cL_law 741 = .ok (.ireturn, 1) := by decide +kernel
theorem dL_law_742 : decode cL_law 742 = .ok (.aload_n 1, 1) := by decide +kernel
theorem dL_law_743 : decode cL_law 743 = .ok (.aload_n 0, 1) := by decide +kernel
theorem dL_law_744 : decode cL_law 744 = .ok (.iload_n 3, 1) := by decide +kernel
theorem dL_law_745 : decode cL_law 745 = .ok (.iconst 1, 1) := by decide +kernel
theorem dL_law_746 : decode cL_law 746 = .ok (.iadd, 1) := by decide +kernel
theorem dL_law_747 : decode cL_law 747 = .ok (.iaload, 1) := by decide +kernel
theorem dL_law_748 : decode cL_law 748 = .ok (.invokevirtual 109, 3) := by decide +kernel
theorem dL_law_751 : decode cL_law 751 = .ok (.aload_n 2, 1) := by decide +kernel
theorem dL_law_752 : decode cL_law 752 = .ok (.aload_n 0, 1) := by decide +kernel
theorem dL_law_753 : decode cL_law 753 = .ok (.iload_n 3, 1) := by decide +kernel
theorem dL_law_754 : decode cL_law 754 = .ok (.iconst 1, 1) := by decide +kernel
theorem dL_law_755 : decode cL_law 755 = .ok (.iadd, 1) := by decide +kernel
theorem dL_law_756 : decode cL_law 756 = .ok (.iaload, 1) := by decide +kernel
theorem dL_law_757 : decode cL_law 757 = .ok (.invokevirtual 112, 3) := by decide +kernel
theorem dL_law_760 : decode cL_law 760 = .ok (.if_icmp .eq 5, 3) := by decide +kernel
theorem dL_law_763 : decode cL_law 763 = .ok (.iconst 0, 1) := by decide +kernel
theorem dL_law_764 : decode cL_law 764 = .ok (.ireturn, 1) := by decide +kernel
theorem dL_law_765 : decode cL_law 765 = .ok (.iinc 3 5, 3) := by decide +kernel
theorem dL_law_768 : decode cL_law 768 = .ok (.goto (-750), 3) := by decide +kernel
theorem dL_law_771 : decode cL_law 771 = .ok (.iconst 1, 1) := by decide +kernel
theorem dL_law_772 : decode cL_law 772 = .ok (.ireturn, 1) := by decide +kernel
abbrev vwCl : List vw_C := [(RX1, TX1, 6), (RX2, TX2, 2), (RX3, TX3, 6), (RX4, TX4, 2), (RX5, TX5, 6), (RX6, TX6, 4), (RX7, TX7, 4), (RX8, TX8, 3), (RX10, TX10, 8), (RX11, TX11, 11)]
end
section
/-! the system's own cells: one numbering of all objects, one table of numbers for what they hold -/
def BIG : List Cond := lw_tbl.filter goodWord
theorem big_in {w : Cond} (h : w ∈ lw_tbl) (hg : goodWord w = true) : w ∈ BIG := List.mem_filter.mpr ⟨h, hg⟩
theorem big_good {w : Cond} (h : w ∈ BIG) : (w.onTables && w.keeps) = true ∨ ∃ ty, w = .arrayClass ty := good_of_word (List.mem_filter.mp h).2
theorem goodIn_big {ws : List Cond} (h : ∀ w ∈ ws, w ∈ BIG) : GoodIn BIG ws := fun w hw => ⟨h w hw, big_good (h w hw)⟩
/-- the links between nest mates: they hold at every warmer table, but aren't words of a list -/
def isNest : Cond → Bool
  | .methodLinkNest .. => true
  | .fieldLinkNest .. => true
  | _ => false
def NS (U : State) : Prop := (∀ w ∈ lw_tbl, isNest w = true → va_Nw w U) ∧ va_AO "LineDisc$State" U ∧ va_AO "LineDisc$Word" U
theorem NS.warm {s U : State} (hW : s.WarmedH U.vm) (h : NS s) : NS U := by
  refine ⟨fun w hw hn => ?_, h.2.1.moved hW.alike, h.2.2.moved hW.alike⟩
  have h1 := h.1 w hw hn
  cases w with
  | methodLinkNest a i x b => exact h1.warmM hW
  | fieldLinkNest a i b n d c => exact h1.warmF hW
  | _ => simp [isNest] at hn
theorem NS.same {s U : State} (hW : s.vm = U.vm) (h : NS s) : NS U := by
  have ha : s.vm.Alike U.vm := by rw [hW]; exact Vm.Alike.refl _
  refine ⟨fun w hw hn => ?_, h.2.1.moved ha, h.2.2.moved ha⟩
  have h1 := h.1 w hw hn
  cases w with
  | methodLinkNest a i x b => exact va_Nw.same rfl hW h1
  | fieldLinkNest a i b n d c => exact va_Nw.same rfl hW h1
  | _ => simp [isNest] at hn
/-- what holds, by object and place -/
abbrev HP : Type := Nat → Nat → Int32
/-- the kinds of the objects 0 .. 76: under 10 the place in vwCl; 10 int[], 11 char[], 12 boolean[], 13 State[], 14 Word[] -/
def kdL : List Nat := [8, 5,4,3,10,7,10,10,0, 5,4,3,10,7,10,10,0, 5,4,3,10,7,10,10,0, 1, 13, 5,4,3,10,7,10,10,0, 5,4,3,10,7,10,10,0, 5,4,3,10,7,10,10,0, 5,4,3,10,7,10,10,0, 2, 11, 14, 10, 6, 4, 3, 10, 10, 10, 0, 9, 10, 10, 10, 10, 10, 12]
def lnL : List Nat := [0, 0,0,0,32,0,40,40,0, 0,0,0,32,0,40,40,0, 0,0,0,32,0,40,40,0, 0, 4, 0,0,0,32,0,40,40,0, 0,0,0,32,0,40,40,0, 0,0,0,32,0,40,40,0, 0,0,0,32,0,40,40,0, 0, 60, 10, 40, 0, 0, 0, 32, 3810, 3810, 0, 0, 166, 166, 664, 166, 60, 3810]
def kd (o : Nat) : Nat := kdL.getD o 99
def ln (o : Nat) : Nat := lnL.getD o 0
/-- the fields of a kind -/
def nfL : List Nat := [6, 2, 6, 2, 6, 4, 4, 3, 8, 11]
def nf (c : Nat) : Nat := nfL.getD c 0
/-- where the object lies that a field names, counted from its own object; 0: no reference -/
def off : Nat → Nat → Nat
  | 8, 0 => 1
  | 8, 1 => 9
  | 8, 2 => 17
  | 8, 4 => 25
  | 8, 5 => 59
  | 8, 6 => 63
  | 8, 7 => 69
  | 5, 0 => 1
  | 5, 1 => 2
  | 5, 2 => 4
  | 5, 3 => 7
  | 3, 0 => 1
  | 7, 0 => 1
  | 7, 1 => 2
  | 1, 0 => 1
  | 2, 0 => 1
  | 2, 2 => 2
  | 2, 3 => 3
  | 6, 0 => 1
  | 6, 1 => 2
  | 6, 2 => 4
  | 6, 3 => 5
  | 9, 0 => 1
  | 9, 1 => 2
  | 9, 2 => 3
  | 9, 4 => 4
  | 9, 6 => 5
  | 9, 8 => 6
  | _, _ => 0
/-- tables, first address, array classes, how many objects, addresses of what stands from the start -/
abbrev GM : Type := va_G × Nat × (Nat → ClassId) × Nat × (Nat → Nat)
abbrev gD (G : GM) : va_G := G.1
abbrev gB (G : GM) : Nat := G.2.1
abbrev gC (G : GM) : Nat → ClassId := G.2.2.1
abbrev gN (G : GM) : Nat := G.2.2.2.1
abbrev gA (G : GM) : Nat → Nat := G.2.2.2.2
def ra (G : GM) (o : Nat) : Nat := gB G + o
def AA (G : GM) : Nat → Prop := fun q => gB G ≤ q
def srf (G : GM) (x : Int32) : Option Nat := if x = 0 then none else some (ra G x.toNatClampNeg)
def wrf (G : GM) (x : Int32) : Option Nat := if x = 0 then none else some (gA G (10 + x.toNatClampNeg))
/-- g: how many fields of an object under construction are set -/
def fv (G : GM) (g : Nat → Nat) (h : HP) (o k : Nat) : Value := if off (kd o) k = 0 then .int (h o k) else if k < g o then .ref (ra G (o + off (kd o) k)) else .null
def ent (G : GM) (g : Nat → Nat) (h : HP) (o : Nat) : va_E :=
  if kd o < 10 then .inr (kd o, (List.range (nf (kd o))).map (fv G g h o))
  else if kd o = 13 then .inl (gC G 13, ln o, .inr (.inr (.inr (.inr (fun j => srf G (h o j))))))
  else if kd o = 14 then .inl (gC G 14, ln o, .inr (.inr (.inr (.inr (fun j => wrf G (h o j))))))
  else .inl (gC G (kd o), ln o, .inl (h o))
def wl (G : GM) (n : Nat) (g : Nat → Nat) (h : HP) : va_W := (List.range n).map (fun o => (ra G o, ent G g h o))
def tyG (G : GM) : List (ClassId × FieldType) := [(gC G 10, .int), (gC G 11, .char), (gC G 12, .boolean), (gC G 13, .object "LineDisc$State"), (gC G 14, .object "LineDisc$Word")]
def gF : Nat → Nat := fun _ => 99
theorem wl_at {G : GM} {n : Nat} {g : Nat → Nat} {h : HP} {o : Nat} (ho : o < n) : (wl G n g h)[o]? = some (ra G o, ent G g h o) := by
  simp [wl, ho]
theorem wl_D {G : GM} {n : Nat} {g : Nat → Nat} {h : HP} : va_D (AA G) (wl G n g h) := by
  refine ⟨fun i j p q hi hj e => ?_, fun k q hk => ?_⟩
  · simp only [wl, List.getElem?_map, Option.map_eq_some_iff] at hi hj
    obtain ⟨a, ha, rfl⟩ := hi
    obtain ⟨b, hb, rfl⟩ := hj
    have ra1 : ∀ i a : Nat, (List.range n)[i]? = some a → a = i := by
      intro i a h
      by_cases hi : i < n
      · rw [List.getElem?_range hi] at h
        exact (Option.some.inj h).symm
      · rw [List.getElem?_eq_none (by simpa using Nat.le_of_not_lt hi)] at h
        cases h
    have e1 := ra1 _ _ ha
    have e2 := ra1 _ _ hb
    simp only [ra] at e
    omega
  · simp only [wl, List.getElem?_map, Option.map_eq_some_iff] at hk
    obtain ⟨a, ha, rfl⟩ := hk
    exact Nat.le_add_right _ _
theorem wl_set {G : GM} {n : Nat} {g g' : Nat → Nat} {h h' : HP} {o : Nat} {e : va_E} (he : ent G g' h' o = e) (hk : ∀ j, j ≠ o → ent G g' h' j = ent G g h j) : (wl G n g h).set o (ra G o, e) = wl G n g' h' := by
  refine List.ext_getElem? fun i => ?_
  rw [List.getElem?_set]
  by_cases hi : o = i
  · subst hi
    by_cases ho : o < n
    · simp [wl, ho, he]
    · simp [wl, ho]
  · rw [if_neg hi]
    by_cases hin : i < n
    · simp [wl, hin, hk i (fun e => hi e.symm)]
    · simp [wl, hin]
/-- what is written: one place -/
def hset (h : HP) (o k : Nat) (v : Int32) : HP := fun a j => if a = o ∧ j = k then v else h a j
theorem hset_same {h : HP} {o k : Nat} {v : Int32} : hset h o k v o k = v := by simp [hset]
theorem hset_oth {h : HP} {o k a j : Nat} {v : Int32} (hne : ¬ (a = o ∧ j = k)) : hset h o k v a j = h a j := by simp [hset, hne]
theorem ent_oth {G : GM} {g : Nat → Nat} {h : HP} {o k : Nat} {v : Int32} {j : Nat} (hj : j ≠ o) : ent G g (hset h o k v) j = ent G g h j := by
  have e : (hset h o k v) j = h j := by
    funext i
    simp [hset, hj]
  have e2 : fv G g (hset h o k v) j = fv G g h j := by
    funext i
    simp [fv, e]
  simp [ent, e, e2]
/-! what stands from the start, and is never written -/
def strL : List (List Int32) := [[115,99,114,97,116,99,104,61],[112,111,108,105,115,104,61],[115,101,101,107,61],[112,108,97,121,61],[112,114,101,115,115,61],[65,45,65,64,84,45,84],[68],[70],[78],[70,46,80,58,83]]
def lenL : List Nat := [8, 7, 5, 5, 6, 7, 1, 1, 1, 5]
def ST (G : GM) (U : State) (H : Heap) : Prop :=
  va_Z "LineDisc" "WORDS" "[LLineDisc$Word;" (.ref (gA G 0)) (AA G) U H ∧ va_T (.object "LineDisc$Word") (gA G 0) 5 (fun i => .ref (gA G (11 + i))) (AA G) U H ∧
  va_Z "LineDisc$1" "$SwitchMap$LineDisc$Word" "[I" (.ref (gA G 1)) (AA G) U H ∧ va_T .int (gA G 1) 5 (fun i => .int (nI (i + 1))) (AA G) U H ∧
  va_Ef 5 "java/lang/Enum" "ordinal" "I" (fun i => .int (nI i)) (fun i => gA G (11 + i)) (AA G) U H ∧
  va_Ef 5 "LineDisc$Word" "letters" "Ljava/lang/String;" (fun i => .ref (gA G (20 + i))) (fun i => gA G (11 + i)) (AA G) U H ∧
  va_Ef 5 "LineDisc$Word" "form" "Ljava/lang/String;" (fun i => .ref (gA G (25 + i))) (fun i => gA G (11 + i)) (AA G) U H ∧
  (∀ i, i < 5 → va_O "LineDisc$Word" (gA G (11 + i)) (AA G) U H) ∧
  vk_S 10 lenL strL (fun i => gA G (20 + i)) (fun i => gA G (30 + i)) (AA G) U H ∧
  va_Z "java/lang/String" "COMPACT_STRINGS" "Z" (.int 1) (AA G) U H ∧
  va_Zq "jdk/internal/util/Preconditions" "SIOOBE_FORMATTER" "Ljava/util/function/BiFunction;" (AA G) U H
theorem ST.moved {G : GM} {u U : State} {H : Heap} (hvm : u.vm.Alike U.vm) (h : ST G u H) : ST G U H := by
  obtain ⟨h1, h2, h3, h4, h5, h6, h7, h8, h9, h10, h11⟩ := h
  exact ⟨h1.moved hvm, h2.moved hvm, h3.moved hvm, h4.moved hvm, h5.moved hvm, h6.moved hvm, h7.moved hvm, fun i hi => (h8 i hi).moved hvm, h9.moved hvm, h10.moved hvm, h11.moved hvm⟩
theorem ST.kept {G : GM} {U : State} {H H1 : Heap} (h : ST G U H) (hq : ∀ a : Nat, a < H.size → ¬ AA G a → H1[a]? = H[a]?) : ST G U H1 := by
  obtain ⟨h1, h2, h3, h4, h5, h6, h7, h8, h9, h10, h11⟩ := h
  exact ⟨h1.kept hq, h2.kept hq, h3.kept hq, h4.kept hq, h5.kept hq, h6.kept hq, h7.kept hq, fun i hi => (h8 i hi).kept hq, h9.kept hq, h10.kept hq, h11.kept hq⟩
/-- a method's world -/
def WU (G : GM) (h : HP) (U : State) : Prop := va_P (gD G) vwCl (wl G (gN G) gF h) U.heap ∧ va_K (gD G) vwCl (tyG G) U ∧ ST G U U.heap ∧ NS U ∧ gB G ≤ U.heap.size
/-- the heap at a point of a walk -/
def HW (G : GM) (h : HP) (s : State) (H : Heap) (locs : List Loc) : Prop := va_P (gD G) vwCl (wl G (gN G) gF h) H ∧ va_S (AA G) s.heap H locs
/-- what stays through a walk -/
def ZK (G : GM) (s : State) (args : Array Value) (m : MethodId) (own : String) : Prop := (∀ w ∈ BIG, w.before args s = true) ∧ s.vm.findClass own = some m.cls ∧ va_K (gD G) vwCl (tyG G) s ∧ ST G s s.heap ∧ NS s ∧ gB G ≤ s.heap.size
theorem HW.WU {G : GM} {h : HP} {s U : State} {H : Heap} {locs : List Loc} {args : Array Value} {m : MethodId} {own : String} (Z : ZK G s args m own) (hw : HW G h s H locs) (hU : U.heap = H) (hvm : s.WarmedH U.vm) : WU G h U := by
  refine ⟨by rw [hU]; exact hw.1, Z.2.2.1.moved hvm.alike, ?_, Z.2.2.2.2.1.warm hvm, by rw [hU]; exact Nat.le_trans Z.2.2.2.2.2 hw.2.1⟩
  rw [hU]
  exact (Z.2.2.2.1.kept hw.2.2.1).moved hvm.alike
theorem WU.blind {G : GM} {h : HP} {av : List Value} : FrameBlind (va_Pc av (WU G h)) := by
  intro a U g mk q
  obtain ⟨q0, q1, q2, q3, q4, q5⟩ := q
  exact ⟨q0, q1, va_K.moved (u := U) (U := U.calling g mk a) (Vm.Alike.refl U.vm) q2, ST.moved (u := U) (U := U.calling g mk a) (Vm.Alike.refl U.vm) q3, NS.same (s := U) (U := U.calling g mk a) rfl q4, q5⟩
/-- a contract: over any heap that holds h the method returns rv, and the heap holds h' -/
def QM (G : GM) (rv : Option Value) (h' : HP) : Array Value → State → Outcome → State → Prop := fun _ st o t => (o = .returned rv ∧ va_P (gD G) vwCl (wl G (gN G) gF h') t.heap) ∧ va_F (AA G) st t
abbrev rmD (d : Nat) : Room := { frames := d + 1, cells := 0, slots := 0, locals := 40 * (d + 1) }
def MC (G : GM) (l : Launch) (y : MethodName) (cc : ByteArray) (mL : Nat) (ret : Option FieldType) (d : Nat) (av : List Value) (h h' : HP) (rv : Option Value) : Prop :=
  Met l y (.code y cc mL ret :: BIG) (rmD d) (va_Pc av (WU G h)) (QM G rv h') 0 0 (AA G)
abbrev WZ (p : Program) (l : Launch) (e : Env) (d : Nat) (s : State) (m : MethodId) (args : Array Value) (below : List Frame) (meth : Method) (c : Code) (G : GM) (rv : Option Value) (h' : HP) (H : Heap) (locs : List Loc) (g : JFrame) : Prop := W p l e (rmD d) s m args below meth c H locs 0 0 (MQ below (QM G rv h') args s 0 0 (AA G)) g
/-- a walk's start -/
theorem z_start {G : GM} {l : Launch} {y : MethodName} {cc : ByteArray} {mL : Nat} {ret : Option FieldType} {d : Nat} {av : List Value} {h h' : HP} {rv : Option Value} (hy : plainName y.cls = true) (hal : (lg_sl av).length ≤ mL)
    (body : ∀ (p : Program) (e : Env) (s : State) (m : MethodId) (args : Array Value) (below : List Frame) (meth : Method) (c : Code) (ls : Array Slot), p.tables.exec = Jvm.exec → c.code = cc → meth.sig.returnType = ret → meth.locks = false → c.maxLocals = mL → ZK G s args m y.cls → HW G h s s.heap [] → lv_has ls mL (lv_args 0 av) → WZ p l e d s m args below meth c G rv h' s.heap [] (F0 m 0 ls [])) : MC G l y cc mL ret d av h h' rv := by
  refine Met.ofW (cc := cc) (maxL := mL) (ret := ret) hy rfl ?_
  intro p e s m args below meth c s₁ B hml hv
  obtain ⟨rfl, hP, hK, hT, hN, hz⟩ := hv
  have hts := atoms_spec (ws := Cond.code y cc mL ret :: BIG) B.pre
  have hown : s.vm.findClass y.cls = some m.cls := findClass_of_methodNamed B.named
  have hl := lv_entry av (n := mL) hal
  rw [lg_entry_eq]
  exact body p e s m av.toArray below meth c _ B.exec B.bytes B.returns B.notSynchronized hml ⟨fun w hw => hts w (List.mem_cons_of_mem _ hw), hown, hK, hT, hN, hz⟩ ⟨hP, va_S.rf⟩ hl
def inB (i : Int32) (n : Nat) : Bool := !(decide (i < 0) || decide (n ≤ i.toNatClampNeg))
theorem inB_vp {i : Int32} {n : Nat} (h : inB i n = true) : vp_in i n := by
  simpa [inB, vp_in] using h
theorem ent_I {G : GM} {g : Nat → Nat} {h : HP} {o : Nat} {k : Nat} (hk : kd o = k) (h3 : k = 10 ∨ k = 11 ∨ k = 12) : ent G g h o = .inl (gC G k, ln o, .inl (h o)) := by
  subst hk
  rcases h3 with h3 | h3 | h3 <;> simp [ent, h3]
theorem ent_S {G : GM} {g : Nat → Nat} {h : HP} {o : Nat} (hk : kd o = 13) : ent G g h o = .inl (gC G 13, ln o, .inr (.inr (.inr (.inr (fun j => srf G (h o j)))))) := by
  simp [ent, hk]
theorem ent_W {G : GM} {g : Nat → Nat} {h : HP} {o : Nat} (hk : kd o = 14) : ent G g h o = .inl (gC G 14, ln o, .inr (.inr (.inr (.inr (fun j => wrf G (h o j)))))) := by
  simp [ent, hk]
theorem map_range_set {α : Type} {f : Nat → α} {N k : Nat} {x : α} : ((List.range N).map f).set k x = (List.range N).map (fun j => if j = k then x else f j) := by
  refine List.ext_getElem? fun i => ?_
  rw [List.getElem?_set]
  by_cases hi : k = i
  · subst hi
    by_cases hN : k < N
    · simp [hN]
    · simp [hN]
  · rw [if_neg hi]
    by_cases hN : i < N
    · have hi2 : ¬ i = k := fun e => hi e.symm
      simp [hN, hi2]
    · simp [hN]
theorem fv_set {G : GM} {g : Nat → Nat} {h : HP} {o k j : Nat} {v : Int32} (h0 : off (kd o) k = 0) : fv G g (hset h o k v) o j = if j = k then .int v else fv G g h o j := by
  by_cases hj : j = k
  · subst hj
    simp [fv, h0, hset]
  · simp [fv, hset, hj]
section ZR
variable {p : Program} {l : Launch} {e : Env} {R : Room} {s : State} {m : MethodId} {args : Array Value} {below : List Frame} {meth : Method} {c : Code} {H : Heap} {locs : List Loc} {cells slots : Nat} {Q : State → Prop}
variable {cc : ByteArray} {pc : Nat} {ls : Array Slot} {rest : List Value} {G : GM} {h : HP} {own : String}
theorem z_geti (hx : p.tables.exec = Jvm.exec) (hb : c.code = cc) (Z : ZK G s args m own) (hw : HW G h s H locs) {o ci k index : Nat} {C : String} {T : u_T} {N : Nat} (ho : kd o = ci) (hn : o < gN G) (hc : vwCl[ci]? = some (C, T, N)) (hin : ∀ w ∈ u_ws C T N, w ∈ BIG) (hq : ci < 10 ∧ nf ci = N ∧ k < N ∧ off ci k = 0) (hl : Cond.fieldLink own index (T k).1 (T k).2.1 (T k).2.2.1 ∈ BIG) (hdg : decode cc pc = .ok (.getfield index, 3))
    (kk : W p l e R s m args below meth c H locs cells slots Q (F0 m (pc + 3) ls (.int (h o k) :: rest))) : W p l e R s m args below meth c H locs cells slots Q (F0 m pc ls (.ref (ra G o) :: rest)) := by
  subst ho
  obtain ⟨h1, h2, h3, h4⟩ := hq
  refine va_get (D := gD G) (ci := kd o) (v := .int (h o k)) (C := C) (T := T) (N := N) hx hb Z.1 hin Z.2.1 Z.2.2.1 hw.1 o (fs := (List.range (nf (kd o))).map (fv G gF h o)) ?_ hc k h3 (Z.1 _ hl) (fun _ q => q) ?_ hdg kk
  · rw [wl_at hn, ent, if_pos h1]
  · rw [List.getElem?_map, List.getElem?_range (by omega)]
    simp [fv, h4]
theorem z_getr (hx : p.tables.exec = Jvm.exec) (hb : c.code = cc) (Z : ZK G s args m own) (hw : HW G h s H locs) {o ci k index o2 : Nat} {C : String} {T : u_T} {N : Nat} (ho : kd o = ci) (hn : o < gN G) (hc : vwCl[ci]? = some (C, T, N)) (hin : ∀ w ∈ u_ws C T N, w ∈ BIG) (hq : ci < 10 ∧ nf ci = N ∧ k < N ∧ 0 < off ci k ∧ k < 99) (h2 : o + off ci k = o2) (hl : Cond.fieldLink own index (T k).1 (T k).2.1 (T k).2.2.1 ∈ BIG) (hdg : decode cc pc = .ok (.getfield index, 3))
    (kk : W p l e R s m args below meth c H locs cells slots Q (F0 m (pc + 3) ls (.ref (ra G o2) :: rest))) : W p l e R s m args below meth c H locs cells slots Q (F0 m pc ls (.ref (ra G o) :: rest)) := by
  subst ho; subst h2
  obtain ⟨h1, h2, h3, h4, h5⟩ := hq
  refine va_get (D := gD G) (ci := kd o) (v := .ref (ra G (o + off (kd o) k))) (C := C) (T := T) (N := N) hx hb Z.1 hin Z.2.1 Z.2.2.1 hw.1 o (fs := (List.range (nf (kd o))).map (fv G gF h o)) ?_ hc k h3 (Z.1 _ hl) (fun _ q => q) ?_ hdg kk
  · rw [wl_at hn, ent, if_pos h1]
  · rw [List.getElem?_map, List.getElem?_range (by omega)]
    have h6 : ¬ off (kd o) k = 0 := by omega
    simp [fv, h6, gF, h5]
theorem z_puti (hx : p.tables.exec = Jvm.exec) (hb : c.code = cc) (Z : ZK G s args m own) (hw : HW G h s H locs) {o ci k index : Nat} {C : String} {T : u_T} {N : Nat} {ty : FieldType} {v : Int32} (ho : kd o = ci) (hn : o < gN G) (hc : vwCl[ci]? = some (C, T, N)) (hin : ∀ w ∈ u_ws C T N, w ∈ BIG) (ty0 : Nat → FieldType) (hty : ∀ k, k < N → parseFieldDescriptor (T k).2.2.1 = some (ty0 k)) (hnm : ∀ a, a < N → ∀ b, b < N → a ≠ b → (T a).2.1 ≠ (T b).2.1)
    (hq : ci < 10 ∧ nf ci = N ∧ k < N ∧ off ci k = 0) (hl : Cond.fieldLink own index (T k).1 (T k).2.1 (T k).2.2.1 ∈ BIG) (hfin : (T k).2.2.2 = false) (hd : parseFieldDescriptor (T k).2.2.1 = some ty) (hna : narrow ty (.int v) = .int v) (hfit : fits ty (.int v) = true) (hdg : decode cc pc = .ok (.putfield index, 3))
    (kk : ∀ (H1 : Heap) (locs1 : List Loc), HW G (hset h o k v) s H1 locs1 → W p l e R s m args below meth c H1 locs1 cells slots Q (F0 m (pc + 3) ls rest)) : W p l e R s m args below meth c H locs cells slots Q (F0 m pc ls (.int v :: .ref (ra G o) :: rest)) := by
  subst ho
  obtain ⟨h1, h2, h3, h4⟩ := hq
  refine va_put (D := gD G) (ci := kd o) (v := .int v) (ty := ty) (C := C) (T := T) (N := N) hx hb Z.1 hin ty0 hty hnm Z.2.1 Z.2.2.1 hw.1 (wl_D (G := G)) hw.2 o (fs := (List.range (nf (kd o))).map (fv G gF h o)) ?_ hc k h3 (Z.1 _ hl) (fun _ q => q) hfin hd hna hfit ?_ hdg (fun H1 locs1 hP1 _ hS1 => kk H1 locs1 ⟨?_, hS1⟩)
  · rw [wl_at hn, ent, if_pos h1]
  · simp [h2, h3]
  · rw [wl_set (g' := gF) (h' := hset h o k v) ?_ (fun j hj => ent_oth hj)] at hP1
    · exact hP1
    · rw [ent, if_pos h1, map_range_set]
      have e2 : fv G gF (hset h o k v) o = fun j => if j = k then .int v else fv G gF h o j := by
        funext j
        exact fv_set h4
      rw [e2]
theorem z_alen (hx : p.tables.exec = Jvm.exec) (hb : c.code = cc) (Z : ZK G s args m own) (hw : HW G h s H locs) {o : Nat} {v : Int32} (ho : 10 ≤ kd o ∧ kd o < 15) (hn : o < gN G) (hv : Int32.ofNat (ln o) = v) (hdg : decode cc pc = .ok (.arraylength, 1))
    (kk : W p l e R s m args below meth c H locs cells slots Q (F0 m (pc + 1) ls (.int v :: rest))) : W p l e R s m args below meth c H locs cells slots Q (F0 m pc ls (.ref (ra G o) :: rest)) := by
  have hk : kd o = 10 ∨ kd o = 11 ∨ kd o = 12 ∨ kd o = 13 ∨ kd o = 14 := by omega
  have ha := wl_at (G := G) (g := gF) (h := h) hn
  rcases hk with k | k | k | k | k
  · rw [ent_I k (by decide)] at ha
    exact va_alen hx hb Z.2.2.1 hw.1 o 0 ha rfl hv hdg kk
  · rw [ent_I k (by decide)] at ha
    exact va_alen hx hb Z.2.2.1 hw.1 o 1 ha rfl hv hdg kk
  · rw [ent_I k (by decide)] at ha
    exact va_alen hx hb Z.2.2.1 hw.1 o 2 ha rfl hv hdg kk
  · rw [ent_S k] at ha
    exact va_alen hx hb Z.2.2.1 hw.1 o 3 ha rfl hv hdg kk
  · rw [ent_W k] at ha
    exact va_alen hx hb Z.2.2.1 hw.1 o 4 ha rfl hv hdg kk
theorem z_iald (hx : p.tables.exec = Jvm.exec) (hb : c.code = cc) (Z : ZK G s args m own) (hw : HW G h s H locs) {o : Nat} {i : Int32} (ho : kd o = 10) (hn : o < gN G) (hin : vp_in i (ln o)) (hdg : decode cc pc = .ok (.iaload, 1))
    (kk : W p l e R s m args below meth c H locs cells slots Q (F0 m (pc + 1) ls (.int (h o i.toNatClampNeg) :: rest))) : W p l e R s m args below meth c H locs cells slots Q (F0 m pc ls (.int i :: .ref (ra G o) :: rest)) :=
  va_iald hx hb Z.2.2.1 hw.1 o 0 ((wl_at hn).trans (congrArg (fun x => some (ra G o, x)) (ent_I ho (by decide)))) rfl hin hdg kk
theorem z_cald (hx : p.tables.exec = Jvm.exec) (hb : c.code = cc) (Z : ZK G s args m own) (hw : HW G h s H locs) {o : Nat} {i : Int32} (ho : kd o = 11) (hn : o < gN G) (hin : vp_in i (ln o)) (hdg : decode cc pc = .ok (.caload, 1))
    (kk : W p l e R s m args below meth c H locs cells slots Q (F0 m (pc + 1) ls (.int (h o i.toNatClampNeg) :: rest))) : W p l e R s m args below meth c H locs cells slots Q (F0 m pc ls (.int i :: .ref (ra G o) :: rest)) :=
  va_cald hx hb Z.2.2.1 hw.1 o 1 ((wl_at hn).trans (congrArg (fun x => some (ra G o, x)) (ent_I ho (by decide)))) rfl hin hdg kk
theorem z_zald (hx : p.tables.exec = Jvm.exec) (hb : c.code = cc) (Z : ZK G s args m own) (hw : HW G h s H locs) {o : Nat} {i : Int32} (ho : kd o = 12) (hn : o < gN G) (hin : vp_in i (ln o)) (hdg : decode cc pc = .ok (.baload, 1))
    (kk : W p l e R s m args below meth c H locs cells slots Q (F0 m (pc + 1) ls (.int (h o i.toNatClampNeg) :: rest))) : W p l e R s m args below meth c H locs cells slots Q (F0 m pc ls (.int i :: .ref (ra G o) :: rest)) :=
  va_zald hx hb Z.2.2.1 hw.1 o 2 ((wl_at hn).trans (congrArg (fun x => some (ra G o, x)) (ent_I ho (by decide)))) rfl hin hdg kk
theorem z_sald (hx : p.tables.exec = Jvm.exec) (hb : c.code = cc) (Z : ZK G s args m own) (hw : HW G h s H locs) {o : Nat} {i : Int32} (ho : kd o = 13) (hn : o < gN G) (hin : vp_in i (ln o)) (hdg : decode cc pc = .ok (.aaload, 1))
    (kk : W p l e R s m args below meth c H locs cells slots Q (F0 m (pc + 1) ls (va_rf (srf G (h o i.toNatClampNeg)) :: rest))) : W p l e R s m args below meth c H locs cells slots Q (F0 m pc ls (.int i :: .ref (ra G o) :: rest)) :=
  va_aldq hx hb Z.2.2.1 hw.1 o 3 ((wl_at hn).trans (congrArg (fun x => some (ra G o, x)) (ent_S ho))) rfl hin hdg kk
theorem z_wald (hx : p.tables.exec = Jvm.exec) (hb : c.code = cc) (Z : ZK G s args m own) (hw : HW G h s H locs) {o : Nat} {i : Int32} (ho : kd o = 14) (hn : o < gN G) (hin : vp_in i (ln o)) (hdg : decode cc pc = .ok (.aaload, 1))
    (kk : W p l e R s m args below meth c H locs cells slots Q (F0 m (pc + 1) ls (va_rf (wrf G (h o i.toNatClampNeg)) :: rest))) : W p l e R s m args below meth c H locs cells slots Q (F0 m pc ls (.int i :: .ref (ra G o) :: rest)) :=
  va_aldq hx hb Z.2.2.1 hw.1 o 4 ((wl_at hn).trans (congrArg (fun x => some (ra G o, x)) (ent_W ho))) rfl hin hdg kk
theorem hset_upd {o k : Nat} {v : Int32} : hset h o k v o = upd (h o) k v := by
  funext j
  simp [hset, upd]
theorem HW.arr {H1 : Heap} {locs1 : List Loc} {o k : Nat} {v : Int32} {kk : Nat} (hk : kd o = kk) (h3 : kk = 10 ∨ kk = 11 ∨ kk = 12) (hP : va_P (gD G) vwCl ((wl G (gN G) gF h).set o (ra G o, .inl (gC G kk, ln o, .inl (upd (h o) k v)))) H1) (hS : va_S (AA G) s.heap H1 locs1) : HW G (hset h o k v) s H1 locs1 := by
  refine ⟨?_, hS⟩
  rw [wl_set (g' := gF) (h' := hset h o k v) ?_ (fun j hj => ent_oth hj)] at hP
  · exact hP
  · rw [ent_I hk h3, hset_upd]
theorem z_iast (hx : p.tables.exec = Jvm.exec) (hb : c.code = cc) (Z : ZK G s args m own) (hw : HW G h s H locs) {o : Nat} {i v : Int32} (ho : kd o = 10) (hn : o < gN G) (hin : vp_in i (ln o)) (hdg : decode cc pc = .ok (.iastore, 1))
    (kk : ∀ (H1 : Heap) (locs1 : List Loc), HW G (hset h o i.toNatClampNeg v) s H1 locs1 → W p l e R s m args below meth c H1 locs1 cells slots Q (F0 m (pc + 1) ls rest)) : W p l e R s m args below meth c H locs cells slots Q (F0 m pc ls (.int v :: .int i :: .ref (ra G o) :: rest)) :=
  va_iast hx hb Z.2.2.1 hw.1 (wl_D (G := G)) hw.2 o 0 ((wl_at hn).trans (congrArg (fun x => some (ra G o, x)) (ent_I ho (by decide)))) rfl hin hdg (fun H1 locs1 hP _ hS => kk H1 locs1 (HW.arr ho (by decide) hP hS))
theorem z_zast (hx : p.tables.exec = Jvm.exec) (hb : c.code = cc) (Z : ZK G s args m own) (hw : HW G h s H locs) {o : Nat} {i v : Int32} (ho : kd o = 12) (hn : o < gN G) (hin : vp_in i (ln o)) (hdg : decode cc pc = .ok (.bastore, 1))
    (kk : ∀ (H1 : Heap) (locs1 : List Loc), HW G (hset h o i.toNatClampNeg (vp_nar .boolean v)) s H1 locs1 → W p l e R s m args below meth c H1 locs1 cells slots Q (F0 m (pc + 1) ls rest)) : W p l e R s m args below meth c H locs cells slots Q (F0 m pc ls (.int v :: .int i :: .ref (ra G o) :: rest)) :=
  va_zast hx hb Z.2.2.1 hw.1 (wl_D (G := G)) hw.2 o 2 ((wl_at hn).trans (congrArg (fun x => some (ra G o, x)) (ent_I ho (by decide)))) rfl hin hdg (fun H1 locs1 hP _ hS => kk H1 locs1 (HW.arr ho (by decide) hP hS))
theorem z_cast (hx : p.tables.exec = Jvm.exec) (hb : c.code = cc) (Z : ZK G s args m own) (hw : HW G h s H locs) {o : Nat} {i v : Int32} (ho : kd o = 11) (hn : o < gN G) (hin : vp_in i (ln o)) (hdg : decode cc pc = .ok (.castore, 1))
    (kk : ∀ (H1 : Heap) (locs1 : List Loc), HW G (hset h o i.toNatClampNeg (vp_nar .char v)) s H1 locs1 → W p l e R s m args below meth c H1 locs1 cells slots Q (F0 m (pc + 1) ls rest)) : W p l e R s m args below meth c H locs cells slots Q (F0 m pc ls (.int v :: .int i :: .ref (ra G o) :: rest)) :=
  va_cast hx hb Z.2.2.1 hw.1 (wl_D (G := G)) hw.2 o 1 ((wl_at hn).trans (congrArg (fun x => some (ra G o, x)) (ent_I ho (by decide)))) rfl hin hdg (fun H1 locs1 hP _ hS => kk H1 locs1 (HW.arr ho (by decide) hP hS))
theorem z_go {d : Nat} {rv : Option Value} {h1 : HP} {st0 : List Value} {a : Array Value} (hr : va_Run p l e (rmD d) s m args below meth c H locs 0 0 0 0 (F0 m pc ls st0) rest (QM G rv h1 a) (AA G)) (hw : HW G h s H locs)
    (kk : ∀ (H1 : Heap) (locs1 : List Loc), HW G h1 s H1 locs1 → W p l e (rmD d) s m args below meth c H1 locs1 0 0 Q (F0 m (pc + 3) ls (rv.toList ++ rest))) : W p l e (rmD d) s m args below meth c H locs 0 0 Q (F0 m pc ls st0) := by
  intro T hT X
  obtain ⟨v, st₀, t, T', L, h0, X', hL, e1, e2, ⟨⟨hv, hP⟩, hz, hk⟩, st⟩ := hr T hT X
  cases hv
  rw [h0] at hz hk
  have hS := hw.2
  obtain ⟨t2, a1, b1⟩ := kk T'.heap (locs ++ L) ⟨by rw [e1]; exact hP, Nat.le_trans hS.1 (by rw [e1]; exact hz), fun q h1 h2 => by rw [e1, hk q (Nat.lt_of_lt_of_le h1 hS.1) h2]; exact hS.2.1 q h1 h2, fun q hq => by
      rcases List.mem_append.mp hq with h | h
      · exact hS.2.2 q h
      · exact hL q h⟩ T' rfl X'
  exact ⟨t2, st t2 a1, b1⟩
/-- what a callee's own row of the tables says -/
def CV (y : MethodName) (bytes : ByteArray) (mL : Nat) (ret : Option FieldType) (n : Nat) : Prop := Cond.instanceMethod y ∈ BIG ∧ Cond.selects y.cls y y ∈ BIG ∧ Cond.initialized y.cls ∈ BIG ∧ Cond.code y bytes mL ret ∈ BIG ∧ (y.cls ≠ "java/lang/invoke/MethodHandle" ∧ y.cls ≠ "java/lang/invoke/VarHandle" ∧ (parseMethodDescriptor y.desc).map (fun d => d.parameters.length) = some n) ∧ mL ≤ 20
def CS (y : MethodName) (bytes : ByteArray) (mL : Nat) (ret : Option FieldType) (n : Nat) : Prop := Cond.static y ∈ BIG ∧ Cond.initialized y.cls ∈ BIG ∧ Cond.code y bytes mL ret ∈ BIG ∧ (y.cls ≠ "java/lang/invoke/MethodHandle" ∧ y.cls ≠ "java/lang/invoke/VarHandle" ∧ (parseMethodDescriptor y.desc).map (fun d => d.parameters.length) = some n) ∧ mL ≤ 20
theorem z_room {d d1 mL : Nat} (hd : d1 < d) (hm : mL ≤ 20) : (rmD d1).frames + 1 ≤ (rmD d).frames ∧ 8 + (mL + 11) + (rmD d1).locals ≤ (rmD d).locals := by
  refine ⟨?_, ?_⟩
  · show d1 + 1 + 1 ≤ d + 1
    omega
  · show 8 + (mL + 11) + 40 * (d1 + 1) ≤ 40 * (d + 1)
    omega
theorem z_callV {d d1 n index nL mL o ci : Nat} {rv : Option Value} {h1 : HP} {y : MethodName} {bytes : ByteArray} {ret : Option FieldType} {As st0 : List Value} {q : vw_C} (hM : MC G l y bytes mL ret d1 (.ref (ra G o) :: As) h h1 rv) (F : CV y bytes mL ret n) (hx : p.tables.exec = Jvm.exec) (hb : c.code = cc) (hml : c.maxLocals = nL) (hls : ls.size = nL) (Z : ZK G s args m own) (hw : HW G h s H locs)
    (ho : kd o = ci) (hci : ci < 10) (hn : o < gN G) (hc : vwCl[ci]? = some q) (hqc : q.1 = y.cls) (hl : Cond.methodLink own index y ∈ BIG) (hst : st0 = As.reverse ++ .ref (ra G o) :: rest) (hln : As.length = n) (hrs : (rest.map fun v => v.category).sum ≤ 8) (hd : d1 < d) (hdg : decode cc pc = .ok (.invokevirtual index, 3))
    (kk : ∀ (H1 : Heap) (locs1 : List Loc), HW G h1 s H1 locs1 → W p l e (rmD d) s m args below meth c H1 locs1 0 0 Q (F0 m (pc + 3) ls (rv.toList ++ rest))) : W p l e (rmD d) s m args below meth c H locs 0 0 Q (F0 m pc ls st0) := by
  obtain ⟨f1, f2, f3, f4, f5, f6⟩ := F
  subst ho
  have hat : (wl G (gN G) gF h)[o]? = some (ra G o, .inr (kd o, (List.range (nf (kd o))).map (fv G gF h o))) := by rw [wl_at hn, ent, if_pos hci]
  refine z_go (va_runV (As := As) (rest := rest) (C := y.cls) ⟨hx, hb, hml, Z.2.1, Z.1⟩ hM (cwV n Z.1 (goodIn_big ?_) rfl rfl rfl ⟨rfl, f5⟩ (z_room hd f6)) ⟨WU.blind, ?_, fun U hU hW => ⟨rfl, hw.WU Z hU hW⟩⟩ rfl hln hls hst (lv_room hrs) hdg ⟨Nat.le_refl _, Nat.le_refl _⟩) hw kk
  · intro w hm
    simp only [wsV, List.mem_append, List.mem_cons, List.not_mem_nil, or_false] at hm
    rcases hm with (rfl | rfl | rfl | rfl) | rfl | hm
    · exact hl
    · exact f1
    · exact f2
    · exact f3
    · exact f4
    · exact hm
  · rw [← hqc]
    exact va_recv Z.2.2.1 hw.1 hc hat
theorem z_callS {d d1 n index nL mL : Nat} {rv : Option Value} {h1 : HP} {y : MethodName} {bytes : ByteArray} {ret : Option FieldType} {As st0 : List Value} (hM : MC G l y bytes mL ret d1 As h h1 rv) (F : CS y bytes mL ret n) (hx : p.tables.exec = Jvm.exec) (hb : c.code = cc) (hml : c.maxLocals = nL) (hls : ls.size = nL) (Z : ZK G s args m own) (hw : HW G h s H locs)
    (hl : Cond.methodLink own index y ∈ BIG) (hst : st0 = As.reverse ++ rest) (hln : As.length = n) (hrs : (rest.map fun v => v.category).sum ≤ 8) (hd : d1 < d) (hdg : decode cc pc = .ok (.invokestatic index, 3))
    (kk : ∀ (H1 : Heap) (locs1 : List Loc), HW G h1 s H1 locs1 → W p l e (rmD d) s m args below meth c H1 locs1 0 0 Q (F0 m (pc + 3) ls (rv.toList ++ rest))) : W p l e (rmD d) s m args below meth c H locs 0 0 Q (F0 m pc ls st0) := by
  obtain ⟨f1, f3, f4, f5, f6⟩ := F
  refine z_go (va_runS (As := As) (rest := rest) ⟨hx, hb, hml, Z.2.1, Z.1⟩ hM (va_cwS n Z.1 (goodIn_big ?_) rfl rfl rfl f5 (z_room hd f6)) ⟨WU.blind, fun U hU hW => ⟨rfl, hw.WU Z hU hW⟩⟩ rfl hln hls hst (lv_room hrs) hdg ⟨Nat.le_refl _, Nat.le_refl _⟩) hw kk
  intro w hm
  simp only [va_wsS, List.mem_append, List.mem_cons, List.not_mem_nil, or_false] at hm
  rcases hm with (rfl | rfl | rfl) | rfl | hm
  · exact hl
  · exact f1
  · exact f3
  · exact f4
  · exact hm
/-- a private static method of a nest mate -/
theorem z_callN {d d1 n index nL mL : Nat} {rv : Option Value} {h1 : HP} {y : MethodName} {host : String} {bytes : ByteArray} {ret : Option FieldType} {As st0 : List Value} (hM : MC G l y bytes mL ret d1 As h h1 rv) (F : CS y bytes mL ret n) (hx : p.tables.exec = Jvm.exec) (hb : c.code = cc) (hml : c.maxLocals = nL) (hls : ls.size = nL) (Z : ZK G s args m own) (hw : HW G h s H locs)
    (hl : Cond.methodLinkNest own index y host ∈ lw_tbl) (hst : st0 = As.reverse ++ rest) (hln : As.length = n) (hrs : (rest.map fun v => v.category).sum ≤ 8) (hd : d1 < d) (hdg : decode cc pc = .ok (.invokestatic index, 3))
    (kk : ∀ (H1 : Heap) (locs1 : List Loc), HW G h1 s H1 locs1 → W p l e (rmD d) s m args below meth c H1 locs1 0 0 Q (F0 m (pc + 3) ls (rv.toList ++ rest))) : W p l e (rmD d) s m args below meth c H locs 0 0 Q (F0 m pc ls st0) := by
  obtain ⟨f1, f3, f4, f5, f6⟩ := F
  refine z_go (va_runSN (As := As) (rest := rest) ⟨hx, hb, hml, Z.2.1, Z.1⟩ hM ⟨va_cnB n Z.1 (goodIn_big ?_) rfl rfl rfl (Z.2.2.2.2.1.1 _ hl rfl) (Z.1 _ f3) f5 (z_room hd f6), Z.1 _ f1, trivial⟩ ⟨WU.blind, fun U hU hW => ⟨rfl, hw.WU Z hU hW⟩⟩ rfl hln hls hst (lv_room hrs) hdg ⟨Nat.le_refl _, Nat.le_refl _⟩) hw kk
  intro w hm
  rcases List.mem_cons.mp hm with rfl | hm
  · exact f4
  · exact hm
/-- the ends -/
theorem z_iret {d : Nat} {v : Int32} (hx : p.tables.exec = Jvm.exec) (hb : c.code = cc) (hr : meth.sig.returnType = some .int) (hlk : meth.locks = false) (hw : HW G h s H locs) (hdg : decode cc pc = .ok (.ireturn, 1)) : WZ p l e d s m args below meth c G (some (.int v)) h H locs (F0 m pc ls [.int v]) :=
  W.iret hx hb hr (fun t ht _ => ⟨⟨rfl, by rw [ht]; exact hw.1⟩, hw.2.F ht⟩) hw.2.2.2 hdg hlk
theorem z_zret {d : Nat} {v : Int32} {ty : FieldType} (hx : p.tables.exec = Jvm.exec) (hb : c.code = cc) (hr : meth.sig.returnType = some ty) (hna : narrow ty (.int v) = .int v) (hlk : meth.locks = false) (hw : HW G h s H locs) (hdg : decode cc pc = .ok (.ireturn, 1)) : WZ p l e d s m args below meth c G (some (.int v)) h H locs (F0 m pc ls [.int v]) :=
  W.zret hx hb hr hna (fun t ht _ => ⟨⟨rfl, by rw [ht]; exact hw.1⟩, hw.2.F ht⟩) hw.2.2.2 hdg hlk
theorem z_vret {d : Nat} (hx : p.tables.exec = Jvm.exec) (hb : c.code = cc) (hr : meth.sig.returnType = none) (hlk : meth.locks = false) (hw : HW G h s H locs) (hdg : decode cc pc = .ok (.return_, 1)) : WZ p l e d s m args below meth c G none h H locs (F0 m pc ls []) :=
  W.vret hx hb hr (fun t ht _ => ⟨⟨rfl, by rw [ht]; exact hw.1⟩, hw.2.F ht⟩) hw.2.2.2 hdg hlk
theorem z_aret {d : Nat} {v : Value} {rt : FieldType} (hx : p.tables.exec = Jvm.exec) (hb : c.code = cc) (hr : meth.sig.returnType = some rt) (hrt : (∃ n, rt = .object n) ∨ ∃ t, rt = .array t) (hv : v = .null ∨ ∃ a, v = .ref a) (hlk : meth.locks = false) (hw : HW G h s H locs) (hdg : decode cc pc = .ok (.areturn, 1)) : WZ p l e d s m args below meth c G (some v) h H locs (F0 m pc ls [v]) :=
  W.aret hx hb hr hrt hv (fun t ht _ => ⟨⟨rfl, by rw [ht]; exact hw.1⟩, hw.2.F ht⟩) hw.2.2.2 hdg hlk
theorem z_dret {d : Nat} {v : UInt64} (hx : p.tables.exec = Jvm.exec) (hb : c.code = cc) (hr : meth.sig.returnType = some .double) (hlk : meth.locks = false) (hw : HW G h s H locs) (hdg : decode cc pc = .ok (.dreturn, 1)) : WZ p l e d s m args below meth c G (some (.double v)) h H locs (F0 m pc ls [.double v]) :=
  W.dret hx hb hr (fun t ht _ => ⟨⟨rfl, by rw [ht]; exact hw.1⟩, hw.2.F ht⟩) hw.2.2.2 hdg hlk
/-- System.arraycopy of a whole row, from its first place -/
def hcpy (h : HP) (src dst n : Nat) : HP := fun a j => if a = dst ∧ j < n then h src j else h a j
theorem ent_cpy {src dst n : Nat} {g : Nat → Nat} {j : Nat} (hj : j ≠ dst) : ent G g (hcpy h src dst n) j = ent G g h j := by
  have e : (hcpy h src dst n) j = h j := by
    funext i
    simp [hcpy, hj]
  have e2 : fv G g (hcpy h src dst n) j = fv G g h j := by
    funext i
    simp [fv, e]
  simp [ent, e, e2]
theorem z_copy {d nL src dst index n : Nat} {x : Int32} (hx : p.tables.exec = Jvm.exec) (hb : c.code = cc) (hml : c.maxLocals = nL) (hls : ls.size = nL) (Z : ZK G s args m own) (hw : HW G h s H locs) (ho : kd src = 10) (hn : src < gN G) (ho2 : kd dst = 10) (hn2 : dst < gN G) (hl : Cond.methodLink own index arraycopyName ∈ BIG) (hq : Cond.native arraycopyName ∈ BIG ∧ Cond.static arraycopyName ∈ BIG ∧ Cond.initialized "java/lang/System" ∈ BIG)
    (hxn : x.toNatClampNeg = n ∧ ¬ x < 0 ∧ n ≤ ln src ∧ n ≤ ln dst) (hrs : (rest.map fun v => v.category).sum ≤ 8) (hdg : decode cc pc = .ok (.invokestatic index, 3))
    (kk : ∀ (H1 : Heap) (locs1 : List Loc), HW G (hcpy h src dst n) s H1 locs1 → W p l e (rmD d) s m args below meth c H1 locs1 0 0 Q (F0 m (pc + 3) ls rest)) : W p l e (rmD d) s m args below meth c H locs 0 0 Q (F0 m pc ls (.int x :: .int 0 :: .ref (ra G dst) :: .int 0 :: .ref (ra G src) :: rest)) := by
  obtain ⟨rfl, x2, x3, x4⟩ := hxn
  have z0 : (0 : Int32).toNatClampNeg = 0 := by decide
  refine va_copyi hx hb (hml.trans hls.symm) Z.2.1 (Z.1 _ hl) (Z.1 _ hq.1) (Z.1 _ hq.2.1) (Z.1 _ hq.2.2) Z.2.2.1 hw.1 (wl_D (G := G)) hw.2 src dst 0 0 ((wl_at hn).trans (congrArg (fun x => some (ra G src, x)) (ent_I ho (by decide)))) ((wl_at hn2).trans (congrArg (fun x => some (ra G dst, x)) (ent_I ho2 (by decide)))) rfl rfl rfl (by decide) (by decide) x2 (by rw [z0]; omega) (by rw [z0]; omega) (fun _ _ => rfl) (Nat.succ_le_succ (Nat.zero_le _)) ?_ hdg (fun H1 locs1 hP _ hS => kk H1 locs1 ⟨?_, hS⟩)
  · have : nativeFrameWords "java/lang/System" "arraycopy" 5 ≤ 20 := by decide +kernel
    show _ ≤ 40 * (d + 1)
    omega
  · rw [wl_set (g' := gF) (h' := hcpy h src dst x.toNatClampNeg) ?_ (fun j hj => ent_cpy hj)] at hP
    · exact hP
    · rw [ent_I ho2 (by decide)]
      have e : hcpy h src dst x.toNatClampNeg dst = va_cpy (h src) (h dst) (0 : Int32).toNatClampNeg (0 : Int32).toNatClampNeg x.toNatClampNeg := by
        funext j
        simp [hcpy, va_cpy, z0]
      rw [e]
end ZR
end
