/-! words -/
theorem wd31 : Cond.initialized RX3 ∈ BIG := big_in (List.mem_of_getElem? (i := 31) (by decide +kernel)) (by decide +kernel)
theorem wd39 : Cond.instanceMethod yX10_init ∈ BIG := big_in (List.mem_of_getElem? (i := 39) (by decide +kernel)) (by decide +kernel)
theorem wd40 : Cond.code yX10_init cX10_init 1 none ∈ BIG := big_in (List.mem_of_getElem? (i := 40) (by decide +kernel)) (by decide +kernel)
theorem wd41 : Cond.methodLink RX10 1 Lib.objectInit ∈ BIG := big_in (List.mem_of_getElem? (i := 41) (by decide +kernel)) (by decide +kernel)
theorem wd42 : Cond.instanceMethod Lib.objectInit ∈ BIG := big_in (List.mem_of_getElem? (i := 42) (by decide +kernel)) (by decide +kernel)
theorem wd43 : Cond.code Lib.objectInit ⟨#[0xb1]⟩ 1 none ∈ BIG := big_in (List.mem_of_getElem? (i := 43) (by decide +kernel)) (by decide +kernel)
theorem wd44 : Cond.classLink RX10 7 RX6 ∈ BIG := big_in (List.mem_of_getElem? (i := 44) (by decide +kernel)) (by decide +kernel)
theorem wd45 : Cond.instantiable RX6 4 ∈ BIG := big_in (List.mem_of_getElem? (i := 45) (by decide +kernel)) (by decide +kernel)
theorem wd46 : Cond.methodLinkNest RX10 9 yX6_init "LineDisc" ∈ lw_tbl := List.mem_of_getElem? (i := 46) (by decide +kernel)
theorem wd47 : Cond.instanceMethod yX6_init ∈ BIG := big_in (List.mem_of_getElem? (i := 47) (by decide +kernel)) (by decide +kernel)
theorem wd48 : Cond.code yX6_init cX6_init 1 none ∈ BIG := big_in (List.mem_of_getElem? (i := 48) (by decide +kernel)) (by decide +kernel)
theorem wd49 : Cond.methodLink RX6 1 Lib.objectInit ∈ BIG := big_in (List.mem_of_getElem? (i := 49) (by decide +kernel)) (by decide +kernel)
theorem wd50 : Cond.classLink RX6 7 RX5 ∈ BIG := big_in (List.mem_of_getElem? (i := 50) (by decide +kernel)) (by decide +kernel)
theorem wd51 : Cond.instantiable RX5 6 ∈ BIG := big_in (List.mem_of_getElem? (i := 51) (by decide +kernel)) (by decide +kernel)
theorem wd52 : Cond.methodLinkNest RX6 9 yX5_init "LineDisc" ∈ lw_tbl := List.mem_of_getElem? (i := 52) (by decide +kernel)
theorem wd53 : Cond.instanceMethod yX5_init ∈ BIG := big_in (List.mem_of_getElem? (i := 53) (by decide +kernel)) (by decide +kernel)
theorem wd54 : Cond.code yX5_init cX5_init 1 none ∈ BIG := big_in (List.mem_of_getElem? (i := 54) (by decide +kernel)) (by decide +kernel)
theorem wd55 : Cond.methodLink RX5 3 Lib.objectInit ∈ BIG := big_in (List.mem_of_getElem? (i := 55) (by decide +kernel)) (by decide +kernel)
theorem wd79 : Cond.classLink RX6 16 RX4 ∈ BIG := big_in (List.mem_of_getElem? (i := 79) (by decide +kernel)) (by decide +kernel)
theorem wd80 : Cond.instantiable RX4 2 ∈ BIG := big_in (List.mem_of_getElem? (i := 80) (by decide +kernel)) (by decide +kernel)
theorem wd81 : Cond.methodLinkNest RX6 18 yX4_init "LineDisc" ∈ lw_tbl := List.mem_of_getElem? (i := 81) (by decide +kernel)
theorem wd82 : Cond.instanceMethod yX4_init ∈ BIG := big_in (List.mem_of_getElem? (i := 82) (by decide +kernel)) (by decide +kernel)
theorem wd83 : Cond.code yX4_init cX4_init 1 none ∈ BIG := big_in (List.mem_of_getElem? (i := 83) (by decide +kernel)) (by decide +kernel)
theorem wd84 : Cond.methodLink RX4 1 Lib.objectInit ∈ BIG := big_in (List.mem_of_getElem? (i := 84) (by decide +kernel)) (by decide +kernel)
theorem wd95 : Cond.classLink RX6 23 RX8 ∈ BIG := big_in (List.mem_of_getElem? (i := 95) (by decide +kernel)) (by decide +kernel)
theorem wd96 : Cond.instantiable RX8 3 ∈ BIG := big_in (List.mem_of_getElem? (i := 96) (by decide +kernel)) (by decide +kernel)
theorem wd97 : Cond.methodLinkNest RX6 25 yX8_init "LineDisc" ∈ lw_tbl := List.mem_of_getElem? (i := 97) (by decide +kernel)
theorem wd98 : Cond.instanceMethod yX8_init ∈ BIG := big_in (List.mem_of_getElem? (i := 98) (by decide +kernel)) (by decide +kernel)
theorem wd99 : Cond.code yX8_init cX8_init 1 none ∈ BIG := big_in (List.mem_of_getElem? (i := 99) (by decide +kernel)) (by decide +kernel)
theorem wd100 : Cond.methodLink RX8 3 Lib.objectInit ∈ BIG := big_in (List.mem_of_getElem? (i := 100) (by decide +kernel)) (by decide +kernel)
theorem wd112 : Cond.classLink RX6 30 RX1 ∈ BIG := big_in (List.mem_of_getElem? (i := 112) (by decide +kernel)) (by decide +kernel)
theorem wd113 : Cond.instantiable RX1 6 ∈ BIG := big_in (List.mem_of_getElem? (i := 113) (by decide +kernel)) (by decide +kernel)
theorem wd114 : Cond.methodLinkNest RX6 32 yX1_init "LineDisc" ∈ lw_tbl := List.mem_of_getElem? (i := 114) (by decide +kernel)
theorem wd115 : Cond.instanceMethod yX1_init ∈ BIG := big_in (List.mem_of_getElem? (i := 115) (by decide +kernel)) (by decide +kernel)
theorem wd116 : Cond.code yX1_init cX1_init 1 none ∈ BIG := big_in (List.mem_of_getElem? (i := 116) (by decide +kernel)) (by decide +kernel)
theorem wd117 : Cond.methodLink RX1 3 Lib.objectInit ∈ BIG := big_in (List.mem_of_getElem? (i := 117) (by decide +kernel)) (by decide +kernel)
theorem wd162 : Cond.classLink RX10 26 RX2 ∈ BIG := big_in (List.mem_of_getElem? (i := 162) (by decide +kernel)) (by decide +kernel)
theorem wd163 : Cond.instantiable RX2 2 ∈ BIG := big_in (List.mem_of_getElem? (i := 163) (by decide +kernel)) (by decide +kernel)
theorem wd164 : Cond.methodLink RX10 28 yX2_init ∈ BIG := big_in (List.mem_of_getElem? (i := 164) (by decide +kernel)) (by decide +kernel)
theorem wd165 : Cond.instanceMethod yX2_init ∈ BIG := big_in (List.mem_of_getElem? (i := 165) (by decide +kernel)) (by decide +kernel)
theorem wd166 : Cond.code yX2_init cX2_init 2 none ∈ BIG := big_in (List.mem_of_getElem? (i := 166) (by decide +kernel)) (by decide +kernel)
theorem wd167 : Cond.methodLink RX2 1 Lib.objectInit ∈ BIG := big_in (List.mem_of_getElem? (i := 167) (by decide +kernel)) (by decide +kernel)
theorem wd168 : Cond.classLink RX2 9 RX6 ∈ BIG := big_in (List.mem_of_getElem? (i := 168) (by decide +kernel)) (by decide +kernel)
theorem wd170 : Cond.methodLinkNest RX2 19 yX6_init "LineDisc" ∈ lw_tbl := List.mem_of_getElem? (i := 170) (by decide +kernel)
theorem wd179 : Cond.classLink RX10 33 RX3 ∈ BIG := big_in (List.mem_of_getElem? (i := 179) (by decide +kernel)) (by decide +kernel)
theorem wd180 : Cond.instantiable RX3 6 ∈ BIG := big_in (List.mem_of_getElem? (i := 180) (by decide +kernel)) (by decide +kernel)
theorem wd181 : Cond.methodLinkNest RX10 35 yX3_init "LineDisc" ∈ lw_tbl := List.mem_of_getElem? (i := 181) (by decide +kernel)
theorem wd182 : Cond.instanceMethod yX3_init ∈ BIG := big_in (List.mem_of_getElem? (i := 182) (by decide +kernel)) (by decide +kernel)
theorem wd183 : Cond.code yX3_init cX3_init 1 none ∈ BIG := big_in (List.mem_of_getElem? (i := 183) (by decide +kernel)) (by decide +kernel)
theorem wd184 : Cond.methodLink RX3 3 Lib.objectInit ∈ BIG := big_in (List.mem_of_getElem? (i := 184) (by decide +kernel)) (by decide +kernel)
theorem wd185 : Cond.classLink RX3 19 "LineDisc$Word" ∈ BIG := big_in (List.mem_of_getElem? (i := 185) (by decide +kernel)) (by decide +kernel)
theorem wd187 : Cond.fieldLink RX3 11 "LineDisc$Orders" "signs" "[C" ∈ BIG := big_in (List.mem_of_getElem? (i := 187) (by decide +kernel)) (by decide +kernel)
theorem wd188 : Cond.fieldLink RX3 15 "LineDisc$Orders" "length" "I" ∈ BIG := big_in (List.mem_of_getElem? (i := 188) (by decide +kernel)) (by decide +kernel)
theorem wd190 : Cond.fieldLink RX3 21 "LineDisc$Orders" "words" "[LLineDisc$Word;" ∈ BIG := big_in (List.mem_of_getElem? (i := 190) (by decide +kernel)) (by decide +kernel)
theorem wd191 : Cond.fieldLink RX3 25 "LineDisc$Orders" "numbers" "[I" ∈ BIG := big_in (List.mem_of_getElem? (i := 191) (by decide +kernel)) (by decide +kernel)
theorem wd192 : Cond.fieldLink RX3 29 "LineDisc$Orders" "size" "I" ∈ BIG := big_in (List.mem_of_getElem? (i := 192) (by decide +kernel)) (by decide +kernel)
theorem wd193 : Cond.fieldLink RX3 32 "LineDisc$Orders" "place" "I" ∈ BIG := big_in (List.mem_of_getElem? (i := 193) (by decide +kernel)) (by decide +kernel)
theorem wd208 : Cond.classLink RX10 40 RX7 ∈ BIG := big_in (List.mem_of_getElem? (i := 208) (by decide +kernel)) (by decide +kernel)
theorem wd209 : Cond.instantiable RX7 4 ∈ BIG := big_in (List.mem_of_getElem? (i := 209) (by decide +kernel)) (by decide +kernel)
theorem wd210 : Cond.methodLinkNest RX10 42 yX7_init "LineDisc" ∈ lw_tbl := List.mem_of_getElem? (i := 210) (by decide +kernel)
theorem wd211 : Cond.instanceMethod yX7_init ∈ BIG := big_in (List.mem_of_getElem? (i := 211) (by decide +kernel)) (by decide +kernel)
theorem wd212 : Cond.code yX7_init cX7_init 1 none ∈ BIG := big_in (List.mem_of_getElem? (i := 212) (by decide +kernel)) (by decide +kernel)
theorem wd213 : Cond.methodLink RX7 3 Lib.objectInit ∈ BIG := big_in (List.mem_of_getElem? (i := 213) (by decide +kernel)) (by decide +kernel)
theorem wd214 : Cond.classLink RX7 9 RX5 ∈ BIG := big_in (List.mem_of_getElem? (i := 214) (by decide +kernel)) (by decide +kernel)
theorem wd215 : Cond.methodLinkNest RX7 11 yX5_init "LineDisc" ∈ lw_tbl := List.mem_of_getElem? (i := 215) (by decide +kernel)
theorem wd216 : Cond.classLink RX7 18 RX4 ∈ BIG := big_in (List.mem_of_getElem? (i := 216) (by decide +kernel)) (by decide +kernel)
theorem wd217 : Cond.methodLinkNest RX7 20 yX4_init "LineDisc" ∈ lw_tbl := List.mem_of_getElem? (i := 217) (by decide +kernel)
theorem wd231 : Cond.classLink RX10 47 RX1 ∈ BIG := big_in (List.mem_of_getElem? (i := 231) (by decide +kernel)) (by decide +kernel)
theorem wd232 : Cond.methodLinkNest RX10 49 yX1_init "LineDisc" ∈ lw_tbl := List.mem_of_getElem? (i := 232) (by decide +kernel)
theorem wd235 : Cond.fieldLink RX10 19 "LineDisc" "snapshot" "LLineDisc$State;" ∈ BIG := big_in (List.mem_of_getElem? (i := 235) (by decide +kernel)) (by decide +kernel)
theorem wd236 : Cond.fieldLink RX10 22 "LineDisc" "kept" "Z" ∈ BIG := big_in (List.mem_of_getElem? (i := 236) (by decide +kernel)) (by decide +kernel)
theorem ci_X10 : CI yX10_init cX10_init 1 := ⟨wd39, wd24, wd40, by decide +kernel, by decide, rfl⟩
theorem ci_X1 : CI yX1_init cX1_init 1 := ⟨wd115, wd29, wd116, by decide +kernel, by decide, rfl⟩
theorem ci_X2 : CI yX2_init cX2_init 2 := ⟨wd165, wd30, wd166, by decide +kernel, by decide, rfl⟩
theorem ci_X3 : CI yX3_init cX3_init 1 := ⟨wd182, wd31, wd183, by decide +kernel, by decide, rfl⟩
theorem ci_X4 : CI yX4_init cX4_init 1 := ⟨wd82, wd27, wd83, by decide +kernel, by decide, rfl⟩
theorem ci_X5 : CI yX5_init cX5_init 1 := ⟨wd53, wd26, wd54, by decide +kernel, by decide, rfl⟩
theorem ci_X6 : CI yX6_init cX6_init 1 := ⟨wd47, wd25, wd48, by decide +kernel, by decide, rfl⟩
theorem ci_X7 : CI yX7_init cX7_init 1 := ⟨wd211, wd32, wd212, by decide +kernel, by decide, rfl⟩
theorem ci_X8 : CI yX8_init cX8_init 1 := ⟨wd98, wd28, wd99, by decide +kernel, by decide, rfl⟩
theorem aw_int : Cond.arrayClass .int ∈ BIG := big_in (List.mem_of_getElem? (i := 94) (by decide +kernel)) (by decide +kernel)
theorem aw_char : Cond.arrayClass .char ∈ BIG := big_in (List.mem_of_getElem? (i := 207) (by decide +kernel)) (by decide +kernel)
def hc_X5 (o0 : Nat) (h : HP) : HP := hset (hset (hset (hset (hset (hset h o0 0 (20 : Int32)) o0 1 (2 : Int32)) o0 2 (3 : Int32)) o0 3 (1 : Int32)) o0 4 (90 : Int32)) o0 5 (4 : Int32)
def hc_X1 (o0 : Nat) (h : HP) : HP := hset (hset (hset (hset (hset (hset h o0 0 (0 : Int32)) o0 1 (20 : Int32)) o0 2 (0 : Int32)) o0 3 (0 : Int32)) o0 4 (0 : Int32)) o0 5 (0 : Int32)
def hc_X4 (o0 : Nat) (h : HP) : HP := hset h o0 1 (0 : Int32)
def gc_X4 (o0 : Nat) (g : Nat → Nat) : Nat → Nat := gset g o0 1
def hc_X8 (o0 : Nat) (h : HP) : HP := hset h o0 2 (0 : Int32)
def gc_X8 (o0 : Nat) (g : Nat → Nat) : Nat → Nat := gset (gset g o0 1) o0 2
def hc_X6 (o0 : Nat) (h : HP) : HP := hc_X1 (o0 + 7) (hc_X8 (o0 + 4) (hc_X4 (o0 + 2) (hc_X5 (o0 + 1) h)))
def gc_X6 (o0 : Nat) (g : Nat → Nat) : Nat → Nat := gset (gset (gc_X8 (o0 + 4) (gset (gc_X4 (o0 + 2) (gset g o0 1)) o0 2)) o0 3) o0 4
def hc_X2 (h : HP) : HP := hset (hc_X6 51 (hset (hc_X6 43 (hset (hc_X6 35 (hset (hc_X6 27 (hset h 25 1 (0 : Int32))) 26 0 (27 : Int32))) 26 1 (35 : Int32))) 26 2 (43 : Int32))) 26 3 (51 : Int32)
def gc_X2 (g : Nat → Nat) : Nat → Nat := gc_X6 51 (gc_X6 43 (gc_X6 35 (gc_X6 27 (gset g 25 1))))
def hc_X3 (h : HP) : HP := hset (hset (hset h 59 1 (0 : Int32)) 59 4 (0 : Int32)) 59 5 (0 : Int32)
def gc_X3 (g : Nat → Nat) : Nat → Nat := gset (gset (gset g 59 1) 59 3) 59 4
def hc_X7 (h : HP) : HP := hc_X4 65 (hc_X5 64 h)
def gc_X7 (g : Nat → Nat) : Nat → Nat := gset (gset (gset (gc_X4 65 (gset g 63 1)) 63 2) 63 3) 63 4
def hc_X10 (h : HP) : HP := hc_X1 69 (hc_X7 (hc_X3 (hc_X2 (hset (hc_X6 17 (hc_X6 9 (hc_X6 1 h))) 0 3 (0 : Int32)))))
def gc_X10 (g : Nat → Nat) : Nat → Nat := gset (gset (gc_X7 (gset (gc_X3 (gset (gc_X2 (gset (gc_X6 17 (gset (gc_X6 9 (gset (gc_X6 1 g) 0 1)) 0 2)) 0 3)) 0 5)) 0 6)) 0 7) 0 8
theorem hset_ne {h : HP} {o k a j : Nat} {v : Int32} (ha : a ≠ o) : hset h o k v a j = h a j := by simp [hset, ha]
theorem gset_ne {g : Nat → Nat} {o v a : Nat} (ha : a ≠ o) : gset g o v a = g a := by simp [gset, ha]
theorem gset_eq {g : Nat → Nat} {o v : Nat} : gset g o v o = v := by simp [gset]
theorem hc_X1_out {o a k : Nat} {h : HP} (ha : a ≠ o) : hc_X1 o h a k = h a k := by simp [hc_X1, hset, ha]
theorem hc_X4_out {o a k : Nat} {h : HP} (ha : a ≠ o) : hc_X4 o h a k = h a k := by simp [hc_X4, hset, ha]
theorem hc_X5_out {o a k : Nat} {h : HP} (ha : a ≠ o) : hc_X5 o h a k = h a k := by simp [hc_X5, hset, ha]
theorem hc_X8_out {o a k : Nat} {h : HP} (ha : a ≠ o) : hc_X8 o h a k = h a k := by simp [hc_X8, hset, ha]
theorem gc_X4_out {o a : Nat} {g : Nat → Nat} (ha : a ≠ o) : gc_X4 o g a = g a := by simp [gc_X4, gset, ha]
theorem gc_X8_out {o a : Nat} {g : Nat → Nat} (ha : a ≠ o) : gc_X8 o g a = g a := by simp [gc_X8, gset, ha]
theorem hc_X6_out {o a k : Nat} {h : HP} (ha : a < o ∨ o + 8 ≤ a) : hc_X6 o h a k = h a k := by
  unfold hc_X6
  simp (disch := omega) only [hset_ne, hc_X1_out, hc_X4_out, hc_X5_out, hc_X8_out]
theorem gc_X6_out {o a : Nat} {g : Nat → Nat} (ha : a < o ∨ o + 8 ≤ a) : gc_X6 o g a = g a := by
  unfold gc_X6
  simp (disch := omega) only [gset_ne, gc_X4_out, gc_X8_out]
theorem hc_X2_out {a k : Nat} {h : HP} (ha : a < 25 ∨ 59 ≤ a) : hc_X2 h a k = h a k := by
  unfold hc_X2
  simp (disch := omega) only [hset_ne, hc_X1_out, hc_X4_out, hc_X5_out, hc_X8_out, hc_X6_out]
theorem gc_X2_out {a : Nat} {g : Nat → Nat} (ha : a < 25 ∨ 59 ≤ a) : gc_X2 g a = g a := by
  unfold gc_X2
  simp (disch := omega) only [gset_ne, gc_X4_out, gc_X8_out, gc_X6_out]
theorem hc_X3_out {a k : Nat} {h : HP} (ha : a < 59 ∨ 63 ≤ a) : hc_X3 h a k = h a k := by
  unfold hc_X3
  simp (disch := omega) only [hset_ne, hc_X1_out, hc_X4_out, hc_X5_out, hc_X8_out, hc_X6_out]
theorem gc_X3_out {a : Nat} {g : Nat → Nat} (ha : a < 59 ∨ 63 ≤ a) : gc_X3 g a = g a := by
  unfold gc_X3
  simp (disch := omega) only [gset_ne, gc_X4_out, gc_X8_out, gc_X6_out]
theorem hc_X7_out {a k : Nat} {h : HP} (ha : a < 63 ∨ 69 ≤ a) : hc_X7 h a k = h a k := by
  unfold hc_X7
  simp (disch := omega) only [hset_ne, hc_X1_out, hc_X4_out, hc_X5_out, hc_X8_out, hc_X6_out]
theorem gc_X7_out {a : Nat} {g : Nat → Nat} (ha : a < 63 ∨ 69 ≤ a) : gc_X7 g a = g a := by
  unfold gc_X7
  simp (disch := omega) only [gset_ne, gc_X4_out, gc_X8_out, gc_X6_out]
/-! constructors (by program) -/
set_option maxHeartbeats 4000000 in
set_option maxRecDepth 100000 in
theorem t_X5_init (G : GM) (l : Launch) (n : Nat) (g : Nat → Nat) (h : HP) (o0 : Nat) (k_o0 : kd o0 = 4) (n_o0 : o0 < n) : MG G l yX5_init cX5_init 1 0 0 0 [.ref (ra G o0)] n g h n g (hc_X5 o0 h) := by
  refine zc_start (by decide) (Nat.le_of_ble_eq_true rfl) ?_
  intro p e s m args below meth c ls hx hb hr hlk hnm hml Z hs0 hw hl
  have Z : ZK G s args m RX5 := Z
  have hl : lv_has ls 1 [(0, .ref (ra G o0))] := hl
  refine lv_aload_n hx hb dX5_init_0 rfl (lv_at hl 0 rfl) ?_
  refine zc_objInit hx hb (hml.trans hl.1.symm) Z wd55 wd42 wd43 dX5_init_1 ?_
  refine lv_aload_n hx hb dX5_init_4 rfl (lv_at hl 0 rfl) ?_
  refine lv_bipush (v := (20 : Int32)) hx hb dX5_init_5 (by decide) ?_
  refine zc_puti (o := o0) (v := (20 : Int32)) (ty := .int) (C := RX5) (T := TX5) (N := 6) (ci := 4) (k := 0) hx hb Z hw k_o0 (by omega) rfl inX5 tyX5 tyX5_ok nmX5 (by decide) wd56 rfl (by decide +kernel) rfl rfl dX5_init_7 (fun H locs hw => ?_)
  have hw : HG G n g (hset h o0 0 (20 : Int32)) s H _ := hw
  refine lv_aload_n hx hb dX5_init_10 rfl (lv_at hl 0 rfl) ?_
  refine lv_iconst (v := (2 : Int32)) hx hb dX5_init_11 (by decide) ?_
  refine zc_puti (o := o0) (v := (2 : Int32)) (ty := .int) (C := RX5) (T := TX5) (N := 6) (ci := 4) (k := 1) hx hb Z hw k_o0 (by omega) rfl inX5 tyX5 tyX5_ok nmX5 (by decide) wd57 rfl (by decide +kernel) rfl rfl dX5_init_12 (fun H locs hw => ?_)
  have hw : HG G n g (hset (hset h o0 0 (20 : Int32)) o0 1 (2 : Int32)) s H _ := hw
  refine lv_aload_n hx hb dX5_init_15 rfl (lv_at hl 0 rfl) ?_
  refine lv_iconst (v := (3 : Int32)) hx hb dX5_init_16 (by decide) ?_
  refine zc_puti (o := o0) (v := (3 : Int32)) (ty := .int) (C := RX5) (T := TX5) (N := 6) (ci := 4) (k := 2) hx hb Z hw k_o0 (by omega) rfl inX5 tyX5 tyX5_ok nmX5 (by decide) wd58 rfl (by decide +kernel) rfl rfl dX5_init_17 (fun H locs hw => ?_)
  have hw : HG G n g (hset (hset (hset h o0 0 (20 : Int32)) o0 1 (2 : Int32)) o0 2 (3 : Int32)) s H _ := hw
  refine lv_aload_n hx hb dX5_init_20 rfl (lv_at hl 0 rfl) ?_
  refine lv_iconst (v := (1 : Int32)) hx hb dX5_init_21 (by decide) ?_
  refine zc_puti (o := o0) (v := (1 : Int32)) (ty := .int) (C := RX5) (T := TX5) (N := 6) (ci := 4) (k := 3) hx hb Z hw k_o0 (by omega) rfl inX5 tyX5 tyX5_ok nmX5 (by decide) wd60 rfl (by decide +kernel) rfl rfl dX5_init_22 (fun H locs hw => ?_)
  have hw : HG G n g (hset (hset (hset (hset h o0 0 (20 : Int32)) o0 1 (2 : Int32)) o0 2 (3 : Int32)) o0 3 (1 : Int32)) s H _ := hw
  refine lv_aload_n hx hb dX5_init_25 rfl (lv_at hl 0 rfl) ?_
  refine lv_bipush (v := (90 : Int32)) hx hb dX5_init_26 (by decide) ?_
  refine zc_puti (o := o0) (v := (90 : Int32)) (ty := .int) (C := RX5) (T := TX5) (N := 6) (ci := 4) (k := 4) hx hb Z hw k_o0 (by omega) rfl inX5 tyX5 tyX5_ok nmX5 (by decide) wd62 rfl (by decide +kernel) rfl rfl dX5_init_28 (fun H locs hw => ?_)
  have hw : HG G n g (hset (hset (hset (hset (hset h o0 0 (20 : Int32)) o0 1 (2 : Int32)) o0 2 (3 : Int32)) o0 3 (1 : Int32)) o0 4 (90 : Int32)) s H _ := hw
  refine lv_aload_n hx hb dX5_init_31 rfl (lv_at hl 0 rfl) ?_
  refine lv_iconst (v := (4 : Int32)) hx hb dX5_init_32 (by decide) ?_
  refine zc_puti (o := o0) (v := (4 : Int32)) (ty := .int) (C := RX5) (T := TX5) (N := 6) (ci := 4) (k := 5) hx hb Z hw k_o0 (by omega) rfl inX5 tyX5 tyX5_ok nmX5 (by decide) wd64 rfl (by decide +kernel) rfl rfl dX5_init_33 (fun H locs hw => ?_)
  have hw : HG G n g (hset (hset (hset (hset (hset (hset h o0 0 (20 : Int32)) o0 1 (2 : Int32)) o0 2 (3 : Int32)) o0 3 (1 : Int32)) o0 4 (90 : Int32)) o0 5 (4 : Int32)) s H _ := hw
  exact zc_ret hx hb hr hlk hw dX5_init_36
set_option maxHeartbeats 4000000 in
set_option maxRecDepth 100000 in
theorem t_X1_init (G : GM) (l : Launch) (n : Nat) (g : Nat → Nat) (h : HP) (o0 : Nat) (k_o0 : kd o0 = 0) (n_o0 : o0 < n) : MG G l yX1_init cX1_init 1 0 0 0 [.ref (ra G o0)] n g h n g (hc_X1 o0 h) := by
  refine zc_start (by decide) (Nat.le_of_ble_eq_true rfl) ?_
  intro p e s m args below meth c ls hx hb hr hlk hnm hml Z hs0 hw hl
  have Z : ZK G s args m RX1 := Z
  have hl : lv_has ls 1 [(0, .ref (ra G o0))] := hl
  refine lv_aload_n hx hb dX1_init_0 rfl (lv_at hl 0 rfl) ?_
  refine zc_objInit hx hb (hml.trans hl.1.symm) Z wd117 wd42 wd43 dX1_init_1 ?_
  refine lv_aload_n hx hb dX1_init_4 rfl (lv_at hl 0 rfl) ?_
  refine lv_iconst (v := (0 : Int32)) hx hb dX1_init_5 (by decide) ?_
  refine zc_puti (o := o0) (v := (0 : Int32)) (ty := .int) (C := RX1) (T := TX1) (N := 6) (ci := 0) (k := 0) hx hb Z hw k_o0 (by omega) rfl inX1 tyX1 tyX1_ok nmX1 (by decide) wd118 rfl (by decide +kernel) rfl rfl dX1_init_6 (fun H locs hw => ?_)
  have hw : HG G n g (hset h o0 0 (0 : Int32)) s H _ := hw
  refine lv_aload_n hx hb dX1_init_9 rfl (lv_at hl 0 rfl) ?_
  refine lv_bipush (v := (20 : Int32)) hx hb dX1_init_10 (by decide) ?_
  refine zc_puti (o := o0) (v := (20 : Int32)) (ty := .int) (C := RX1) (T := TX1) (N := 6) (ci := 0) (k := 1) hx hb Z hw k_o0 (by omega) rfl inX1 tyX1 tyX1_ok nmX1 (by decide) wd120 rfl (by decide +kernel) rfl rfl dX1_init_12 (fun H locs hw => ?_)
  have hw : HG G n g (hset (hset h o0 0 (0 : Int32)) o0 1 (20 : Int32)) s H _ := hw
  refine lv_aload_n hx hb dX1_init_15 rfl (lv_at hl 0 rfl) ?_
  refine lv_iconst (v := (0 : Int32)) hx hb dX1_init_16 (by decide) ?_
  refine zc_puti (o := o0) (v := (0 : Int32)) (ty := .int) (C := RX1) (T := TX1) (N := 6) (ci := 0) (k := 2) hx hb Z hw k_o0 (by omega) rfl inX1 tyX1 tyX1_ok nmX1 (by decide) wd122 rfl (by decide +kernel) rfl rfl dX1_init_17 (fun H locs hw => ?_)
  have hw : HG G n g (hset (hset (hset h o0 0 (0 : Int32)) o0 1 (20 : Int32)) o0 2 (0 : Int32)) s H _ := hw
  refine lv_aload_n hx hb dX1_init_20 rfl (lv_at hl 0 rfl) ?_
  refine lv_iconst (v := (0 : Int32)) hx hb dX1_init_21 (by decide) ?_
  refine zc_puti (o := o0) (v := (0 : Int32)) (ty := .int) (C := RX1) (T := TX1) (N := 6) (ci := 0) (k := 3) hx hb Z hw k_o0 (by omega) rfl inX1 tyX1 tyX1_ok nmX1 (by decide) wd124 rfl (by decide +kernel) rfl rfl dX1_init_22 (fun H locs hw => ?_)
  have hw : HG G n g (hset (hset (hset (hset h o0 0 (0 : Int32)) o0 1 (20 : Int32)) o0 2 (0 : Int32)) o0 3 (0 : Int32)) s H _ := hw
  refine lv_aload_n hx hb dX1_init_25 rfl (lv_at hl 0 rfl) ?_
  refine lv_iconst (v := (0 : Int32)) hx hb dX1_init_26 (by decide) ?_
  refine zc_puti (o := o0) (v := (0 : Int32)) (ty := .int) (C := RX1) (T := TX1) (N := 6) (ci := 0) (k := 4) hx hb Z hw k_o0 (by omega) rfl inX1 tyX1 tyX1_ok nmX1 (by decide) wd126 rfl (by decide +kernel) rfl rfl dX1_init_27 (fun H locs hw => ?_)
  have hw : HG G n g (hset (hset (hset (hset (hset h o0 0 (0 : Int32)) o0 1 (20 : Int32)) o0 2 (0 : Int32)) o0 3 (0 : Int32)) o0 4 (0 : Int32)) s H _ := hw
  refine lv_aload_n hx hb dX1_init_30 rfl (lv_at hl 0 rfl) ?_
  refine lv_iconst (v := (0 : Int32)) hx hb dX1_init_31 (by decide) ?_
  refine zc_puti (o := o0) (v := (0 : Int32)) (ty := .int) (C := RX1) (T := TX1) (N := 6) (ci := 0) (k := 5) hx hb Z hw k_o0 (by omega) rfl inX1 tyX1 tyX1_ok nmX1 (by decide) wd128 rfl (by decide +kernel) rfl rfl dX1_init_32 (fun H locs hw => ?_)
  have hw : HG G n g (hset (hset (hset (hset (hset (hset h o0 0 (0 : Int32)) o0 1 (20 : Int32)) o0 2 (0 : Int32)) o0 3 (0 : Int32)) o0 4 (0 : Int32)) o0 5 (0 : Int32)) s H _ := hw
  exact zc_ret hx hb hr hlk hw dX1_init_35
set_option maxHeartbeats 4000000 in
set_option maxRecDepth 100000 in
theorem t_X4_init (G : GM) (l : Launch) (g : Nat → Nat) (h : HP) (o0 : Nat) (k_o0 : kd o0 = 3) (hzg : ∀ a, o0 ≤ a → g a = 0) (hzh : ∀ a, o0 ≤ a → ∀ k, h a k = 0) : MG G l yX4_init cX4_init 1 0 1 32 [.ref (ra G o0)] (o0 + 1) g h (o0 + 2) (gc_X4 o0 g) (hc_X4 o0 h) := by
  refine zc_start (by decide) (Nat.le_of_ble_eq_true rfl) ?_
  intro p e s m args below meth c ls hx hb hr hlk hnm hml Z hs0 hw hl
  have Z : ZK G s args m RX4 := Z
  have hl : lv_has ls 1 [(0, .ref (ra G o0))] := hl
  refine lv_aload_n hx hb dX4_init_0 rfl (lv_at hl 0 rfl) ?_
  refine zc_objInit hx hb (hml.trans hl.1.symm) Z wd84 wd42 wd43 dX4_init_1 ?_
  refine lv_aload_n hx hb dX4_init_4 rfl (lv_at hl 0 rfl) ?_
  refine lv_bipush (v := (32 : Int32)) hx hb dX4_init_5 (by decide) ?_
  refine zc_newa (kk0 := 10) (N' := 32) (atype := .int) (ty := .int) hx hb Z hw hs0 (by omega) (kd_C_1 k_o0) (by decide) (ln_C_1 k_o0) rfl rfl (fun C q => by cases q) rfl (by intro k; simp (disch := omega) only [hset_ne, hc_X1_out, hc_X4_out, hc_X5_out, hc_X8_out, hc_X6_out, hc_X2_out, hc_X3_out, hc_X7_out, hzh]) aw_int (by decide) (by decide) (Nat.le_of_ble_eq_true rfl) (Nat.le_of_ble_eq_true rfl) (Nat.le_of_ble_eq_true rfl) dX4_init_7 (fun H hw => ?_)
  have hw : HG G (o0 + 2) g h s H _ := hw
  refine zc_putr (o := o0) (o2 := o0 + 1) (ty := .array .int) (C := RX4) (T := TX4) (N := 2) (ci := 3) (k := 0) hx hb Z hw hnm k_o0 (by omega) rfl inX4 tyX4 tyX4_ok nmX4 (by decide) rfl (by simp (disch := omega) only [gset_eq, gset_ne, gc_X4_out, gc_X8_out, gc_X6_out, gc_X2_out, gc_X3_out, gc_X7_out, hzg] <;> omega) (by intro i h1 h2; simp (disch := omega) only [gset_eq, gset_ne, gc_X4_out, gc_X8_out, gc_X6_out, gc_X2_out, gc_X3_out, gc_X7_out, hzg] at h1; first | omega | (have : i = -1 := by omega); subst this; rfl) wd85 rfl rfl (by decide +kernel) rfl rfl dX4_init_9 (fun H locs hw => ?_)
  have hw : HG G (o0 + 2) (gset g o0 1) h s H _ := hw
  refine lv_aload_n hx hb dX4_init_12 rfl (lv_at hl 0 rfl) ?_
  refine lv_iconst (v := (0 : Int32)) hx hb dX4_init_13 (by decide) ?_
  refine zc_puti (o := o0) (v := (0 : Int32)) (ty := .int) (C := RX4) (T := TX4) (N := 2) (ci := 3) (k := 1) hx hb Z hw k_o0 (by omega) rfl inX4 tyX4 tyX4_ok nmX4 (by decide) wd86 rfl (by decide +kernel) rfl rfl dX4_init_14 (fun H locs hw => ?_)
  have hw : HG G (o0 + 2) (gset g o0 1) (hset h o0 1 (0 : Int32)) s H _ := hw
  exact zc_ret hx hb hr hlk hw dX4_init_17
set_option maxHeartbeats 4000000 in
set_option maxRecDepth 100000 in
theorem t_X8_init (G : GM) (l : Launch) (g : Nat → Nat) (h : HP) (o0 : Nat) (k_o0 : kd o0 = 7) (hzg : ∀ a, o0 ≤ a → g a = 0) (hzh : ∀ a, o0 ≤ a → ∀ k, h a k = 0) : MG G l yX8_init cX8_init 1 0 2 80 [.ref (ra G o0)] (o0 + 1) g h (o0 + 3) (gc_X8 o0 g) (hc_X8 o0 h) := by
  refine zc_start (by decide) (Nat.le_of_ble_eq_true rfl) ?_
  intro p e s m args below meth c ls hx hb hr hlk hnm hml Z hs0 hw hl
  have Z : ZK G s args m RX8 := Z
  have hl : lv_has ls 1 [(0, .ref (ra G o0))] := hl
  refine lv_aload_n hx hb dX8_init_0 rfl (lv_at hl 0 rfl) ?_
  refine zc_objInit hx hb (hml.trans hl.1.symm) Z wd100 wd42 wd43 dX8_init_1 ?_
  refine lv_aload_n hx hb dX8_init_4 rfl (lv_at hl 0 rfl) ?_
  refine lv_bipush (v := (40 : Int32)) hx hb dX8_init_5 (by decide) ?_
  refine zc_newa (kk0 := 10) (N' := 40) (atype := .int) (ty := .int) hx hb Z hw hs0 (by omega) (kd_Y_1 k_o0) (by decide) (ln_Y_1 k_o0) rfl rfl (fun C q => by cases q) rfl (by intro k; simp (disch := omega) only [hset_ne, hc_X1_out, hc_X4_out, hc_X5_out, hc_X8_out, hc_X6_out, hc_X2_out, hc_X3_out, hc_X7_out, hzh]) aw_int (by decide) (by decide) (Nat.le_of_ble_eq_true rfl) (Nat.le_of_ble_eq_true rfl) (Nat.le_of_ble_eq_true rfl) dX8_init_7 (fun H hw => ?_)
  have hw : HG G (o0 + 2) g h s H _ := hw
  refine zc_putr (o := o0) (o2 := o0 + 1) (ty := .array .int) (C := RX8) (T := TX8) (N := 3) (ci := 7) (k := 0) hx hb Z hw hnm k_o0 (by omega) rfl inX8 tyX8 tyX8_ok nmX8 (by decide) rfl (by simp (disch := omega) only [gset_eq, gset_ne, gc_X4_out, gc_X8_out, gc_X6_out, gc_X2_out, gc_X3_out, gc_X7_out, hzg] <;> omega) (by intro i h1 h2; simp (disch := omega) only [gset_eq, gset_ne, gc_X4_out, gc_X8_out, gc_X6_out, gc_X2_out, gc_X3_out, gc_X7_out, hzg] at h1; first | omega | (have : i = -1 := by omega); subst this; rfl) wd101 rfl rfl (by decide +kernel) rfl rfl dX8_init_9 (fun H locs hw => ?_)
  have hw : HG G (o0 + 2) (gset g o0 1) h s H _ := hw
  refine lv_aload_n hx hb dX8_init_12 rfl (lv_at hl 0 rfl) ?_
  refine lv_bipush (v := (40 : Int32)) hx hb dX8_init_13 (by decide) ?_
  refine zc_newa (kk0 := 10) (N' := 40) (atype := .int) (ty := .int) hx hb Z hw hs0 (by omega) (kd_Y_2 k_o0) (by decide) (ln_Y_2 k_o0) rfl rfl (fun C q => by cases q) rfl (by intro k; simp (disch := omega) only [hset_ne, hc_X1_out, hc_X4_out, hc_X5_out, hc_X8_out, hc_X6_out, hc_X2_out, hc_X3_out, hc_X7_out, hzh]) aw_int (by decide) (by decide) (Nat.le_of_ble_eq_true rfl) (Nat.le_of_ble_eq_true rfl) (Nat.le_of_ble_eq_true rfl) dX8_init_15 (fun H hw => ?_)
  have hw : HG G (o0 + 3) (gset g o0 1) h s H _ := hw
  refine zc_putr (o := o0) (o2 := o0 + 2) (ty := .array .int) (C := RX8) (T := TX8) (N := 3) (ci := 7) (k := 1) hx hb Z hw hnm k_o0 (by omega) rfl inX8 tyX8 tyX8_ok nmX8 (by decide) rfl (by simp (disch := omega) only [gset_eq, gset_ne, gc_X4_out, gc_X8_out, gc_X6_out, gc_X2_out, gc_X3_out, gc_X7_out, hzg] <;> omega) (by intro i h1 h2; simp (disch := omega) only [gset_eq, gset_ne, gc_X4_out, gc_X8_out, gc_X6_out, gc_X2_out, gc_X3_out, gc_X7_out, hzg] at h1; first | omega | (have : i = 0 := by omega); subst this; rfl) wd102 rfl rfl (by decide +kernel) rfl rfl dX8_init_17 (fun H locs hw => ?_)
  have hw : HG G (o0 + 3) (gset (gset g o0 1) o0 2) h s H _ := hw
  refine lv_aload_n hx hb dX8_init_20 rfl (lv_at hl 0 rfl) ?_
  refine lv_iconst (v := (0 : Int32)) hx hb dX8_init_21 (by decide) ?_
  refine zc_puti (o := o0) (v := (0 : Int32)) (ty := .int) (C := RX8) (T := TX8) (N := 3) (ci := 7) (k := 2) hx hb Z hw k_o0 (by omega) rfl inX8 tyX8 tyX8_ok nmX8 (by decide) wd103 rfl (by decide +kernel) rfl rfl dX8_init_22 (fun H locs hw => ?_)
  have hw : HG G (o0 + 3) (gset (gset g o0 1) o0 2) (hset h o0 2 (0 : Int32)) s H _ := hw
  exact zc_ret hx hb hr hlk hw dX8_init_25
set_option maxHeartbeats 4000000 in
set_option maxRecDepth 100000 in
theorem t_X6_init (G : GM) (l : Launch) (g : Nat → Nat) (h : HP) (o0 : Nat) (k_o0 : kd o0 = 5) (hzg : ∀ a, o0 ≤ a → g a = 0) (hzh : ∀ a, o0 ≤ a → ∀ k, h a k = 0) : MG G l yX6_init cX6_init 1 1 7 129 [.ref (ra G o0)] (o0 + 1) g h (o0 + 8) (gc_X6 o0 g) (hc_X6 o0 h) := by
  refine zc_start (by decide) (Nat.le_of_ble_eq_true rfl) ?_
  intro p e s m args below meth c ls hx hb hr hlk hnm hml Z hs0 hw hl
  have Z : ZK G s args m RX6 := Z
  have hl : lv_has ls 1 [(0, .ref (ra G o0))] := hl
  refine lv_aload_n hx hb dX6_init_0 rfl (lv_at hl 0 rfl) ?_
  refine zc_objInit hx hb (hml.trans hl.1.symm) Z wd49 wd42 wd43 dX6_init_1 ?_
  refine lv_aload_n hx hb dX6_init_4 rfl (lv_at hl 0 rfl) ?_
  refine zc_new (C := RX5) (T := TX5) (N := 6) (ci := 4) hx hb Z hw hs0 (by omega) (kd_S_1 k_o0) rfl inX5 tyX5 tyX5_ok (by decide) (by decide +kernel) (by simp (disch := omega) only [gset_eq, gset_ne, gc_X4_out, gc_X8_out, gc_X6_out, gc_X2_out, gc_X3_out, gc_X7_out, hzg]) (by intro k; simp (disch := omega) only [hset_ne, hc_X1_out, hc_X4_out, hc_X5_out, hc_X8_out, hc_X6_out, hc_X2_out, hc_X3_out, hc_X7_out, hzh]) wd50 wd51 wd26 (Nat.le_of_ble_eq_true rfl) (Nat.le_of_ble_eq_true rfl) dX6_init_5 (fun H hw => ?_)
  have hw : HG G (o0 + 2) g h s H _ := hw
  refine lv_dup hx hb dX6_init_8 rfl ?_
  refine zc_initN (rest := [.ref (ra G (o0 + 1)), .ref (ra G o0)]) (t_X5_init G l (o0 + 2) g h (o0 + 1) (kd_S_1 k_o0) (by omega)) ci_X5 hx hb hml hl.1 Z hw hs0 (by omega) wd52 (Nat.le_of_ble_eq_true rfl) ⟨Nat.le_of_ble_eq_true rfl, Nat.le_of_ble_eq_true rfl⟩ ⟨Nat.le_of_ble_eq_true rfl, Nat.le_of_ble_eq_true rfl⟩ dX6_init_9 (fun H locs hw => ?_)
  have hw : HG G (o0 + 2) g (hc_X5 (o0 + 1) h) s H _ := hw
  refine zc_putr (o := o0) (o2 := o0 + 1) (ty := .object "LineDisc$Settings") (C := RX6) (T := TX6) (N := 4) (ci := 5) (k := 0) hx hb Z hw hnm k_o0 (by omega) rfl inX6 tyX6 tyX6_ok nmX6 (by decide) rfl (by simp (disch := omega) only [gset_eq, gset_ne, gc_X4_out, gc_X8_out, gc_X6_out, gc_X2_out, gc_X3_out, gc_X7_out, hzg] <;> omega) (by intro i h1 h2; simp (disch := omega) only [gset_eq, gset_ne, gc_X4_out, gc_X8_out, gc_X6_out, gc_X2_out, gc_X3_out, gc_X7_out, hzg] at h1; first | omega | (have : i = -1 := by omega); subst this; rfl) wd143 rfl rfl (by decide +kernel) rfl rfl dX6_init_12 (fun H locs hw => ?_)
  have hw : HG G (o0 + 2) (gset g o0 1) (hc_X5 (o0 + 1) h) s H _ := hw
  refine lv_aload_n hx hb dX6_init_15 rfl (lv_at hl 0 rfl) ?_
  refine zc_new (C := RX4) (T := TX4) (N := 2) (ci := 3) hx hb Z hw hs0 (by omega) (kd_S_2 k_o0) rfl inX4 tyX4 tyX4_ok (by decide) (by decide +kernel) (by simp (disch := omega) only [gset_eq, gset_ne, gc_X4_out, gc_X8_out, gc_X6_out, gc_X2_out, gc_X3_out, gc_X7_out, hzg]) (by intro k; simp (disch := omega) only [hset_ne, hc_X1_out, hc_X4_out, hc_X5_out, hc_X8_out, hc_X6_out, hc_X2_out, hc_X3_out, hc_X7_out, hzh]) wd79 wd80 wd27 (Nat.le_of_ble_eq_true rfl) (Nat.le_of_ble_eq_true rfl) dX6_init_16 (fun H hw => ?_)
  have hw : HG G (o0 + 3) (gset g o0 1) (hc_X5 (o0 + 1) h) s H _ := hw
  refine lv_dup hx hb dX6_init_19 rfl ?_
  refine zc_initN (rest := [.ref (ra G (o0 + 2)), .ref (ra G o0)]) (t_X4_init G l (gset g o0 1) (hc_X5 (o0 + 1) h) (o0 + 2) (kd_S_2 k_o0) (by intro a ha; simp (disch := omega) only [gset_eq, gset_ne, gc_X4_out, gc_X8_out, gc_X6_out, gc_X2_out, gc_X3_out, gc_X7_out, hzg]) (by intro a ha k; simp (disch := omega) only [hset_ne, hc_X1_out, hc_X4_out, hc_X5_out, hc_X8_out, hc_X6_out, hc_X2_out, hc_X3_out, hc_X7_out, hzh])) ci_X4 hx hb hml hl.1 Z hw hs0 (by omega) wd81 (Nat.le_of_ble_eq_true rfl) ⟨Nat.le_of_ble_eq_true rfl, Nat.le_of_ble_eq_true rfl⟩ ⟨Nat.le_of_ble_eq_true rfl, Nat.le_of_ble_eq_true rfl⟩ dX6_init_20 (fun H locs hw => ?_)
  have hw : HG G (o0 + 4) (gc_X4 (o0 + 2) (gset g o0 1)) (hc_X4 (o0 + 2) (hc_X5 (o0 + 1) h)) s H _ := hw
  refine zc_putr (o := o0) (o2 := o0 + 2) (ty := .object "LineDisc$Scratches") (C := RX6) (T := TX6) (N := 4) (ci := 5) (k := 1) hx hb Z hw hnm k_o0 (by omega) rfl inX6 tyX6 tyX6_ok nmX6 (by decide) rfl (by simp (disch := omega) only [gset_eq, gset_ne, gc_X4_out, gc_X8_out, gc_X6_out, gc_X2_out, gc_X3_out, gc_X7_out, hzg] <;> omega) (by intro i h1 h2; simp (disch := omega) only [gset_eq, gset_ne, gc_X4_out, gc_X8_out, gc_X6_out, gc_X2_out, gc_X3_out, gc_X7_out, hzg] at h1; first | omega | (have : i = 0 := by omega); subst this; rfl) wd146 rfl rfl (by decide +kernel) rfl rfl dX6_init_23 (fun H locs hw => ?_)
  have hw : HG G (o0 + 4) (gset (gc_X4 (o0 + 2) (gset g o0 1)) o0 2) (hc_X4 (o0 + 2) (hc_X5 (o0 + 1) h)) s H _ := hw
  refine lv_aload_n hx hb dX6_init_26 rfl (lv_at hl 0 rfl) ?_
  refine zc_new (C := RX8) (T := TX8) (N := 3) (ci := 7) hx hb Z hw hs0 (by omega) (kd_S_4 k_o0) rfl inX8 tyX8 tyX8_ok (by decide) (by decide +kernel) (by simp (disch := omega) only [gset_eq, gset_ne, gc_X4_out, gc_X8_out, gc_X6_out, gc_X2_out, gc_X3_out, gc_X7_out, hzg]) (by intro k; simp (disch := omega) only [hset_ne, hc_X1_out, hc_X4_out, hc_X5_out, hc_X8_out, hc_X6_out, hc_X2_out, hc_X3_out, hc_X7_out, hzh]) wd95 wd96 wd28 (Nat.le_of_ble_eq_true rfl) (Nat.le_of_ble_eq_true rfl) dX6_init_27 (fun H hw => ?_)
  have hw : HG G (o0 + 5) (gset (gc_X4 (o0 + 2) (gset g o0 1)) o0 2) (hc_X4 (o0 + 2) (hc_X5 (o0 + 1) h)) s H _ := hw
  refine lv_dup hx hb dX6_init_30 rfl ?_
  refine zc_initN (rest := [.ref (ra G (o0 + 4)), .ref (ra G o0)]) (t_X8_init G l (gset (gc_X4 (o0 + 2) (gset g o0 1)) o0 2) (hc_X4 (o0 + 2) (hc_X5 (o0 + 1) h)) (o0 + 4) (kd_S_4 k_o0) (by intro a ha; simp (disch := omega) only [gset_eq, gset_ne, gc_X4_out, gc_X8_out, gc_X6_out, gc_X2_out, gc_X3_out, gc_X7_out, hzg]) (by intro a ha k; simp (disch := omega) only [hset_ne, hc_X1_out, hc_X4_out, hc_X5_out, hc_X8_out, hc_X6_out, hc_X2_out, hc_X3_out, hc_X7_out, hzh])) ci_X8 hx hb hml hl.1 Z hw hs0 (by omega) wd97 (Nat.le_of_ble_eq_true rfl) ⟨Nat.le_of_ble_eq_true rfl, Nat.le_of_ble_eq_true rfl⟩ ⟨Nat.le_of_ble_eq_true rfl, Nat.le_of_ble_eq_true rfl⟩ dX6_init_31 (fun H locs hw => ?_)
  have hw : HG G (o0 + 7) (gc_X8 (o0 + 4) (gset (gc_X4 (o0 + 2) (gset g o0 1)) o0 2)) (hc_X8 (o0 + 4) (hc_X4 (o0 + 2) (hc_X5 (o0 + 1) h))) s H _ := hw
  refine zc_putr (o := o0) (o2 := o0 + 4) (ty := .object "LineDisc$Symbols") (C := RX6) (T := TX6) (N := 4) (ci := 5) (k := 2) hx hb Z hw hnm k_o0 (by omega) rfl inX6 tyX6 tyX6_ok nmX6 (by decide) rfl (by simp (disch := omega) only [gset_eq, gset_ne, gc_X4_out, gc_X8_out, gc_X6_out, gc_X2_out, gc_X3_out, gc_X7_out, hzg] <;> omega) (by intro i h1 h2; simp (disch := omega) only [gset_eq, gset_ne, gc_X4_out, gc_X8_out, gc_X6_out, gc_X2_out, gc_X3_out, gc_X7_out, hzg] at h1; first | omega | (have : i = 1 := by omega); subst this; rfl) wd149 rfl rfl (by decide +kernel) rfl rfl dX6_init_34 (fun H locs hw => ?_)
  have hw : HG G (o0 + 7) (gset (gc_X8 (o0 + 4) (gset (gc_X4 (o0 + 2) (gset g o0 1)) o0 2)) o0 3) (hc_X8 (o0 + 4) (hc_X4 (o0 + 2) (hc_X5 (o0 + 1) h))) s H _ := hw
  refine lv_aload_n hx hb dX6_init_37 rfl (lv_at hl 0 rfl) ?_
  refine zc_new (C := RX1) (T := TX1) (N := 6) (ci := 0) hx hb Z hw hs0 (by omega) (kd_S_7 k_o0) rfl inX1 tyX1 tyX1_ok (by decide) (by decide +kernel) (by simp (disch := omega) only [gset_eq, gset_ne, gc_X4_out, gc_X8_out, gc_X6_out, gc_X2_out, gc_X3_out, gc_X7_out, hzg]) (by intro k; simp (disch := omega) only [hset_ne, hc_X1_out, hc_X4_out, hc_X5_out, hc_X8_out, hc_X6_out, hc_X2_out, hc_X3_out, hc_X7_out, hzh]) wd112 wd113 wd29 (Nat.le_of_ble_eq_true rfl) (Nat.le_of_ble_eq_true rfl) dX6_init_38 (fun H hw => ?_)
  have hw : HG G (o0 + 8) (gset (gc_X8 (o0 + 4) (gset (gc_X4 (o0 + 2) (gset g o0 1)) o0 2)) o0 3) (hc_X8 (o0 + 4) (hc_X4 (o0 + 2) (hc_X5 (o0 + 1) h))) s H _ := hw
  refine lv_dup hx hb dX6_init_41 rfl ?_
  refine zc_initN (rest := [.ref (ra G (o0 + 7)), .ref (ra G o0)]) (t_X1_init G l (o0 + 8) (gset (gc_X8 (o0 + 4) (gset (gc_X4 (o0 + 2) (gset g o0 1)) o0 2)) o0 3) (hc_X8 (o0 + 4) (hc_X4 (o0 + 2) (hc_X5 (o0 + 1) h))) (o0 + 7) (kd_S_7 k_o0) (by omega)) ci_X1 hx hb hml hl.1 Z hw hs0 (by omega) wd114 (Nat.le_of_ble_eq_true rfl) ⟨Nat.le_of_ble_eq_true rfl, Nat.le_of_ble_eq_true rfl⟩ ⟨Nat.le_of_ble_eq_true rfl, Nat.le_of_ble_eq_true rfl⟩ dX6_init_42 (fun H locs hw => ?_)
  have hw : HG G (o0 + 8) (gset (gc_X8 (o0 + 4) (gset (gc_X4 (o0 + 2) (gset g o0 1)) o0 2)) o0 3) (hc_X1 (o0 + 7) (hc_X8 (o0 + 4) (hc_X4 (o0 + 2) (hc_X5 (o0 + 1) h)))) s H _ := hw
  refine zc_putr (o := o0) (o2 := o0 + 7) (ty := .object "LineDisc$Head") (C := RX6) (T := TX6) (N := 4) (ci := 5) (k := 3) hx hb Z hw hnm k_o0 (by omega) rfl inX6 tyX6 tyX6_ok nmX6 (by decide) rfl (by simp (disch := omega) only [gset_eq, gset_ne, gc_X4_out, gc_X8_out, gc_X6_out, gc_X2_out, gc_X3_out, gc_X7_out, hzg] <;> omega) (by intro i h1 h2; simp (disch := omega) only [gset_eq, gset_ne, gc_X4_out, gc_X8_out, gc_X6_out, gc_X2_out, gc_X3_out, gc_X7_out, hzg] at h1; first | omega | (have : i = 2 := by omega); subst this; rfl) wd151 rfl rfl (by decide +kernel) rfl rfl dX6_init_45 (fun H locs hw => ?_)
  have hw : HG G (o0 + 8) (gset (gset (gc_X8 (o0 + 4) (gset (gc_X4 (o0 + 2) (gset g o0 1)) o0 2)) o0 3) o0 4) (hc_X1 (o0 + 7) (hc_X8 (o0 + 4) (hc_X4 (o0 + 2) (hc_X5 (o0 + 1) h)))) s H _ := hw
  exact zc_ret hx hb hr hlk hw dX6_init_48
set_option maxHeartbeats 4000000 in
set_option maxRecDepth 100000 in
theorem t_X2_init (G : GM) (l : Launch) (g : Nat → Nat) (h : HP) (hzg : ∀ a, 25 ≤ a → g a = 0) (hzh : ∀ a, 25 ≤ a → ∀ k, h a k = 0) : MG G l yX2_init cX2_init 2 2 33 536 [.ref (ra G 25)] 26 g h 59 (gc_X2 g) (hc_X2 h) := by
  refine zc_start (by decide) (Nat.le_of_ble_eq_true rfl) ?_
  intro p e s m args below meth c ls hx hb hr hlk hnm hml Z hs0 hw hl
  have Z : ZK G s args m RX2 := Z
  have hl : lv_has ls 2 [(0, .ref (ra G 25))] := hl
  refine lv_aload_n hx hb dX2_init_0 rfl (lv_at hl 0 rfl) ?_
  refine zc_objInit hx hb (hml.trans hl.1.symm) Z wd167 wd42 wd43 dX2_init_1 ?_
  refine lv_aload_n hx hb dX2_init_4 rfl (lv_at hl 0 rfl) ?_
  refine lv_iconst (v := (4 : Int32)) hx hb dX2_init_5 (by decide) ?_
  refine zc_anew (kk0 := 13) (N' := 4) (C := "LineDisc$State") hx hb Z hw hs0 (by omega) (by decide) (by decide) rfl (by rw [ent_S (by decide)]; simp (disch := omega) only [hset_ne, hzh]; rfl) Z.2.2.2.2.1.2.1 wd168 (by decide) (by decide) (Nat.le_of_ble_eq_true rfl) (Nat.le_of_ble_eq_true rfl) (Nat.le_of_ble_eq_true rfl) dX2_init_6 (fun H hw => ?_)
  have hw : HG G 27 g h s H _ := hw
  refine zc_putr (o := 25) (o2 := 26) (ty := .array (.object "LineDisc$State")) (C := RX2) (T := TX2) (N := 2) (ci := 1) (k := 0) hx hb Z hw hnm (by decide) (by omega) rfl inX2 tyX2 tyX2_ok nmX2 (by decide) rfl (by simp (disch := omega) only [gset_eq, gset_ne, gc_X4_out, gc_X8_out, gc_X6_out, gc_X2_out, gc_X3_out, gc_X7_out, hzg] <;> omega) (by intro i h1 h2; simp (disch := omega) only [gset_eq, gset_ne, gc_X4_out, gc_X8_out, gc_X6_out, gc_X2_out, gc_X3_out, gc_X7_out, hzg] at h1; first | omega | (have : i = -1 := by omega); subst this; rfl) wd171 rfl rfl (by decide +kernel) rfl rfl dX2_init_9 (fun H locs hw => ?_)
  have hw : HG G 27 (gset g 25 1) h s H _ := hw
  refine lv_aload_n hx hb dX2_init_12 rfl (lv_at hl 0 rfl) ?_
  refine lv_iconst (v := (0 : Int32)) hx hb dX2_init_13 (by decide) ?_
  refine zc_puti (o := 25) (v := (0 : Int32)) (ty := .int) (C := RX2) (T := TX2) (N := 2) (ci := 1) (k := 1) hx hb Z hw (by decide) (by omega) rfl inX2 tyX2 tyX2_ok nmX2 (by decide) wd172 rfl (by decide +kernel) rfl rfl dX2_init_14 (fun H locs hw => ?_)
  have hw : HG G 27 (gset g 25 1) (hset h 25 1 (0 : Int32)) s H _ := hw
  refine lv_iconst (v := (0 : Int32)) hx hb dX2_init_17 (by decide) ?_
  refine lv_istore_n (lv' := [(1, _), (0, _)]) hx hb dX2_init_18 rfl hl (by decide) rfl (fun ls hl => ?_)
  refine lv_iload_n hx hb dX2_init_19 rfl (lv_at hl 0 rfl) ?_
  refine lv_aload_n hx hb dX2_init_20 rfl (lv_at hl 1 rfl) ?_
  refine zc_getr (o := 25) (o2 := 26) (C := RX2) (T := TX2) (N := 2) (ci := 1) (k := 0) hx hb Z hw (by decide) (by omega) rfl inX2 (by decide) (by simp (disch := omega) only [gset_eq, gset_ne, gc_X4_out, gc_X8_out, gc_X6_out] <;> omega) rfl wd171 dX2_init_21 ?_
  refine zc_alen (o := 26) (v := (4 : Int32)) hx hb Z hw (by decide) (by omega) (by decide) dX2_init_24 ?_
  refine lv_icmp_ge (tgt := 47) hx hb dX2_init_25 (by decide) (fun c0 => absurd c0 (by decide)) (fun c0 => ?_)
  refine lv_aload_n hx hb dX2_init_28 rfl (lv_at hl 1 rfl) ?_
  refine zc_getr (o := 25) (o2 := 26) (C := RX2) (T := TX2) (N := 2) (ci := 1) (k := 0) hx hb Z hw (by decide) (by omega) rfl inX2 (by decide) (by simp (disch := omega) only [gset_eq, gset_ne, gc_X4_out, gc_X8_out, gc_X6_out] <;> omega) rfl wd171 dX2_init_29 ?_
  refine lv_iload_n hx hb dX2_init_32 rfl (lv_at hl 0 rfl) ?_
  refine zc_new (C := RX6) (T := TX6) (N := 4) (ci := 5) hx hb Z hw hs0 (by omega) (by decide) rfl inX6 tyX6 tyX6_ok (by decide) (by decide +kernel) (by simp (disch := omega) only [gset_eq, gset_ne, gc_X4_out, gc_X8_out, gc_X6_out, gc_X2_out, gc_X3_out, gc_X7_out, hzg]) (by intro k; simp (disch := omega) only [hset_ne, hc_X1_out, hc_X4_out, hc_X5_out, hc_X8_out, hc_X6_out, hc_X2_out, hc_X3_out, hc_X7_out, hzh]) wd168 wd45 wd25 (Nat.le_of_ble_eq_true rfl) (Nat.le_of_ble_eq_true rfl) dX2_init_33 (fun H hw => ?_)
  have hw : HG G 28 (gset g 25 1) (hset h 25 1 (0 : Int32)) s H _ := hw
  refine lv_dup hx hb dX2_init_36 rfl ?_
  refine zc_initN (rest := [.ref (ra G 27), .int (0 : Int32), .ref (ra G 26)]) (t_X6_init G l (gset g 25 1) (hset h 25 1 (0 : Int32)) 27 (by decide) (by intro a ha; simp (disch := omega) only [gset_eq, gset_ne, gc_X4_out, gc_X8_out, gc_X6_out, gc_X2_out, gc_X3_out, gc_X7_out, hzg]) (by intro a ha k; simp (disch := omega) only [hset_ne, hc_X1_out, hc_X4_out, hc_X5_out, hc_X8_out, hc_X6_out, hc_X2_out, hc_X3_out, hc_X7_out, hzh])) ci_X6 hx hb hml hl.1 Z hw hs0 (by omega) wd170 (Nat.le_of_ble_eq_true rfl) ⟨Nat.le_of_ble_eq_true rfl, Nat.le_of_ble_eq_true rfl⟩ ⟨Nat.le_of_ble_eq_true rfl, Nat.le_of_ble_eq_true rfl⟩ dX2_init_37 (fun H locs hw => ?_)
  have hw : HG G 35 (gc_X6 27 (gset g 25 1)) (hc_X6 27 (hset h 25 1 (0 : Int32))) s H _ := hw
  refine zc_sast (o := 26) (o2 := 27) (k := 0) (x := (27 : Int32)) hx hb Z hw (by decide) (by omega) (by decide) (by omega) (by decide) (by decide) (inB_vp (by decide)) dX2_init_40 (fun H locs hw => ?_)
  have hw : HG G 35 (gc_X6 27 (gset g 25 1)) (hset (hc_X6 27 (hset h 25 1 (0 : Int32))) 26 0 (27 : Int32)) s H _ := hw
  refine lv_iinc (v := (1 : Int32)) (lv' := [(1, _), (0, _)]) hx hb dX2_init_41 hl (k := 0) rfl (by decide) (by decide) rfl (fun ls hl => ?_)
  refine lv_goto (tgt := 19) hx hb dX2_init_44 (by decide) ?_
  refine lv_iload_n hx hb dX2_init_19 rfl (lv_at hl 0 rfl) ?_
  refine lv_aload_n hx hb dX2_init_20 rfl (lv_at hl 1 rfl) ?_
  refine zc_getr (o := 25) (o2 := 26) (C := RX2) (T := TX2) (N := 2) (ci := 1) (k := 0) hx hb Z hw (by decide) (by omega) rfl inX2 (by decide) (by simp (disch := omega) only [gset_eq, gset_ne, gc_X4_out, gc_X8_out, gc_X6_out] <;> omega) rfl wd171 dX2_init_21 ?_
  refine zc_alen (o := 26) (v := (4 : Int32)) hx hb Z hw (by decide) (by omega) (by decide) dX2_init_24 ?_
  refine lv_icmp_ge (tgt := 47) hx hb dX2_init_25 (by decide) (fun c0 => absurd c0 (by decide)) (fun c0 => ?_)
  refine lv_aload_n hx hb dX2_init_28 rfl (lv_at hl 1 rfl) ?_
  refine zc_getr (o := 25) (o2 := 26) (C := RX2) (T := TX2) (N := 2) (ci := 1) (k := 0) hx hb Z hw (by decide) (by omega) rfl inX2 (by decide) (by simp (disch := omega) only [gset_eq, gset_ne, gc_X4_out, gc_X8_out, gc_X6_out] <;> omega) rfl wd171 dX2_init_29 ?_
  refine lv_iload_n hx hb dX2_init_32 rfl (lv_at hl 0 rfl) ?_
  refine zc_new (C := RX6) (T := TX6) (N := 4) (ci := 5) hx hb Z hw hs0 (by omega) (by decide) rfl inX6 tyX6 tyX6_ok (by decide) (by decide +kernel) (by simp (disch := omega) only [gset_eq, gset_ne, gc_X4_out, gc_X8_out, gc_X6_out, gc_X2_out, gc_X3_out, gc_X7_out, hzg]) (by intro k; simp (disch := omega) only [hset_ne, hc_X1_out, hc_X4_out, hc_X5_out, hc_X8_out, hc_X6_out, hc_X2_out, hc_X3_out, hc_X7_out, hzh]) wd168 wd45 wd25 (Nat.le_of_ble_eq_true rfl) (Nat.le_of_ble_eq_true rfl) dX2_init_33 (fun H hw => ?_)
  have hw : HG G 36 (gc_X6 27 (gset g 25 1)) (hset (hc_X6 27 (hset h 25 1 (0 : Int32))) 26 0 (27 : Int32)) s H _ := hw
  refine lv_dup hx hb dX2_init_36 rfl ?_
  refine zc_initN (rest := [.ref (ra G 35), .int (1 : Int32), .ref (ra G 26)]) (t_X6_init G l (gc_X6 27 (gset g 25 1)) (hset (hc_X6 27 (hset h 25 1 (0 : Int32))) 26 0 (27 : Int32)) 35 (by decide) (by intro a ha; simp (disch := omega) only [gset_eq, gset_ne, gc_X4_out, gc_X8_out, gc_X6_out, gc_X2_out, gc_X3_out, gc_X7_out, hzg]) (by intro a ha k; simp (disch := omega) only [hset_ne, hc_X1_out, hc_X4_out, hc_X5_out, hc_X8_out, hc_X6_out, hc_X2_out, hc_X3_out, hc_X7_out, hzh])) ci_X6 hx hb hml hl.1 Z hw hs0 (by omega) wd170 (Nat.le_of_ble_eq_true rfl) ⟨Nat.le_of_ble_eq_true rfl, Nat.le_of_ble_eq_true rfl⟩ ⟨Nat.le_of_ble_eq_true rfl, Nat.le_of_ble_eq_true rfl⟩ dX2_init_37 (fun H locs hw => ?_)
  have hw : HG G 43 (gc_X6 35 (gc_X6 27 (gset g 25 1))) (hc_X6 35 (hset (hc_X6 27 (hset h 25 1 (0 : Int32))) 26 0 (27 : Int32))) s H _ := hw
  refine zc_sast (o := 26) (o2 := 35) (k := 1) (x := (35 : Int32)) hx hb Z hw (by decide) (by omega) (by decide) (by omega) (by decide) (by decide) (inB_vp (by decide)) dX2_init_40 (fun H locs hw => ?_)
  have hw : HG G 43 (gc_X6 35 (gc_X6 27 (gset g 25 1))) (hset (hc_X6 35 (hset (hc_X6 27 (hset h 25 1 (0 : Int32))) 26 0 (27 : Int32))) 26 1 (35 : Int32)) s H _ := hw
  refine lv_iinc (v := (2 : Int32)) (lv' := [(1, _), (0, _)]) hx hb dX2_init_41 hl (k := 0) rfl (by decide) (by decide) rfl (fun ls hl => ?_)
  refine lv_goto (tgt := 19) hx hb dX2_init_44 (by decide) ?_
  refine lv_iload_n hx hb dX2_init_19 rfl (lv_at hl 0 rfl) ?_
  refine lv_aload_n hx hb dX2_init_20 rfl (lv_at hl 1 rfl) ?_
  refine zc_getr (o := 25) (o2 := 26) (C := RX2) (T := TX2) (N := 2) (ci := 1) (k := 0) hx hb Z hw (by decide) (by omega) rfl inX2 (by decide) (by simp (disch := omega) only [gset_eq, gset_ne, gc_X4_out, gc_X8_out, gc_X6_out] <;> omega) rfl wd171 dX2_init_21 ?_
  refine zc_alen (o := 26) (v := (4 : Int32)) hx hb Z hw (by decide) (by omega) (by decide) dX2_init_24 ?_
  refine lv_icmp_ge (tgt := 47) hx hb dX2_init_25 (by decide) (fun c0 => absurd c0 (by decide)) (fun c0 => ?_)
  refine lv_aload_n hx hb dX2_init_28 rfl (lv_at hl 1 rfl) ?_
  refine zc_getr (o := 25) (o2 := 26) (C := RX2) (T := TX2) (N := 2) (ci := 1) (k := 0) hx hb Z hw (by decide) (by omega) rfl inX2 (by decide) (by simp (disch := omega) only [gset_eq, gset_ne, gc_X4_out, gc_X8_out, gc_X6_out] <;> omega) rfl wd171 dX2_init_29 ?_
  refine lv_iload_n hx hb dX2_init_32 rfl (lv_at hl 0 rfl) ?_
  refine zc_new (C := RX6) (T := TX6) (N := 4) (ci := 5) hx hb Z hw hs0 (by omega) (by decide) rfl inX6 tyX6 tyX6_ok (by decide) (by decide +kernel) (by simp (disch := omega) only [gset_eq, gset_ne, gc_X4_out, gc_X8_out, gc_X6_out, gc_X2_out, gc_X3_out, gc_X7_out, hzg]) (by intro k; simp (disch := omega) only [hset_ne, hc_X1_out, hc_X4_out, hc_X5_out, hc_X8_out, hc_X6_out, hc_X2_out, hc_X3_out, hc_X7_out, hzh]) wd168 wd45 wd25 (Nat.le_of_ble_eq_true rfl) (Nat.le_of_ble_eq_true rfl) dX2_init_33 (fun H hw => ?_)
  have hw : HG G 44 (gc_X6 35 (gc_X6 27 (gset g 25 1))) (hset (hc_X6 35 (hset (hc_X6 27 (hset h 25 1 (0 : Int32))) 26 0 (27 : Int32))) 26 1 (35 : Int32)) s H _ := hw
  refine lv_dup hx hb dX2_init_36 rfl ?_
  refine zc_initN (rest := [.ref (ra G 43), .int (2 : Int32), .ref (ra G 26)]) (t_X6_init G l (gc_X6 35 (gc_X6 27 (gset g 25 1))) (hset (hc_X6 35 (hset (hc_X6 27 (hset h 25 1 (0 : Int32))) 26 0 (27 : Int32))) 26 1 (35 : Int32)) 43 (by decide) (by intro a ha; simp (disch := omega) only [gset_eq, gset_ne, gc_X4_out, gc_X8_out, gc_X6_out, gc_X2_out, gc_X3_out, gc_X7_out, hzg]) (by intro a ha k; simp (disch := omega) only [hset_ne, hc_X1_out, hc_X4_out, hc_X5_out, hc_X8_out, hc_X6_out, hc_X2_out, hc_X3_out, hc_X7_out, hzh])) ci_X6 hx hb hml hl.1 Z hw hs0 (by omega) wd170 (Nat.le_of_ble_eq_true rfl) ⟨Nat.le_of_ble_eq_true rfl, Nat.le_of_ble_eq_true rfl⟩ ⟨Nat.le_of_ble_eq_true rfl, Nat.le_of_ble_eq_true rfl⟩ dX2_init_37 (fun H locs hw => ?_)
  have hw : HG G 51 (gc_X6 43 (gc_X6 35 (gc_X6 27 (gset g 25 1)))) (hc_X6 43 (hset (hc_X6 35 (hset (hc_X6 27 (hset h 25 1 (0 : Int32))) 26 0 (27 : Int32))) 26 1 (35 : Int32))) s H _ := hw
  refine zc_sast (o := 26) (o2 := 43) (k := 2) (x := (43 : Int32)) hx hb Z hw (by decide) (by omega) (by decide) (by omega) (by decide) (by decide) (inB_vp (by decide)) dX2_init_40 (fun H locs hw => ?_)
  have hw : HG G 51 (gc_X6 43 (gc_X6 35 (gc_X6 27 (gset g 25 1)))) (hset (hc_X6 43 (hset (hc_X6 35 (hset (hc_X6 27 (hset h 25 1 (0 : Int32))) 26 0 (27 : Int32))) 26 1 (35 : Int32))) 26 2 (43 : Int32)) s H _ := hw
  refine lv_iinc (v := (3 : Int32)) (lv' := [(1, _), (0, _)]) hx hb dX2_init_41 hl (k := 0) rfl (by decide) (by decide) rfl (fun ls hl => ?_)
  refine lv_goto (tgt := 19) hx hb dX2_init_44 (by decide) ?_
  refine lv_iload_n hx hb dX2_init_19 rfl (lv_at hl 0 rfl) ?_
  refine lv_aload_n hx hb dX2_init_20 rfl (lv_at hl 1 rfl) ?_
  refine zc_getr (o := 25) (o2 := 26) (C := RX2) (T := TX2) (N := 2) (ci := 1) (k := 0) hx hb Z hw (by decide) (by omega) rfl inX2 (by decide) (by simp (disch := omega) only [gset_eq, gset_ne, gc_X4_out, gc_X8_out, gc_X6_out] <;> omega) rfl wd171 dX2_init_21 ?_
  refine zc_alen (o := 26) (v := (4 : Int32)) hx hb Z hw (by decide) (by omega) (by decide) dX2_init_24 ?_
  refine lv_icmp_ge (tgt := 47) hx hb dX2_init_25 (by decide) (fun c0 => absurd c0 (by decide)) (fun c0 => ?_)
  refine lv_aload_n hx hb dX2_init_28 rfl (lv_at hl 1 rfl) ?_
  refine zc_getr (o := 25) (o2 := 26) (C := RX2) (T := TX2) (N := 2) (ci := 1) (k := 0) hx hb Z hw (by decide) (by omega) rfl inX2 (by decide) (by simp (disch := omega) only [gset_eq, gset_ne, gc_X4_out, gc_X8_out, gc_X6_out] <;> omega) rfl wd171 dX2_init_29 ?_
  refine lv_iload_n hx hb dX2_init_32 rfl (lv_at hl 0 rfl) ?_
  refine zc_new (C := RX6) (T := TX6) (N := 4) (ci := 5) hx hb Z hw hs0 (by omega) (by decide) rfl inX6 tyX6 tyX6_ok (by decide) (by decide +kernel) (by simp (disch := omega) only [gset_eq, gset_ne, gc_X4_out, gc_X8_out, gc_X6_out, gc_X2_out, gc_X3_out, gc_X7_out, hzg]) (by intro k; simp (disch := omega) only [hset_ne, hc_X1_out, hc_X4_out, hc_X5_out, hc_X8_out, hc_X6_out, hc_X2_out, hc_X3_out, hc_X7_out, hzh]) wd168 wd45 wd25 (Nat.le_of_ble_eq_true rfl) (Nat.le_of_ble_eq_true rfl) dX2_init_33 (fun H hw => ?_)
  have hw : HG G 52 (gc_X6 43 (gc_X6 35 (gc_X6 27 (gset g 25 1)))) (hset (hc_X6 43 (hset (hc_X6 35 (hset (hc_X6 27 (hset h 25 1 (0 : Int32))) 26 0 (27 : Int32))) 26 1 (35 : Int32))) 26 2 (43 : Int32)) s H _ := hw
  refine lv_dup hx hb dX2_init_36 rfl ?_
  refine zc_initN (rest := [.ref (ra G 51), .int (3 : Int32), .ref (ra G 26)]) (t_X6_init G l (gc_X6 43 (gc_X6 35 (gc_X6 27 (gset g 25 1)))) (hset (hc_X6 43 (hset (hc_X6 35 (hset (hc_X6 27 (hset h 25 1 (0 : Int32))) 26 0 (27 : Int32))) 26 1 (35 : Int32))) 26 2 (43 : Int32)) 51 (by decide) (by intro a ha; simp (disch := omega) only [gset_eq, gset_ne, gc_X4_out, gc_X8_out, gc_X6_out, gc_X2_out, gc_X3_out, gc_X7_out, hzg]) (by intro a ha k; simp (disch := omega) only [hset_ne, hc_X1_out, hc_X4_out, hc_X5_out, hc_X8_out, hc_X6_out, hc_X2_out, hc_X3_out, hc_X7_out, hzh])) ci_X6 hx hb hml hl.1 Z hw hs0 (by omega) wd170 (Nat.le_of_ble_eq_true rfl) ⟨Nat.le_of_ble_eq_true rfl, Nat.le_of_ble_eq_true rfl⟩ ⟨Nat.le_of_ble_eq_true rfl, Nat.le_of_ble_eq_true rfl⟩ dX2_init_37 (fun H locs hw => ?_)
  have hw : HG G 59 (gc_X6 51 (gc_X6 43 (gc_X6 35 (gc_X6 27 (gset g 25 1))))) (hc_X6 51 (hset (hc_X6 43 (hset (hc_X6 35 (hset (hc_X6 27 (hset h 25 1 (0 : Int32))) 26 0 (27 : Int32))) 26 1 (35 : Int32))) 26 2 (43 : Int32))) s H _ := hw
  refine zc_sast (o := 26) (o2 := 51) (k := 3) (x := (51 : Int32)) hx hb Z hw (by decide) (by omega) (by decide) (by omega) (by decide) (by decide) (inB_vp (by decide)) dX2_init_40 (fun H locs hw => ?_)
  have hw : HG G 59 (gc_X6 51 (gc_X6 43 (gc_X6 35 (gc_X6 27 (gset g 25 1))))) (hset (hc_X6 51 (hset (hc_X6 43 (hset (hc_X6 35 (hset (hc_X6 27 (hset h 25 1 (0 : Int32))) 26 0 (27 : Int32))) 26 1 (35 : Int32))) 26 2 (43 : Int32))) 26 3 (51 : Int32)) s H _ := hw
  refine lv_iinc (v := (4 : Int32)) (lv' := [(1, _), (0, _)]) hx hb dX2_init_41 hl (k := 0) rfl (by decide) (by decide) rfl (fun ls hl => ?_)
  refine lv_goto (tgt := 19) hx hb dX2_init_44 (by decide) ?_
  refine lv_iload_n hx hb dX2_init_19 rfl (lv_at hl 0 rfl) ?_
  refine lv_aload_n hx hb dX2_init_20 rfl (lv_at hl 1 rfl) ?_
  refine zc_getr (o := 25) (o2 := 26) (C := RX2) (T := TX2) (N := 2) (ci := 1) (k := 0) hx hb Z hw (by decide) (by omega) rfl inX2 (by decide) (by simp (disch := omega) only [gset_eq, gset_ne, gc_X4_out, gc_X8_out, gc_X6_out] <;> omega) rfl wd171 dX2_init_21 ?_
  refine zc_alen (o := 26) (v := (4 : Int32)) hx hb Z hw (by decide) (by omega) (by decide) dX2_init_24 ?_
  refine lv_icmp_ge (tgt := 47) hx hb dX2_init_25 (by decide) (fun c0 => ?_) (fun c0 => absurd (by decide) c0)
  exact zc_ret hx hb hr hlk hw dX2_init_47
set_option maxHeartbeats 4000000 in
set_option maxRecDepth 100000 in
theorem t_X3_init (G : GM) (l : Launch) (g : Nat → Nat) (h : HP) (hzg : ∀ a, 59 ≤ a → g a = 0) (hzh : ∀ a, 59 ≤ a → ∀ k, h a k = 0) : MG G l yX3_init cX3_init 1 0 3 110 [.ref (ra G 59)] 60 g h 63 (gc_X3 g) (hc_X3 h) := by
  refine zc_start (by decide) (Nat.le_of_ble_eq_true rfl) ?_
  intro p e s m args below meth c ls hx hb hr hlk hnm hml Z hs0 hw hl
  have Z : ZK G s args m RX3 := Z
  have hl : lv_has ls 1 [(0, .ref (ra G 59))] := hl
  refine lv_aload_n hx hb dX3_init_0 rfl (lv_at hl 0 rfl) ?_
  refine zc_objInit hx hb (hml.trans hl.1.symm) Z wd184 wd42 wd43 dX3_init_1 ?_
  refine lv_aload_n hx hb dX3_init_4 rfl (lv_at hl 0 rfl) ?_
  refine lv_bipush (v := (60 : Int32)) hx hb dX3_init_5 (by decide) ?_
  refine zc_newa (kk0 := 11) (N' := 60) (atype := .char) (ty := .char) hx hb Z hw hs0 (by omega) (by decide) (by decide) (by decide) rfl rfl (fun C q => by cases q) rfl (by intro k; simp (disch := omega) only [hset_ne, hc_X1_out, hc_X4_out, hc_X5_out, hc_X8_out, hc_X6_out, hc_X2_out, hc_X3_out, hc_X7_out, hzh]) aw_char (by decide) (by decide) (Nat.le_of_ble_eq_true rfl) (Nat.le_of_ble_eq_true rfl) (Nat.le_of_ble_eq_true rfl) dX3_init_7 (fun H hw => ?_)
  have hw : HG G 61 g h s H _ := hw
  refine zc_putr (o := 59) (o2 := 60) (ty := .array .char) (C := RX3) (T := TX3) (N := 6) (ci := 2) (k := 0) hx hb Z hw hnm (by decide) (by omega) rfl inX3 tyX3 tyX3_ok nmX3 (by decide) rfl (by simp (disch := omega) only [gset_eq, gset_ne, gc_X4_out, gc_X8_out, gc_X6_out, gc_X2_out, gc_X3_out, gc_X7_out, hzg] <;> omega) (by intro i h1 h2; simp (disch := omega) only [gset_eq, gset_ne, gc_X4_out, gc_X8_out, gc_X6_out, gc_X2_out, gc_X3_out, gc_X7_out, hzg] at h1; first | omega | (have : i = -1 := by omega); subst this; rfl) wd187 rfl rfl (by decide +kernel) rfl rfl dX3_init_9 (fun H locs hw => ?_)
  have hw : HG G 61 (gset g 59 1) h s H _ := hw
  refine lv_aload_n hx hb dX3_init_12 rfl (lv_at hl 0 rfl) ?_
  refine lv_iconst (v := (0 : Int32)) hx hb dX3_init_13 (by decide) ?_
  refine zc_puti (o := 59) (v := (0 : Int32)) (ty := .int) (C := RX3) (T := TX3) (N := 6) (ci := 2) (k := 1) hx hb Z hw (by decide) (by omega) rfl inX3 tyX3 tyX3_ok nmX3 (by decide) wd188 rfl (by decide +kernel) rfl rfl dX3_init_14 (fun H locs hw => ?_)
  have hw : HG G 61 (gset g 59 1) (hset h 59 1 (0 : Int32)) s H _ := hw
  refine lv_aload_n hx hb dX3_init_17 rfl (lv_at hl 0 rfl) ?_
  refine lv_bipush (v := (10 : Int32)) hx hb dX3_init_18 (by decide) ?_
  refine zc_anew (kk0 := 14) (N' := 10) (C := "LineDisc$Word") hx hb Z hw hs0 (by omega) (by decide) (by decide) rfl (by rw [ent_W (by decide)]; simp (disch := omega) only [hset_ne, hzh]; rfl) Z.2.2.2.2.1.2.2 wd185 (by decide) (by decide) (Nat.le_of_ble_eq_true rfl) (Nat.le_of_ble_eq_true rfl) (Nat.le_of_ble_eq_true rfl) dX3_init_20 (fun H hw => ?_)
  have hw : HG G 62 (gset g 59 1) (hset h 59 1 (0 : Int32)) s H _ := hw
  refine zc_putr (o := 59) (o2 := 61) (ty := .array (.object "LineDisc$Word")) (C := RX3) (T := TX3) (N := 6) (ci := 2) (k := 2) hx hb Z hw hnm (by decide) (by omega) rfl inX3 tyX3 tyX3_ok nmX3 (by decide) rfl (by simp (disch := omega) only [gset_eq, gset_ne, gc_X4_out, gc_X8_out, gc_X6_out, gc_X2_out, gc_X3_out, gc_X7_out, hzg] <;> omega) (by intro i h1 h2; simp (disch := omega) only [gset_eq, gset_ne, gc_X4_out, gc_X8_out, gc_X6_out, gc_X2_out, gc_X3_out, gc_X7_out, hzg] at h1; first | omega | (have : i = 1 := by omega); subst this; rfl) wd190 rfl rfl (by decide +kernel) rfl rfl dX3_init_23 (fun H locs hw => ?_)
  have hw : HG G 62 (gset (gset g 59 1) 59 3) (hset h 59 1 (0 : Int32)) s H _ := hw
  refine lv_aload_n hx hb dX3_init_26 rfl (lv_at hl 0 rfl) ?_
  refine lv_bipush (v := (40 : Int32)) hx hb dX3_init_27 (by decide) ?_
  refine zc_newa (kk0 := 10) (N' := 40) (atype := .int) (ty := .int) hx hb Z hw hs0 (by omega) (by decide) (by decide) (by decide) rfl rfl (fun C q => by cases q) rfl (by intro k; simp (disch := omega) only [hset_ne, hc_X1_out, hc_X4_out, hc_X5_out, hc_X8_out, hc_X6_out, hc_X2_out, hc_X3_out, hc_X7_out, hzh]) aw_int (by decide) (by decide) (Nat.le_of_ble_eq_true rfl) (Nat.le_of_ble_eq_true rfl) (Nat.le_of_ble_eq_true rfl) dX3_init_29 (fun H hw => ?_)
  have hw : HG G 63 (gset (gset g 59 1) 59 3) (hset h 59 1 (0 : Int32)) s H _ := hw
  refine zc_putr (o := 59) (o2 := 62) (ty := .array .int) (C := RX3) (T := TX3) (N := 6) (ci := 2) (k := 3) hx hb Z hw hnm (by decide) (by omega) rfl inX3 tyX3 tyX3_ok nmX3 (by decide) rfl (by simp (disch := omega) only [gset_eq, gset_ne, gc_X4_out, gc_X8_out, gc_X6_out, gc_X2_out, gc_X3_out, gc_X7_out, hzg] <;> omega) (by intro i h1 h2; simp (disch := omega) only [gset_eq, gset_ne, gc_X4_out, gc_X8_out, gc_X6_out, gc_X2_out, gc_X3_out, gc_X7_out, hzg] at h1; first | omega | (have : i = 2 := by omega); subst this; rfl) wd191 rfl rfl (by decide +kernel) rfl rfl dX3_init_31 (fun H locs hw => ?_)
  have hw : HG G 63 (gset (gset (gset g 59 1) 59 3) 59 4) (hset h 59 1 (0 : Int32)) s H _ := hw
  refine lv_aload_n hx hb dX3_init_34 rfl (lv_at hl 0 rfl) ?_
  refine lv_iconst (v := (0 : Int32)) hx hb dX3_init_35 (by decide) ?_
  refine zc_puti (o := 59) (v := (0 : Int32)) (ty := .int) (C := RX3) (T := TX3) (N := 6) (ci := 2) (k := 4) hx hb Z hw (by decide) (by omega) rfl inX3 tyX3 tyX3_ok nmX3 (by decide) wd192 rfl (by decide +kernel) rfl rfl dX3_init_36 (fun H locs hw => ?_)
  have hw : HG G 63 (gset (gset (gset g 59 1) 59 3) 59 4) (hset (hset h 59 1 (0 : Int32)) 59 4 (0 : Int32)) s H _ := hw
  refine lv_aload_n hx hb dX3_init_39 rfl (lv_at hl 0 rfl) ?_
  refine lv_iconst (v := (0 : Int32)) hx hb dX3_init_40 (by decide) ?_
  refine zc_puti (o := 59) (v := (0 : Int32)) (ty := .int) (C := RX3) (T := TX3) (N := 6) (ci := 2) (k := 5) hx hb Z hw (by decide) (by omega) rfl inX3 tyX3 tyX3_ok nmX3 (by decide) wd193 rfl (by decide +kernel) rfl rfl dX3_init_41 (fun H locs hw => ?_)
  have hw : HG G 63 (gset (gset (gset g 59 1) 59 3) 59 4) (hset (hset (hset h 59 1 (0 : Int32)) 59 4 (0 : Int32)) 59 5 (0 : Int32)) s H _ := hw
  exact zc_ret hx hb hr hlk hw dX3_init_44
set_option maxHeartbeats 4000000 in
set_option maxRecDepth 100000 in
theorem t_X7_init (G : GM) (l : Launch) (g : Nat → Nat) (h : HP) (hzg : ∀ a, 63 ≤ a → g a = 0) (hzh : ∀ a, 63 ≤ a → ∀ k, h a k = 0) : MG G l yX7_init cX7_init 1 1 5 7660 [.ref (ra G 63)] 64 g h 69 (gc_X7 g) (hc_X7 h) := by
  refine zc_start (by decide) (Nat.le_of_ble_eq_true rfl) ?_
  intro p e s m args below meth c ls hx hb hr hlk hnm hml Z hs0 hw hl
  have Z : ZK G s args m RX7 := Z
  have hl : lv_has ls 1 [(0, .ref (ra G 63))] := hl
  refine lv_aload_n hx hb dX7_init_0 rfl (lv_at hl 0 rfl) ?_
  refine zc_objInit hx hb (hml.trans hl.1.symm) Z wd213 wd42 wd43 dX7_init_1 ?_
  refine lv_aload_n hx hb dX7_init_4 rfl (lv_at hl 0 rfl) ?_
  refine zc_new (C := RX5) (T := TX5) (N := 6) (ci := 4) hx hb Z hw hs0 (by omega) (by decide) rfl inX5 tyX5 tyX5_ok (by decide) (by decide +kernel) (by simp (disch := omega) only [gset_eq, gset_ne, gc_X4_out, gc_X8_out, gc_X6_out, gc_X2_out, gc_X3_out, gc_X7_out, hzg]) (by intro k; simp (disch := omega) only [hset_ne, hc_X1_out, hc_X4_out, hc_X5_out, hc_X8_out, hc_X6_out, hc_X2_out, hc_X3_out, hc_X7_out, hzh]) wd214 wd51 wd26 (Nat.le_of_ble_eq_true rfl) (Nat.le_of_ble_eq_true rfl) dX7_init_5 (fun H hw => ?_)
  have hw : HG G 65 g h s H _ := hw
  refine lv_dup hx hb dX7_init_8 rfl ?_
  refine zc_initN (rest := [.ref (ra G 64), .ref (ra G 63)]) (t_X5_init G l 65 g h 64 (by decide) (by omega)) ci_X5 hx hb hml hl.1 Z hw hs0 (by omega) wd215 (Nat.le_of_ble_eq_true rfl) ⟨Nat.le_of_ble_eq_true rfl, Nat.le_of_ble_eq_true rfl⟩ ⟨Nat.le_of_ble_eq_true rfl, Nat.le_of_ble_eq_true rfl⟩ dX7_init_9 (fun H locs hw => ?_)
  have hw : HG G 65 g (hc_X5 64 h) s H _ := hw
  refine zc_putr (o := 63) (o2 := 64) (ty := .object "LineDisc$Settings") (C := RX7) (T := TX7) (N := 4) (ci := 6) (k := 0) hx hb Z hw hnm (by decide) (by omega) rfl inX7 tyX7 tyX7_ok nmX7 (by decide) rfl (by simp (disch := omega) only [gset_eq, gset_ne, gc_X4_out, gc_X8_out, gc_X6_out, gc_X2_out, gc_X3_out, gc_X7_out, hzg] <;> omega) (by intro i h1 h2; simp (disch := omega) only [gset_eq, gset_ne, gc_X4_out, gc_X8_out, gc_X6_out, gc_X2_out, gc_X3_out, gc_X7_out, hzg] at h1; first | omega | (have : i = -1 := by omega); subst this; rfl) wd218 rfl rfl (by decide +kernel) rfl rfl dX7_init_12 (fun H locs hw => ?_)
  have hw : HG G 65 (gset g 63 1) (hc_X5 64 h) s H _ := hw
  refine lv_aload_n hx hb dX7_init_15 rfl (lv_at hl 0 rfl) ?_
  refine zc_new (C := RX4) (T := TX4) (N := 2) (ci := 3) hx hb Z hw hs0 (by omega) (by decide) rfl inX4 tyX4 tyX4_ok (by decide) (by decide +kernel) (by simp (disch := omega) only [gset_eq, gset_ne, gc_X4_out, gc_X8_out, gc_X6_out, gc_X2_out, gc_X3_out, gc_X7_out, hzg]) (by intro k; simp (disch := omega) only [hset_ne, hc_X1_out, hc_X4_out, hc_X5_out, hc_X8_out, hc_X6_out, hc_X2_out, hc_X3_out, hc_X7_out, hzh]) wd216 wd80 wd27 (Nat.le_of_ble_eq_true rfl) (Nat.le_of_ble_eq_true rfl) dX7_init_16 (fun H hw => ?_)
  have hw : HG G 66 (gset g 63 1) (hc_X5 64 h) s H _ := hw
  refine lv_dup hx hb dX7_init_19 rfl ?_
  refine zc_initN (rest := [.ref (ra G 65), .ref (ra G 63)]) (t_X4_init G l (gset g 63 1) (hc_X5 64 h) 65 (by decide) (by intro a ha; simp (disch := omega) only [gset_eq, gset_ne, gc_X4_out, gc_X8_out, gc_X6_out, gc_X2_out, gc_X3_out, gc_X7_out, hzg]) (by intro a ha k; simp (disch := omega) only [hset_ne, hc_X1_out, hc_X4_out, hc_X5_out, hc_X8_out, hc_X6_out, hc_X2_out, hc_X3_out, hc_X7_out, hzh])) ci_X4 hx hb hml hl.1 Z hw hs0 (by omega) wd217 (Nat.le_of_ble_eq_true rfl) ⟨Nat.le_of_ble_eq_true rfl, Nat.le_of_ble_eq_true rfl⟩ ⟨Nat.le_of_ble_eq_true rfl, Nat.le_of_ble_eq_true rfl⟩ dX7_init_20 (fun H locs hw => ?_)
  have hw : HG G 67 (gc_X4 65 (gset g 63 1)) (hc_X4 65 (hc_X5 64 h)) s H _ := hw
  refine zc_putr (o := 63) (o2 := 65) (ty := .object "LineDisc$Scratches") (C := RX7) (T := TX7) (N := 4) (ci := 6) (k := 1) hx hb Z hw hnm (by decide) (by omega) rfl inX7 tyX7 tyX7_ok nmX7 (by decide) rfl (by simp (disch := omega) only [gset_eq, gset_ne, gc_X4_out, gc_X8_out, gc_X6_out, gc_X2_out, gc_X3_out, gc_X7_out, hzg] <;> omega) (by intro i h1 h2; simp (disch := omega) only [gset_eq, gset_ne, gc_X4_out, gc_X8_out, gc_X6_out, gc_X2_out, gc_X3_out, gc_X7_out, hzg] at h1; first | omega | (have : i = 0 := by omega); subst this; rfl) wd219 rfl rfl (by decide +kernel) rfl rfl dX7_init_23 (fun H locs hw => ?_)
  have hw : HG G 67 (gset (gc_X4 65 (gset g 63 1)) 63 2) (hc_X4 65 (hc_X5 64 h)) s H _ := hw
  refine lv_aload_n hx hb dX7_init_26 rfl (lv_at hl 0 rfl) ?_
  refine lv_sipush (v := (3810 : Int32)) hx hb dX7_init_27 (by decide) ?_
  refine zc_newa (kk0 := 10) (N' := 3810) (atype := .int) (ty := .int) hx hb Z hw hs0 (by omega) (by decide) (by decide) (by decide) rfl rfl (fun C q => by cases q) rfl (by intro k; simp (disch := omega) only [hset_ne, hc_X1_out, hc_X4_out, hc_X5_out, hc_X8_out, hc_X6_out, hc_X2_out, hc_X3_out, hc_X7_out, hzh]) aw_int (by decide) (by decide) (Nat.le_of_ble_eq_true rfl) (Nat.le_of_ble_eq_true rfl) (Nat.le_of_ble_eq_true rfl) dX7_init_30 (fun H hw => ?_)
  have hw : HG G 68 (gset (gc_X4 65 (gset g 63 1)) 63 2) (hc_X4 65 (hc_X5 64 h)) s H _ := hw
  refine zc_putr (o := 63) (o2 := 67) (ty := .array .int) (C := RX7) (T := TX7) (N := 4) (ci := 6) (k := 2) hx hb Z hw hnm (by decide) (by omega) rfl inX7 tyX7 tyX7_ok nmX7 (by decide) rfl (by simp (disch := omega) only [gset_eq, gset_ne, gc_X4_out, gc_X8_out, gc_X6_out, gc_X2_out, gc_X3_out, gc_X7_out, hzg] <;> omega) (by intro i h1 h2; simp (disch := omega) only [gset_eq, gset_ne, gc_X4_out, gc_X8_out, gc_X6_out, gc_X2_out, gc_X3_out, gc_X7_out, hzg] at h1; first | omega | (have : i = 1 := by omega); subst this; rfl) wd220 rfl rfl (by decide +kernel) rfl rfl dX7_init_32 (fun H locs hw => ?_)
  have hw : HG G 68 (gset (gset (gc_X4 65 (gset g 63 1)) 63 2) 63 3) (hc_X4 65 (hc_X5 64 h)) s H _ := hw
  refine lv_aload_n hx hb dX7_init_35 rfl (lv_at hl 0 rfl) ?_
  refine lv_sipush (v := (3810 : Int32)) hx hb dX7_init_36 (by decide) ?_
  refine zc_newa (kk0 := 10) (N' := 3810) (atype := .int) (ty := .int) hx hb Z hw hs0 (by omega) (by decide) (by decide) (by decide) rfl rfl (fun C q => by cases q) rfl (by intro k; simp (disch := omega) only [hset_ne, hc_X1_out, hc_X4_out, hc_X5_out, hc_X8_out, hc_X6_out, hc_X2_out, hc_X3_out, hc_X7_out, hzh]) aw_int (by decide) (by decide) (Nat.le_of_ble_eq_true rfl) (Nat.le_of_ble_eq_true rfl) (Nat.le_of_ble_eq_true rfl) dX7_init_39 (fun H hw => ?_)
  have hw : HG G 69 (gset (gset (gc_X4 65 (gset g 63 1)) 63 2) 63 3) (hc_X4 65 (hc_X5 64 h)) s H _ := hw
  refine zc_putr (o := 63) (o2 := 68) (ty := .array .int) (C := RX7) (T := TX7) (N := 4) (ci := 6) (k := 3) hx hb Z hw hnm (by decide) (by omega) rfl inX7 tyX7 tyX7_ok nmX7 (by decide) rfl (by simp (disch := omega) only [gset_eq, gset_ne, gc_X4_out, gc_X8_out, gc_X6_out, gc_X2_out, gc_X3_out, gc_X7_out, hzg] <;> omega) (by intro i h1 h2; simp (disch := omega) only [gset_eq, gset_ne, gc_X4_out, gc_X8_out, gc_X6_out, gc_X2_out, gc_X3_out, gc_X7_out, hzg] at h1; first | omega | (have : i = 2 := by omega); subst this; rfl) wd221 rfl rfl (by decide +kernel) rfl rfl dX7_init_41 (fun H locs hw => ?_)
  have hw : HG G 69 (gset (gset (gset (gc_X4 65 (gset g 63 1)) 63 2) 63 3) 63 4) (hc_X4 65 (hc_X5 64 h)) s H _ := hw
  exact zc_ret hx hb hr hlk hw dX7_init_44
set_option maxHeartbeats 4000000 in
set_option maxRecDepth 100000 in
theorem t_X10_init (G : GM) (l : Launch) (g : Nat → Nat) (h : HP) (hzg : ∀ a, 0 ≤ a → g a = 0) (hzh : ∀ a, 0 ≤ a → ∀ k, h a k = 0) : MG G l yX10_init cX10_init 1 3 69 8723 [.ref (ra G 0)] 1 g h 70 (gc_X10 g) (hc_X10 h) := by
  refine zc_start (by decide) (Nat.le_of_ble_eq_true rfl) ?_
  intro p e s m args below meth c ls hx hb hr hlk hnm hml Z hs0 hw hl
  have Z : ZK G s args m RX10 := Z
  have hl : lv_has ls 1 [(0, .ref (ra G 0))] := hl
  refine lv_aload_n hx hb dX10_init_0 rfl (lv_at hl 0 rfl) ?_
  refine zc_objInit hx hb (hml.trans hl.1.symm) Z wd41 wd42 wd43 dX10_init_1 ?_
  refine lv_aload_n hx hb dX10_init_4 rfl (lv_at hl 0 rfl) ?_
  refine zc_new (C := RX6) (T := TX6) (N := 4) (ci := 5) hx hb Z hw hs0 (by omega) (by decide) rfl inX6 tyX6 tyX6_ok (by decide) (by decide +kernel) (by simp (disch := omega) only [gset_eq, gset_ne, gc_X4_out, gc_X8_out, gc_X6_out, gc_X2_out, gc_X3_out, gc_X7_out, hzg]) (by intro k; simp (disch := omega) only [hset_ne, hc_X1_out, hc_X4_out, hc_X5_out, hc_X8_out, hc_X6_out, hc_X2_out, hc_X3_out, hc_X7_out, hzh]) wd44 wd45 wd25 (Nat.le_of_ble_eq_true rfl) (Nat.le_of_ble_eq_true rfl) dX10_init_5 (fun H hw => ?_)
  have hw : HG G 2 g h s H _ := hw
  refine lv_dup hx hb dX10_init_8 rfl ?_
  refine zc_initN (rest := [.ref (ra G 1), .ref (ra G 0)]) (t_X6_init G l g h 1 (by decide) (by intro a ha; simp (disch := omega) only [gset_eq, gset_ne, gc_X4_out, gc_X8_out, gc_X6_out, gc_X2_out, gc_X3_out, gc_X7_out, hzg]) (by intro a ha k; simp (disch := omega) only [hset_ne, hc_X1_out, hc_X4_out, hc_X5_out, hc_X8_out, hc_X6_out, hc_X2_out, hc_X3_out, hc_X7_out, hzh])) ci_X6 hx hb hml hl.1 Z hw hs0 (by omega) wd46 (Nat.le_of_ble_eq_true rfl) ⟨Nat.le_of_ble_eq_true rfl, Nat.le_of_ble_eq_true rfl⟩ ⟨Nat.le_of_ble_eq_true rfl, Nat.le_of_ble_eq_true rfl⟩ dX10_init_9 (fun H locs hw => ?_)
  have hw : HG G 9 (gc_X6 1 g) (hc_X6 1 h) s H _ := hw
  refine zc_putr (o := 0) (o2 := 1) (ty := .object "LineDisc$State") (C := RX10) (T := TX10) (N := 8) (ci := 8) (k := 0) hx hb Z hw hnm (by decide) (by omega) rfl inX10 tyX10 tyX10_ok nmX10 (by decide) rfl (by simp (disch := omega) only [gset_eq, gset_ne, gc_X4_out, gc_X8_out, gc_X6_out, gc_X2_out, gc_X3_out, gc_X7_out, hzg] <;> omega) (by intro i h1 h2; simp (disch := omega) only [gset_eq, gset_ne, gc_X4_out, gc_X8_out, gc_X6_out, gc_X2_out, gc_X3_out, gc_X7_out, hzg] at h1; first | omega | (have : i = -1 := by omega); subst this; rfl) wd233 rfl rfl (by decide +kernel) rfl rfl dX10_init_12 (fun H locs hw => ?_)
  have hw : HG G 9 (gset (gc_X6 1 g) 0 1) (hc_X6 1 h) s H _ := hw
  refine lv_aload_n hx hb dX10_init_15 rfl (lv_at hl 0 rfl) ?_
  refine zc_new (C := RX6) (T := TX6) (N := 4) (ci := 5) hx hb Z hw hs0 (by omega) (by decide) rfl inX6 tyX6 tyX6_ok (by decide) (by decide +kernel) (by simp (disch := omega) only [gset_eq, gset_ne, gc_X4_out, gc_X8_out, gc_X6_out, gc_X2_out, gc_X3_out, gc_X7_out, hzg]) (by intro k; simp (disch := omega) only [hset_ne, hc_X1_out, hc_X4_out, hc_X5_out, hc_X8_out, hc_X6_out, hc_X2_out, hc_X3_out, hc_X7_out, hzh]) wd44 wd45 wd25 (Nat.le_of_ble_eq_true rfl) (Nat.le_of_ble_eq_true rfl) dX10_init_16 (fun H hw => ?_)
  have hw : HG G 10 (gset (gc_X6 1 g) 0 1) (hc_X6 1 h) s H _ := hw
  refine lv_dup hx hb dX10_init_19 rfl ?_
  refine zc_initN (rest := [.ref (ra G 9), .ref (ra G 0)]) (t_X6_init G l (gset (gc_X6 1 g) 0 1) (hc_X6 1 h) 9 (by decide) (by intro a ha; simp (disch := omega) only [gset_eq, gset_ne, gc_X4_out, gc_X8_out, gc_X6_out, gc_X2_out, gc_X3_out, gc_X7_out, hzg]) (by intro a ha k; simp (disch := omega) only [hset_ne, hc_X1_out, hc_X4_out, hc_X5_out, hc_X8_out, hc_X6_out, hc_X2_out, hc_X3_out, hc_X7_out, hzh])) ci_X6 hx hb hml hl.1 Z hw hs0 (by omega) wd46 (Nat.le_of_ble_eq_true rfl) ⟨Nat.le_of_ble_eq_true rfl, Nat.le_of_ble_eq_true rfl⟩ ⟨Nat.le_of_ble_eq_true rfl, Nat.le_of_ble_eq_true rfl⟩ dX10_init_20 (fun H locs hw => ?_)
  have hw : HG G 17 (gc_X6 9 (gset (gc_X6 1 g) 0 1)) (hc_X6 9 (hc_X6 1 h)) s H _ := hw
  refine zc_putr (o := 0) (o2 := 9) (ty := .object "LineDisc$State") (C := RX10) (T := TX10) (N := 8) (ci := 8) (k := 1) hx hb Z hw hnm (by decide) (by omega) rfl inX10 tyX10 tyX10_ok nmX10 (by decide) rfl (by simp (disch := omega) only [gset_eq, gset_ne, gc_X4_out, gc_X8_out, gc_X6_out, gc_X2_out, gc_X3_out, gc_X7_out, hzg] <;> omega) (by intro i h1 h2; simp (disch := omega) only [gset_eq, gset_ne, gc_X4_out, gc_X8_out, gc_X6_out, gc_X2_out, gc_X3_out, gc_X7_out, hzg] at h1; first | omega | (have : i = 0 := by omega); subst this; rfl) wd234 rfl rfl (by decide +kernel) rfl rfl dX10_init_23 (fun H locs hw => ?_)
  have hw : HG G 17 (gset (gc_X6 9 (gset (gc_X6 1 g) 0 1)) 0 2) (hc_X6 9 (hc_X6 1 h)) s H _ := hw
  refine lv_aload_n hx hb dX10_init_26 rfl (lv_at hl 0 rfl) ?_
  refine zc_new (C := RX6) (T := TX6) (N := 4) (ci := 5) hx hb Z hw hs0 (by omega) (by decide) rfl inX6 tyX6 tyX6_ok (by decide) (by decide +kernel) (by simp (disch := omega) only [gset_eq, gset_ne, gc_X4_out, gc_X8_out, gc_X6_out, gc_X2_out, gc_X3_out, gc_X7_out, hzg]) (by intro k; simp (disch := omega) only [hset_ne, hc_X1_out, hc_X4_out, hc_X5_out, hc_X8_out, hc_X6_out, hc_X2_out, hc_X3_out, hc_X7_out, hzh]) wd44 wd45 wd25 (Nat.le_of_ble_eq_true rfl) (Nat.le_of_ble_eq_true rfl) dX10_init_27 (fun H hw => ?_)
  have hw : HG G 18 (gset (gc_X6 9 (gset (gc_X6 1 g) 0 1)) 0 2) (hc_X6 9 (hc_X6 1 h)) s H _ := hw
  refine lv_dup hx hb dX10_init_30 rfl ?_
  refine zc_initN (rest := [.ref (ra G 17), .ref (ra G 0)]) (t_X6_init G l (gset (gc_X6 9 (gset (gc_X6 1 g) 0 1)) 0 2) (hc_X6 9 (hc_X6 1 h)) 17 (by decide) (by intro a ha; simp (disch := omega) only [gset_eq, gset_ne, gc_X4_out, gc_X8_out, gc_X6_out, gc_X2_out, gc_X3_out, gc_X7_out, hzg]) (by intro a ha k; simp (disch := omega) only [hset_ne, hc_X1_out, hc_X4_out, hc_X5_out, hc_X8_out, hc_X6_out, hc_X2_out, hc_X3_out, hc_X7_out, hzh])) ci_X6 hx hb hml hl.1 Z hw hs0 (by omega) wd46 (Nat.le_of_ble_eq_true rfl) ⟨Nat.le_of_ble_eq_true rfl, Nat.le_of_ble_eq_true rfl⟩ ⟨Nat.le_of_ble_eq_true rfl, Nat.le_of_ble_eq_true rfl⟩ dX10_init_31 (fun H locs hw => ?_)
  have hw : HG G 25 (gc_X6 17 (gset (gc_X6 9 (gset (gc_X6 1 g) 0 1)) 0 2)) (hc_X6 17 (hc_X6 9 (hc_X6 1 h))) s H _ := hw
  refine zc_putr (o := 0) (o2 := 17) (ty := .object "LineDisc$State") (C := RX10) (T := TX10) (N := 8) (ci := 8) (k := 2) hx hb Z hw hnm (by decide) (by omega) rfl inX10 tyX10 tyX10_ok nmX10 (by decide) rfl (by simp (disch := omega) only [gset_eq, gset_ne, gc_X4_out, gc_X8_out, gc_X6_out, gc_X2_out, gc_X3_out, gc_X7_out, hzg] <;> omega) (by intro i h1 h2; simp (disch := omega) only [gset_eq, gset_ne, gc_X4_out, gc_X8_out, gc_X6_out, gc_X2_out, gc_X3_out, gc_X7_out, hzg] at h1; first | omega | (have : i = 1 := by omega); subst this; rfl) wd235 rfl rfl (by decide +kernel) rfl rfl dX10_init_34 (fun H locs hw => ?_)
  have hw : HG G 25 (gset (gc_X6 17 (gset (gc_X6 9 (gset (gc_X6 1 g) 0 1)) 0 2)) 0 3) (hc_X6 17 (hc_X6 9 (hc_X6 1 h))) s H _ := hw
  refine lv_aload_n hx hb dX10_init_37 rfl (lv_at hl 0 rfl) ?_
  refine lv_iconst (v := (0 : Int32)) hx hb dX10_init_38 (by decide) ?_
  refine zc_puti (o := 0) (v := (0 : Int32)) (ty := .boolean) (C := RX10) (T := TX10) (N := 8) (ci := 8) (k := 3) hx hb Z hw (by decide) (by omega) rfl inX10 tyX10 tyX10_ok nmX10 (by decide) wd236 rfl (by decide +kernel) rfl rfl dX10_init_39 (fun H locs hw => ?_)
  have hw : HG G 25 (gset (gc_X6 17 (gset (gc_X6 9 (gset (gc_X6 1 g) 0 1)) 0 2)) 0 3) (hset (hc_X6 17 (hc_X6 9 (hc_X6 1 h))) 0 3 (0 : Int32)) s H _ := hw
  refine lv_aload_n hx hb dX10_init_42 rfl (lv_at hl 0 rfl) ?_
  refine zc_new (C := RX2) (T := TX2) (N := 2) (ci := 1) hx hb Z hw hs0 (by omega) (by decide) rfl inX2 tyX2 tyX2_ok (by decide) (by decide +kernel) (by simp (disch := omega) only [gset_eq, gset_ne, gc_X4_out, gc_X8_out, gc_X6_out, gc_X2_out, gc_X3_out, gc_X7_out, hzg]) (by intro k; simp (disch := omega) only [hset_ne, hc_X1_out, hc_X4_out, hc_X5_out, hc_X8_out, hc_X6_out, hc_X2_out, hc_X3_out, hc_X7_out, hzh]) wd162 wd163 wd30 (Nat.le_of_ble_eq_true rfl) (Nat.le_of_ble_eq_true rfl) dX10_init_43 (fun H hw => ?_)
  have hw : HG G 26 (gset (gc_X6 17 (gset (gc_X6 9 (gset (gc_X6 1 g) 0 1)) 0 2)) 0 3) (hset (hc_X6 17 (hc_X6 9 (hc_X6 1 h))) 0 3 (0 : Int32)) s H _ := hw
  refine lv_dup hx hb dX10_init_46 rfl ?_
  refine zc_initM (rest := [.ref (ra G 25), .ref (ra G 0)]) (t_X2_init G l (gset (gc_X6 17 (gset (gc_X6 9 (gset (gc_X6 1 g) 0 1)) 0 2)) 0 3) (hset (hc_X6 17 (hc_X6 9 (hc_X6 1 h))) 0 3 (0 : Int32)) (by intro a ha; simp (disch := omega) only [gset_eq, gset_ne, gc_X4_out, gc_X8_out, gc_X6_out, gc_X2_out, gc_X3_out, gc_X7_out, hzg]) (by intro a ha k; simp (disch := omega) only [hset_ne, hc_X1_out, hc_X4_out, hc_X5_out, hc_X8_out, hc_X6_out, hc_X2_out, hc_X3_out, hc_X7_out, hzh])) ci_X2 hx hb hml hl.1 Z hw hs0 (by omega) wd164 (Nat.le_of_ble_eq_true rfl) ⟨Nat.le_of_ble_eq_true rfl, Nat.le_of_ble_eq_true rfl⟩ ⟨Nat.le_of_ble_eq_true rfl, Nat.le_of_ble_eq_true rfl⟩ dX10_init_47 (fun H locs hw => ?_)
  have hw : HG G 59 (gc_X2 (gset (gc_X6 17 (gset (gc_X6 9 (gset (gc_X6 1 g) 0 1)) 0 2)) 0 3)) (hc_X2 (hset (hc_X6 17 (hc_X6 9 (hc_X6 1 h))) 0 3 (0 : Int32))) s H _ := hw
  refine zc_putr (o := 0) (o2 := 25) (ty := .object "LineDisc$History") (C := RX10) (T := TX10) (N := 8) (ci := 8) (k := 4) hx hb Z hw hnm (by decide) (by omega) rfl inX10 tyX10 tyX10_ok nmX10 (by decide) rfl (by simp (disch := omega) only [gset_eq, gset_ne, gc_X4_out, gc_X8_out, gc_X6_out, gc_X2_out, gc_X3_out, gc_X7_out, hzg] <;> omega) (by intro i h1 h2; simp (disch := omega) only [gset_eq, gset_ne, gc_X4_out, gc_X8_out, gc_X6_out, gc_X2_out, gc_X3_out, gc_X7_out, hzg] at h1; first | omega | (have : i = 3 := by omega); subst this; rfl) wd237 rfl rfl (by decide +kernel) rfl rfl dX10_init_50 (fun H locs hw => ?_)
  have hw : HG G 59 (gset (gc_X2 (gset (gc_X6 17 (gset (gc_X6 9 (gset (gc_X6 1 g) 0 1)) 0 2)) 0 3)) 0 5) (hc_X2 (hset (hc_X6 17 (hc_X6 9 (hc_X6 1 h))) 0 3 (0 : Int32))) s H _ := hw
  refine lv_aload_n hx hb dX10_init_53 rfl (lv_at hl 0 rfl) ?_
  refine zc_new (C := RX3) (T := TX3) (N := 6) (ci := 2) hx hb Z hw hs0 (by omega) (by decide) rfl inX3 tyX3 tyX3_ok (by decide) (by decide +kernel) (by simp (disch := omega) only [gset_eq, gset_ne, gc_X4_out, gc_X8_out, gc_X6_out, gc_X2_out, gc_X3_out, gc_X7_out, hzg]) (by intro k; simp (disch := omega) only [hset_ne, hc_X1_out, hc_X4_out, hc_X5_out, hc_X8_out, hc_X6_out, hc_X2_out, hc_X3_out, hc_X7_out, hzh]) wd179 wd180 wd31 (Nat.le_of_ble_eq_true rfl) (Nat.le_of_ble_eq_true rfl) dX10_init_54 (fun H hw => ?_)
  have hw : HG G 60 (gset (gc_X2 (gset (gc_X6 17 (gset (gc_X6 9 (gset (gc_X6 1 g) 0 1)) 0 2)) 0 3)) 0 5) (hc_X2 (hset (hc_X6 17 (hc_X6 9 (hc_X6 1 h))) 0 3 (0 : Int32))) s H _ := hw
  refine lv_dup hx hb dX10_init_57 rfl ?_
  refine zc_initN (rest := [.ref (ra G 59), .ref (ra G 0)]) (t_X3_init G l (gset (gc_X2 (gset (gc_X6 17 (gset (gc_X6 9 (gset (gc_X6 1 g) 0 1)) 0 2)) 0 3)) 0 5) (hc_X2 (hset (hc_X6 17 (hc_X6 9 (hc_X6 1 h))) 0 3 (0 : Int32))) (by intro a ha; simp (disch := omega) only [gset_eq, gset_ne, gc_X4_out, gc_X8_out, gc_X6_out, gc_X2_out, gc_X3_out, gc_X7_out, hzg]) (by intro a ha k; simp (disch := omega) only [hset_ne, hc_X1_out, hc_X4_out, hc_X5_out, hc_X8_out, hc_X6_out, hc_X2_out, hc_X3_out, hc_X7_out, hzh])) ci_X3 hx hb hml hl.1 Z hw hs0 (by omega) wd181 (Nat.le_of_ble_eq_true rfl) ⟨Nat.le_of_ble_eq_true rfl, Nat.le_of_ble_eq_true rfl⟩ ⟨Nat.le_of_ble_eq_true rfl, Nat.le_of_ble_eq_true rfl⟩ dX10_init_58 (fun H locs hw => ?_)
  have hw : HG G 63 (gc_X3 (gset (gc_X2 (gset (gc_X6 17 (gset (gc_X6 9 (gset (gc_X6 1 g) 0 1)) 0 2)) 0 3)) 0 5)) (hc_X3 (hc_X2 (hset (hc_X6 17 (hc_X6 9 (hc_X6 1 h))) 0 3 (0 : Int32)))) s H _ := hw
  refine zc_putr (o := 0) (o2 := 59) (ty := .object "LineDisc$Orders") (C := RX10) (T := TX10) (N := 8) (ci := 8) (k := 5) hx hb Z hw hnm (by decide) (by omega) rfl inX10 tyX10 tyX10_ok nmX10 (by decide) rfl (by simp (disch := omega) only [gset_eq, gset_ne, gc_X4_out, gc_X8_out, gc_X6_out, gc_X2_out, gc_X3_out, gc_X7_out, hzg] <;> omega) (by intro i h1 h2; simp (disch := omega) only [gset_eq, gset_ne, gc_X4_out, gc_X8_out, gc_X6_out, gc_X2_out, gc_X3_out, gc_X7_out, hzg] at h1; first | omega | (have : i = 4 := by omega); subst this; rfl) wd238 rfl rfl (by decide +kernel) rfl rfl dX10_init_61 (fun H locs hw => ?_)
  have hw : HG G 63 (gset (gc_X3 (gset (gc_X2 (gset (gc_X6 17 (gset (gc_X6 9 (gset (gc_X6 1 g) 0 1)) 0 2)) 0 3)) 0 5)) 0 6) (hc_X3 (hc_X2 (hset (hc_X6 17 (hc_X6 9 (hc_X6 1 h))) 0 3 (0 : Int32)))) s H _ := hw
  refine lv_aload_n hx hb dX10_init_64 rfl (lv_at hl 0 rfl) ?_
  refine zc_new (C := RX7) (T := TX7) (N := 4) (ci := 6) hx hb Z hw hs0 (by omega) (by decide) rfl inX7 tyX7 tyX7_ok (by decide) (by decide +kernel) (by simp (disch := omega) only [gset_eq, gset_ne, gc_X4_out, gc_X8_out, gc_X6_out, gc_X2_out, gc_X3_out, gc_X7_out, hzg]) (by intro k; simp (disch := omega) only [hset_ne, hc_X1_out, hc_X4_out, hc_X5_out, hc_X8_out, hc_X6_out, hc_X2_out, hc_X3_out, hc_X7_out, hzh]) wd208 wd209 wd32 (Nat.le_of_ble_eq_true rfl) (Nat.le_of_ble_eq_true rfl) dX10_init_65 (fun H hw => ?_)
  have hw : HG G 64 (gset (gc_X3 (gset (gc_X2 (gset (gc_X6 17 (gset (gc_X6 9 (gset (gc_X6 1 g) 0 1)) 0 2)) 0 3)) 0 5)) 0 6) (hc_X3 (hc_X2 (hset (hc_X6 17 (hc_X6 9 (hc_X6 1 h))) 0 3 (0 : Int32)))) s H _ := hw
  refine lv_dup hx hb dX10_init_68 rfl ?_
  refine zc_initN (rest := [.ref (ra G 63), .ref (ra G 0)]) (t_X7_init G l (gset (gc_X3 (gset (gc_X2 (gset (gc_X6 17 (gset (gc_X6 9 (gset (gc_X6 1 g) 0 1)) 0 2)) 0 3)) 0 5)) 0 6) (hc_X3 (hc_X2 (hset (hc_X6 17 (hc_X6 9 (hc_X6 1 h))) 0 3 (0 : Int32)))) (by intro a ha; simp (disch := omega) only [gset_eq, gset_ne, gc_X4_out, gc_X8_out, gc_X6_out, gc_X2_out, gc_X3_out, gc_X7_out, hzg]) (by intro a ha k; simp (disch := omega) only [hset_ne, hc_X1_out, hc_X4_out, hc_X5_out, hc_X8_out, hc_X6_out, hc_X2_out, hc_X3_out, hc_X7_out, hzh])) ci_X7 hx hb hml hl.1 Z hw hs0 (by omega) wd210 (Nat.le_of_ble_eq_true rfl) ⟨Nat.le_of_ble_eq_true rfl, Nat.le_of_ble_eq_true rfl⟩ ⟨Nat.le_of_ble_eq_true rfl, Nat.le_of_ble_eq_true rfl⟩ dX10_init_69 (fun H locs hw => ?_)
  have hw : HG G 69 (gc_X7 (gset (gc_X3 (gset (gc_X2 (gset (gc_X6 17 (gset (gc_X6 9 (gset (gc_X6 1 g) 0 1)) 0 2)) 0 3)) 0 5)) 0 6)) (hc_X7 (hc_X3 (hc_X2 (hset (hc_X6 17 (hc_X6 9 (hc_X6 1 h))) 0 3 (0 : Int32))))) s H _ := hw
  refine zc_putr (o := 0) (o2 := 63) (ty := .object "LineDisc$Survey") (C := RX10) (T := TX10) (N := 8) (ci := 8) (k := 6) hx hb Z hw hnm (by decide) (by omega) rfl inX10 tyX10 tyX10_ok nmX10 (by decide) rfl (by simp (disch := omega) only [gset_eq, gset_ne, gc_X4_out, gc_X8_out, gc_X6_out, gc_X2_out, gc_X3_out, gc_X7_out, hzg] <;> omega) (by intro i h1 h2; simp (disch := omega) only [gset_eq, gset_ne, gc_X4_out, gc_X8_out, gc_X6_out, gc_X2_out, gc_X3_out, gc_X7_out, hzg] at h1; first | omega | (have : i = 5 := by omega); subst this; rfl) wd239 rfl rfl (by decide +kernel) rfl rfl dX10_init_72 (fun H locs hw => ?_)
  have hw : HG G 69 (gset (gc_X7 (gset (gc_X3 (gset (gc_X2 (gset (gc_X6 17 (gset (gc_X6 9 (gset (gc_X6 1 g) 0 1)) 0 2)) 0 3)) 0 5)) 0 6)) 0 7) (hc_X7 (hc_X3 (hc_X2 (hset (hc_X6 17 (hc_X6 9 (hc_X6 1 h))) 0 3 (0 : Int32))))) s H _ := hw
  refine lv_aload_n hx hb dX10_init_75 rfl (lv_at hl 0 rfl) ?_
  refine zc_new (C := RX1) (T := TX1) (N := 6) (ci := 0) hx hb Z hw hs0 (by omega) (by decide) rfl inX1 tyX1 tyX1_ok (by decide) (by decide +kernel) (by simp (disch := omega) only [gset_eq, gset_ne, gc_X4_out, gc_X8_out, gc_X6_out, gc_X2_out, gc_X3_out, gc_X7_out, hzg]) (by intro k; simp (disch := omega) only [hset_ne, hc_X1_out, hc_X4_out, hc_X5_out, hc_X8_out, hc_X6_out, hc_X2_out, hc_X3_out, hc_X7_out, hzh]) wd231 wd113 wd29 (Nat.le_of_ble_eq_true rfl) (Nat.le_of_ble_eq_true rfl) dX10_init_76 (fun H hw => ?_)
  have hw : HG G 70 (gset (gc_X7 (gset (gc_X3 (gset (gc_X2 (gset (gc_X6 17 (gset (gc_X6 9 (gset (gc_X6 1 g) 0 1)) 0 2)) 0 3)) 0 5)) 0 6)) 0 7) (hc_X7 (hc_X3 (hc_X2 (hset (hc_X6 17 (hc_X6 9 (hc_X6 1 h))) 0 3 (0 : Int32))))) s H _ := hw
  refine lv_dup hx hb dX10_init_79 rfl ?_
  refine zc_initN (rest := [.ref (ra G 69), .ref (ra G 0)]) (t_X1_init G l 70 (gset (gc_X7 (gset (gc_X3 (gset (gc_X2 (gset (gc_X6 17 (gset (gc_X6 9 (gset (gc_X6 1 g) 0 1)) 0 2)) 0 3)) 0 5)) 0 6)) 0 7) (hc_X7 (hc_X3 (hc_X2 (hset (hc_X6 17 (hc_X6 9 (hc_X6 1 h))) 0 3 (0 : Int32))))) 69 (by decide) (by omega)) ci_X1 hx hb hml hl.1 Z hw hs0 (by omega) wd232 (Nat.le_of_ble_eq_true rfl) ⟨Nat.le_of_ble_eq_true rfl, Nat.le_of_ble_eq_true rfl⟩ ⟨Nat.le_of_ble_eq_true rfl, Nat.le_of_ble_eq_true rfl⟩ dX10_init_80 (fun H locs hw => ?_)
  have hw : HG G 70 (gset (gc_X7 (gset (gc_X3 (gset (gc_X2 (gset (gc_X6 17 (gset (gc_X6 9 (gset (gc_X6 1 g) 0 1)) 0 2)) 0 3)) 0 5)) 0 6)) 0 7) (hc_X1 69 (hc_X7 (hc_X3 (hc_X2 (hset (hc_X6 17 (hc_X6 9 (hc_X6 1 h))) 0 3 (0 : Int32)))))) s H _ := hw
  refine zc_putr (o := 0) (o2 := 69) (ty := .object "LineDisc$Head") (C := RX10) (T := TX10) (N := 8) (ci := 8) (k := 7) hx hb Z hw hnm (by decide) (by omega) rfl inX10 tyX10 tyX10_ok nmX10 (by decide) rfl (by simp (disch := omega) only [gset_eq, gset_ne, gc_X4_out, gc_X8_out, gc_X6_out, gc_X2_out, gc_X3_out, gc_X7_out, hzg] <;> omega) (by intro i h1 h2; simp (disch := omega) only [gset_eq, gset_ne, gc_X4_out, gc_X8_out, gc_X6_out, gc_X2_out, gc_X3_out, gc_X7_out, hzg] at h1; first | omega | (have : i = 6 := by omega); subst this; rfl) wd240 rfl rfl (by decide +kernel) rfl rfl dX10_init_83 (fun H locs hw => ?_)
  have hw : HG G 70 (gset (gset (gc_X7 (gset (gc_X3 (gset (gc_X2 (gset (gc_X6 17 (gset (gc_X6 9 (gset (gc_X6 1 g) 0 1)) 0 2)) 0 3)) 0 5)) 0 6)) 0 7) 0 8) (hc_X1 69 (hc_X7 (hc_X3 (hc_X2 (hset (hc_X6 17 (hc_X6 9 (hc_X6 1 h))) 0 3 (0 : Int32)))))) s H _ := hw
  exact zc_ret hx hb hr hlk hw dX10_init_86
