/-! the tables' words that the walks use (by program) -/
theorem wd0 : Cond.selects RX10 yX10_recorded yX10_recorded ∈ BIG := big_in (List.mem_of_getElem? (i := 0) (by decide +kernel)) (by decide +kernel)
theorem wd1 : Cond.selects RX2 yX2_dropOldest yX2_dropOldest ∈ BIG := big_in (List.mem_of_getElem? (i := 1) (by decide +kernel)) (by decide +kernel)
theorem wd2 : Cond.selects RX2 yX2_stateAt yX2_stateAt ∈ BIG := big_in (List.mem_of_getElem? (i := 2) (by decide +kernel)) (by decide +kernel)
theorem wd3 : Cond.selects RX7 yX7_markScratch yX7_markScratch ∈ BIG := big_in (List.mem_of_getElem? (i := 3) (by decide +kernel)) (by decide +kernel)
theorem wd4 : Cond.selects RX7 yX7_markRow yX7_markRow ∈ BIG := big_in (List.mem_of_getElem? (i := 4) (by decide +kernel)) (by decide +kernel)
theorem wd5 : Cond.selects RX7 yX7_judgeGroup yX7_judgeGroup ∈ BIG := big_in (List.mem_of_getElem? (i := 5) (by decide +kernel)) (by decide +kernel)
theorem wd6 : Cond.selects RX7 yX7_canBeFilled yX7_canBeFilled ∈ BIG := big_in (List.mem_of_getElem? (i := 6) (by decide +kernel)) (by decide +kernel)
theorem wd7 : Cond.selects RX10 yX10_countSetting yX10_countSetting ∈ BIG := big_in (List.mem_of_getElem? (i := 7) (by decide +kernel)) (by decide +kernel)
theorem wd8 : Cond.selects RX10 yX10_addScratch yX10_addScratch ∈ BIG := big_in (List.mem_of_getElem? (i := 8) (by decide +kernel)) (by decide +kernel)
theorem wd9 : Cond.selects RX10 yX10_polishAway yX10_polishAway ∈ BIG := big_in (List.mem_of_getElem? (i := 9) (by decide +kernel)) (by decide +kernel)
theorem wd10 : Cond.selects RX10 yX10_pressSymbol yX10_pressSymbol ∈ BIG := big_in (List.mem_of_getElem? (i := 10) (by decide +kernel)) (by decide +kernel)
theorem wd11 : Cond.selects RX8 yX8_dataAt yX8_dataAt ∈ BIG := big_in (List.mem_of_getElem? (i := 11) (by decide +kernel)) (by decide +kernel)
theorem wd12 : Cond.selects RX8 yX8_indexOf yX8_indexOf ∈ BIG := big_in (List.mem_of_getElem? (i := 12) (by decide +kernel)) (by decide +kernel)
theorem wd13 : Cond.selects RX8 yX8_drop yX8_drop ∈ BIG := big_in (List.mem_of_getElem? (i := 13) (by decide +kernel)) (by decide +kernel)
theorem wd14 : Cond.selects RX10 yX10_playFrames yX10_playFrames ∈ BIG := big_in (List.mem_of_getElem? (i := 14) (by decide +kernel)) (by decide +kernel)
theorem wd15 : Cond.selects RX1 yX1_spin yX1_spin ∈ BIG := big_in (List.mem_of_getElem? (i := 15) (by decide +kernel)) (by decide +kernel)
theorem wd16 : Cond.selects RX1 yX1_isNear yX1_isNear ∈ BIG := big_in (List.mem_of_getElem? (i := 16) (by decide +kernel)) (by decide +kernel)
theorem wd17 : Cond.selects RX10 yX10_seekFrame yX10_seekFrame ∈ BIG := big_in (List.mem_of_getElem? (i := 17) (by decide +kernel)) (by decide +kernel)
theorem wd18 : Cond.selects RX1 yX1_jump yX1_jump ∈ BIG := big_in (List.mem_of_getElem? (i := 18) (by decide +kernel)) (by decide +kernel)
theorem wd19 : Cond.selects RX10 yX10_toldSymbol yX10_toldSymbol ∈ BIG := big_in (List.mem_of_getElem? (i := 19) (by decide +kernel)) (by decide +kernel)
theorem wd20 : Cond.selects RX10 yX10_filledSymbol yX10_filledSymbol ∈ BIG := big_in (List.mem_of_getElem? (i := 20) (by decide +kernel)) (by decide +kernel)
theorem wd21 : Cond.selects RX10 yX10_isToldRight yX10_isToldRight ∈ BIG := big_in (List.mem_of_getElem? (i := 21) (by decide +kernel)) (by decide +kernel)
theorem wd22 : Cond.selects RX10 yX10_trySeek yX10_trySeek ∈ BIG := big_in (List.mem_of_getElem? (i := 22) (by decide +kernel)) (by decide +kernel)
theorem wd23 : Cond.initialized RL ∈ BIG := big_in (List.mem_of_getElem? (i := 23) (by decide +kernel)) (by decide +kernel)
theorem wd24 : Cond.initialized RX10 ∈ BIG := big_in (List.mem_of_getElem? (i := 24) (by decide +kernel)) (by decide +kernel)
theorem wd25 : Cond.initialized RX6 ∈ BIG := big_in (List.mem_of_getElem? (i := 25) (by decide +kernel)) (by decide +kernel)
theorem wd26 : Cond.initialized RX5 ∈ BIG := big_in (List.mem_of_getElem? (i := 26) (by decide +kernel)) (by decide +kernel)
theorem wd27 : Cond.initialized RX4 ∈ BIG := big_in (List.mem_of_getElem? (i := 27) (by decide +kernel)) (by decide +kernel)
theorem wd28 : Cond.initialized RX8 ∈ BIG := big_in (List.mem_of_getElem? (i := 28) (by decide +kernel)) (by decide +kernel)
theorem wd29 : Cond.initialized RX1 ∈ BIG := big_in (List.mem_of_getElem? (i := 29) (by decide +kernel)) (by decide +kernel)
theorem wd30 : Cond.initialized RX2 ∈ BIG := big_in (List.mem_of_getElem? (i := 30) (by decide +kernel)) (by decide +kernel)
theorem wd32 : Cond.initialized RX7 ∈ BIG := big_in (List.mem_of_getElem? (i := 32) (by decide +kernel)) (by decide +kernel)
theorem wd33 : Cond.initialized "java/lang/System" ∈ BIG := big_in (List.mem_of_getElem? (i := 33) (by decide +kernel)) (by decide +kernel)
theorem wd34 : Cond.initialized RJ7 ∈ BIG := big_in (List.mem_of_getElem? (i := 34) (by decide +kernel)) (by decide +kernel)
theorem wd35 : Cond.initialized "java/lang/Math" ∈ BIG := big_in (List.mem_of_getElem? (i := 35) (by decide +kernel)) (by decide +kernel)
theorem wd56 : Cond.fieldLink RX5 9 "LineDisc$Settings" "framesAtFirst" "I" ∈ BIG := big_in (List.mem_of_getElem? (i := 56) (by decide +kernel)) (by decide +kernel)
theorem wd57 : Cond.fieldLink RX5 15 "LineDisc$Settings" "moreInEach" "I" ∈ BIG := big_in (List.mem_of_getElem? (i := 57) (by decide +kernel)) (by decide +kernel)
theorem wd58 : Cond.fieldLink RX5 18 "LineDisc$Settings" "motor" "I" ∈ BIG := big_in (List.mem_of_getElem? (i := 58) (by decide +kernel)) (by decide +kernel)
theorem wd59 : Cond.fieldLink RX1 36 "LineDisc$Settings" "motor" "I" ∈ BIG := big_in (List.mem_of_getElem? (i := 59) (by decide +kernel)) (by decide +kernel)
theorem wd60 : Cond.fieldLink RX5 21 "LineDisc$Settings" "off" "I" ∈ BIG := big_in (List.mem_of_getElem? (i := 60) (by decide +kernel)) (by decide +kernel)
theorem wd61 : Cond.fieldLink RX1 51 "LineDisc$Settings" "off" "I" ∈ BIG := big_in (List.mem_of_getElem? (i := 61) (by decide +kernel)) (by decide +kernel)
theorem wd62 : Cond.fieldLink RX5 24 "LineDisc$Settings" "guess" "I" ∈ BIG := big_in (List.mem_of_getElem? (i := 62) (by decide +kernel)) (by decide +kernel)
theorem wd63 : Cond.fieldLink RX10 245 "LineDisc$Settings" "guess" "I" ∈ BIG := big_in (List.mem_of_getElem? (i := 63) (by decide +kernel)) (by decide +kernel)
theorem wd64 : Cond.fieldLink RX5 27 "LineDisc$Settings" "jumpTicks" "I" ∈ BIG := big_in (List.mem_of_getElem? (i := 64) (by decide +kernel)) (by decide +kernel)
theorem wd65 : Cond.fieldLink RX1 83 "LineDisc$Settings" "jumpTicks" "I" ∈ BIG := big_in (List.mem_of_getElem? (i := 65) (by decide +kernel)) (by decide +kernel)
theorem wd85 : Cond.fieldLink RX4 9 "LineDisc$Scratches" "parts" "[I" ∈ BIG := big_in (List.mem_of_getElem? (i := 85) (by decide +kernel)) (by decide +kernel)
theorem wd86 : Cond.fieldLink RX4 13 "LineDisc$Scratches" "size" "I" ∈ BIG := big_in (List.mem_of_getElem? (i := 86) (by decide +kernel)) (by decide +kernel)
theorem wd87 : Cond.fieldLink RX7 59 "LineDisc$Scratches" "size" "I" ∈ BIG := big_in (List.mem_of_getElem? (i := 87) (by decide +kernel)) (by decide +kernel)
theorem wd88 : Cond.fieldLink RX10 219 "LineDisc$Scratches" "size" "I" ∈ BIG := big_in (List.mem_of_getElem? (i := 88) (by decide +kernel)) (by decide +kernel)
theorem wd101 : Cond.fieldLink RX8 11 "LineDisc$Symbols" "cells" "[I" ∈ BIG := big_in (List.mem_of_getElem? (i := 101) (by decide +kernel)) (by decide +kernel)
theorem wd102 : Cond.fieldLink RX8 15 "LineDisc$Symbols" "pressed" "[I" ∈ BIG := big_in (List.mem_of_getElem? (i := 102) (by decide +kernel)) (by decide +kernel)
theorem wd103 : Cond.fieldLink RX8 18 "LineDisc$Symbols" "size" "I" ∈ BIG := big_in (List.mem_of_getElem? (i := 103) (by decide +kernel)) (by decide +kernel)
theorem wd104 : Cond.fieldLink RX10 238 "LineDisc$Symbols" "size" "I" ∈ BIG := big_in (List.mem_of_getElem? (i := 104) (by decide +kernel)) (by decide +kernel)
theorem wd118 : Cond.fieldLink RX1 9 "LineDisc$Head" "position" "I" ∈ BIG := big_in (List.mem_of_getElem? (i := 118) (by decide +kernel)) (by decide +kernel)
theorem wd119 : Cond.fieldLink RX10 220 "LineDisc$Head" "position" "I" ∈ BIG := big_in (List.mem_of_getElem? (i := 119) (by decide +kernel)) (by decide +kernel)
theorem wd120 : Cond.fieldLink RX1 15 "LineDisc$Head" "speed" "I" ∈ BIG := big_in (List.mem_of_getElem? (i := 120) (by decide +kernel)) (by decide +kernel)
theorem wd121 : Cond.fieldLink RX10 223 "LineDisc$Head" "speed" "I" ∈ BIG := big_in (List.mem_of_getElem? (i := 121) (by decide +kernel)) (by decide +kernel)
theorem wd122 : Cond.fieldLink RX1 18 "LineDisc$Head" "ticks" "I" ∈ BIG := big_in (List.mem_of_getElem? (i := 122) (by decide +kernel)) (by decide +kernel)
theorem wd123 : Cond.fieldLink RX10 129 "LineDisc$Head" "ticks" "I" ∈ BIG := big_in (List.mem_of_getElem? (i := 123) (by decide +kernel)) (by decide +kernel)
theorem wd124 : Cond.fieldLink RX1 21 "LineDisc$Head" "read" "I" ∈ BIG := big_in (List.mem_of_getElem? (i := 124) (by decide +kernel)) (by decide +kernel)
theorem wd125 : Cond.fieldLink RX10 226 "LineDisc$Head" "read" "I" ∈ BIG := big_in (List.mem_of_getElem? (i := 125) (by decide +kernel)) (by decide +kernel)
theorem wd126 : Cond.fieldLink RX1 24 "LineDisc$Head" "readWhole" "I" ∈ BIG := big_in (List.mem_of_getElem? (i := 126) (by decide +kernel)) (by decide +kernel)
theorem wd127 : Cond.fieldLink RX10 229 "LineDisc$Head" "readWhole" "I" ∈ BIG := big_in (List.mem_of_getElem? (i := 127) (by decide +kernel)) (by decide +kernel)
theorem wd128 : Cond.fieldLink RX1 27 "LineDisc$Head" "jumps" "I" ∈ BIG := big_in (List.mem_of_getElem? (i := 128) (by decide +kernel)) (by decide +kernel)
theorem wd129 : Cond.fieldLink RX10 232 "LineDisc$Head" "jumps" "I" ∈ BIG := big_in (List.mem_of_getElem? (i := 129) (by decide +kernel)) (by decide +kernel)
theorem wd143 : Cond.fieldLink RX6 10 "LineDisc$State" "settings" "LLineDisc$Settings;" ∈ BIG := big_in (List.mem_of_getElem? (i := 143) (by decide +kernel)) (by decide +kernel)
theorem wd144 : Cond.fieldLink RX7 32 "LineDisc$State" "settings" "LLineDisc$Settings;" ∈ BIG := big_in (List.mem_of_getElem? (i := 144) (by decide +kernel)) (by decide +kernel)
theorem wd145 : Cond.fieldLink RX10 79 "LineDisc$State" "settings" "LLineDisc$Settings;" ∈ BIG := big_in (List.mem_of_getElem? (i := 145) (by decide +kernel)) (by decide +kernel)
theorem wd146 : Cond.fieldLink RX6 19 "LineDisc$State" "scratches" "LLineDisc$Scratches;" ∈ BIG := big_in (List.mem_of_getElem? (i := 146) (by decide +kernel)) (by decide +kernel)
theorem wd147 : Cond.fieldLink RX7 41 "LineDisc$State" "scratches" "LLineDisc$Scratches;" ∈ BIG := big_in (List.mem_of_getElem? (i := 147) (by decide +kernel)) (by decide +kernel)
theorem wd148 : Cond.fieldLink RX10 192 "LineDisc$State" "scratches" "LLineDisc$Scratches;" ∈ BIG := big_in (List.mem_of_getElem? (i := 148) (by decide +kernel)) (by decide +kernel)
theorem wd149 : Cond.fieldLink RX6 26 "LineDisc$State" "symbols" "LLineDisc$Symbols;" ∈ BIG := big_in (List.mem_of_getElem? (i := 149) (by decide +kernel)) (by decide +kernel)
theorem wd150 : Cond.fieldLink RX10 158 "LineDisc$State" "symbols" "LLineDisc$Symbols;" ∈ BIG := big_in (List.mem_of_getElem? (i := 150) (by decide +kernel)) (by decide +kernel)
theorem wd151 : Cond.fieldLink RX6 33 "LineDisc$State" "head" "LLineDisc$Head;" ∈ BIG := big_in (List.mem_of_getElem? (i := 151) (by decide +kernel)) (by decide +kernel)
theorem wd152 : Cond.fieldLink RX10 90 "LineDisc$State" "head" "LLineDisc$Head;" ∈ BIG := big_in (List.mem_of_getElem? (i := 152) (by decide +kernel)) (by decide +kernel)
theorem wd171 : Cond.fieldLink RX2 11 "LineDisc$History" "states" "[LLineDisc$State;" ∈ BIG := big_in (List.mem_of_getElem? (i := 171) (by decide +kernel)) (by decide +kernel)
theorem wd172 : Cond.fieldLink RX2 15 "LineDisc$History" "size" "I" ∈ BIG := big_in (List.mem_of_getElem? (i := 172) (by decide +kernel)) (by decide +kernel)
theorem wd173 : Cond.fieldLink RX10 128 "LineDisc$History" "size" "I" ∈ BIG := big_in (List.mem_of_getElem? (i := 173) (by decide +kernel)) (by decide +kernel)
theorem wd189 : Cond.fieldLink RX10 107 "LineDisc$Orders" "length" "I" ∈ BIG := big_in (List.mem_of_getElem? (i := 189) (by decide +kernel)) (by decide +kernel)
theorem wd218 : Cond.fieldLink RX7 12 "LineDisc$Survey" "spiral" "LLineDisc$Settings;" ∈ BIG := big_in (List.mem_of_getElem? (i := 218) (by decide +kernel)) (by decide +kernel)
theorem wd219 : Cond.fieldLink RX7 21 "LineDisc$Survey" "scratches" "LLineDisc$Scratches;" ∈ BIG := big_in (List.mem_of_getElem? (i := 219) (by decide +kernel)) (by decide +kernel)
theorem wd220 : Cond.fieldLink RX7 25 "LineDisc$Survey" "hits" "[I" ∈ BIG := big_in (List.mem_of_getElem? (i := 220) (by decide +kernel)) (by decide +kernel)
theorem wd221 : Cond.fieldLink RX7 29 "LineDisc$Survey" "hows" "[I" ∈ BIG := big_in (List.mem_of_getElem? (i := 221) (by decide +kernel)) (by decide +kernel)
theorem wd233 : Cond.fieldLink RX10 10 "LineDisc" "now" "LLineDisc$State;" ∈ BIG := big_in (List.mem_of_getElem? (i := 233) (by decide +kernel)) (by decide +kernel)
theorem wd234 : Cond.fieldLink RX10 16 "LineDisc" "before" "LLineDisc$State;" ∈ BIG := big_in (List.mem_of_getElem? (i := 234) (by decide +kernel)) (by decide +kernel)
theorem wd237 : Cond.fieldLink RX10 29 "LineDisc" "history" "LLineDisc$History;" ∈ BIG := big_in (List.mem_of_getElem? (i := 237) (by decide +kernel)) (by decide +kernel)
theorem wd238 : Cond.fieldLink RX10 36 "LineDisc" "orders" "LLineDisc$Orders;" ∈ BIG := big_in (List.mem_of_getElem? (i := 238) (by decide +kernel)) (by decide +kernel)
theorem wd239 : Cond.fieldLink RX10 43 "LineDisc" "survey" "LLineDisc$Survey;" ∈ BIG := big_in (List.mem_of_getElem? (i := 239) (by decide +kernel)) (by decide +kernel)
theorem wd240 : Cond.fieldLink RX10 50 "LineDisc" "trial" "LLineDisc$Head;" ∈ BIG := big_in (List.mem_of_getElem? (i := 240) (by decide +kernel)) (by decide +kernel)
theorem wd258 : Cond.methodLink RL 31 yX10_set ∈ BIG := big_in (List.mem_of_getElem? (i := 258) (by decide +kernel)) (by decide +kernel)
theorem wd259 : Cond.instanceMethod yX10_set ∈ BIG := big_in (List.mem_of_getElem? (i := 259) (by decide +kernel)) (by decide +kernel)
theorem wd260 : Cond.selects RX10 yX10_set yX10_set ∈ BIG := big_in (List.mem_of_getElem? (i := 260) (by decide +kernel)) (by decide +kernel)
theorem wd261 : Cond.code yX10_set cX10_set 4 (some .int) ∈ BIG := big_in (List.mem_of_getElem? (i := 261) (by decide +kernel)) (by decide +kernel)
theorem wd262 : Cond.methodLink RX10 73 yX5_isInRange ∈ BIG := big_in (List.mem_of_getElem? (i := 262) (by decide +kernel)) (by decide +kernel)
theorem wd263 : Cond.static yX5_isInRange ∈ BIG := big_in (List.mem_of_getElem? (i := 263) (by decide +kernel)) (by decide +kernel)
theorem wd264 : Cond.code yX5_isInRange cX5_isInRange 2 (some .boolean) ∈ BIG := big_in (List.mem_of_getElem? (i := 264) (by decide +kernel)) (by decide +kernel)
theorem wd265 : Cond.methodLink RX10 83 yX5_settingAt ∈ BIG := big_in (List.mem_of_getElem? (i := 265) (by decide +kernel)) (by decide +kernel)
theorem wd266 : Cond.instanceMethod yX5_settingAt ∈ BIG := big_in (List.mem_of_getElem? (i := 266) (by decide +kernel)) (by decide +kernel)
theorem wd267 : Cond.selects RX5 yX5_settingAt yX5_settingAt ∈ BIG := big_in (List.mem_of_getElem? (i := 267) (by decide +kernel)) (by decide +kernel)
theorem wd268 : Cond.code yX5_settingAt cX5_settingAt 2 (some .int) ∈ BIG := big_in (List.mem_of_getElem? (i := 268) (by decide +kernel)) (by decide +kernel)
theorem wd269 : Cond.methodLink RX10 54 yX6_copyFrom ∈ BIG := big_in (List.mem_of_getElem? (i := 269) (by decide +kernel)) (by decide +kernel)
theorem wd270 : Cond.instanceMethod yX6_copyFrom ∈ BIG := big_in (List.mem_of_getElem? (i := 270) (by decide +kernel)) (by decide +kernel)
theorem wd271 : Cond.selects RX6 yX6_copyFrom yX6_copyFrom ∈ BIG := big_in (List.mem_of_getElem? (i := 271) (by decide +kernel)) (by decide +kernel)
theorem wd272 : Cond.code yX6_copyFrom cX6_copyFrom 2 none ∈ BIG := big_in (List.mem_of_getElem? (i := 272) (by decide +kernel)) (by decide +kernel)
theorem wd273 : Cond.methodLink RX6 37 yX5_copyFrom ∈ BIG := big_in (List.mem_of_getElem? (i := 273) (by decide +kernel)) (by decide +kernel)
theorem wd274 : Cond.instanceMethod yX5_copyFrom ∈ BIG := big_in (List.mem_of_getElem? (i := 274) (by decide +kernel)) (by decide +kernel)
theorem wd275 : Cond.selects RX5 yX5_copyFrom yX5_copyFrom ∈ BIG := big_in (List.mem_of_getElem? (i := 275) (by decide +kernel)) (by decide +kernel)
theorem wd276 : Cond.code yX5_copyFrom cX5_copyFrom 2 none ∈ BIG := big_in (List.mem_of_getElem? (i := 276) (by decide +kernel)) (by decide +kernel)
theorem wd277 : Cond.methodLink RX6 41 yX4_copyFrom ∈ BIG := big_in (List.mem_of_getElem? (i := 277) (by decide +kernel)) (by decide +kernel)
theorem wd278 : Cond.instanceMethod yX4_copyFrom ∈ BIG := big_in (List.mem_of_getElem? (i := 278) (by decide +kernel)) (by decide +kernel)
theorem wd279 : Cond.selects RX4 yX4_copyFrom yX4_copyFrom ∈ BIG := big_in (List.mem_of_getElem? (i := 279) (by decide +kernel)) (by decide +kernel)
theorem wd280 : Cond.code yX4_copyFrom cX4_copyFrom 2 none ∈ BIG := big_in (List.mem_of_getElem? (i := 280) (by decide +kernel)) (by decide +kernel)
theorem wd281 : Cond.methodLink RX4 31 arraycopyName ∈ BIG := big_in (List.mem_of_getElem? (i := 281) (by decide +kernel)) (by decide +kernel)
theorem wd282 : Cond.static arraycopyName ∈ BIG := big_in (List.mem_of_getElem? (i := 282) (by decide +kernel)) (by decide +kernel)
theorem wd283 : Cond.native arraycopyName ∈ BIG := big_in (List.mem_of_getElem? (i := 283) (by decide +kernel)) (by decide +kernel)
theorem wd284 : Cond.methodLink RX6 44 yX8_copyFrom ∈ BIG := big_in (List.mem_of_getElem? (i := 284) (by decide +kernel)) (by decide +kernel)
theorem wd285 : Cond.instanceMethod yX8_copyFrom ∈ BIG := big_in (List.mem_of_getElem? (i := 285) (by decide +kernel)) (by decide +kernel)
theorem wd286 : Cond.selects RX8 yX8_copyFrom yX8_copyFrom ∈ BIG := big_in (List.mem_of_getElem? (i := 286) (by decide +kernel)) (by decide +kernel)
theorem wd287 : Cond.code yX8_copyFrom cX8_copyFrom 2 none ∈ BIG := big_in (List.mem_of_getElem? (i := 287) (by decide +kernel)) (by decide +kernel)
theorem wd288 : Cond.methodLink RX8 51 arraycopyName ∈ BIG := big_in (List.mem_of_getElem? (i := 288) (by decide +kernel)) (by decide +kernel)
theorem wd289 : Cond.methodLink RX6 47 yX1_copyFrom ∈ BIG := big_in (List.mem_of_getElem? (i := 289) (by decide +kernel)) (by decide +kernel)
theorem wd290 : Cond.instanceMethod yX1_copyFrom ∈ BIG := big_in (List.mem_of_getElem? (i := 290) (by decide +kernel)) (by decide +kernel)
theorem wd291 : Cond.selects RX1 yX1_copyFrom yX1_copyFrom ∈ BIG := big_in (List.mem_of_getElem? (i := 291) (by decide +kernel)) (by decide +kernel)
theorem wd292 : Cond.code yX1_copyFrom cX1_copyFrom 2 none ∈ BIG := big_in (List.mem_of_getElem? (i := 292) (by decide +kernel)) (by decide +kernel)
theorem wd293 : Cond.methodLink RX10 86 yX5_change ∈ BIG := big_in (List.mem_of_getElem? (i := 293) (by decide +kernel)) (by decide +kernel)
theorem wd294 : Cond.instanceMethod yX5_change ∈ BIG := big_in (List.mem_of_getElem? (i := 294) (by decide +kernel)) (by decide +kernel)
theorem wd295 : Cond.selects RX5 yX5_change yX5_change ∈ BIG := big_in (List.mem_of_getElem? (i := 295) (by decide +kernel)) (by decide +kernel)
theorem wd296 : Cond.code yX5_change cX5_change 3 none ∈ BIG := big_in (List.mem_of_getElem? (i := 296) (by decide +kernel)) (by decide +kernel)
theorem wd297 : Cond.methodLink RX10 93 yX1_goToStart ∈ BIG := big_in (List.mem_of_getElem? (i := 297) (by decide +kernel)) (by decide +kernel)
theorem wd298 : Cond.instanceMethod yX1_goToStart ∈ BIG := big_in (List.mem_of_getElem? (i := 298) (by decide +kernel)) (by decide +kernel)
theorem wd299 : Cond.selects RX1 yX1_goToStart yX1_goToStart ∈ BIG := big_in (List.mem_of_getElem? (i := 299) (by decide +kernel)) (by decide +kernel)
theorem wd300 : Cond.code yX1_goToStart cX1_goToStart 2 none ∈ BIG := big_in (List.mem_of_getElem? (i := 300) (by decide +kernel)) (by decide +kernel)
theorem wd301 : Cond.methodLink RX1 30 yX5_framesOf ∈ BIG := big_in (List.mem_of_getElem? (i := 301) (by decide +kernel)) (by decide +kernel)
theorem wd302 : Cond.instanceMethod yX5_framesOf ∈ BIG := big_in (List.mem_of_getElem? (i := 302) (by decide +kernel)) (by decide +kernel)
theorem wd303 : Cond.selects RX5 yX5_framesOf yX5_framesOf ∈ BIG := big_in (List.mem_of_getElem? (i := 303) (by decide +kernel)) (by decide +kernel)
theorem wd304 : Cond.code yX5_framesOf cX5_framesOf 2 (some .int) ∈ BIG := big_in (List.mem_of_getElem? (i := 304) (by decide +kernel)) (by decide +kernel)
theorem wd305 : Cond.methodLink RX10 62 yX10_recorded ∈ BIG := big_in (List.mem_of_getElem? (i := 305) (by decide +kernel)) (by decide +kernel)
theorem wd307 : Cond.instanceMethod yX10_recorded ∈ BIG := big_in (List.mem_of_getElem? (i := 307) (by decide +kernel)) (by decide +kernel)
theorem wd308 : Cond.code yX10_recorded cX10_recorded 2 (some .int) ∈ BIG := big_in (List.mem_of_getElem? (i := 308) (by decide +kernel)) (by decide +kernel)
theorem wd309 : Cond.methodLink RX10 295 yX2_add ∈ BIG := big_in (List.mem_of_getElem? (i := 309) (by decide +kernel)) (by decide +kernel)
theorem wd310 : Cond.instanceMethod yX2_add ∈ BIG := big_in (List.mem_of_getElem? (i := 310) (by decide +kernel)) (by decide +kernel)
theorem wd311 : Cond.selects RX2 yX2_add yX2_add ∈ BIG := big_in (List.mem_of_getElem? (i := 311) (by decide +kernel)) (by decide +kernel)
theorem wd312 : Cond.code yX2_add cX2_add 3 none ∈ BIG := big_in (List.mem_of_getElem? (i := 312) (by decide +kernel)) (by decide +kernel)
theorem wd313 : Cond.methodLink RX2 20 yX2_dropOldest ∈ BIG := big_in (List.mem_of_getElem? (i := 313) (by decide +kernel)) (by decide +kernel)
theorem wd315 : Cond.instanceMethod yX2_dropOldest ∈ BIG := big_in (List.mem_of_getElem? (i := 315) (by decide +kernel)) (by decide +kernel)
theorem wd316 : Cond.code yX2_dropOldest cX2_dropOldest 3 none ∈ BIG := big_in (List.mem_of_getElem? (i := 316) (by decide +kernel)) (by decide +kernel)
theorem wd317 : Cond.methodLink RX2 23 yX2_stateAt ∈ BIG := big_in (List.mem_of_getElem? (i := 317) (by decide +kernel)) (by decide +kernel)
theorem wd319 : Cond.instanceMethod yX2_stateAt ∈ BIG := big_in (List.mem_of_getElem? (i := 319) (by decide +kernel)) (by decide +kernel)
theorem wd320 : Cond.code yX2_stateAt cX2_stateAt 2 (some (.object "LineDisc$State")) ∈ BIG := big_in (List.mem_of_getElem? (i := 320) (by decide +kernel)) (by decide +kernel)
theorem wd321 : Cond.methodLink RX2 27 yX6_copyFrom ∈ BIG := big_in (List.mem_of_getElem? (i := 321) (by decide +kernel)) (by decide +kernel)
theorem wd322 : Cond.methodLink RL 8 yX10_count ∈ BIG := big_in (List.mem_of_getElem? (i := 322) (by decide +kernel)) (by decide +kernel)
theorem wd323 : Cond.instanceMethod yX10_count ∈ BIG := big_in (List.mem_of_getElem? (i := 323) (by decide +kernel)) (by decide +kernel)
theorem wd324 : Cond.selects RX10 yX10_count yX10_count ∈ BIG := big_in (List.mem_of_getElem? (i := 324) (by decide +kernel)) (by decide +kernel)
theorem wd325 : Cond.code yX10_count cX10_count 2 (some .int) ∈ BIG := big_in (List.mem_of_getElem? (i := 325) (by decide +kernel)) (by decide +kernel)
theorem wd326 : Cond.methodLink RX10 213 yX5_allFrames ∈ BIG := big_in (List.mem_of_getElem? (i := 326) (by decide +kernel)) (by decide +kernel)
theorem wd327 : Cond.instanceMethod yX5_allFrames ∈ BIG := big_in (List.mem_of_getElem? (i := 327) (by decide +kernel)) (by decide +kernel)
theorem wd328 : Cond.selects RX5 yX5_allFrames yX5_allFrames ∈ BIG := big_in (List.mem_of_getElem? (i := 328) (by decide +kernel)) (by decide +kernel)
theorem wd329 : Cond.code yX5_allFrames cX5_allFrames 1 (some .int) ∈ BIG := big_in (List.mem_of_getElem? (i := 329) (by decide +kernel)) (by decide +kernel)
theorem wd330 : Cond.methodLink RX5 30 yX5_firstOf ∈ BIG := big_in (List.mem_of_getElem? (i := 330) (by decide +kernel)) (by decide +kernel)
theorem wd331 : Cond.instanceMethod yX5_firstOf ∈ BIG := big_in (List.mem_of_getElem? (i := 331) (by decide +kernel)) (by decide +kernel)
theorem wd332 : Cond.selects RX5 yX5_firstOf yX5_firstOf ∈ BIG := big_in (List.mem_of_getElem? (i := 332) (by decide +kernel)) (by decide +kernel)
theorem wd333 : Cond.code yX5_firstOf cX5_firstOf 2 (some .int) ∈ BIG := big_in (List.mem_of_getElem? (i := 333) (by decide +kernel)) (by decide +kernel)
theorem wd334 : Cond.methodLink RX10 216 yX5_groups ∈ BIG := big_in (List.mem_of_getElem? (i := 334) (by decide +kernel)) (by decide +kernel)
theorem wd335 : Cond.instanceMethod yX5_groups ∈ BIG := big_in (List.mem_of_getElem? (i := 335) (by decide +kernel)) (by decide +kernel)
theorem wd336 : Cond.selects RX5 yX5_groups yX5_groups ∈ BIG := big_in (List.mem_of_getElem? (i := 336) (by decide +kernel)) (by decide +kernel)
theorem wd337 : Cond.code yX5_groups cX5_groups 1 (some .int) ∈ BIG := big_in (List.mem_of_getElem? (i := 337) (by decide +kernel)) (by decide +kernel)
theorem wd338 : Cond.methodLink RX5 34 yX5_allFrames ∈ BIG := big_in (List.mem_of_getElem? (i := 338) (by decide +kernel)) (by decide +kernel)
theorem wd339 : Cond.methodLink RX10 136 yX5_turnOf ∈ BIG := big_in (List.mem_of_getElem? (i := 339) (by decide +kernel)) (by decide +kernel)
theorem wd340 : Cond.instanceMethod yX5_turnOf ∈ BIG := big_in (List.mem_of_getElem? (i := 340) (by decide +kernel)) (by decide +kernel)
theorem wd341 : Cond.selects RX5 yX5_turnOf yX5_turnOf ∈ BIG := big_in (List.mem_of_getElem? (i := 341) (by decide +kernel)) (by decide +kernel)
theorem wd342 : Cond.code yX5_turnOf cX5_turnOf 3 (some .int) ∈ BIG := big_in (List.mem_of_getElem? (i := 342) (by decide +kernel)) (by decide +kernel)
theorem wd343 : Cond.methodLink RX10 148 yX7_of ∈ BIG := big_in (List.mem_of_getElem? (i := 343) (by decide +kernel)) (by decide +kernel)
theorem wd344 : Cond.instanceMethod yX7_of ∈ BIG := big_in (List.mem_of_getElem? (i := 344) (by decide +kernel)) (by decide +kernel)
theorem wd345 : Cond.selects RX7 yX7_of yX7_of ∈ BIG := big_in (List.mem_of_getElem? (i := 345) (by decide +kernel)) (by decide +kernel)
theorem wd346 : Cond.code yX7_of cX7_of 3 (some (.object "LineDisc$Survey")) ∈ BIG := big_in (List.mem_of_getElem? (i := 346) (by decide +kernel)) (by decide +kernel)
theorem wd347 : Cond.methodLink RX7 37 yX5_hasSpiralOf ∈ BIG := big_in (List.mem_of_getElem? (i := 347) (by decide +kernel)) (by decide +kernel)
theorem wd348 : Cond.instanceMethod yX5_hasSpiralOf ∈ BIG := big_in (List.mem_of_getElem? (i := 348) (by decide +kernel)) (by decide +kernel)
theorem wd349 : Cond.selects RX5 yX5_hasSpiralOf yX5_hasSpiralOf ∈ BIG := big_in (List.mem_of_getElem? (i := 349) (by decide +kernel)) (by decide +kernel)
theorem wd350 : Cond.code yX5_hasSpiralOf cX5_hasSpiralOf 2 (some .boolean) ∈ BIG := big_in (List.mem_of_getElem? (i := 350) (by decide +kernel)) (by decide +kernel)
theorem wd351 : Cond.methodLink RX7 42 yX4_isLike ∈ BIG := big_in (List.mem_of_getElem? (i := 351) (by decide +kernel)) (by decide +kernel)
theorem wd352 : Cond.instanceMethod yX4_isLike ∈ BIG := big_in (List.mem_of_getElem? (i := 352) (by decide +kernel)) (by decide +kernel)
theorem wd353 : Cond.selects RX4 yX4_isLike yX4_isLike ∈ BIG := big_in (List.mem_of_getElem? (i := 353) (by decide +kernel)) (by decide +kernel)
theorem wd354 : Cond.code yX4_isLike cX4_isLike 4 (some .boolean) ∈ BIG := big_in (List.mem_of_getElem? (i := 354) (by decide +kernel)) (by decide +kernel)
theorem wd355 : Cond.methodLinkNest RX4 27 yX10_at "LineDisc" ∈ lw_tbl := List.mem_of_getElem? (i := 355) (by decide +kernel)
theorem wd356 : Cond.static yX10_at ∈ BIG := big_in (List.mem_of_getElem? (i := 356) (by decide +kernel)) (by decide +kernel)
theorem wd357 : Cond.code yX10_at cX10_at 2 (some .int) ∈ BIG := big_in (List.mem_of_getElem? (i := 357) (by decide +kernel)) (by decide +kernel)
theorem wd358 : Cond.methodLink RX7 46 yX5_copyFrom ∈ BIG := big_in (List.mem_of_getElem? (i := 358) (by decide +kernel)) (by decide +kernel)
theorem wd359 : Cond.methodLink RX7 50 yX4_copyFrom ∈ BIG := big_in (List.mem_of_getElem? (i := 359) (by decide +kernel)) (by decide +kernel)
theorem wd360 : Cond.methodLink RX7 53 yJ7_fill_53178 ∈ BIG := big_in (List.mem_of_getElem? (i := 360) (by decide +kernel)) (by decide +kernel)
theorem wd361 : Cond.static yJ7_fill_53178 ∈ BIG := big_in (List.mem_of_getElem? (i := 361) (by decide +kernel)) (by decide +kernel)
theorem wd362 : Cond.code yJ7_fill_53178 cJ7_fill_53178 4 none ∈ BIG := big_in (List.mem_of_getElem? (i := 362) (by decide +kernel)) (by decide +kernel)
theorem wd363 : Cond.methodLink RX7 63 yX7_markScratch ∈ BIG := big_in (List.mem_of_getElem? (i := 363) (by decide +kernel)) (by decide +kernel)
theorem wd365 : Cond.instanceMethod yX7_markScratch ∈ BIG := big_in (List.mem_of_getElem? (i := 365) (by decide +kernel)) (by decide +kernel)
theorem wd366 : Cond.code yX7_markScratch cX7_markScratch 8 none ∈ BIG := big_in (List.mem_of_getElem? (i := 366) (by decide +kernel)) (by decide +kernel)
theorem wd367 : Cond.methodLink RX7 70 yX4_fromOf ∈ BIG := big_in (List.mem_of_getElem? (i := 367) (by decide +kernel)) (by decide +kernel)
theorem wd368 : Cond.instanceMethod yX4_fromOf ∈ BIG := big_in (List.mem_of_getElem? (i := 368) (by decide +kernel)) (by decide +kernel)
theorem wd369 : Cond.selects RX4 yX4_fromOf yX4_fromOf ∈ BIG := big_in (List.mem_of_getElem? (i := 369) (by decide +kernel)) (by decide +kernel)
theorem wd370 : Cond.code yX4_fromOf cX4_fromOf 2 (some .int) ∈ BIG := big_in (List.mem_of_getElem? (i := 370) (by decide +kernel)) (by decide +kernel)
theorem wd371 : Cond.methodLink RX7 74 yX4_toOf ∈ BIG := big_in (List.mem_of_getElem? (i := 371) (by decide +kernel)) (by decide +kernel)
theorem wd372 : Cond.instanceMethod yX4_toOf ∈ BIG := big_in (List.mem_of_getElem? (i := 372) (by decide +kernel)) (by decide +kernel)
theorem wd373 : Cond.selects RX4 yX4_toOf yX4_toOf ∈ BIG := big_in (List.mem_of_getElem? (i := 373) (by decide +kernel)) (by decide +kernel)
theorem wd374 : Cond.code yX4_toOf cX4_toOf 2 (some .int) ∈ BIG := big_in (List.mem_of_getElem? (i := 374) (by decide +kernel)) (by decide +kernel)
theorem wd375 : Cond.methodLink RX7 77 yX4_outerOf ∈ BIG := big_in (List.mem_of_getElem? (i := 375) (by decide +kernel)) (by decide +kernel)
theorem wd376 : Cond.instanceMethod yX4_outerOf ∈ BIG := big_in (List.mem_of_getElem? (i := 376) (by decide +kernel)) (by decide +kernel)
theorem wd377 : Cond.selects RX4 yX4_outerOf yX4_outerOf ∈ BIG := big_in (List.mem_of_getElem? (i := 377) (by decide +kernel)) (by decide +kernel)
theorem wd378 : Cond.code yX4_outerOf cX4_outerOf 2 (some .int) ∈ BIG := big_in (List.mem_of_getElem? (i := 378) (by decide +kernel)) (by decide +kernel)
theorem wd379 : Cond.methodLink RX7 80 Lib.Math.min.name ∈ BIG := big_in (List.mem_of_getElem? (i := 379) (by decide +kernel)) (by decide +kernel)
theorem wd380 : Cond.static Lib.Math.min.name ∈ BIG := big_in (List.mem_of_getElem? (i := 380) (by decide +kernel)) (by decide +kernel)
theorem wd381 : Cond.code Lib.Math.min.name Lib.Math.min.code 2 (some .int) ∈ BIG := big_in (List.mem_of_getElem? (i := 381) (by decide +kernel)) (by decide +kernel)
theorem wd382 : Cond.methodLink RX7 86 yX4_innerOf ∈ BIG := big_in (List.mem_of_getElem? (i := 382) (by decide +kernel)) (by decide +kernel)
theorem wd383 : Cond.instanceMethod yX4_innerOf ∈ BIG := big_in (List.mem_of_getElem? (i := 383) (by decide +kernel)) (by decide +kernel)
theorem wd384 : Cond.selects RX4 yX4_innerOf yX4_innerOf ∈ BIG := big_in (List.mem_of_getElem? (i := 384) (by decide +kernel)) (by decide +kernel)
theorem wd385 : Cond.code yX4_innerOf cX4_innerOf 2 (some .int) ∈ BIG := big_in (List.mem_of_getElem? (i := 385) (by decide +kernel)) (by decide +kernel)
theorem wd386 : Cond.methodLink RX7 89 Lib.Math.max.name ∈ BIG := big_in (List.mem_of_getElem? (i := 386) (by decide +kernel)) (by decide +kernel)
theorem wd387 : Cond.static Lib.Math.max.name ∈ BIG := big_in (List.mem_of_getElem? (i := 387) (by decide +kernel)) (by decide +kernel)
theorem wd388 : Cond.code Lib.Math.max.name Lib.Math.max.code 2 (some .int) ∈ BIG := big_in (List.mem_of_getElem? (i := 388) (by decide +kernel)) (by decide +kernel)
theorem wd389 : Cond.methodLink RX7 92 yX5_framesOf ∈ BIG := big_in (List.mem_of_getElem? (i := 389) (by decide +kernel)) (by decide +kernel)
theorem wd390 : Cond.methodLink RX7 95 yX5_firstOf ∈ BIG := big_in (List.mem_of_getElem? (i := 390) (by decide +kernel)) (by decide +kernel)
theorem wd391 : Cond.methodLink RX7 98 yX7_markRow ∈ BIG := big_in (List.mem_of_getElem? (i := 391) (by decide +kernel)) (by decide +kernel)
theorem wd393 : Cond.instanceMethod yX7_markRow ∈ BIG := big_in (List.mem_of_getElem? (i := 393) (by decide +kernel)) (by decide +kernel)
theorem wd394 : Cond.code yX7_markRow cX7_markRow 5 none ∈ BIG := big_in (List.mem_of_getElem? (i := 394) (by decide +kernel)) (by decide +kernel)
theorem wd395 : Cond.methodLink RX7 67 yX7_judge ∈ BIG := big_in (List.mem_of_getElem? (i := 395) (by decide +kernel)) (by decide +kernel)
theorem wd396 : Cond.instanceMethod yX7_judge ∈ BIG := big_in (List.mem_of_getElem? (i := 396) (by decide +kernel)) (by decide +kernel)
theorem wd397 : Cond.selects RX7 yX7_judge yX7_judge ∈ BIG := big_in (List.mem_of_getElem? (i := 397) (by decide +kernel)) (by decide +kernel)
theorem wd398 : Cond.code yX7_judge cX7_judge 4 none ∈ BIG := big_in (List.mem_of_getElem? (i := 398) (by decide +kernel)) (by decide +kernel)
theorem wd399 : Cond.methodLink RX7 102 yX5_allFrames ∈ BIG := big_in (List.mem_of_getElem? (i := 399) (by decide +kernel)) (by decide +kernel)
theorem wd400 : Cond.methodLink RX7 106 yX7_judgeGroup ∈ BIG := big_in (List.mem_of_getElem? (i := 400) (by decide +kernel)) (by decide +kernel)
theorem wd402 : Cond.instanceMethod yX7_judgeGroup ∈ BIG := big_in (List.mem_of_getElem? (i := 402) (by decide +kernel)) (by decide +kernel)
theorem wd403 : Cond.code yX7_judgeGroup cX7_judgeGroup 7 none ∈ BIG := big_in (List.mem_of_getElem? (i := 403) (by decide +kernel)) (by decide +kernel)
theorem wd404 : Cond.methodLink RX7 121 yX7_damagedIn ∈ BIG := big_in (List.mem_of_getElem? (i := 404) (by decide +kernel)) (by decide +kernel)
theorem wd405 : Cond.instanceMethod yX7_damagedIn ∈ BIG := big_in (List.mem_of_getElem? (i := 405) (by decide +kernel)) (by decide +kernel)
theorem wd406 : Cond.selects RX7 yX7_damagedIn yX7_damagedIn ∈ BIG := big_in (List.mem_of_getElem? (i := 406) (by decide +kernel)) (by decide +kernel)
theorem wd407 : Cond.code yX7_damagedIn cX7_damagedIn 6 (some .int) ∈ BIG := big_in (List.mem_of_getElem? (i := 407) (by decide +kernel)) (by decide +kernel)
theorem wd408 : Cond.methodLinkNest RX7 109 yX10_at "LineDisc" ∈ lw_tbl := List.mem_of_getElem? (i := 408) (by decide +kernel)
theorem wd409 : Cond.methodLinkNest RX7 117 yX10_put "LineDisc" ∈ lw_tbl := List.mem_of_getElem? (i := 409) (by decide +kernel)
theorem wd410 : Cond.static yX10_put ∈ BIG := big_in (List.mem_of_getElem? (i := 410) (by decide +kernel)) (by decide +kernel)
theorem wd411 : Cond.code yX10_put cX10_put 3 none ∈ BIG := big_in (List.mem_of_getElem? (i := 411) (by decide +kernel)) (by decide +kernel)
theorem wd412 : Cond.methodLink RX7 113 yX7_canBeFilled ∈ BIG := big_in (List.mem_of_getElem? (i := 412) (by decide +kernel)) (by decide +kernel)
theorem wd414 : Cond.instanceMethod yX7_canBeFilled ∈ BIG := big_in (List.mem_of_getElem? (i := 414) (by decide +kernel)) (by decide +kernel)
theorem wd415 : Cond.code yX7_canBeFilled cX7_canBeFilled 5 (some .boolean) ∈ BIG := big_in (List.mem_of_getElem? (i := 415) (by decide +kernel)) (by decide +kernel)
theorem wd416 : Cond.methodLink RX7 125 yX5_dataAhead ∈ BIG := big_in (List.mem_of_getElem? (i := 416) (by decide +kernel)) (by decide +kernel)
theorem wd417 : Cond.static yX5_dataAhead ∈ BIG := big_in (List.mem_of_getElem? (i := 417) (by decide +kernel)) (by decide +kernel)
theorem wd418 : Cond.code yX5_dataAhead cX5_dataAhead 1 (some .int) ∈ BIG := big_in (List.mem_of_getElem? (i := 418) (by decide +kernel)) (by decide +kernel)
theorem wd419 : Cond.methodLink RX7 128 yX5_dataBehind ∈ BIG := big_in (List.mem_of_getElem? (i := 419) (by decide +kernel)) (by decide +kernel)
theorem wd420 : Cond.static yX5_dataBehind ∈ BIG := big_in (List.mem_of_getElem? (i := 420) (by decide +kernel)) (by decide +kernel)
theorem wd421 : Cond.code yX5_dataBehind cX5_dataBehind 1 (some .int) ∈ BIG := big_in (List.mem_of_getElem? (i := 421) (by decide +kernel)) (by decide +kernel)
theorem wd422 : Cond.methodLink RX7 131 yX5_isCheck ∈ BIG := big_in (List.mem_of_getElem? (i := 422) (by decide +kernel)) (by decide +kernel)
theorem wd423 : Cond.static yX5_isCheck ∈ BIG := big_in (List.mem_of_getElem? (i := 423) (by decide +kernel)) (by decide +kernel)
theorem wd424 : Cond.code yX5_isCheck cX5_isCheck 1 (some .boolean) ∈ BIG := big_in (List.mem_of_getElem? (i := 424) (by decide +kernel)) (by decide +kernel)
theorem wd425 : Cond.methodLink RX10 235 yX7_framesThatAre ∈ BIG := big_in (List.mem_of_getElem? (i := 425) (by decide +kernel)) (by decide +kernel)
theorem wd426 : Cond.instanceMethod yX7_framesThatAre ∈ BIG := big_in (List.mem_of_getElem? (i := 426) (by decide +kernel)) (by decide +kernel)
theorem wd427 : Cond.selects RX7 yX7_framesThatAre yX7_framesThatAre ∈ BIG := big_in (List.mem_of_getElem? (i := 427) (by decide +kernel)) (by decide +kernel)
theorem wd428 : Cond.code yX7_framesThatAre cX7_framesThatAre 5 (some .int) ∈ BIG := big_in (List.mem_of_getElem? (i := 428) (by decide +kernel)) (by decide +kernel)
theorem wd429 : Cond.methodLink RX10 239 yX10_countSetting ∈ BIG := big_in (List.mem_of_getElem? (i := 429) (by decide +kernel)) (by decide +kernel)
theorem wd431 : Cond.instanceMethod yX10_countSetting ∈ BIG := big_in (List.mem_of_getElem? (i := 431) (by decide +kernel)) (by decide +kernel)
theorem wd432 : Cond.code yX10_countSetting cX10_countSetting 2 (some .int) ∈ BIG := big_in (List.mem_of_getElem? (i := 432) (by decide +kernel)) (by decide +kernel)
theorem wd433 : Cond.methodLink RX10 297 yX5_isSetting ∈ BIG := big_in (List.mem_of_getElem? (i := 433) (by decide +kernel)) (by decide +kernel)
theorem wd434 : Cond.static yX5_isSetting ∈ BIG := big_in (List.mem_of_getElem? (i := 434) (by decide +kernel)) (by decide +kernel)
theorem wd435 : Cond.code yX5_isSetting cX5_isSetting 1 (some .boolean) ∈ BIG := big_in (List.mem_of_getElem? (i := 435) (by decide +kernel)) (by decide +kernel)
theorem wd439 : Cond.methodLink RL 14 yL_low ∈ BIG := big_in (List.mem_of_getElem? (i := 439) (by decide +kernel)) (by decide +kernel)
theorem wd440 : Cond.static yL_low ∈ BIG := big_in (List.mem_of_getElem? (i := 440) (by decide +kernel)) (by decide +kernel)
theorem wd441 : Cond.code yL_low cL_low 2 (some .int) ∈ BIG := big_in (List.mem_of_getElem? (i := 441) (by decide +kernel)) (by decide +kernel)
theorem wd442 : Cond.constant RL 7 (2147483647 : Int32) ∈ BIG := big_in (List.mem_of_getElem? (i := 442) (by decide +kernel)) (by decide +kernel)
theorem wd446 : Cond.methodLink RL 20 yX10_scratch ∈ BIG := big_in (List.mem_of_getElem? (i := 446) (by decide +kernel)) (by decide +kernel)
theorem wd447 : Cond.instanceMethod yX10_scratch ∈ BIG := big_in (List.mem_of_getElem? (i := 447) (by decide +kernel)) (by decide +kernel)
theorem wd448 : Cond.selects RX10 yX10_scratch yX10_scratch ∈ BIG := big_in (List.mem_of_getElem? (i := 448) (by decide +kernel)) (by decide +kernel)
theorem wd449 : Cond.code yX10_scratch cX10_scratch 5 (some .int) ∈ BIG := big_in (List.mem_of_getElem? (i := 449) (by decide +kernel)) (by decide +kernel)
theorem wd450 : Cond.methodLink RX10 66 yX10_addScratch ∈ BIG := big_in (List.mem_of_getElem? (i := 450) (by decide +kernel)) (by decide +kernel)
theorem wd452 : Cond.instanceMethod yX10_addScratch ∈ BIG := big_in (List.mem_of_getElem? (i := 452) (by decide +kernel)) (by decide +kernel)
theorem wd453 : Cond.code yX10_addScratch cX10_addScratch 7 (some .int) ∈ BIG := big_in (List.mem_of_getElem? (i := 453) (by decide +kernel)) (by decide +kernel)
theorem wd454 : Cond.methodLink RX10 262 yX4_add ∈ BIG := big_in (List.mem_of_getElem? (i := 454) (by decide +kernel)) (by decide +kernel)
theorem wd455 : Cond.instanceMethod yX4_add ∈ BIG := big_in (List.mem_of_getElem? (i := 455) (by decide +kernel)) (by decide +kernel)
theorem wd456 : Cond.selects RX4 yX4_add yX4_add ∈ BIG := big_in (List.mem_of_getElem? (i := 456) (by decide +kernel)) (by decide +kernel)
theorem wd457 : Cond.code yX4_add cX4_add 5 (some .boolean) ∈ BIG := big_in (List.mem_of_getElem? (i := 457) (by decide +kernel)) (by decide +kernel)
theorem wd458 : Cond.methodLinkNest RX4 17 yX10_put "LineDisc" ∈ lw_tbl := List.mem_of_getElem? (i := 458) (by decide +kernel)
theorem wd459 : Cond.methodLink RX10 186 yX7_damagedIn ∈ BIG := big_in (List.mem_of_getElem? (i := 459) (by decide +kernel)) (by decide +kernel)
theorem wd460 : Cond.methodLink RL 24 yX10_polish ∈ BIG := big_in (List.mem_of_getElem? (i := 460) (by decide +kernel)) (by decide +kernel)
theorem wd461 : Cond.instanceMethod yX10_polish ∈ BIG := big_in (List.mem_of_getElem? (i := 461) (by decide +kernel)) (by decide +kernel)
theorem wd462 : Cond.selects RX10 yX10_polish yX10_polish ∈ BIG := big_in (List.mem_of_getElem? (i := 462) (by decide +kernel)) (by decide +kernel)
theorem wd463 : Cond.code yX10_polish cX10_polish 2 (some .int) ∈ BIG := big_in (List.mem_of_getElem? (i := 463) (by decide +kernel)) (by decide +kernel)
theorem wd464 : Cond.methodLink RX10 70 yX10_polishAway ∈ BIG := big_in (List.mem_of_getElem? (i := 464) (by decide +kernel)) (by decide +kernel)
theorem wd466 : Cond.instanceMethod yX10_polishAway ∈ BIG := big_in (List.mem_of_getElem? (i := 466) (by decide +kernel)) (by decide +kernel)
theorem wd467 : Cond.code yX10_polishAway cX10_polishAway 2 (some .int) ∈ BIG := big_in (List.mem_of_getElem? (i := 467) (by decide +kernel)) (by decide +kernel)
theorem wd468 : Cond.methodLink RX10 196 yX4_has ∈ BIG := big_in (List.mem_of_getElem? (i := 468) (by decide +kernel)) (by decide +kernel)
theorem wd469 : Cond.instanceMethod yX4_has ∈ BIG := big_in (List.mem_of_getElem? (i := 469) (by decide +kernel)) (by decide +kernel)
theorem wd470 : Cond.selects RX4 yX4_has yX4_has ∈ BIG := big_in (List.mem_of_getElem? (i := 470) (by decide +kernel)) (by decide +kernel)
theorem wd471 : Cond.code yX4_has cX4_has 2 (some .boolean) ∈ BIG := big_in (List.mem_of_getElem? (i := 471) (by decide +kernel)) (by decide +kernel)
theorem wd472 : Cond.methodLink RX10 266 yX4_drop ∈ BIG := big_in (List.mem_of_getElem? (i := 472) (by decide +kernel)) (by decide +kernel)
theorem wd473 : Cond.instanceMethod yX4_drop ∈ BIG := big_in (List.mem_of_getElem? (i := 473) (by decide +kernel)) (by decide +kernel)
theorem wd474 : Cond.selects RX4 yX4_drop yX4_drop ∈ BIG := big_in (List.mem_of_getElem? (i := 474) (by decide +kernel)) (by decide +kernel)
theorem wd475 : Cond.code yX4_drop cX4_drop 3 none ∈ BIG := big_in (List.mem_of_getElem? (i := 475) (by decide +kernel)) (by decide +kernel)
theorem wd476 : Cond.methodLink RX4 23 yX4_has ∈ BIG := big_in (List.mem_of_getElem? (i := 476) (by decide +kernel)) (by decide +kernel)
theorem wd477 : Cond.methodLink RL 27 yX10_press ∈ BIG := big_in (List.mem_of_getElem? (i := 477) (by decide +kernel)) (by decide +kernel)
theorem wd478 : Cond.instanceMethod yX10_press ∈ BIG := big_in (List.mem_of_getElem? (i := 478) (by decide +kernel)) (by decide +kernel)
theorem wd479 : Cond.selects RX10 yX10_press yX10_press ∈ BIG := big_in (List.mem_of_getElem? (i := 479) (by decide +kernel)) (by decide +kernel)
theorem wd480 : Cond.code yX10_press cX10_press 4 (some .int) ∈ BIG := big_in (List.mem_of_getElem? (i := 480) (by decide +kernel)) (by decide +kernel)
theorem wd481 : Cond.methodLink RX10 58 yX10_pressSymbol ∈ BIG := big_in (List.mem_of_getElem? (i := 481) (by decide +kernel)) (by decide +kernel)
theorem wd483 : Cond.instanceMethod yX10_pressSymbol ∈ BIG := big_in (List.mem_of_getElem? (i := 483) (by decide +kernel)) (by decide +kernel)
theorem wd484 : Cond.code yX10_pressSymbol cX10_pressSymbol 5 (some .int) ∈ BIG := big_in (List.mem_of_getElem? (i := 484) (by decide +kernel)) (by decide +kernel)
theorem wd485 : Cond.methodLink RX10 132 yX5_hasFrame ∈ BIG := big_in (List.mem_of_getElem? (i := 485) (by decide +kernel)) (by decide +kernel)
theorem wd486 : Cond.instanceMethod yX5_hasFrame ∈ BIG := big_in (List.mem_of_getElem? (i := 486) (by decide +kernel)) (by decide +kernel)
theorem wd487 : Cond.selects RX5 yX5_hasFrame yX5_hasFrame ∈ BIG := big_in (List.mem_of_getElem? (i := 487) (by decide +kernel)) (by decide +kernel)
theorem wd488 : Cond.code yX5_hasFrame cX5_hasFrame 2 (some .boolean) ∈ BIG := big_in (List.mem_of_getElem? (i := 488) (by decide +kernel)) (by decide +kernel)
theorem wd489 : Cond.methodLink RX10 173 yX10_isPlace ∈ BIG := big_in (List.mem_of_getElem? (i := 489) (by decide +kernel)) (by decide +kernel)
theorem wd490 : Cond.static yX10_isPlace ∈ BIG := big_in (List.mem_of_getElem? (i := 490) (by decide +kernel)) (by decide +kernel)
theorem wd491 : Cond.code yX10_isPlace cX10_isPlace 1 (some .boolean) ∈ BIG := big_in (List.mem_of_getElem? (i := 491) (by decide +kernel)) (by decide +kernel)
theorem wd492 : Cond.methodLink RX10 145 yX5_isCheck ∈ BIG := big_in (List.mem_of_getElem? (i := 492) (by decide +kernel)) (by decide +kernel)
theorem wd493 : Cond.methodLink RX10 180 yX8_standsAt ∈ BIG := big_in (List.mem_of_getElem? (i := 493) (by decide +kernel)) (by decide +kernel)
theorem wd494 : Cond.instanceMethod yX8_standsAt ∈ BIG := big_in (List.mem_of_getElem? (i := 494) (by decide +kernel)) (by decide +kernel)
theorem wd495 : Cond.selects RX8 yX8_standsAt yX8_standsAt ∈ BIG := big_in (List.mem_of_getElem? (i := 495) (by decide +kernel)) (by decide +kernel)
theorem wd496 : Cond.code yX8_standsAt cX8_standsAt 5 (some .int) ∈ BIG := big_in (List.mem_of_getElem? (i := 496) (by decide +kernel)) (by decide +kernel)
theorem wd497 : Cond.methodLink RX8 22 yX5_isCheck ∈ BIG := big_in (List.mem_of_getElem? (i := 497) (by decide +kernel)) (by decide +kernel)
theorem wd498 : Cond.methodLink RX8 28 yX8_dataAt ∈ BIG := big_in (List.mem_of_getElem? (i := 498) (by decide +kernel)) (by decide +kernel)
theorem wd500 : Cond.instanceMethod yX8_dataAt ∈ BIG := big_in (List.mem_of_getElem? (i := 500) (by decide +kernel)) (by decide +kernel)
theorem wd501 : Cond.code yX8_dataAt cX8_dataAt 4 (some .int) ∈ BIG := big_in (List.mem_of_getElem? (i := 501) (by decide +kernel)) (by decide +kernel)
theorem wd502 : Cond.methodLink RX8 32 yX8_indexOf ∈ BIG := big_in (List.mem_of_getElem? (i := 502) (by decide +kernel)) (by decide +kernel)
theorem wd504 : Cond.instanceMethod yX8_indexOf ∈ BIG := big_in (List.mem_of_getElem? (i := 504) (by decide +kernel)) (by decide +kernel)
theorem wd505 : Cond.code yX8_indexOf cX8_indexOf 3 (some .int) ∈ BIG := big_in (List.mem_of_getElem? (i := 505) (by decide +kernel)) (by decide +kernel)
theorem wd506 : Cond.methodLink RX8 36 yX8_atFirst ∈ BIG := big_in (List.mem_of_getElem? (i := 506) (by decide +kernel)) (by decide +kernel)
theorem wd507 : Cond.static yX8_atFirst ∈ BIG := big_in (List.mem_of_getElem? (i := 507) (by decide +kernel)) (by decide +kernel)
theorem wd508 : Cond.code yX8_atFirst cX8_atFirst 2 (some .int) ∈ BIG := big_in (List.mem_of_getElem? (i := 508) (by decide +kernel)) (by decide +kernel)
theorem wd509 : Cond.methodLinkNest RX8 39 yX10_at "LineDisc" ∈ lw_tbl := List.mem_of_getElem? (i := 509) (by decide +kernel)
theorem wd510 : Cond.methodLink RX10 258 yX8_write ∈ BIG := big_in (List.mem_of_getElem? (i := 510) (by decide +kernel)) (by decide +kernel)
theorem wd511 : Cond.instanceMethod yX8_write ∈ BIG := big_in (List.mem_of_getElem? (i := 511) (by decide +kernel)) (by decide +kernel)
theorem wd512 : Cond.selects RX8 yX8_write yX8_write ∈ BIG := big_in (List.mem_of_getElem? (i := 512) (by decide +kernel)) (by decide +kernel)
theorem wd513 : Cond.code yX8_write cX8_write 6 (some .boolean) ∈ BIG := big_in (List.mem_of_getElem? (i := 513) (by decide +kernel)) (by decide +kernel)
theorem wd514 : Cond.methodLink RX8 43 yX8_drop ∈ BIG := big_in (List.mem_of_getElem? (i := 514) (by decide +kernel)) (by decide +kernel)
theorem wd516 : Cond.instanceMethod yX8_drop ∈ BIG := big_in (List.mem_of_getElem? (i := 516) (by decide +kernel)) (by decide +kernel)
theorem wd517 : Cond.code yX8_drop cX8_drop 2 none ∈ BIG := big_in (List.mem_of_getElem? (i := 517) (by decide +kernel)) (by decide +kernel)
theorem wd518 : Cond.methodLinkNest RX8 47 yX10_put "LineDisc" ∈ lw_tbl := List.mem_of_getElem? (i := 518) (by decide +kernel)
theorem wd519 : Cond.methodLink RL 34 yX10_play ∈ BIG := big_in (List.mem_of_getElem? (i := 519) (by decide +kernel)) (by decide +kernel)
theorem wd520 : Cond.instanceMethod yX10_play ∈ BIG := big_in (List.mem_of_getElem? (i := 520) (by decide +kernel)) (by decide +kernel)
theorem wd521 : Cond.selects RX10 yX10_play yX10_play ∈ BIG := big_in (List.mem_of_getElem? (i := 521) (by decide +kernel)) (by decide +kernel)
theorem wd522 : Cond.code yX10_play cX10_play 2 (some .int) ∈ BIG := big_in (List.mem_of_getElem? (i := 522) (by decide +kernel)) (by decide +kernel)
theorem wd523 : Cond.methodLink RX10 97 yX10_playFrames ∈ BIG := big_in (List.mem_of_getElem? (i := 523) (by decide +kernel)) (by decide +kernel)
theorem wd525 : Cond.instanceMethod yX10_playFrames ∈ BIG := big_in (List.mem_of_getElem? (i := 525) (by decide +kernel)) (by decide +kernel)
theorem wd526 : Cond.code yX10_playFrames cX10_playFrames 2 (some .int) ∈ BIG := big_in (List.mem_of_getElem? (i := 526) (by decide +kernel)) (by decide +kernel)
theorem wd527 : Cond.methodLink RX10 269 yX1_readFrames ∈ BIG := big_in (List.mem_of_getElem? (i := 527) (by decide +kernel)) (by decide +kernel)
theorem wd528 : Cond.instanceMethod yX1_readFrames ∈ BIG := big_in (List.mem_of_getElem? (i := 528) (by decide +kernel)) (by decide +kernel)
theorem wd529 : Cond.selects RX1 yX1_readFrames yX1_readFrames ∈ BIG := big_in (List.mem_of_getElem? (i := 529) (by decide +kernel)) (by decide +kernel)
theorem wd530 : Cond.code yX1_readFrames cX1_readFrames 9 (some .int) ∈ BIG := big_in (List.mem_of_getElem? (i := 530) (by decide +kernel)) (by decide +kernel)
theorem wd531 : Cond.methodLink RX1 54 yX5_allFrames ∈ BIG := big_in (List.mem_of_getElem? (i := 531) (by decide +kernel)) (by decide +kernel)
theorem wd532 : Cond.constant RX1 58 (100000 : Int32) ∈ BIG := big_in (List.mem_of_getElem? (i := 532) (by decide +kernel)) (by decide +kernel)
theorem wd533 : Cond.methodLink RX1 59 yX5_turnOf ∈ BIG := big_in (List.mem_of_getElem? (i := 533) (by decide +kernel)) (by decide +kernel)
theorem wd534 : Cond.methodLink RX1 62 yX1_spin ∈ BIG := big_in (List.mem_of_getElem? (i := 534) (by decide +kernel)) (by decide +kernel)
theorem wd536 : Cond.instanceMethod yX1_spin ∈ BIG := big_in (List.mem_of_getElem? (i := 536) (by decide +kernel)) (by decide +kernel)
theorem wd537 : Cond.code yX1_spin cX1_spin 5 none ∈ BIG := big_in (List.mem_of_getElem? (i := 537) (by decide +kernel)) (by decide +kernel)
theorem wd538 : Cond.methodLink RX1 39 Lib.Math.min.name ∈ BIG := big_in (List.mem_of_getElem? (i := 538) (by decide +kernel)) (by decide +kernel)
theorem wd539 : Cond.methodLink RX1 45 Lib.Math.max.name ∈ BIG := big_in (List.mem_of_getElem? (i := 539) (by decide +kernel)) (by decide +kernel)
theorem wd540 : Cond.methodLink RX1 66 yX1_isNear ∈ BIG := big_in (List.mem_of_getElem? (i := 540) (by decide +kernel)) (by decide +kernel)
theorem wd542 : Cond.instanceMethod yX1_isNear ∈ BIG := big_in (List.mem_of_getElem? (i := 542) (by decide +kernel)) (by decide +kernel)
theorem wd543 : Cond.code yX1_isNear cX1_isNear 3 (some .boolean) ∈ BIG := big_in (List.mem_of_getElem? (i := 543) (by decide +kernel)) (by decide +kernel)
theorem wd544 : Cond.methodLink RX1 48 Lib.Math.abs.name ∈ BIG := big_in (List.mem_of_getElem? (i := 544) (by decide +kernel)) (by decide +kernel)
theorem wd545 : Cond.static Lib.Math.abs.name ∈ BIG := big_in (List.mem_of_getElem? (i := 545) (by decide +kernel)) (by decide +kernel)
theorem wd546 : Cond.code Lib.Math.abs.name Lib.Math.abs.code 1 (some .int) ∈ BIG := big_in (List.mem_of_getElem? (i := 546) (by decide +kernel)) (by decide +kernel)
theorem wd547 : Cond.methodLink RX1 70 yX7_isDamaged ∈ BIG := big_in (List.mem_of_getElem? (i := 547) (by decide +kernel)) (by decide +kernel)
theorem wd548 : Cond.instanceMethod yX7_isDamaged ∈ BIG := big_in (List.mem_of_getElem? (i := 548) (by decide +kernel)) (by decide +kernel)
theorem wd549 : Cond.selects RX7 yX7_isDamaged yX7_isDamaged ∈ BIG := big_in (List.mem_of_getElem? (i := 549) (by decide +kernel)) (by decide +kernel)
theorem wd550 : Cond.code yX7_isDamaged cX7_isDamaged 2 (some .boolean) ∈ BIG := big_in (List.mem_of_getElem? (i := 550) (by decide +kernel)) (by decide +kernel)
theorem wd551 : Cond.methodLink RL 37 yX10_seek ∈ BIG := big_in (List.mem_of_getElem? (i := 551) (by decide +kernel)) (by decide +kernel)
theorem wd552 : Cond.instanceMethod yX10_seek ∈ BIG := big_in (List.mem_of_getElem? (i := 552) (by decide +kernel)) (by decide +kernel)
theorem wd553 : Cond.selects RX10 yX10_seek yX10_seek ∈ BIG := big_in (List.mem_of_getElem? (i := 553) (by decide +kernel)) (by decide +kernel)
theorem wd554 : Cond.code yX10_seek cX10_seek 2 (some .int) ∈ BIG := big_in (List.mem_of_getElem? (i := 554) (by decide +kernel)) (by decide +kernel)
theorem wd555 : Cond.methodLink RX10 100 yX10_seekFrame ∈ BIG := big_in (List.mem_of_getElem? (i := 555) (by decide +kernel)) (by decide +kernel)
theorem wd557 : Cond.instanceMethod yX10_seekFrame ∈ BIG := big_in (List.mem_of_getElem? (i := 557) (by decide +kernel)) (by decide +kernel)
theorem wd558 : Cond.code yX10_seekFrame cX10_seekFrame 3 (some .int) ∈ BIG := big_in (List.mem_of_getElem? (i := 558) (by decide +kernel)) (by decide +kernel)
theorem wd559 : Cond.methodLink RX10 273 yX1_goTo ∈ BIG := big_in (List.mem_of_getElem? (i := 559) (by decide +kernel)) (by decide +kernel)
theorem wd560 : Cond.instanceMethod yX1_goTo ∈ BIG := big_in (List.mem_of_getElem? (i := 560) (by decide +kernel)) (by decide +kernel)
theorem wd561 : Cond.selects RX1 yX1_goTo yX1_goTo ∈ BIG := big_in (List.mem_of_getElem? (i := 561) (by decide +kernel)) (by decide +kernel)
theorem wd562 : Cond.code yX1_goTo cX1_goTo 8 none ∈ BIG := big_in (List.mem_of_getElem? (i := 562) (by decide +kernel)) (by decide +kernel)
theorem wd563 : Cond.methodLink RX1 76 yX1_jump ∈ BIG := big_in (List.mem_of_getElem? (i := 563) (by decide +kernel)) (by decide +kernel)
theorem wd565 : Cond.instanceMethod yX1_jump ∈ BIG := big_in (List.mem_of_getElem? (i := 565) (by decide +kernel)) (by decide +kernel)
theorem wd566 : Cond.code yX1_jump cX1_jump 9 (some .int) ∈ BIG := big_in (List.mem_of_getElem? (i := 566) (by decide +kernel)) (by decide +kernel)
theorem wd567 : Cond.methodLink RX1 80 yX5_firstOf ∈ BIG := big_in (List.mem_of_getElem? (i := 567) (by decide +kernel)) (by decide +kernel)
theorem wd571 : Cond.methodLink RL 40 yX10_frame ∈ BIG := big_in (List.mem_of_getElem? (i := 571) (by decide +kernel)) (by decide +kernel)
theorem wd572 : Cond.instanceMethod yX10_frame ∈ BIG := big_in (List.mem_of_getElem? (i := 572) (by decide +kernel)) (by decide +kernel)
theorem wd573 : Cond.selects RX10 yX10_frame yX10_frame ∈ BIG := big_in (List.mem_of_getElem? (i := 573) (by decide +kernel)) (by decide +kernel)
theorem wd574 : Cond.code yX10_frame cX10_frame 4 (some .int) ∈ BIG := big_in (List.mem_of_getElem? (i := 574) (by decide +kernel)) (by decide +kernel)
theorem wd575 : Cond.methodLink RX10 139 yX5_firstOf ∈ BIG := big_in (List.mem_of_getElem? (i := 575) (by decide +kernel)) (by decide +kernel)
theorem wd576 : Cond.methodLink RX10 142 yX5_groupOf ∈ BIG := big_in (List.mem_of_getElem? (i := 576) (by decide +kernel)) (by decide +kernel)
theorem wd577 : Cond.instanceMethod yX5_groupOf ∈ BIG := big_in (List.mem_of_getElem? (i := 577) (by decide +kernel)) (by decide +kernel)
theorem wd578 : Cond.selects RX5 yX5_groupOf yX5_groupOf ∈ BIG := big_in (List.mem_of_getElem? (i := 578) (by decide +kernel)) (by decide +kernel)
theorem wd579 : Cond.code yX5_groupOf cX5_groupOf 3 (some .int) ∈ BIG := big_in (List.mem_of_getElem? (i := 579) (by decide +kernel)) (by decide +kernel)
theorem wd580 : Cond.methodLink RX5 38 yX5_groups ∈ BIG := big_in (List.mem_of_getElem? (i := 580) (by decide +kernel)) (by decide +kernel)
theorem wd581 : Cond.methodLink RX10 152 yX7_isDamaged ∈ BIG := big_in (List.mem_of_getElem? (i := 581) (by decide +kernel)) (by decide +kernel)
theorem wd582 : Cond.methodLink RX10 155 yX7_howIs ∈ BIG := big_in (List.mem_of_getElem? (i := 582) (by decide +kernel)) (by decide +kernel)
theorem wd583 : Cond.instanceMethod yX7_howIs ∈ BIG := big_in (List.mem_of_getElem? (i := 583) (by decide +kernel)) (by decide +kernel)
theorem wd584 : Cond.selects RX7 yX7_howIs yX7_howIs ∈ BIG := big_in (List.mem_of_getElem? (i := 584) (by decide +kernel)) (by decide +kernel)
theorem wd585 : Cond.code yX7_howIs cX7_howIs 2 (some .int) ∈ BIG := big_in (List.mem_of_getElem? (i := 585) (by decide +kernel)) (by decide +kernel)
theorem wd586 : Cond.methodLink RX10 162 yX8_lengthOf ∈ BIG := big_in (List.mem_of_getElem? (i := 586) (by decide +kernel)) (by decide +kernel)
theorem wd587 : Cond.instanceMethod yX8_lengthOf ∈ BIG := big_in (List.mem_of_getElem? (i := 587) (by decide +kernel)) (by decide +kernel)
theorem wd588 : Cond.selects RX8 yX8_lengthOf yX8_lengthOf ∈ BIG := big_in (List.mem_of_getElem? (i := 588) (by decide +kernel)) (by decide +kernel)
theorem wd589 : Cond.code yX8_lengthOf cX8_lengthOf 5 (some .int) ∈ BIG := big_in (List.mem_of_getElem? (i := 589) (by decide +kernel)) (by decide +kernel)
theorem wd590 : Cond.methodLink RX8 57 yX8_standsAt ∈ BIG := big_in (List.mem_of_getElem? (i := 590) (by decide +kernel)) (by decide +kernel)
theorem wd591 : Cond.methodLink RX8 60 yX8_pitOf ∈ BIG := big_in (List.mem_of_getElem? (i := 591) (by decide +kernel)) (by decide +kernel)
theorem wd592 : Cond.static yX8_pitOf ∈ BIG := big_in (List.mem_of_getElem? (i := 592) (by decide +kernel)) (by decide +kernel)
theorem wd593 : Cond.code yX8_pitOf cX8_pitOf 1 (some .int) ∈ BIG := big_in (List.mem_of_getElem? (i := 593) (by decide +kernel)) (by decide +kernel)
theorem wd594 : Cond.methodLink RX8 63 yX8_flatOf ∈ BIG := big_in (List.mem_of_getElem? (i := 594) (by decide +kernel)) (by decide +kernel)
theorem wd595 : Cond.static yX8_flatOf ∈ BIG := big_in (List.mem_of_getElem? (i := 595) (by decide +kernel)) (by decide +kernel)
theorem wd596 : Cond.code yX8_flatOf cX8_flatOf 1 (some .int) ∈ BIG := big_in (List.mem_of_getElem? (i := 596) (by decide +kernel)) (by decide +kernel)
theorem wd597 : Cond.methodLink RX10 167 yX8_balanceOf ∈ BIG := big_in (List.mem_of_getElem? (i := 597) (by decide +kernel)) (by decide +kernel)
theorem wd598 : Cond.instanceMethod yX8_balanceOf ∈ BIG := big_in (List.mem_of_getElem? (i := 598) (by decide +kernel)) (by decide +kernel)
theorem wd599 : Cond.selects RX8 yX8_balanceOf yX8_balanceOf ∈ BIG := big_in (List.mem_of_getElem? (i := 599) (by decide +kernel)) (by decide +kernel)
theorem wd600 : Cond.code yX8_balanceOf cX8_balanceOf 5 (some .int) ∈ BIG := big_in (List.mem_of_getElem? (i := 600) (by decide +kernel)) (by decide +kernel)
theorem wd601 : Cond.methodLink RX10 170 yX8_longestRunOf ∈ BIG := big_in (List.mem_of_getElem? (i := 601) (by decide +kernel)) (by decide +kernel)
theorem wd602 : Cond.instanceMethod yX8_longestRunOf ∈ BIG := big_in (List.mem_of_getElem? (i := 602) (by decide +kernel)) (by decide +kernel)
theorem wd603 : Cond.selects RX8 yX8_longestRunOf yX8_longestRunOf ∈ BIG := big_in (List.mem_of_getElem? (i := 603) (by decide +kernel)) (by decide +kernel)
theorem wd604 : Cond.code yX8_longestRunOf cX8_longestRunOf 5 (some .int) ∈ BIG := big_in (List.mem_of_getElem? (i := 604) (by decide +kernel)) (by decide +kernel)
theorem wd605 : Cond.methodLink RX8 69 Lib.Math.max.name ∈ BIG := big_in (List.mem_of_getElem? (i := 605) (by decide +kernel)) (by decide +kernel)
theorem wd606 : Cond.methodLink RL 43 yX10_turn ∈ BIG := big_in (List.mem_of_getElem? (i := 606) (by decide +kernel)) (by decide +kernel)
theorem wd607 : Cond.instanceMethod yX10_turn ∈ BIG := big_in (List.mem_of_getElem? (i := 607) (by decide +kernel)) (by decide +kernel)
theorem wd608 : Cond.selects RX10 yX10_turn yX10_turn ∈ BIG := big_in (List.mem_of_getElem? (i := 608) (by decide +kernel)) (by decide +kernel)
theorem wd609 : Cond.code yX10_turn cX10_turn 5 (some .int) ∈ BIG := big_in (List.mem_of_getElem? (i := 609) (by decide +kernel)) (by decide +kernel)
theorem wd610 : Cond.methodLink RX10 183 yX5_framesOf ∈ BIG := big_in (List.mem_of_getElem? (i := 610) (by decide +kernel)) (by decide +kernel)
theorem wd611 : Cond.methodLink RX10 189 yX8_lengthOfAll ∈ BIG := big_in (List.mem_of_getElem? (i := 611) (by decide +kernel)) (by decide +kernel)
theorem wd612 : Cond.instanceMethod yX8_lengthOfAll ∈ BIG := big_in (List.mem_of_getElem? (i := 612) (by decide +kernel)) (by decide +kernel)
theorem wd613 : Cond.selects RX8 yX8_lengthOfAll yX8_lengthOfAll ∈ BIG := big_in (List.mem_of_getElem? (i := 613) (by decide +kernel)) (by decide +kernel)
theorem wd614 : Cond.code yX8_lengthOfAll cX8_lengthOfAll 5 (some .int) ∈ BIG := big_in (List.mem_of_getElem? (i := 614) (by decide +kernel)) (by decide +kernel)
theorem wd615 : Cond.methodLink RX8 66 yX8_lengthOf ∈ BIG := big_in (List.mem_of_getElem? (i := 615) (by decide +kernel)) (by decide +kernel)
theorem wd616 : Cond.methodLink RL 46 yX10_symbol ∈ BIG := big_in (List.mem_of_getElem? (i := 616) (by decide +kernel)) (by decide +kernel)
theorem wd617 : Cond.instanceMethod yX10_symbol ∈ BIG := big_in (List.mem_of_getElem? (i := 617) (by decide +kernel)) (by decide +kernel)
theorem wd618 : Cond.selects RX10 yX10_symbol yX10_symbol ∈ BIG := big_in (List.mem_of_getElem? (i := 618) (by decide +kernel)) (by decide +kernel)
theorem wd619 : Cond.code yX10_symbol cX10_symbol 4 (some .int) ∈ BIG := big_in (List.mem_of_getElem? (i := 619) (by decide +kernel)) (by decide +kernel)
theorem wd620 : Cond.methodLink RX10 176 yX10_toldSymbol ∈ BIG := big_in (List.mem_of_getElem? (i := 620) (by decide +kernel)) (by decide +kernel)
theorem wd622 : Cond.instanceMethod yX10_toldSymbol ∈ BIG := big_in (List.mem_of_getElem? (i := 622) (by decide +kernel)) (by decide +kernel)
theorem wd623 : Cond.code yX10_toldSymbol cX10_toldSymbol 4 (some .int) ∈ BIG := big_in (List.mem_of_getElem? (i := 623) (by decide +kernel)) (by decide +kernel)
theorem wd624 : Cond.methodLink RX10 300 yX10_filledSymbol ∈ BIG := big_in (List.mem_of_getElem? (i := 624) (by decide +kernel)) (by decide +kernel)
theorem wd626 : Cond.instanceMethod yX10_filledSymbol ∈ BIG := big_in (List.mem_of_getElem? (i := 626) (by decide +kernel)) (by decide +kernel)
theorem wd627 : Cond.code yX10_filledSymbol cX10_filledSymbol 5 (some .int) ∈ BIG := big_in (List.mem_of_getElem? (i := 627) (by decide +kernel)) (by decide +kernel)
theorem wd628 : Cond.methodLink RX10 303 yX5_dataAhead ∈ BIG := big_in (List.mem_of_getElem? (i := 628) (by decide +kernel)) (by decide +kernel)
theorem wd629 : Cond.methodLink RX10 306 yX5_dataBehind ∈ BIG := big_in (List.mem_of_getElem? (i := 629) (by decide +kernel)) (by decide +kernel)
theorem wd633 : Cond.methodLink RL 50 yX10_right ∈ BIG := big_in (List.mem_of_getElem? (i := 633) (by decide +kernel)) (by decide +kernel)
theorem wd634 : Cond.instanceMethod yX10_right ∈ BIG := big_in (List.mem_of_getElem? (i := 634) (by decide +kernel)) (by decide +kernel)
theorem wd635 : Cond.selects RX10 yX10_right yX10_right ∈ BIG := big_in (List.mem_of_getElem? (i := 635) (by decide +kernel)) (by decide +kernel)
theorem wd636 : Cond.code yX10_right cX10_right 5 (some .double) ∈ BIG := big_in (List.mem_of_getElem? (i := 636) (by decide +kernel)) (by decide +kernel)
theorem wd637 : Cond.methodLink RX10 242 yX10_isToldRight ∈ BIG := big_in (List.mem_of_getElem? (i := 637) (by decide +kernel)) (by decide +kernel)
theorem wd639 : Cond.instanceMethod yX10_isToldRight ∈ BIG := big_in (List.mem_of_getElem? (i := 639) (by decide +kernel)) (by decide +kernel)
theorem wd640 : Cond.code yX10_isToldRight cX10_isToldRight 5 (some .boolean) ∈ BIG := big_in (List.mem_of_getElem? (i := 640) (by decide +kernel)) (by decide +kernel)
theorem wd644 : Cond.methodLink RL 54 yX10_gap ∈ BIG := big_in (List.mem_of_getElem? (i := 644) (by decide +kernel)) (by decide +kernel)
theorem wd645 : Cond.instanceMethod yX10_gap ∈ BIG := big_in (List.mem_of_getElem? (i := 645) (by decide +kernel)) (by decide +kernel)
theorem wd646 : Cond.selects RX10 yX10_gap yX10_gap ∈ BIG := big_in (List.mem_of_getElem? (i := 646) (by decide +kernel)) (by decide +kernel)
theorem wd647 : Cond.code yX10_gap cX10_gap 7 (some .int) ∈ BIG := big_in (List.mem_of_getElem? (i := 647) (by decide +kernel)) (by decide +kernel)
theorem wd651 : Cond.methodLink RL 57 yX10_ifSought ∈ BIG := big_in (List.mem_of_getElem? (i := 651) (by decide +kernel)) (by decide +kernel)
theorem wd652 : Cond.instanceMethod yX10_ifSought ∈ BIG := big_in (List.mem_of_getElem? (i := 652) (by decide +kernel)) (by decide +kernel)
theorem wd653 : Cond.selects RX10 yX10_ifSought yX10_ifSought ∈ BIG := big_in (List.mem_of_getElem? (i := 653) (by decide +kernel)) (by decide +kernel)
theorem wd654 : Cond.code yX10_ifSought cX10_ifSought 4 (some .int) ∈ BIG := big_in (List.mem_of_getElem? (i := 654) (by decide +kernel)) (by decide +kernel)
theorem wd655 : Cond.methodLink RX10 248 yX10_trySeek ∈ BIG := big_in (List.mem_of_getElem? (i := 655) (by decide +kernel)) (by decide +kernel)
theorem wd657 : Cond.instanceMethod yX10_trySeek ∈ BIG := big_in (List.mem_of_getElem? (i := 657) (by decide +kernel)) (by decide +kernel)
theorem wd658 : Cond.code yX10_trySeek cX10_trySeek 3 (some .int) ∈ BIG := big_in (List.mem_of_getElem? (i := 658) (by decide +kernel)) (by decide +kernel)
theorem wd659 : Cond.methodLink RX10 309 yX1_copyFrom ∈ BIG := big_in (List.mem_of_getElem? (i := 659) (by decide +kernel)) (by decide +kernel)
theorem wd660 : Cond.methodLink RL 60 yX10_bestGuess ∈ BIG := big_in (List.mem_of_getElem? (i := 660) (by decide +kernel)) (by decide +kernel)
theorem wd661 : Cond.instanceMethod yX10_bestGuess ∈ BIG := big_in (List.mem_of_getElem? (i := 661) (by decide +kernel)) (by decide +kernel)
theorem wd662 : Cond.selects RX10 yX10_bestGuess yX10_bestGuess ∈ BIG := big_in (List.mem_of_getElem? (i := 662) (by decide +kernel)) (by decide +kernel)
theorem wd663 : Cond.code yX10_bestGuess cX10_bestGuess 6 (some .int) ∈ BIG := big_in (List.mem_of_getElem? (i := 663) (by decide +kernel)) (by decide +kernel)
theorem wd664 : Cond.methodLink RL 63 yX10_undo ∈ BIG := big_in (List.mem_of_getElem? (i := 664) (by decide +kernel)) (by decide +kernel)
theorem wd665 : Cond.instanceMethod yX10_undo ∈ BIG := big_in (List.mem_of_getElem? (i := 665) (by decide +kernel)) (by decide +kernel)
theorem wd666 : Cond.selects RX10 yX10_undo yX10_undo ∈ BIG := big_in (List.mem_of_getElem? (i := 666) (by decide +kernel)) (by decide +kernel)
theorem wd667 : Cond.code yX10_undo cX10_undo 1 (some .int) ∈ BIG := big_in (List.mem_of_getElem? (i := 667) (by decide +kernel)) (by decide +kernel)
theorem wd668 : Cond.methodLink RX10 124 yX2_takeLatest ∈ BIG := big_in (List.mem_of_getElem? (i := 668) (by decide +kernel)) (by decide +kernel)
theorem wd669 : Cond.instanceMethod yX2_takeLatest ∈ BIG := big_in (List.mem_of_getElem? (i := 669) (by decide +kernel)) (by decide +kernel)
theorem wd670 : Cond.selects RX2 yX2_takeLatest yX2_takeLatest ∈ BIG := big_in (List.mem_of_getElem? (i := 670) (by decide +kernel)) (by decide +kernel)
theorem wd671 : Cond.code yX2_takeLatest cX2_takeLatest 3 (some .boolean) ∈ BIG := big_in (List.mem_of_getElem? (i := 671) (by decide +kernel)) (by decide +kernel)
theorem wd678 : Cond.methodLink RL 67 yX10_polishFirst ∈ BIG := big_in (List.mem_of_getElem? (i := 678) (by decide +kernel)) (by decide +kernel)
theorem wd679 : Cond.instanceMethod yX10_polishFirst ∈ BIG := big_in (List.mem_of_getElem? (i := 679) (by decide +kernel)) (by decide +kernel)
theorem wd680 : Cond.selects RX10 yX10_polishFirst yX10_polishFirst ∈ BIG := big_in (List.mem_of_getElem? (i := 680) (by decide +kernel)) (by decide +kernel)
theorem wd681 : Cond.code yX10_polishFirst cX10_polishFirst 6 (some .int) ∈ BIG := big_in (List.mem_of_getElem? (i := 681) (by decide +kernel)) (by decide +kernel)
theorem wd682 : Cond.methodLink RX10 251 yX7_missingWithout ∈ BIG := big_in (List.mem_of_getElem? (i := 682) (by decide +kernel)) (by decide +kernel)
theorem wd683 : Cond.instanceMethod yX7_missingWithout ∈ BIG := big_in (List.mem_of_getElem? (i := 683) (by decide +kernel)) (by decide +kernel)
theorem wd684 : Cond.selects RX7 yX7_missingWithout yX7_missingWithout ∈ BIG := big_in (List.mem_of_getElem? (i := 684) (by decide +kernel)) (by decide +kernel)
theorem wd685 : Cond.code yX7_missingWithout cX7_missingWithout 2 (some .int) ∈ BIG := big_in (List.mem_of_getElem? (i := 685) (by decide +kernel)) (by decide +kernel)
theorem wd686 : Cond.methodLink RX7 135 yX7_framesThatAre ∈ BIG := big_in (List.mem_of_getElem? (i := 686) (by decide +kernel)) (by decide +kernel)
theorem wd687 : Cond.methodLink RX10 254 yX7_judge ∈ BIG := big_in (List.mem_of_getElem? (i := 687) (by decide +kernel)) (by decide +kernel)
theorem wd688 : Cond.methodLink RL 70 yX10_scratchOf ∈ BIG := big_in (List.mem_of_getElem? (i := 688) (by decide +kernel)) (by decide +kernel)
theorem wd689 : Cond.instanceMethod yX10_scratchOf ∈ BIG := big_in (List.mem_of_getElem? (i := 689) (by decide +kernel)) (by decide +kernel)
theorem wd690 : Cond.selects RX10 yX10_scratchOf yX10_scratchOf ∈ BIG := big_in (List.mem_of_getElem? (i := 690) (by decide +kernel)) (by decide +kernel)
theorem wd691 : Cond.code yX10_scratchOf cX10_scratchOf 3 (some .int) ∈ BIG := big_in (List.mem_of_getElem? (i := 691) (by decide +kernel)) (by decide +kernel)
theorem wd692 : Cond.methodLink RX10 201 yX4_fromOf ∈ BIG := big_in (List.mem_of_getElem? (i := 692) (by decide +kernel)) (by decide +kernel)
theorem wd693 : Cond.methodLink RX10 204 yX4_toOf ∈ BIG := big_in (List.mem_of_getElem? (i := 693) (by decide +kernel)) (by decide +kernel)
theorem wd694 : Cond.methodLink RX10 207 yX4_innerOf ∈ BIG := big_in (List.mem_of_getElem? (i := 694) (by decide +kernel)) (by decide +kernel)
theorem wd695 : Cond.methodLink RX10 210 yX4_outerOf ∈ BIG := big_in (List.mem_of_getElem? (i := 695) (by decide +kernel)) (by decide +kernel)
theorem cv_X10_addScratch : CV yX10_addScratch cX10_addScratch 7 (some .int) 4 := ⟨wd452, wd8, wd24, wd453, by decide +kernel, by decide⟩
theorem cs_X10_at : CS yX10_at cX10_at 2 (some .int) 2 := ⟨wd356, wd24, wd357, by decide +kernel, by decide⟩
theorem cv_X10_bestGuess : CV yX10_bestGuess cX10_bestGuess 6 (some .int) 1 := ⟨wd661, wd662, wd24, wd663, by decide +kernel, by decide⟩
theorem cv_X10_count : CV yX10_count cX10_count 2 (some .int) 1 := ⟨wd323, wd324, wd24, wd325, by decide +kernel, by decide⟩
theorem cv_X10_countSetting : CV yX10_countSetting cX10_countSetting 2 (some .int) 1 := ⟨wd431, wd7, wd24, wd432, by decide +kernel, by decide⟩
theorem cv_X10_filledSymbol : CV yX10_filledSymbol cX10_filledSymbol 5 (some .int) 2 := ⟨wd626, wd20, wd24, wd627, by decide +kernel, by decide⟩
theorem cv_X10_frame : CV yX10_frame cX10_frame 4 (some .int) 2 := ⟨wd572, wd573, wd24, wd574, by decide +kernel, by decide⟩
theorem cv_X10_gap : CV yX10_gap cX10_gap 7 (some .int) 1 := ⟨wd645, wd646, wd24, wd647, by decide +kernel, by decide⟩
theorem cv_X10_ifSought : CV yX10_ifSought cX10_ifSought 4 (some .int) 2 := ⟨wd652, wd653, wd24, wd654, by decide +kernel, by decide⟩
theorem cs_X10_isPlace : CS yX10_isPlace cX10_isPlace 1 (some .boolean) 1 := ⟨wd490, wd24, wd491, by decide +kernel, by decide⟩
theorem cv_X10_isToldRight : CV yX10_isToldRight cX10_isToldRight 5 (some .boolean) 1 := ⟨wd639, wd21, wd24, wd640, by decide +kernel, by decide⟩
theorem cv_X10_play : CV yX10_play cX10_play 2 (some .int) 1 := ⟨wd520, wd521, wd24, wd522, by decide +kernel, by decide⟩
theorem cv_X10_playFrames : CV yX10_playFrames cX10_playFrames 2 (some .int) 1 := ⟨wd525, wd14, wd24, wd526, by decide +kernel, by decide⟩
theorem cv_X10_polish : CV yX10_polish cX10_polish 2 (some .int) 1 := ⟨wd461, wd462, wd24, wd463, by decide +kernel, by decide⟩
theorem cv_X10_polishAway : CV yX10_polishAway cX10_polishAway 2 (some .int) 1 := ⟨wd466, wd9, wd24, wd467, by decide +kernel, by decide⟩
theorem cv_X10_polishFirst : CV yX10_polishFirst cX10_polishFirst 6 (some .int) 1 := ⟨wd679, wd680, wd24, wd681, by decide +kernel, by decide⟩
theorem cv_X10_press : CV yX10_press cX10_press 4 (some .int) 3 := ⟨wd478, wd479, wd24, wd480, by decide +kernel, by decide⟩
theorem cv_X10_pressSymbol : CV yX10_pressSymbol cX10_pressSymbol 5 (some .int) 3 := ⟨wd483, wd10, wd24, wd484, by decide +kernel, by decide⟩
theorem cs_X10_put : CS yX10_put cX10_put 3 none 3 := ⟨wd410, wd24, wd411, by decide +kernel, by decide⟩
theorem cv_X10_recorded : CV yX10_recorded cX10_recorded 2 (some .int) 1 := ⟨wd307, wd0, wd24, wd308, by decide +kernel, by decide⟩
theorem cv_X10_right : CV yX10_right cX10_right 5 (some .double) 0 := ⟨wd634, wd635, wd24, wd636, by decide +kernel, by decide⟩
theorem cv_X10_scratch : CV yX10_scratch cX10_scratch 5 (some .int) 4 := ⟨wd447, wd448, wd24, wd449, by decide +kernel, by decide⟩
theorem cv_X10_scratchOf : CV yX10_scratchOf cX10_scratchOf 3 (some .int) 2 := ⟨wd689, wd690, wd24, wd691, by decide +kernel, by decide⟩
theorem cv_X10_seek : CV yX10_seek cX10_seek 2 (some .int) 1 := ⟨wd552, wd553, wd24, wd554, by decide +kernel, by decide⟩
theorem cv_X10_seekFrame : CV yX10_seekFrame cX10_seekFrame 3 (some .int) 1 := ⟨wd557, wd17, wd24, wd558, by decide +kernel, by decide⟩
theorem cv_X10_set : CV yX10_set cX10_set 4 (some .int) 2 := ⟨wd259, wd260, wd24, wd261, by decide +kernel, by decide⟩
theorem cv_X10_symbol : CV yX10_symbol cX10_symbol 4 (some .int) 3 := ⟨wd617, wd618, wd24, wd619, by decide +kernel, by decide⟩
theorem cv_X10_toldSymbol : CV yX10_toldSymbol cX10_toldSymbol 4 (some .int) 2 := ⟨wd622, wd19, wd24, wd623, by decide +kernel, by decide⟩
theorem cv_X10_trySeek : CV yX10_trySeek cX10_trySeek 3 (some .int) 2 := ⟨wd657, wd22, wd24, wd658, by decide +kernel, by decide⟩
theorem cv_X10_turn : CV yX10_turn cX10_turn 5 (some .int) 2 := ⟨wd607, wd608, wd24, wd609, by decide +kernel, by decide⟩
theorem cv_X10_undo : CV yX10_undo cX10_undo 1 (some .int) 0 := ⟨wd665, wd666, wd24, wd667, by decide +kernel, by decide⟩
theorem cv_X1_copyFrom : CV yX1_copyFrom cX1_copyFrom 2 none 1 := ⟨wd290, wd291, wd29, wd292, by decide +kernel, by decide⟩
theorem cv_X1_goTo : CV yX1_goTo cX1_goTo 8 none 3 := ⟨wd560, wd561, wd29, wd562, by decide +kernel, by decide⟩
theorem cv_X1_goToStart : CV yX1_goToStart cX1_goToStart 2 none 1 := ⟨wd298, wd299, wd29, wd300, by decide +kernel, by decide⟩
theorem cv_X1_isNear : CV yX1_isNear cX1_isNear 3 (some .boolean) 2 := ⟨wd542, wd16, wd29, wd543, by decide +kernel, by decide⟩
theorem cv_X1_jump : CV yX1_jump cX1_jump 9 (some .int) 4 := ⟨wd565, wd18, wd29, wd566, by decide +kernel, by decide⟩
theorem cv_X1_readFrames : CV yX1_readFrames cX1_readFrames 9 (some .int) 3 := ⟨wd528, wd529, wd29, wd530, by decide +kernel, by decide⟩
theorem cv_X1_spin : CV yX1_spin cX1_spin 5 none 3 := ⟨wd536, wd15, wd29, wd537, by decide +kernel, by decide⟩
theorem cv_X2_add : CV yX2_add cX2_add 3 none 1 := ⟨wd310, wd311, wd30, wd312, by decide +kernel, by decide⟩
theorem cv_X2_dropOldest : CV yX2_dropOldest cX2_dropOldest 3 none 0 := ⟨wd315, wd1, wd30, wd316, by decide +kernel, by decide⟩
theorem cv_X2_stateAt : CV yX2_stateAt cX2_stateAt 2 (some (.object "LineDisc$State")) 1 := ⟨wd319, wd2, wd30, wd320, by decide +kernel, by decide⟩
theorem cv_X2_takeLatest : CV yX2_takeLatest cX2_takeLatest 3 (some .boolean) 1 := ⟨wd669, wd670, wd30, wd671, by decide +kernel, by decide⟩
theorem cv_X4_add : CV yX4_add cX4_add 5 (some .boolean) 4 := ⟨wd455, wd456, wd27, wd457, by decide +kernel, by decide⟩
theorem cv_X4_copyFrom : CV yX4_copyFrom cX4_copyFrom 2 none 1 := ⟨wd278, wd279, wd27, wd280, by decide +kernel, by decide⟩
theorem cv_X4_drop : CV yX4_drop cX4_drop 3 none 1 := ⟨wd473, wd474, wd27, wd475, by decide +kernel, by decide⟩
theorem cv_X4_fromOf : CV yX4_fromOf cX4_fromOf 2 (some .int) 1 := ⟨wd368, wd369, wd27, wd370, by decide +kernel, by decide⟩
theorem cv_X4_has : CV yX4_has cX4_has 2 (some .boolean) 1 := ⟨wd469, wd470, wd27, wd471, by decide +kernel, by decide⟩
theorem cv_X4_innerOf : CV yX4_innerOf cX4_innerOf 2 (some .int) 1 := ⟨wd383, wd384, wd27, wd385, by decide +kernel, by decide⟩
theorem cv_X4_isLike : CV yX4_isLike cX4_isLike 4 (some .boolean) 1 := ⟨wd352, wd353, wd27, wd354, by decide +kernel, by decide⟩
theorem cv_X4_outerOf : CV yX4_outerOf cX4_outerOf 2 (some .int) 1 := ⟨wd376, wd377, wd27, wd378, by decide +kernel, by decide⟩
theorem cv_X4_toOf : CV yX4_toOf cX4_toOf 2 (some .int) 1 := ⟨wd372, wd373, wd27, wd374, by decide +kernel, by decide⟩
theorem cv_X5_allFrames : CV yX5_allFrames cX5_allFrames 1 (some .int) 0 := ⟨wd327, wd328, wd26, wd329, by decide +kernel, by decide⟩
theorem cv_X5_change : CV yX5_change cX5_change 3 none 2 := ⟨wd294, wd295, wd26, wd296, by decide +kernel, by decide⟩
theorem cv_X5_copyFrom : CV yX5_copyFrom cX5_copyFrom 2 none 1 := ⟨wd274, wd275, wd26, wd276, by decide +kernel, by decide⟩
theorem cs_X5_dataAhead : CS yX5_dataAhead cX5_dataAhead 1 (some .int) 1 := ⟨wd417, wd26, wd418, by decide +kernel, by decide⟩
theorem cs_X5_dataBehind : CS yX5_dataBehind cX5_dataBehind 1 (some .int) 1 := ⟨wd420, wd26, wd421, by decide +kernel, by decide⟩
theorem cv_X5_firstOf : CV yX5_firstOf cX5_firstOf 2 (some .int) 1 := ⟨wd331, wd332, wd26, wd333, by decide +kernel, by decide⟩
theorem cv_X5_framesOf : CV yX5_framesOf cX5_framesOf 2 (some .int) 1 := ⟨wd302, wd303, wd26, wd304, by decide +kernel, by decide⟩
theorem cv_X5_groupOf : CV yX5_groupOf cX5_groupOf 3 (some .int) 1 := ⟨wd577, wd578, wd26, wd579, by decide +kernel, by decide⟩
theorem cv_X5_groups : CV yX5_groups cX5_groups 1 (some .int) 0 := ⟨wd335, wd336, wd26, wd337, by decide +kernel, by decide⟩
theorem cv_X5_hasFrame : CV yX5_hasFrame cX5_hasFrame 2 (some .boolean) 1 := ⟨wd486, wd487, wd26, wd488, by decide +kernel, by decide⟩
theorem cv_X5_hasSpiralOf : CV yX5_hasSpiralOf cX5_hasSpiralOf 2 (some .boolean) 1 := ⟨wd348, wd349, wd26, wd350, by decide +kernel, by decide⟩
theorem cs_X5_isCheck : CS yX5_isCheck cX5_isCheck 1 (some .boolean) 1 := ⟨wd423, wd26, wd424, by decide +kernel, by decide⟩
theorem cs_X5_isInRange : CS yX5_isInRange cX5_isInRange 2 (some .boolean) 2 := ⟨wd263, wd26, wd264, by decide +kernel, by decide⟩
theorem cs_X5_isSetting : CS yX5_isSetting cX5_isSetting 1 (some .boolean) 1 := ⟨wd434, wd26, wd435, by decide +kernel, by decide⟩
theorem cv_X5_settingAt : CV yX5_settingAt cX5_settingAt 2 (some .int) 1 := ⟨wd266, wd267, wd26, wd268, by decide +kernel, by decide⟩
theorem cv_X5_turnOf : CV yX5_turnOf cX5_turnOf 3 (some .int) 1 := ⟨wd340, wd341, wd26, wd342, by decide +kernel, by decide⟩
theorem cv_X6_copyFrom : CV yX6_copyFrom cX6_copyFrom 2 none 1 := ⟨wd270, wd271, wd25, wd272, by decide +kernel, by decide⟩
theorem cv_X7_canBeFilled : CV yX7_canBeFilled cX7_canBeFilled 5 (some .boolean) 2 := ⟨wd414, wd6, wd32, wd415, by decide +kernel, by decide⟩
theorem cv_X7_damagedIn : CV yX7_damagedIn cX7_damagedIn 6 (some .int) 3 := ⟨wd405, wd406, wd32, wd407, by decide +kernel, by decide⟩
theorem cv_X7_framesThatAre : CV yX7_framesThatAre cX7_framesThatAre 5 (some .int) 1 := ⟨wd426, wd427, wd32, wd428, by decide +kernel, by decide⟩
theorem cv_X7_howIs : CV yX7_howIs cX7_howIs 2 (some .int) 1 := ⟨wd583, wd584, wd32, wd585, by decide +kernel, by decide⟩
theorem cv_X7_isDamaged : CV yX7_isDamaged cX7_isDamaged 2 (some .boolean) 1 := ⟨wd548, wd549, wd32, wd550, by decide +kernel, by decide⟩
theorem cv_X7_judge : CV yX7_judge cX7_judge 4 none 1 := ⟨wd396, wd397, wd32, wd398, by decide +kernel, by decide⟩
theorem cv_X7_judgeGroup : CV yX7_judgeGroup cX7_judgeGroup 7 none 3 := ⟨wd402, wd5, wd32, wd403, by decide +kernel, by decide⟩
theorem cv_X7_markRow : CV yX7_markRow cX7_markRow 5 none 3 := ⟨wd393, wd4, wd32, wd394, by decide +kernel, by decide⟩
theorem cv_X7_markScratch : CV yX7_markScratch cX7_markScratch 8 none 1 := ⟨wd365, wd3, wd32, wd366, by decide +kernel, by decide⟩
theorem cv_X7_missingWithout : CV yX7_missingWithout cX7_missingWithout 2 (some .int) 1 := ⟨wd683, wd684, wd32, wd685, by decide +kernel, by decide⟩
theorem cv_X7_of : CV yX7_of cX7_of 3 (some (.object "LineDisc$Survey")) 1 := ⟨wd344, wd345, wd32, wd346, by decide +kernel, by decide⟩
theorem cs_X8_atFirst : CS yX8_atFirst cX8_atFirst 2 (some .int) 2 := ⟨wd507, wd28, wd508, by decide +kernel, by decide⟩
theorem cv_X8_balanceOf : CV yX8_balanceOf cX8_balanceOf 5 (some .int) 1 := ⟨wd598, wd599, wd28, wd600, by decide +kernel, by decide⟩
theorem cv_X8_copyFrom : CV yX8_copyFrom cX8_copyFrom 2 none 1 := ⟨wd285, wd286, wd28, wd287, by decide +kernel, by decide⟩
theorem cv_X8_dataAt : CV yX8_dataAt cX8_dataAt 4 (some .int) 2 := ⟨wd500, wd11, wd28, wd501, by decide +kernel, by decide⟩
theorem cv_X8_drop : CV yX8_drop cX8_drop 2 none 1 := ⟨wd516, wd13, wd28, wd517, by decide +kernel, by decide⟩
theorem cs_X8_flatOf : CS yX8_flatOf cX8_flatOf 1 (some .int) 1 := ⟨wd595, wd28, wd596, by decide +kernel, by decide⟩
theorem cv_X8_indexOf : CV yX8_indexOf cX8_indexOf 3 (some .int) 1 := ⟨wd504, wd12, wd28, wd505, by decide +kernel, by decide⟩
theorem cv_X8_lengthOf : CV yX8_lengthOf cX8_lengthOf 5 (some .int) 1 := ⟨wd587, wd588, wd28, wd589, by decide +kernel, by decide⟩
theorem cv_X8_lengthOfAll : CV yX8_lengthOfAll cX8_lengthOfAll 5 (some .int) 2 := ⟨wd612, wd613, wd28, wd614, by decide +kernel, by decide⟩
theorem cv_X8_longestRunOf : CV yX8_longestRunOf cX8_longestRunOf 5 (some .int) 1 := ⟨wd602, wd603, wd28, wd604, by decide +kernel, by decide⟩
theorem cs_X8_pitOf : CS yX8_pitOf cX8_pitOf 1 (some .int) 1 := ⟨wd592, wd28, wd593, by decide +kernel, by decide⟩
theorem cv_X8_standsAt : CV yX8_standsAt cX8_standsAt 5 (some .int) 2 := ⟨wd494, wd495, wd28, wd496, by decide +kernel, by decide⟩
theorem cv_X8_write : CV yX8_write cX8_write 6 (some .boolean) 3 := ⟨wd511, wd512, wd28, wd513, by decide +kernel, by decide⟩
theorem cs_L_low : CS yL_low cL_low 2 (some .int) 2 := ⟨wd440, wd23, wd441, by decide +kernel, by decide⟩
theorem cs_J7_fill_53178 : CS yJ7_fill_53178 cJ7_fill_53178 4 none 2 := ⟨wd361, wd34, wd362, by decide +kernel, by decide⟩
theorem inX1 : ∀ w ∈ u_ws RX1 TX1 6, w ∈ BIG := fun w hw => by
  have h := List.all_eq_true.mp (show (u_ws RX1 TX1 6).all (fun w => decide (w ∈ lw_tbl) && goodWord w) = true by decide +kernel) w hw
  rw [Bool.and_eq_true] at h
  exact big_in (of_decide_eq_true h.1) h.2
theorem inX2 : ∀ w ∈ u_ws RX2 TX2 2, w ∈ BIG := fun w hw => by
  have h := List.all_eq_true.mp (show (u_ws RX2 TX2 2).all (fun w => decide (w ∈ lw_tbl) && goodWord w) = true by decide +kernel) w hw
  rw [Bool.and_eq_true] at h
  exact big_in (of_decide_eq_true h.1) h.2
theorem inX3 : ∀ w ∈ u_ws RX3 TX3 6, w ∈ BIG := fun w hw => by
  have h := List.all_eq_true.mp (show (u_ws RX3 TX3 6).all (fun w => decide (w ∈ lw_tbl) && goodWord w) = true by decide +kernel) w hw
  rw [Bool.and_eq_true] at h
  exact big_in (of_decide_eq_true h.1) h.2
theorem inX4 : ∀ w ∈ u_ws RX4 TX4 2, w ∈ BIG := fun w hw => by
  have h := List.all_eq_true.mp (show (u_ws RX4 TX4 2).all (fun w => decide (w ∈ lw_tbl) && goodWord w) = true by decide +kernel) w hw
  rw [Bool.and_eq_true] at h
  exact big_in (of_decide_eq_true h.1) h.2
theorem inX5 : ∀ w ∈ u_ws RX5 TX5 6, w ∈ BIG := fun w hw => by
  have h := List.all_eq_true.mp (show (u_ws RX5 TX5 6).all (fun w => decide (w ∈ lw_tbl) && goodWord w) = true by decide +kernel) w hw
  rw [Bool.and_eq_true] at h
  exact big_in (of_decide_eq_true h.1) h.2
theorem inX6 : ∀ w ∈ u_ws RX6 TX6 4, w ∈ BIG := fun w hw => by
  have h := List.all_eq_true.mp (show (u_ws RX6 TX6 4).all (fun w => decide (w ∈ lw_tbl) && goodWord w) = true by decide +kernel) w hw
  rw [Bool.and_eq_true] at h
  exact big_in (of_decide_eq_true h.1) h.2
theorem inX7 : ∀ w ∈ u_ws RX7 TX7 4, w ∈ BIG := fun w hw => by
  have h := List.all_eq_true.mp (show (u_ws RX7 TX7 4).all (fun w => decide (w ∈ lw_tbl) && goodWord w) = true by decide +kernel) w hw
  rw [Bool.and_eq_true] at h
  exact big_in (of_decide_eq_true h.1) h.2
theorem inX8 : ∀ w ∈ u_ws RX8 TX8 3, w ∈ BIG := fun w hw => by
  have h := List.all_eq_true.mp (show (u_ws RX8 TX8 3).all (fun w => decide (w ∈ lw_tbl) && goodWord w) = true by decide +kernel) w hw
  rw [Bool.and_eq_true] at h
  exact big_in (of_decide_eq_true h.1) h.2
theorem inX10 : ∀ w ∈ u_ws RX10 TX10 8, w ∈ BIG := fun w hw => by
  have h := List.all_eq_true.mp (show (u_ws RX10 TX10 8).all (fun w => decide (w ∈ lw_tbl) && goodWord w) = true by decide +kernel) w hw
  rw [Bool.and_eq_true] at h
  exact big_in (of_decide_eq_true h.1) h.2
