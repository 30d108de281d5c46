/-! the tables' words that the walks use (by program) -/
theorem wd0 : Cond.selects RX10 yX10_pressSymbol yX10_pressSymbol ∈ BIG := big_in (List.mem_of_getElem? (i := 0) (by decide +kernel)) (by decide +kernel)
theorem wd1 : Cond.selects RX8 yX8_dataAt yX8_dataAt ∈ BIG := big_in (List.mem_of_getElem? (i := 1) (by decide +kernel)) (by decide +kernel)
theorem wd2 : Cond.selects RX8 yX8_indexOf yX8_indexOf ∈ BIG := big_in (List.mem_of_getElem? (i := 2) (by decide +kernel)) (by decide +kernel)
theorem wd3 : Cond.selects RX8 yX8_drop yX8_drop ∈ BIG := big_in (List.mem_of_getElem? (i := 3) (by decide +kernel)) (by decide +kernel)
theorem wd4 : Cond.selects RX10 yX10_recorded yX10_recorded ∈ BIG := big_in (List.mem_of_getElem? (i := 4) (by decide +kernel)) (by decide +kernel)
theorem wd5 : Cond.selects RX2 yX2_dropOldest yX2_dropOldest ∈ BIG := big_in (List.mem_of_getElem? (i := 5) (by decide +kernel)) (by decide +kernel)
theorem wd6 : Cond.selects RX2 yX2_stateAt yX2_stateAt ∈ BIG := big_in (List.mem_of_getElem? (i := 6) (by decide +kernel)) (by decide +kernel)
theorem wd7 : Cond.selects RX10 yX10_addScratch yX10_addScratch ∈ BIG := big_in (List.mem_of_getElem? (i := 7) (by decide +kernel)) (by decide +kernel)
theorem wd8 : Cond.selects RX7 yX7_markScratch yX7_markScratch ∈ BIG := big_in (List.mem_of_getElem? (i := 8) (by decide +kernel)) (by decide +kernel)
theorem wd9 : Cond.selects RX7 yX7_markRow yX7_markRow ∈ BIG := big_in (List.mem_of_getElem? (i := 9) (by decide +kernel)) (by decide +kernel)
theorem wd10 : Cond.selects RX7 yX7_judgeGroup yX7_judgeGroup ∈ BIG := big_in (List.mem_of_getElem? (i := 10) (by decide +kernel)) (by decide +kernel)
theorem wd11 : Cond.selects RX7 yX7_canBeFilled yX7_canBeFilled ∈ BIG := big_in (List.mem_of_getElem? (i := 11) (by decide +kernel)) (by decide +kernel)
theorem wd12 : Cond.selects RX10 yX10_polishAway yX10_polishAway ∈ BIG := big_in (List.mem_of_getElem? (i := 12) (by decide +kernel)) (by decide +kernel)
theorem wd13 : Cond.selects RX10 yX10_playFrames yX10_playFrames ∈ BIG := big_in (List.mem_of_getElem? (i := 13) (by decide +kernel)) (by decide +kernel)
theorem wd14 : Cond.selects RX1 yX1_spin yX1_spin ∈ BIG := big_in (List.mem_of_getElem? (i := 14) (by decide +kernel)) (by decide +kernel)
theorem wd15 : Cond.selects RX1 yX1_isNear yX1_isNear ∈ BIG := big_in (List.mem_of_getElem? (i := 15) (by decide +kernel)) (by decide +kernel)
theorem wd16 : Cond.selects RX10 yX10_seekFrame yX10_seekFrame ∈ BIG := big_in (List.mem_of_getElem? (i := 16) (by decide +kernel)) (by decide +kernel)
theorem wd17 : Cond.selects RX1 yX1_jump yX1_jump ∈ BIG := big_in (List.mem_of_getElem? (i := 17) (by decide +kernel)) (by decide +kernel)
theorem wd18 : Cond.selects RX3 yX3_readOrder yX3_readOrder ∈ BIG := big_in (List.mem_of_getElem? (i := 18) (by decide +kernel)) (by decide +kernel)
theorem wd19 : Cond.selects RX3 yX3_readWord yX3_readWord ∈ BIG := big_in (List.mem_of_getElem? (i := 19) (by decide +kernel)) (by decide +kernel)
theorem wd20 : Cond.selects RX3 yX3_sameAs yX3_sameAs ∈ BIG := big_in (List.mem_of_getElem? (i := 20) (by decide +kernel)) (by decide +kernel)
theorem wd21 : Cond.selects RX3 yX3_hasSign yX3_hasSign ∈ BIG := big_in (List.mem_of_getElem? (i := 21) (by decide +kernel)) (by decide +kernel)
theorem wd22 : Cond.selects RX3 yX3_readNumber yX3_readNumber ∈ BIG := big_in (List.mem_of_getElem? (i := 22) (by decide +kernel)) (by decide +kernel)
theorem wd23 : Cond.selects RX3 yX3_longerBy yX3_longerBy ∈ BIG := big_in (List.mem_of_getElem? (i := 23) (by decide +kernel)) (by decide +kernel)
theorem wd24 : Cond.selects RX3 yX3_readSign yX3_readSign ∈ BIG := big_in (List.mem_of_getElem? (i := 24) (by decide +kernel)) (by decide +kernel)
theorem wd25 : Cond.selects RX10 yX10_doOrder yX10_doOrder ∈ BIG := big_in (List.mem_of_getElem? (i := 25) (by decide +kernel)) (by decide +kernel)
theorem wd26 : Cond.selects RX10 yX10_toldSymbol yX10_toldSymbol ∈ BIG := big_in (List.mem_of_getElem? (i := 26) (by decide +kernel)) (by decide +kernel)
theorem wd27 : Cond.selects RX10 yX10_filledSymbol yX10_filledSymbol ∈ BIG := big_in (List.mem_of_getElem? (i := 27) (by decide +kernel)) (by decide +kernel)
theorem wd28 : Cond.selects RX10 yX10_countSetting yX10_countSetting ∈ BIG := big_in (List.mem_of_getElem? (i := 28) (by decide +kernel)) (by decide +kernel)
theorem wd29 : Cond.selects RX10 yX10_isToldRight yX10_isToldRight ∈ BIG := big_in (List.mem_of_getElem? (i := 29) (by decide +kernel)) (by decide +kernel)
theorem wd30 : Cond.selects RX10 yX10_trySeek yX10_trySeek ∈ BIG := big_in (List.mem_of_getElem? (i := 30) (by decide +kernel)) (by decide +kernel)
theorem wd31 : Cond.selects RX11 yX11_putAside yX11_putAside ∈ BIG := big_in (List.mem_of_getElem? (i := 31) (by decide +kernel)) (by decide +kernel)
theorem wd32 : Cond.selects RX11 yX11_presses yX11_presses ∈ BIG := big_in (List.mem_of_getElem? (i := 32) (by decide +kernel)) (by decide +kernel)
theorem wd33 : Cond.selects RX11 yX11_isFrame yX11_isFrame ∈ BIG := big_in (List.mem_of_getElem? (i := 33) (by decide +kernel)) (by decide +kernel)
theorem wd34 : Cond.selects RX11 yX11_frames yX11_frames ∈ BIG := big_in (List.mem_of_getElem? (i := 34) (by decide +kernel)) (by decide +kernel)
theorem wd35 : Cond.selects RX11 yX11_start yX11_start ∈ BIG := big_in (List.mem_of_getElem? (i := 35) (by decide +kernel)) (by decide +kernel)
theorem wd36 : Cond.selects RX11 yX11_dataSymbol yX11_dataSymbol ∈ BIG := big_in (List.mem_of_getElem? (i := 36) (by decide +kernel)) (by decide +kernel)
theorem wd37 : Cond.selects RX11 yX11_findPressed yX11_findPressed ∈ BIG := big_in (List.mem_of_getElem? (i := 37) (by decide +kernel)) (by decide +kernel)
theorem wd38 : Cond.selects RX11 yX11_act yX11_act ∈ BIG := big_in (List.mem_of_getElem? (i := 38) (by decide +kernel)) (by decide +kernel)
theorem wd39 : Cond.selects RX11 yX11_putBack yX11_putBack ∈ BIG := big_in (List.mem_of_getElem? (i := 39) (by decide +kernel)) (by decide +kernel)
theorem wd40 : Cond.selects RX11 yX11_scratches yX11_scratches ∈ BIG := big_in (List.mem_of_getElem? (i := 40) (by decide +kernel)) (by decide +kernel)
theorem wd41 : Cond.selects RX11 yX11_damaged yX11_damaged ∈ BIG := big_in (List.mem_of_getElem? (i := 41) (by decide +kernel)) (by decide +kernel)
theorem wd42 : Cond.selects RX11 yX11_lay yX11_lay ∈ BIG := big_in (List.mem_of_getElem? (i := 42) (by decide +kernel)) (by decide +kernel)
theorem wd43 : Cond.selects RX11 yX11_framesOf yX11_framesOf ∈ BIG := big_in (List.mem_of_getElem? (i := 43) (by decide +kernel)) (by decide +kernel)
theorem wd44 : Cond.selects RX11 yX11_damages yX11_damages ∈ BIG := big_in (List.mem_of_getElem? (i := 44) (by decide +kernel)) (by decide +kernel)
theorem wd45 : Cond.selects RX11 yX11_polishes yX11_polishes ∈ BIG := big_in (List.mem_of_getElem? (i := 45) (by decide +kernel)) (by decide +kernel)
theorem wd46 : Cond.selects RX11 yX11_plays yX11_plays ∈ BIG := big_in (List.mem_of_getElem? (i := 46) (by decide +kernel)) (by decide +kernel)
theorem wd47 : Cond.selects RX11 yX11_turnOf yX11_turnOf ∈ BIG := big_in (List.mem_of_getElem? (i := 47) (by decide +kernel)) (by decide +kernel)
theorem wd48 : Cond.selects RX11 yX11_tick yX11_tick ∈ BIG := big_in (List.mem_of_getElem? (i := 48) (by decide +kernel)) (by decide +kernel)
theorem wd49 : Cond.selects RX11 yX11_isNear yX11_isNear ∈ BIG := big_in (List.mem_of_getElem? (i := 49) (by decide +kernel)) (by decide +kernel)
theorem wd50 : Cond.selects RX11 yX11_seeks yX11_seeks ∈ BIG := big_in (List.mem_of_getElem? (i := 50) (by decide +kernel)) (by decide +kernel)
theorem wd51 : Cond.selects RX11 yX11_jumps yX11_jumps ∈ BIG := big_in (List.mem_of_getElem? (i := 51) (by decide +kernel)) (by decide +kernel)
theorem wd52 : Cond.selects RX11 yX11_go yX11_go ∈ BIG := big_in (List.mem_of_getElem? (i := 52) (by decide +kernel)) (by decide +kernel)
theorem wd53 : Cond.selects RX11 yX11_isNext yX11_isNext ∈ BIG := big_in (List.mem_of_getElem? (i := 53) (by decide +kernel)) (by decide +kernel)
theorem wd54 : Cond.selects RX11 yX11_sign yX11_sign ∈ BIG := big_in (List.mem_of_getElem? (i := 54) (by decide +kernel)) (by decide +kernel)
theorem wd55 : Cond.selects RX11 yX11_orderOfS yX11_orderOfS ∈ BIG := big_in (List.mem_of_getElem? (i := 55) (by decide +kernel)) (by decide +kernel)
theorem wd56 : Cond.selects RX11 yX11_signs yX11_signs ∈ BIG := big_in (List.mem_of_getElem? (i := 56) (by decide +kernel)) (by decide +kernel)
theorem wd57 : Cond.selects RX11 yX11_number yX11_number ∈ BIG := big_in (List.mem_of_getElem? (i := 57) (by decide +kernel)) (by decide +kernel)
theorem wd58 : Cond.selects RX11 yX11_behind yX11_behind ∈ BIG := big_in (List.mem_of_getElem? (i := 58) (by decide +kernel)) (by decide +kernel)
theorem wd59 : Cond.selects RX11 yX11_orderOfP yX11_orderOfP ∈ BIG := big_in (List.mem_of_getElem? (i := 59) (by decide +kernel)) (by decide +kernel)
theorem wd60 : Cond.selects RX11 yX11_hasGroup yX11_hasGroup ∈ BIG := big_in (List.mem_of_getElem? (i := 60) (by decide +kernel)) (by decide +kernel)
theorem wd61 : Cond.selects RX11 yX11_how yX11_how ∈ BIG := big_in (List.mem_of_getElem? (i := 61) (by decide +kernel)) (by decide +kernel)
theorem wd62 : Cond.selects RX11 yX11_isSound yX11_isSound ∈ BIG := big_in (List.mem_of_getElem? (i := 62) (by decide +kernel)) (by decide +kernel)
theorem wd63 : Cond.selects RX11 yX11_pits yX11_pits ∈ BIG := big_in (List.mem_of_getElem? (i := 63) (by decide +kernel)) (by decide +kernel)
theorem wd64 : Cond.selects RX11 yX11_symbolOf yX11_symbolOf ∈ BIG := big_in (List.mem_of_getElem? (i := 64) (by decide +kernel)) (by decide +kernel)
theorem wd65 : Cond.selects RX11 yX11_flats yX11_flats ∈ BIG := big_in (List.mem_of_getElem? (i := 65) (by decide +kernel)) (by decide +kernel)
theorem wd66 : Cond.selects RX11 yX11_longestRun yX11_longestRun ∈ BIG := big_in (List.mem_of_getElem? (i := 66) (by decide +kernel)) (by decide +kernel)
theorem wd67 : Cond.selects RX11 yX11_toldSymbol yX11_toldSymbol ∈ BIG := big_in (List.mem_of_getElem? (i := 67) (by decide +kernel)) (by decide +kernel)
theorem wd68 : Cond.selects RX11 yX11_framesThat yX11_framesThat ∈ BIG := big_in (List.mem_of_getElem? (i := 68) (by decide +kernel)) (by decide +kernel)
theorem wd70 : Cond.initialized RX10 ∈ BIG := big_in (List.mem_of_getElem? (i := 70) (by decide +kernel)) (by decide +kernel)
theorem wd71 : Cond.initialized RX6 ∈ BIG := big_in (List.mem_of_getElem? (i := 71) (by decide +kernel)) (by decide +kernel)
theorem wd72 : Cond.initialized RX5 ∈ BIG := big_in (List.mem_of_getElem? (i := 72) (by decide +kernel)) (by decide +kernel)
theorem wd73 : Cond.initialized RX4 ∈ BIG := big_in (List.mem_of_getElem? (i := 73) (by decide +kernel)) (by decide +kernel)
theorem wd74 : Cond.initialized RX8 ∈ BIG := big_in (List.mem_of_getElem? (i := 74) (by decide +kernel)) (by decide +kernel)
theorem wd75 : Cond.initialized RX1 ∈ BIG := big_in (List.mem_of_getElem? (i := 75) (by decide +kernel)) (by decide +kernel)
theorem wd76 : Cond.initialized RX2 ∈ BIG := big_in (List.mem_of_getElem? (i := 76) (by decide +kernel)) (by decide +kernel)
theorem wd77 : Cond.initialized RX3 ∈ BIG := big_in (List.mem_of_getElem? (i := 77) (by decide +kernel)) (by decide +kernel)
theorem wd78 : Cond.initialized RX7 ∈ BIG := big_in (List.mem_of_getElem? (i := 78) (by decide +kernel)) (by decide +kernel)
theorem wd79 : Cond.initialized RX11 ∈ BIG := big_in (List.mem_of_getElem? (i := 79) (by decide +kernel)) (by decide +kernel)
theorem wd80 : Cond.initialized "java/lang/System" ∈ BIG := big_in (List.mem_of_getElem? (i := 80) (by decide +kernel)) (by decide +kernel)
theorem wd81 : Cond.initialized RJ7 ∈ BIG := big_in (List.mem_of_getElem? (i := 81) (by decide +kernel)) (by decide +kernel)
theorem wd82 : Cond.initialized "java/lang/Math" ∈ BIG := big_in (List.mem_of_getElem? (i := 82) (by decide +kernel)) (by decide +kernel)
theorem wd88 : Cond.initialized RX9 ∈ BIG := big_in (List.mem_of_getElem? (i := 88) (by decide +kernel)) (by decide +kernel)
theorem wd110 : Cond.fieldLink RX5 9 "LineDisc$Settings" "framesAtFirst" "I" ∈ BIG := big_in (List.mem_of_getElem? (i := 110) (by decide +kernel)) (by decide +kernel)
theorem wd111 : Cond.fieldLink RX5 15 "LineDisc$Settings" "moreInEach" "I" ∈ BIG := big_in (List.mem_of_getElem? (i := 111) (by decide +kernel)) (by decide +kernel)
theorem wd112 : Cond.fieldLink RX5 18 "LineDisc$Settings" "motor" "I" ∈ BIG := big_in (List.mem_of_getElem? (i := 112) (by decide +kernel)) (by decide +kernel)
theorem wd113 : Cond.fieldLink RX1 36 "LineDisc$Settings" "motor" "I" ∈ BIG := big_in (List.mem_of_getElem? (i := 113) (by decide +kernel)) (by decide +kernel)
theorem wd114 : Cond.fieldLink RX5 21 "LineDisc$Settings" "off" "I" ∈ BIG := big_in (List.mem_of_getElem? (i := 114) (by decide +kernel)) (by decide +kernel)
theorem wd115 : Cond.fieldLink RX1 51 "LineDisc$Settings" "off" "I" ∈ BIG := big_in (List.mem_of_getElem? (i := 115) (by decide +kernel)) (by decide +kernel)
theorem wd116 : Cond.fieldLink RX5 24 "LineDisc$Settings" "guess" "I" ∈ BIG := big_in (List.mem_of_getElem? (i := 116) (by decide +kernel)) (by decide +kernel)
theorem wd117 : Cond.fieldLink RX10 245 "LineDisc$Settings" "guess" "I" ∈ BIG := big_in (List.mem_of_getElem? (i := 117) (by decide +kernel)) (by decide +kernel)
theorem wd118 : Cond.fieldLink RX5 27 "LineDisc$Settings" "jumpTicks" "I" ∈ BIG := big_in (List.mem_of_getElem? (i := 118) (by decide +kernel)) (by decide +kernel)
theorem wd119 : Cond.fieldLink RX1 83 "LineDisc$Settings" "jumpTicks" "I" ∈ BIG := big_in (List.mem_of_getElem? (i := 119) (by decide +kernel)) (by decide +kernel)
theorem wd139 : Cond.fieldLink RX4 9 "LineDisc$Scratches" "parts" "[I" ∈ BIG := big_in (List.mem_of_getElem? (i := 139) (by decide +kernel)) (by decide +kernel)
theorem wd140 : Cond.fieldLink RX4 13 "LineDisc$Scratches" "size" "I" ∈ BIG := big_in (List.mem_of_getElem? (i := 140) (by decide +kernel)) (by decide +kernel)
theorem wd141 : Cond.fieldLink RX7 59 "LineDisc$Scratches" "size" "I" ∈ BIG := big_in (List.mem_of_getElem? (i := 141) (by decide +kernel)) (by decide +kernel)
theorem wd142 : Cond.fieldLink RX10 219 "LineDisc$Scratches" "size" "I" ∈ BIG := big_in (List.mem_of_getElem? (i := 142) (by decide +kernel)) (by decide +kernel)
theorem wd155 : Cond.fieldLink RX8 11 "LineDisc$Symbols" "cells" "[I" ∈ BIG := big_in (List.mem_of_getElem? (i := 155) (by decide +kernel)) (by decide +kernel)
theorem wd156 : Cond.fieldLink RX8 15 "LineDisc$Symbols" "pressed" "[I" ∈ BIG := big_in (List.mem_of_getElem? (i := 156) (by decide +kernel)) (by decide +kernel)
theorem wd157 : Cond.fieldLink RX8 18 "LineDisc$Symbols" "size" "I" ∈ BIG := big_in (List.mem_of_getElem? (i := 157) (by decide +kernel)) (by decide +kernel)
theorem wd158 : Cond.fieldLink RX10 238 "LineDisc$Symbols" "size" "I" ∈ BIG := big_in (List.mem_of_getElem? (i := 158) (by decide +kernel)) (by decide +kernel)
theorem wd172 : Cond.fieldLink RX1 9 "LineDisc$Head" "position" "I" ∈ BIG := big_in (List.mem_of_getElem? (i := 172) (by decide +kernel)) (by decide +kernel)
theorem wd173 : Cond.fieldLink RX10 220 "LineDisc$Head" "position" "I" ∈ BIG := big_in (List.mem_of_getElem? (i := 173) (by decide +kernel)) (by decide +kernel)
theorem wd174 : Cond.fieldLink RX1 15 "LineDisc$Head" "speed" "I" ∈ BIG := big_in (List.mem_of_getElem? (i := 174) (by decide +kernel)) (by decide +kernel)
theorem wd175 : Cond.fieldLink RX10 223 "LineDisc$Head" "speed" "I" ∈ BIG := big_in (List.mem_of_getElem? (i := 175) (by decide +kernel)) (by decide +kernel)
theorem wd176 : Cond.fieldLink RX1 18 "LineDisc$Head" "ticks" "I" ∈ BIG := big_in (List.mem_of_getElem? (i := 176) (by decide +kernel)) (by decide +kernel)
theorem wd177 : Cond.fieldLink RX10 129 "LineDisc$Head" "ticks" "I" ∈ BIG := big_in (List.mem_of_getElem? (i := 177) (by decide +kernel)) (by decide +kernel)
theorem wd178 : Cond.fieldLink RX1 21 "LineDisc$Head" "read" "I" ∈ BIG := big_in (List.mem_of_getElem? (i := 178) (by decide +kernel)) (by decide +kernel)
theorem wd179 : Cond.fieldLink RX10 226 "LineDisc$Head" "read" "I" ∈ BIG := big_in (List.mem_of_getElem? (i := 179) (by decide +kernel)) (by decide +kernel)
theorem wd180 : Cond.fieldLink RX1 24 "LineDisc$Head" "readWhole" "I" ∈ BIG := big_in (List.mem_of_getElem? (i := 180) (by decide +kernel)) (by decide +kernel)
theorem wd181 : Cond.fieldLink RX10 229 "LineDisc$Head" "readWhole" "I" ∈ BIG := big_in (List.mem_of_getElem? (i := 181) (by decide +kernel)) (by decide +kernel)
theorem wd182 : Cond.fieldLink RX1 27 "LineDisc$Head" "jumps" "I" ∈ BIG := big_in (List.mem_of_getElem? (i := 182) (by decide +kernel)) (by decide +kernel)
theorem wd183 : Cond.fieldLink RX10 232 "LineDisc$Head" "jumps" "I" ∈ BIG := big_in (List.mem_of_getElem? (i := 183) (by decide +kernel)) (by decide +kernel)
theorem wd197 : Cond.fieldLink RX6 10 "LineDisc$State" "settings" "LLineDisc$Settings;" ∈ BIG := big_in (List.mem_of_getElem? (i := 197) (by decide +kernel)) (by decide +kernel)
theorem wd198 : Cond.fieldLink RX7 32 "LineDisc$State" "settings" "LLineDisc$Settings;" ∈ BIG := big_in (List.mem_of_getElem? (i := 198) (by decide +kernel)) (by decide +kernel)
theorem wd199 : Cond.fieldLink RX10 79 "LineDisc$State" "settings" "LLineDisc$Settings;" ∈ BIG := big_in (List.mem_of_getElem? (i := 199) (by decide +kernel)) (by decide +kernel)
theorem wd200 : Cond.fieldLink RX6 19 "LineDisc$State" "scratches" "LLineDisc$Scratches;" ∈ BIG := big_in (List.mem_of_getElem? (i := 200) (by decide +kernel)) (by decide +kernel)
theorem wd201 : Cond.fieldLink RX7 41 "LineDisc$State" "scratches" "LLineDisc$Scratches;" ∈ BIG := big_in (List.mem_of_getElem? (i := 201) (by decide +kernel)) (by decide +kernel)
theorem wd202 : Cond.fieldLink RX10 192 "LineDisc$State" "scratches" "LLineDisc$Scratches;" ∈ BIG := big_in (List.mem_of_getElem? (i := 202) (by decide +kernel)) (by decide +kernel)
theorem wd203 : Cond.fieldLink RX6 26 "LineDisc$State" "symbols" "LLineDisc$Symbols;" ∈ BIG := big_in (List.mem_of_getElem? (i := 203) (by decide +kernel)) (by decide +kernel)
theorem wd204 : Cond.fieldLink RX10 158 "LineDisc$State" "symbols" "LLineDisc$Symbols;" ∈ BIG := big_in (List.mem_of_getElem? (i := 204) (by decide +kernel)) (by decide +kernel)
theorem wd205 : Cond.fieldLink RX6 33 "LineDisc$State" "head" "LLineDisc$Head;" ∈ BIG := big_in (List.mem_of_getElem? (i := 205) (by decide +kernel)) (by decide +kernel)
theorem wd206 : Cond.fieldLink RX10 90 "LineDisc$State" "head" "LLineDisc$Head;" ∈ BIG := big_in (List.mem_of_getElem? (i := 206) (by decide +kernel)) (by decide +kernel)
theorem wd225 : Cond.fieldLink RX2 11 "LineDisc$History" "states" "[LLineDisc$State;" ∈ BIG := big_in (List.mem_of_getElem? (i := 225) (by decide +kernel)) (by decide +kernel)
theorem wd226 : Cond.fieldLink RX2 15 "LineDisc$History" "size" "I" ∈ BIG := big_in (List.mem_of_getElem? (i := 226) (by decide +kernel)) (by decide +kernel)
theorem wd227 : Cond.fieldLink RX10 128 "LineDisc$History" "size" "I" ∈ BIG := big_in (List.mem_of_getElem? (i := 227) (by decide +kernel)) (by decide +kernel)
theorem wd241 : Cond.fieldLink RX3 11 "LineDisc$Orders" "signs" "[C" ∈ BIG := big_in (List.mem_of_getElem? (i := 241) (by decide +kernel)) (by decide +kernel)
theorem wd242 : Cond.fieldLink RX3 15 "LineDisc$Orders" "length" "I" ∈ BIG := big_in (List.mem_of_getElem? (i := 242) (by decide +kernel)) (by decide +kernel)
theorem wd243 : Cond.fieldLink RX10 107 "LineDisc$Orders" "length" "I" ∈ BIG := big_in (List.mem_of_getElem? (i := 243) (by decide +kernel)) (by decide +kernel)
theorem wd244 : Cond.fieldLink RX3 21 "LineDisc$Orders" "words" "[LLineDisc$Word;" ∈ BIG := big_in (List.mem_of_getElem? (i := 244) (by decide +kernel)) (by decide +kernel)
theorem wd245 : Cond.fieldLink RX3 25 "LineDisc$Orders" "numbers" "[I" ∈ BIG := big_in (List.mem_of_getElem? (i := 245) (by decide +kernel)) (by decide +kernel)
theorem wd246 : Cond.fieldLink RX3 29 "LineDisc$Orders" "size" "I" ∈ BIG := big_in (List.mem_of_getElem? (i := 246) (by decide +kernel)) (by decide +kernel)
theorem wd247 : Cond.fieldLink RX10 118 "LineDisc$Orders" "size" "I" ∈ BIG := big_in (List.mem_of_getElem? (i := 247) (by decide +kernel)) (by decide +kernel)
theorem wd248 : Cond.fieldLink RX3 32 "LineDisc$Orders" "place" "I" ∈ BIG := big_in (List.mem_of_getElem? (i := 248) (by decide +kernel)) (by decide +kernel)
theorem wd273 : Cond.fieldLink RX7 12 "LineDisc$Survey" "spiral" "LLineDisc$Settings;" ∈ BIG := big_in (List.mem_of_getElem? (i := 273) (by decide +kernel)) (by decide +kernel)
theorem wd274 : Cond.fieldLink RX7 21 "LineDisc$Survey" "scratches" "LLineDisc$Scratches;" ∈ BIG := big_in (List.mem_of_getElem? (i := 274) (by decide +kernel)) (by decide +kernel)
theorem wd275 : Cond.fieldLink RX7 25 "LineDisc$Survey" "hits" "[I" ∈ BIG := big_in (List.mem_of_getElem? (i := 275) (by decide +kernel)) (by decide +kernel)
theorem wd276 : Cond.fieldLink RX7 29 "LineDisc$Survey" "hows" "[I" ∈ BIG := big_in (List.mem_of_getElem? (i := 276) (by decide +kernel)) (by decide +kernel)
theorem wd288 : Cond.fieldLink RX10 10 "LineDisc" "now" "LLineDisc$State;" ∈ BIG := big_in (List.mem_of_getElem? (i := 288) (by decide +kernel)) (by decide +kernel)
theorem wd289 : Cond.fieldLink RX10 16 "LineDisc" "before" "LLineDisc$State;" ∈ BIG := big_in (List.mem_of_getElem? (i := 289) (by decide +kernel)) (by decide +kernel)
theorem wd290 : Cond.fieldLink RX10 19 "LineDisc" "snapshot" "LLineDisc$State;" ∈ BIG := big_in (List.mem_of_getElem? (i := 290) (by decide +kernel)) (by decide +kernel)
theorem wd291 : Cond.fieldLink RX10 22 "LineDisc" "kept" "Z" ∈ BIG := big_in (List.mem_of_getElem? (i := 291) (by decide +kernel)) (by decide +kernel)
theorem wd292 : Cond.fieldLink RX10 29 "LineDisc" "history" "LLineDisc$History;" ∈ BIG := big_in (List.mem_of_getElem? (i := 292) (by decide +kernel)) (by decide +kernel)
theorem wd293 : Cond.fieldLink RX10 36 "LineDisc" "orders" "LLineDisc$Orders;" ∈ BIG := big_in (List.mem_of_getElem? (i := 293) (by decide +kernel)) (by decide +kernel)
theorem wd294 : Cond.fieldLink RX10 43 "LineDisc" "survey" "LLineDisc$Survey;" ∈ BIG := big_in (List.mem_of_getElem? (i := 294) (by decide +kernel)) (by decide +kernel)
theorem wd295 : Cond.fieldLink RX10 50 "LineDisc" "trial" "LLineDisc$Head;" ∈ BIG := big_in (List.mem_of_getElem? (i := 295) (by decide +kernel)) (by decide +kernel)
theorem wd317 : Cond.methodLink RX10 54 yX6_copyFrom ∈ BIG := big_in (List.mem_of_getElem? (i := 317) (by decide +kernel)) (by decide +kernel)
theorem wd318 : Cond.instanceMethod yX6_copyFrom ∈ BIG := big_in (List.mem_of_getElem? (i := 318) (by decide +kernel)) (by decide +kernel)
theorem wd319 : Cond.selects RX6 yX6_copyFrom yX6_copyFrom ∈ BIG := big_in (List.mem_of_getElem? (i := 319) (by decide +kernel)) (by decide +kernel)
theorem wd320 : Cond.code yX6_copyFrom cX6_copyFrom 2 none ∈ BIG := big_in (List.mem_of_getElem? (i := 320) (by decide +kernel)) (by decide +kernel)
theorem wd321 : Cond.methodLink RX6 37 yX5_copyFrom ∈ BIG := big_in (List.mem_of_getElem? (i := 321) (by decide +kernel)) (by decide +kernel)
theorem wd322 : Cond.instanceMethod yX5_copyFrom ∈ BIG := big_in (List.mem_of_getElem? (i := 322) (by decide +kernel)) (by decide +kernel)
theorem wd323 : Cond.selects RX5 yX5_copyFrom yX5_copyFrom ∈ BIG := big_in (List.mem_of_getElem? (i := 323) (by decide +kernel)) (by decide +kernel)
theorem wd324 : Cond.code yX5_copyFrom cX5_copyFrom 2 none ∈ BIG := big_in (List.mem_of_getElem? (i := 324) (by decide +kernel)) (by decide +kernel)
theorem wd325 : Cond.methodLink RX6 41 yX4_copyFrom ∈ BIG := big_in (List.mem_of_getElem? (i := 325) (by decide +kernel)) (by decide +kernel)
theorem wd326 : Cond.instanceMethod yX4_copyFrom ∈ BIG := big_in (List.mem_of_getElem? (i := 326) (by decide +kernel)) (by decide +kernel)
theorem wd327 : Cond.selects RX4 yX4_copyFrom yX4_copyFrom ∈ BIG := big_in (List.mem_of_getElem? (i := 327) (by decide +kernel)) (by decide +kernel)
theorem wd328 : Cond.code yX4_copyFrom cX4_copyFrom 2 none ∈ BIG := big_in (List.mem_of_getElem? (i := 328) (by decide +kernel)) (by decide +kernel)
theorem wd329 : Cond.methodLink RX4 31 arraycopyName ∈ BIG := big_in (List.mem_of_getElem? (i := 329) (by decide +kernel)) (by decide +kernel)
theorem wd330 : Cond.static arraycopyName ∈ BIG := big_in (List.mem_of_getElem? (i := 330) (by decide +kernel)) (by decide +kernel)
theorem wd331 : Cond.native arraycopyName ∈ BIG := big_in (List.mem_of_getElem? (i := 331) (by decide +kernel)) (by decide +kernel)
theorem wd332 : Cond.methodLink RX6 44 yX8_copyFrom ∈ BIG := big_in (List.mem_of_getElem? (i := 332) (by decide +kernel)) (by decide +kernel)
theorem wd333 : Cond.instanceMethod yX8_copyFrom ∈ BIG := big_in (List.mem_of_getElem? (i := 333) (by decide +kernel)) (by decide +kernel)
theorem wd334 : Cond.selects RX8 yX8_copyFrom yX8_copyFrom ∈ BIG := big_in (List.mem_of_getElem? (i := 334) (by decide +kernel)) (by decide +kernel)
theorem wd335 : Cond.code yX8_copyFrom cX8_copyFrom 2 none ∈ BIG := big_in (List.mem_of_getElem? (i := 335) (by decide +kernel)) (by decide +kernel)
theorem wd336 : Cond.methodLink RX8 51 arraycopyName ∈ BIG := big_in (List.mem_of_getElem? (i := 336) (by decide +kernel)) (by decide +kernel)
theorem wd337 : Cond.methodLink RX6 47 yX1_copyFrom ∈ BIG := big_in (List.mem_of_getElem? (i := 337) (by decide +kernel)) (by decide +kernel)
theorem wd338 : Cond.instanceMethod yX1_copyFrom ∈ BIG := big_in (List.mem_of_getElem? (i := 338) (by decide +kernel)) (by decide +kernel)
theorem wd339 : Cond.selects RX1 yX1_copyFrom yX1_copyFrom ∈ BIG := big_in (List.mem_of_getElem? (i := 339) (by decide +kernel)) (by decide +kernel)
theorem wd340 : Cond.code yX1_copyFrom cX1_copyFrom 2 none ∈ BIG := big_in (List.mem_of_getElem? (i := 340) (by decide +kernel)) (by decide +kernel)
theorem wd341 : Cond.methodLink RX10 58 yX10_pressSymbol ∈ BIG := big_in (List.mem_of_getElem? (i := 341) (by decide +kernel)) (by decide +kernel)
theorem wd343 : Cond.instanceMethod yX10_pressSymbol ∈ BIG := big_in (List.mem_of_getElem? (i := 343) (by decide +kernel)) (by decide +kernel)
theorem wd344 : Cond.code yX10_pressSymbol cX10_pressSymbol 5 (some .int) ∈ BIG := big_in (List.mem_of_getElem? (i := 344) (by decide +kernel)) (by decide +kernel)
theorem wd345 : Cond.methodLink RX10 132 yX5_hasFrame ∈ BIG := big_in (List.mem_of_getElem? (i := 345) (by decide +kernel)) (by decide +kernel)
theorem wd346 : Cond.instanceMethod yX5_hasFrame ∈ BIG := big_in (List.mem_of_getElem? (i := 346) (by decide +kernel)) (by decide +kernel)
theorem wd347 : Cond.selects RX5 yX5_hasFrame yX5_hasFrame ∈ BIG := big_in (List.mem_of_getElem? (i := 347) (by decide +kernel)) (by decide +kernel)
theorem wd348 : Cond.code yX5_hasFrame cX5_hasFrame 2 (some .boolean) ∈ BIG := big_in (List.mem_of_getElem? (i := 348) (by decide +kernel)) (by decide +kernel)
theorem wd349 : Cond.methodLink RX5 34 yX5_allFrames ∈ BIG := big_in (List.mem_of_getElem? (i := 349) (by decide +kernel)) (by decide +kernel)
theorem wd350 : Cond.instanceMethod yX5_allFrames ∈ BIG := big_in (List.mem_of_getElem? (i := 350) (by decide +kernel)) (by decide +kernel)
theorem wd351 : Cond.selects RX5 yX5_allFrames yX5_allFrames ∈ BIG := big_in (List.mem_of_getElem? (i := 351) (by decide +kernel)) (by decide +kernel)
theorem wd352 : Cond.code yX5_allFrames cX5_allFrames 1 (some .int) ∈ BIG := big_in (List.mem_of_getElem? (i := 352) (by decide +kernel)) (by decide +kernel)
theorem wd353 : Cond.methodLink RX5 30 yX5_firstOf ∈ BIG := big_in (List.mem_of_getElem? (i := 353) (by decide +kernel)) (by decide +kernel)
theorem wd354 : Cond.instanceMethod yX5_firstOf ∈ BIG := big_in (List.mem_of_getElem? (i := 354) (by decide +kernel)) (by decide +kernel)
theorem wd355 : Cond.selects RX5 yX5_firstOf yX5_firstOf ∈ BIG := big_in (List.mem_of_getElem? (i := 355) (by decide +kernel)) (by decide +kernel)
theorem wd356 : Cond.code yX5_firstOf cX5_firstOf 2 (some .int) ∈ BIG := big_in (List.mem_of_getElem? (i := 356) (by decide +kernel)) (by decide +kernel)
theorem wd357 : Cond.methodLink RX10 173 yX10_isPlace ∈ BIG := big_in (List.mem_of_getElem? (i := 357) (by decide +kernel)) (by decide +kernel)
theorem wd358 : Cond.static yX10_isPlace ∈ BIG := big_in (List.mem_of_getElem? (i := 358) (by decide +kernel)) (by decide +kernel)
theorem wd359 : Cond.code yX10_isPlace cX10_isPlace 1 (some .boolean) ∈ BIG := big_in (List.mem_of_getElem? (i := 359) (by decide +kernel)) (by decide +kernel)
theorem wd360 : Cond.methodLink RX10 145 yX5_isCheck ∈ BIG := big_in (List.mem_of_getElem? (i := 360) (by decide +kernel)) (by decide +kernel)
theorem wd361 : Cond.static yX5_isCheck ∈ BIG := big_in (List.mem_of_getElem? (i := 361) (by decide +kernel)) (by decide +kernel)
theorem wd362 : Cond.code yX5_isCheck cX5_isCheck 1 (some .boolean) ∈ BIG := big_in (List.mem_of_getElem? (i := 362) (by decide +kernel)) (by decide +kernel)
theorem wd363 : Cond.methodLink RX10 180 yX8_standsAt ∈ BIG := big_in (List.mem_of_getElem? (i := 363) (by decide +kernel)) (by decide +kernel)
theorem wd364 : Cond.instanceMethod yX8_standsAt ∈ BIG := big_in (List.mem_of_getElem? (i := 364) (by decide +kernel)) (by decide +kernel)
theorem wd365 : Cond.selects RX8 yX8_standsAt yX8_standsAt ∈ BIG := big_in (List.mem_of_getElem? (i := 365) (by decide +kernel)) (by decide +kernel)
theorem wd366 : Cond.code yX8_standsAt cX8_standsAt 5 (some .int) ∈ BIG := big_in (List.mem_of_getElem? (i := 366) (by decide +kernel)) (by decide +kernel)
theorem wd367 : Cond.methodLink RX8 22 yX5_isCheck ∈ BIG := big_in (List.mem_of_getElem? (i := 367) (by decide +kernel)) (by decide +kernel)
theorem wd368 : Cond.methodLink RX8 28 yX8_dataAt ∈ BIG := big_in (List.mem_of_getElem? (i := 368) (by decide +kernel)) (by decide +kernel)
theorem wd370 : Cond.instanceMethod yX8_dataAt ∈ BIG := big_in (List.mem_of_getElem? (i := 370) (by decide +kernel)) (by decide +kernel)
theorem wd371 : Cond.code yX8_dataAt cX8_dataAt 4 (some .int) ∈ BIG := big_in (List.mem_of_getElem? (i := 371) (by decide +kernel)) (by decide +kernel)
theorem wd372 : Cond.methodLink RX8 32 yX8_indexOf ∈ BIG := big_in (List.mem_of_getElem? (i := 372) (by decide +kernel)) (by decide +kernel)
theorem wd374 : Cond.instanceMethod yX8_indexOf ∈ BIG := big_in (List.mem_of_getElem? (i := 374) (by decide +kernel)) (by decide +kernel)
theorem wd375 : Cond.code yX8_indexOf cX8_indexOf 3 (some .int) ∈ BIG := big_in (List.mem_of_getElem? (i := 375) (by decide +kernel)) (by decide +kernel)
theorem wd376 : Cond.methodLink RX8 36 yX8_atFirst ∈ BIG := big_in (List.mem_of_getElem? (i := 376) (by decide +kernel)) (by decide +kernel)
theorem wd377 : Cond.static yX8_atFirst ∈ BIG := big_in (List.mem_of_getElem? (i := 377) (by decide +kernel)) (by decide +kernel)
theorem wd378 : Cond.code yX8_atFirst cX8_atFirst 2 (some .int) ∈ BIG := big_in (List.mem_of_getElem? (i := 378) (by decide +kernel)) (by decide +kernel)
theorem wd379 : Cond.methodLinkNest RX8 39 yX10_at "LineDisc" ∈ lw_tbl := List.mem_of_getElem? (i := 379) (by decide +kernel)
theorem wd380 : Cond.static yX10_at ∈ BIG := big_in (List.mem_of_getElem? (i := 380) (by decide +kernel)) (by decide +kernel)
theorem wd381 : Cond.code yX10_at cX10_at 2 (some .int) ∈ BIG := big_in (List.mem_of_getElem? (i := 381) (by decide +kernel)) (by decide +kernel)
theorem wd382 : Cond.methodLink RX10 258 yX8_write ∈ BIG := big_in (List.mem_of_getElem? (i := 382) (by decide +kernel)) (by decide +kernel)
theorem wd383 : Cond.instanceMethod yX8_write ∈ BIG := big_in (List.mem_of_getElem? (i := 383) (by decide +kernel)) (by decide +kernel)
theorem wd384 : Cond.selects RX8 yX8_write yX8_write ∈ BIG := big_in (List.mem_of_getElem? (i := 384) (by decide +kernel)) (by decide +kernel)
theorem wd385 : Cond.code yX8_write cX8_write 6 (some .boolean) ∈ BIG := big_in (List.mem_of_getElem? (i := 385) (by decide +kernel)) (by decide +kernel)
theorem wd386 : Cond.methodLink RX8 43 yX8_drop ∈ BIG := big_in (List.mem_of_getElem? (i := 386) (by decide +kernel)) (by decide +kernel)
theorem wd388 : Cond.instanceMethod yX8_drop ∈ BIG := big_in (List.mem_of_getElem? (i := 388) (by decide +kernel)) (by decide +kernel)
theorem wd389 : Cond.code yX8_drop cX8_drop 2 none ∈ BIG := big_in (List.mem_of_getElem? (i := 389) (by decide +kernel)) (by decide +kernel)
theorem wd390 : Cond.methodLinkNest RX8 47 yX10_put "LineDisc" ∈ lw_tbl := List.mem_of_getElem? (i := 390) (by decide +kernel)
theorem wd391 : Cond.static yX10_put ∈ BIG := big_in (List.mem_of_getElem? (i := 391) (by decide +kernel)) (by decide +kernel)
theorem wd392 : Cond.code yX10_put cX10_put 3 none ∈ BIG := big_in (List.mem_of_getElem? (i := 392) (by decide +kernel)) (by decide +kernel)
theorem wd393 : Cond.methodLink RX10 62 yX10_recorded ∈ BIG := big_in (List.mem_of_getElem? (i := 393) (by decide +kernel)) (by decide +kernel)
theorem wd395 : Cond.instanceMethod yX10_recorded ∈ BIG := big_in (List.mem_of_getElem? (i := 395) (by decide +kernel)) (by decide +kernel)
theorem wd396 : Cond.code yX10_recorded cX10_recorded 2 (some .int) ∈ BIG := big_in (List.mem_of_getElem? (i := 396) (by decide +kernel)) (by decide +kernel)
theorem wd397 : Cond.methodLink RX10 295 yX2_add ∈ BIG := big_in (List.mem_of_getElem? (i := 397) (by decide +kernel)) (by decide +kernel)
theorem wd398 : Cond.instanceMethod yX2_add ∈ BIG := big_in (List.mem_of_getElem? (i := 398) (by decide +kernel)) (by decide +kernel)
theorem wd399 : Cond.selects RX2 yX2_add yX2_add ∈ BIG := big_in (List.mem_of_getElem? (i := 399) (by decide +kernel)) (by decide +kernel)
theorem wd400 : Cond.code yX2_add cX2_add 3 none ∈ BIG := big_in (List.mem_of_getElem? (i := 400) (by decide +kernel)) (by decide +kernel)
theorem wd401 : Cond.methodLink RX2 20 yX2_dropOldest ∈ BIG := big_in (List.mem_of_getElem? (i := 401) (by decide +kernel)) (by decide +kernel)
theorem wd403 : Cond.instanceMethod yX2_dropOldest ∈ BIG := big_in (List.mem_of_getElem? (i := 403) (by decide +kernel)) (by decide +kernel)
theorem wd404 : Cond.code yX2_dropOldest cX2_dropOldest 3 none ∈ BIG := big_in (List.mem_of_getElem? (i := 404) (by decide +kernel)) (by decide +kernel)
theorem wd405 : Cond.methodLink RX2 23 yX2_stateAt ∈ BIG := big_in (List.mem_of_getElem? (i := 405) (by decide +kernel)) (by decide +kernel)
theorem wd407 : Cond.instanceMethod yX2_stateAt ∈ BIG := big_in (List.mem_of_getElem? (i := 407) (by decide +kernel)) (by decide +kernel)
theorem wd408 : Cond.code yX2_stateAt cX2_stateAt 2 (some (.object "LineDisc$State")) ∈ BIG := big_in (List.mem_of_getElem? (i := 408) (by decide +kernel)) (by decide +kernel)
theorem wd409 : Cond.methodLink RX2 27 yX6_copyFrom ∈ BIG := big_in (List.mem_of_getElem? (i := 409) (by decide +kernel)) (by decide +kernel)
theorem wd414 : Cond.methodLink RX10 66 yX10_addScratch ∈ BIG := big_in (List.mem_of_getElem? (i := 414) (by decide +kernel)) (by decide +kernel)
theorem wd416 : Cond.instanceMethod yX10_addScratch ∈ BIG := big_in (List.mem_of_getElem? (i := 416) (by decide +kernel)) (by decide +kernel)
theorem wd417 : Cond.code yX10_addScratch cX10_addScratch 7 (some .int) ∈ BIG := big_in (List.mem_of_getElem? (i := 417) (by decide +kernel)) (by decide +kernel)
theorem wd418 : Cond.methodLink RX10 262 yX4_add ∈ BIG := big_in (List.mem_of_getElem? (i := 418) (by decide +kernel)) (by decide +kernel)
theorem wd419 : Cond.instanceMethod yX4_add ∈ BIG := big_in (List.mem_of_getElem? (i := 419) (by decide +kernel)) (by decide +kernel)
theorem wd420 : Cond.selects RX4 yX4_add yX4_add ∈ BIG := big_in (List.mem_of_getElem? (i := 420) (by decide +kernel)) (by decide +kernel)
theorem wd421 : Cond.code yX4_add cX4_add 5 (some .boolean) ∈ BIG := big_in (List.mem_of_getElem? (i := 421) (by decide +kernel)) (by decide +kernel)
theorem wd422 : Cond.methodLinkNest RX4 17 yX10_put "LineDisc" ∈ lw_tbl := List.mem_of_getElem? (i := 422) (by decide +kernel)
theorem wd423 : Cond.methodLink RX10 148 yX7_of ∈ BIG := big_in (List.mem_of_getElem? (i := 423) (by decide +kernel)) (by decide +kernel)
theorem wd424 : Cond.instanceMethod yX7_of ∈ BIG := big_in (List.mem_of_getElem? (i := 424) (by decide +kernel)) (by decide +kernel)
theorem wd425 : Cond.selects RX7 yX7_of yX7_of ∈ BIG := big_in (List.mem_of_getElem? (i := 425) (by decide +kernel)) (by decide +kernel)
theorem wd426 : Cond.code yX7_of cX7_of 3 (some (.object "LineDisc$Survey")) ∈ BIG := big_in (List.mem_of_getElem? (i := 426) (by decide +kernel)) (by decide +kernel)
theorem wd427 : Cond.methodLink RX7 37 yX5_hasSpiralOf ∈ BIG := big_in (List.mem_of_getElem? (i := 427) (by decide +kernel)) (by decide +kernel)
theorem wd428 : Cond.instanceMethod yX5_hasSpiralOf ∈ BIG := big_in (List.mem_of_getElem? (i := 428) (by decide +kernel)) (by decide +kernel)
theorem wd429 : Cond.selects RX5 yX5_hasSpiralOf yX5_hasSpiralOf ∈ BIG := big_in (List.mem_of_getElem? (i := 429) (by decide +kernel)) (by decide +kernel)
theorem wd430 : Cond.code yX5_hasSpiralOf cX5_hasSpiralOf 2 (some .boolean) ∈ BIG := big_in (List.mem_of_getElem? (i := 430) (by decide +kernel)) (by decide +kernel)
theorem wd431 : Cond.methodLink RX7 42 yX4_isLike ∈ BIG := big_in (List.mem_of_getElem? (i := 431) (by decide +kernel)) (by decide +kernel)
theorem wd432 : Cond.instanceMethod yX4_isLike ∈ BIG := big_in (List.mem_of_getElem? (i := 432) (by decide +kernel)) (by decide +kernel)
theorem wd433 : Cond.selects RX4 yX4_isLike yX4_isLike ∈ BIG := big_in (List.mem_of_getElem? (i := 433) (by decide +kernel)) (by decide +kernel)
theorem wd434 : Cond.code yX4_isLike cX4_isLike 4 (some .boolean) ∈ BIG := big_in (List.mem_of_getElem? (i := 434) (by decide +kernel)) (by decide +kernel)
theorem wd435 : Cond.methodLinkNest RX4 27 yX10_at "LineDisc" ∈ lw_tbl := List.mem_of_getElem? (i := 435) (by decide +kernel)
theorem wd436 : Cond.methodLink RX7 46 yX5_copyFrom ∈ BIG := big_in (List.mem_of_getElem? (i := 436) (by decide +kernel)) (by decide +kernel)
theorem wd437 : Cond.methodLink RX7 50 yX4_copyFrom ∈ BIG := big_in (List.mem_of_getElem? (i := 437) (by decide +kernel)) (by decide +kernel)
theorem wd438 : Cond.methodLink RX7 53 yJ7_fill_53178 ∈ BIG := big_in (List.mem_of_getElem? (i := 438) (by decide +kernel)) (by decide +kernel)
theorem wd439 : Cond.static yJ7_fill_53178 ∈ BIG := big_in (List.mem_of_getElem? (i := 439) (by decide +kernel)) (by decide +kernel)
theorem wd440 : Cond.code yJ7_fill_53178 cJ7_fill_53178 4 none ∈ BIG := big_in (List.mem_of_getElem? (i := 440) (by decide +kernel)) (by decide +kernel)
theorem wd441 : Cond.methodLink RX7 63 yX7_markScratch ∈ BIG := big_in (List.mem_of_getElem? (i := 441) (by decide +kernel)) (by decide +kernel)
theorem wd443 : Cond.instanceMethod yX7_markScratch ∈ BIG := big_in (List.mem_of_getElem? (i := 443) (by decide +kernel)) (by decide +kernel)
theorem wd444 : Cond.code yX7_markScratch cX7_markScratch 8 none ∈ BIG := big_in (List.mem_of_getElem? (i := 444) (by decide +kernel)) (by decide +kernel)
theorem wd445 : Cond.methodLink RX7 70 yX4_fromOf ∈ BIG := big_in (List.mem_of_getElem? (i := 445) (by decide +kernel)) (by decide +kernel)
theorem wd446 : Cond.instanceMethod yX4_fromOf ∈ BIG := big_in (List.mem_of_getElem? (i := 446) (by decide +kernel)) (by decide +kernel)
theorem wd447 : Cond.selects RX4 yX4_fromOf yX4_fromOf ∈ BIG := big_in (List.mem_of_getElem? (i := 447) (by decide +kernel)) (by decide +kernel)
theorem wd448 : Cond.code yX4_fromOf cX4_fromOf 2 (some .int) ∈ BIG := big_in (List.mem_of_getElem? (i := 448) (by decide +kernel)) (by decide +kernel)
theorem wd449 : Cond.methodLink RX7 74 yX4_toOf ∈ BIG := big_in (List.mem_of_getElem? (i := 449) (by decide +kernel)) (by decide +kernel)
theorem wd450 : Cond.instanceMethod yX4_toOf ∈ BIG := big_in (List.mem_of_getElem? (i := 450) (by decide +kernel)) (by decide +kernel)
theorem wd451 : Cond.selects RX4 yX4_toOf yX4_toOf ∈ BIG := big_in (List.mem_of_getElem? (i := 451) (by decide +kernel)) (by decide +kernel)
theorem wd452 : Cond.code yX4_toOf cX4_toOf 2 (some .int) ∈ BIG := big_in (List.mem_of_getElem? (i := 452) (by decide +kernel)) (by decide +kernel)
theorem wd453 : Cond.methodLink RX7 77 yX4_outerOf ∈ BIG := big_in (List.mem_of_getElem? (i := 453) (by decide +kernel)) (by decide +kernel)
theorem wd454 : Cond.instanceMethod yX4_outerOf ∈ BIG := big_in (List.mem_of_getElem? (i := 454) (by decide +kernel)) (by decide +kernel)
theorem wd455 : Cond.selects RX4 yX4_outerOf yX4_outerOf ∈ BIG := big_in (List.mem_of_getElem? (i := 455) (by decide +kernel)) (by decide +kernel)
theorem wd456 : Cond.code yX4_outerOf cX4_outerOf 2 (some .int) ∈ BIG := big_in (List.mem_of_getElem? (i := 456) (by decide +kernel)) (by decide +kernel)
theorem wd457 : Cond.methodLink RX7 80 Lib.Math.min.name ∈ BIG := big_in (List.mem_of_getElem? (i := 457) (by decide +kernel)) (by decide +kernel)
theorem wd458 : Cond.static Lib.Math.min.name ∈ BIG := big_in (List.mem_of_getElem? (i := 458) (by decide +kernel)) (by decide +kernel)
theorem wd459 : Cond.code Lib.Math.min.name Lib.Math.min.code 2 (some .int) ∈ BIG := big_in (List.mem_of_getElem? (i := 459) (by decide +kernel)) (by decide +kernel)
theorem wd460 : Cond.methodLink RX7 86 yX4_innerOf ∈ BIG := big_in (List.mem_of_getElem? (i := 460) (by decide +kernel)) (by decide +kernel)
theorem wd461 : Cond.instanceMethod yX4_innerOf ∈ BIG := big_in (List.mem_of_getElem? (i := 461) (by decide +kernel)) (by decide +kernel)
theorem wd462 : Cond.selects RX4 yX4_innerOf yX4_innerOf ∈ BIG := big_in (List.mem_of_getElem? (i := 462) (by decide +kernel)) (by decide +kernel)
theorem wd463 : Cond.code yX4_innerOf cX4_innerOf 2 (some .int) ∈ BIG := big_in (List.mem_of_getElem? (i := 463) (by decide +kernel)) (by decide +kernel)
theorem wd464 : Cond.methodLink RX7 89 Lib.Math.max.name ∈ BIG := big_in (List.mem_of_getElem? (i := 464) (by decide +kernel)) (by decide +kernel)
theorem wd465 : Cond.static Lib.Math.max.name ∈ BIG := big_in (List.mem_of_getElem? (i := 465) (by decide +kernel)) (by decide +kernel)
theorem wd466 : Cond.code Lib.Math.max.name Lib.Math.max.code 2 (some .int) ∈ BIG := big_in (List.mem_of_getElem? (i := 466) (by decide +kernel)) (by decide +kernel)
theorem wd467 : Cond.methodLink RX7 92 yX5_framesOf ∈ BIG := big_in (List.mem_of_getElem? (i := 467) (by decide +kernel)) (by decide +kernel)
theorem wd468 : Cond.instanceMethod yX5_framesOf ∈ BIG := big_in (List.mem_of_getElem? (i := 468) (by decide +kernel)) (by decide +kernel)
theorem wd469 : Cond.selects RX5 yX5_framesOf yX5_framesOf ∈ BIG := big_in (List.mem_of_getElem? (i := 469) (by decide +kernel)) (by decide +kernel)
theorem wd470 : Cond.code yX5_framesOf cX5_framesOf 2 (some .int) ∈ BIG := big_in (List.mem_of_getElem? (i := 470) (by decide +kernel)) (by decide +kernel)
theorem wd471 : Cond.methodLink RX7 95 yX5_firstOf ∈ BIG := big_in (List.mem_of_getElem? (i := 471) (by decide +kernel)) (by decide +kernel)
theorem wd472 : Cond.methodLink RX7 98 yX7_markRow ∈ BIG := big_in (List.mem_of_getElem? (i := 472) (by decide +kernel)) (by decide +kernel)
theorem wd474 : Cond.instanceMethod yX7_markRow ∈ BIG := big_in (List.mem_of_getElem? (i := 474) (by decide +kernel)) (by decide +kernel)
theorem wd475 : Cond.code yX7_markRow cX7_markRow 5 none ∈ BIG := big_in (List.mem_of_getElem? (i := 475) (by decide +kernel)) (by decide +kernel)
theorem wd476 : Cond.methodLink RX7 67 yX7_judge ∈ BIG := big_in (List.mem_of_getElem? (i := 476) (by decide +kernel)) (by decide +kernel)
theorem wd477 : Cond.instanceMethod yX7_judge ∈ BIG := big_in (List.mem_of_getElem? (i := 477) (by decide +kernel)) (by decide +kernel)
theorem wd478 : Cond.selects RX7 yX7_judge yX7_judge ∈ BIG := big_in (List.mem_of_getElem? (i := 478) (by decide +kernel)) (by decide +kernel)
theorem wd479 : Cond.code yX7_judge cX7_judge 4 none ∈ BIG := big_in (List.mem_of_getElem? (i := 479) (by decide +kernel)) (by decide +kernel)
theorem wd480 : Cond.methodLink RX7 102 yX5_allFrames ∈ BIG := big_in (List.mem_of_getElem? (i := 480) (by decide +kernel)) (by decide +kernel)
theorem wd481 : Cond.methodLink RX7 106 yX7_judgeGroup ∈ BIG := big_in (List.mem_of_getElem? (i := 481) (by decide +kernel)) (by decide +kernel)
theorem wd483 : Cond.instanceMethod yX7_judgeGroup ∈ BIG := big_in (List.mem_of_getElem? (i := 483) (by decide +kernel)) (by decide +kernel)
theorem wd484 : Cond.code yX7_judgeGroup cX7_judgeGroup 7 none ∈ BIG := big_in (List.mem_of_getElem? (i := 484) (by decide +kernel)) (by decide +kernel)
theorem wd485 : Cond.methodLink RX7 121 yX7_damagedIn ∈ BIG := big_in (List.mem_of_getElem? (i := 485) (by decide +kernel)) (by decide +kernel)
theorem wd486 : Cond.instanceMethod yX7_damagedIn ∈ BIG := big_in (List.mem_of_getElem? (i := 486) (by decide +kernel)) (by decide +kernel)
theorem wd487 : Cond.selects RX7 yX7_damagedIn yX7_damagedIn ∈ BIG := big_in (List.mem_of_getElem? (i := 487) (by decide +kernel)) (by decide +kernel)
theorem wd488 : Cond.code yX7_damagedIn cX7_damagedIn 6 (some .int) ∈ BIG := big_in (List.mem_of_getElem? (i := 488) (by decide +kernel)) (by decide +kernel)
theorem wd489 : Cond.methodLinkNest RX7 109 yX10_at "LineDisc" ∈ lw_tbl := List.mem_of_getElem? (i := 489) (by decide +kernel)
theorem wd490 : Cond.methodLinkNest RX7 117 yX10_put "LineDisc" ∈ lw_tbl := List.mem_of_getElem? (i := 490) (by decide +kernel)
theorem wd491 : Cond.methodLink RX7 113 yX7_canBeFilled ∈ BIG := big_in (List.mem_of_getElem? (i := 491) (by decide +kernel)) (by decide +kernel)
theorem wd493 : Cond.instanceMethod yX7_canBeFilled ∈ BIG := big_in (List.mem_of_getElem? (i := 493) (by decide +kernel)) (by decide +kernel)
theorem wd494 : Cond.code yX7_canBeFilled cX7_canBeFilled 5 (some .boolean) ∈ BIG := big_in (List.mem_of_getElem? (i := 494) (by decide +kernel)) (by decide +kernel)
theorem wd495 : Cond.methodLink RX7 125 yX5_dataAhead ∈ BIG := big_in (List.mem_of_getElem? (i := 495) (by decide +kernel)) (by decide +kernel)
theorem wd496 : Cond.static yX5_dataAhead ∈ BIG := big_in (List.mem_of_getElem? (i := 496) (by decide +kernel)) (by decide +kernel)
theorem wd497 : Cond.code yX5_dataAhead cX5_dataAhead 1 (some .int) ∈ BIG := big_in (List.mem_of_getElem? (i := 497) (by decide +kernel)) (by decide +kernel)
theorem wd498 : Cond.methodLink RX7 128 yX5_dataBehind ∈ BIG := big_in (List.mem_of_getElem? (i := 498) (by decide +kernel)) (by decide +kernel)
theorem wd499 : Cond.static yX5_dataBehind ∈ BIG := big_in (List.mem_of_getElem? (i := 499) (by decide +kernel)) (by decide +kernel)
theorem wd500 : Cond.code yX5_dataBehind cX5_dataBehind 1 (some .int) ∈ BIG := big_in (List.mem_of_getElem? (i := 500) (by decide +kernel)) (by decide +kernel)
theorem wd501 : Cond.methodLink RX7 131 yX5_isCheck ∈ BIG := big_in (List.mem_of_getElem? (i := 501) (by decide +kernel)) (by decide +kernel)
theorem wd502 : Cond.methodLink RX10 186 yX7_damagedIn ∈ BIG := big_in (List.mem_of_getElem? (i := 502) (by decide +kernel)) (by decide +kernel)
theorem wd507 : Cond.methodLink RX10 70 yX10_polishAway ∈ BIG := big_in (List.mem_of_getElem? (i := 507) (by decide +kernel)) (by decide +kernel)
theorem wd509 : Cond.instanceMethod yX10_polishAway ∈ BIG := big_in (List.mem_of_getElem? (i := 509) (by decide +kernel)) (by decide +kernel)
theorem wd510 : Cond.code yX10_polishAway cX10_polishAway 2 (some .int) ∈ BIG := big_in (List.mem_of_getElem? (i := 510) (by decide +kernel)) (by decide +kernel)
theorem wd511 : Cond.methodLink RX10 196 yX4_has ∈ BIG := big_in (List.mem_of_getElem? (i := 511) (by decide +kernel)) (by decide +kernel)
theorem wd512 : Cond.instanceMethod yX4_has ∈ BIG := big_in (List.mem_of_getElem? (i := 512) (by decide +kernel)) (by decide +kernel)
theorem wd513 : Cond.selects RX4 yX4_has yX4_has ∈ BIG := big_in (List.mem_of_getElem? (i := 513) (by decide +kernel)) (by decide +kernel)
theorem wd514 : Cond.code yX4_has cX4_has 2 (some .boolean) ∈ BIG := big_in (List.mem_of_getElem? (i := 514) (by decide +kernel)) (by decide +kernel)
theorem wd515 : Cond.methodLink RX10 266 yX4_drop ∈ BIG := big_in (List.mem_of_getElem? (i := 515) (by decide +kernel)) (by decide +kernel)
theorem wd516 : Cond.instanceMethod yX4_drop ∈ BIG := big_in (List.mem_of_getElem? (i := 516) (by decide +kernel)) (by decide +kernel)
theorem wd517 : Cond.selects RX4 yX4_drop yX4_drop ∈ BIG := big_in (List.mem_of_getElem? (i := 517) (by decide +kernel)) (by decide +kernel)
theorem wd518 : Cond.code yX4_drop cX4_drop 3 none ∈ BIG := big_in (List.mem_of_getElem? (i := 518) (by decide +kernel)) (by decide +kernel)
theorem wd519 : Cond.methodLink RX4 23 yX4_has ∈ BIG := big_in (List.mem_of_getElem? (i := 519) (by decide +kernel)) (by decide +kernel)
theorem wd524 : Cond.methodLink RX10 73 yX5_isInRange ∈ BIG := big_in (List.mem_of_getElem? (i := 524) (by decide +kernel)) (by decide +kernel)
theorem wd525 : Cond.static yX5_isInRange ∈ BIG := big_in (List.mem_of_getElem? (i := 525) (by decide +kernel)) (by decide +kernel)
theorem wd526 : Cond.code yX5_isInRange cX5_isInRange 2 (some .boolean) ∈ BIG := big_in (List.mem_of_getElem? (i := 526) (by decide +kernel)) (by decide +kernel)
theorem wd527 : Cond.methodLink RX10 83 yX5_settingAt ∈ BIG := big_in (List.mem_of_getElem? (i := 527) (by decide +kernel)) (by decide +kernel)
theorem wd528 : Cond.instanceMethod yX5_settingAt ∈ BIG := big_in (List.mem_of_getElem? (i := 528) (by decide +kernel)) (by decide +kernel)
theorem wd529 : Cond.selects RX5 yX5_settingAt yX5_settingAt ∈ BIG := big_in (List.mem_of_getElem? (i := 529) (by decide +kernel)) (by decide +kernel)
theorem wd530 : Cond.code yX5_settingAt cX5_settingAt 2 (some .int) ∈ BIG := big_in (List.mem_of_getElem? (i := 530) (by decide +kernel)) (by decide +kernel)
theorem wd531 : Cond.methodLink RX10 86 yX5_change ∈ BIG := big_in (List.mem_of_getElem? (i := 531) (by decide +kernel)) (by decide +kernel)
theorem wd532 : Cond.instanceMethod yX5_change ∈ BIG := big_in (List.mem_of_getElem? (i := 532) (by decide +kernel)) (by decide +kernel)
theorem wd533 : Cond.selects RX5 yX5_change yX5_change ∈ BIG := big_in (List.mem_of_getElem? (i := 533) (by decide +kernel)) (by decide +kernel)
theorem wd534 : Cond.code yX5_change cX5_change 3 none ∈ BIG := big_in (List.mem_of_getElem? (i := 534) (by decide +kernel)) (by decide +kernel)
theorem wd535 : Cond.methodLink RX10 93 yX1_goToStart ∈ BIG := big_in (List.mem_of_getElem? (i := 535) (by decide +kernel)) (by decide +kernel)
theorem wd536 : Cond.instanceMethod yX1_goToStart ∈ BIG := big_in (List.mem_of_getElem? (i := 536) (by decide +kernel)) (by decide +kernel)
theorem wd537 : Cond.selects RX1 yX1_goToStart yX1_goToStart ∈ BIG := big_in (List.mem_of_getElem? (i := 537) (by decide +kernel)) (by decide +kernel)
theorem wd538 : Cond.code yX1_goToStart cX1_goToStart 2 none ∈ BIG := big_in (List.mem_of_getElem? (i := 538) (by decide +kernel)) (by decide +kernel)
theorem wd539 : Cond.methodLink RX1 30 yX5_framesOf ∈ BIG := big_in (List.mem_of_getElem? (i := 539) (by decide +kernel)) (by decide +kernel)
theorem wd544 : Cond.methodLink RX10 97 yX10_playFrames ∈ BIG := big_in (List.mem_of_getElem? (i := 544) (by decide +kernel)) (by decide +kernel)
theorem wd546 : Cond.instanceMethod yX10_playFrames ∈ BIG := big_in (List.mem_of_getElem? (i := 546) (by decide +kernel)) (by decide +kernel)
theorem wd547 : Cond.code yX10_playFrames cX10_playFrames 2 (some .int) ∈ BIG := big_in (List.mem_of_getElem? (i := 547) (by decide +kernel)) (by decide +kernel)
theorem wd548 : Cond.methodLink RX10 213 yX5_allFrames ∈ BIG := big_in (List.mem_of_getElem? (i := 548) (by decide +kernel)) (by decide +kernel)
theorem wd549 : Cond.methodLink RX10 269 yX1_readFrames ∈ BIG := big_in (List.mem_of_getElem? (i := 549) (by decide +kernel)) (by decide +kernel)
theorem wd550 : Cond.instanceMethod yX1_readFrames ∈ BIG := big_in (List.mem_of_getElem? (i := 550) (by decide +kernel)) (by decide +kernel)
theorem wd551 : Cond.selects RX1 yX1_readFrames yX1_readFrames ∈ BIG := big_in (List.mem_of_getElem? (i := 551) (by decide +kernel)) (by decide +kernel)
theorem wd552 : Cond.code yX1_readFrames cX1_readFrames 9 (some .int) ∈ BIG := big_in (List.mem_of_getElem? (i := 552) (by decide +kernel)) (by decide +kernel)
theorem wd553 : Cond.methodLink RX1 54 yX5_allFrames ∈ BIG := big_in (List.mem_of_getElem? (i := 553) (by decide +kernel)) (by decide +kernel)
theorem wd554 : Cond.constant RX1 58 (100000 : Int32) ∈ BIG := big_in (List.mem_of_getElem? (i := 554) (by decide +kernel)) (by decide +kernel)
theorem wd555 : Cond.methodLink RX1 59 yX5_turnOf ∈ BIG := big_in (List.mem_of_getElem? (i := 555) (by decide +kernel)) (by decide +kernel)
theorem wd556 : Cond.instanceMethod yX5_turnOf ∈ BIG := big_in (List.mem_of_getElem? (i := 556) (by decide +kernel)) (by decide +kernel)
theorem wd557 : Cond.selects RX5 yX5_turnOf yX5_turnOf ∈ BIG := big_in (List.mem_of_getElem? (i := 557) (by decide +kernel)) (by decide +kernel)
theorem wd558 : Cond.code yX5_turnOf cX5_turnOf 3 (some .int) ∈ BIG := big_in (List.mem_of_getElem? (i := 558) (by decide +kernel)) (by decide +kernel)
theorem wd559 : Cond.methodLink RX1 62 yX1_spin ∈ BIG := big_in (List.mem_of_getElem? (i := 559) (by decide +kernel)) (by decide +kernel)
theorem wd561 : Cond.instanceMethod yX1_spin ∈ BIG := big_in (List.mem_of_getElem? (i := 561) (by decide +kernel)) (by decide +kernel)
theorem wd562 : Cond.code yX1_spin cX1_spin 5 none ∈ BIG := big_in (List.mem_of_getElem? (i := 562) (by decide +kernel)) (by decide +kernel)
theorem wd563 : Cond.methodLink RX1 39 Lib.Math.min.name ∈ BIG := big_in (List.mem_of_getElem? (i := 563) (by decide +kernel)) (by decide +kernel)
theorem wd564 : Cond.methodLink RX1 45 Lib.Math.max.name ∈ BIG := big_in (List.mem_of_getElem? (i := 564) (by decide +kernel)) (by decide +kernel)
theorem wd565 : Cond.methodLink RX1 66 yX1_isNear ∈ BIG := big_in (List.mem_of_getElem? (i := 565) (by decide +kernel)) (by decide +kernel)
theorem wd567 : Cond.instanceMethod yX1_isNear ∈ BIG := big_in (List.mem_of_getElem? (i := 567) (by decide +kernel)) (by decide +kernel)
theorem wd568 : Cond.code yX1_isNear cX1_isNear 3 (some .boolean) ∈ BIG := big_in (List.mem_of_getElem? (i := 568) (by decide +kernel)) (by decide +kernel)
theorem wd569 : Cond.methodLink RX1 48 Lib.Math.abs.name ∈ BIG := big_in (List.mem_of_getElem? (i := 569) (by decide +kernel)) (by decide +kernel)
theorem wd570 : Cond.static Lib.Math.abs.name ∈ BIG := big_in (List.mem_of_getElem? (i := 570) (by decide +kernel)) (by decide +kernel)
theorem wd571 : Cond.code Lib.Math.abs.name Lib.Math.abs.code 1 (some .int) ∈ BIG := big_in (List.mem_of_getElem? (i := 571) (by decide +kernel)) (by decide +kernel)
theorem wd572 : Cond.methodLink RX1 70 yX7_isDamaged ∈ BIG := big_in (List.mem_of_getElem? (i := 572) (by decide +kernel)) (by decide +kernel)
theorem wd573 : Cond.instanceMethod yX7_isDamaged ∈ BIG := big_in (List.mem_of_getElem? (i := 573) (by decide +kernel)) (by decide +kernel)
theorem wd574 : Cond.selects RX7 yX7_isDamaged yX7_isDamaged ∈ BIG := big_in (List.mem_of_getElem? (i := 574) (by decide +kernel)) (by decide +kernel)
theorem wd575 : Cond.code yX7_isDamaged cX7_isDamaged 2 (some .boolean) ∈ BIG := big_in (List.mem_of_getElem? (i := 575) (by decide +kernel)) (by decide +kernel)
theorem wd580 : Cond.methodLink RX10 100 yX10_seekFrame ∈ BIG := big_in (List.mem_of_getElem? (i := 580) (by decide +kernel)) (by decide +kernel)
theorem wd582 : Cond.instanceMethod yX10_seekFrame ∈ BIG := big_in (List.mem_of_getElem? (i := 582) (by decide +kernel)) (by decide +kernel)
theorem wd583 : Cond.code yX10_seekFrame cX10_seekFrame 3 (some .int) ∈ BIG := big_in (List.mem_of_getElem? (i := 583) (by decide +kernel)) (by decide +kernel)
theorem wd584 : Cond.methodLink RX10 273 yX1_goTo ∈ BIG := big_in (List.mem_of_getElem? (i := 584) (by decide +kernel)) (by decide +kernel)
theorem wd585 : Cond.instanceMethod yX1_goTo ∈ BIG := big_in (List.mem_of_getElem? (i := 585) (by decide +kernel)) (by decide +kernel)
theorem wd586 : Cond.selects RX1 yX1_goTo yX1_goTo ∈ BIG := big_in (List.mem_of_getElem? (i := 586) (by decide +kernel)) (by decide +kernel)
theorem wd587 : Cond.code yX1_goTo cX1_goTo 8 none ∈ BIG := big_in (List.mem_of_getElem? (i := 587) (by decide +kernel)) (by decide +kernel)
theorem wd588 : Cond.methodLink RX1 76 yX1_jump ∈ BIG := big_in (List.mem_of_getElem? (i := 588) (by decide +kernel)) (by decide +kernel)
theorem wd590 : Cond.instanceMethod yX1_jump ∈ BIG := big_in (List.mem_of_getElem? (i := 590) (by decide +kernel)) (by decide +kernel)
theorem wd591 : Cond.code yX1_jump cX1_jump 9 (some .int) ∈ BIG := big_in (List.mem_of_getElem? (i := 591) (by decide +kernel)) (by decide +kernel)
theorem wd592 : Cond.methodLink RX1 80 yX5_firstOf ∈ BIG := big_in (List.mem_of_getElem? (i := 592) (by decide +kernel)) (by decide +kernel)
theorem wd597 : Cond.methodLink RX10 103 yX3_append ∈ BIG := big_in (List.mem_of_getElem? (i := 597) (by decide +kernel)) (by decide +kernel)
theorem wd598 : Cond.instanceMethod yX3_append ∈ BIG := big_in (List.mem_of_getElem? (i := 598) (by decide +kernel)) (by decide +kernel)
theorem wd599 : Cond.selects RX3 yX3_append yX3_append ∈ BIG := big_in (List.mem_of_getElem? (i := 599) (by decide +kernel)) (by decide +kernel)
theorem wd600 : Cond.code yX3_append cX3_append 2 (some .boolean) ∈ BIG := big_in (List.mem_of_getElem? (i := 600) (by decide +kernel)) (by decide +kernel)
theorem wd605 : Cond.methodLink RX10 111 yX3_clear ∈ BIG := big_in (List.mem_of_getElem? (i := 605) (by decide +kernel)) (by decide +kernel)
theorem wd606 : Cond.instanceMethod yX3_clear ∈ BIG := big_in (List.mem_of_getElem? (i := 606) (by decide +kernel)) (by decide +kernel)
theorem wd607 : Cond.selects RX3 yX3_clear yX3_clear ∈ BIG := big_in (List.mem_of_getElem? (i := 607) (by decide +kernel)) (by decide +kernel)
theorem wd608 : Cond.code yX3_clear cX3_clear 2 (some .int) ∈ BIG := big_in (List.mem_of_getElem? (i := 608) (by decide +kernel)) (by decide +kernel)
theorem wd613 : Cond.methodLink RX10 115 yX3_readAll ∈ BIG := big_in (List.mem_of_getElem? (i := 613) (by decide +kernel)) (by decide +kernel)
theorem wd614 : Cond.instanceMethod yX3_readAll ∈ BIG := big_in (List.mem_of_getElem? (i := 614) (by decide +kernel)) (by decide +kernel)
theorem wd615 : Cond.selects RX3 yX3_readAll yX3_readAll ∈ BIG := big_in (List.mem_of_getElem? (i := 615) (by decide +kernel)) (by decide +kernel)
theorem wd616 : Cond.code yX3_readAll cX3_readAll 2 (some .int) ∈ BIG := big_in (List.mem_of_getElem? (i := 616) (by decide +kernel)) (by decide +kernel)
theorem wd617 : Cond.methodLink RX3 39 yX3_readOrder ∈ BIG := big_in (List.mem_of_getElem? (i := 617) (by decide +kernel)) (by decide +kernel)
theorem wd619 : Cond.instanceMethod yX3_readOrder ∈ BIG := big_in (List.mem_of_getElem? (i := 619) (by decide +kernel)) (by decide +kernel)
theorem wd620 : Cond.code yX3_readOrder cX3_readOrder 6 (some .boolean) ∈ BIG := big_in (List.mem_of_getElem? (i := 620) (by decide +kernel)) (by decide +kernel)
theorem wd621 : Cond.methodLink RX3 47 yX3_readWord ∈ BIG := big_in (List.mem_of_getElem? (i := 621) (by decide +kernel)) (by decide +kernel)
theorem wd623 : Cond.instanceMethod yX3_readWord ∈ BIG := big_in (List.mem_of_getElem? (i := 623) (by decide +kernel)) (by decide +kernel)
theorem wd624 : Cond.code yX3_readWord cX3_readWord 7 (some (.object "LineDisc$Word")) ∈ BIG := big_in (List.mem_of_getElem? (i := 624) (by decide +kernel)) (by decide +kernel)
theorem wd625 : Cond.fieldLinkNest RX3 71 "LineDisc" "WORDS" "[LLineDisc$Word;" "LineDisc" ∈ lw_tbl := List.mem_of_getElem? (i := 625) (by decide +kernel)
theorem wd627 : Cond.methodLink RX3 77 yX3_sameAs ∈ BIG := big_in (List.mem_of_getElem? (i := 627) (by decide +kernel)) (by decide +kernel)
theorem wd629 : Cond.instanceMethod yX3_sameAs ∈ BIG := big_in (List.mem_of_getElem? (i := 629) (by decide +kernel)) (by decide +kernel)
theorem wd630 : Cond.code yX3_sameAs cX3_sameAs 3 (some .int) ∈ BIG := big_in (List.mem_of_getElem? (i := 630) (by decide +kernel)) (by decide +kernel)
theorem wd631 : Cond.methodLink RX3 55 yJ0_length_8abf5 ∈ BIG := big_in (List.mem_of_getElem? (i := 631) (by decide +kernel)) (by decide +kernel)
theorem wd641 : Cond.methodLink RX3 60 yJ0_charAt_5068e ∈ BIG := big_in (List.mem_of_getElem? (i := 641) (by decide +kernel)) (by decide +kernel)
theorem wd679 : Cond.methodLink RX3 87 yX3_hasSign ∈ BIG := big_in (List.mem_of_getElem? (i := 679) (by decide +kernel)) (by decide +kernel)
theorem wd681 : Cond.instanceMethod yX3_hasSign ∈ BIG := big_in (List.mem_of_getElem? (i := 681) (by decide +kernel)) (by decide +kernel)
theorem wd682 : Cond.code yX3_hasSign cX3_hasSign 3 (some .boolean) ∈ BIG := big_in (List.mem_of_getElem? (i := 682) (by decide +kernel)) (by decide +kernel)
theorem wd683 : Cond.methodLink RX3 81 Lib.Math.max.name ∈ BIG := big_in (List.mem_of_getElem? (i := 683) (by decide +kernel)) (by decide +kernel)
theorem wd684 : Cond.methodLink RX3 64 yX9_isKind ∈ BIG := big_in (List.mem_of_getElem? (i := 684) (by decide +kernel)) (by decide +kernel)
theorem wd685 : Cond.static yX9_isKind ∈ BIG := big_in (List.mem_of_getElem? (i := 685) (by decide +kernel)) (by decide +kernel)
theorem wd686 : Cond.code yX9_isKind cX9_isKind 1 (some .boolean) ∈ BIG := big_in (List.mem_of_getElem? (i := 686) (by decide +kernel)) (by decide +kernel)
theorem wd687 : Cond.methodLink RX3 67 yX3_readNumber ∈ BIG := big_in (List.mem_of_getElem? (i := 687) (by decide +kernel)) (by decide +kernel)
theorem wd689 : Cond.instanceMethod yX3_readNumber ∈ BIG := big_in (List.mem_of_getElem? (i := 689) (by decide +kernel)) (by decide +kernel)
theorem wd690 : Cond.code yX3_readNumber cX3_readNumber 6 (some .boolean) ∈ BIG := big_in (List.mem_of_getElem? (i := 690) (by decide +kernel)) (by decide +kernel)
theorem wd691 : Cond.methodLink RX3 91 yX3_longerBy ∈ BIG := big_in (List.mem_of_getElem? (i := 691) (by decide +kernel)) (by decide +kernel)
theorem wd693 : Cond.instanceMethod yX3_longerBy ∈ BIG := big_in (List.mem_of_getElem? (i := 693) (by decide +kernel)) (by decide +kernel)
theorem wd694 : Cond.code yX3_longerBy cX3_longerBy 7 (some .int) ∈ BIG := big_in (List.mem_of_getElem? (i := 694) (by decide +kernel)) (by decide +kernel)
theorem wd695 : Cond.methodLink RX3 99 yX9_lowest ∈ BIG := big_in (List.mem_of_getElem? (i := 695) (by decide +kernel)) (by decide +kernel)
theorem wd696 : Cond.static yX9_lowest ∈ BIG := big_in (List.mem_of_getElem? (i := 696) (by decide +kernel)) (by decide +kernel)
theorem wd697 : Cond.code yX9_lowest cX9_lowest 1 (some .int) ∈ BIG := big_in (List.mem_of_getElem? (i := 697) (by decide +kernel)) (by decide +kernel)
theorem wd698 : Cond.methodLink RX3 103 yX9_highest ∈ BIG := big_in (List.mem_of_getElem? (i := 698) (by decide +kernel)) (by decide +kernel)
theorem wd699 : Cond.static yX9_highest ∈ BIG := big_in (List.mem_of_getElem? (i := 699) (by decide +kernel)) (by decide +kernel)
theorem wd700 : Cond.code yX9_highest cX9_highest 1 (some .int) ∈ BIG := big_in (List.mem_of_getElem? (i := 700) (by decide +kernel)) (by decide +kernel)
theorem wd701 : Cond.methodLinkNest RX3 95 yX10_put "LineDisc" ∈ lw_tbl := List.mem_of_getElem? (i := 701) (by decide +kernel)
theorem wd702 : Cond.methodLink RX3 43 yX3_readSign ∈ BIG := big_in (List.mem_of_getElem? (i := 702) (by decide +kernel)) (by decide +kernel)
theorem wd704 : Cond.instanceMethod yX3_readSign ∈ BIG := big_in (List.mem_of_getElem? (i := 704) (by decide +kernel)) (by decide +kernel)
theorem wd705 : Cond.code yX3_readSign cX3_readSign 3 (some .boolean) ∈ BIG := big_in (List.mem_of_getElem? (i := 705) (by decide +kernel)) (by decide +kernel)
theorem wd710 : Cond.methodLink RX10 121 yX10_doOrder ∈ BIG := big_in (List.mem_of_getElem? (i := 710) (by decide +kernel)) (by decide +kernel)
theorem wd712 : Cond.instanceMethod yX10_doOrder ∈ BIG := big_in (List.mem_of_getElem? (i := 712) (by decide +kernel)) (by decide +kernel)
theorem wd713 : Cond.code yX10_doOrder cX10_doOrder 6 (some .int) ∈ BIG := big_in (List.mem_of_getElem? (i := 713) (by decide +kernel)) (by decide +kernel)
theorem wd714 : Cond.methodLink RX10 277 yX3_wordOf ∈ BIG := big_in (List.mem_of_getElem? (i := 714) (by decide +kernel)) (by decide +kernel)
theorem wd715 : Cond.instanceMethod yX3_wordOf ∈ BIG := big_in (List.mem_of_getElem? (i := 715) (by decide +kernel)) (by decide +kernel)
theorem wd716 : Cond.selects RX3 yX3_wordOf yX3_wordOf ∈ BIG := big_in (List.mem_of_getElem? (i := 716) (by decide +kernel)) (by decide +kernel)
theorem wd717 : Cond.code yX3_wordOf cX3_wordOf 2 (some (.object "LineDisc$Word")) ∈ BIG := big_in (List.mem_of_getElem? (i := 717) (by decide +kernel)) (by decide +kernel)
theorem wd718 : Cond.methodLink RX10 281 yX3_numberOf ∈ BIG := big_in (List.mem_of_getElem? (i := 718) (by decide +kernel)) (by decide +kernel)
theorem wd719 : Cond.instanceMethod yX3_numberOf ∈ BIG := big_in (List.mem_of_getElem? (i := 719) (by decide +kernel)) (by decide +kernel)
theorem wd720 : Cond.selects RX3 yX3_numberOf yX3_numberOf ∈ BIG := big_in (List.mem_of_getElem? (i := 720) (by decide +kernel)) (by decide +kernel)
theorem wd721 : Cond.code yX3_numberOf cX3_numberOf 3 (some .int) ∈ BIG := big_in (List.mem_of_getElem? (i := 721) (by decide +kernel)) (by decide +kernel)
theorem wd722 : Cond.methodLinkNest RX3 35 yX10_at "LineDisc" ∈ lw_tbl := List.mem_of_getElem? (i := 722) (by decide +kernel)
theorem wd723 : Cond.fieldLink RX10 284 "LineDisc$1" "$SwitchMap$LineDisc$Word" "[I" ∈ BIG := big_in (List.mem_of_getElem? (i := 723) (by decide +kernel)) (by decide +kernel)
theorem wd725 : Cond.methodLink RX10 290 ⟨"LineDisc$Word", "ordinal", "()I"⟩ ∈ BIG := big_in (List.mem_of_getElem? (i := 725) (by decide +kernel)) (by decide +kernel)
theorem wd735 : Cond.methodLink RX10 124 yX2_takeLatest ∈ BIG := big_in (List.mem_of_getElem? (i := 735) (by decide +kernel)) (by decide +kernel)
theorem wd736 : Cond.instanceMethod yX2_takeLatest ∈ BIG := big_in (List.mem_of_getElem? (i := 736) (by decide +kernel)) (by decide +kernel)
theorem wd737 : Cond.selects RX2 yX2_takeLatest yX2_takeLatest ∈ BIG := big_in (List.mem_of_getElem? (i := 737) (by decide +kernel)) (by decide +kernel)
theorem wd738 : Cond.code yX2_takeLatest cX2_takeLatest 3 (some .boolean) ∈ BIG := big_in (List.mem_of_getElem? (i := 738) (by decide +kernel)) (by decide +kernel)
theorem wd751 : Cond.methodLink RX10 136 yX5_turnOf ∈ BIG := big_in (List.mem_of_getElem? (i := 751) (by decide +kernel)) (by decide +kernel)
theorem wd752 : Cond.methodLink RX10 139 yX5_firstOf ∈ BIG := big_in (List.mem_of_getElem? (i := 752) (by decide +kernel)) (by decide +kernel)
theorem wd753 : Cond.methodLink RX10 142 yX5_groupOf ∈ BIG := big_in (List.mem_of_getElem? (i := 753) (by decide +kernel)) (by decide +kernel)
theorem wd754 : Cond.instanceMethod yX5_groupOf ∈ BIG := big_in (List.mem_of_getElem? (i := 754) (by decide +kernel)) (by decide +kernel)
theorem wd755 : Cond.selects RX5 yX5_groupOf yX5_groupOf ∈ BIG := big_in (List.mem_of_getElem? (i := 755) (by decide +kernel)) (by decide +kernel)
theorem wd756 : Cond.code yX5_groupOf cX5_groupOf 3 (some .int) ∈ BIG := big_in (List.mem_of_getElem? (i := 756) (by decide +kernel)) (by decide +kernel)
theorem wd757 : Cond.methodLink RX5 38 yX5_groups ∈ BIG := big_in (List.mem_of_getElem? (i := 757) (by decide +kernel)) (by decide +kernel)
theorem wd758 : Cond.instanceMethod yX5_groups ∈ BIG := big_in (List.mem_of_getElem? (i := 758) (by decide +kernel)) (by decide +kernel)
theorem wd759 : Cond.selects RX5 yX5_groups yX5_groups ∈ BIG := big_in (List.mem_of_getElem? (i := 759) (by decide +kernel)) (by decide +kernel)
theorem wd760 : Cond.code yX5_groups cX5_groups 1 (some .int) ∈ BIG := big_in (List.mem_of_getElem? (i := 760) (by decide +kernel)) (by decide +kernel)
theorem wd761 : Cond.methodLink RX10 152 yX7_isDamaged ∈ BIG := big_in (List.mem_of_getElem? (i := 761) (by decide +kernel)) (by decide +kernel)
theorem wd762 : Cond.methodLink RX10 155 yX7_howIs ∈ BIG := big_in (List.mem_of_getElem? (i := 762) (by decide +kernel)) (by decide +kernel)
theorem wd763 : Cond.instanceMethod yX7_howIs ∈ BIG := big_in (List.mem_of_getElem? (i := 763) (by decide +kernel)) (by decide +kernel)
theorem wd764 : Cond.selects RX7 yX7_howIs yX7_howIs ∈ BIG := big_in (List.mem_of_getElem? (i := 764) (by decide +kernel)) (by decide +kernel)
theorem wd765 : Cond.code yX7_howIs cX7_howIs 2 (some .int) ∈ BIG := big_in (List.mem_of_getElem? (i := 765) (by decide +kernel)) (by decide +kernel)
theorem wd766 : Cond.methodLink RX10 162 yX8_lengthOf ∈ BIG := big_in (List.mem_of_getElem? (i := 766) (by decide +kernel)) (by decide +kernel)
theorem wd767 : Cond.instanceMethod yX8_lengthOf ∈ BIG := big_in (List.mem_of_getElem? (i := 767) (by decide +kernel)) (by decide +kernel)
theorem wd768 : Cond.selects RX8 yX8_lengthOf yX8_lengthOf ∈ BIG := big_in (List.mem_of_getElem? (i := 768) (by decide +kernel)) (by decide +kernel)
theorem wd769 : Cond.code yX8_lengthOf cX8_lengthOf 5 (some .int) ∈ BIG := big_in (List.mem_of_getElem? (i := 769) (by decide +kernel)) (by decide +kernel)
theorem wd770 : Cond.methodLink RX8 57 yX8_standsAt ∈ BIG := big_in (List.mem_of_getElem? (i := 770) (by decide +kernel)) (by decide +kernel)
theorem wd771 : Cond.methodLink RX8 60 yX8_pitOf ∈ BIG := big_in (List.mem_of_getElem? (i := 771) (by decide +kernel)) (by decide +kernel)
theorem wd772 : Cond.static yX8_pitOf ∈ BIG := big_in (List.mem_of_getElem? (i := 772) (by decide +kernel)) (by decide +kernel)
theorem wd773 : Cond.code yX8_pitOf cX8_pitOf 1 (some .int) ∈ BIG := big_in (List.mem_of_getElem? (i := 773) (by decide +kernel)) (by decide +kernel)
theorem wd774 : Cond.methodLink RX8 63 yX8_flatOf ∈ BIG := big_in (List.mem_of_getElem? (i := 774) (by decide +kernel)) (by decide +kernel)
theorem wd775 : Cond.static yX8_flatOf ∈ BIG := big_in (List.mem_of_getElem? (i := 775) (by decide +kernel)) (by decide +kernel)
theorem wd776 : Cond.code yX8_flatOf cX8_flatOf 1 (some .int) ∈ BIG := big_in (List.mem_of_getElem? (i := 776) (by decide +kernel)) (by decide +kernel)
theorem wd777 : Cond.methodLink RX10 167 yX8_balanceOf ∈ BIG := big_in (List.mem_of_getElem? (i := 777) (by decide +kernel)) (by decide +kernel)
theorem wd778 : Cond.instanceMethod yX8_balanceOf ∈ BIG := big_in (List.mem_of_getElem? (i := 778) (by decide +kernel)) (by decide +kernel)
theorem wd779 : Cond.selects RX8 yX8_balanceOf yX8_balanceOf ∈ BIG := big_in (List.mem_of_getElem? (i := 779) (by decide +kernel)) (by decide +kernel)
theorem wd780 : Cond.code yX8_balanceOf cX8_balanceOf 5 (some .int) ∈ BIG := big_in (List.mem_of_getElem? (i := 780) (by decide +kernel)) (by decide +kernel)
theorem wd781 : Cond.methodLink RX10 170 yX8_longestRunOf ∈ BIG := big_in (List.mem_of_getElem? (i := 781) (by decide +kernel)) (by decide +kernel)
theorem wd782 : Cond.instanceMethod yX8_longestRunOf ∈ BIG := big_in (List.mem_of_getElem? (i := 782) (by decide +kernel)) (by decide +kernel)
theorem wd783 : Cond.selects RX8 yX8_longestRunOf yX8_longestRunOf ∈ BIG := big_in (List.mem_of_getElem? (i := 783) (by decide +kernel)) (by decide +kernel)
theorem wd784 : Cond.code yX8_longestRunOf cX8_longestRunOf 5 (some .int) ∈ BIG := big_in (List.mem_of_getElem? (i := 784) (by decide +kernel)) (by decide +kernel)
theorem wd785 : Cond.methodLink RX8 69 Lib.Math.max.name ∈ BIG := big_in (List.mem_of_getElem? (i := 785) (by decide +kernel)) (by decide +kernel)
theorem wd790 : Cond.methodLink RX10 176 yX10_toldSymbol ∈ BIG := big_in (List.mem_of_getElem? (i := 790) (by decide +kernel)) (by decide +kernel)
theorem wd792 : Cond.instanceMethod yX10_toldSymbol ∈ BIG := big_in (List.mem_of_getElem? (i := 792) (by decide +kernel)) (by decide +kernel)
theorem wd793 : Cond.code yX10_toldSymbol cX10_toldSymbol 4 (some .int) ∈ BIG := big_in (List.mem_of_getElem? (i := 793) (by decide +kernel)) (by decide +kernel)
theorem wd794 : Cond.methodLink RX10 300 yX10_filledSymbol ∈ BIG := big_in (List.mem_of_getElem? (i := 794) (by decide +kernel)) (by decide +kernel)
theorem wd796 : Cond.instanceMethod yX10_filledSymbol ∈ BIG := big_in (List.mem_of_getElem? (i := 796) (by decide +kernel)) (by decide +kernel)
theorem wd797 : Cond.code yX10_filledSymbol cX10_filledSymbol 5 (some .int) ∈ BIG := big_in (List.mem_of_getElem? (i := 797) (by decide +kernel)) (by decide +kernel)
theorem wd798 : Cond.methodLink RX10 303 yX5_dataAhead ∈ BIG := big_in (List.mem_of_getElem? (i := 798) (by decide +kernel)) (by decide +kernel)
theorem wd799 : Cond.methodLink RX10 306 yX5_dataBehind ∈ BIG := big_in (List.mem_of_getElem? (i := 799) (by decide +kernel)) (by decide +kernel)
theorem wd804 : Cond.methodLink RX10 183 yX5_framesOf ∈ BIG := big_in (List.mem_of_getElem? (i := 804) (by decide +kernel)) (by decide +kernel)
theorem wd805 : Cond.methodLink RX10 189 yX8_lengthOfAll ∈ BIG := big_in (List.mem_of_getElem? (i := 805) (by decide +kernel)) (by decide +kernel)
theorem wd806 : Cond.instanceMethod yX8_lengthOfAll ∈ BIG := big_in (List.mem_of_getElem? (i := 806) (by decide +kernel)) (by decide +kernel)
theorem wd807 : Cond.selects RX8 yX8_lengthOfAll yX8_lengthOfAll ∈ BIG := big_in (List.mem_of_getElem? (i := 807) (by decide +kernel)) (by decide +kernel)
theorem wd808 : Cond.code yX8_lengthOfAll cX8_lengthOfAll 5 (some .int) ∈ BIG := big_in (List.mem_of_getElem? (i := 808) (by decide +kernel)) (by decide +kernel)
theorem wd809 : Cond.methodLink RX8 66 yX8_lengthOf ∈ BIG := big_in (List.mem_of_getElem? (i := 809) (by decide +kernel)) (by decide +kernel)
theorem wd814 : Cond.methodLink RX10 201 yX4_fromOf ∈ BIG := big_in (List.mem_of_getElem? (i := 814) (by decide +kernel)) (by decide +kernel)
theorem wd815 : Cond.methodLink RX10 204 yX4_toOf ∈ BIG := big_in (List.mem_of_getElem? (i := 815) (by decide +kernel)) (by decide +kernel)
theorem wd816 : Cond.methodLink RX10 207 yX4_innerOf ∈ BIG := big_in (List.mem_of_getElem? (i := 816) (by decide +kernel)) (by decide +kernel)
theorem wd817 : Cond.methodLink RX10 210 yX4_outerOf ∈ BIG := big_in (List.mem_of_getElem? (i := 817) (by decide +kernel)) (by decide +kernel)
theorem wd822 : Cond.methodLink RX10 216 yX5_groups ∈ BIG := big_in (List.mem_of_getElem? (i := 822) (by decide +kernel)) (by decide +kernel)
theorem wd823 : Cond.methodLink RX10 235 yX7_framesThatAre ∈ BIG := big_in (List.mem_of_getElem? (i := 823) (by decide +kernel)) (by decide +kernel)
theorem wd824 : Cond.instanceMethod yX7_framesThatAre ∈ BIG := big_in (List.mem_of_getElem? (i := 824) (by decide +kernel)) (by decide +kernel)
theorem wd825 : Cond.selects RX7 yX7_framesThatAre yX7_framesThatAre ∈ BIG := big_in (List.mem_of_getElem? (i := 825) (by decide +kernel)) (by decide +kernel)
theorem wd826 : Cond.code yX7_framesThatAre cX7_framesThatAre 5 (some .int) ∈ BIG := big_in (List.mem_of_getElem? (i := 826) (by decide +kernel)) (by decide +kernel)
theorem wd827 : Cond.methodLink RX10 239 yX10_countSetting ∈ BIG := big_in (List.mem_of_getElem? (i := 827) (by decide +kernel)) (by decide +kernel)
theorem wd829 : Cond.instanceMethod yX10_countSetting ∈ BIG := big_in (List.mem_of_getElem? (i := 829) (by decide +kernel)) (by decide +kernel)
theorem wd830 : Cond.code yX10_countSetting cX10_countSetting 2 (some .int) ∈ BIG := big_in (List.mem_of_getElem? (i := 830) (by decide +kernel)) (by decide +kernel)
theorem wd831 : Cond.methodLink RX10 297 yX5_isSetting ∈ BIG := big_in (List.mem_of_getElem? (i := 831) (by decide +kernel)) (by decide +kernel)
theorem wd832 : Cond.static yX5_isSetting ∈ BIG := big_in (List.mem_of_getElem? (i := 832) (by decide +kernel)) (by decide +kernel)
theorem wd833 : Cond.code yX5_isSetting cX5_isSetting 1 (some .boolean) ∈ BIG := big_in (List.mem_of_getElem? (i := 833) (by decide +kernel)) (by decide +kernel)
theorem wd838 : Cond.methodLink RX10 242 yX10_isToldRight ∈ BIG := big_in (List.mem_of_getElem? (i := 838) (by decide +kernel)) (by decide +kernel)
theorem wd840 : Cond.instanceMethod yX10_isToldRight ∈ BIG := big_in (List.mem_of_getElem? (i := 840) (by decide +kernel)) (by decide +kernel)
theorem wd841 : Cond.code yX10_isToldRight cX10_isToldRight 5 (some .boolean) ∈ BIG := big_in (List.mem_of_getElem? (i := 841) (by decide +kernel)) (by decide +kernel)
theorem wd846 : Cond.methodLink RX10 248 yX10_trySeek ∈ BIG := big_in (List.mem_of_getElem? (i := 846) (by decide +kernel)) (by decide +kernel)
theorem wd848 : Cond.instanceMethod yX10_trySeek ∈ BIG := big_in (List.mem_of_getElem? (i := 848) (by decide +kernel)) (by decide +kernel)
theorem wd849 : Cond.code yX10_trySeek cX10_trySeek 3 (some .int) ∈ BIG := big_in (List.mem_of_getElem? (i := 849) (by decide +kernel)) (by decide +kernel)
theorem wd850 : Cond.methodLink RX10 309 yX1_copyFrom ∈ BIG := big_in (List.mem_of_getElem? (i := 850) (by decide +kernel)) (by decide +kernel)
theorem wd859 : Cond.methodLink RX10 251 yX7_missingWithout ∈ BIG := big_in (List.mem_of_getElem? (i := 859) (by decide +kernel)) (by decide +kernel)
theorem wd860 : Cond.instanceMethod yX7_missingWithout ∈ BIG := big_in (List.mem_of_getElem? (i := 860) (by decide +kernel)) (by decide +kernel)
theorem wd861 : Cond.selects RX7 yX7_missingWithout yX7_missingWithout ∈ BIG := big_in (List.mem_of_getElem? (i := 861) (by decide +kernel)) (by decide +kernel)
theorem wd862 : Cond.code yX7_missingWithout cX7_missingWithout 2 (some .int) ∈ BIG := big_in (List.mem_of_getElem? (i := 862) (by decide +kernel)) (by decide +kernel)
theorem wd863 : Cond.methodLink RX7 135 yX7_framesThatAre ∈ BIG := big_in (List.mem_of_getElem? (i := 863) (by decide +kernel)) (by decide +kernel)
theorem wd864 : Cond.methodLink RX10 254 yX7_judge ∈ BIG := big_in (List.mem_of_getElem? (i := 864) (by decide +kernel)) (by decide +kernel)
theorem wd875 : Cond.fieldLink RX11 7 "LineDiscModel" "s" "[I" ∈ BIG := big_in (List.mem_of_getElem? (i := 875) (by decide +kernel)) (by decide +kernel)
theorem wd876 : Cond.fieldLink RX11 13 "LineDiscModel" "aside" "[I" ∈ BIG := big_in (List.mem_of_getElem? (i := 876) (by decide +kernel)) (by decide +kernel)
theorem wd877 : Cond.fieldLink RX11 16 "LineDiscModel" "before" "[I" ∈ BIG := big_in (List.mem_of_getElem? (i := 877) (by decide +kernel)) (by decide +kernel)
theorem wd878 : Cond.fieldLink RX11 32 "LineDiscModel" "known" "I" ∈ BIG := big_in (List.mem_of_getElem? (i := 878) (by decide +kernel)) (by decide +kernel)
theorem wd879 : Cond.fieldLink RX11 19 "LineDiscModel" "kept" "[I" ∈ BIG := big_in (List.mem_of_getElem? (i := 879) (by decide +kernel)) (by decide +kernel)
theorem wd880 : Cond.fieldLink RX11 179 "LineDiscModel" "isKept" "Z" ∈ BIG := big_in (List.mem_of_getElem? (i := 880) (by decide +kernel)) (by decide +kernel)
theorem wd881 : Cond.fieldLink RX11 22 "LineDiscModel" "text" "[I" ∈ BIG := big_in (List.mem_of_getElem? (i := 881) (by decide +kernel)) (by decide +kernel)
theorem wd882 : Cond.fieldLink RX11 143 "LineDiscModel" "length" "I" ∈ BIG := big_in (List.mem_of_getElem? (i := 882) (by decide +kernel)) (by decide +kernel)
theorem wd883 : Cond.fieldLink RX11 25 "LineDiscModel" "isDamaged" "[Z" ∈ BIG := big_in (List.mem_of_getElem? (i := 883) (by decide +kernel)) (by decide +kernel)
theorem wd884 : Cond.fieldLink RX11 146 "LineDiscModel" "place" "I" ∈ BIG := big_in (List.mem_of_getElem? (i := 884) (by decide +kernel)) (by decide +kernel)
theorem wd885 : Cond.fieldLink RX11 149 "LineDiscModel" "isWrong" "Z" ∈ BIG := big_in (List.mem_of_getElem? (i := 885) (by decide +kernel)) (by decide +kernel)
theorem wd914 : Cond.methodLink RX11 111 yX11_putAside ∈ BIG := big_in (List.mem_of_getElem? (i := 914) (by decide +kernel)) (by decide +kernel)
theorem wd916 : Cond.instanceMethod yX11_putAside ∈ BIG := big_in (List.mem_of_getElem? (i := 916) (by decide +kernel)) (by decide +kernel)
theorem wd917 : Cond.code yX11_putAside cX11_putAside 2 none ∈ BIG := big_in (List.mem_of_getElem? (i := 917) (by decide +kernel)) (by decide +kernel)
theorem wd918 : Cond.methodLink RX11 114 yX11_presses ∈ BIG := big_in (List.mem_of_getElem? (i := 918) (by decide +kernel)) (by decide +kernel)
theorem wd920 : Cond.instanceMethod yX11_presses ∈ BIG := big_in (List.mem_of_getElem? (i := 920) (by decide +kernel)) (by decide +kernel)
theorem wd921 : Cond.code yX11_presses cX11_presses 7 (some .int) ∈ BIG := big_in (List.mem_of_getElem? (i := 921) (by decide +kernel)) (by decide +kernel)
theorem wd922 : Cond.methodLink RX11 102 yX11_isFrame ∈ BIG := big_in (List.mem_of_getElem? (i := 922) (by decide +kernel)) (by decide +kernel)
theorem wd924 : Cond.instanceMethod yX11_isFrame ∈ BIG := big_in (List.mem_of_getElem? (i := 924) (by decide +kernel)) (by decide +kernel)
theorem wd925 : Cond.code yX11_isFrame cX11_isFrame 2 (some .boolean) ∈ BIG := big_in (List.mem_of_getElem? (i := 925) (by decide +kernel)) (by decide +kernel)
theorem wd926 : Cond.methodLink RX11 40 yX11_frames ∈ BIG := big_in (List.mem_of_getElem? (i := 926) (by decide +kernel)) (by decide +kernel)
theorem wd928 : Cond.instanceMethod yX11_frames ∈ BIG := big_in (List.mem_of_getElem? (i := 928) (by decide +kernel)) (by decide +kernel)
theorem wd929 : Cond.code yX11_frames cX11_frames 1 (some .int) ∈ BIG := big_in (List.mem_of_getElem? (i := 929) (by decide +kernel)) (by decide +kernel)
theorem wd930 : Cond.methodLink RX11 36 yX11_start ∈ BIG := big_in (List.mem_of_getElem? (i := 930) (by decide +kernel)) (by decide +kernel)
theorem wd932 : Cond.instanceMethod yX11_start ∈ BIG := big_in (List.mem_of_getElem? (i := 932) (by decide +kernel)) (by decide +kernel)
theorem wd933 : Cond.code yX11_start cX11_start 2 (some .int) ∈ BIG := big_in (List.mem_of_getElem? (i := 933) (by decide +kernel)) (by decide +kernel)
theorem wd934 : Cond.methodLink RX11 44 yX11_in ∈ BIG := big_in (List.mem_of_getElem? (i := 934) (by decide +kernel)) (by decide +kernel)
theorem wd935 : Cond.static yX11_in ∈ BIG := big_in (List.mem_of_getElem? (i := 935) (by decide +kernel)) (by decide +kernel)
theorem wd936 : Cond.code yX11_in cX11_in 3 (some .boolean) ∈ BIG := big_in (List.mem_of_getElem? (i := 936) (by decide +kernel)) (by decide +kernel)
theorem wd937 : Cond.methodLink RX11 55 yX11_isCheck ∈ BIG := big_in (List.mem_of_getElem? (i := 937) (by decide +kernel)) (by decide +kernel)
theorem wd938 : Cond.static yX11_isCheck ∈ BIG := big_in (List.mem_of_getElem? (i := 938) (by decide +kernel)) (by decide +kernel)
theorem wd939 : Cond.code yX11_isCheck cX11_isCheck 1 (some .boolean) ∈ BIG := big_in (List.mem_of_getElem? (i := 939) (by decide +kernel)) (by decide +kernel)
theorem wd940 : Cond.methodLink RX11 59 yX11_dataSymbol ∈ BIG := big_in (List.mem_of_getElem? (i := 940) (by decide +kernel)) (by decide +kernel)
theorem wd942 : Cond.instanceMethod yX11_dataSymbol ∈ BIG := big_in (List.mem_of_getElem? (i := 942) (by decide +kernel)) (by decide +kernel)
theorem wd943 : Cond.code yX11_dataSymbol cX11_dataSymbol 4 (some .int) ∈ BIG := big_in (List.mem_of_getElem? (i := 943) (by decide +kernel)) (by decide +kernel)
theorem wd944 : Cond.methodLink RX11 48 yX11_findPressed ∈ BIG := big_in (List.mem_of_getElem? (i := 944) (by decide +kernel)) (by decide +kernel)
theorem wd946 : Cond.instanceMethod yX11_findPressed ∈ BIG := big_in (List.mem_of_getElem? (i := 946) (by decide +kernel)) (by decide +kernel)
theorem wd947 : Cond.code yX11_findPressed cX11_findPressed 4 (some .int) ∈ BIG := big_in (List.mem_of_getElem? (i := 947) (by decide +kernel)) (by decide +kernel)
theorem wd948 : Cond.methodLink RX11 52 yX11_atFirst ∈ BIG := big_in (List.mem_of_getElem? (i := 948) (by decide +kernel)) (by decide +kernel)
theorem wd949 : Cond.static yX11_atFirst ∈ BIG := big_in (List.mem_of_getElem? (i := 949) (by decide +kernel)) (by decide +kernel)
theorem wd950 : Cond.code yX11_atFirst cX11_atFirst 2 (some .int) ∈ BIG := big_in (List.mem_of_getElem? (i := 950) (by decide +kernel)) (by decide +kernel)
theorem wd951 : Cond.methodLink RX11 118 yX11_act ∈ BIG := big_in (List.mem_of_getElem? (i := 951) (by decide +kernel)) (by decide +kernel)
theorem wd953 : Cond.instanceMethod yX11_act ∈ BIG := big_in (List.mem_of_getElem? (i := 953) (by decide +kernel)) (by decide +kernel)
theorem wd954 : Cond.code yX11_act cX11_act 3 (some .int) ∈ BIG := big_in (List.mem_of_getElem? (i := 954) (by decide +kernel)) (by decide +kernel)
theorem wd955 : Cond.methodLink RX11 29 yX11_putBack ∈ BIG := big_in (List.mem_of_getElem? (i := 955) (by decide +kernel)) (by decide +kernel)
theorem wd957 : Cond.instanceMethod yX11_putBack ∈ BIG := big_in (List.mem_of_getElem? (i := 957) (by decide +kernel)) (by decide +kernel)
theorem wd958 : Cond.code yX11_putBack cX11_putBack 2 none ∈ BIG := big_in (List.mem_of_getElem? (i := 958) (by decide +kernel)) (by decide +kernel)
theorem wd963 : Cond.methodLink RX11 121 yX11_scratches ∈ BIG := big_in (List.mem_of_getElem? (i := 963) (by decide +kernel)) (by decide +kernel)
theorem wd965 : Cond.instanceMethod yX11_scratches ∈ BIG := big_in (List.mem_of_getElem? (i := 965) (by decide +kernel)) (by decide +kernel)
theorem wd966 : Cond.code yX11_scratches cX11_scratches 6 (some .int) ∈ BIG := big_in (List.mem_of_getElem? (i := 966) (by decide +kernel)) (by decide +kernel)
theorem wd967 : Cond.methodLink RX11 125 yX11_damaged ∈ BIG := big_in (List.mem_of_getElem? (i := 967) (by decide +kernel)) (by decide +kernel)
theorem wd969 : Cond.instanceMethod yX11_damaged ∈ BIG := big_in (List.mem_of_getElem? (i := 969) (by decide +kernel)) (by decide +kernel)
theorem wd970 : Cond.code yX11_damaged cX11_damaged 3 (some .int) ∈ BIG := big_in (List.mem_of_getElem? (i := 970) (by decide +kernel)) (by decide +kernel)
theorem wd971 : Cond.methodLink RX11 77 yX11_lay ∈ BIG := big_in (List.mem_of_getElem? (i := 971) (by decide +kernel)) (by decide +kernel)
theorem wd973 : Cond.instanceMethod yX11_lay ∈ BIG := big_in (List.mem_of_getElem? (i := 973) (by decide +kernel)) (by decide +kernel)
theorem wd974 : Cond.code yX11_lay cX11_lay 6 none ∈ BIG := big_in (List.mem_of_getElem? (i := 974) (by decide +kernel)) (by decide +kernel)
theorem wd975 : Cond.methodLink RX11 71 yX11_framesOf ∈ BIG := big_in (List.mem_of_getElem? (i := 975) (by decide +kernel)) (by decide +kernel)
theorem wd977 : Cond.instanceMethod yX11_framesOf ∈ BIG := big_in (List.mem_of_getElem? (i := 977) (by decide +kernel)) (by decide +kernel)
theorem wd978 : Cond.code yX11_framesOf cX11_framesOf 2 (some .int) ∈ BIG := big_in (List.mem_of_getElem? (i := 978) (by decide +kernel)) (by decide +kernel)
theorem wd979 : Cond.methodLink RX11 74 yX11_damages ∈ BIG := big_in (List.mem_of_getElem? (i := 979) (by decide +kernel)) (by decide +kernel)
theorem wd981 : Cond.instanceMethod yX11_damages ∈ BIG := big_in (List.mem_of_getElem? (i := 981) (by decide +kernel)) (by decide +kernel)
theorem wd982 : Cond.code yX11_damages cX11_damages 6 (some .boolean) ∈ BIG := big_in (List.mem_of_getElem? (i := 982) (by decide +kernel)) (by decide +kernel)
theorem wd987 : Cond.methodLink RX11 128 yX11_polishes ∈ BIG := big_in (List.mem_of_getElem? (i := 987) (by decide +kernel)) (by decide +kernel)
theorem wd989 : Cond.instanceMethod yX11_polishes ∈ BIG := big_in (List.mem_of_getElem? (i := 989) (by decide +kernel)) (by decide +kernel)
theorem wd990 : Cond.code yX11_polishes cX11_polishes 3 (some .int) ∈ BIG := big_in (List.mem_of_getElem? (i := 990) (by decide +kernel)) (by decide +kernel)
theorem wd995 : Cond.methodLink RX11 131 yX11_low ∈ BIG := big_in (List.mem_of_getElem? (i := 995) (by decide +kernel)) (by decide +kernel)
theorem wd996 : Cond.static yX11_low ∈ BIG := big_in (List.mem_of_getElem? (i := 996) (by decide +kernel)) (by decide +kernel)
theorem wd997 : Cond.code yX11_low cX11_low 1 (some .int) ∈ BIG := big_in (List.mem_of_getElem? (i := 997) (by decide +kernel)) (by decide +kernel)
theorem wd998 : Cond.methodLink RX11 134 yX11_high ∈ BIG := big_in (List.mem_of_getElem? (i := 998) (by decide +kernel)) (by decide +kernel)
theorem wd999 : Cond.static yX11_high ∈ BIG := big_in (List.mem_of_getElem? (i := 999) (by decide +kernel)) (by decide +kernel)
theorem wd1000 : Cond.code yX11_high cX11_high 1 (some .int) ∈ BIG := big_in (List.mem_of_getElem? (i := 1000) (by decide +kernel)) (by decide +kernel)
theorem wd1005 : Cond.methodLink RX11 137 yX11_plays ∈ BIG := big_in (List.mem_of_getElem? (i := 1005) (by decide +kernel)) (by decide +kernel)
theorem wd1007 : Cond.instanceMethod yX11_plays ∈ BIG := big_in (List.mem_of_getElem? (i := 1007) (by decide +kernel)) (by decide +kernel)
theorem wd1008 : Cond.code yX11_plays cX11_plays 5 (some .int) ∈ BIG := big_in (List.mem_of_getElem? (i := 1008) (by decide +kernel)) (by decide +kernel)
theorem wd1009 : Cond.methodLink RX11 96 yX11_turnOf ∈ BIG := big_in (List.mem_of_getElem? (i := 1009) (by decide +kernel)) (by decide +kernel)
theorem wd1011 : Cond.instanceMethod yX11_turnOf ∈ BIG := big_in (List.mem_of_getElem? (i := 1011) (by decide +kernel)) (by decide +kernel)
theorem wd1012 : Cond.code yX11_turnOf cX11_turnOf 3 (some .int) ∈ BIG := big_in (List.mem_of_getElem? (i := 1012) (by decide +kernel)) (by decide +kernel)
theorem wd1013 : Cond.methodLink RX11 99 yX11_tick ∈ BIG := big_in (List.mem_of_getElem? (i := 1013) (by decide +kernel)) (by decide +kernel)
theorem wd1015 : Cond.instanceMethod yX11_tick ∈ BIG := big_in (List.mem_of_getElem? (i := 1015) (by decide +kernel)) (by decide +kernel)
theorem wd1016 : Cond.code yX11_tick cX11_tick 3 none ∈ BIG := big_in (List.mem_of_getElem? (i := 1016) (by decide +kernel)) (by decide +kernel)
theorem wd1017 : Cond.methodLink RX11 108 yX11_isNear ∈ BIG := big_in (List.mem_of_getElem? (i := 1017) (by decide +kernel)) (by decide +kernel)
theorem wd1019 : Cond.instanceMethod yX11_isNear ∈ BIG := big_in (List.mem_of_getElem? (i := 1019) (by decide +kernel)) (by decide +kernel)
theorem wd1020 : Cond.code yX11_isNear cX11_isNear 2 (some .boolean) ∈ BIG := big_in (List.mem_of_getElem? (i := 1020) (by decide +kernel)) (by decide +kernel)
theorem wd1021 : Cond.methodLink RX11 93 yX11_size ∈ BIG := big_in (List.mem_of_getElem? (i := 1021) (by decide +kernel)) (by decide +kernel)
theorem wd1022 : Cond.static yX11_size ∈ BIG := big_in (List.mem_of_getElem? (i := 1022) (by decide +kernel)) (by decide +kernel)
theorem wd1023 : Cond.code yX11_size cX11_size 1 (some .int) ∈ BIG := big_in (List.mem_of_getElem? (i := 1023) (by decide +kernel)) (by decide +kernel)
theorem wd1028 : Cond.methodLink RX11 140 yX11_seeks ∈ BIG := big_in (List.mem_of_getElem? (i := 1028) (by decide +kernel)) (by decide +kernel)
theorem wd1030 : Cond.instanceMethod yX11_seeks ∈ BIG := big_in (List.mem_of_getElem? (i := 1030) (by decide +kernel)) (by decide +kernel)
theorem wd1031 : Cond.code yX11_seeks cX11_seeks 4 (some .int) ∈ BIG := big_in (List.mem_of_getElem? (i := 1031) (by decide +kernel)) (by decide +kernel)
theorem wd1032 : Cond.methodLink RX11 105 yX11_jumps ∈ BIG := big_in (List.mem_of_getElem? (i := 1032) (by decide +kernel)) (by decide +kernel)
theorem wd1034 : Cond.instanceMethod yX11_jumps ∈ BIG := big_in (List.mem_of_getElem? (i := 1034) (by decide +kernel)) (by decide +kernel)
theorem wd1035 : Cond.code yX11_jumps cX11_jumps 7 none ∈ BIG := big_in (List.mem_of_getElem? (i := 1035) (by decide +kernel)) (by decide +kernel)
theorem wd1048 : Cond.methodLink RX11 176 yX11_go ∈ BIG := big_in (List.mem_of_getElem? (i := 1048) (by decide +kernel)) (by decide +kernel)
theorem wd1050 : Cond.instanceMethod yX11_go ∈ BIG := big_in (List.mem_of_getElem? (i := 1050) (by decide +kernel)) (by decide +kernel)
theorem wd1051 : Cond.code yX11_go cX11_go 8 (some .int) ∈ BIG := big_in (List.mem_of_getElem? (i := 1051) (by decide +kernel)) (by decide +kernel)
theorem wd1052 : Cond.methodLink RX11 159 yX11_isNext ∈ BIG := big_in (List.mem_of_getElem? (i := 1052) (by decide +kernel)) (by decide +kernel)
theorem wd1054 : Cond.instanceMethod yX11_isNext ∈ BIG := big_in (List.mem_of_getElem? (i := 1054) (by decide +kernel)) (by decide +kernel)
theorem wd1055 : Cond.code yX11_isNext cX11_isNext 2 (some .boolean) ∈ BIG := big_in (List.mem_of_getElem? (i := 1055) (by decide +kernel)) (by decide +kernel)
theorem wd1056 : Cond.methodLink RX11 153 yX11_sign ∈ BIG := big_in (List.mem_of_getElem? (i := 1056) (by decide +kernel)) (by decide +kernel)
theorem wd1058 : Cond.instanceMethod yX11_sign ∈ BIG := big_in (List.mem_of_getElem? (i := 1058) (by decide +kernel)) (by decide +kernel)
theorem wd1059 : Cond.code yX11_sign cX11_sign 4 (some .int) ∈ BIG := big_in (List.mem_of_getElem? (i := 1059) (by decide +kernel)) (by decide +kernel)
theorem wd1060 : Cond.methodLink RX11 169 yX11_orderOfS ∈ BIG := big_in (List.mem_of_getElem? (i := 1060) (by decide +kernel)) (by decide +kernel)
theorem wd1062 : Cond.instanceMethod yX11_orderOfS ∈ BIG := big_in (List.mem_of_getElem? (i := 1062) (by decide +kernel)) (by decide +kernel)
theorem wd1063 : Cond.code yX11_orderOfS cX11_orderOfS 6 (some .int) ∈ BIG := big_in (List.mem_of_getElem? (i := 1063) (by decide +kernel)) (by decide +kernel)
theorem wd1064 : Cond.methodLink RX11 162 yX11_signs ∈ BIG := big_in (List.mem_of_getElem? (i := 1064) (by decide +kernel)) (by decide +kernel)
theorem wd1066 : Cond.instanceMethod yX11_signs ∈ BIG := big_in (List.mem_of_getElem? (i := 1066) (by decide +kernel)) (by decide +kernel)
theorem wd1067 : Cond.code yX11_signs cX11_signs 9 none ∈ BIG := big_in (List.mem_of_getElem? (i := 1067) (by decide +kernel)) (by decide +kernel)
theorem wd1068 : Cond.methodLink RX11 156 yX11_number ∈ BIG := big_in (List.mem_of_getElem? (i := 1068) (by decide +kernel)) (by decide +kernel)
theorem wd1070 : Cond.instanceMethod yX11_number ∈ BIG := big_in (List.mem_of_getElem? (i := 1070) (by decide +kernel)) (by decide +kernel)
theorem wd1071 : Cond.code yX11_number cX11_number 4 (some .int) ∈ BIG := big_in (List.mem_of_getElem? (i := 1071) (by decide +kernel)) (by decide +kernel)
theorem wd1072 : Cond.methodLink RX11 166 yX11_behind ∈ BIG := big_in (List.mem_of_getElem? (i := 1072) (by decide +kernel)) (by decide +kernel)
theorem wd1074 : Cond.instanceMethod yX11_behind ∈ BIG := big_in (List.mem_of_getElem? (i := 1074) (by decide +kernel)) (by decide +kernel)
theorem wd1075 : Cond.code yX11_behind cX11_behind 5 (some .int) ∈ BIG := big_in (List.mem_of_getElem? (i := 1075) (by decide +kernel)) (by decide +kernel)
theorem wd1076 : Cond.methodLink RX11 173 yX11_orderOfP ∈ BIG := big_in (List.mem_of_getElem? (i := 1076) (by decide +kernel)) (by decide +kernel)
theorem wd1078 : Cond.instanceMethod yX11_orderOfP ∈ BIG := big_in (List.mem_of_getElem? (i := 1078) (by decide +kernel)) (by decide +kernel)
theorem wd1079 : Cond.code yX11_orderOfP cX11_orderOfP 7 (some .int) ∈ BIG := big_in (List.mem_of_getElem? (i := 1079) (by decide +kernel)) (by decide +kernel)
theorem wd1100 : Cond.methodLink RX11 81 yX11_hasGroup ∈ BIG := big_in (List.mem_of_getElem? (i := 1100) (by decide +kernel)) (by decide +kernel)
theorem wd1102 : Cond.instanceMethod yX11_hasGroup ∈ BIG := big_in (List.mem_of_getElem? (i := 1102) (by decide +kernel)) (by decide +kernel)
theorem wd1103 : Cond.code yX11_hasGroup cX11_hasGroup 2 (some .boolean) ∈ BIG := big_in (List.mem_of_getElem? (i := 1103) (by decide +kernel)) (by decide +kernel)
theorem wd1104 : Cond.methodLink RX11 90 yX11_how ∈ BIG := big_in (List.mem_of_getElem? (i := 1104) (by decide +kernel)) (by decide +kernel)
theorem wd1106 : Cond.instanceMethod yX11_how ∈ BIG := big_in (List.mem_of_getElem? (i := 1106) (by decide +kernel)) (by decide +kernel)
theorem wd1107 : Cond.code yX11_how cX11_how 5 (some .int) ∈ BIG := big_in (List.mem_of_getElem? (i := 1107) (by decide +kernel)) (by decide +kernel)
theorem wd1108 : Cond.methodLink RX11 84 yX11_isSound ∈ BIG := big_in (List.mem_of_getElem? (i := 1108) (by decide +kernel)) (by decide +kernel)
theorem wd1110 : Cond.instanceMethod yX11_isSound ∈ BIG := big_in (List.mem_of_getElem? (i := 1110) (by decide +kernel)) (by decide +kernel)
theorem wd1111 : Cond.code yX11_isSound cX11_isSound 4 (some .boolean) ∈ BIG := big_in (List.mem_of_getElem? (i := 1111) (by decide +kernel)) (by decide +kernel)
theorem wd1112 : Cond.methodLink RX11 87 yX11_beside ∈ BIG := big_in (List.mem_of_getElem? (i := 1112) (by decide +kernel)) (by decide +kernel)
theorem wd1113 : Cond.static yX11_beside ∈ BIG := big_in (List.mem_of_getElem? (i := 1113) (by decide +kernel)) (by decide +kernel)
theorem wd1114 : Cond.code yX11_beside cX11_beside 2 (some .int) ∈ BIG := big_in (List.mem_of_getElem? (i := 1114) (by decide +kernel)) (by decide +kernel)
theorem wd1115 : Cond.methodLink RX11 182 yX11_pits ∈ BIG := big_in (List.mem_of_getElem? (i := 1115) (by decide +kernel)) (by decide +kernel)
theorem wd1117 : Cond.instanceMethod yX11_pits ∈ BIG := big_in (List.mem_of_getElem? (i := 1117) (by decide +kernel)) (by decide +kernel)
theorem wd1118 : Cond.code yX11_pits cX11_pits 4 (some .int) ∈ BIG := big_in (List.mem_of_getElem? (i := 1118) (by decide +kernel)) (by decide +kernel)
theorem wd1119 : Cond.methodLink RX11 62 yX11_symbolOf ∈ BIG := big_in (List.mem_of_getElem? (i := 1119) (by decide +kernel)) (by decide +kernel)
theorem wd1121 : Cond.instanceMethod yX11_symbolOf ∈ BIG := big_in (List.mem_of_getElem? (i := 1121) (by decide +kernel)) (by decide +kernel)
theorem wd1122 : Cond.code yX11_symbolOf cX11_symbolOf 5 (some .int) ∈ BIG := big_in (List.mem_of_getElem? (i := 1122) (by decide +kernel)) (by decide +kernel)
theorem wd1123 : Cond.methodLink RX11 65 yX11_pit ∈ BIG := big_in (List.mem_of_getElem? (i := 1123) (by decide +kernel)) (by decide +kernel)
theorem wd1124 : Cond.static yX11_pit ∈ BIG := big_in (List.mem_of_getElem? (i := 1124) (by decide +kernel)) (by decide +kernel)
theorem wd1125 : Cond.code yX11_pit cX11_pit 1 (some .int) ∈ BIG := big_in (List.mem_of_getElem? (i := 1125) (by decide +kernel)) (by decide +kernel)
theorem wd1126 : Cond.methodLink RX11 185 yX11_flats ∈ BIG := big_in (List.mem_of_getElem? (i := 1126) (by decide +kernel)) (by decide +kernel)
theorem wd1128 : Cond.instanceMethod yX11_flats ∈ BIG := big_in (List.mem_of_getElem? (i := 1128) (by decide +kernel)) (by decide +kernel)
theorem wd1129 : Cond.code yX11_flats cX11_flats 4 (some .int) ∈ BIG := big_in (List.mem_of_getElem? (i := 1129) (by decide +kernel)) (by decide +kernel)
theorem wd1130 : Cond.methodLink RX11 68 yX11_flat ∈ BIG := big_in (List.mem_of_getElem? (i := 1130) (by decide +kernel)) (by decide +kernel)
theorem wd1131 : Cond.static yX11_flat ∈ BIG := big_in (List.mem_of_getElem? (i := 1131) (by decide +kernel)) (by decide +kernel)
theorem wd1132 : Cond.code yX11_flat cX11_flat 1 (some .int) ∈ BIG := big_in (List.mem_of_getElem? (i := 1132) (by decide +kernel)) (by decide +kernel)
theorem wd1133 : Cond.methodLink RX11 188 yX11_longestRun ∈ BIG := big_in (List.mem_of_getElem? (i := 1133) (by decide +kernel)) (by decide +kernel)
theorem wd1135 : Cond.instanceMethod yX11_longestRun ∈ BIG := big_in (List.mem_of_getElem? (i := 1135) (by decide +kernel)) (by decide +kernel)
theorem wd1136 : Cond.code yX11_longestRun cX11_longestRun 5 (some .int) ∈ BIG := big_in (List.mem_of_getElem? (i := 1136) (by decide +kernel)) (by decide +kernel)
theorem wd1141 : Cond.methodLink RX11 191 yX11_toldSymbol ∈ BIG := big_in (List.mem_of_getElem? (i := 1141) (by decide +kernel)) (by decide +kernel)
theorem wd1143 : Cond.instanceMethod yX11_toldSymbol ∈ BIG := big_in (List.mem_of_getElem? (i := 1143) (by decide +kernel)) (by decide +kernel)
theorem wd1144 : Cond.code yX11_toldSymbol cX11_toldSymbol 3 (some .int) ∈ BIG := big_in (List.mem_of_getElem? (i := 1144) (by decide +kernel)) (by decide +kernel)
theorem wd1157 : Cond.methodLink RX11 194 yX11_framesThat ∈ BIG := big_in (List.mem_of_getElem? (i := 1157) (by decide +kernel)) (by decide +kernel)
theorem wd1159 : Cond.instanceMethod yX11_framesThat ∈ BIG := big_in (List.mem_of_getElem? (i := 1159) (by decide +kernel)) (by decide +kernel)
theorem wd1160 : Cond.code yX11_framesThat cX11_framesThat 4 (some .int) ∈ BIG := big_in (List.mem_of_getElem? (i := 1160) (by decide +kernel)) (by decide +kernel)
theorem wd1181 : Cond.fieldLink RX3 74 "LineDisc$Word" "letters" "Ljava/lang/String;" ∈ BIG := big_in (List.mem_of_getElem? (i := 1181) (by decide +kernel)) (by decide +kernel)
theorem wd1184 : Cond.fieldLink RX3 51 "LineDisc$Word" "form" "Ljava/lang/String;" ∈ BIG := big_in (List.mem_of_getElem? (i := 1184) (by decide +kernel)) (by decide +kernel)
theorem cv_X10_addScratch : CV yX10_addScratch cX10_addScratch 7 (some .int) 4 := ⟨wd416, wd7, wd70, wd417, by decide +kernel, by decide⟩
theorem cs_X10_at : CS yX10_at cX10_at 2 (some .int) 2 := ⟨wd380, wd70, wd381, by decide +kernel, by decide⟩
theorem cv_X10_countSetting : CV yX10_countSetting cX10_countSetting 2 (some .int) 1 := ⟨wd829, wd28, wd70, wd830, by decide +kernel, by decide⟩
theorem cv_X10_doOrder : CV yX10_doOrder cX10_doOrder 6 (some .int) 1 := ⟨wd712, wd25, wd70, wd713, by decide +kernel, by decide⟩
theorem cv_X10_filledSymbol : CV yX10_filledSymbol cX10_filledSymbol 5 (some .int) 2 := ⟨wd796, wd27, wd70, wd797, by decide +kernel, by decide⟩
theorem cs_X10_isPlace : CS yX10_isPlace cX10_isPlace 1 (some .boolean) 1 := ⟨wd358, wd70, wd359, by decide +kernel, by decide⟩
theorem cv_X10_isToldRight : CV yX10_isToldRight cX10_isToldRight 5 (some .boolean) 1 := ⟨wd840, wd29, wd70, wd841, by decide +kernel, by decide⟩
theorem cv_X10_playFrames : CV yX10_playFrames cX10_playFrames 2 (some .int) 1 := ⟨wd546, wd13, wd70, wd547, by decide +kernel, by decide⟩
theorem cv_X10_polishAway : CV yX10_polishAway cX10_polishAway 2 (some .int) 1 := ⟨wd509, wd12, wd70, wd510, by decide +kernel, by decide⟩
theorem cv_X10_pressSymbol : CV yX10_pressSymbol cX10_pressSymbol 5 (some .int) 3 := ⟨wd343, wd0, wd70, wd344, by decide +kernel, by decide⟩
theorem cs_X10_put : CS yX10_put cX10_put 3 none 3 := ⟨wd391, wd70, wd392, by decide +kernel, by decide⟩
theorem cv_X10_recorded : CV yX10_recorded cX10_recorded 2 (some .int) 1 := ⟨wd395, wd4, wd70, wd396, by decide +kernel, by decide⟩
theorem cv_X10_seekFrame : CV yX10_seekFrame cX10_seekFrame 3 (some .int) 1 := ⟨wd582, wd16, wd70, wd583, by decide +kernel, by decide⟩
theorem cv_X10_toldSymbol : CV yX10_toldSymbol cX10_toldSymbol 4 (some .int) 2 := ⟨wd792, wd26, wd70, wd793, by decide +kernel, by decide⟩
theorem cv_X10_trySeek : CV yX10_trySeek cX10_trySeek 3 (some .int) 2 := ⟨wd848, wd30, wd70, wd849, by decide +kernel, by decide⟩
theorem cv_X1_copyFrom : CV yX1_copyFrom cX1_copyFrom 2 none 1 := ⟨wd338, wd339, wd75, wd340, by decide +kernel, by decide⟩
theorem cv_X1_goTo : CV yX1_goTo cX1_goTo 8 none 3 := ⟨wd585, wd586, wd75, wd587, by decide +kernel, by decide⟩
theorem cv_X1_goToStart : CV yX1_goToStart cX1_goToStart 2 none 1 := ⟨wd536, wd537, wd75, wd538, by decide +kernel, by decide⟩
theorem cv_X1_isNear : CV yX1_isNear cX1_isNear 3 (some .boolean) 2 := ⟨wd567, wd15, wd75, wd568, by decide +kernel, by decide⟩
theorem cv_X1_jump : CV yX1_jump cX1_jump 9 (some .int) 4 := ⟨wd590, wd17, wd75, wd591, by decide +kernel, by decide⟩
theorem cv_X1_readFrames : CV yX1_readFrames cX1_readFrames 9 (some .int) 3 := ⟨wd550, wd551, wd75, wd552, by decide +kernel, by decide⟩
theorem cv_X1_spin : CV yX1_spin cX1_spin 5 none 3 := ⟨wd561, wd14, wd75, wd562, by decide +kernel, by decide⟩
theorem cv_X2_add : CV yX2_add cX2_add 3 none 1 := ⟨wd398, wd399, wd76, wd400, by decide +kernel, by decide⟩
theorem cv_X2_dropOldest : CV yX2_dropOldest cX2_dropOldest 3 none 0 := ⟨wd403, wd5, wd76, wd404, by decide +kernel, by decide⟩
theorem cv_X2_stateAt : CV yX2_stateAt cX2_stateAt 2 (some (.object "LineDisc$State")) 1 := ⟨wd407, wd6, wd76, wd408, by decide +kernel, by decide⟩
theorem cv_X2_takeLatest : CV yX2_takeLatest cX2_takeLatest 3 (some .boolean) 1 := ⟨wd736, wd737, wd76, wd738, by decide +kernel, by decide⟩
theorem cv_X3_append : CV yX3_append cX3_append 2 (some .boolean) 1 := ⟨wd598, wd599, wd77, wd600, by decide +kernel, by decide⟩
theorem cv_X3_clear : CV yX3_clear cX3_clear 2 (some .int) 0 := ⟨wd606, wd607, wd77, wd608, by decide +kernel, by decide⟩
theorem cv_X3_hasSign : CV yX3_hasSign cX3_hasSign 3 (some .boolean) 2 := ⟨wd681, wd21, wd77, wd682, by decide +kernel, by decide⟩
theorem cv_X3_longerBy : CV yX3_longerBy cX3_longerBy 7 (some .int) 3 := ⟨wd693, wd23, wd77, wd694, by decide +kernel, by decide⟩
theorem cv_X3_numberOf : CV yX3_numberOf cX3_numberOf 3 (some .int) 2 := ⟨wd719, wd720, wd77, wd721, by decide +kernel, by decide⟩
theorem cv_X3_readAll : CV yX3_readAll cX3_readAll 2 (some .int) 0 := ⟨wd614, wd615, wd77, wd616, by decide +kernel, by decide⟩
theorem cv_X3_readNumber : CV yX3_readNumber cX3_readNumber 6 (some .boolean) 2 := ⟨wd689, wd22, wd77, wd690, by decide +kernel, by decide⟩
theorem cv_X3_readOrder : CV yX3_readOrder cX3_readOrder 6 (some .boolean) 0 := ⟨wd619, wd18, wd77, wd620, by decide +kernel, by decide⟩
theorem cv_X3_readSign : CV yX3_readSign cX3_readSign 3 (some .boolean) 1 := ⟨wd704, wd24, wd77, wd705, by decide +kernel, by decide⟩
theorem cv_X3_readWord : CV yX3_readWord cX3_readWord 7 (some (.object "LineDisc$Word")) 0 := ⟨wd623, wd19, wd77, wd624, by decide +kernel, by decide⟩
theorem cv_X3_sameAs : CV yX3_sameAs cX3_sameAs 3 (some .int) 1 := ⟨wd629, wd20, wd77, wd630, by decide +kernel, by decide⟩
theorem cv_X3_wordOf : CV yX3_wordOf cX3_wordOf 2 (some (.object "LineDisc$Word")) 1 := ⟨wd715, wd716, wd77, wd717, by decide +kernel, by decide⟩
theorem cv_X4_add : CV yX4_add cX4_add 5 (some .boolean) 4 := ⟨wd419, wd420, wd73, wd421, by decide +kernel, by decide⟩
theorem cv_X4_copyFrom : CV yX4_copyFrom cX4_copyFrom 2 none 1 := ⟨wd326, wd327, wd73, wd328, by decide +kernel, by decide⟩
theorem cv_X4_drop : CV yX4_drop cX4_drop 3 none 1 := ⟨wd516, wd517, wd73, wd518, by decide +kernel, by decide⟩
theorem cv_X4_fromOf : CV yX4_fromOf cX4_fromOf 2 (some .int) 1 := ⟨wd446, wd447, wd73, wd448, by decide +kernel, by decide⟩
theorem cv_X4_has : CV yX4_has cX4_has 2 (some .boolean) 1 := ⟨wd512, wd513, wd73, wd514, by decide +kernel, by decide⟩
theorem cv_X4_innerOf : CV yX4_innerOf cX4_innerOf 2 (some .int) 1 := ⟨wd461, wd462, wd73, wd463, by decide +kernel, by decide⟩
theorem cv_X4_isLike : CV yX4_isLike cX4_isLike 4 (some .boolean) 1 := ⟨wd432, wd433, wd73, wd434, by decide +kernel, by decide⟩
theorem cv_X4_outerOf : CV yX4_outerOf cX4_outerOf 2 (some .int) 1 := ⟨wd454, wd455, wd73, wd456, by decide +kernel, by decide⟩
theorem cv_X4_toOf : CV yX4_toOf cX4_toOf 2 (some .int) 1 := ⟨wd450, wd451, wd73, wd452, by decide +kernel, by decide⟩
theorem cv_X5_allFrames : CV yX5_allFrames cX5_allFrames 1 (some .int) 0 := ⟨wd350, wd351, wd72, wd352, by decide +kernel, by decide⟩
theorem cv_X5_change : CV yX5_change cX5_change 3 none 2 := ⟨wd532, wd533, wd72, wd534, by decide +kernel, by decide⟩
theorem cv_X5_copyFrom : CV yX5_copyFrom cX5_copyFrom 2 none 1 := ⟨wd322, wd323, wd72, wd324, by decide +kernel, by decide⟩
theorem cs_X5_dataAhead : CS yX5_dataAhead cX5_dataAhead 1 (some .int) 1 := ⟨wd496, wd72, wd497, by decide +kernel, by decide⟩
theorem cs_X5_dataBehind : CS yX5_dataBehind cX5_dataBehind 1 (some .int) 1 := ⟨wd499, wd72, wd500, by decide +kernel, by decide⟩
theorem cv_X5_firstOf : CV yX5_firstOf cX5_firstOf 2 (some .int) 1 := ⟨wd354, wd355, wd72, wd356, by decide +kernel, by decide⟩
theorem cv_X5_framesOf : CV yX5_framesOf cX5_framesOf 2 (some .int) 1 := ⟨wd468, wd469, wd72, wd470, by decide +kernel, by decide⟩
theorem cv_X5_groupOf : CV yX5_groupOf cX5_groupOf 3 (some .int) 1 := ⟨wd754, wd755, wd72, wd756, by decide +kernel, by decide⟩
theorem cv_X5_groups : CV yX5_groups cX5_groups 1 (some .int) 0 := ⟨wd758, wd759, wd72, wd760, by decide +kernel, by decide⟩
theorem cv_X5_hasFrame : CV yX5_hasFrame cX5_hasFrame 2 (some .boolean) 1 := ⟨wd346, wd347, wd72, wd348, by decide +kernel, by decide⟩
theorem cv_X5_hasSpiralOf : CV yX5_hasSpiralOf cX5_hasSpiralOf 2 (some .boolean) 1 := ⟨wd428, wd429, wd72, wd430, by decide +kernel, by decide⟩
theorem cs_X5_isCheck : CS yX5_isCheck cX5_isCheck 1 (some .boolean) 1 := ⟨wd361, wd72, wd362, by decide +kernel, by decide⟩
theorem cs_X5_isInRange : CS yX5_isInRange cX5_isInRange 2 (some .boolean) 2 := ⟨wd525, wd72, wd526, by decide +kernel, by decide⟩
theorem cs_X5_isSetting : CS yX5_isSetting cX5_isSetting 1 (some .boolean) 1 := ⟨wd832, wd72, wd833, by decide +kernel, by decide⟩
theorem cv_X5_settingAt : CV yX5_settingAt cX5_settingAt 2 (some .int) 1 := ⟨wd528, wd529, wd72, wd530, by decide +kernel, by decide⟩
theorem cv_X5_turnOf : CV yX5_turnOf cX5_turnOf 3 (some .int) 1 := ⟨wd556, wd557, wd72, wd558, by decide +kernel, by decide⟩
theorem cv_X6_copyFrom : CV yX6_copyFrom cX6_copyFrom 2 none 1 := ⟨wd318, wd319, wd71, wd320, by decide +kernel, by decide⟩
theorem cv_X7_canBeFilled : CV yX7_canBeFilled cX7_canBeFilled 5 (some .boolean) 2 := ⟨wd493, wd11, wd78, wd494, by decide +kernel, by decide⟩
theorem cv_X7_damagedIn : CV yX7_damagedIn cX7_damagedIn 6 (some .int) 3 := ⟨wd486, wd487, wd78, wd488, by decide +kernel, by decide⟩
theorem cv_X7_framesThatAre : CV yX7_framesThatAre cX7_framesThatAre 5 (some .int) 1 := ⟨wd824, wd825, wd78, wd826, by decide +kernel, by decide⟩
theorem cv_X7_howIs : CV yX7_howIs cX7_howIs 2 (some .int) 1 := ⟨wd763, wd764, wd78, wd765, by decide +kernel, by decide⟩
theorem cv_X7_isDamaged : CV yX7_isDamaged cX7_isDamaged 2 (some .boolean) 1 := ⟨wd573, wd574, wd78, wd575, by decide +kernel, by decide⟩
theorem cv_X7_judge : CV yX7_judge cX7_judge 4 none 1 := ⟨wd477, wd478, wd78, wd479, by decide +kernel, by decide⟩
theorem cv_X7_judgeGroup : CV yX7_judgeGroup cX7_judgeGroup 7 none 3 := ⟨wd483, wd10, wd78, wd484, by decide +kernel, by decide⟩
theorem cv_X7_markRow : CV yX7_markRow cX7_markRow 5 none 3 := ⟨wd474, wd9, wd78, wd475, by decide +kernel, by decide⟩
theorem cv_X7_markScratch : CV yX7_markScratch cX7_markScratch 8 none 1 := ⟨wd443, wd8, wd78, wd444, by decide +kernel, by decide⟩
theorem cv_X7_missingWithout : CV yX7_missingWithout cX7_missingWithout 2 (some .int) 1 := ⟨wd860, wd861, wd78, wd862, by decide +kernel, by decide⟩
theorem cv_X7_of : CV yX7_of cX7_of 3 (some (.object "LineDisc$Survey")) 1 := ⟨wd424, wd425, wd78, wd426, by decide +kernel, by decide⟩
theorem cs_X8_atFirst : CS yX8_atFirst cX8_atFirst 2 (some .int) 2 := ⟨wd377, wd74, wd378, by decide +kernel, by decide⟩
theorem cv_X8_balanceOf : CV yX8_balanceOf cX8_balanceOf 5 (some .int) 1 := ⟨wd778, wd779, wd74, wd780, by decide +kernel, by decide⟩
theorem cv_X8_copyFrom : CV yX8_copyFrom cX8_copyFrom 2 none 1 := ⟨wd333, wd334, wd74, wd335, by decide +kernel, by decide⟩
theorem cv_X8_dataAt : CV yX8_dataAt cX8_dataAt 4 (some .int) 2 := ⟨wd370, wd1, wd74, wd371, by decide +kernel, by decide⟩
theorem cv_X8_drop : CV yX8_drop cX8_drop 2 none 1 := ⟨wd388, wd3, wd74, wd389, by decide +kernel, by decide⟩
theorem cs_X8_flatOf : CS yX8_flatOf cX8_flatOf 1 (some .int) 1 := ⟨wd775, wd74, wd776, by decide +kernel, by decide⟩
theorem cv_X8_indexOf : CV yX8_indexOf cX8_indexOf 3 (some .int) 1 := ⟨wd374, wd2, wd74, wd375, by decide +kernel, by decide⟩
theorem cv_X8_lengthOf : CV yX8_lengthOf cX8_lengthOf 5 (some .int) 1 := ⟨wd767, wd768, wd74, wd769, by decide +kernel, by decide⟩
theorem cv_X8_lengthOfAll : CV yX8_lengthOfAll cX8_lengthOfAll 5 (some .int) 2 := ⟨wd806, wd807, wd74, wd808, by decide +kernel, by decide⟩
theorem cv_X8_longestRunOf : CV yX8_longestRunOf cX8_longestRunOf 5 (some .int) 1 := ⟨wd782, wd783, wd74, wd784, by decide +kernel, by decide⟩
theorem cs_X8_pitOf : CS yX8_pitOf cX8_pitOf 1 (some .int) 1 := ⟨wd772, wd74, wd773, by decide +kernel, by decide⟩
theorem cv_X8_standsAt : CV yX8_standsAt cX8_standsAt 5 (some .int) 2 := ⟨wd364, wd365, wd74, wd366, by decide +kernel, by decide⟩
theorem cv_X8_write : CV yX8_write cX8_write 6 (some .boolean) 3 := ⟨wd383, wd384, wd74, wd385, by decide +kernel, by decide⟩
theorem cs_X9_highest : CS yX9_highest cX9_highest 1 (some .int) 1 := ⟨wd699, wd88, wd700, by decide +kernel, by decide⟩
theorem cs_X9_isKind : CS yX9_isKind cX9_isKind 1 (some .boolean) 1 := ⟨wd685, wd88, wd686, by decide +kernel, by decide⟩
theorem cs_X9_lowest : CS yX9_lowest cX9_lowest 1 (some .int) 1 := ⟨wd696, wd88, wd697, by decide +kernel, by decide⟩
theorem cv_X11_act : CV yX11_act cX11_act 3 (some .int) 1 := ⟨wd953, wd38, wd79, wd954, by decide +kernel, by decide⟩
theorem cs_X11_atFirst : CS yX11_atFirst cX11_atFirst 2 (some .int) 2 := ⟨wd949, wd79, wd950, by decide +kernel, by decide⟩
theorem cv_X11_behind : CV yX11_behind cX11_behind 5 (some .int) 3 := ⟨wd1074, wd58, wd79, wd1075, by decide +kernel, by decide⟩
theorem cs_X11_beside : CS yX11_beside cX11_beside 2 (some .int) 2 := ⟨wd1113, wd79, wd1114, by decide +kernel, by decide⟩
theorem cv_X11_damaged : CV yX11_damaged cX11_damaged 3 (some .int) 0 := ⟨wd969, wd41, wd79, wd970, by decide +kernel, by decide⟩
theorem cv_X11_damages : CV yX11_damages cX11_damages 6 (some .boolean) 3 := ⟨wd981, wd44, wd79, wd982, by decide +kernel, by decide⟩
theorem cv_X11_dataSymbol : CV yX11_dataSymbol cX11_dataSymbol 4 (some .int) 2 := ⟨wd942, wd36, wd79, wd943, by decide +kernel, by decide⟩
theorem cv_X11_findPressed : CV yX11_findPressed cX11_findPressed 4 (some .int) 2 := ⟨wd946, wd37, wd79, wd947, by decide +kernel, by decide⟩
theorem cs_X11_flat : CS yX11_flat cX11_flat 1 (some .int) 1 := ⟨wd1131, wd79, wd1132, by decide +kernel, by decide⟩
theorem cv_X11_flats : CV yX11_flats cX11_flats 4 (some .int) 1 := ⟨wd1128, wd65, wd79, wd1129, by decide +kernel, by decide⟩
theorem cv_X11_frames : CV yX11_frames cX11_frames 1 (some .int) 0 := ⟨wd928, wd34, wd79, wd929, by decide +kernel, by decide⟩
theorem cv_X11_framesOf : CV yX11_framesOf cX11_framesOf 2 (some .int) 1 := ⟨wd977, wd43, wd79, wd978, by decide +kernel, by decide⟩
theorem cv_X11_framesThat : CV yX11_framesThat cX11_framesThat 4 (some .int) 1 := ⟨wd1159, wd68, wd79, wd1160, by decide +kernel, by decide⟩
theorem cv_X11_go : CV yX11_go cX11_go 8 (some .int) 1 := ⟨wd1050, wd52, wd79, wd1051, by decide +kernel, by decide⟩
theorem cv_X11_hasGroup : CV yX11_hasGroup cX11_hasGroup 2 (some .boolean) 1 := ⟨wd1102, wd60, wd79, wd1103, by decide +kernel, by decide⟩
theorem cs_X11_high : CS yX11_high cX11_high 1 (some .int) 1 := ⟨wd999, wd79, wd1000, by decide +kernel, by decide⟩
theorem cv_X11_how : CV yX11_how cX11_how 5 (some .int) 1 := ⟨wd1106, wd61, wd79, wd1107, by decide +kernel, by decide⟩
theorem cs_X11_in : CS yX11_in cX11_in 3 (some .boolean) 3 := ⟨wd935, wd79, wd936, by decide +kernel, by decide⟩
theorem cs_X11_isCheck : CS yX11_isCheck cX11_isCheck 1 (some .boolean) 1 := ⟨wd938, wd79, wd939, by decide +kernel, by decide⟩
theorem cv_X11_isFrame : CV yX11_isFrame cX11_isFrame 2 (some .boolean) 1 := ⟨wd924, wd33, wd79, wd925, by decide +kernel, by decide⟩
theorem cv_X11_isNear : CV yX11_isNear cX11_isNear 2 (some .boolean) 1 := ⟨wd1019, wd49, wd79, wd1020, by decide +kernel, by decide⟩
theorem cv_X11_isNext : CV yX11_isNext cX11_isNext 2 (some .boolean) 1 := ⟨wd1054, wd53, wd79, wd1055, by decide +kernel, by decide⟩
theorem cv_X11_isSound : CV yX11_isSound cX11_isSound 4 (some .boolean) 1 := ⟨wd1110, wd62, wd79, wd1111, by decide +kernel, by decide⟩
theorem cv_X11_jumps : CV yX11_jumps cX11_jumps 7 none 1 := ⟨wd1034, wd51, wd79, wd1035, by decide +kernel, by decide⟩
theorem cv_X11_lay : CV yX11_lay cX11_lay 6 none 1 := ⟨wd973, wd42, wd79, wd974, by decide +kernel, by decide⟩
theorem cv_X11_longestRun : CV yX11_longestRun cX11_longestRun 5 (some .int) 1 := ⟨wd1135, wd66, wd79, wd1136, by decide +kernel, by decide⟩
theorem cs_X11_low : CS yX11_low cX11_low 1 (some .int) 1 := ⟨wd996, wd79, wd997, by decide +kernel, by decide⟩
theorem cv_X11_number : CV yX11_number cX11_number 4 (some .int) 2 := ⟨wd1070, wd57, wd79, wd1071, by decide +kernel, by decide⟩
theorem cv_X11_orderOfP : CV yX11_orderOfP cX11_orderOfP 7 (some .int) 1 := ⟨wd1078, wd59, wd79, wd1079, by decide +kernel, by decide⟩
theorem cv_X11_orderOfS : CV yX11_orderOfS cX11_orderOfS 6 (some .int) 1 := ⟨wd1062, wd55, wd79, wd1063, by decide +kernel, by decide⟩
theorem cs_X11_pit : CS yX11_pit cX11_pit 1 (some .int) 1 := ⟨wd1124, wd79, wd1125, by decide +kernel, by decide⟩
theorem cv_X11_pits : CV yX11_pits cX11_pits 4 (some .int) 1 := ⟨wd1117, wd63, wd79, wd1118, by decide +kernel, by decide⟩
theorem cv_X11_plays : CV yX11_plays cX11_plays 5 (some .int) 1 := ⟨wd1007, wd46, wd79, wd1008, by decide +kernel, by decide⟩
theorem cv_X11_polishes : CV yX11_polishes cX11_polishes 3 (some .int) 1 := ⟨wd989, wd45, wd79, wd990, by decide +kernel, by decide⟩
theorem cv_X11_presses : CV yX11_presses cX11_presses 7 (some .int) 3 := ⟨wd920, wd32, wd79, wd921, by decide +kernel, by decide⟩
theorem cv_X11_putAside : CV yX11_putAside cX11_putAside 2 none 0 := ⟨wd916, wd31, wd79, wd917, by decide +kernel, by decide⟩
theorem cv_X11_putBack : CV yX11_putBack cX11_putBack 2 none 0 := ⟨wd957, wd39, wd79, wd958, by decide +kernel, by decide⟩
theorem cv_X11_scratches : CV yX11_scratches cX11_scratches 6 (some .int) 4 := ⟨wd965, wd40, wd79, wd966, by decide +kernel, by decide⟩
theorem cv_X11_seeks : CV yX11_seeks cX11_seeks 4 (some .int) 1 := ⟨wd1030, wd50, wd79, wd1031, by decide +kernel, by decide⟩
theorem cv_X11_sign : CV yX11_sign cX11_sign 4 (some .int) 2 := ⟨wd1058, wd54, wd79, wd1059, by decide +kernel, by decide⟩
theorem cv_X11_signs : CV yX11_signs cX11_signs 9 none 4 := ⟨wd1066, wd56, wd79, wd1067, by decide +kernel, by decide⟩
theorem cs_X11_size : CS yX11_size cX11_size 1 (some .int) 1 := ⟨wd1022, wd79, wd1023, by decide +kernel, by decide⟩
theorem cv_X11_start : CV yX11_start cX11_start 2 (some .int) 1 := ⟨wd932, wd35, wd79, wd933, by decide +kernel, by decide⟩
theorem cv_X11_symbolOf : CV yX11_symbolOf cX11_symbolOf 5 (some .int) 2 := ⟨wd1121, wd64, wd79, wd1122, by decide +kernel, by decide⟩
theorem cv_X11_tick : CV yX11_tick cX11_tick 3 none 1 := ⟨wd1015, wd48, wd79, wd1016, by decide +kernel, by decide⟩
theorem cv_X11_toldSymbol : CV yX11_toldSymbol cX11_toldSymbol 3 (some .int) 2 := ⟨wd1143, wd67, wd79, wd1144, by decide +kernel, by decide⟩
theorem cv_X11_turnOf : CV yX11_turnOf cX11_turnOf 3 (some .int) 1 := ⟨wd1011, wd47, wd79, wd1012, by decide +kernel, by decide⟩
theorem cs_J7_fill_53178 : CS yJ7_fill_53178 cJ7_fill_53178 4 none 2 := ⟨wd439, wd81, wd440, by decide +kernel, by decide⟩
theorem inX1 : ∀ w ∈ u_ws RX1 TX1 6, w ∈ BIG := fun w hw => by
  have h := List.all_eq_true.mp (show (u_ws RX1 TX1 6).all (fun w => decide (w ∈ lw_tbl) && goodWord w) = true by decide +kernel) w hw
  rw [Bool.and_eq_true] at h
  exact big_in (of_decide_eq_true h.1) h.2
theorem inX2 : ∀ w ∈ u_ws RX2 TX2 2, w ∈ BIG := fun w hw => by
  have h := List.all_eq_true.mp (show (u_ws RX2 TX2 2).all (fun w => decide (w ∈ lw_tbl) && goodWord w) = true by decide +kernel) w hw
  rw [Bool.and_eq_true] at h
  exact big_in (of_decide_eq_true h.1) h.2
theorem inX3 : ∀ w ∈ u_ws RX3 TX3 6, w ∈ BIG := fun w hw => by
  have h := List.all_eq_true.mp (show (u_ws RX3 TX3 6).all (fun w => decide (w ∈ lw_tbl) && goodWord w) = true by decide +kernel) w hw
  rw [Bool.and_eq_true] at h
  exact big_in (of_decide_eq_true h.1) h.2
theorem inX4 : ∀ w ∈ u_ws RX4 TX4 2, w ∈ BIG := fun w hw => by
  have h := List.all_eq_true.mp (show (u_ws RX4 TX4 2).all (fun w => decide (w ∈ lw_tbl) && goodWord w) = true by decide +kernel) w hw
  rw [Bool.and_eq_true] at h
  exact big_in (of_decide_eq_true h.1) h.2
theorem inX5 : ∀ w ∈ u_ws RX5 TX5 6, w ∈ BIG := fun w hw => by
  have h := List.all_eq_true.mp (show (u_ws RX5 TX5 6).all (fun w => decide (w ∈ lw_tbl) && goodWord w) = true by decide +kernel) w hw
  rw [Bool.and_eq_true] at h
  exact big_in (of_decide_eq_true h.1) h.2
theorem inX6 : ∀ w ∈ u_ws RX6 TX6 4, w ∈ BIG := fun w hw => by
  have h := List.all_eq_true.mp (show (u_ws RX6 TX6 4).all (fun w => decide (w ∈ lw_tbl) && goodWord w) = true by decide +kernel) w hw
  rw [Bool.and_eq_true] at h
  exact big_in (of_decide_eq_true h.1) h.2
theorem inX7 : ∀ w ∈ u_ws RX7 TX7 4, w ∈ BIG := fun w hw => by
  have h := List.all_eq_true.mp (show (u_ws RX7 TX7 4).all (fun w => decide (w ∈ lw_tbl) && goodWord w) = true by decide +kernel) w hw
  rw [Bool.and_eq_true] at h
  exact big_in (of_decide_eq_true h.1) h.2
theorem inX8 : ∀ w ∈ u_ws RX8 TX8 3, w ∈ BIG := fun w hw => by
  have h := List.all_eq_true.mp (show (u_ws RX8 TX8 3).all (fun w => decide (w ∈ lw_tbl) && goodWord w) = true by decide +kernel) w hw
  rw [Bool.and_eq_true] at h
  exact big_in (of_decide_eq_true h.1) h.2
theorem inX10 : ∀ w ∈ u_ws RX10 TX10 8, w ∈ BIG := fun w hw => by
  have h := List.all_eq_true.mp (show (u_ws RX10 TX10 8).all (fun w => decide (w ∈ lw_tbl) && goodWord w) = true by decide +kernel) w hw
  rw [Bool.and_eq_true] at h
  exact big_in (of_decide_eq_true h.1) h.2
theorem inX11 : ∀ w ∈ u_ws RX11 TX11 11, w ∈ BIG := fun w hw => by
  have h := List.all_eq_true.mp (show (u_ws RX11 TX11 11).all (fun w => decide (w ∈ lw_tbl) && goodWord w) = true by decide +kernel) w hw
  rw [Bool.and_eq_true] at h
  exact big_in (of_decide_eq_true h.1) h.2
theorem jw_initS : Cond.initialized RJ0 ∈ BIG := big_in (List.mem_of_getElem? (i := 83) (by decide +kernel)) (by decide +kernel)
theorem jw_initL : Cond.initialized RJ1 ∈ BIG := big_in (List.mem_of_getElem? (i := 84) (by decide +kernel)) (by decide +kernel)
theorem jw_initP : Cond.initialized RJ3 ∈ BIG := big_in (List.mem_of_getElem? (i := 85) (by decide +kernel)) (by decide +kernel)
theorem jw_initE : Cond.initialized "java/lang/Enum" ∈ BIG := big_in (List.mem_of_getElem? (i := 87) (by decide +kernel)) (by decide +kernel)
theorem jw_i_length : Cond.instanceMethod yJ0_length_8abf5 ∈ BIG := big_in (List.mem_of_getElem? (i := 632) (by decide +kernel)) (by decide +kernel)
theorem jw_s_length : Cond.selects RJ0 yJ0_length_8abf5 yJ0_length_8abf5 ∈ BIG := big_in (List.mem_of_getElem? (i := 633) (by decide +kernel)) (by decide +kernel)
theorem jw_c_length : Cond.code yJ0_length_8abf5 cJ0_length_8abf5 1 (some .int) ∈ BIG := big_in (List.mem_of_getElem? (i := 634) (by decide +kernel)) (by decide +kernel)
theorem cv_Jlength : CV yJ0_length_8abf5 cJ0_length_8abf5 1 (some .int) 0 := ⟨jw_i_length, jw_s_length, jw_initS, jw_c_length, by decide +kernel, by decide⟩
theorem jw_i_coder : Cond.instanceMethod yJ0_coder_7d493 ∈ BIG := big_in (List.mem_of_getElem? (i := 636) (by decide +kernel)) (by decide +kernel)
theorem jw_s_coder : Cond.selects RJ0 yJ0_coder_7d493 yJ0_coder_7d493 ∈ BIG := big_in (List.mem_of_getElem? (i := 637) (by decide +kernel)) (by decide +kernel)
theorem jw_c_coder : Cond.code yJ0_coder_7d493 cJ0_coder_7d493 1 (some .byte) ∈ BIG := big_in (List.mem_of_getElem? (i := 638) (by decide +kernel)) (by decide +kernel)
theorem cv_Jcoder : CV yJ0_coder_7d493 cJ0_coder_7d493 1 (some .byte) 0 := ⟨jw_i_coder, jw_s_coder, jw_initS, jw_c_coder, by decide +kernel, by decide⟩
theorem jw_i_isLatin1 : Cond.instanceMethod yJ0_isLatin1_aae02 ∈ BIG := big_in (List.mem_of_getElem? (i := 646) (by decide +kernel)) (by decide +kernel)
theorem jw_s_isLatin1 : Cond.selects RJ0 yJ0_isLatin1_aae02 yJ0_isLatin1_aae02 ∈ BIG := big_in (List.mem_of_getElem? (i := 647) (by decide +kernel)) (by decide +kernel)
theorem jw_c_isLatin1 : Cond.code yJ0_isLatin1_aae02 cJ0_isLatin1_aae02 1 (some .boolean) ∈ BIG := big_in (List.mem_of_getElem? (i := 648) (by decide +kernel)) (by decide +kernel)
theorem cv_JisLatin1 : CV yJ0_isLatin1_aae02 cJ0_isLatin1_aae02 1 (some .boolean) 0 := ⟨jw_i_isLatin1, jw_s_isLatin1, jw_initS, jw_c_isLatin1, by decide +kernel, by decide⟩
theorem jw_i_charAt : Cond.instanceMethod yJ0_charAt_5068e ∈ BIG := big_in (List.mem_of_getElem? (i := 642) (by decide +kernel)) (by decide +kernel)
theorem jw_s_charAt : Cond.selects RJ0 yJ0_charAt_5068e yJ0_charAt_5068e ∈ BIG := big_in (List.mem_of_getElem? (i := 643) (by decide +kernel)) (by decide +kernel)
theorem jw_c_charAt : Cond.code yJ0_charAt_5068e cJ0_charAt_5068e 2 (some .char) ∈ BIG := big_in (List.mem_of_getElem? (i := 644) (by decide +kernel)) (by decide +kernel)
theorem cv_JcharAt : CV yJ0_charAt_5068e cJ0_charAt_5068e 2 (some .char) 1 := ⟨jw_i_charAt, jw_s_charAt, jw_initS, jw_c_charAt, by decide +kernel, by decide⟩
theorem jw_t_l1 : Cond.static yJ1_charAt_3b067 ∈ BIG := big_in (List.mem_of_getElem? (i := 650) (by decide +kernel)) (by decide +kernel)
theorem jw_c_l1 : Cond.code yJ1_charAt_3b067 cJ1_charAt_3b067 2 (some .char) ∈ BIG := big_in (List.mem_of_getElem? (i := 651) (by decide +kernel)) (by decide +kernel)
theorem cs_Jl1 : CS yJ1_charAt_3b067 cJ1_charAt_3b067 2 (some .char) 2 := ⟨jw_t_l1, jw_initL, jw_c_l1, by decide +kernel, by decide⟩
theorem jw_t_chk : Cond.static yJ0_checkIndex_df160 ∈ BIG := big_in (List.mem_of_getElem? (i := 653) (by decide +kernel)) (by decide +kernel)
theorem jw_c_chk : Cond.code yJ0_checkIndex_df160 cJ0_checkIndex_df160 2 none ∈ BIG := big_in (List.mem_of_getElem? (i := 654) (by decide +kernel)) (by decide +kernel)
theorem cs_Jchk : CS yJ0_checkIndex_df160 cJ0_checkIndex_df160 2 none 2 := ⟨jw_t_chk, jw_initS, jw_c_chk, by decide +kernel, by decide⟩
theorem jw_t_pre : Cond.static yJ3_checkIndex_8e157 ∈ BIG := big_in (List.mem_of_getElem? (i := 658) (by decide +kernel)) (by decide +kernel)
theorem jw_c_pre : Cond.code yJ3_checkIndex_8e157 cJ3_checkIndex_8e157 3 (some .int) ∈ BIG := big_in (List.mem_of_getElem? (i := 659) (by decide +kernel)) (by decide +kernel)
theorem cs_Jpre : CS yJ3_checkIndex_8e157 cJ3_checkIndex_8e157 3 (some .int) 3 := ⟨jw_t_pre, jw_initP, jw_c_pre, by decide +kernel, by decide⟩
theorem jw_l_coder : Cond.methodLink RJ0 335 yJ0_coder_7d493 ∈ BIG := big_in (List.mem_of_getElem? (i := 635) (by decide +kernel)) (by decide +kernel)
theorem jw_l_lat : Cond.methodLink RJ0 492 yJ0_isLatin1_aae02 ∈ BIG := big_in (List.mem_of_getElem? (i := 645) (by decide +kernel)) (by decide +kernel)
theorem jw_l_l1 : Cond.methodLink RJ0 495 yJ1_charAt_3b067 ∈ BIG := big_in (List.mem_of_getElem? (i := 649) (by decide +kernel)) (by decide +kernel)
theorem jw_l_chk : Cond.methodLink RJ1 9 yJ0_checkIndex_df160 ∈ BIG := big_in (List.mem_of_getElem? (i := 652) (by decide +kernel)) (by decide +kernel)
theorem jw_l_pre : Cond.methodLink RJ0 1059 yJ3_checkIndex_8e157 ∈ BIG := big_in (List.mem_of_getElem? (i := 657) (by decide +kernel)) (by decide +kernel)
theorem jw_f_compact : Cond.fieldLink RJ0 38 "java/lang/String" "COMPACT_STRINGS" "Z" ∈ BIG := big_in (List.mem_of_getElem? (i := 639) (by decide +kernel)) (by decide +kernel)
theorem jw_f_value : Cond.fieldLink RJ0 9 "java/lang/String" "value" "[B" ∈ BIG := big_in (List.mem_of_getElem? (i := 1182) (by decide +kernel)) (by decide +kernel)
theorem jw_f_coder : Cond.fieldLink RJ0 15 "java/lang/String" "coder" "B" ∈ BIG := big_in (List.mem_of_getElem? (i := 1183) (by decide +kernel)) (by decide +kernel)
theorem jw_f_sio : Cond.fieldLink RJ0 1053 "jdk/internal/util/Preconditions" "SIOOBE_FORMATTER" "Ljava/util/function/BiFunction;" ∈ BIG := big_in (List.mem_of_getElem? (i := 655) (by decide +kernel)) (by decide +kernel)
theorem jw_f_ord : Cond.fieldLink "java/lang/Enum" 7 "java/lang/Enum" "ordinal" "I" ∈ BIG := big_in (List.mem_of_getElem? (i := 1185) (by decide +kernel)) (by decide +kernel)
theorem jw_o_same : Cond.sameMethod "LineDisc$Word" "java/lang/Enum" "ordinal" "()I" ∈ BIG := big_in (List.mem_of_getElem? (i := 726) (by decide +kernel)) (by decide +kernel)
theorem jw_o_sel : Cond.selects "LineDisc$Word" ⟨"LineDisc$Word", "ordinal", "()I"⟩ yJx29ce0_ordinal_8abf5 ∈ BIG := big_in (List.mem_of_getElem? (i := 728) (by decide +kernel)) (by decide +kernel)
theorem jw_o_inst : Cond.instanceMethod yJx29ce0_ordinal_8abf5 ∈ BIG := big_in (List.mem_of_getElem? (i := 729) (by decide +kernel)) (by decide +kernel)
theorem jw_o_code : Cond.code yJx29ce0_ordinal_8abf5 cJx29ce0_ordinal_8abf5 1 (some .int) ∈ BIG := big_in (List.mem_of_getElem? (i := 730) (by decide +kernel)) (by decide +kernel)
