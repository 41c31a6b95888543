set_option maxRecDepth 100000 in
theorem mw_0 : Cond.fieldLink RX0 9 "FloodTax$BearTable" "fromDays" "[I" ∈ gw := gw_of (List.mem_of_getElem? (i := 93) rfl) rfl
set_option maxRecDepth 100000 in
theorem mw_1 : Cond.fieldLink RX0 15 "FloodTax$BearTable" "sheavesARope" "[I" ∈ gw := gw_of (List.mem_of_getElem? (i := 95) rfl) rfl
set_option maxRecDepth 100000 in
theorem mw_2 : Cond.fieldLink RX1 24 "FloodTax$DecreeBook" "size" "I" ∈ gw := gw_of (List.mem_of_getElem? (i := 193) rfl) rfl
set_option maxRecDepth 100000 in
theorem mw_3 : Cond.fieldLink RX1 9 "FloodTax$DecreeBook" "kinds" "[I" ∈ gw := gw_of (List.mem_of_getElem? (i := 189) rfl) rfl
set_option maxRecDepth 100000 in
theorem mw_4 : Cond.fieldLink RX1 15 "FloodTax$DecreeBook" "parts" "[I" ∈ gw := gw_of (List.mem_of_getElem? (i := 190) rfl) rfl
set_option maxRecDepth 100000 in
theorem mw_5 : Cond.fieldLink RX1 18 "FloodTax$DecreeBook" "wholes" "[I" ∈ gw := gw_of (List.mem_of_getElem? (i := 191) rfl) rfl
set_option maxRecDepth 100000 in
theorem mw_6 : Cond.fieldLink RX1 21 "FloodTax$DecreeBook" "bounds" "[I" ∈ gw := gw_of (List.mem_of_getElem? (i := 192) rfl) rfl
set_option maxRecDepth 100000 in
theorem mw_7 : Cond.methodLink RX1 28 yX1_lastOf ∈ gw := gw_of (List.mem_of_getElem? (i := 508) rfl) rfl
set_option maxRecDepth 100000 in
theorem mw_8 : Cond.methodLink RX1 32 yX1_partOf ∈ gw := gw_of (List.mem_of_getElem? (i := 516) rfl) rfl
set_option maxRecDepth 100000 in
theorem mw_9 : Cond.fieldLink RX2 9 "FloodTax$Land" "widths" "[I" ∈ gw := gw_of (List.mem_of_getElem? (i := 58) rfl) rfl
set_option maxRecDepth 100000 in
theorem mw_10 : Cond.fieldLink RX2 31 "FloodTax$Land" "strips" "I" ∈ gw := gw_of (List.mem_of_getElem? (i := 69) rfl) rfl
set_option maxRecDepth 100000 in
theorem mw_11 : Cond.fieldLink RX2 15 "FloodTax$Land" "register" "[I" ∈ gw := gw_of (List.mem_of_getElem? (i := 60) rfl) rfl
set_option maxRecDepth 100000 in
theorem mw_12 : Cond.fieldLink RX2 18 "FloodTax$Land" "levels" "[I" ∈ gw := gw_of (List.mem_of_getElem? (i := 62) rfl) rfl
set_option maxRecDepth 100000 in
theorem mw_13 : Cond.fieldLink RX2 21 "FloodTax$Land" "owners" "[I" ∈ gw := gw_of (List.mem_of_getElem? (i := 64) rfl) rfl
set_option maxRecDepth 100000 in
theorem mw_14 : Cond.fieldLink RX2 24 "FloodTax$Land" "lost" "[Z" ∈ gw := gw_of (List.mem_of_getElem? (i := 66) rfl) rfl
set_option maxRecDepth 100000 in
theorem mw_15 : Cond.fieldLink RX2 28 "FloodTax$Land" "rests" "[I" ∈ gw := gw_of (List.mem_of_getElem? (i := 68) rfl) rfl
set_option maxRecDepth 100000 in
theorem mw_16 : Cond.methodLink RX2 35 yX2_giveOneMore ∈ gw := gw_of (List.mem_of_getElem? (i := 323) rfl) rfl
set_option maxRecDepth 100000 in
theorem mw_17 : Cond.methodLink RX3 35 yX1_reliefOn ∈ gw := gw_of (List.mem_of_getElem? (i := 523) rfl) rfl
set_option maxRecDepth 100000 in
theorem mw_18 : Cond.fieldLink RX3 13 "FloodTax$Levy" "relieved" "I" ∈ gw := gw_of (List.mem_of_getElem? (i := 133) rfl) rfl
set_option maxRecDepth 100000 in
theorem mw_19 : Cond.fieldLink RX3 7 "FloodTax$Levy" "due" "I" ∈ gw := gw_of (List.mem_of_getElem? (i := 131) rfl) rfl
set_option maxRecDepth 100000 in
theorem mw_20 : Cond.methodLink RX3 38 yX1_officerPart ∈ gw := gw_of (List.mem_of_getElem? (i := 527) rfl) rfl
set_option maxRecDepth 100000 in
theorem mw_21 : Cond.fieldLink RX3 16 "FloodTax$Levy" "toOfficer" "I" ∈ gw := gw_of (List.mem_of_getElem? (i := 135) rfl) rfl
set_option maxRecDepth 100000 in
theorem mw_22 : Cond.fieldLink RX3 19 "FloodTax$Levy" "toKing" "I" ∈ gw := gw_of (List.mem_of_getElem? (i := 137) rfl) rfl
set_option maxRecDepth 100000 in
theorem mw_23 : Cond.fieldLink RX3 22 "FloodTax$Levy" "toOwner" "I" ∈ gw := gw_of (List.mem_of_getElem? (i := 139) rfl) rfl
set_option maxRecDepth 100000 in
theorem mw_24 : Cond.methodLink RX3 25 yX1_frees ∈ gw := gw_of (List.mem_of_getElem? (i := 504) rfl) rfl
set_option maxRecDepth 100000 in
theorem mw_25 : Cond.methodLink RX3 31 yX1_taxOn ∈ gw := gw_of (List.mem_of_getElem? (i := 512) rfl) rfl
set_option maxRecDepth 100000 in
theorem mw_26 : Cond.fieldLink RX4 9 "FloodTax$River" "days" "[I" ∈ gw := gw_of (List.mem_of_getElem? (i := 29) rfl) rfl
set_option maxRecDepth 100000 in
theorem mw_27 : Cond.fieldLink RX4 21 "FloodTax$River" "told" "I" ∈ gw := gw_of (List.mem_of_getElem? (i := 32) rfl) rfl
set_option maxRecDepth 100000 in
theorem mw_28 : Cond.fieldLink RX4 15 "FloodTax$River" "heights" "[I" ∈ gw := gw_of (List.mem_of_getElem? (i := 30) rfl) rfl
set_option maxRecDepth 100000 in
theorem mw_29 : Cond.fieldLink RX4 18 "FloodTax$River" "knownFrom" "[I" ∈ gw := gw_of (List.mem_of_getElem? (i := 31) rfl) rfl
set_option maxRecDepth 100000 in
theorem mw_30 : Cond.fieldLink RX4 25 "FloodTax$River" "seen" "[I" ∈ gw := gw_of (List.mem_of_getElem? (i := 34) rfl) rfl
set_option maxRecDepth 100000 in
theorem mw_31 : Cond.fieldLink RX4 28 "FloodTax$River" "seenPeak" "I" ∈ gw := gw_of (List.mem_of_getElem? (i := 36) rfl) rfl
set_option maxRecDepth 100000 in
theorem mw_32 : Cond.methodLink RX4 38 Lib.Math.max.name ∈ gw := gw_of (List.mem_of_getElem? (i := 276) rfl) rfl
set_option maxRecDepth 100000 in
theorem mw_33 : Cond.static Lib.Math.max.name ∈ gw := gw_of (List.mem_of_getElem? (i := 277) rfl) rfl
set_option maxRecDepth 100000 in
theorem mw_34 : Cond.initialized "java/lang/Math" ∈ gw := gw_of (List.mem_of_getElem? (i := 10) rfl) rfl
set_option maxRecDepth 100000 in
theorem mw_35 : Cond.code Lib.Math.max.name Lib.Math.max.code 2 (some .int) ∈ gw := gw_of (List.mem_of_getElem? (i := 278) rfl) rfl
set_option maxRecDepth 100000 in
theorem mw_36 : Cond.methodLink RX4 35 yX4_carryOn ∈ gw := gw_of (List.mem_of_getElem? (i := 272) rfl) rfl
set_option maxRecDepth 100000 in
theorem mw_37 : Cond.methodLink RX4 31 yX4_lookUpTo ∈ gw := gw_of (List.mem_of_getElem? (i := 268) rfl) rfl
set_option maxRecDepth 100000 in
theorem mw_38 : Cond.fieldLink RX5 9 "FloodTax$Takings" "officers" "[I" ∈ gw := gw_of (List.mem_of_getElem? (i := 158) rfl) rfl
set_option maxRecDepth 100000 in
theorem mw_39 : Cond.fieldLink RX5 30 "FloodTax$Takings" "size" "I" ∈ gw := gw_of (List.mem_of_getElem? (i := 166) rfl) rfl
set_option maxRecDepth 100000 in
theorem mw_40 : Cond.fieldLink RX5 15 "FloodTax$Takings" "strips" "[I" ∈ gw := gw_of (List.mem_of_getElem? (i := 159) rfl) rfl
set_option maxRecDepth 100000 in
theorem mw_41 : Cond.fieldLink RX5 18 "FloodTax$Takings" "amounts" "[I" ∈ gw := gw_of (List.mem_of_getElem? (i := 160) rfl) rfl
set_option maxRecDepth 100000 in
theorem mw_42 : Cond.fieldLink RX5 21 "FloodTax$Takings" "knownFrom" "[I" ∈ gw := gw_of (List.mem_of_getElem? (i := 161) rfl) rfl
set_option maxRecDepth 100000 in
theorem mw_43 : Cond.fieldLink RX5 27 "FloodTax$Takings" "all" "[I" ∈ gw := gw_of (List.mem_of_getElem? (i := 164) rfl) rfl
set_option maxRecDepth 100000 in
theorem mw_44 : Cond.fieldLink RX5 24 "FloodTax$Takings" "own" "[I" ∈ gw := gw_of (List.mem_of_getElem? (i := 162) rfl) rfl
set_option maxRecDepth 100000 in
theorem mw_45 : Cond.fieldLink RX6 15 "FloodTax$Tape" "length" "I" ∈ gw := gw_of (List.mem_of_getElem? (i := 109) rfl) rfl
set_option maxRecDepth 100000 in
theorem mw_46 : Cond.fieldLink RX6 9 "FloodTax$Tape" "bytes" "[I" ∈ gw := gw_of (List.mem_of_getElem? (i := 108) rfl) rfl
set_option maxRecDepth 100000 in
theorem mw_47 : Cond.fieldLink RX6 25 "FloodTax$Tape" "after" "I" ∈ gw := gw_of (List.mem_of_getElem? (i := 113) rfl) rfl
set_option maxRecDepth 100000 in
theorem mw_48 : Cond.methodLink RX6 97 yX6_kindAt ∈ gw := gw_of (List.mem_of_getElem? (i := 392) rfl) rfl
set_option maxRecDepth 100000 in
theorem mw_49 : Cond.fieldLink RX6 19 "FloodTax$Tape" "kind" "I" ∈ gw := gw_of (List.mem_of_getElem? (i := 111) rfl) rfl
set_option maxRecDepth 100000 in
theorem mw_50 : Cond.fieldLink RX6 22 "FloodTax$Tape" "start" "I" ∈ gw := gw_of (List.mem_of_getElem? (i := 112) rfl) rfl
set_option maxRecDepth 100000 in
theorem mw_51 : Cond.methodLink RX6 89 yJ0_length_8abf5 ∈ gw := gw_of (List.mem_of_getElem? (i := 409) rfl) rfl
set_option maxRecDepth 100000 in
theorem mw_52 : Cond.methodLink RX6 33 yX6_nextToken ∈ gw := gw_of (List.mem_of_getElem? (i := 388) rfl) rfl
set_option maxRecDepth 100000 in
theorem mw_53 : Cond.methodLink RX6 93 yJ0_charAt_5068e ∈ gw := gw_of (List.mem_of_getElem? (i := 419) rfl) rfl
set_option maxRecDepth 100000 in
theorem mw_54 : Cond.methodLink RX6 58 yX6_takeWord ∈ gw := gw_of (List.mem_of_getElem? (i := 405) rfl) rfl
set_option maxRecDepth 100000 in
theorem mw_55 : Cond.methodLink RX6 86 Lib.Math.min.name ∈ gw := gw_of (List.mem_of_getElem? (i := 468) rfl) rfl
set_option maxRecDepth 100000 in
theorem mw_56 : Cond.static Lib.Math.min.name ∈ gw := gw_of (List.mem_of_getElem? (i := 469) rfl) rfl
set_option maxRecDepth 100000 in
theorem mw_57 : Cond.code Lib.Math.min.name Lib.Math.min.code 2 (some .int) ∈ gw := gw_of (List.mem_of_getElem? (i := 470) rfl) rfl
set_option maxRecDepth 100000 in
theorem mw_58 : Cond.methodLink RX6 83 yX6_numberAhead ∈ gw := gw_of (List.mem_of_getElem? (i := 464) rfl) rfl
set_option maxRecDepth 100000 in
theorem mw_59 : Cond.methodLink RX6 48 yX6_takeNumber ∈ gw := gw_of (List.mem_of_getElem? (i := 460) rfl) rfl
set_option maxRecDepth 100000 in
theorem mw_60 : Cond.methodLink RX6 44 yX6_takeDecreeKind ∈ gw := gw_of (List.mem_of_getElem? (i := 400) rfl) rfl
set_option maxRecDepth 100000 in
theorem mw_61 : Cond.methodLink RX6 62 Lib.Math.max.name ∈ gw := gw_of (List.mem_of_getElem? (i := 476) rfl) rfl
set_option maxRecDepth 100000 in
theorem mw_62 : Cond.methodLink RX6 68 yX6_takeBound ∈ gw := gw_of (List.mem_of_getElem? (i := 477) rfl) rfl
set_option maxRecDepth 100000 in
theorem mw_63 : Cond.methodLink RX6 52 yX1_add ∈ gw := gw_of (List.mem_of_getElem? (i := 471) rfl) rfl
set_option maxRecDepth 100000 in
theorem mw_64 : Cond.methodLink RX6 36 yX6_takeDecree ∈ gw := gw_of (List.mem_of_getElem? (i := 396) rfl) rfl
set_option maxRecDepth 100000 in
theorem mw_65 : Cond.methodLink RX6 40 yX6_takeSemicolon ∈ gw := gw_of (List.mem_of_getElem? (i := 483) rfl) rfl
set_option maxRecDepth 100000 in
theorem mw_66 : Cond.methodLink RX7 68 yX7_isWithin ∈ gw := gw_of (List.mem_of_getElem? (i := 242) rfl) rfl
set_option maxRecDepth 100000 in
theorem mw_67 : Cond.fieldLink RX7 65 "FloodTax" "refusal" "I" ∈ gw := gw_of (List.mem_of_getElem? (i := 216) rfl) rfl
set_option maxRecDepth 100000 in
theorem mw_68 : Cond.methodLink RX7 76 yX7_refuse ∈ gw := gw_of (List.mem_of_getElem? (i := 248) rfl) rfl
set_option maxRecDepth 100000 in
theorem mw_69 : Cond.methodLink RX7 72 yX7_isKnownDay ∈ gw := gw_of (List.mem_of_getElem? (i := 245) rfl) rfl
set_option maxRecDepth 100000 in
theorem mw_70 : Cond.fieldLink RX7 10 "FloodTax" "river" "LFloodTax$River;" ∈ gw := gw_of (List.mem_of_getElem? (i := 207) rfl) rfl
set_option maxRecDepth 100000 in
theorem mw_71 : Cond.methodLink RX7 83 yX4_tell ∈ gw := gw_of (List.mem_of_getElem? (i := 252) rfl) rfl
set_option maxRecDepth 100000 in
theorem mw_72 : Cond.methodLink RX7 87 yX7_accept ∈ gw := gw_of (List.mem_of_getElem? (i := 256) rfl) rfl
set_option maxRecDepth 100000 in
theorem mw_73 : Cond.methodLink RX7 90 yX4_look ∈ gw := gw_of (List.mem_of_getElem? (i := 264) rfl) rfl
set_option maxRecDepth 100000 in
theorem mw_74 : Cond.fieldLink RX7 19 "FloodTax" "land" "LFloodTax$Land;" ∈ gw := gw_of (List.mem_of_getElem? (i := 208) rfl) rfl
set_option maxRecDepth 100000 in
theorem mw_75 : Cond.methodLink RX7 104 yX2_addStrip ∈ gw := gw_of (List.mem_of_getElem? (i := 287) rfl) rfl
set_option maxRecDepth 100000 in
theorem mw_76 : Cond.methodLink RX7 107 yX2_hasStrip ∈ gw := gw_of (List.mem_of_getElem? (i := 295) rfl) rfl
set_option maxRecDepth 100000 in
theorem mw_77 : Cond.methodLink RX7 122 yX2_hasMark ∈ gw := gw_of (List.mem_of_getElem? (i := 303) rfl) rfl
set_option maxRecDepth 100000 in
theorem mw_78 : Cond.methodLink RX7 125 yX2_isRock ∈ gw := gw_of (List.mem_of_getElem? (i := 307) rfl) rfl
set_option maxRecDepth 100000 in
theorem mw_79 : Cond.methodLink RX7 132 yX2_canDraw ∈ gw := gw_of (List.mem_of_getElem? (i := 315) rfl) rfl
set_option maxRecDepth 100000 in
theorem mw_80 : Cond.methodLink RX7 135 yX2_partRopes ∈ gw := gw_of (List.mem_of_getElem? (i := 319) rfl) rfl
set_option maxRecDepth 100000 in
theorem mw_81 : Cond.methodLink RX7 138 yX2_setMarksBetween ∈ gw := gw_of (List.mem_of_getElem? (i := 327) rfl) rfl
set_option maxRecDepth 100000 in
theorem mw_82 : Cond.fieldLink RX7 26 "FloodTax" "bearTable" "LFloodTax$BearTable;" ∈ gw := gw_of (List.mem_of_getElem? (i := 209) rfl) rfl
set_option maxRecDepth 100000 in
theorem mw_83 : Cond.methodLink RX7 148 yX4_wetDays ∈ gw := gw_of (List.mem_of_getElem? (i := 343) rfl) rfl
set_option maxRecDepth 100000 in
theorem mw_84 : Cond.methodLink RX7 220 yX0_borneAfter ∈ gw := gw_of (List.mem_of_getElem? (i := 359) rfl) rfl
set_option maxRecDepth 100000 in
theorem mw_85 : Cond.methodLink RX7 217 yX7_harvestAfter ∈ gw := gw_of (List.mem_of_getElem? (i := 355) rfl) rfl
set_option maxRecDepth 100000 in
theorem mw_86 : Cond.methodLink RX7 151 yX7_harvestSeen ∈ gw := gw_of (List.mem_of_getElem? (i := 351) rfl) rfl
set_option maxRecDepth 100000 in
theorem mw_87 : Cond.methodLink RX7 154 yX4_lookUpTo ∈ gw := gw_of (List.mem_of_getElem? (i := 367) rfl) rfl
set_option maxRecDepth 100000 in
theorem mw_88 : Cond.fieldLink RX7 33 "FloodTax" "tape" "LFloodTax$Tape;" ∈ gw := gw_of (List.mem_of_getElem? (i := 210) rfl) rfl
set_option maxRecDepth 100000 in
theorem mw_89 : Cond.methodLink RX7 161 yX6_append ∈ gw := gw_of (List.mem_of_getElem? (i := 372) rfl) rfl
set_option maxRecDepth 100000 in
theorem mw_90 : Cond.fieldLink RX7 58 "FloodTax" "spareBook" "LFloodTax$DecreeBook;" ∈ gw := gw_of (List.mem_of_getElem? (i := 214) rfl) rfl
set_option maxRecDepth 100000 in
theorem mw_91 : Cond.methodLink RX7 164 yX6_parseInto ∈ gw := gw_of (List.mem_of_getElem? (i := 384) rfl) rfl
set_option maxRecDepth 100000 in
theorem mw_92 : Cond.fieldLink RX7 61 "FloodTax" "faultPlace" "I" ∈ gw := gw_of (List.mem_of_getElem? (i := 215) rfl) rfl
set_option maxRecDepth 100000 in
theorem mw_93 : Cond.fieldLink RX7 54 "FloodTax" "book" "LFloodTax$DecreeBook;" ∈ gw := gw_of (List.mem_of_getElem? (i := 213) rfl) rfl
set_option maxRecDepth 100000 in
theorem mw_94 : Cond.fieldLink RX7 40 "FloodTax" "levy" "LFloodTax$Levy;" ∈ gw := gw_of (List.mem_of_getElem? (i := 211) rfl) rfl
set_option maxRecDepth 100000 in
theorem mw_95 : Cond.methodLink RX7 223 yX3_assess ∈ gw := gw_of (List.mem_of_getElem? (i := 500) rfl) rfl
set_option maxRecDepth 100000 in
theorem mw_96 : Cond.methodLink RX7 171 yX7_assessSeen ∈ gw := gw_of (List.mem_of_getElem? (i := 496) rfl) rfl
set_option maxRecDepth 100000 in
theorem mw_97 : Cond.constant RX7 189 (1000000) ∈ gw := gw_of (List.mem_of_getElem? (i := 535) rfl) rfl
set_option maxRecDepth 100000 in
theorem mw_98 : Cond.fieldLink RX7 47 "FloodTax" "takings" "LFloodTax$Takings;" ∈ gw := gw_of (List.mem_of_getElem? (i := 212) rfl) rfl
set_option maxRecDepth 100000 in
theorem mw_99 : Cond.methodLink RX7 191 yX5_add ∈ gw := gw_of (List.mem_of_getElem? (i := 536) rfl) rfl
set_option maxRecDepth 100000 in
theorem mw_100 : Cond.methodLink RX7 230 yX7_share ∈ gw := gw_of (List.mem_of_getElem? (i := 553) rfl) rfl
set_option maxRecDepth 100000 in
theorem mw_101 : Cond.methodLink RX7 203 yX7_gainSeen ∈ gw := gw_of (List.mem_of_getElem? (i := 549) rfl) rfl
set_option maxRecDepth 100000 in
theorem mw_102 : Cond.constantLong RX7 195 (-1) ∈ gw := gw_of (List.mem_of_getElem? (i := 544) rfl) rfl
set_option maxRecDepth 100000 in
theorem mw_103 : Cond.methodLink RX7 197 yX5_sumUp ∈ gw := gw_of (List.mem_of_getElem? (i := 545) rfl) rfl
set_option maxRecDepth 100000 in
theorem mw_104 : Cond.methodLink RX7 207 yX7_whoGets ∈ gw := gw_of (List.mem_of_getElem? (i := 562) rfl) rfl
set_option maxRecDepth 100000 in
theorem mw_105 : Cond.methodLink RX7 210 yX2_lostMarks ∈ gw := gw_of (List.mem_of_getElem? (i := 570) rfl) rfl
set_option maxRecDepth 100000 in
theorem mw_106 : Cond.methodLink RX7 214 yX2_allWidths ∈ gw := gw_of (List.mem_of_getElem? (i := 574) rfl) rfl
set_option maxRecDepth 100000 in
theorem mw_107 : Cond.fieldLink RX8 81 "FloodTaxModel" "status" "I" ∈ gw := gw_of (List.mem_of_getElem? (i := 589) rfl) rfl
set_option maxRecDepth 100000 in
theorem mw_108 : Cond.constantLong RX8 84 (119) ∈ gw := gw_of (List.mem_of_getElem? (i := 713) rfl) rfl
set_option maxRecDepth 100000 in
theorem mw_109 : Cond.methodLink RX8 86 yX8_in ∈ gw := gw_of (List.mem_of_getElem? (i := 714) rfl) rfl
set_option maxRecDepth 100000 in
theorem mw_110 : Cond.constantLong RX8 90 (1000) ∈ gw := gw_of (List.mem_of_getElem? (i := 721) rfl) rfl
set_option maxRecDepth 100000 in
theorem mw_111 : Cond.methodLink RX8 101 yX8_told ∈ gw := gw_of (List.mem_of_getElem? (i := 722) rfl) rfl
set_option maxRecDepth 100000 in
theorem mw_112 : Cond.fieldLink RX8 78 "FloodTaxModel" "thrown" "I" ∈ gw := gw_of (List.mem_of_getElem? (i := 588) rfl) rfl
set_option maxRecDepth 100000 in
theorem mw_113 : Cond.methodLink RX8 92 yX8_isDay ∈ gw := gw_of (List.mem_of_getElem? (i := 710) rfl) rfl
set_option maxRecDepth 100000 in
theorem mw_114 : Cond.constantLong RX8 96 (400) ∈ gw := gw_of (List.mem_of_getElem? (i := 717) rfl) rfl
set_option maxRecDepth 100000 in
theorem mw_115 : Cond.methodLink RX8 98 yX8_isKnown ∈ gw := gw_of (List.mem_of_getElem? (i := 718) rfl) rfl
set_option maxRecDepth 100000 in
theorem mw_116 : Cond.fieldLink RX8 105 "FloodTaxModel" "readings" "I" ∈ gw := gw_of (List.mem_of_getElem? (i := 590) rfl) rfl
set_option maxRecDepth 100000 in
theorem mw_117 : Cond.fieldLink RX8 7 "FloodTaxModel" "rDay" "[I" ∈ gw := gw_of (List.mem_of_getElem? (i := 591) rfl) rfl
set_option maxRecDepth 100000 in
theorem mw_118 : Cond.fieldLink RX8 13 "FloodTaxModel" "rHeight" "[I" ∈ gw := gw_of (List.mem_of_getElem? (i := 592) rfl) rfl
set_option maxRecDepth 100000 in
theorem mw_119 : Cond.fieldLink RX8 16 "FloodTaxModel" "rKnown" "[I" ∈ gw := gw_of (List.mem_of_getElem? (i := 593) rfl) rfl
set_option maxRecDepth 100000 in
theorem mw_120 : Cond.fieldLink RX8 19 "FloodTaxModel" "heights" "[I" ∈ gw := gw_of (List.mem_of_getElem? (i := 594) rfl) rfl
set_option maxRecDepth 100000 in
theorem mw_121 : Cond.methodLink RX8 108 yX8_find ∈ gw := gw_of (List.mem_of_getElem? (i := 730) rfl) rfl
set_option maxRecDepth 100000 in
theorem mw_122 : Cond.methodLink RX8 112 yX8_peakOf ∈ gw := gw_of (List.mem_of_getElem? (i := 738) rfl) rfl
set_option maxRecDepth 100000 in
theorem mw_123 : Cond.fieldLink RX8 116 "FloodTaxModel" "strips" "I" ∈ gw := gw_of (List.mem_of_getElem? (i := 595) rfl) rfl
set_option maxRecDepth 100000 in
theorem mw_124 : Cond.constantLong RX8 119 (19) ∈ gw := gw_of (List.mem_of_getElem? (i := 746) rfl) rfl
set_option maxRecDepth 100000 in
theorem mw_125 : Cond.fieldLink RX8 22 "FloodTaxModel" "register" "[I" ∈ gw := gw_of (List.mem_of_getElem? (i := 596) rfl) rfl
set_option maxRecDepth 100000 in
theorem mw_126 : Cond.fieldLink RX8 25 "FloodTaxModel" "land" "[I" ∈ gw := gw_of (List.mem_of_getElem? (i := 597) rfl) rfl
set_option maxRecDepth 100000 in
theorem mw_127 : Cond.fieldLink RX8 28 "FloodTaxModel" "levels" "[I" ∈ gw := gw_of (List.mem_of_getElem? (i := 598) rfl) rfl
set_option maxRecDepth 100000 in
theorem mw_128 : Cond.fieldLink RX8 31 "FloodTaxModel" "owners" "[I" ∈ gw := gw_of (List.mem_of_getElem? (i := 599) rfl) rfl
set_option maxRecDepth 100000 in
theorem mw_129 : Cond.methodLink RX8 121 yX8_isStrip ∈ gw := gw_of (List.mem_of_getElem? (i := 751) rfl) rfl
set_option maxRecDepth 100000 in
theorem mw_130 : Cond.methodLink RX8 124 yX8_isMark ∈ gw := gw_of (List.mem_of_getElem? (i := 759) rfl) rfl
set_option maxRecDepth 100000 in
theorem mw_131 : Cond.fieldLink RX8 34 "FloodTaxModel" "isLost" "[Z" ∈ gw := gw_of (List.mem_of_getElem? (i := 600) rfl) rfl
set_option maxRecDepth 100000 in
theorem mw_132 : Cond.constantLong RX8 127 (10000) ∈ gw := gw_of (List.mem_of_getElem? (i := 767) rfl) rfl
set_option maxRecDepth 100000 in
theorem mw_133 : Cond.constantLong RX8 129 (7) ∈ gw := gw_of (List.mem_of_getElem? (i := 776) rfl) rfl
set_option maxRecDepth 100000 in
theorem mw_134 : Cond.constantLong RX8 131 (120) ∈ gw := gw_of (List.mem_of_getElem? (i := 777) rfl) rfl
set_option maxRecDepth 100000 in
theorem mw_135 : Cond.constantLong RX8 133 (100) ∈ gw := gw_of (List.mem_of_getElem? (i := 778) rfl) rfl
set_option maxRecDepth 100000 in
theorem mw_136 : Cond.fieldLink RX8 38 "FloodTaxModel" "tableDays" "[I" ∈ gw := gw_of (List.mem_of_getElem? (i := 601) rfl) rfl
set_option maxRecDepth 100000 in
theorem mw_137 : Cond.fieldLink RX8 41 "FloodTaxModel" "tableSheaves" "[I" ∈ gw := gw_of (List.mem_of_getElem? (i := 602) rfl) rfl
set_option maxRecDepth 100000 in
theorem mw_138 : Cond.methodLink RX8 135 yX8_wetOf ∈ gw := gw_of (List.mem_of_getElem? (i := 783) rfl) rfl
set_option maxRecDepth 100000 in
theorem mw_139 : Cond.methodLink RX8 138 yX8_harvestOf ∈ gw := gw_of (List.mem_of_getElem? (i := 791) rfl) rfl
set_option maxRecDepth 100000 in
theorem mw_140 : Cond.fieldLink RX8 59 "FloodTaxModel" "tape" "[I" ∈ gw := gw_of (List.mem_of_getElem? (i := 610) rfl) rfl
set_option maxRecDepth 100000 in
theorem mw_141 : Cond.fieldLink RX8 141 "FloodTaxModel" "taped" "I" ∈ gw := gw_of (List.mem_of_getElem? (i := 611) rfl) rfl
set_option maxRecDepth 100000 in
theorem mw_142 : Cond.methodLink RX8 144 yX8_four ∈ gw := gw_of (List.mem_of_getElem? (i := 803) rfl) rfl
set_option maxRecDepth 100000 in
theorem mw_143 : Cond.fieldLink RX8 154 "FloodTaxModel" "worth" "J" ∈ gw := gw_of (List.mem_of_getElem? (i := 615) rfl) rfl
set_option maxRecDepth 100000 in
theorem mw_144 : Cond.fieldLink RX8 148 "FloodTaxModel" "to" "I" ∈ gw := gw_of (List.mem_of_getElem? (i := 613) rfl) rfl
set_option maxRecDepth 100000 in
theorem mw_145 : Cond.fieldLink RX8 164 "FloodTaxModel" "sort" "I" ∈ gw := gw_of (List.mem_of_getElem? (i := 614) rfl) rfl
set_option maxRecDepth 100000 in
theorem mw_146 : Cond.methodLink RX8 161 yX8_isDigit ∈ gw := gw_of (List.mem_of_getElem? (i := 822) rfl) rfl
set_option maxRecDepth 100000 in
theorem mw_147 : Cond.constantLong RX8 173 (10) ∈ gw := gw_of (List.mem_of_getElem? (i := 828) rfl) rfl
set_option maxRecDepth 100000 in
theorem mw_148 : Cond.constantLong RX8 175 (48) ∈ gw := gw_of (List.mem_of_getElem? (i := 829) rfl) rfl
set_option maxRecDepth 100000 in
theorem mw_149 : Cond.methodLink RX8 158 yX8_isSmall ∈ gw := gw_of (List.mem_of_getElem? (i := 819) rfl) rfl
set_option maxRecDepth 100000 in
theorem mw_150 : Cond.fieldLink RX8 151 "FloodTaxModel" "from" "I" ∈ gw := gw_of (List.mem_of_getElem? (i := 612) rfl) rfl
set_option maxRecDepth 100000 in
theorem mw_151 : Cond.constantLong RX8 171 (-1) ∈ gw := gw_of (List.mem_of_getElem? (i := 827) rfl) rfl
set_option maxRecDepth 100000 in
theorem mw_152 : Cond.constantLong RX8 167 (32) ∈ gw := gw_of (List.mem_of_getElem? (i := 825) rfl) rfl
set_option maxRecDepth 100000 in
theorem mw_153 : Cond.constantLong RX8 169 (96) ∈ gw := gw_of (List.mem_of_getElem? (i := 826) rfl) rfl
set_option maxRecDepth 100000 in
theorem mw_154 : Cond.fieldLink RX8 177 "FloodTaxModel" "bad" "Z" ∈ gw := gw_of (List.mem_of_getElem? (i := 617) rfl) rfl
set_option maxRecDepth 100000 in
theorem mw_155 : Cond.methodLink RX8 181 yX8_next ∈ gw := gw_of (List.mem_of_getElem? (i := 815) rfl) rfl
set_option maxRecDepth 100000 in
theorem mw_156 : Cond.fieldLink RX8 62 "FloodTaxModel" "fault" "I" ∈ gw := gw_of (List.mem_of_getElem? (i := 616) rfl) rfl
set_option maxRecDepth 100000 in
theorem mw_157 : Cond.methodLink RX8 184 yX8_must ∈ gw := gw_of (List.mem_of_getElem? (i := 838) rfl) rfl
set_option maxRecDepth 100000 in
theorem mw_158 : Cond.fieldLink RX8 56 "FloodTaxModel" "nDecree" "[I" ∈ gw := gw_of (List.mem_of_getElem? (i := 609) rfl) rfl
set_option maxRecDepth 100000 in
theorem mw_159 : Cond.fieldLink RX8 192 "FloodTaxModel" "nMany" "I" ∈ gw := gw_of (List.mem_of_getElem? (i := 608) rfl) rfl
set_option maxRecDepth 100000 in
theorem mw_160 : Cond.methodLink RX8 195 yX8_number ∈ gw := gw_of (List.mem_of_getElem? (i := 842) rfl) rfl
set_option maxRecDepth 100000 in
theorem mw_161 : Cond.methodLink RX8 188 yX8_isWord ∈ gw := gw_of (List.mem_of_getElem? (i := 834) rfl) rfl
set_option maxRecDepth 100000 in
theorem mw_162 : Cond.fieldLink RX8 204 "FloodTaxModel" "decrees" "I" ∈ gw := gw_of (List.mem_of_getElem? (i := 603) rfl) rfl
set_option maxRecDepth 100000 in
theorem mw_163 : Cond.fieldLink RX8 44 "FloodTaxModel" "dSort" "[I" ∈ gw := gw_of (List.mem_of_getElem? (i := 604) rfl) rfl
set_option maxRecDepth 100000 in
theorem mw_164 : Cond.fieldLink RX8 47 "FloodTaxModel" "dA" "[I" ∈ gw := gw_of (List.mem_of_getElem? (i := 605) rfl) rfl
set_option maxRecDepth 100000 in
theorem mw_165 : Cond.fieldLink RX8 50 "FloodTaxModel" "dB" "[I" ∈ gw := gw_of (List.mem_of_getElem? (i := 606) rfl) rfl
set_option maxRecDepth 100000 in
theorem mw_166 : Cond.fieldLink RX8 53 "FloodTaxModel" "dC" "[I" ∈ gw := gw_of (List.mem_of_getElem? (i := 607) rfl) rfl
set_option maxRecDepth 100000 in
theorem mw_167 : Cond.constantLong RX8 202 (59) ∈ gw := gw_of (List.mem_of_getElem? (i := 846) rfl) rfl
set_option maxRecDepth 100000 in
theorem mw_168 : Cond.methodLink RX8 199 yX8_readDecree ∈ gw := gw_of (List.mem_of_getElem? (i := 830) rfl) rfl
set_option maxRecDepth 100000 in
theorem mw_169 : Cond.fieldLink RX8 216 "FloodTaxModel" "officers" "I" ∈ gw := gw_of (List.mem_of_getElem? (i := 620) rfl) rfl
set_option maxRecDepth 100000 in
theorem mw_170 : Cond.fieldLink RX8 210 "FloodTaxModel" "relief" "I" ∈ gw := gw_of (List.mem_of_getElem? (i := 619) rfl) rfl
set_option maxRecDepth 100000 in
theorem mw_171 : Cond.fieldLink RX8 213 "FloodTaxModel" "tax" "I" ∈ gw := gw_of (List.mem_of_getElem? (i := 618) rfl) rfl
set_option maxRecDepth 100000 in
theorem mw_172 : Cond.fieldLink RX8 207 "FloodTaxModel" "harvest" "I" ∈ gw := gw_of (List.mem_of_getElem? (i := 621) rfl) rfl
set_option maxRecDepth 100000 in
theorem mw_173 : Cond.methodLink RX8 219 yX8_reckon ∈ gw := gw_of (List.mem_of_getElem? (i := 855) rfl) rfl
set_option maxRecDepth 100000 in
theorem mw_174 : Cond.constantLong RX8 222 (9) ∈ gw := gw_of (List.mem_of_getElem? (i := 863) rfl) rfl
set_option maxRecDepth 100000 in
theorem mw_175 : Cond.constantLong RX8 224 (1000000) ∈ gw := gw_of (List.mem_of_getElem? (i := 864) rfl) rfl
set_option maxRecDepth 100000 in
theorem mw_176 : Cond.fieldLink RX8 226 "FloodTaxModel" "taken" "I" ∈ gw := gw_of (List.mem_of_getElem? (i := 622) rfl) rfl
set_option maxRecDepth 100000 in
theorem mw_177 : Cond.fieldLink RX8 66 "FloodTaxModel" "tOfficer" "[I" ∈ gw := gw_of (List.mem_of_getElem? (i := 623) rfl) rfl
set_option maxRecDepth 100000 in
theorem mw_178 : Cond.fieldLink RX8 69 "FloodTaxModel" "tStrip" "[I" ∈ gw := gw_of (List.mem_of_getElem? (i := 624) rfl) rfl
set_option maxRecDepth 100000 in
theorem mw_179 : Cond.fieldLink RX8 72 "FloodTaxModel" "tSheaves" "[I" ∈ gw := gw_of (List.mem_of_getElem? (i := 625) rfl) rfl
set_option maxRecDepth 100000 in
theorem mw_180 : Cond.fieldLink RX8 75 "FloodTaxModel" "tKnown" "[I" ∈ gw := gw_of (List.mem_of_getElem? (i := 626) rfl) rfl
set_option maxRecDepth 100000 in
theorem mw_181 : Cond.code yX0_borneAfter cX0_borneAfter 5 (some .int) ∈ gw := gw_of (List.mem_of_getElem? (i := 362) rfl) rfl
set_option maxRecDepth 100000 in
theorem mw_182 : Cond.instanceMethod yX0_borneAfter ∈ gw := gw_of (List.mem_of_getElem? (i := 360) rfl) rfl
set_option maxRecDepth 100000 in
theorem mw_183 : Cond.selects RX0 yX0_borneAfter yX0_borneAfter ∈ gw := gw_of (List.mem_of_getElem? (i := 361) rfl) rfl
set_option maxRecDepth 100000 in
theorem mw_184 : Cond.initialized RX0 ∈ gw := gw_of (List.mem_of_getElem? (i := 4) rfl) rfl
set_option maxRecDepth 100000 in
theorem mw_185 : Cond.code yX1_add cX1_add 5 none ∈ gw := gw_of (List.mem_of_getElem? (i := 474) rfl) rfl
set_option maxRecDepth 100000 in
theorem mw_186 : Cond.instanceMethod yX1_add ∈ gw := gw_of (List.mem_of_getElem? (i := 472) rfl) rfl
set_option maxRecDepth 100000 in
theorem mw_187 : Cond.selects RX1 yX1_add yX1_add ∈ gw := gw_of (List.mem_of_getElem? (i := 473) rfl) rfl
set_option maxRecDepth 100000 in
theorem mw_188 : Cond.initialized RX1 ∈ gw := gw_of (List.mem_of_getElem? (i := 8) rfl) rfl
set_option maxRecDepth 100000 in
theorem mw_189 : Cond.code yX1_frees cX1_frees 3 (some .boolean) ∈ gw := gw_of (List.mem_of_getElem? (i := 507) rfl) rfl
set_option maxRecDepth 100000 in
theorem mw_190 : Cond.instanceMethod yX1_frees ∈ gw := gw_of (List.mem_of_getElem? (i := 505) rfl) rfl
set_option maxRecDepth 100000 in
theorem mw_191 : Cond.selects RX1 yX1_frees yX1_frees ∈ gw := gw_of (List.mem_of_getElem? (i := 506) rfl) rfl
set_option maxRecDepth 100000 in
theorem mw_192 : Cond.code yX1_lastOf cX1_lastOf 4 (some .int) ∈ gw := gw_of (List.mem_of_getElem? (i := 511) rfl) rfl
set_option maxRecDepth 100000 in
theorem mw_193 : Cond.instanceMethod yX1_lastOf ∈ gw := gw_of (List.mem_of_getElem? (i := 510) rfl) rfl
set_option maxRecDepth 100000 in
theorem mw_194 : Cond.selects RX1 yX1_lastOf yX1_lastOf ∈ gw := gw_ofs (List.mem_of_getElem? (i := 16) rfl) rfl
set_option maxRecDepth 100000 in
theorem mw_195 : Cond.code yX1_taxOn cX1_taxOn 5 (some .int) ∈ gw := gw_of (List.mem_of_getElem? (i := 515) rfl) rfl
set_option maxRecDepth 100000 in
theorem mw_196 : Cond.instanceMethod yX1_taxOn ∈ gw := gw_of (List.mem_of_getElem? (i := 513) rfl) rfl
set_option maxRecDepth 100000 in
theorem mw_197 : Cond.selects RX1 yX1_taxOn yX1_taxOn ∈ gw := gw_of (List.mem_of_getElem? (i := 514) rfl) rfl
set_option maxRecDepth 100000 in
theorem mw_198 : Cond.code yX1_partOf cX1_partOf 3 (some .int) ∈ gw := gw_of (List.mem_of_getElem? (i := 519) rfl) rfl
set_option maxRecDepth 100000 in
theorem mw_199 : Cond.instanceMethod yX1_partOf ∈ gw := gw_of (List.mem_of_getElem? (i := 518) rfl) rfl
set_option maxRecDepth 100000 in
theorem mw_200 : Cond.selects RX1 yX1_partOf yX1_partOf ∈ gw := gw_ofs (List.mem_of_getElem? (i := 17) rfl) rfl
set_option maxRecDepth 100000 in
theorem mw_201 : Cond.code yX7_share cX7_share 6 (some .long) ∈ gw := gw_of (List.mem_of_getElem? (i := 522) rfl) rfl
set_option maxRecDepth 100000 in
theorem mw_202 : Cond.static yX7_share ∈ gw := gw_of (List.mem_of_getElem? (i := 521) rfl) rfl
set_option maxRecDepth 100000 in
theorem mw_203 : Cond.initialized RX7 ∈ gw := gw_of (List.mem_of_getElem? (i := 1) rfl) rfl
set_option maxRecDepth 100000 in
theorem mw_204 : Cond.code yX1_reliefOn cX1_reliefOn 5 (some .int) ∈ gw := gw_of (List.mem_of_getElem? (i := 526) rfl) rfl
set_option maxRecDepth 100000 in
theorem mw_205 : Cond.instanceMethod yX1_reliefOn ∈ gw := gw_of (List.mem_of_getElem? (i := 524) rfl) rfl
set_option maxRecDepth 100000 in
theorem mw_206 : Cond.selects RX1 yX1_reliefOn yX1_reliefOn ∈ gw := gw_of (List.mem_of_getElem? (i := 525) rfl) rfl
set_option maxRecDepth 100000 in
theorem mw_207 : Cond.code yX1_officerPart cX1_officerPart 2 (some .int) ∈ gw := gw_of (List.mem_of_getElem? (i := 530) rfl) rfl
set_option maxRecDepth 100000 in
theorem mw_208 : Cond.instanceMethod yX1_officerPart ∈ gw := gw_of (List.mem_of_getElem? (i := 528) rfl) rfl
set_option maxRecDepth 100000 in
theorem mw_209 : Cond.selects RX1 yX1_officerPart yX1_officerPart ∈ gw := gw_of (List.mem_of_getElem? (i := 529) rfl) rfl
set_option maxRecDepth 100000 in
theorem mw_210 : Cond.code yX2_addStrip cX2_addStrip 4 none ∈ gw := gw_of (List.mem_of_getElem? (i := 290) rfl) rfl
set_option maxRecDepth 100000 in
theorem mw_211 : Cond.instanceMethod yX2_addStrip ∈ gw := gw_of (List.mem_of_getElem? (i := 288) rfl) rfl
set_option maxRecDepth 100000 in
theorem mw_212 : Cond.selects RX2 yX2_addStrip yX2_addStrip ∈ gw := gw_of (List.mem_of_getElem? (i := 289) rfl) rfl
set_option maxRecDepth 100000 in
theorem mw_213 : Cond.initialized RX2 ∈ gw := gw_of (List.mem_of_getElem? (i := 3) rfl) rfl
set_option maxRecDepth 100000 in
theorem mw_214 : Cond.code yX2_hasStrip cX2_hasStrip 2 (some .boolean) ∈ gw := gw_of (List.mem_of_getElem? (i := 298) rfl) rfl
set_option maxRecDepth 100000 in
theorem mw_215 : Cond.instanceMethod yX2_hasStrip ∈ gw := gw_of (List.mem_of_getElem? (i := 296) rfl) rfl
set_option maxRecDepth 100000 in
theorem mw_216 : Cond.selects RX2 yX2_hasStrip yX2_hasStrip ∈ gw := gw_of (List.mem_of_getElem? (i := 297) rfl) rfl
set_option maxRecDepth 100000 in
theorem mw_217 : Cond.code yX2_hasMark cX2_hasMark 2 (some .boolean) ∈ gw := gw_of (List.mem_of_getElem? (i := 306) rfl) rfl
set_option maxRecDepth 100000 in
theorem mw_218 : Cond.instanceMethod yX2_hasMark ∈ gw := gw_of (List.mem_of_getElem? (i := 304) rfl) rfl
set_option maxRecDepth 100000 in
theorem mw_219 : Cond.selects RX2 yX2_hasMark yX2_hasMark ∈ gw := gw_of (List.mem_of_getElem? (i := 305) rfl) rfl
set_option maxRecDepth 100000 in
theorem mw_220 : Cond.code yX2_isRock cX2_isRock 2 (some .boolean) ∈ gw := gw_of (List.mem_of_getElem? (i := 310) rfl) rfl
set_option maxRecDepth 100000 in
theorem mw_221 : Cond.instanceMethod yX2_isRock ∈ gw := gw_of (List.mem_of_getElem? (i := 308) rfl) rfl
set_option maxRecDepth 100000 in
theorem mw_222 : Cond.selects RX2 yX2_isRock yX2_isRock ∈ gw := gw_of (List.mem_of_getElem? (i := 309) rfl) rfl
set_option maxRecDepth 100000 in
theorem mw_223 : Cond.code yX2_canDraw cX2_canDraw 4 (some .boolean) ∈ gw := gw_of (List.mem_of_getElem? (i := 318) rfl) rfl
set_option maxRecDepth 100000 in
theorem mw_224 : Cond.instanceMethod yX2_canDraw ∈ gw := gw_of (List.mem_of_getElem? (i := 316) rfl) rfl
set_option maxRecDepth 100000 in
theorem mw_225 : Cond.selects RX2 yX2_canDraw yX2_canDraw ∈ gw := gw_of (List.mem_of_getElem? (i := 317) rfl) rfl
set_option maxRecDepth 100000 in
theorem mw_226 : Cond.code yX2_partRopes cX2_partRopes 8 none ∈ gw := gw_of (List.mem_of_getElem? (i := 322) rfl) rfl
set_option maxRecDepth 100000 in
theorem mw_227 : Cond.instanceMethod yX2_partRopes ∈ gw := gw_of (List.mem_of_getElem? (i := 320) rfl) rfl
set_option maxRecDepth 100000 in
theorem mw_228 : Cond.selects RX2 yX2_partRopes yX2_partRopes ∈ gw := gw_of (List.mem_of_getElem? (i := 321) rfl) rfl
set_option maxRecDepth 100000 in
theorem mw_229 : Cond.code yX2_giveOneMore cX2_giveOneMore 5 none ∈ gw := gw_of (List.mem_of_getElem? (i := 326) rfl) rfl
set_option maxRecDepth 100000 in
theorem mw_230 : Cond.instanceMethod yX2_giveOneMore ∈ gw := gw_of (List.mem_of_getElem? (i := 325) rfl) rfl
set_option maxRecDepth 100000 in
theorem mw_231 : Cond.selects RX2 yX2_giveOneMore yX2_giveOneMore ∈ gw := gw_ofs (List.mem_of_getElem? (i := 3) rfl) rfl
set_option maxRecDepth 100000 in
theorem mw_232 : Cond.code yX2_setMarksBetween cX2_setMarksBetween 4 (some .int) ∈ gw := gw_of (List.mem_of_getElem? (i := 330) rfl) rfl
set_option maxRecDepth 100000 in
theorem mw_233 : Cond.instanceMethod yX2_setMarksBetween ∈ gw := gw_of (List.mem_of_getElem? (i := 328) rfl) rfl
set_option maxRecDepth 100000 in
theorem mw_234 : Cond.selects RX2 yX2_setMarksBetween yX2_setMarksBetween ∈ gw := gw_of (List.mem_of_getElem? (i := 329) rfl) rfl
set_option maxRecDepth 100000 in
theorem mw_235 : Cond.code yX2_lostMarks cX2_lostMarks 3 (some .int) ∈ gw := gw_of (List.mem_of_getElem? (i := 573) rfl) rfl
set_option maxRecDepth 100000 in
theorem mw_236 : Cond.instanceMethod yX2_lostMarks ∈ gw := gw_of (List.mem_of_getElem? (i := 571) rfl) rfl
set_option maxRecDepth 100000 in
theorem mw_237 : Cond.selects RX2 yX2_lostMarks yX2_lostMarks ∈ gw := gw_of (List.mem_of_getElem? (i := 572) rfl) rfl
set_option maxRecDepth 100000 in
theorem mw_238 : Cond.code yX2_allWidths cX2_allWidths 3 (some .int) ∈ gw := gw_of (List.mem_of_getElem? (i := 577) rfl) rfl
set_option maxRecDepth 100000 in
theorem mw_239 : Cond.instanceMethod yX2_allWidths ∈ gw := gw_of (List.mem_of_getElem? (i := 575) rfl) rfl
set_option maxRecDepth 100000 in
theorem mw_240 : Cond.selects RX2 yX2_allWidths yX2_allWidths ∈ gw := gw_of (List.mem_of_getElem? (i := 576) rfl) rfl
set_option maxRecDepth 100000 in
theorem mw_241 : Cond.code yX3_assess cX3_assess 6 none ∈ gw := gw_of (List.mem_of_getElem? (i := 503) rfl) rfl
set_option maxRecDepth 100000 in
theorem mw_242 : Cond.instanceMethod yX3_assess ∈ gw := gw_of (List.mem_of_getElem? (i := 501) rfl) rfl
set_option maxRecDepth 100000 in
theorem mw_243 : Cond.selects RX3 yX3_assess yX3_assess ∈ gw := gw_of (List.mem_of_getElem? (i := 502) rfl) rfl
set_option maxRecDepth 100000 in
theorem mw_244 : Cond.initialized RX3 ∈ gw := gw_of (List.mem_of_getElem? (i := 6) rfl) rfl
set_option maxRecDepth 100000 in
theorem mw_245 : Cond.code yX4_tell cX4_tell 4 none ∈ gw := gw_of (List.mem_of_getElem? (i := 255) rfl) rfl
set_option maxRecDepth 100000 in
theorem mw_246 : Cond.instanceMethod yX4_tell ∈ gw := gw_of (List.mem_of_getElem? (i := 253) rfl) rfl
set_option maxRecDepth 100000 in
theorem mw_247 : Cond.selects RX4 yX4_tell yX4_tell ∈ gw := gw_of (List.mem_of_getElem? (i := 254) rfl) rfl
set_option maxRecDepth 100000 in
theorem mw_248 : Cond.initialized RX4 ∈ gw := gw_of (List.mem_of_getElem? (i := 2) rfl) rfl
set_option maxRecDepth 100000 in
theorem mw_249 : Cond.code yX4_look cX4_look 2 none ∈ gw := gw_of (List.mem_of_getElem? (i := 267) rfl) rfl
set_option maxRecDepth 100000 in
theorem mw_250 : Cond.instanceMethod yX4_look ∈ gw := gw_of (List.mem_of_getElem? (i := 265) rfl) rfl
set_option maxRecDepth 100000 in
theorem mw_251 : Cond.selects RX4 yX4_look yX4_look ∈ gw := gw_of (List.mem_of_getElem? (i := 266) rfl) rfl
set_option maxRecDepth 100000 in
theorem mw_252 : Cond.code yX4_lookUpTo cX4_lookUpTo 4 none ∈ gw := gw_of (List.mem_of_getElem? (i := 271) rfl) rfl
set_option maxRecDepth 100000 in
theorem mw_253 : Cond.instanceMethod yX4_lookUpTo ∈ gw := gw_of (List.mem_of_getElem? (i := 269) rfl) rfl
set_option maxRecDepth 100000 in
theorem mw_254 : Cond.selects RX4 yX4_lookUpTo yX4_lookUpTo ∈ gw := gw_of (List.mem_of_getElem? (i := 270) rfl) rfl
set_option maxRecDepth 100000 in
theorem mw_255 : Cond.code yX4_carryOn cX4_carryOn 3 none ∈ gw := gw_of (List.mem_of_getElem? (i := 275) rfl) rfl
set_option maxRecDepth 100000 in
theorem mw_256 : Cond.instanceMethod yX4_carryOn ∈ gw := gw_of (List.mem_of_getElem? (i := 274) rfl) rfl
set_option maxRecDepth 100000 in
theorem mw_257 : Cond.selects RX4 yX4_carryOn yX4_carryOn ∈ gw := gw_ofs (List.mem_of_getElem? (i := 2) rfl) rfl
set_option maxRecDepth 100000 in
theorem mw_258 : Cond.code yX4_wetDays cX4_wetDays 4 (some .int) ∈ gw := gw_of (List.mem_of_getElem? (i := 346) rfl) rfl
set_option maxRecDepth 100000 in
theorem mw_259 : Cond.instanceMethod yX4_wetDays ∈ gw := gw_of (List.mem_of_getElem? (i := 344) rfl) rfl
set_option maxRecDepth 100000 in
theorem mw_260 : Cond.selects RX4 yX4_wetDays yX4_wetDays ∈ gw := gw_of (List.mem_of_getElem? (i := 345) rfl) rfl
set_option maxRecDepth 100000 in
theorem mw_261 : Cond.code yX5_add cX5_add 5 none ∈ gw := gw_of (List.mem_of_getElem? (i := 539) rfl) rfl
set_option maxRecDepth 100000 in
theorem mw_262 : Cond.instanceMethod yX5_add ∈ gw := gw_of (List.mem_of_getElem? (i := 537) rfl) rfl
set_option maxRecDepth 100000 in
theorem mw_263 : Cond.selects RX5 yX5_add yX5_add ∈ gw := gw_of (List.mem_of_getElem? (i := 538) rfl) rfl
set_option maxRecDepth 100000 in
theorem mw_264 : Cond.initialized RX5 ∈ gw := gw_of (List.mem_of_getElem? (i := 7) rfl) rfl
set_option maxRecDepth 100000 in
theorem mw_265 : Cond.code yX5_sumUp cX5_sumUp 4 none ∈ gw := gw_of (List.mem_of_getElem? (i := 548) rfl) rfl
set_option maxRecDepth 100000 in
theorem mw_266 : Cond.instanceMethod yX5_sumUp ∈ gw := gw_of (List.mem_of_getElem? (i := 546) rfl) rfl
set_option maxRecDepth 100000 in
theorem mw_267 : Cond.selects RX5 yX5_sumUp yX5_sumUp ∈ gw := gw_of (List.mem_of_getElem? (i := 547) rfl) rfl
set_option maxRecDepth 100000 in
theorem mw_268 : Cond.code yX6_append cX6_append 3 none ∈ gw := gw_of (List.mem_of_getElem? (i := 375) rfl) rfl
set_option maxRecDepth 100000 in
theorem mw_269 : Cond.instanceMethod yX6_append ∈ gw := gw_of (List.mem_of_getElem? (i := 373) rfl) rfl
set_option maxRecDepth 100000 in
theorem mw_270 : Cond.selects RX6 yX6_append yX6_append ∈ gw := gw_of (List.mem_of_getElem? (i := 374) rfl) rfl
set_option maxRecDepth 100000 in
theorem mw_271 : Cond.initialized RX6 ∈ gw := gw_of (List.mem_of_getElem? (i := 5) rfl) rfl
set_option maxRecDepth 100000 in
theorem mw_272 : Cond.code yX6_parseInto cX6_parseInto 3 (some .int) ∈ gw := gw_of (List.mem_of_getElem? (i := 387) rfl) rfl
set_option maxRecDepth 100000 in
theorem mw_273 : Cond.instanceMethod yX6_parseInto ∈ gw := gw_of (List.mem_of_getElem? (i := 385) rfl) rfl
set_option maxRecDepth 100000 in
theorem mw_274 : Cond.selects RX6 yX6_parseInto yX6_parseInto ∈ gw := gw_of (List.mem_of_getElem? (i := 386) rfl) rfl
set_option maxRecDepth 100000 in
theorem mw_275 : Cond.code yX6_nextToken cX6_nextToken 2 none ∈ gw := gw_of (List.mem_of_getElem? (i := 391) rfl) rfl
set_option maxRecDepth 100000 in
theorem mw_276 : Cond.instanceMethod yX6_nextToken ∈ gw := gw_of (List.mem_of_getElem? (i := 390) rfl) rfl
set_option maxRecDepth 100000 in
theorem mw_277 : Cond.selects RX6 yX6_nextToken yX6_nextToken ∈ gw := gw_ofs (List.mem_of_getElem? (i := 6) rfl) rfl
set_option maxRecDepth 100000 in
theorem mw_278 : Cond.code yX6_kindAt cX6_kindAt 3 (some .int) ∈ gw := gw_of (List.mem_of_getElem? (i := 395) rfl) rfl
set_option maxRecDepth 100000 in
theorem mw_279 : Cond.instanceMethod yX6_kindAt ∈ gw := gw_of (List.mem_of_getElem? (i := 394) rfl) rfl
set_option maxRecDepth 100000 in
theorem mw_280 : Cond.selects RX6 yX6_kindAt yX6_kindAt ∈ gw := gw_ofs (List.mem_of_getElem? (i := 7) rfl) rfl
set_option maxRecDepth 100000 in
theorem mw_281 : Cond.code yX6_takeDecree cX6_takeDecree 6 (some .boolean) ∈ gw := gw_of (List.mem_of_getElem? (i := 399) rfl) rfl
set_option maxRecDepth 100000 in
theorem mw_282 : Cond.instanceMethod yX6_takeDecree ∈ gw := gw_of (List.mem_of_getElem? (i := 398) rfl) rfl
set_option maxRecDepth 100000 in
theorem mw_283 : Cond.selects RX6 yX6_takeDecree yX6_takeDecree ∈ gw := gw_ofs (List.mem_of_getElem? (i := 8) rfl) rfl
set_option maxRecDepth 100000 in
theorem mw_284 : Cond.code yX6_takeDecreeKind cX6_takeDecreeKind 1 (some .int) ∈ gw := gw_of (List.mem_of_getElem? (i := 403) rfl) rfl
set_option maxRecDepth 100000 in
theorem mw_285 : Cond.instanceMethod yX6_takeDecreeKind ∈ gw := gw_of (List.mem_of_getElem? (i := 402) rfl) rfl
set_option maxRecDepth 100000 in
theorem mw_286 : Cond.selects RX6 yX6_takeDecreeKind yX6_takeDecreeKind ∈ gw := gw_ofs (List.mem_of_getElem? (i := 9) rfl) rfl
set_option maxRecDepth 100000 in
theorem mw_287 : Cond.code yX6_takeWord cX6_takeWord 3 (some .boolean) ∈ gw := gw_of (List.mem_of_getElem? (i := 408) rfl) rfl
set_option maxRecDepth 100000 in
theorem mw_288 : Cond.instanceMethod yX6_takeWord ∈ gw := gw_of (List.mem_of_getElem? (i := 407) rfl) rfl
set_option maxRecDepth 100000 in
theorem mw_289 : Cond.selects RX6 yX6_takeWord yX6_takeWord ∈ gw := gw_ofs (List.mem_of_getElem? (i := 10) rfl) rfl
set_option maxRecDepth 100000 in
theorem mw_290 : Cond.code yX6_takeNumber cX6_takeNumber 3 (some .int) ∈ gw := gw_of (List.mem_of_getElem? (i := 463) rfl) rfl
set_option maxRecDepth 100000 in
theorem mw_291 : Cond.instanceMethod yX6_takeNumber ∈ gw := gw_of (List.mem_of_getElem? (i := 462) rfl) rfl
set_option maxRecDepth 100000 in
theorem mw_292 : Cond.selects RX6 yX6_takeNumber yX6_takeNumber ∈ gw := gw_ofs (List.mem_of_getElem? (i := 11) rfl) rfl
set_option maxRecDepth 100000 in
theorem mw_293 : Cond.code yX6_numberAhead cX6_numberAhead 3 (some .int) ∈ gw := gw_of (List.mem_of_getElem? (i := 467) rfl) rfl
set_option maxRecDepth 100000 in
theorem mw_294 : Cond.instanceMethod yX6_numberAhead ∈ gw := gw_of (List.mem_of_getElem? (i := 466) rfl) rfl
set_option maxRecDepth 100000 in
theorem mw_295 : Cond.selects RX6 yX6_numberAhead yX6_numberAhead ∈ gw := gw_ofs (List.mem_of_getElem? (i := 12) rfl) rfl
set_option maxRecDepth 100000 in
theorem mw_296 : Cond.code yX6_takeBound cX6_takeBound 3 (some .int) ∈ gw := gw_of (List.mem_of_getElem? (i := 480) rfl) rfl
set_option maxRecDepth 100000 in
theorem mw_297 : Cond.instanceMethod yX6_takeBound ∈ gw := gw_of (List.mem_of_getElem? (i := 479) rfl) rfl
set_option maxRecDepth 100000 in
theorem mw_298 : Cond.selects RX6 yX6_takeBound yX6_takeBound ∈ gw := gw_ofs (List.mem_of_getElem? (i := 13) rfl) rfl
set_option maxRecDepth 100000 in
theorem mw_299 : Cond.code yX6_takeSemicolon cX6_takeSemicolon 1 (some .boolean) ∈ gw := gw_of (List.mem_of_getElem? (i := 486) rfl) rfl
set_option maxRecDepth 100000 in
theorem mw_300 : Cond.instanceMethod yX6_takeSemicolon ∈ gw := gw_of (List.mem_of_getElem? (i := 485) rfl) rfl
set_option maxRecDepth 100000 in
theorem mw_301 : Cond.selects RX6 yX6_takeSemicolon yX6_takeSemicolon ∈ gw := gw_ofs (List.mem_of_getElem? (i := 14) rfl) rfl
set_option maxRecDepth 100000 in
theorem mw_302 : Cond.code yX7_read cX7_read 4 (some .int) ∈ gw := gw_of (List.mem_of_getElem? (i := 241) rfl) rfl
set_option maxRecDepth 100000 in
theorem mw_303 : Cond.instanceMethod yX7_read ∈ gw := gw_of (List.mem_of_getElem? (i := 239) rfl) rfl
set_option maxRecDepth 100000 in
theorem mw_304 : Cond.selects RX7 yX7_read yX7_read ∈ gw := gw_of (List.mem_of_getElem? (i := 240) rfl) rfl
set_option maxRecDepth 100000 in
theorem mw_305 : Cond.code yX7_isWithin cX7_isWithin 2 (some .boolean) ∈ gw := gw_of (List.mem_of_getElem? (i := 244) rfl) rfl
set_option maxRecDepth 100000 in
theorem mw_306 : Cond.static yX7_isWithin ∈ gw := gw_of (List.mem_of_getElem? (i := 243) rfl) rfl
set_option maxRecDepth 100000 in
theorem mw_307 : Cond.code yX7_isKnownDay cX7_isKnownDay 1 (some .boolean) ∈ gw := gw_of (List.mem_of_getElem? (i := 247) rfl) rfl
set_option maxRecDepth 100000 in
theorem mw_308 : Cond.static yX7_isKnownDay ∈ gw := gw_of (List.mem_of_getElem? (i := 246) rfl) rfl
set_option maxRecDepth 100000 in
theorem mw_309 : Cond.code yX7_refuse cX7_refuse 2 (some .int) ∈ gw := gw_of (List.mem_of_getElem? (i := 251) rfl) rfl
set_option maxRecDepth 100000 in
theorem mw_310 : Cond.instanceMethod yX7_refuse ∈ gw := gw_of (List.mem_of_getElem? (i := 250) rfl) rfl
set_option maxRecDepth 100000 in
theorem mw_311 : Cond.selects RX7 yX7_refuse yX7_refuse ∈ gw := gw_ofs (List.mem_of_getElem? (i := 0) rfl) rfl
set_option maxRecDepth 100000 in
theorem mw_312 : Cond.code yX7_accept cX7_accept 2 (some .int) ∈ gw := gw_of (List.mem_of_getElem? (i := 259) rfl) rfl
set_option maxRecDepth 100000 in
theorem mw_313 : Cond.instanceMethod yX7_accept ∈ gw := gw_of (List.mem_of_getElem? (i := 258) rfl) rfl
set_option maxRecDepth 100000 in
theorem mw_314 : Cond.selects RX7 yX7_accept yX7_accept ∈ gw := gw_ofs (List.mem_of_getElem? (i := 1) rfl) rfl
set_option maxRecDepth 100000 in
theorem mw_315 : Cond.code yX7_height cX7_height 3 (some .int) ∈ gw := gw_of (List.mem_of_getElem? (i := 263) rfl) rfl
set_option maxRecDepth 100000 in
theorem mw_316 : Cond.instanceMethod yX7_height ∈ gw := gw_of (List.mem_of_getElem? (i := 261) rfl) rfl
set_option maxRecDepth 100000 in
theorem mw_317 : Cond.selects RX7 yX7_height yX7_height ∈ gw := gw_of (List.mem_of_getElem? (i := 262) rfl) rfl
set_option maxRecDepth 100000 in
theorem mw_318 : Cond.code yX7_peak cX7_peak 2 (some .int) ∈ gw := gw_of (List.mem_of_getElem? (i := 282) rfl) rfl
set_option maxRecDepth 100000 in
theorem mw_319 : Cond.instanceMethod yX7_peak ∈ gw := gw_of (List.mem_of_getElem? (i := 280) rfl) rfl
set_option maxRecDepth 100000 in
theorem mw_320 : Cond.selects RX7 yX7_peak yX7_peak ∈ gw := gw_of (List.mem_of_getElem? (i := 281) rfl) rfl
set_option maxRecDepth 100000 in
theorem mw_321 : Cond.code yX7_strip cX7_strip 4 (some .int) ∈ gw := gw_of (List.mem_of_getElem? (i := 286) rfl) rfl
set_option maxRecDepth 100000 in
theorem mw_322 : Cond.instanceMethod yX7_strip ∈ gw := gw_of (List.mem_of_getElem? (i := 284) rfl) rfl
set_option maxRecDepth 100000 in
theorem mw_323 : Cond.selects RX7 yX7_strip yX7_strip ∈ gw := gw_of (List.mem_of_getElem? (i := 285) rfl) rfl
set_option maxRecDepth 100000 in
theorem mw_324 : Cond.code yX7_of cX7_of 3 (some .int) ∈ gw := gw_of (List.mem_of_getElem? (i := 294) rfl) rfl
set_option maxRecDepth 100000 in
theorem mw_325 : Cond.instanceMethod yX7_of ∈ gw := gw_of (List.mem_of_getElem? (i := 292) rfl) rfl
set_option maxRecDepth 100000 in
theorem mw_326 : Cond.selects RX7 yX7_of yX7_of ∈ gw := gw_of (List.mem_of_getElem? (i := 293) rfl) rfl
set_option maxRecDepth 100000 in
theorem mw_327 : Cond.code yX7_lose cX7_lose 2 (some .int) ∈ gw := gw_of (List.mem_of_getElem? (i := 302) rfl) rfl
set_option maxRecDepth 100000 in
theorem mw_328 : Cond.instanceMethod yX7_lose ∈ gw := gw_of (List.mem_of_getElem? (i := 300) rfl) rfl
set_option maxRecDepth 100000 in
theorem mw_329 : Cond.selects RX7 yX7_lose yX7_lose ∈ gw := gw_of (List.mem_of_getElem? (i := 301) rfl) rfl
set_option maxRecDepth 100000 in
theorem mw_330 : Cond.code yX7_draw cX7_draw 4 (some .int) ∈ gw := gw_of (List.mem_of_getElem? (i := 314) rfl) rfl
set_option maxRecDepth 100000 in
theorem mw_331 : Cond.instanceMethod yX7_draw ∈ gw := gw_of (List.mem_of_getElem? (i := 312) rfl) rfl
set_option maxRecDepth 100000 in
theorem mw_332 : Cond.selects RX7 yX7_draw yX7_draw ∈ gw := gw_of (List.mem_of_getElem? (i := 313) rfl) rfl
set_option maxRecDepth 100000 in
theorem mw_333 : Cond.code yX7_stands cX7_stands 2 (some .int) ∈ gw := gw_of (List.mem_of_getElem? (i := 334) rfl) rfl
set_option maxRecDepth 100000 in
theorem mw_334 : Cond.instanceMethod yX7_stands ∈ gw := gw_of (List.mem_of_getElem? (i := 332) rfl) rfl
set_option maxRecDepth 100000 in
theorem mw_335 : Cond.selects RX7 yX7_stands yX7_stands ∈ gw := gw_of (List.mem_of_getElem? (i := 333) rfl) rfl
set_option maxRecDepth 100000 in
theorem mw_336 : Cond.code yX7_table cX7_table 4 (some .int) ∈ gw := gw_of (List.mem_of_getElem? (i := 338) rfl) rfl
set_option maxRecDepth 100000 in
theorem mw_337 : Cond.instanceMethod yX7_table ∈ gw := gw_of (List.mem_of_getElem? (i := 336) rfl) rfl
set_option maxRecDepth 100000 in
theorem mw_338 : Cond.selects RX7 yX7_table yX7_table ∈ gw := gw_of (List.mem_of_getElem? (i := 337) rfl) rfl
set_option maxRecDepth 100000 in
theorem mw_339 : Cond.code yX7_wet cX7_wet 3 (some .int) ∈ gw := gw_of (List.mem_of_getElem? (i := 342) rfl) rfl
set_option maxRecDepth 100000 in
theorem mw_340 : Cond.instanceMethod yX7_wet ∈ gw := gw_of (List.mem_of_getElem? (i := 340) rfl) rfl
set_option maxRecDepth 100000 in
theorem mw_341 : Cond.selects RX7 yX7_wet yX7_wet ∈ gw := gw_of (List.mem_of_getElem? (i := 341) rfl) rfl
set_option maxRecDepth 100000 in
theorem mw_342 : Cond.code yX7_harvest cX7_harvest 3 (some .int) ∈ gw := gw_of (List.mem_of_getElem? (i := 350) rfl) rfl
set_option maxRecDepth 100000 in
theorem mw_343 : Cond.instanceMethod yX7_harvest ∈ gw := gw_of (List.mem_of_getElem? (i := 348) rfl) rfl
set_option maxRecDepth 100000 in
theorem mw_344 : Cond.selects RX7 yX7_harvest yX7_harvest ∈ gw := gw_of (List.mem_of_getElem? (i := 349) rfl) rfl
set_option maxRecDepth 100000 in
theorem mw_345 : Cond.code yX7_harvestSeen cX7_harvestSeen 2 (some .int) ∈ gw := gw_of (List.mem_of_getElem? (i := 354) rfl) rfl
set_option maxRecDepth 100000 in
theorem mw_346 : Cond.instanceMethod yX7_harvestSeen ∈ gw := gw_of (List.mem_of_getElem? (i := 353) rfl) rfl
set_option maxRecDepth 100000 in
theorem mw_347 : Cond.selects RX7 yX7_harvestSeen yX7_harvestSeen ∈ gw := gw_ofs (List.mem_of_getElem? (i := 4) rfl) rfl
set_option maxRecDepth 100000 in
theorem mw_348 : Cond.code yX7_harvestAfter cX7_harvestAfter 3 (some .int) ∈ gw := gw_of (List.mem_of_getElem? (i := 358) rfl) rfl
set_option maxRecDepth 100000 in
theorem mw_349 : Cond.instanceMethod yX7_harvestAfter ∈ gw := gw_of (List.mem_of_getElem? (i := 357) rfl) rfl
set_option maxRecDepth 100000 in
theorem mw_350 : Cond.selects RX7 yX7_harvestAfter yX7_harvestAfter ∈ gw := gw_ofs (List.mem_of_getElem? (i := 5) rfl) rfl
set_option maxRecDepth 100000 in
theorem mw_351 : Cond.code yX7_foretold cX7_foretold 3 (some .int) ∈ gw := gw_of (List.mem_of_getElem? (i := 366) rfl) rfl
set_option maxRecDepth 100000 in
theorem mw_352 : Cond.instanceMethod yX7_foretold ∈ gw := gw_of (List.mem_of_getElem? (i := 364) rfl) rfl
set_option maxRecDepth 100000 in
theorem mw_353 : Cond.selects RX7 yX7_foretold yX7_foretold ∈ gw := gw_of (List.mem_of_getElem? (i := 365) rfl) rfl
set_option maxRecDepth 100000 in
theorem mw_354 : Cond.code yX7_feed cX7_feed 6 (some .int) ∈ gw := gw_of (List.mem_of_getElem? (i := 371) rfl) rfl
set_option maxRecDepth 100000 in
theorem mw_355 : Cond.instanceMethod yX7_feed ∈ gw := gw_of (List.mem_of_getElem? (i := 369) rfl) rfl
set_option maxRecDepth 100000 in
theorem mw_356 : Cond.selects RX7 yX7_feed yX7_feed ∈ gw := gw_of (List.mem_of_getElem? (i := 370) rfl) rfl
set_option maxRecDepth 100000 in
theorem mw_357 : Cond.code yX7_end cX7_end 2 (some .int) ∈ gw := gw_of (List.mem_of_getElem? (i := 379) rfl) rfl
set_option maxRecDepth 100000 in
theorem mw_358 : Cond.instanceMethod yX7_end ∈ gw := gw_of (List.mem_of_getElem? (i := 377) rfl) rfl
set_option maxRecDepth 100000 in
theorem mw_359 : Cond.selects RX7 yX7_end yX7_end ∈ gw := gw_of (List.mem_of_getElem? (i := 378) rfl) rfl
set_option maxRecDepth 100000 in
theorem mw_360 : Cond.code yX7_decrees cX7_decrees 2 (some .int) ∈ gw := gw_of (List.mem_of_getElem? (i := 383) rfl) rfl
set_option maxRecDepth 100000 in
theorem mw_361 : Cond.instanceMethod yX7_decrees ∈ gw := gw_of (List.mem_of_getElem? (i := 381) rfl) rfl
set_option maxRecDepth 100000 in
theorem mw_362 : Cond.selects RX7 yX7_decrees yX7_decrees ∈ gw := gw_of (List.mem_of_getElem? (i := 382) rfl) rfl
set_option maxRecDepth 100000 in
theorem mw_363 : Cond.code yX7_fault cX7_fault 1 (some .int) ∈ gw := gw_of (List.mem_of_getElem? (i := 491) rfl) rfl
set_option maxRecDepth 100000 in
theorem mw_364 : Cond.instanceMethod yX7_fault ∈ gw := gw_of (List.mem_of_getElem? (i := 489) rfl) rfl
set_option maxRecDepth 100000 in
theorem mw_365 : Cond.selects RX7 yX7_fault yX7_fault ∈ gw := gw_of (List.mem_of_getElem? (i := 490) rfl) rfl
set_option maxRecDepth 100000 in
theorem mw_366 : Cond.code yX7_tax cX7_tax 4 (some .int) ∈ gw := gw_of (List.mem_of_getElem? (i := 495) rfl) rfl
set_option maxRecDepth 100000 in
theorem mw_367 : Cond.instanceMethod yX7_tax ∈ gw := gw_of (List.mem_of_getElem? (i := 493) rfl) rfl
set_option maxRecDepth 100000 in
theorem mw_368 : Cond.selects RX7 yX7_tax yX7_tax ∈ gw := gw_of (List.mem_of_getElem? (i := 494) rfl) rfl
set_option maxRecDepth 100000 in
theorem mw_369 : Cond.code yX7_assessSeen cX7_assessSeen 3 none ∈ gw := gw_of (List.mem_of_getElem? (i := 499) rfl) rfl
set_option maxRecDepth 100000 in
theorem mw_370 : Cond.instanceMethod yX7_assessSeen ∈ gw := gw_of (List.mem_of_getElem? (i := 498) rfl) rfl
set_option maxRecDepth 100000 in
theorem mw_371 : Cond.selects RX7 yX7_assessSeen yX7_assessSeen ∈ gw := gw_ofs (List.mem_of_getElem? (i := 15) rfl) rfl
set_option maxRecDepth 100000 in
theorem mw_372 : Cond.code yX7_take cX7_take 5 (some .int) ∈ gw := gw_of (List.mem_of_getElem? (i := 534) rfl) rfl
set_option maxRecDepth 100000 in
theorem mw_373 : Cond.instanceMethod yX7_take ∈ gw := gw_of (List.mem_of_getElem? (i := 532) rfl) rfl
set_option maxRecDepth 100000 in
theorem mw_374 : Cond.selects RX7 yX7_take yX7_take ∈ gw := gw_of (List.mem_of_getElem? (i := 533) rfl) rfl
set_option maxRecDepth 100000 in
theorem mw_375 : Cond.code yX7_gain cX7_gain 6 (some .long) ∈ gw := gw_of (List.mem_of_getElem? (i := 543) rfl) rfl
set_option maxRecDepth 100000 in
theorem mw_376 : Cond.instanceMethod yX7_gain ∈ gw := gw_of (List.mem_of_getElem? (i := 541) rfl) rfl
set_option maxRecDepth 100000 in
theorem mw_377 : Cond.selects RX7 yX7_gain yX7_gain ∈ gw := gw_of (List.mem_of_getElem? (i := 542) rfl) rfl
set_option maxRecDepth 100000 in
theorem mw_378 : Cond.code yX7_gainSeen cX7_gainSeen 4 (some .long) ∈ gw := gw_of (List.mem_of_getElem? (i := 552) rfl) rfl
set_option maxRecDepth 100000 in
theorem mw_379 : Cond.instanceMethod yX7_gainSeen ∈ gw := gw_of (List.mem_of_getElem? (i := 551) rfl) rfl
set_option maxRecDepth 100000 in
theorem mw_380 : Cond.selects RX7 yX7_gainSeen yX7_gainSeen ∈ gw := gw_ofs (List.mem_of_getElem? (i := 18) rfl) rfl
set_option maxRecDepth 100000 in
theorem mw_381 : Cond.code yX7_sheaves cX7_sheaves 4 (some .int) ∈ gw := gw_of (List.mem_of_getElem? (i := 557) rfl) rfl
set_option maxRecDepth 100000 in
theorem mw_382 : Cond.instanceMethod yX7_sheaves ∈ gw := gw_of (List.mem_of_getElem? (i := 555) rfl) rfl
set_option maxRecDepth 100000 in
theorem mw_383 : Cond.selects RX7 yX7_sheaves yX7_sheaves ∈ gw := gw_of (List.mem_of_getElem? (i := 556) rfl) rfl
set_option maxRecDepth 100000 in
theorem mw_384 : Cond.code yX7_led cX7_led 7 (some .int) ∈ gw := gw_of (List.mem_of_getElem? (i := 561) rfl) rfl
set_option maxRecDepth 100000 in
theorem mw_385 : Cond.instanceMethod yX7_led ∈ gw := gw_of (List.mem_of_getElem? (i := 559) rfl) rfl
set_option maxRecDepth 100000 in
theorem mw_386 : Cond.selects RX7 yX7_led yX7_led ∈ gw := gw_of (List.mem_of_getElem? (i := 560) rfl) rfl
set_option maxRecDepth 100000 in
theorem mw_387 : Cond.code yX7_whoGets cX7_whoGets 3 (some .int) ∈ gw := gw_of (List.mem_of_getElem? (i := 565) rfl) rfl
set_option maxRecDepth 100000 in
theorem mw_388 : Cond.instanceMethod yX7_whoGets ∈ gw := gw_of (List.mem_of_getElem? (i := 564) rfl) rfl
set_option maxRecDepth 100000 in
theorem mw_389 : Cond.selects RX7 yX7_whoGets yX7_whoGets ∈ gw := gw_ofs (List.mem_of_getElem? (i := 19) rfl) rfl
set_option maxRecDepth 100000 in
theorem mw_390 : Cond.code yX7_count cX7_count 2 (some .int) ∈ gw := gw_of (List.mem_of_getElem? (i := 569) rfl) rfl
set_option maxRecDepth 100000 in
theorem mw_391 : Cond.instanceMethod yX7_count ∈ gw := gw_of (List.mem_of_getElem? (i := 567) rfl) rfl
set_option maxRecDepth 100000 in
theorem mw_392 : Cond.selects RX7 yX7_count yX7_count ∈ gw := gw_of (List.mem_of_getElem? (i := 568) rfl) rfl
set_option maxRecDepth 100000 in
theorem mw_393 : Cond.code yX7_status cX7_status 1 (some .int) ∈ gw := gw_of (List.mem_of_getElem? (i := 581) rfl) rfl
set_option maxRecDepth 100000 in
theorem mw_394 : Cond.instanceMethod yX7_status ∈ gw := gw_of (List.mem_of_getElem? (i := 579) rfl) rfl
set_option maxRecDepth 100000 in
theorem mw_395 : Cond.selects RX7 yX7_status yX7_status ∈ gw := gw_of (List.mem_of_getElem? (i := 580) rfl) rfl
set_option maxRecDepth 100000 in
theorem mw_396 : Cond.code yX8_in cX8_in 6 (some .boolean) ∈ gw := gw_of (List.mem_of_getElem? (i := 716) rfl) rfl
set_option maxRecDepth 100000 in
theorem mw_397 : Cond.static yX8_in ∈ gw := gw_of (List.mem_of_getElem? (i := 715) rfl) rfl
set_option maxRecDepth 100000 in
theorem mw_398 : Cond.initialized RX8 ∈ gw := gw_of (List.mem_of_getElem? (i := 9) rfl) rfl
set_option maxRecDepth 100000 in
theorem mw_399 : Cond.code yX8_told cX8_told 2 (some .int) ∈ gw := gw_of (List.mem_of_getElem? (i := 725) rfl) rfl
set_option maxRecDepth 100000 in
theorem mw_400 : Cond.instanceMethod yX8_told ∈ gw := gw_of (List.mem_of_getElem? (i := 724) rfl) rfl
set_option maxRecDepth 100000 in
theorem mw_401 : Cond.selects RX8 yX8_told yX8_told ∈ gw := gw_ofs (List.mem_of_getElem? (i := 20) rfl) rfl
set_option maxRecDepth 100000 in
theorem mw_402 : Cond.code yX8_isDay cX8_isDay 1 (some .boolean) ∈ gw := gw_of (List.mem_of_getElem? (i := 712) rfl) rfl
set_option maxRecDepth 100000 in
theorem mw_403 : Cond.static yX8_isDay ∈ gw := gw_of (List.mem_of_getElem? (i := 711) rfl) rfl
set_option maxRecDepth 100000 in
theorem mw_404 : Cond.code yX8_isKnown cX8_isKnown 1 (some .boolean) ∈ gw := gw_of (List.mem_of_getElem? (i := 720) rfl) rfl
set_option maxRecDepth 100000 in
theorem mw_405 : Cond.static yX8_isKnown ∈ gw := gw_of (List.mem_of_getElem? (i := 719) rfl) rfl
set_option maxRecDepth 100000 in
theorem mw_406 : Cond.code yX8_read cX8_read 4 (some .int) ∈ gw := gw_of (List.mem_of_getElem? (i := 709) rfl) rfl
set_option maxRecDepth 100000 in
theorem mw_407 : Cond.instanceMethod yX8_read ∈ gw := gw_of (List.mem_of_getElem? (i := 707) rfl) rfl
set_option maxRecDepth 100000 in
theorem mw_408 : Cond.selects RX8 yX8_read yX8_read ∈ gw := gw_of (List.mem_of_getElem? (i := 708) rfl) rfl
set_option maxRecDepth 100000 in
theorem mw_409 : Cond.code yX8_find cX8_find 5 none ∈ gw := gw_of (List.mem_of_getElem? (i := 733) rfl) rfl
set_option maxRecDepth 100000 in
theorem mw_410 : Cond.instanceMethod yX8_find ∈ gw := gw_of (List.mem_of_getElem? (i := 732) rfl) rfl
set_option maxRecDepth 100000 in
theorem mw_411 : Cond.selects RX8 yX8_find yX8_find ∈ gw := gw_ofs (List.mem_of_getElem? (i := 21) rfl) rfl
set_option maxRecDepth 100000 in
theorem mw_412 : Cond.code yX8_peakOf cX8_peakOf 3 (some .int) ∈ gw := gw_of (List.mem_of_getElem? (i := 741) rfl) rfl
set_option maxRecDepth 100000 in
theorem mw_413 : Cond.instanceMethod yX8_peakOf ∈ gw := gw_of (List.mem_of_getElem? (i := 740) rfl) rfl
set_option maxRecDepth 100000 in
theorem mw_414 : Cond.selects RX8 yX8_peakOf yX8_peakOf ∈ gw := gw_ofs (List.mem_of_getElem? (i := 22) rfl) rfl
set_option maxRecDepth 100000 in
theorem mw_415 : Cond.code yX8_height cX8_height 3 (some .int) ∈ gw := gw_of (List.mem_of_getElem? (i := 729) rfl) rfl
set_option maxRecDepth 100000 in
theorem mw_416 : Cond.instanceMethod yX8_height ∈ gw := gw_of (List.mem_of_getElem? (i := 727) rfl) rfl
set_option maxRecDepth 100000 in
theorem mw_417 : Cond.selects RX8 yX8_height yX8_height ∈ gw := gw_of (List.mem_of_getElem? (i := 728) rfl) rfl
set_option maxRecDepth 100000 in
theorem mw_418 : Cond.code yX8_peak cX8_peak 2 (some .int) ∈ gw := gw_of (List.mem_of_getElem? (i := 737) rfl) rfl
set_option maxRecDepth 100000 in
theorem mw_419 : Cond.instanceMethod yX8_peak ∈ gw := gw_of (List.mem_of_getElem? (i := 735) rfl) rfl
set_option maxRecDepth 100000 in
theorem mw_420 : Cond.selects RX8 yX8_peak yX8_peak ∈ gw := gw_of (List.mem_of_getElem? (i := 736) rfl) rfl
set_option maxRecDepth 100000 in
theorem mw_421 : Cond.code yX8_isStrip cX8_isStrip 2 (some .boolean) ∈ gw := gw_of (List.mem_of_getElem? (i := 754) rfl) rfl
set_option maxRecDepth 100000 in
theorem mw_422 : Cond.instanceMethod yX8_isStrip ∈ gw := gw_of (List.mem_of_getElem? (i := 753) rfl) rfl
set_option maxRecDepth 100000 in
theorem mw_423 : Cond.selects RX8 yX8_isStrip yX8_isStrip ∈ gw := gw_ofs (List.mem_of_getElem? (i := 23) rfl) rfl
set_option maxRecDepth 100000 in
theorem mw_424 : Cond.code yX8_isMark cX8_isMark 2 (some .boolean) ∈ gw := gw_of (List.mem_of_getElem? (i := 762) rfl) rfl
set_option maxRecDepth 100000 in
theorem mw_425 : Cond.instanceMethod yX8_isMark ∈ gw := gw_of (List.mem_of_getElem? (i := 761) rfl) rfl
set_option maxRecDepth 100000 in
theorem mw_426 : Cond.selects RX8 yX8_isMark yX8_isMark ∈ gw := gw_ofs (List.mem_of_getElem? (i := 24) rfl) rfl
set_option maxRecDepth 100000 in
theorem mw_427 : Cond.code yX8_strip cX8_strip 4 (some .int) ∈ gw := gw_of (List.mem_of_getElem? (i := 745) rfl) rfl
set_option maxRecDepth 100000 in
theorem mw_428 : Cond.instanceMethod yX8_strip ∈ gw := gw_of (List.mem_of_getElem? (i := 743) rfl) rfl
set_option maxRecDepth 100000 in
theorem mw_429 : Cond.selects RX8 yX8_strip yX8_strip ∈ gw := gw_of (List.mem_of_getElem? (i := 744) rfl) rfl
set_option maxRecDepth 100000 in
theorem mw_430 : Cond.code yX8_of cX8_of 3 (some .int) ∈ gw := gw_of (List.mem_of_getElem? (i := 750) rfl) rfl
set_option maxRecDepth 100000 in
theorem mw_431 : Cond.instanceMethod yX8_of ∈ gw := gw_of (List.mem_of_getElem? (i := 748) rfl) rfl
set_option maxRecDepth 100000 in
theorem mw_432 : Cond.selects RX8 yX8_of yX8_of ∈ gw := gw_of (List.mem_of_getElem? (i := 749) rfl) rfl
set_option maxRecDepth 100000 in
theorem mw_433 : Cond.code yX8_lose cX8_lose 2 (some .int) ∈ gw := gw_of (List.mem_of_getElem? (i := 758) rfl) rfl
set_option maxRecDepth 100000 in
theorem mw_434 : Cond.instanceMethod yX8_lose ∈ gw := gw_of (List.mem_of_getElem? (i := 756) rfl) rfl
set_option maxRecDepth 100000 in
theorem mw_435 : Cond.selects RX8 yX8_lose yX8_lose ∈ gw := gw_of (List.mem_of_getElem? (i := 757) rfl) rfl
set_option maxRecDepth 100000 in
theorem mw_436 : Cond.code yX8_draw cX8_draw 16 (some .int) ∈ gw := gw_of (List.mem_of_getElem? (i := 766) rfl) rfl
set_option maxRecDepth 100000 in
theorem mw_437 : Cond.instanceMethod yX8_draw ∈ gw := gw_of (List.mem_of_getElem? (i := 764) rfl) rfl
set_option maxRecDepth 100000 in
theorem mw_438 : Cond.selects RX8 yX8_draw yX8_draw ∈ gw := gw_of (List.mem_of_getElem? (i := 765) rfl) rfl
set_option maxRecDepth 100000 in
theorem mw_439 : Cond.code yX8_stands cX8_stands 2 (some .int) ∈ gw := gw_of (List.mem_of_getElem? (i := 771) rfl) rfl
set_option maxRecDepth 100000 in
theorem mw_440 : Cond.instanceMethod yX8_stands ∈ gw := gw_of (List.mem_of_getElem? (i := 769) rfl) rfl
set_option maxRecDepth 100000 in
theorem mw_441 : Cond.selects RX8 yX8_stands yX8_stands ∈ gw := gw_of (List.mem_of_getElem? (i := 770) rfl) rfl
set_option maxRecDepth 100000 in
theorem mw_442 : Cond.code yX8_table cX8_table 4 (some .int) ∈ gw := gw_of (List.mem_of_getElem? (i := 775) rfl) rfl
set_option maxRecDepth 100000 in
theorem mw_443 : Cond.instanceMethod yX8_table ∈ gw := gw_of (List.mem_of_getElem? (i := 773) rfl) rfl
set_option maxRecDepth 100000 in
theorem mw_444 : Cond.selects RX8 yX8_table yX8_table ∈ gw := gw_of (List.mem_of_getElem? (i := 774) rfl) rfl
set_option maxRecDepth 100000 in
theorem mw_445 : Cond.code yX8_wetOf cX8_wetOf 4 (some .int) ∈ gw := gw_of (List.mem_of_getElem? (i := 786) rfl) rfl
set_option maxRecDepth 100000 in
theorem mw_446 : Cond.instanceMethod yX8_wetOf ∈ gw := gw_of (List.mem_of_getElem? (i := 785) rfl) rfl
set_option maxRecDepth 100000 in
theorem mw_447 : Cond.selects RX8 yX8_wetOf yX8_wetOf ∈ gw := gw_ofs (List.mem_of_getElem? (i := 25) rfl) rfl
set_option maxRecDepth 100000 in
theorem mw_448 : Cond.code yX8_harvestOf cX8_harvestOf 5 (some .int) ∈ gw := gw_of (List.mem_of_getElem? (i := 794) rfl) rfl
set_option maxRecDepth 100000 in
theorem mw_449 : Cond.instanceMethod yX8_harvestOf ∈ gw := gw_of (List.mem_of_getElem? (i := 793) rfl) rfl
set_option maxRecDepth 100000 in
theorem mw_450 : Cond.selects RX8 yX8_harvestOf yX8_harvestOf ∈ gw := gw_ofs (List.mem_of_getElem? (i := 26) rfl) rfl
set_option maxRecDepth 100000 in
theorem mw_451 : Cond.code yX8_wet cX8_wet 3 (some .int) ∈ gw := gw_of (List.mem_of_getElem? (i := 782) rfl) rfl
set_option maxRecDepth 100000 in
theorem mw_452 : Cond.instanceMethod yX8_wet ∈ gw := gw_of (List.mem_of_getElem? (i := 780) rfl) rfl
set_option maxRecDepth 100000 in
theorem mw_453 : Cond.selects RX8 yX8_wet yX8_wet ∈ gw := gw_of (List.mem_of_getElem? (i := 781) rfl) rfl
set_option maxRecDepth 100000 in
theorem mw_454 : Cond.code yX8_harvest cX8_harvest 3 (some .int) ∈ gw := gw_of (List.mem_of_getElem? (i := 790) rfl) rfl
set_option maxRecDepth 100000 in
theorem mw_455 : Cond.instanceMethod yX8_harvest ∈ gw := gw_of (List.mem_of_getElem? (i := 788) rfl) rfl
set_option maxRecDepth 100000 in
theorem mw_456 : Cond.selects RX8 yX8_harvest yX8_harvest ∈ gw := gw_of (List.mem_of_getElem? (i := 789) rfl) rfl
set_option maxRecDepth 100000 in
theorem mw_457 : Cond.code yX8_foretold cX8_foretold 3 (some .int) ∈ gw := gw_of (List.mem_of_getElem? (i := 798) rfl) rfl
set_option maxRecDepth 100000 in
theorem mw_458 : Cond.instanceMethod yX8_foretold ∈ gw := gw_of (List.mem_of_getElem? (i := 796) rfl) rfl
set_option maxRecDepth 100000 in
theorem mw_459 : Cond.selects RX8 yX8_foretold yX8_foretold ∈ gw := gw_of (List.mem_of_getElem? (i := 797) rfl) rfl
set_option maxRecDepth 100000 in
theorem mw_460 : Cond.code yX8_four cX8_four 3 none ∈ gw := gw_of (List.mem_of_getElem? (i := 806) rfl) rfl
set_option maxRecDepth 100000 in
theorem mw_461 : Cond.instanceMethod yX8_four ∈ gw := gw_of (List.mem_of_getElem? (i := 805) rfl) rfl
set_option maxRecDepth 100000 in
theorem mw_462 : Cond.selects RX8 yX8_four yX8_four ∈ gw := gw_ofs (List.mem_of_getElem? (i := 27) rfl) rfl
set_option maxRecDepth 100000 in
theorem mw_463 : Cond.code yX8_feed cX8_feed 6 (some .int) ∈ gw := gw_of (List.mem_of_getElem? (i := 802) rfl) rfl
set_option maxRecDepth 100000 in
theorem mw_464 : Cond.instanceMethod yX8_feed ∈ gw := gw_of (List.mem_of_getElem? (i := 800) rfl) rfl
set_option maxRecDepth 100000 in
theorem mw_465 : Cond.selects RX8 yX8_feed yX8_feed ∈ gw := gw_of (List.mem_of_getElem? (i := 801) rfl) rfl
set_option maxRecDepth 100000 in
theorem mw_466 : Cond.code yX8_end cX8_end 2 (some .int) ∈ gw := gw_of (List.mem_of_getElem? (i := 810) rfl) rfl
set_option maxRecDepth 100000 in
theorem mw_467 : Cond.instanceMethod yX8_end ∈ gw := gw_of (List.mem_of_getElem? (i := 808) rfl) rfl
set_option maxRecDepth 100000 in
theorem mw_468 : Cond.selects RX8 yX8_end yX8_end ∈ gw := gw_of (List.mem_of_getElem? (i := 809) rfl) rfl
set_option maxRecDepth 100000 in
theorem mw_469 : Cond.code yX8_isSmall cX8_isSmall 1 (some .boolean) ∈ gw := gw_of (List.mem_of_getElem? (i := 821) rfl) rfl
set_option maxRecDepth 100000 in
theorem mw_470 : Cond.static yX8_isSmall ∈ gw := gw_of (List.mem_of_getElem? (i := 820) rfl) rfl
set_option maxRecDepth 100000 in
theorem mw_471 : Cond.code yX8_isDigit cX8_isDigit 1 (some .boolean) ∈ gw := gw_of (List.mem_of_getElem? (i := 824) rfl) rfl
set_option maxRecDepth 100000 in
theorem mw_472 : Cond.static yX8_isDigit ∈ gw := gw_of (List.mem_of_getElem? (i := 823) rfl) rfl
set_option maxRecDepth 100000 in
theorem mw_473 : Cond.code yX8_next cX8_next 1 none ∈ gw := gw_of (List.mem_of_getElem? (i := 818) rfl) rfl
set_option maxRecDepth 100000 in
theorem mw_474 : Cond.instanceMethod yX8_next ∈ gw := gw_of (List.mem_of_getElem? (i := 817) rfl) rfl
set_option maxRecDepth 100000 in
theorem mw_475 : Cond.selects RX8 yX8_next yX8_next ∈ gw := gw_ofs (List.mem_of_getElem? (i := 28) rfl) rfl
set_option maxRecDepth 100000 in
theorem mw_476 : Cond.code yX8_isWord cX8_isWord 10 (some .boolean) ∈ gw := gw_of (List.mem_of_getElem? (i := 837) rfl) rfl
set_option maxRecDepth 100000 in
theorem mw_477 : Cond.instanceMethod yX8_isWord ∈ gw := gw_of (List.mem_of_getElem? (i := 836) rfl) rfl
set_option maxRecDepth 100000 in
theorem mw_478 : Cond.selects RX8 yX8_isWord yX8_isWord ∈ gw := gw_ofs (List.mem_of_getElem? (i := 30) rfl) rfl
set_option maxRecDepth 100000 in
theorem mw_479 : Cond.code yX8_must cX8_must 2 none ∈ gw := gw_of (List.mem_of_getElem? (i := 841) rfl) rfl
set_option maxRecDepth 100000 in
theorem mw_480 : Cond.instanceMethod yX8_must ∈ gw := gw_of (List.mem_of_getElem? (i := 840) rfl) rfl
set_option maxRecDepth 100000 in
theorem mw_481 : Cond.selects RX8 yX8_must yX8_must ∈ gw := gw_ofs (List.mem_of_getElem? (i := 31) rfl) rfl
set_option maxRecDepth 100000 in
theorem mw_482 : Cond.code yX8_number cX8_number 4 (some .int) ∈ gw := gw_of (List.mem_of_getElem? (i := 845) rfl) rfl
set_option maxRecDepth 100000 in
theorem mw_483 : Cond.instanceMethod yX8_number ∈ gw := gw_of (List.mem_of_getElem? (i := 844) rfl) rfl
set_option maxRecDepth 100000 in
theorem mw_484 : Cond.selects RX8 yX8_number yX8_number ∈ gw := gw_ofs (List.mem_of_getElem? (i := 32) rfl) rfl
set_option maxRecDepth 100000 in
theorem mw_485 : Cond.code yX8_readDecree cX8_readDecree 5 none ∈ gw := gw_of (List.mem_of_getElem? (i := 833) rfl) rfl
set_option maxRecDepth 100000 in
theorem mw_486 : Cond.instanceMethod yX8_readDecree ∈ gw := gw_of (List.mem_of_getElem? (i := 832) rfl) rfl
set_option maxRecDepth 100000 in
theorem mw_487 : Cond.selects RX8 yX8_readDecree yX8_readDecree ∈ gw := gw_ofs (List.mem_of_getElem? (i := 29) rfl) rfl
set_option maxRecDepth 100000 in
theorem mw_488 : Cond.code yX8_decrees cX8_decrees 2 (some .int) ∈ gw := gw_of (List.mem_of_getElem? (i := 814) rfl) rfl
set_option maxRecDepth 100000 in
theorem mw_489 : Cond.instanceMethod yX8_decrees ∈ gw := gw_of (List.mem_of_getElem? (i := 812) rfl) rfl
set_option maxRecDepth 100000 in
theorem mw_490 : Cond.selects RX8 yX8_decrees yX8_decrees ∈ gw := gw_of (List.mem_of_getElem? (i := 813) rfl) rfl
set_option maxRecDepth 100000 in
theorem mw_491 : Cond.code yX8_fault cX8_fault 1 (some .int) ∈ gw := gw_of (List.mem_of_getElem? (i := 850) rfl) rfl
set_option maxRecDepth 100000 in
theorem mw_492 : Cond.instanceMethod yX8_fault ∈ gw := gw_of (List.mem_of_getElem? (i := 848) rfl) rfl
set_option maxRecDepth 100000 in
theorem mw_493 : Cond.selects RX8 yX8_fault yX8_fault ∈ gw := gw_of (List.mem_of_getElem? (i := 849) rfl) rfl
set_option maxRecDepth 100000 in
theorem mw_494 : Cond.code yX8_reckon cX8_reckon 9 none ∈ gw := gw_of (List.mem_of_getElem? (i := 858) rfl) rfl
set_option maxRecDepth 100000 in
theorem mw_495 : Cond.instanceMethod yX8_reckon ∈ gw := gw_of (List.mem_of_getElem? (i := 857) rfl) rfl
set_option maxRecDepth 100000 in
theorem mw_496 : Cond.selects RX8 yX8_reckon yX8_reckon ∈ gw := gw_ofs (List.mem_of_getElem? (i := 33) rfl) rfl
set_option maxRecDepth 100000 in
theorem mw_497 : Cond.code yX8_tax cX8_tax 4 (some .int) ∈ gw := gw_of (List.mem_of_getElem? (i := 854) rfl) rfl
set_option maxRecDepth 100000 in
theorem mw_498 : Cond.instanceMethod yX8_tax ∈ gw := gw_of (List.mem_of_getElem? (i := 852) rfl) rfl
set_option maxRecDepth 100000 in
theorem mw_499 : Cond.selects RX8 yX8_tax yX8_tax ∈ gw := gw_of (List.mem_of_getElem? (i := 853) rfl) rfl
set_option maxRecDepth 100000 in
theorem mw_500 : Cond.code yX8_take cX8_take 5 (some .int) ∈ gw := gw_of (List.mem_of_getElem? (i := 862) rfl) rfl
set_option maxRecDepth 100000 in
theorem mw_501 : Cond.instanceMethod yX8_take ∈ gw := gw_of (List.mem_of_getElem? (i := 860) rfl) rfl
set_option maxRecDepth 100000 in
theorem mw_502 : Cond.selects RX8 yX8_take yX8_take ∈ gw := gw_of (List.mem_of_getElem? (i := 861) rfl) rfl
set_option maxRecDepth 100000 in
theorem mw_503 : Cond.code yX8_gain cX8_gain 11 (some .long) ∈ gw := gw_of (List.mem_of_getElem? (i := 868) rfl) rfl
set_option maxRecDepth 100000 in
theorem mw_504 : Cond.instanceMethod yX8_gain ∈ gw := gw_of (List.mem_of_getElem? (i := 866) rfl) rfl
set_option maxRecDepth 100000 in
theorem mw_505 : Cond.selects RX8 yX8_gain yX8_gain ∈ gw := gw_of (List.mem_of_getElem? (i := 867) rfl) rfl
set_option maxRecDepth 100000 in
theorem mw_506 : Cond.code yX8_sheaves cX8_sheaves 4 (some .int) ∈ gw := gw_of (List.mem_of_getElem? (i := 872) rfl) rfl
set_option maxRecDepth 100000 in
theorem mw_507 : Cond.instanceMethod yX8_sheaves ∈ gw := gw_of (List.mem_of_getElem? (i := 870) rfl) rfl
set_option maxRecDepth 100000 in
theorem mw_508 : Cond.selects RX8 yX8_sheaves yX8_sheaves ∈ gw := gw_of (List.mem_of_getElem? (i := 871) rfl) rfl
set_option maxRecDepth 100000 in
theorem mw_509 : Cond.code yX8_led cX8_led 6 (some .int) ∈ gw := gw_of (List.mem_of_getElem? (i := 876) rfl) rfl
set_option maxRecDepth 100000 in
theorem mw_510 : Cond.instanceMethod yX8_led ∈ gw := gw_of (List.mem_of_getElem? (i := 874) rfl) rfl
set_option maxRecDepth 100000 in
theorem mw_511 : Cond.selects RX8 yX8_led yX8_led ∈ gw := gw_of (List.mem_of_getElem? (i := 875) rfl) rfl
set_option maxRecDepth 100000 in
theorem mw_512 : Cond.code yX8_count cX8_count 4 (some .int) ∈ gw := gw_of (List.mem_of_getElem? (i := 880) rfl) rfl
set_option maxRecDepth 100000 in
theorem mw_513 : Cond.instanceMethod yX8_count ∈ gw := gw_of (List.mem_of_getElem? (i := 878) rfl) rfl
set_option maxRecDepth 100000 in
theorem mw_514 : Cond.selects RX8 yX8_count yX8_count ∈ gw := gw_of (List.mem_of_getElem? (i := 879) rfl) rfl
set_option maxRecDepth 100000 in
theorem mw_515 : Cond.code yX8_status cX8_status 1 (some .int) ∈ gw := gw_of (List.mem_of_getElem? (i := 884) rfl) rfl
set_option maxRecDepth 100000 in
theorem mw_516 : Cond.instanceMethod yX8_status ∈ gw := gw_of (List.mem_of_getElem? (i := 882) rfl) rfl
set_option maxRecDepth 100000 in
theorem mw_517 : Cond.selects RX8 yX8_status yX8_status ∈ gw := gw_of (List.mem_of_getElem? (i := 883) rfl) rfl
set_option maxRecDepth 100000 in
theorem mw_518 : Cond.fieldLink "java/lang/String" 9 "java/lang/String" "value" "[B" ∈ gw := gw_of (List.mem_of_getElem? (i := 885) rfl) rfl
set_option maxRecDepth 100000 in
theorem mw_519 : Cond.fieldLink "java/lang/String" 15 "java/lang/String" "coder" "B" ∈ gw := gw_of (List.mem_of_getElem? (i := 886) rfl) rfl
set_option maxRecDepth 100000 in
theorem mw_520 : Cond.fieldLink "java/lang/String" 38 "java/lang/String" "COMPACT_STRINGS" "Z" ∈ gw := gw_of (List.mem_of_getElem? (i := 417) rfl) rfl
set_option maxRecDepth 100000 in
theorem mw_521 : Cond.fieldLink "java/lang/String" 1053 "jdk/internal/util/Preconditions" "SIOOBE_FORMATTER" "Ljava/util/function/BiFunction;" ∈ gw := gw_of (List.mem_of_getElem? (i := 433) rfl) rfl
set_option maxRecDepth 100000 in
theorem mw_522 : Cond.methodLink "java/lang/String" 335 yJ0_coder_7d493 ∈ gw := gw_of (List.mem_of_getElem? (i := 413) rfl) rfl
set_option maxRecDepth 100000 in
theorem mw_523 : Cond.methodLink "java/lang/String" 492 yJ0_isLatin1_aae02 ∈ gw := gw_of (List.mem_of_getElem? (i := 423) rfl) rfl
set_option maxRecDepth 100000 in
theorem mw_524 : Cond.methodLink "java/lang/String" 495 yJ1_charAt_3b067 ∈ gw := gw_of (List.mem_of_getElem? (i := 427) rfl) rfl
set_option maxRecDepth 100000 in
theorem mw_525 : Cond.methodLink "java/lang/StringLatin1" 9 yJ0_checkIndex_df160 ∈ gw := gw_of (List.mem_of_getElem? (i := 430) rfl) rfl
set_option maxRecDepth 100000 in
theorem mw_526 : Cond.methodLink "java/lang/String" 1059 yJ3_checkIndex_8e157 ∈ gw := gw_of (List.mem_of_getElem? (i := 435) rfl) rfl
set_option maxRecDepth 100000 in
theorem mw_527 : Cond.instanceMethod yJ0_length_8abf5 ∈ gw := gw_of (List.mem_of_getElem? (i := 410) rfl) rfl
set_option maxRecDepth 100000 in
theorem mw_528 : Cond.selects "java/lang/String" yJ0_length_8abf5 yJ0_length_8abf5 ∈ gw := gw_of (List.mem_of_getElem? (i := 411) rfl) rfl
set_option maxRecDepth 100000 in
theorem mw_529 : Cond.initialized "java/lang/String" ∈ gw := gw_of (List.mem_of_getElem? (i := 11) rfl) rfl
set_option maxRecDepth 100000 in
theorem mw_530 : Cond.code yJ0_length_8abf5 cJ0_length_8abf5 1 (some .int) ∈ gw := gw_of (List.mem_of_getElem? (i := 412) rfl) rfl
set_option maxRecDepth 100000 in
theorem mw_531 : Cond.instanceMethod yJ0_coder_7d493 ∈ gw := gw_of (List.mem_of_getElem? (i := 414) rfl) rfl
set_option maxRecDepth 100000 in
theorem mw_532 : Cond.selects "java/lang/String" yJ0_coder_7d493 yJ0_coder_7d493 ∈ gw := gw_of (List.mem_of_getElem? (i := 415) rfl) rfl
set_option maxRecDepth 100000 in
theorem mw_533 : Cond.code yJ0_coder_7d493 cJ0_coder_7d493 1 (some .byte) ∈ gw := gw_of (List.mem_of_getElem? (i := 416) rfl) rfl
set_option maxRecDepth 100000 in
theorem mw_534 : Cond.instanceMethod yJ0_isLatin1_aae02 ∈ gw := gw_of (List.mem_of_getElem? (i := 424) rfl) rfl
set_option maxRecDepth 100000 in
theorem mw_535 : Cond.selects "java/lang/String" yJ0_isLatin1_aae02 yJ0_isLatin1_aae02 ∈ gw := gw_of (List.mem_of_getElem? (i := 425) rfl) rfl
set_option maxRecDepth 100000 in
theorem mw_536 : Cond.code yJ0_isLatin1_aae02 cJ0_isLatin1_aae02 1 (some .boolean) ∈ gw := gw_of (List.mem_of_getElem? (i := 426) rfl) rfl
set_option maxRecDepth 100000 in
theorem mw_537 : Cond.instanceMethod yJ0_charAt_5068e ∈ gw := gw_of (List.mem_of_getElem? (i := 420) rfl) rfl
set_option maxRecDepth 100000 in
theorem mw_538 : Cond.selects "java/lang/String" yJ0_charAt_5068e yJ0_charAt_5068e ∈ gw := gw_of (List.mem_of_getElem? (i := 421) rfl) rfl
set_option maxRecDepth 100000 in
theorem mw_539 : Cond.code yJ0_charAt_5068e cJ0_charAt_5068e 2 (some .char) ∈ gw := gw_of (List.mem_of_getElem? (i := 422) rfl) rfl
set_option maxRecDepth 100000 in
theorem mw_540 : Cond.static yJ1_charAt_3b067 ∈ gw := gw_of (List.mem_of_getElem? (i := 428) rfl) rfl
set_option maxRecDepth 100000 in
theorem mw_541 : Cond.initialized "java/lang/StringLatin1" ∈ gw := gw_of (List.mem_of_getElem? (i := 12) rfl) rfl
set_option maxRecDepth 100000 in
theorem mw_542 : Cond.code yJ1_charAt_3b067 cJ1_charAt_3b067 2 (some .char) ∈ gw := gw_of (List.mem_of_getElem? (i := 429) rfl) rfl
set_option maxRecDepth 100000 in
theorem mw_543 : Cond.static yJ0_checkIndex_df160 ∈ gw := gw_of (List.mem_of_getElem? (i := 431) rfl) rfl
set_option maxRecDepth 100000 in
theorem mw_544 : Cond.code yJ0_checkIndex_df160 cJ0_checkIndex_df160 2 none ∈ gw := gw_of (List.mem_of_getElem? (i := 432) rfl) rfl
set_option maxRecDepth 100000 in
theorem mw_545 : Cond.static yJ3_checkIndex_8e157 ∈ gw := gw_of (List.mem_of_getElem? (i := 436) rfl) rfl
set_option maxRecDepth 100000 in
theorem mw_546 : Cond.initialized "jdk/internal/util/Preconditions" ∈ gw := gw_of (List.mem_of_getElem? (i := 13) rfl) rfl
set_option maxRecDepth 100000 in
theorem mw_547 : Cond.code yJ3_checkIndex_8e157 cJ3_checkIndex_8e157 3 (some .int) ∈ gw := gw_of (List.mem_of_getElem? (i := 437) rfl) rfl
theorem inq_X0 : ∀ w ∈ u_ws RX0 TX0 2, w ∈ lw_tbl := by decide +kernel
theorem inq_X1 : ∀ w ∈ u_ws RX1 TX1 5, w ∈ lw_tbl := by decide +kernel
theorem inq_X2 : ∀ w ∈ u_ws RX2 TX2 7, w ∈ lw_tbl := by decide +kernel
theorem inq_X3 : ∀ w ∈ u_ws RX3 TX3 5, w ∈ lw_tbl := by decide +kernel
theorem inq_X4 : ∀ w ∈ u_ws RX4 TX4 6, w ∈ lw_tbl := by decide +kernel
theorem inq_X5 : ∀ w ∈ u_ws RX5 TX5 7, w ∈ lw_tbl := by decide +kernel
theorem inq_X6 : ∀ w ∈ u_ws RX6 TX6 5, w ∈ lw_tbl := by decide +kernel
theorem inq_X7 : ∀ w ∈ u_ws RX7 TX7 10, w ∈ lw_tbl := by decide +kernel
theorem inq_X8 : ∀ w ∈ u_ws RX8 TX8 39, w ∈ lw_tbl := by decide +kernel
theorem ing_X0 : ∀ w ∈ u_ws RX0 TX0 2, goodWord w = true := by decide +kernel
theorem ing_X1 : ∀ w ∈ u_ws RX1 TX1 5, goodWord w = true := by decide +kernel
theorem ing_X2 : ∀ w ∈ u_ws RX2 TX2 7, goodWord w = true := by decide +kernel
theorem ing_X3 : ∀ w ∈ u_ws RX3 TX3 5, goodWord w = true := by decide +kernel
theorem ing_X4 : ∀ w ∈ u_ws RX4 TX4 6, goodWord w = true := by decide +kernel
theorem ing_X5 : ∀ w ∈ u_ws RX5 TX5 7, goodWord w = true := by decide +kernel
theorem ing_X6 : ∀ w ∈ u_ws RX6 TX6 5, goodWord w = true := by decide +kernel
theorem ing_X7 : ∀ w ∈ u_ws RX7 TX7 10, goodWord w = true := by decide +kernel
theorem ing_X8 : ∀ w ∈ u_ws RX8 TX8 39, goodWord w = true := by decide +kernel
theorem in_X0 : ∀ w ∈ u_ws RX0 TX0 2, w ∈ gw := fun w h => List.mem_filter.mpr ⟨inq_X0 w h, ing_X0 w h⟩
theorem in_X1 : ∀ w ∈ u_ws RX1 TX1 5, w ∈ gw := fun w h => List.mem_filter.mpr ⟨inq_X1 w h, ing_X1 w h⟩
theorem in_X2 : ∀ w ∈ u_ws RX2 TX2 7, w ∈ gw := fun w h => List.mem_filter.mpr ⟨inq_X2 w h, ing_X2 w h⟩
theorem in_X3 : ∀ w ∈ u_ws RX3 TX3 5, w ∈ gw := fun w h => List.mem_filter.mpr ⟨inq_X3 w h, ing_X3 w h⟩
theorem in_X4 : ∀ w ∈ u_ws RX4 TX4 6, w ∈ gw := fun w h => List.mem_filter.mpr ⟨inq_X4 w h, ing_X4 w h⟩
theorem in_X5 : ∀ w ∈ u_ws RX5 TX5 7, w ∈ gw := fun w h => List.mem_filter.mpr ⟨inq_X5 w h, ing_X5 w h⟩
theorem in_X6 : ∀ w ∈ u_ws RX6 TX6 5, w ∈ gw := fun w h => List.mem_filter.mpr ⟨inq_X6 w h, ing_X6 w h⟩
theorem in_X7 : ∀ w ∈ u_ws RX7 TX7 10, w ∈ gw := fun w h => List.mem_filter.mpr ⟨inq_X7 w h, ing_X7 w h⟩
theorem in_X8 : ∀ w ∈ u_ws RX8 TX8 39, w ∈ gw := fun w h => List.mem_filter.mpr ⟨inq_X8 w h, ing_X8 w h⟩
theorem gy_X0_borneAfter : Cond.instanceMethod yX0_borneAfter ∈ gw ∧ Cond.selects RX0 yX0_borneAfter yX0_borneAfter ∈ gw ∧ Cond.initialized RX0 ∈ gw ∧ Cond.code yX0_borneAfter cX0_borneAfter 5 (some .int) ∈ gw := ⟨mw_182, mw_183, mw_184, mw_181⟩
theorem hd_X0_borneAfter : yX0_borneAfter.cls = RX0 ∧ yX0_borneAfter.cls ≠ "java/lang/invoke/MethodHandle" ∧ yX0_borneAfter.cls ≠ "java/lang/invoke/VarHandle" ∧ (parseMethodDescriptor yX0_borneAfter.desc).map (fun d => d.parameters.length) = some 1 := by decide +kernel
theorem gy_X1_add : Cond.instanceMethod yX1_add ∈ gw ∧ Cond.selects RX1 yX1_add yX1_add ∈ gw ∧ Cond.initialized RX1 ∈ gw ∧ Cond.code yX1_add cX1_add 5 none ∈ gw := ⟨mw_186, mw_187, mw_188, mw_185⟩
theorem hd_X1_add : yX1_add.cls = RX1 ∧ yX1_add.cls ≠ "java/lang/invoke/MethodHandle" ∧ yX1_add.cls ≠ "java/lang/invoke/VarHandle" ∧ (parseMethodDescriptor yX1_add.desc).map (fun d => d.parameters.length) = some 4 := by decide +kernel
theorem gy_X1_frees : Cond.instanceMethod yX1_frees ∈ gw ∧ Cond.selects RX1 yX1_frees yX1_frees ∈ gw ∧ Cond.initialized RX1 ∈ gw ∧ Cond.code yX1_frees cX1_frees 3 (some .boolean) ∈ gw := ⟨mw_190, mw_191, mw_188, mw_189⟩
theorem hd_X1_frees : yX1_frees.cls = RX1 ∧ yX1_frees.cls ≠ "java/lang/invoke/MethodHandle" ∧ yX1_frees.cls ≠ "java/lang/invoke/VarHandle" ∧ (parseMethodDescriptor yX1_frees.desc).map (fun d => d.parameters.length) = some 1 := by decide +kernel
theorem gy_X1_lastOf : Cond.instanceMethod yX1_lastOf ∈ gw ∧ Cond.selects RX1 yX1_lastOf yX1_lastOf ∈ gw ∧ Cond.initialized RX1 ∈ gw ∧ Cond.code yX1_lastOf cX1_lastOf 4 (some .int) ∈ gw := ⟨mw_193, mw_194, mw_188, mw_192⟩
theorem hd_X1_lastOf : yX1_lastOf.cls = RX1 ∧ yX1_lastOf.cls ≠ "java/lang/invoke/MethodHandle" ∧ yX1_lastOf.cls ≠ "java/lang/invoke/VarHandle" ∧ (parseMethodDescriptor yX1_lastOf.desc).map (fun d => d.parameters.length) = some 1 := by decide +kernel
theorem gy_X1_taxOn : Cond.instanceMethod yX1_taxOn ∈ gw ∧ Cond.selects RX1 yX1_taxOn yX1_taxOn ∈ gw ∧ Cond.initialized RX1 ∈ gw ∧ Cond.code yX1_taxOn cX1_taxOn 5 (some .int) ∈ gw := ⟨mw_196, mw_197, mw_188, mw_195⟩
theorem hd_X1_taxOn : yX1_taxOn.cls = RX1 ∧ yX1_taxOn.cls ≠ "java/lang/invoke/MethodHandle" ∧ yX1_taxOn.cls ≠ "java/lang/invoke/VarHandle" ∧ (parseMethodDescriptor yX1_taxOn.desc).map (fun d => d.parameters.length) = some 2 := by decide +kernel
theorem gy_X1_partOf : Cond.instanceMethod yX1_partOf ∈ gw ∧ Cond.selects RX1 yX1_partOf yX1_partOf ∈ gw ∧ Cond.initialized RX1 ∈ gw ∧ Cond.code yX1_partOf cX1_partOf 3 (some .int) ∈ gw := ⟨mw_199, mw_200, mw_188, mw_198⟩
theorem hd_X1_partOf : yX1_partOf.cls = RX1 ∧ yX1_partOf.cls ≠ "java/lang/invoke/MethodHandle" ∧ yX1_partOf.cls ≠ "java/lang/invoke/VarHandle" ∧ (parseMethodDescriptor yX1_partOf.desc).map (fun d => d.parameters.length) = some 2 := by decide +kernel
theorem gy_X7_share : Cond.static yX7_share ∈ gw ∧ Cond.initialized RX7 ∈ gw ∧ Cond.code yX7_share cX7_share 6 (some .long) ∈ gw := ⟨mw_202, mw_203, mw_201⟩
theorem hd_X7_share : yX7_share.cls = RX7 ∧ yX7_share.cls ≠ "java/lang/invoke/MethodHandle" ∧ yX7_share.cls ≠ "java/lang/invoke/VarHandle" ∧ (parseMethodDescriptor yX7_share.desc).map (fun d => d.parameters.length) = some 3 := by decide +kernel
theorem gy_X1_reliefOn : Cond.instanceMethod yX1_reliefOn ∈ gw ∧ Cond.selects RX1 yX1_reliefOn yX1_reliefOn ∈ gw ∧ Cond.initialized RX1 ∈ gw ∧ Cond.code yX1_reliefOn cX1_reliefOn 5 (some .int) ∈ gw := ⟨mw_205, mw_206, mw_188, mw_204⟩
theorem hd_X1_reliefOn : yX1_reliefOn.cls = RX1 ∧ yX1_reliefOn.cls ≠ "java/lang/invoke/MethodHandle" ∧ yX1_reliefOn.cls ≠ "java/lang/invoke/VarHandle" ∧ (parseMethodDescriptor yX1_reliefOn.desc).map (fun d => d.parameters.length) = some 2 := by decide +kernel
theorem gy_X1_officerPart : Cond.instanceMethod yX1_officerPart ∈ gw ∧ Cond.selects RX1 yX1_officerPart yX1_officerPart ∈ gw ∧ Cond.initialized RX1 ∈ gw ∧ Cond.code yX1_officerPart cX1_officerPart 2 (some .int) ∈ gw := ⟨mw_208, mw_209, mw_188, mw_207⟩
theorem hd_X1_officerPart : yX1_officerPart.cls = RX1 ∧ yX1_officerPart.cls ≠ "java/lang/invoke/MethodHandle" ∧ yX1_officerPart.cls ≠ "java/lang/invoke/VarHandle" ∧ (parseMethodDescriptor yX1_officerPart.desc).map (fun d => d.parameters.length) = some 1 := by decide +kernel
theorem gy_X2_addStrip : Cond.instanceMethod yX2_addStrip ∈ gw ∧ Cond.selects RX2 yX2_addStrip yX2_addStrip ∈ gw ∧ Cond.initialized RX2 ∈ gw ∧ Cond.code yX2_addStrip cX2_addStrip 4 none ∈ gw := ⟨mw_211, mw_212, mw_213, mw_210⟩
theorem hd_X2_addStrip : yX2_addStrip.cls = RX2 ∧ yX2_addStrip.cls ≠ "java/lang/invoke/MethodHandle" ∧ yX2_addStrip.cls ≠ "java/lang/invoke/VarHandle" ∧ (parseMethodDescriptor yX2_addStrip.desc).map (fun d => d.parameters.length) = some 3 := by decide +kernel
theorem gy_X2_hasStrip : Cond.instanceMethod yX2_hasStrip ∈ gw ∧ Cond.selects RX2 yX2_hasStrip yX2_hasStrip ∈ gw ∧ Cond.initialized RX2 ∈ gw ∧ Cond.code yX2_hasStrip cX2_hasStrip 2 (some .boolean) ∈ gw := ⟨mw_215, mw_216, mw_213, mw_214⟩
theorem hd_X2_hasStrip : yX2_hasStrip.cls = RX2 ∧ yX2_hasStrip.cls ≠ "java/lang/invoke/MethodHandle" ∧ yX2_hasStrip.cls ≠ "java/lang/invoke/VarHandle" ∧ (parseMethodDescriptor yX2_hasStrip.desc).map (fun d => d.parameters.length) = some 1 := by decide +kernel
theorem gy_X2_hasMark : Cond.instanceMethod yX2_hasMark ∈ gw ∧ Cond.selects RX2 yX2_hasMark yX2_hasMark ∈ gw ∧ Cond.initialized RX2 ∈ gw ∧ Cond.code yX2_hasMark cX2_hasMark 2 (some .boolean) ∈ gw := ⟨mw_218, mw_219, mw_213, mw_217⟩
theorem hd_X2_hasMark : yX2_hasMark.cls = RX2 ∧ yX2_hasMark.cls ≠ "java/lang/invoke/MethodHandle" ∧ yX2_hasMark.cls ≠ "java/lang/invoke/VarHandle" ∧ (parseMethodDescriptor yX2_hasMark.desc).map (fun d => d.parameters.length) = some 1 := by decide +kernel
theorem gy_X2_isRock : Cond.instanceMethod yX2_isRock ∈ gw ∧ Cond.selects RX2 yX2_isRock yX2_isRock ∈ gw ∧ Cond.initialized RX2 ∈ gw ∧ Cond.code yX2_isRock cX2_isRock 2 (some .boolean) ∈ gw := ⟨mw_221, mw_222, mw_213, mw_220⟩
theorem hd_X2_isRock : yX2_isRock.cls = RX2 ∧ yX2_isRock.cls ≠ "java/lang/invoke/MethodHandle" ∧ yX2_isRock.cls ≠ "java/lang/invoke/VarHandle" ∧ (parseMethodDescriptor yX2_isRock.desc).map (fun d => d.parameters.length) = some 1 := by decide +kernel
theorem gy_X2_canDraw : Cond.instanceMethod yX2_canDraw ∈ gw ∧ Cond.selects RX2 yX2_canDraw yX2_canDraw ∈ gw ∧ Cond.initialized RX2 ∈ gw ∧ Cond.code yX2_canDraw cX2_canDraw 4 (some .boolean) ∈ gw := ⟨mw_224, mw_225, mw_213, mw_223⟩
theorem hd_X2_canDraw : yX2_canDraw.cls = RX2 ∧ yX2_canDraw.cls ≠ "java/lang/invoke/MethodHandle" ∧ yX2_canDraw.cls ≠ "java/lang/invoke/VarHandle" ∧ (parseMethodDescriptor yX2_canDraw.desc).map (fun d => d.parameters.length) = some 2 := by decide +kernel
theorem gy_X2_partRopes : Cond.instanceMethod yX2_partRopes ∈ gw ∧ Cond.selects RX2 yX2_partRopes yX2_partRopes ∈ gw ∧ Cond.initialized RX2 ∈ gw ∧ Cond.code yX2_partRopes cX2_partRopes 8 none ∈ gw := ⟨mw_227, mw_228, mw_213, mw_226⟩
theorem hd_X2_partRopes : yX2_partRopes.cls = RX2 ∧ yX2_partRopes.cls ≠ "java/lang/invoke/MethodHandle" ∧ yX2_partRopes.cls ≠ "java/lang/invoke/VarHandle" ∧ (parseMethodDescriptor yX2_partRopes.desc).map (fun d => d.parameters.length) = some 3 := by decide +kernel
theorem gy_X2_giveOneMore : Cond.instanceMethod yX2_giveOneMore ∈ gw ∧ Cond.selects RX2 yX2_giveOneMore yX2_giveOneMore ∈ gw ∧ Cond.initialized RX2 ∈ gw ∧ Cond.code yX2_giveOneMore cX2_giveOneMore 5 none ∈ gw := ⟨mw_230, mw_231, mw_213, mw_229⟩
theorem hd_X2_giveOneMore : yX2_giveOneMore.cls = RX2 ∧ yX2_giveOneMore.cls ≠ "java/lang/invoke/MethodHandle" ∧ yX2_giveOneMore.cls ≠ "java/lang/invoke/VarHandle" ∧ (parseMethodDescriptor yX2_giveOneMore.desc).map (fun d => d.parameters.length) = some 2 := by decide +kernel
theorem gy_X2_setMarksBetween : Cond.instanceMethod yX2_setMarksBetween ∈ gw ∧ Cond.selects RX2 yX2_setMarksBetween yX2_setMarksBetween ∈ gw ∧ Cond.initialized RX2 ∈ gw ∧ Cond.code yX2_setMarksBetween cX2_setMarksBetween 4 (some .int) ∈ gw := ⟨mw_233, mw_234, mw_213, mw_232⟩
theorem hd_X2_setMarksBetween : yX2_setMarksBetween.cls = RX2 ∧ yX2_setMarksBetween.cls ≠ "java/lang/invoke/MethodHandle" ∧ yX2_setMarksBetween.cls ≠ "java/lang/invoke/VarHandle" ∧ (parseMethodDescriptor yX2_setMarksBetween.desc).map (fun d => d.parameters.length) = some 2 := by decide +kernel
theorem gy_X2_lostMarks : Cond.instanceMethod yX2_lostMarks ∈ gw ∧ Cond.selects RX2 yX2_lostMarks yX2_lostMarks ∈ gw ∧ Cond.initialized RX2 ∈ gw ∧ Cond.code yX2_lostMarks cX2_lostMarks 3 (some .int) ∈ gw := ⟨mw_236, mw_237, mw_213, mw_235⟩
theorem hd_X2_lostMarks : yX2_lostMarks.cls = RX2 ∧ yX2_lostMarks.cls ≠ "java/lang/invoke/MethodHandle" ∧ yX2_lostMarks.cls ≠ "java/lang/invoke/VarHandle" ∧ (parseMethodDescriptor yX2_lostMarks.desc).map (fun d => d.parameters.length) = some 0 := by decide +kernel
theorem gy_X2_allWidths : Cond.instanceMethod yX2_allWidths ∈ gw ∧ Cond.selects RX2 yX2_allWidths yX2_allWidths ∈ gw ∧ Cond.initialized RX2 ∈ gw ∧ Cond.code yX2_allWidths cX2_allWidths 3 (some .int) ∈ gw := ⟨mw_239, mw_240, mw_213, mw_238⟩
theorem hd_X2_allWidths : yX2_allWidths.cls = RX2 ∧ yX2_allWidths.cls ≠ "java/lang/invoke/MethodHandle" ∧ yX2_allWidths.cls ≠ "java/lang/invoke/VarHandle" ∧ (parseMethodDescriptor yX2_allWidths.desc).map (fun d => d.parameters.length) = some 0 := by decide +kernel
theorem gy_X3_assess : Cond.instanceMethod yX3_assess ∈ gw ∧ Cond.selects RX3 yX3_assess yX3_assess ∈ gw ∧ Cond.initialized RX3 ∈ gw ∧ Cond.code yX3_assess cX3_assess 6 none ∈ gw := ⟨mw_242, mw_243, mw_244, mw_241⟩
theorem hd_X3_assess : yX3_assess.cls = RX3 ∧ yX3_assess.cls ≠ "java/lang/invoke/MethodHandle" ∧ yX3_assess.cls ≠ "java/lang/invoke/VarHandle" ∧ (parseMethodDescriptor yX3_assess.desc).map (fun d => d.parameters.length) = some 4 := by decide +kernel
theorem gy_X4_tell : Cond.instanceMethod yX4_tell ∈ gw ∧ Cond.selects RX4 yX4_tell yX4_tell ∈ gw ∧ Cond.initialized RX4 ∈ gw ∧ Cond.code yX4_tell cX4_tell 4 none ∈ gw := ⟨mw_246, mw_247, mw_248, mw_245⟩
theorem hd_X4_tell : yX4_tell.cls = RX4 ∧ yX4_tell.cls ≠ "java/lang/invoke/MethodHandle" ∧ yX4_tell.cls ≠ "java/lang/invoke/VarHandle" ∧ (parseMethodDescriptor yX4_tell.desc).map (fun d => d.parameters.length) = some 3 := by decide +kernel
theorem gy_X4_look : Cond.instanceMethod yX4_look ∈ gw ∧ Cond.selects RX4 yX4_look yX4_look ∈ gw ∧ Cond.initialized RX4 ∈ gw ∧ Cond.code yX4_look cX4_look 2 none ∈ gw := ⟨mw_250, mw_251, mw_248, mw_249⟩
theorem hd_X4_look : yX4_look.cls = RX4 ∧ yX4_look.cls ≠ "java/lang/invoke/MethodHandle" ∧ yX4_look.cls ≠ "java/lang/invoke/VarHandle" ∧ (parseMethodDescriptor yX4_look.desc).map (fun d => d.parameters.length) = some 1 := by decide +kernel
theorem gy_X4_lookUpTo : Cond.instanceMethod yX4_lookUpTo ∈ gw ∧ Cond.selects RX4 yX4_lookUpTo yX4_lookUpTo ∈ gw ∧ Cond.initialized RX4 ∈ gw ∧ Cond.code yX4_lookUpTo cX4_lookUpTo 4 none ∈ gw := ⟨mw_253, mw_254, mw_248, mw_252⟩
theorem hd_X4_lookUpTo : yX4_lookUpTo.cls = RX4 ∧ yX4_lookUpTo.cls ≠ "java/lang/invoke/MethodHandle" ∧ yX4_lookUpTo.cls ≠ "java/lang/invoke/VarHandle" ∧ (parseMethodDescriptor yX4_lookUpTo.desc).map (fun d => d.parameters.length) = some 2 := by decide +kernel
theorem gy_X4_carryOn : Cond.instanceMethod yX4_carryOn ∈ gw ∧ Cond.selects RX4 yX4_carryOn yX4_carryOn ∈ gw ∧ Cond.initialized RX4 ∈ gw ∧ Cond.code yX4_carryOn cX4_carryOn 3 none ∈ gw := ⟨mw_256, mw_257, mw_248, mw_255⟩
theorem hd_X4_carryOn : yX4_carryOn.cls = RX4 ∧ yX4_carryOn.cls ≠ "java/lang/invoke/MethodHandle" ∧ yX4_carryOn.cls ≠ "java/lang/invoke/VarHandle" ∧ (parseMethodDescriptor yX4_carryOn.desc).map (fun d => d.parameters.length) = some 0 := by decide +kernel
theorem gy_X4_wetDays : Cond.instanceMethod yX4_wetDays ∈ gw ∧ Cond.selects RX4 yX4_wetDays yX4_wetDays ∈ gw ∧ Cond.initialized RX4 ∈ gw ∧ Cond.code yX4_wetDays cX4_wetDays 4 (some .int) ∈ gw := ⟨mw_259, mw_260, mw_248, mw_258⟩
theorem hd_X4_wetDays : yX4_wetDays.cls = RX4 ∧ yX4_wetDays.cls ≠ "java/lang/invoke/MethodHandle" ∧ yX4_wetDays.cls ≠ "java/lang/invoke/VarHandle" ∧ (parseMethodDescriptor yX4_wetDays.desc).map (fun d => d.parameters.length) = some 1 := by decide +kernel
theorem gy_X5_add : Cond.instanceMethod yX5_add ∈ gw ∧ Cond.selects RX5 yX5_add yX5_add ∈ gw ∧ Cond.initialized RX5 ∈ gw ∧ Cond.code yX5_add cX5_add 5 none ∈ gw := ⟨mw_262, mw_263, mw_264, mw_261⟩
theorem hd_X5_add : yX5_add.cls = RX5 ∧ yX5_add.cls ≠ "java/lang/invoke/MethodHandle" ∧ yX5_add.cls ≠ "java/lang/invoke/VarHandle" ∧ (parseMethodDescriptor yX5_add.desc).map (fun d => d.parameters.length) = some 4 := by decide +kernel
theorem gy_X5_sumUp : Cond.instanceMethod yX5_sumUp ∈ gw ∧ Cond.selects RX5 yX5_sumUp yX5_sumUp ∈ gw ∧ Cond.initialized RX5 ∈ gw ∧ Cond.code yX5_sumUp cX5_sumUp 4 none ∈ gw := ⟨mw_266, mw_267, mw_264, mw_265⟩
theorem hd_X5_sumUp : yX5_sumUp.cls = RX5 ∧ yX5_sumUp.cls ≠ "java/lang/invoke/MethodHandle" ∧ yX5_sumUp.cls ≠ "java/lang/invoke/VarHandle" ∧ (parseMethodDescriptor yX5_sumUp.desc).map (fun d => d.parameters.length) = some 2 := by decide +kernel
theorem gy_X6_append : Cond.instanceMethod yX6_append ∈ gw ∧ Cond.selects RX6 yX6_append yX6_append ∈ gw ∧ Cond.initialized RX6 ∈ gw ∧ Cond.code yX6_append cX6_append 3 none ∈ gw := ⟨mw_269, mw_270, mw_271, mw_268⟩
theorem hd_X6_append : yX6_append.cls = RX6 ∧ yX6_append.cls ≠ "java/lang/invoke/MethodHandle" ∧ yX6_append.cls ≠ "java/lang/invoke/VarHandle" ∧ (parseMethodDescriptor yX6_append.desc).map (fun d => d.parameters.length) = some 1 := by decide +kernel
theorem gy_X6_parseInto : Cond.instanceMethod yX6_parseInto ∈ gw ∧ Cond.selects RX6 yX6_parseInto yX6_parseInto ∈ gw ∧ Cond.initialized RX6 ∈ gw ∧ Cond.code yX6_parseInto cX6_parseInto 3 (some .int) ∈ gw := ⟨mw_273, mw_274, mw_271, mw_272⟩
theorem hd_X6_parseInto : yX6_parseInto.cls = RX6 ∧ yX6_parseInto.cls ≠ "java/lang/invoke/MethodHandle" ∧ yX6_parseInto.cls ≠ "java/lang/invoke/VarHandle" ∧ (parseMethodDescriptor yX6_parseInto.desc).map (fun d => d.parameters.length) = some 1 := by decide +kernel
theorem gy_X6_nextToken : Cond.instanceMethod yX6_nextToken ∈ gw ∧ Cond.selects RX6 yX6_nextToken yX6_nextToken ∈ gw ∧ Cond.initialized RX6 ∈ gw ∧ Cond.code yX6_nextToken cX6_nextToken 2 none ∈ gw := ⟨mw_276, mw_277, mw_271, mw_275⟩
theorem hd_X6_nextToken : yX6_nextToken.cls = RX6 ∧ yX6_nextToken.cls ≠ "java/lang/invoke/MethodHandle" ∧ yX6_nextToken.cls ≠ "java/lang/invoke/VarHandle" ∧ (parseMethodDescriptor yX6_nextToken.desc).map (fun d => d.parameters.length) = some 0 := by decide +kernel
theorem gy_X6_kindAt : Cond.instanceMethod yX6_kindAt ∈ gw ∧ Cond.selects RX6 yX6_kindAt yX6_kindAt ∈ gw ∧ Cond.initialized RX6 ∈ gw ∧ Cond.code yX6_kindAt cX6_kindAt 3 (some .int) ∈ gw := ⟨mw_279, mw_280, mw_271, mw_278⟩
theorem hd_X6_kindAt : yX6_kindAt.cls = RX6 ∧ yX6_kindAt.cls ≠ "java/lang/invoke/MethodHandle" ∧ yX6_kindAt.cls ≠ "java/lang/invoke/VarHandle" ∧ (parseMethodDescriptor yX6_kindAt.desc).map (fun d => d.parameters.length) = some 1 := by decide +kernel
theorem gy_X6_takeDecree : Cond.instanceMethod yX6_takeDecree ∈ gw ∧ Cond.selects RX6 yX6_takeDecree yX6_takeDecree ∈ gw ∧ Cond.initialized RX6 ∈ gw ∧ Cond.code yX6_takeDecree cX6_takeDecree 6 (some .boolean) ∈ gw := ⟨mw_282, mw_283, mw_271, mw_281⟩
theorem hd_X6_takeDecree : yX6_takeDecree.cls = RX6 ∧ yX6_takeDecree.cls ≠ "java/lang/invoke/MethodHandle" ∧ yX6_takeDecree.cls ≠ "java/lang/invoke/VarHandle" ∧ (parseMethodDescriptor yX6_takeDecree.desc).map (fun d => d.parameters.length) = some 1 := by decide +kernel
theorem gy_X6_takeDecreeKind : Cond.instanceMethod yX6_takeDecreeKind ∈ gw ∧ Cond.selects RX6 yX6_takeDecreeKind yX6_takeDecreeKind ∈ gw ∧ Cond.initialized RX6 ∈ gw ∧ Cond.code yX6_takeDecreeKind cX6_takeDecreeKind 1 (some .int) ∈ gw := ⟨mw_285, mw_286, mw_271, mw_284⟩
theorem hd_X6_takeDecreeKind : yX6_takeDecreeKind.cls = RX6 ∧ yX6_takeDecreeKind.cls ≠ "java/lang/invoke/MethodHandle" ∧ yX6_takeDecreeKind.cls ≠ "java/lang/invoke/VarHandle" ∧ (parseMethodDescriptor yX6_takeDecreeKind.desc).map (fun d => d.parameters.length) = some 0 := by decide +kernel
theorem gy_X6_takeWord : Cond.instanceMethod yX6_takeWord ∈ gw ∧ Cond.selects RX6 yX6_takeWord yX6_takeWord ∈ gw ∧ Cond.initialized RX6 ∈ gw ∧ Cond.code yX6_takeWord cX6_takeWord 3 (some .boolean) ∈ gw := ⟨mw_288, mw_289, mw_271, mw_287⟩
theorem hd_X6_takeWord : yX6_takeWord.cls = RX6 ∧ yX6_takeWord.cls ≠ "java/lang/invoke/MethodHandle" ∧ yX6_takeWord.cls ≠ "java/lang/invoke/VarHandle" ∧ (parseMethodDescriptor yX6_takeWord.desc).map (fun d => d.parameters.length) = some 1 := by decide +kernel
theorem gy_X6_takeNumber : Cond.instanceMethod yX6_takeNumber ∈ gw ∧ Cond.selects RX6 yX6_takeNumber yX6_takeNumber ∈ gw ∧ Cond.initialized RX6 ∈ gw ∧ Cond.code yX6_takeNumber cX6_takeNumber 3 (some .int) ∈ gw := ⟨mw_291, mw_292, mw_271, mw_290⟩
theorem hd_X6_takeNumber : yX6_takeNumber.cls = RX6 ∧ yX6_takeNumber.cls ≠ "java/lang/invoke/MethodHandle" ∧ yX6_takeNumber.cls ≠ "java/lang/invoke/VarHandle" ∧ (parseMethodDescriptor yX6_takeNumber.desc).map (fun d => d.parameters.length) = some 1 := by decide +kernel
theorem gy_X6_numberAhead : Cond.instanceMethod yX6_numberAhead ∈ gw ∧ Cond.selects RX6 yX6_numberAhead yX6_numberAhead ∈ gw ∧ Cond.initialized RX6 ∈ gw ∧ Cond.code yX6_numberAhead cX6_numberAhead 3 (some .int) ∈ gw := ⟨mw_294, mw_295, mw_271, mw_293⟩
theorem hd_X6_numberAhead : yX6_numberAhead.cls = RX6 ∧ yX6_numberAhead.cls ≠ "java/lang/invoke/MethodHandle" ∧ yX6_numberAhead.cls ≠ "java/lang/invoke/VarHandle" ∧ (parseMethodDescriptor yX6_numberAhead.desc).map (fun d => d.parameters.length) = some 0 := by decide +kernel
theorem gy_X6_takeBound : Cond.instanceMethod yX6_takeBound ∈ gw ∧ Cond.selects RX6 yX6_takeBound yX6_takeBound ∈ gw ∧ Cond.initialized RX6 ∈ gw ∧ Cond.code yX6_takeBound cX6_takeBound 3 (some .int) ∈ gw := ⟨mw_297, mw_298, mw_271, mw_296⟩
theorem hd_X6_takeBound : yX6_takeBound.cls = RX6 ∧ yX6_takeBound.cls ≠ "java/lang/invoke/MethodHandle" ∧ yX6_takeBound.cls ≠ "java/lang/invoke/VarHandle" ∧ (parseMethodDescriptor yX6_takeBound.desc).map (fun d => d.parameters.length) = some 1 := by decide +kernel
theorem gy_X6_takeSemicolon : Cond.instanceMethod yX6_takeSemicolon ∈ gw ∧ Cond.selects RX6 yX6_takeSemicolon yX6_takeSemicolon ∈ gw ∧ Cond.initialized RX6 ∈ gw ∧ Cond.code yX6_takeSemicolon cX6_takeSemicolon 1 (some .boolean) ∈ gw := ⟨mw_300, mw_301, mw_271, mw_299⟩
theorem hd_X6_takeSemicolon : yX6_takeSemicolon.cls = RX6 ∧ yX6_takeSemicolon.cls ≠ "java/lang/invoke/MethodHandle" ∧ yX6_takeSemicolon.cls ≠ "java/lang/invoke/VarHandle" ∧ (parseMethodDescriptor yX6_takeSemicolon.desc).map (fun d => d.parameters.length) = some 0 := by decide +kernel
theorem gy_X7_read : Cond.instanceMethod yX7_read ∈ gw ∧ Cond.selects RX7 yX7_read yX7_read ∈ gw ∧ Cond.initialized RX7 ∈ gw ∧ Cond.code yX7_read cX7_read 4 (some .int) ∈ gw := ⟨mw_303, mw_304, mw_203, mw_302⟩
theorem hd_X7_read : yX7_read.cls = RX7 ∧ yX7_read.cls ≠ "java/lang/invoke/MethodHandle" ∧ yX7_read.cls ≠ "java/lang/invoke/VarHandle" ∧ (parseMethodDescriptor yX7_read.desc).map (fun d => d.parameters.length) = some 3 := by decide +kernel
theorem gy_X7_isWithin : Cond.static yX7_isWithin ∈ gw ∧ Cond.initialized RX7 ∈ gw ∧ Cond.code yX7_isWithin cX7_isWithin 2 (some .boolean) ∈ gw := ⟨mw_306, mw_203, mw_305⟩
theorem hd_X7_isWithin : yX7_isWithin.cls = RX7 ∧ yX7_isWithin.cls ≠ "java/lang/invoke/MethodHandle" ∧ yX7_isWithin.cls ≠ "java/lang/invoke/VarHandle" ∧ (parseMethodDescriptor yX7_isWithin.desc).map (fun d => d.parameters.length) = some 2 := by decide +kernel
theorem gy_X7_isKnownDay : Cond.static yX7_isKnownDay ∈ gw ∧ Cond.initialized RX7 ∈ gw ∧ Cond.code yX7_isKnownDay cX7_isKnownDay 1 (some .boolean) ∈ gw := ⟨mw_308, mw_203, mw_307⟩
theorem hd_X7_isKnownDay : yX7_isKnownDay.cls = RX7 ∧ yX7_isKnownDay.cls ≠ "java/lang/invoke/MethodHandle" ∧ yX7_isKnownDay.cls ≠ "java/lang/invoke/VarHandle" ∧ (parseMethodDescriptor yX7_isKnownDay.desc).map (fun d => d.parameters.length) = some 1 := by decide +kernel
theorem gy_X7_refuse : Cond.instanceMethod yX7_refuse ∈ gw ∧ Cond.selects RX7 yX7_refuse yX7_refuse ∈ gw ∧ Cond.initialized RX7 ∈ gw ∧ Cond.code yX7_refuse cX7_refuse 2 (some .int) ∈ gw := ⟨mw_310, mw_311, mw_203, mw_309⟩
theorem hd_X7_refuse : yX7_refuse.cls = RX7 ∧ yX7_refuse.cls ≠ "java/lang/invoke/MethodHandle" ∧ yX7_refuse.cls ≠ "java/lang/invoke/VarHandle" ∧ (parseMethodDescriptor yX7_refuse.desc).map (fun d => d.parameters.length) = some 1 := by decide +kernel
theorem gy_X7_accept : Cond.instanceMethod yX7_accept ∈ gw ∧ Cond.selects RX7 yX7_accept yX7_accept ∈ gw ∧ Cond.initialized RX7 ∈ gw ∧ Cond.code yX7_accept cX7_accept 2 (some .int) ∈ gw := ⟨mw_313, mw_314, mw_203, mw_312⟩
theorem hd_X7_accept : yX7_accept.cls = RX7 ∧ yX7_accept.cls ≠ "java/lang/invoke/MethodHandle" ∧ yX7_accept.cls ≠ "java/lang/invoke/VarHandle" ∧ (parseMethodDescriptor yX7_accept.desc).map (fun d => d.parameters.length) = some 1 := by decide +kernel
theorem gy_X7_height : Cond.instanceMethod yX7_height ∈ gw ∧ Cond.selects RX7 yX7_height yX7_height ∈ gw ∧ Cond.initialized RX7 ∈ gw ∧ Cond.code yX7_height cX7_height 3 (some .int) ∈ gw := ⟨mw_316, mw_317, mw_203, mw_315⟩
theorem hd_X7_height : yX7_height.cls = RX7 ∧ yX7_height.cls ≠ "java/lang/invoke/MethodHandle" ∧ yX7_height.cls ≠ "java/lang/invoke/VarHandle" ∧ (parseMethodDescriptor yX7_height.desc).map (fun d => d.parameters.length) = some 2 := by decide +kernel
theorem gy_X7_peak : Cond.instanceMethod yX7_peak ∈ gw ∧ Cond.selects RX7 yX7_peak yX7_peak ∈ gw ∧ Cond.initialized RX7 ∈ gw ∧ Cond.code yX7_peak cX7_peak 2 (some .int) ∈ gw := ⟨mw_319, mw_320, mw_203, mw_318⟩
theorem hd_X7_peak : yX7_peak.cls = RX7 ∧ yX7_peak.cls ≠ "java/lang/invoke/MethodHandle" ∧ yX7_peak.cls ≠ "java/lang/invoke/VarHandle" ∧ (parseMethodDescriptor yX7_peak.desc).map (fun d => d.parameters.length) = some 1 := by decide +kernel
theorem gy_X7_strip : Cond.instanceMethod yX7_strip ∈ gw ∧ Cond.selects RX7 yX7_strip yX7_strip ∈ gw ∧ Cond.initialized RX7 ∈ gw ∧ Cond.code yX7_strip cX7_strip 4 (some .int) ∈ gw := ⟨mw_322, mw_323, mw_203, mw_321⟩
theorem hd_X7_strip : yX7_strip.cls = RX7 ∧ yX7_strip.cls ≠ "java/lang/invoke/MethodHandle" ∧ yX7_strip.cls ≠ "java/lang/invoke/VarHandle" ∧ (parseMethodDescriptor yX7_strip.desc).map (fun d => d.parameters.length) = some 3 := by decide +kernel
theorem gy_X7_of : Cond.instanceMethod yX7_of ∈ gw ∧ Cond.selects RX7 yX7_of yX7_of ∈ gw ∧ Cond.initialized RX7 ∈ gw ∧ Cond.code yX7_of cX7_of 3 (some .int) ∈ gw := ⟨mw_325, mw_326, mw_203, mw_324⟩
theorem hd_X7_of : yX7_of.cls = RX7 ∧ yX7_of.cls ≠ "java/lang/invoke/MethodHandle" ∧ yX7_of.cls ≠ "java/lang/invoke/VarHandle" ∧ (parseMethodDescriptor yX7_of.desc).map (fun d => d.parameters.length) = some 2 := by decide +kernel
theorem gy_X7_lose : Cond.instanceMethod yX7_lose ∈ gw ∧ Cond.selects RX7 yX7_lose yX7_lose ∈ gw ∧ Cond.initialized RX7 ∈ gw ∧ Cond.code yX7_lose cX7_lose 2 (some .int) ∈ gw := ⟨mw_328, mw_329, mw_203, mw_327⟩
theorem hd_X7_lose : yX7_lose.cls = RX7 ∧ yX7_lose.cls ≠ "java/lang/invoke/MethodHandle" ∧ yX7_lose.cls ≠ "java/lang/invoke/VarHandle" ∧ (parseMethodDescriptor yX7_lose.desc).map (fun d => d.parameters.length) = some 1 := by decide +kernel
theorem gy_X7_draw : Cond.instanceMethod yX7_draw ∈ gw ∧ Cond.selects RX7 yX7_draw yX7_draw ∈ gw ∧ Cond.initialized RX7 ∈ gw ∧ Cond.code yX7_draw cX7_draw 4 (some .int) ∈ gw := ⟨mw_331, mw_332, mw_203, mw_330⟩
theorem hd_X7_draw : yX7_draw.cls = RX7 ∧ yX7_draw.cls ≠ "java/lang/invoke/MethodHandle" ∧ yX7_draw.cls ≠ "java/lang/invoke/VarHandle" ∧ (parseMethodDescriptor yX7_draw.desc).map (fun d => d.parameters.length) = some 3 := by decide +kernel
theorem gy_X7_stands : Cond.instanceMethod yX7_stands ∈ gw ∧ Cond.selects RX7 yX7_stands yX7_stands ∈ gw ∧ Cond.initialized RX7 ∈ gw ∧ Cond.code yX7_stands cX7_stands 2 (some .int) ∈ gw := ⟨mw_334, mw_335, mw_203, mw_333⟩
theorem hd_X7_stands : yX7_stands.cls = RX7 ∧ yX7_stands.cls ≠ "java/lang/invoke/MethodHandle" ∧ yX7_stands.cls ≠ "java/lang/invoke/VarHandle" ∧ (parseMethodDescriptor yX7_stands.desc).map (fun d => d.parameters.length) = some 1 := by decide +kernel
theorem gy_X7_table : Cond.instanceMethod yX7_table ∈ gw ∧ Cond.selects RX7 yX7_table yX7_table ∈ gw ∧ Cond.initialized RX7 ∈ gw ∧ Cond.code yX7_table cX7_table 4 (some .int) ∈ gw := ⟨mw_337, mw_338, mw_203, mw_336⟩
theorem hd_X7_table : yX7_table.cls = RX7 ∧ yX7_table.cls ≠ "java/lang/invoke/MethodHandle" ∧ yX7_table.cls ≠ "java/lang/invoke/VarHandle" ∧ (parseMethodDescriptor yX7_table.desc).map (fun d => d.parameters.length) = some 3 := by decide +kernel
theorem gy_X7_wet : Cond.instanceMethod yX7_wet ∈ gw ∧ Cond.selects RX7 yX7_wet yX7_wet ∈ gw ∧ Cond.initialized RX7 ∈ gw ∧ Cond.code yX7_wet cX7_wet 3 (some .int) ∈ gw := ⟨mw_340, mw_341, mw_203, mw_339⟩
theorem hd_X7_wet : yX7_wet.cls = RX7 ∧ yX7_wet.cls ≠ "java/lang/invoke/MethodHandle" ∧ yX7_wet.cls ≠ "java/lang/invoke/VarHandle" ∧ (parseMethodDescriptor yX7_wet.desc).map (fun d => d.parameters.length) = some 2 := by decide +kernel
theorem gy_X7_harvest : Cond.instanceMethod yX7_harvest ∈ gw ∧ Cond.selects RX7 yX7_harvest yX7_harvest ∈ gw ∧ Cond.initialized RX7 ∈ gw ∧ Cond.code yX7_harvest cX7_harvest 3 (some .int) ∈ gw := ⟨mw_343, mw_344, mw_203, mw_342⟩
theorem hd_X7_harvest : yX7_harvest.cls = RX7 ∧ yX7_harvest.cls ≠ "java/lang/invoke/MethodHandle" ∧ yX7_harvest.cls ≠ "java/lang/invoke/VarHandle" ∧ (parseMethodDescriptor yX7_harvest.desc).map (fun d => d.parameters.length) = some 2 := by decide +kernel
theorem gy_X7_harvestSeen : Cond.instanceMethod yX7_harvestSeen ∈ gw ∧ Cond.selects RX7 yX7_harvestSeen yX7_harvestSeen ∈ gw ∧ Cond.initialized RX7 ∈ gw ∧ Cond.code yX7_harvestSeen cX7_harvestSeen 2 (some .int) ∈ gw := ⟨mw_346, mw_347, mw_203, mw_345⟩
theorem hd_X7_harvestSeen : yX7_harvestSeen.cls = RX7 ∧ yX7_harvestSeen.cls ≠ "java/lang/invoke/MethodHandle" ∧ yX7_harvestSeen.cls ≠ "java/lang/invoke/VarHandle" ∧ (parseMethodDescriptor yX7_harvestSeen.desc).map (fun d => d.parameters.length) = some 1 := by decide +kernel
theorem gy_X7_harvestAfter : Cond.instanceMethod yX7_harvestAfter ∈ gw ∧ Cond.selects RX7 yX7_harvestAfter yX7_harvestAfter ∈ gw ∧ Cond.initialized RX7 ∈ gw ∧ Cond.code yX7_harvestAfter cX7_harvestAfter 3 (some .int) ∈ gw := ⟨mw_349, mw_350, mw_203, mw_348⟩
theorem hd_X7_harvestAfter : yX7_harvestAfter.cls = RX7 ∧ yX7_harvestAfter.cls ≠ "java/lang/invoke/MethodHandle" ∧ yX7_harvestAfter.cls ≠ "java/lang/invoke/VarHandle" ∧ (parseMethodDescriptor yX7_harvestAfter.desc).map (fun d => d.parameters.length) = some 2 := by decide +kernel
theorem gy_X7_foretold : Cond.instanceMethod yX7_foretold ∈ gw ∧ Cond.selects RX7 yX7_foretold yX7_foretold ∈ gw ∧ Cond.initialized RX7 ∈ gw ∧ Cond.code yX7_foretold cX7_foretold 3 (some .int) ∈ gw := ⟨mw_352, mw_353, mw_203, mw_351⟩
theorem hd_X7_foretold : yX7_foretold.cls = RX7 ∧ yX7_foretold.cls ≠ "java/lang/invoke/MethodHandle" ∧ yX7_foretold.cls ≠ "java/lang/invoke/VarHandle" ∧ (parseMethodDescriptor yX7_foretold.desc).map (fun d => d.parameters.length) = some 2 := by decide +kernel
theorem gy_X7_feed : Cond.instanceMethod yX7_feed ∈ gw ∧ Cond.selects RX7 yX7_feed yX7_feed ∈ gw ∧ Cond.initialized RX7 ∈ gw ∧ Cond.code yX7_feed cX7_feed 6 (some .int) ∈ gw := ⟨mw_355, mw_356, mw_203, mw_354⟩
theorem hd_X7_feed : yX7_feed.cls = RX7 ∧ yX7_feed.cls ≠ "java/lang/invoke/MethodHandle" ∧ yX7_feed.cls ≠ "java/lang/invoke/VarHandle" ∧ (parseMethodDescriptor yX7_feed.desc).map (fun d => d.parameters.length) = some 5 := by decide +kernel
theorem gy_X7_end : Cond.instanceMethod yX7_end ∈ gw ∧ Cond.selects RX7 yX7_end yX7_end ∈ gw ∧ Cond.initialized RX7 ∈ gw ∧ Cond.code yX7_end cX7_end 2 (some .int) ∈ gw := ⟨mw_358, mw_359, mw_203, mw_357⟩
theorem hd_X7_end : yX7_end.cls = RX7 ∧ yX7_end.cls ≠ "java/lang/invoke/MethodHandle" ∧ yX7_end.cls ≠ "java/lang/invoke/VarHandle" ∧ (parseMethodDescriptor yX7_end.desc).map (fun d => d.parameters.length) = some 1 := by decide +kernel
theorem gy_X7_decrees : Cond.instanceMethod yX7_decrees ∈ gw ∧ Cond.selects RX7 yX7_decrees yX7_decrees ∈ gw ∧ Cond.initialized RX7 ∈ gw ∧ Cond.code yX7_decrees cX7_decrees 2 (some .int) ∈ gw := ⟨mw_361, mw_362, mw_203, mw_360⟩
theorem hd_X7_decrees : yX7_decrees.cls = RX7 ∧ yX7_decrees.cls ≠ "java/lang/invoke/MethodHandle" ∧ yX7_decrees.cls ≠ "java/lang/invoke/VarHandle" ∧ (parseMethodDescriptor yX7_decrees.desc).map (fun d => d.parameters.length) = some 0 := by decide +kernel
theorem gy_X7_fault : Cond.instanceMethod yX7_fault ∈ gw ∧ Cond.selects RX7 yX7_fault yX7_fault ∈ gw ∧ Cond.initialized RX7 ∈ gw ∧ Cond.code yX7_fault cX7_fault 1 (some .int) ∈ gw := ⟨mw_364, mw_365, mw_203, mw_363⟩
theorem hd_X7_fault : yX7_fault.cls = RX7 ∧ yX7_fault.cls ≠ "java/lang/invoke/MethodHandle" ∧ yX7_fault.cls ≠ "java/lang/invoke/VarHandle" ∧ (parseMethodDescriptor yX7_fault.desc).map (fun d => d.parameters.length) = some 0 := by decide +kernel
theorem gy_X7_tax : Cond.instanceMethod yX7_tax ∈ gw ∧ Cond.selects RX7 yX7_tax yX7_tax ∈ gw ∧ Cond.initialized RX7 ∈ gw ∧ Cond.code yX7_tax cX7_tax 4 (some .int) ∈ gw := ⟨mw_367, mw_368, mw_203, mw_366⟩
theorem hd_X7_tax : yX7_tax.cls = RX7 ∧ yX7_tax.cls ≠ "java/lang/invoke/MethodHandle" ∧ yX7_tax.cls ≠ "java/lang/invoke/VarHandle" ∧ (parseMethodDescriptor yX7_tax.desc).map (fun d => d.parameters.length) = some 3 := by decide +kernel
theorem gy_X7_assessSeen : Cond.instanceMethod yX7_assessSeen ∈ gw ∧ Cond.selects RX7 yX7_assessSeen yX7_assessSeen ∈ gw ∧ Cond.initialized RX7 ∈ gw ∧ Cond.code yX7_assessSeen cX7_assessSeen 3 none ∈ gw := ⟨mw_370, mw_371, mw_203, mw_369⟩
theorem hd_X7_assessSeen : yX7_assessSeen.cls = RX7 ∧ yX7_assessSeen.cls ≠ "java/lang/invoke/MethodHandle" ∧ yX7_assessSeen.cls ≠ "java/lang/invoke/VarHandle" ∧ (parseMethodDescriptor yX7_assessSeen.desc).map (fun d => d.parameters.length) = some 1 := by decide +kernel
theorem gy_X7_take : Cond.instanceMethod yX7_take ∈ gw ∧ Cond.selects RX7 yX7_take yX7_take ∈ gw ∧ Cond.initialized RX7 ∈ gw ∧ Cond.code yX7_take cX7_take 5 (some .int) ∈ gw := ⟨mw_373, mw_374, mw_203, mw_372⟩
theorem hd_X7_take : yX7_take.cls = RX7 ∧ yX7_take.cls ≠ "java/lang/invoke/MethodHandle" ∧ yX7_take.cls ≠ "java/lang/invoke/VarHandle" ∧ (parseMethodDescriptor yX7_take.desc).map (fun d => d.parameters.length) = some 4 := by decide +kernel
theorem gy_X7_gain : Cond.instanceMethod yX7_gain ∈ gw ∧ Cond.selects RX7 yX7_gain yX7_gain ∈ gw ∧ Cond.initialized RX7 ∈ gw ∧ Cond.code yX7_gain cX7_gain 6 (some .long) ∈ gw := ⟨mw_376, mw_377, mw_203, mw_375⟩
theorem hd_X7_gain : yX7_gain.cls = RX7 ∧ yX7_gain.cls ≠ "java/lang/invoke/MethodHandle" ∧ yX7_gain.cls ≠ "java/lang/invoke/VarHandle" ∧ (parseMethodDescriptor yX7_gain.desc).map (fun d => d.parameters.length) = some 2 := by decide +kernel
theorem gy_X7_gainSeen : Cond.instanceMethod yX7_gainSeen ∈ gw ∧ Cond.selects RX7 yX7_gainSeen yX7_gainSeen ∈ gw ∧ Cond.initialized RX7 ∈ gw ∧ Cond.code yX7_gainSeen cX7_gainSeen 4 (some .long) ∈ gw := ⟨mw_379, mw_380, mw_203, mw_378⟩
theorem hd_X7_gainSeen : yX7_gainSeen.cls = RX7 ∧ yX7_gainSeen.cls ≠ "java/lang/invoke/MethodHandle" ∧ yX7_gainSeen.cls ≠ "java/lang/invoke/VarHandle" ∧ (parseMethodDescriptor yX7_gainSeen.desc).map (fun d => d.parameters.length) = some 1 := by decide +kernel
theorem gy_X7_sheaves : Cond.instanceMethod yX7_sheaves ∈ gw ∧ Cond.selects RX7 yX7_sheaves yX7_sheaves ∈ gw ∧ Cond.initialized RX7 ∈ gw ∧ Cond.code yX7_sheaves cX7_sheaves 4 (some .int) ∈ gw := ⟨mw_382, mw_383, mw_203, mw_381⟩
theorem hd_X7_sheaves : yX7_sheaves.cls = RX7 ∧ yX7_sheaves.cls ≠ "java/lang/invoke/MethodHandle" ∧ yX7_sheaves.cls ≠ "java/lang/invoke/VarHandle" ∧ (parseMethodDescriptor yX7_sheaves.desc).map (fun d => d.parameters.length) = some 1 := by decide +kernel
theorem gy_X7_led : Cond.instanceMethod yX7_led ∈ gw ∧ Cond.selects RX7 yX7_led yX7_led ∈ gw ∧ Cond.initialized RX7 ∈ gw ∧ Cond.code yX7_led cX7_led 7 (some .int) ∈ gw := ⟨mw_385, mw_386, mw_203, mw_384⟩
theorem hd_X7_led : yX7_led.cls = RX7 ∧ yX7_led.cls ≠ "java/lang/invoke/MethodHandle" ∧ yX7_led.cls ≠ "java/lang/invoke/VarHandle" ∧ (parseMethodDescriptor yX7_led.desc).map (fun d => d.parameters.length) = some 3 := by decide +kernel
theorem gy_X7_whoGets : Cond.instanceMethod yX7_whoGets ∈ gw ∧ Cond.selects RX7 yX7_whoGets yX7_whoGets ∈ gw ∧ Cond.initialized RX7 ∈ gw ∧ Cond.code yX7_whoGets cX7_whoGets 3 (some .int) ∈ gw := ⟨mw_388, mw_389, mw_203, mw_387⟩
theorem hd_X7_whoGets : yX7_whoGets.cls = RX7 ∧ yX7_whoGets.cls ≠ "java/lang/invoke/MethodHandle" ∧ yX7_whoGets.cls ≠ "java/lang/invoke/VarHandle" ∧ (parseMethodDescriptor yX7_whoGets.desc).map (fun d => d.parameters.length) = some 2 := by decide +kernel
theorem gy_X7_count : Cond.instanceMethod yX7_count ∈ gw ∧ Cond.selects RX7 yX7_count yX7_count ∈ gw ∧ Cond.initialized RX7 ∈ gw ∧ Cond.code yX7_count cX7_count 2 (some .int) ∈ gw := ⟨mw_391, mw_392, mw_203, mw_390⟩
theorem hd_X7_count : yX7_count.cls = RX7 ∧ yX7_count.cls ≠ "java/lang/invoke/MethodHandle" ∧ yX7_count.cls ≠ "java/lang/invoke/VarHandle" ∧ (parseMethodDescriptor yX7_count.desc).map (fun d => d.parameters.length) = some 1 := by decide +kernel
theorem gy_X7_status : Cond.instanceMethod yX7_status ∈ gw ∧ Cond.selects RX7 yX7_status yX7_status ∈ gw ∧ Cond.initialized RX7 ∈ gw ∧ Cond.code yX7_status cX7_status 1 (some .int) ∈ gw := ⟨mw_394, mw_395, mw_203, mw_393⟩
theorem hd_X7_status : yX7_status.cls = RX7 ∧ yX7_status.cls ≠ "java/lang/invoke/MethodHandle" ∧ yX7_status.cls ≠ "java/lang/invoke/VarHandle" ∧ (parseMethodDescriptor yX7_status.desc).map (fun d => d.parameters.length) = some 0 := by decide +kernel
theorem gy_X8_in : Cond.static yX8_in ∈ gw ∧ Cond.initialized RX8 ∈ gw ∧ Cond.code yX8_in cX8_in 6 (some .boolean) ∈ gw := ⟨mw_397, mw_398, mw_396⟩
theorem hd_X8_in : yX8_in.cls = RX8 ∧ yX8_in.cls ≠ "java/lang/invoke/MethodHandle" ∧ yX8_in.cls ≠ "java/lang/invoke/VarHandle" ∧ (parseMethodDescriptor yX8_in.desc).map (fun d => d.parameters.length) = some 3 := by decide +kernel
theorem gy_X8_told : Cond.instanceMethod yX8_told ∈ gw ∧ Cond.selects RX8 yX8_told yX8_told ∈ gw ∧ Cond.initialized RX8 ∈ gw ∧ Cond.code yX8_told cX8_told 2 (some .int) ∈ gw := ⟨mw_400, mw_401, mw_398, mw_399⟩
theorem hd_X8_told : yX8_told.cls = RX8 ∧ yX8_told.cls ≠ "java/lang/invoke/MethodHandle" ∧ yX8_told.cls ≠ "java/lang/invoke/VarHandle" ∧ (parseMethodDescriptor yX8_told.desc).map (fun d => d.parameters.length) = some 1 := by decide +kernel
theorem gy_X8_isDay : Cond.static yX8_isDay ∈ gw ∧ Cond.initialized RX8 ∈ gw ∧ Cond.code yX8_isDay cX8_isDay 1 (some .boolean) ∈ gw := ⟨mw_403, mw_398, mw_402⟩
theorem hd_X8_isDay : yX8_isDay.cls = RX8 ∧ yX8_isDay.cls ≠ "java/lang/invoke/MethodHandle" ∧ yX8_isDay.cls ≠ "java/lang/invoke/VarHandle" ∧ (parseMethodDescriptor yX8_isDay.desc).map (fun d => d.parameters.length) = some 1 := by decide +kernel
theorem gy_X8_isKnown : Cond.static yX8_isKnown ∈ gw ∧ Cond.initialized RX8 ∈ gw ∧ Cond.code yX8_isKnown cX8_isKnown 1 (some .boolean) ∈ gw := ⟨mw_405, mw_398, mw_404⟩
theorem hd_X8_isKnown : yX8_isKnown.cls = RX8 ∧ yX8_isKnown.cls ≠ "java/lang/invoke/MethodHandle" ∧ yX8_isKnown.cls ≠ "java/lang/invoke/VarHandle" ∧ (parseMethodDescriptor yX8_isKnown.desc).map (fun d => d.parameters.length) = some 1 := by decide +kernel
theorem gy_X8_read : Cond.instanceMethod yX8_read ∈ gw ∧ Cond.selects RX8 yX8_read yX8_read ∈ gw ∧ Cond.initialized RX8 ∈ gw ∧ Cond.code yX8_read cX8_read 4 (some .int) ∈ gw := ⟨mw_407, mw_408, mw_398, mw_406⟩
theorem hd_X8_read : yX8_read.cls = RX8 ∧ yX8_read.cls ≠ "java/lang/invoke/MethodHandle" ∧ yX8_read.cls ≠ "java/lang/invoke/VarHandle" ∧ (parseMethodDescriptor yX8_read.desc).map (fun d => d.parameters.length) = some 3 := by decide +kernel
theorem gy_X8_find : Cond.instanceMethod yX8_find ∈ gw ∧ Cond.selects RX8 yX8_find yX8_find ∈ gw ∧ Cond.initialized RX8 ∈ gw ∧ Cond.code yX8_find cX8_find 5 none ∈ gw := ⟨mw_410, mw_411, mw_398, mw_409⟩
theorem hd_X8_find : yX8_find.cls = RX8 ∧ yX8_find.cls ≠ "java/lang/invoke/MethodHandle" ∧ yX8_find.cls ≠ "java/lang/invoke/VarHandle" ∧ (parseMethodDescriptor yX8_find.desc).map (fun d => d.parameters.length) = some 2 := by decide +kernel
theorem gy_X8_peakOf : Cond.instanceMethod yX8_peakOf ∈ gw ∧ Cond.selects RX8 yX8_peakOf yX8_peakOf ∈ gw ∧ Cond.initialized RX8 ∈ gw ∧ Cond.code yX8_peakOf cX8_peakOf 3 (some .int) ∈ gw := ⟨mw_413, mw_414, mw_398, mw_412⟩
theorem hd_X8_peakOf : yX8_peakOf.cls = RX8 ∧ yX8_peakOf.cls ≠ "java/lang/invoke/MethodHandle" ∧ yX8_peakOf.cls ≠ "java/lang/invoke/VarHandle" ∧ (parseMethodDescriptor yX8_peakOf.desc).map (fun d => d.parameters.length) = some 0 := by decide +kernel
theorem gy_X8_height : Cond.instanceMethod yX8_height ∈ gw ∧ Cond.selects RX8 yX8_height yX8_height ∈ gw ∧ Cond.initialized RX8 ∈ gw ∧ Cond.code yX8_height cX8_height 3 (some .int) ∈ gw := ⟨mw_416, mw_417, mw_398, mw_415⟩
theorem hd_X8_height : yX8_height.cls = RX8 ∧ yX8_height.cls ≠ "java/lang/invoke/MethodHandle" ∧ yX8_height.cls ≠ "java/lang/invoke/VarHandle" ∧ (parseMethodDescriptor yX8_height.desc).map (fun d => d.parameters.length) = some 2 := by decide +kernel
theorem gy_X8_peak : Cond.instanceMethod yX8_peak ∈ gw ∧ Cond.selects RX8 yX8_peak yX8_peak ∈ gw ∧ Cond.initialized RX8 ∈ gw ∧ Cond.code yX8_peak cX8_peak 2 (some .int) ∈ gw := ⟨mw_419, mw_420, mw_398, mw_418⟩
theorem hd_X8_peak : yX8_peak.cls = RX8 ∧ yX8_peak.cls ≠ "java/lang/invoke/MethodHandle" ∧ yX8_peak.cls ≠ "java/lang/invoke/VarHandle" ∧ (parseMethodDescriptor yX8_peak.desc).map (fun d => d.parameters.length) = some 1 := by decide +kernel
theorem gy_X8_isStrip : Cond.instanceMethod yX8_isStrip ∈ gw ∧ Cond.selects RX8 yX8_isStrip yX8_isStrip ∈ gw ∧ Cond.initialized RX8 ∈ gw ∧ Cond.code yX8_isStrip cX8_isStrip 2 (some .boolean) ∈ gw := ⟨mw_422, mw_423, mw_398, mw_421⟩
theorem hd_X8_isStrip : yX8_isStrip.cls = RX8 ∧ yX8_isStrip.cls ≠ "java/lang/invoke/MethodHandle" ∧ yX8_isStrip.cls ≠ "java/lang/invoke/VarHandle" ∧ (parseMethodDescriptor yX8_isStrip.desc).map (fun d => d.parameters.length) = some 1 := by decide +kernel
theorem gy_X8_isMark : Cond.instanceMethod yX8_isMark ∈ gw ∧ Cond.selects RX8 yX8_isMark yX8_isMark ∈ gw ∧ Cond.initialized RX8 ∈ gw ∧ Cond.code yX8_isMark cX8_isMark 2 (some .boolean) ∈ gw := ⟨mw_425, mw_426, mw_398, mw_424⟩
theorem hd_X8_isMark : yX8_isMark.cls = RX8 ∧ yX8_isMark.cls ≠ "java/lang/invoke/MethodHandle" ∧ yX8_isMark.cls ≠ "java/lang/invoke/VarHandle" ∧ (parseMethodDescriptor yX8_isMark.desc).map (fun d => d.parameters.length) = some 1 := by decide +kernel
theorem gy_X8_strip : Cond.instanceMethod yX8_strip ∈ gw ∧ Cond.selects RX8 yX8_strip yX8_strip ∈ gw ∧ Cond.initialized RX8 ∈ gw ∧ Cond.code yX8_strip cX8_strip 4 (some .int) ∈ gw := ⟨mw_428, mw_429, mw_398, mw_427⟩
theorem hd_X8_strip : yX8_strip.cls = RX8 ∧ yX8_strip.cls ≠ "java/lang/invoke/MethodHandle" ∧ yX8_strip.cls ≠ "java/lang/invoke/VarHandle" ∧ (parseMethodDescriptor yX8_strip.desc).map (fun d => d.parameters.length) = some 3 := by decide +kernel
theorem gy_X8_of : Cond.instanceMethod yX8_of ∈ gw ∧ Cond.selects RX8 yX8_of yX8_of ∈ gw ∧ Cond.initialized RX8 ∈ gw ∧ Cond.code yX8_of cX8_of 3 (some .int) ∈ gw := ⟨mw_431, mw_432, mw_398, mw_430⟩
theorem hd_X8_of : yX8_of.cls = RX8 ∧ yX8_of.cls ≠ "java/lang/invoke/MethodHandle" ∧ yX8_of.cls ≠ "java/lang/invoke/VarHandle" ∧ (parseMethodDescriptor yX8_of.desc).map (fun d => d.parameters.length) = some 2 := by decide +kernel
theorem gy_X8_lose : Cond.instanceMethod yX8_lose ∈ gw ∧ Cond.selects RX8 yX8_lose yX8_lose ∈ gw ∧ Cond.initialized RX8 ∈ gw ∧ Cond.code yX8_lose cX8_lose 2 (some .int) ∈ gw := ⟨mw_434, mw_435, mw_398, mw_433⟩
theorem hd_X8_lose : yX8_lose.cls = RX8 ∧ yX8_lose.cls ≠ "java/lang/invoke/MethodHandle" ∧ yX8_lose.cls ≠ "java/lang/invoke/VarHandle" ∧ (parseMethodDescriptor yX8_lose.desc).map (fun d => d.parameters.length) = some 1 := by decide +kernel
theorem gy_X8_draw : Cond.instanceMethod yX8_draw ∈ gw ∧ Cond.selects RX8 yX8_draw yX8_draw ∈ gw ∧ Cond.initialized RX8 ∈ gw ∧ Cond.code yX8_draw cX8_draw 16 (some .int) ∈ gw := ⟨mw_437, mw_438, mw_398, mw_436⟩
theorem hd_X8_draw : yX8_draw.cls = RX8 ∧ yX8_draw.cls ≠ "java/lang/invoke/MethodHandle" ∧ yX8_draw.cls ≠ "java/lang/invoke/VarHandle" ∧ (parseMethodDescriptor yX8_draw.desc).map (fun d => d.parameters.length) = some 3 := by decide +kernel
theorem gy_X8_stands : Cond.instanceMethod yX8_stands ∈ gw ∧ Cond.selects RX8 yX8_stands yX8_stands ∈ gw ∧ Cond.initialized RX8 ∈ gw ∧ Cond.code yX8_stands cX8_stands 2 (some .int) ∈ gw := ⟨mw_440, mw_441, mw_398, mw_439⟩
theorem hd_X8_stands : yX8_stands.cls = RX8 ∧ yX8_stands.cls ≠ "java/lang/invoke/MethodHandle" ∧ yX8_stands.cls ≠ "java/lang/invoke/VarHandle" ∧ (parseMethodDescriptor yX8_stands.desc).map (fun d => d.parameters.length) = some 1 := by decide +kernel
theorem gy_X8_table : Cond.instanceMethod yX8_table ∈ gw ∧ Cond.selects RX8 yX8_table yX8_table ∈ gw ∧ Cond.initialized RX8 ∈ gw ∧ Cond.code yX8_table cX8_table 4 (some .int) ∈ gw := ⟨mw_443, mw_444, mw_398, mw_442⟩
theorem hd_X8_table : yX8_table.cls = RX8 ∧ yX8_table.cls ≠ "java/lang/invoke/MethodHandle" ∧ yX8_table.cls ≠ "java/lang/invoke/VarHandle" ∧ (parseMethodDescriptor yX8_table.desc).map (fun d => d.parameters.length) = some 3 := by decide +kernel
theorem gy_X8_wetOf : Cond.instanceMethod yX8_wetOf ∈ gw ∧ Cond.selects RX8 yX8_wetOf yX8_wetOf ∈ gw ∧ Cond.initialized RX8 ∈ gw ∧ Cond.code yX8_wetOf cX8_wetOf 4 (some .int) ∈ gw := ⟨mw_446, mw_447, mw_398, mw_445⟩
theorem hd_X8_wetOf : yX8_wetOf.cls = RX8 ∧ yX8_wetOf.cls ≠ "java/lang/invoke/MethodHandle" ∧ yX8_wetOf.cls ≠ "java/lang/invoke/VarHandle" ∧ (parseMethodDescriptor yX8_wetOf.desc).map (fun d => d.parameters.length) = some 1 := by decide +kernel
theorem gy_X8_harvestOf : Cond.instanceMethod yX8_harvestOf ∈ gw ∧ Cond.selects RX8 yX8_harvestOf yX8_harvestOf ∈ gw ∧ Cond.initialized RX8 ∈ gw ∧ Cond.code yX8_harvestOf cX8_harvestOf 5 (some .int) ∈ gw := ⟨mw_449, mw_450, mw_398, mw_448⟩
theorem hd_X8_harvestOf : yX8_harvestOf.cls = RX8 ∧ yX8_harvestOf.cls ≠ "java/lang/invoke/MethodHandle" ∧ yX8_harvestOf.cls ≠ "java/lang/invoke/VarHandle" ∧ (parseMethodDescriptor yX8_harvestOf.desc).map (fun d => d.parameters.length) = some 1 := by decide +kernel
theorem gy_X8_wet : Cond.instanceMethod yX8_wet ∈ gw ∧ Cond.selects RX8 yX8_wet yX8_wet ∈ gw ∧ Cond.initialized RX8 ∈ gw ∧ Cond.code yX8_wet cX8_wet 3 (some .int) ∈ gw := ⟨mw_452, mw_453, mw_398, mw_451⟩
theorem hd_X8_wet : yX8_wet.cls = RX8 ∧ yX8_wet.cls ≠ "java/lang/invoke/MethodHandle" ∧ yX8_wet.cls ≠ "java/lang/invoke/VarHandle" ∧ (parseMethodDescriptor yX8_wet.desc).map (fun d => d.parameters.length) = some 2 := by decide +kernel
theorem gy_X8_harvest : Cond.instanceMethod yX8_harvest ∈ gw ∧ Cond.selects RX8 yX8_harvest yX8_harvest ∈ gw ∧ Cond.initialized RX8 ∈ gw ∧ Cond.code yX8_harvest cX8_harvest 3 (some .int) ∈ gw := ⟨mw_455, mw_456, mw_398, mw_454⟩
theorem hd_X8_harvest : yX8_harvest.cls = RX8 ∧ yX8_harvest.cls ≠ "java/lang/invoke/MethodHandle" ∧ yX8_harvest.cls ≠ "java/lang/invoke/VarHandle" ∧ (parseMethodDescriptor yX8_harvest.desc).map (fun d => d.parameters.length) = some 2 := by decide +kernel
theorem gy_X8_foretold : Cond.instanceMethod yX8_foretold ∈ gw ∧ Cond.selects RX8 yX8_foretold yX8_foretold ∈ gw ∧ Cond.initialized RX8 ∈ gw ∧ Cond.code yX8_foretold cX8_foretold 3 (some .int) ∈ gw := ⟨mw_458, mw_459, mw_398, mw_457⟩
theorem hd_X8_foretold : yX8_foretold.cls = RX8 ∧ yX8_foretold.cls ≠ "java/lang/invoke/MethodHandle" ∧ yX8_foretold.cls ≠ "java/lang/invoke/VarHandle" ∧ (parseMethodDescriptor yX8_foretold.desc).map (fun d => d.parameters.length) = some 2 := by decide +kernel
theorem gy_X8_four : Cond.instanceMethod yX8_four ∈ gw ∧ Cond.selects RX8 yX8_four yX8_four ∈ gw ∧ Cond.initialized RX8 ∈ gw ∧ Cond.code yX8_four cX8_four 3 none ∈ gw := ⟨mw_461, mw_462, mw_398, mw_460⟩
theorem hd_X8_four : yX8_four.cls = RX8 ∧ yX8_four.cls ≠ "java/lang/invoke/MethodHandle" ∧ yX8_four.cls ≠ "java/lang/invoke/VarHandle" ∧ (parseMethodDescriptor yX8_four.desc).map (fun d => d.parameters.length) = some 1 := by decide +kernel
theorem gy_X8_feed : Cond.instanceMethod yX8_feed ∈ gw ∧ Cond.selects RX8 yX8_feed yX8_feed ∈ gw ∧ Cond.initialized RX8 ∈ gw ∧ Cond.code yX8_feed cX8_feed 6 (some .int) ∈ gw := ⟨mw_464, mw_465, mw_398, mw_463⟩
theorem hd_X8_feed : yX8_feed.cls = RX8 ∧ yX8_feed.cls ≠ "java/lang/invoke/MethodHandle" ∧ yX8_feed.cls ≠ "java/lang/invoke/VarHandle" ∧ (parseMethodDescriptor yX8_feed.desc).map (fun d => d.parameters.length) = some 5 := by decide +kernel
theorem gy_X8_end : Cond.instanceMethod yX8_end ∈ gw ∧ Cond.selects RX8 yX8_end yX8_end ∈ gw ∧ Cond.initialized RX8 ∈ gw ∧ Cond.code yX8_end cX8_end 2 (some .int) ∈ gw := ⟨mw_467, mw_468, mw_398, mw_466⟩
theorem hd_X8_end : yX8_end.cls = RX8 ∧ yX8_end.cls ≠ "java/lang/invoke/MethodHandle" ∧ yX8_end.cls ≠ "java/lang/invoke/VarHandle" ∧ (parseMethodDescriptor yX8_end.desc).map (fun d => d.parameters.length) = some 1 := by decide +kernel
theorem gy_X8_isSmall : Cond.static yX8_isSmall ∈ gw ∧ Cond.initialized RX8 ∈ gw ∧ Cond.code yX8_isSmall cX8_isSmall 1 (some .boolean) ∈ gw := ⟨mw_470, mw_398, mw_469⟩
theorem hd_X8_isSmall : yX8_isSmall.cls = RX8 ∧ yX8_isSmall.cls ≠ "java/lang/invoke/MethodHandle" ∧ yX8_isSmall.cls ≠ "java/lang/invoke/VarHandle" ∧ (parseMethodDescriptor yX8_isSmall.desc).map (fun d => d.parameters.length) = some 1 := by decide +kernel
theorem gy_X8_isDigit : Cond.static yX8_isDigit ∈ gw ∧ Cond.initialized RX8 ∈ gw ∧ Cond.code yX8_isDigit cX8_isDigit 1 (some .boolean) ∈ gw := ⟨mw_472, mw_398, mw_471⟩
theorem hd_X8_isDigit : yX8_isDigit.cls = RX8 ∧ yX8_isDigit.cls ≠ "java/lang/invoke/MethodHandle" ∧ yX8_isDigit.cls ≠ "java/lang/invoke/VarHandle" ∧ (parseMethodDescriptor yX8_isDigit.desc).map (fun d => d.parameters.length) = some 1 := by decide +kernel
theorem gy_X8_next : Cond.instanceMethod yX8_next ∈ gw ∧ Cond.selects RX8 yX8_next yX8_next ∈ gw ∧ Cond.initialized RX8 ∈ gw ∧ Cond.code yX8_next cX8_next 1 none ∈ gw := ⟨mw_474, mw_475, mw_398, mw_473⟩
theorem hd_X8_next : yX8_next.cls = RX8 ∧ yX8_next.cls ≠ "java/lang/invoke/MethodHandle" ∧ yX8_next.cls ≠ "java/lang/invoke/VarHandle" ∧ (parseMethodDescriptor yX8_next.desc).map (fun d => d.parameters.length) = some 0 := by decide +kernel
theorem gy_X8_isWord : Cond.instanceMethod yX8_isWord ∈ gw ∧ Cond.selects RX8 yX8_isWord yX8_isWord ∈ gw ∧ Cond.initialized RX8 ∈ gw ∧ Cond.code yX8_isWord cX8_isWord 10 (some .boolean) ∈ gw := ⟨mw_477, mw_478, mw_398, mw_476⟩
theorem hd_X8_isWord : yX8_isWord.cls = RX8 ∧ yX8_isWord.cls ≠ "java/lang/invoke/MethodHandle" ∧ yX8_isWord.cls ≠ "java/lang/invoke/VarHandle" ∧ (parseMethodDescriptor yX8_isWord.desc).map (fun d => d.parameters.length) = some 7 := by decide +kernel
theorem gy_X8_must : Cond.instanceMethod yX8_must ∈ gw ∧ Cond.selects RX8 yX8_must yX8_must ∈ gw ∧ Cond.initialized RX8 ∈ gw ∧ Cond.code yX8_must cX8_must 2 none ∈ gw := ⟨mw_480, mw_481, mw_398, mw_479⟩
theorem hd_X8_must : yX8_must.cls = RX8 ∧ yX8_must.cls ≠ "java/lang/invoke/MethodHandle" ∧ yX8_must.cls ≠ "java/lang/invoke/VarHandle" ∧ (parseMethodDescriptor yX8_must.desc).map (fun d => d.parameters.length) = some 1 := by decide +kernel
theorem gy_X8_number : Cond.instanceMethod yX8_number ∈ gw ∧ Cond.selects RX8 yX8_number yX8_number ∈ gw ∧ Cond.initialized RX8 ∈ gw ∧ Cond.code yX8_number cX8_number 4 (some .int) ∈ gw := ⟨mw_483, mw_484, mw_398, mw_482⟩
theorem hd_X8_number : yX8_number.cls = RX8 ∧ yX8_number.cls ≠ "java/lang/invoke/MethodHandle" ∧ yX8_number.cls ≠ "java/lang/invoke/VarHandle" ∧ (parseMethodDescriptor yX8_number.desc).map (fun d => d.parameters.length) = some 1 := by decide +kernel
theorem gy_X8_readDecree : Cond.instanceMethod yX8_readDecree ∈ gw ∧ Cond.selects RX8 yX8_readDecree yX8_readDecree ∈ gw ∧ Cond.initialized RX8 ∈ gw ∧ Cond.code yX8_readDecree cX8_readDecree 5 none ∈ gw := ⟨mw_486, mw_487, mw_398, mw_485⟩
theorem hd_X8_readDecree : yX8_readDecree.cls = RX8 ∧ yX8_readDecree.cls ≠ "java/lang/invoke/MethodHandle" ∧ yX8_readDecree.cls ≠ "java/lang/invoke/VarHandle" ∧ (parseMethodDescriptor yX8_readDecree.desc).map (fun d => d.parameters.length) = some 0 := by decide +kernel
theorem gy_X8_decrees : Cond.instanceMethod yX8_decrees ∈ gw ∧ Cond.selects RX8 yX8_decrees yX8_decrees ∈ gw ∧ Cond.initialized RX8 ∈ gw ∧ Cond.code yX8_decrees cX8_decrees 2 (some .int) ∈ gw := ⟨mw_489, mw_490, mw_398, mw_488⟩
theorem hd_X8_decrees : yX8_decrees.cls = RX8 ∧ yX8_decrees.cls ≠ "java/lang/invoke/MethodHandle" ∧ yX8_decrees.cls ≠ "java/lang/invoke/VarHandle" ∧ (parseMethodDescriptor yX8_decrees.desc).map (fun d => d.parameters.length) = some 0 := by decide +kernel
theorem gy_X8_fault : Cond.instanceMethod yX8_fault ∈ gw ∧ Cond.selects RX8 yX8_fault yX8_fault ∈ gw ∧ Cond.initialized RX8 ∈ gw ∧ Cond.code yX8_fault cX8_fault 1 (some .int) ∈ gw := ⟨mw_492, mw_493, mw_398, mw_491⟩
theorem hd_X8_fault : yX8_fault.cls = RX8 ∧ yX8_fault.cls ≠ "java/lang/invoke/MethodHandle" ∧ yX8_fault.cls ≠ "java/lang/invoke/VarHandle" ∧ (parseMethodDescriptor yX8_fault.desc).map (fun d => d.parameters.length) = some 0 := by decide +kernel
theorem gy_X8_reckon : Cond.instanceMethod yX8_reckon ∈ gw ∧ Cond.selects RX8 yX8_reckon yX8_reckon ∈ gw ∧ Cond.initialized RX8 ∈ gw ∧ Cond.code yX8_reckon cX8_reckon 9 none ∈ gw := ⟨mw_495, mw_496, mw_398, mw_494⟩
theorem hd_X8_reckon : yX8_reckon.cls = RX8 ∧ yX8_reckon.cls ≠ "java/lang/invoke/MethodHandle" ∧ yX8_reckon.cls ≠ "java/lang/invoke/VarHandle" ∧ (parseMethodDescriptor yX8_reckon.desc).map (fun d => d.parameters.length) = some 1 := by decide +kernel
theorem gy_X8_tax : Cond.instanceMethod yX8_tax ∈ gw ∧ Cond.selects RX8 yX8_tax yX8_tax ∈ gw ∧ Cond.initialized RX8 ∈ gw ∧ Cond.code yX8_tax cX8_tax 4 (some .int) ∈ gw := ⟨mw_498, mw_499, mw_398, mw_497⟩
theorem hd_X8_tax : yX8_tax.cls = RX8 ∧ yX8_tax.cls ≠ "java/lang/invoke/MethodHandle" ∧ yX8_tax.cls ≠ "java/lang/invoke/VarHandle" ∧ (parseMethodDescriptor yX8_tax.desc).map (fun d => d.parameters.length) = some 3 := by decide +kernel
theorem gy_X8_take : Cond.instanceMethod yX8_take ∈ gw ∧ Cond.selects RX8 yX8_take yX8_take ∈ gw ∧ Cond.initialized RX8 ∈ gw ∧ Cond.code yX8_take cX8_take 5 (some .int) ∈ gw := ⟨mw_501, mw_502, mw_398, mw_500⟩
theorem hd_X8_take : yX8_take.cls = RX8 ∧ yX8_take.cls ≠ "java/lang/invoke/MethodHandle" ∧ yX8_take.cls ≠ "java/lang/invoke/VarHandle" ∧ (parseMethodDescriptor yX8_take.desc).map (fun d => d.parameters.length) = some 4 := by decide +kernel
theorem gy_X8_gain : Cond.instanceMethod yX8_gain ∈ gw ∧ Cond.selects RX8 yX8_gain yX8_gain ∈ gw ∧ Cond.initialized RX8 ∈ gw ∧ Cond.code yX8_gain cX8_gain 11 (some .long) ∈ gw := ⟨mw_504, mw_505, mw_398, mw_503⟩
theorem hd_X8_gain : yX8_gain.cls = RX8 ∧ yX8_gain.cls ≠ "java/lang/invoke/MethodHandle" ∧ yX8_gain.cls ≠ "java/lang/invoke/VarHandle" ∧ (parseMethodDescriptor yX8_gain.desc).map (fun d => d.parameters.length) = some 2 := by decide +kernel
theorem gy_X8_sheaves : Cond.instanceMethod yX8_sheaves ∈ gw ∧ Cond.selects RX8 yX8_sheaves yX8_sheaves ∈ gw ∧ Cond.initialized RX8 ∈ gw ∧ Cond.code yX8_sheaves cX8_sheaves 4 (some .int) ∈ gw := ⟨mw_507, mw_508, mw_398, mw_506⟩
theorem hd_X8_sheaves : yX8_sheaves.cls = RX8 ∧ yX8_sheaves.cls ≠ "java/lang/invoke/MethodHandle" ∧ yX8_sheaves.cls ≠ "java/lang/invoke/VarHandle" ∧ (parseMethodDescriptor yX8_sheaves.desc).map (fun d => d.parameters.length) = some 1 := by decide +kernel
theorem gy_X8_led : Cond.instanceMethod yX8_led ∈ gw ∧ Cond.selects RX8 yX8_led yX8_led ∈ gw ∧ Cond.initialized RX8 ∈ gw ∧ Cond.code yX8_led cX8_led 6 (some .int) ∈ gw := ⟨mw_510, mw_511, mw_398, mw_509⟩
theorem hd_X8_led : yX8_led.cls = RX8 ∧ yX8_led.cls ≠ "java/lang/invoke/MethodHandle" ∧ yX8_led.cls ≠ "java/lang/invoke/VarHandle" ∧ (parseMethodDescriptor yX8_led.desc).map (fun d => d.parameters.length) = some 3 := by decide +kernel
theorem gy_X8_count : Cond.instanceMethod yX8_count ∈ gw ∧ Cond.selects RX8 yX8_count yX8_count ∈ gw ∧ Cond.initialized RX8 ∈ gw ∧ Cond.code yX8_count cX8_count 4 (some .int) ∈ gw := ⟨mw_513, mw_514, mw_398, mw_512⟩
theorem hd_X8_count : yX8_count.cls = RX8 ∧ yX8_count.cls ≠ "java/lang/invoke/MethodHandle" ∧ yX8_count.cls ≠ "java/lang/invoke/VarHandle" ∧ (parseMethodDescriptor yX8_count.desc).map (fun d => d.parameters.length) = some 1 := by decide +kernel
theorem gy_X8_status : Cond.instanceMethod yX8_status ∈ gw ∧ Cond.selects RX8 yX8_status yX8_status ∈ gw ∧ Cond.initialized RX8 ∈ gw ∧ Cond.code yX8_status cX8_status 1 (some .int) ∈ gw := ⟨mw_516, mw_517, mw_398, mw_515⟩
theorem hd_X8_status : yX8_status.cls = RX8 ∧ yX8_status.cls ≠ "java/lang/invoke/MethodHandle" ∧ yX8_status.cls ≠ "java/lang/invoke/VarHandle" ∧ (parseMethodDescriptor yX8_status.desc).map (fun d => d.parameters.length) = some 0 := by decide +kernel
abbrev jw_value := mw_518
abbrev jw_coder := mw_519
abbrev jw_compact := mw_520
abbrev jw_fmt := mw_521
abbrev jw_l_coder := mw_522
abbrev jw_l_isl := mw_523
abbrev jw_l_lch := mw_524
abbrev jw_l_chk := mw_525
abbrev jw_l_pck := mw_526
abbrev jy_len := And.intro mw_527 (And.intro mw_528 (And.intro mw_529 mw_530))
abbrev jy_coder := And.intro mw_531 (And.intro mw_532 (And.intro mw_529 mw_533))
abbrev jy_isl := And.intro mw_534 (And.intro mw_535 (And.intro mw_529 mw_536))
abbrev jy_cha := And.intro mw_537 (And.intro mw_538 (And.intro mw_529 mw_539))
abbrev jy_lch := And.intro mw_540 (And.intro mw_541 mw_542)
abbrev jy_chk := And.intro mw_543 (And.intro mw_529 mw_544)
abbrev jy_pck := And.intro mw_545 (And.intro mw_546 mw_547)
