theorem lo_ClearingWaves_3 : Cond.methodLink "ClearingWaves" 3 Lib.objectInit ∈ lw_g := mt1 (List.mem_of_getElem? (i := 22) (by decide +kernel)) (by decide +kernel)
theorem lk_ClearingWaves_11 : cI "ClearingWaves" 11 1 0 := ⟨mv1, Or.inl (mt1 (List.mem_of_getElem? (i := 27) (by decide +kernel)) (by decide +kernel))⟩
theorem lk_ClearingWaves_33 : cI "ClearingWaves" 33 3 2 := ⟨mv3, Or.inl (mt1 (List.mem_of_getElem? (i := 80) (by decide +kernel)) (by decide +kernel))⟩
theorem lk_ClearingWaves_45 : cI "ClearingWaves" 45 9 1 := ⟨mv9, Or.inl (mt1 (List.mem_of_getElem? (i := 167) (by decide +kernel)) (by decide +kernel))⟩
theorem lk_ClearingWaves_54 : cI "ClearingWaves" 54 10 1 := ⟨mv10, Or.inl (mt1 (List.mem_of_getElem? (i := 187) (by decide +kernel)) (by decide +kernel))⟩
theorem lk_ClearingWaves_101 : cV "ClearingWaves" 101 2 1 0 none := ⟨mv2, mt2 (List.mem_of_getElem? (i := 87) (by decide +kernel)) (by decide +kernel), by decide +kernel, by decide +kernel⟩
theorem lk_ClearingWaves_105 : cV "ClearingWaves" 105 17 0 10 none := ⟨mv17, mt2 (List.mem_of_getElem? (i := 88) (by decide +kernel)) (by decide +kernel), by decide +kernel, by decide +kernel⟩
theorem lk_ClearingWaves_108 : cV "ClearingWaves" 108 19 1 0 (some .boolean) := ⟨mv19, mt2 (List.mem_of_getElem? (i := 96) (by decide +kernel)) (by decide +kernel), by decide +kernel, by decide +kernel⟩
theorem lk_ClearingWaves_112 : cV "ClearingWaves" 112 21 3 0 (some .boolean) := ⟨mv21, mt2 (List.mem_of_getElem? (i := 104) (by decide +kernel)) (by decide +kernel), by decide +kernel, by decide +kernel⟩
theorem lk_ClearingWaves_116 : cV "ClearingWaves" 116 7 3 0 (some .int) := ⟨mv7, mt2 (List.mem_of_getElem? (i := 117) (by decide +kernel)) (by decide +kernel), by decide +kernel, by decide +kernel⟩
theorem lk_ClearingWaves_120 : cV "ClearingWaves" 120 24 4 0 none := ⟨mv24, mt2 (List.mem_of_getElem? (i := 118) (by decide +kernel)) (by decide +kernel), by decide +kernel, by decide +kernel⟩
theorem lk_ClearingWaves_131 : cV "ClearingWaves" 131 30 1 7 (some .boolean) := ⟨mv30, mt2 (List.mem_of_getElem? (i := 142) (by decide +kernel)) (by decide +kernel), by decide +kernel, by decide +kernel⟩
theorem lk_ClearingWaves_137 : cV "ClearingWaves" 137 32 0 7 (some .int) := ⟨mv32, mt2 (List.mem_of_getElem? (i := 150) (by decide +kernel)) (by decide +kernel), by decide +kernel, by decide +kernel⟩
theorem lk_ClearingWaves_141 : cV "ClearingWaves" 141 34 2 7 (some .int) := ⟨mv34, mt2 (List.mem_of_getElem? (i := 158) (by decide +kernel)) (by decide +kernel), by decide +kernel, by decide +kernel⟩
theorem lk_ClearingWaves_145 : cV "ClearingWaves" 145 40 0 10 (some (.object "ClearingWaves$Clearing")) := ⟨mv40, mt2 (List.mem_of_getElem? (i := 184) (by decide +kernel)) (by decide +kernel), by decide +kernel, by decide +kernel⟩
theorem lk_ClearingWaves_158 : cV "ClearingWaves" 158 69 4 10 (some .long) := ⟨mv69, mt3 (List.mem_of_getElem? (i := 61) (by decide +kernel)) (by decide +kernel), by decide +kernel, by decide +kernel⟩
theorem lk_ClearingWaves_162 : cV "ClearingWaves" 162 70 1 1 (some .boolean) := ⟨mv70, mt3 (List.mem_of_getElem? (i := 65) (by decide +kernel)) (by decide +kernel), by decide +kernel, by decide +kernel⟩
theorem lk_ClearingWaves_165 : cV "ClearingWaves" 165 22 2 0 (some .boolean) := ⟨mv22, mt3 (List.mem_of_getElem? (i := 69) (by decide +kernel)) (by decide +kernel), by decide +kernel, by decide +kernel⟩
theorem lk_ClearingWaves_171 : cV "ClearingWaves" 171 71 3 1 (some .long) := ⟨mv71, mt3 (List.mem_of_getElem? (i := 71) (by decide +kernel)) (by decide +kernel), by decide +kernel, by decide +kernel⟩
theorem lk_ClearingWaves_175 : cV "ClearingWaves" 175 72 1 1 (some .long) := ⟨mv72, mt3 (List.mem_of_getElem? (i := 75) (by decide +kernel)) (by decide +kernel), by decide +kernel, by decide +kernel⟩
theorem lk_ClearingWaves_179 : cS "ClearingWaves" 179 73 3 (some .long) := ⟨mv73, mt3 (List.mem_of_getElem? (i := 79) (by decide +kernel)) (by decide +kernel), by decide +kernel⟩
theorem lk_ClearingWaves_185 : cV "ClearingWaves" 185 45 2 1 (some .long) := ⟨mv45, mt3 (List.mem_of_getElem? (i := 93) (by decide +kernel)) (by decide +kernel), by decide +kernel, by decide +kernel⟩
theorem lk_ClearingWaves_189 : cV "ClearingWaves" 189 65 2 1 (some .long) := ⟨mv65, mt3 (List.mem_of_getElem? (i := 98) (by decide +kernel)) (by decide +kernel), by decide +kernel, by decide +kernel⟩
theorem lk_ClearingWaves_192 : cV "ClearingWaves" 192 78 1 1 (some .long) := ⟨mv78, mt3 (List.mem_of_getElem? (i := 103) (by decide +kernel)) (by decide +kernel), by decide +kernel, by decide +kernel⟩
theorem lk_ClearingWaves_195 : cV "ClearingWaves" 195 80 1 1 (some .long) := ⟨mv80, mt3 (List.mem_of_getElem? (i := 111) (by decide +kernel)) (by decide +kernel), by decide +kernel, by decide +kernel⟩
theorem lk_ClearingWaves_200 : cV "ClearingWaves" 200 82 3 1 (some .long) := ⟨mv82, mt3 (List.mem_of_getElem? (i := 120) (by decide +kernel)) (by decide +kernel), by decide +kernel, by decide +kernel⟩
theorem lk_ClearingWaves_203 : cV "ClearingWaves" 203 84 0 1 (some .long) := ⟨mv84, mt3 (List.mem_of_getElem? (i := 129) (by decide +kernel)) (by decide +kernel), by decide +kernel, by decide +kernel⟩
theorem lk_ClearingWaves_210 : cV "ClearingWaves" 210 87 2 10 (some .int) := ⟨mv87, mt3 (List.mem_of_getElem? (i := 141) (by decide +kernel)) (by decide +kernel), by decide +kernel, by decide +kernel⟩
theorem lk_ClearingWaves_214 : cV "ClearingWaves" 214 88 1 1 (some .int) := ⟨mv88, mt3 (List.mem_of_getElem? (i := 145) (by decide +kernel)) (by decide +kernel), by decide +kernel, by decide +kernel⟩
theorem lk_ClearingWaves_218 : cV "ClearingWaves" 218 92 0 10 (some (.object "ClearingWaves$Coins")) := ⟨mv92, mt3 (List.mem_of_getElem? (i := 164) (by decide +kernel)) (by decide +kernel), by decide +kernel, by decide +kernel⟩
theorem lk_ClearingWaves_222 : cV "ClearingWaves" 222 95 3 2 (some .int) := ⟨mv95, mt3 (List.mem_of_getElem? (i := 207) (by decide +kernel)) (by decide +kernel), by decide +kernel, by decide +kernel⟩
theorem lk_ClearingWaves_228 : cV "ClearingWaves" 228 104 0 2 (some .int) := ⟨mv104, mt3 (List.mem_of_getElem? (i := 216) (by decide +kernel)) (by decide +kernel), by decide +kernel, by decide +kernel⟩
theorem lk_ClearingWaves_231 : cV "ClearingWaves" 231 106 0 2 (some .int) := ⟨mv106, mt3 (List.mem_of_getElem? (i := 224) (by decide +kernel)) (by decide +kernel), by decide +kernel, by decide +kernel⟩
theorem lk_ClearingWaves_234 : cS "ClearingWaves" 234 108 1 (some .boolean) := ⟨mv108, mt3 (List.mem_of_getElem? (i := 232) (by decide +kernel)) (by decide +kernel), by decide +kernel⟩
theorem lk_ClearingWaves_237 : cV "ClearingWaves" 237 109 2 10 (some .int) := ⟨mv109, mt3 (List.mem_of_getElem? (i := 235) (by decide +kernel)) (by decide +kernel), by decide +kernel, by decide +kernel⟩
theorem lk_ClearingWaves_240 : cV "ClearingWaves" 240 110 0 10 none := ⟨mv110, mt3 (List.mem_of_getElem? (i := 239) (by decide +kernel)) (by decide +kernel), by decide +kernel, by decide +kernel⟩
theorem lk_ClearingWaves_243 : cV "ClearingWaves" 243 113 2 10 (some .int) := ⟨mv113, mt4 (List.mem_of_getElem? (i := 13) (by decide +kernel)) (by decide +kernel), by decide +kernel, by decide +kernel⟩
theorem lk_ClearingWaves_246 : cV "ClearingWaves" 246 117 2 10 (some .int) := ⟨mv117, mt4 (List.mem_of_getElem? (i := 28) (by decide +kernel)) (by decide +kernel), by decide +kernel, by decide +kernel⟩
theorem lk_ClearingWaves_249 : cS "ClearingWaves" 249 56 1 (some .int) := ⟨mv56, mt4 (List.mem_of_getElem? (i := 17) (by decide +kernel)) (by decide +kernel), by decide +kernel⟩
theorem lk_ClearingWaves_254 : cV "ClearingWaves" 254 121 1 6 (some .boolean) := ⟨mv121, mt4 (List.mem_of_getElem? (i := 44) (by decide +kernel)) (by decide +kernel), by decide +kernel, by decide +kernel⟩
theorem lk_ClearingWaves_257 : cV "ClearingWaves" 257 122 1 6 (some .boolean) := ⟨mv122, mt4 (List.mem_of_getElem? (i := 48) (by decide +kernel)) (by decide +kernel), by decide +kernel, by decide +kernel⟩
theorem lk_ClearingWaves_260 : cV "ClearingWaves" 260 123 4 6 (some .boolean) := ⟨mv123, mt4 (List.mem_of_getElem? (i := 52) (by decide +kernel)) (by decide +kernel), by decide +kernel, by decide +kernel⟩
theorem lk_ClearingWaves_264 : cV "ClearingWaves" 264 41 0 1 none := ⟨mv41, mt2 (List.mem_of_getElem? (i := 188) (by decide +kernel)) (by decide +kernel), by decide +kernel, by decide +kernel⟩
theorem lk_ClearingWaves_267 : cV "ClearingWaves" 267 23 1 0 (some .boolean) := ⟨mv23, mt4 (List.mem_of_getElem? (i := 65) (by decide +kernel)) (by decide +kernel), by decide +kernel, by decide +kernel⟩
theorem lk_ClearingWaves_270 : cV "ClearingWaves" 270 126 1 5 (some .int) := ⟨mv126, mt4 (List.mem_of_getElem? (i := 66) (by decide +kernel)) (by decide +kernel), by decide +kernel, by decide +kernel⟩
theorem lk_ClearingWaves_276 : cV "ClearingWaves" 276 130 1 5 (some .int) := ⟨mv130, mt4 (List.mem_of_getElem? (i := 81) (by decide +kernel)) (by decide +kernel), by decide +kernel, by decide +kernel⟩
theorem lk_ClearingWaves_285 : cS "ClearingWaves" 285 133 3 (some .int) := ⟨mv133, mt4 (List.mem_of_getElem? (i := 99) (by decide +kernel)) (by decide +kernel), by decide +kernel⟩
theorem lk_ClearingWaves_292 : cV "ClearingWaves" 292 136 3 9 (some .boolean) := ⟨mv136, mt4 (List.mem_of_getElem? (i := 110) (by decide +kernel)) (by decide +kernel), by decide +kernel, by decide +kernel⟩
theorem lk_ClearingWaves_301 : cV "ClearingWaves" 301 141 1 0 (some .boolean) := ⟨mv141, mt4 (List.mem_of_getElem? (i := 134) (by decide +kernel)) (by decide +kernel), by decide +kernel, by decide +kernel⟩
theorem lk_ClearingWaves_304 : cS "ClearingWaves" 304 115 4 (some .int) := ⟨mv115, mt4 (List.mem_of_getElem? (i := 21) (by decide +kernel)) (by decide +kernel), by decide +kernel⟩
theorem lk_ClearingWaves_309 : cV "ClearingWaves" 309 144 2 10 none := ⟨mv144, mt4 (List.mem_of_getElem? (i := 147) (by decide +kernel)) (by decide +kernel), by decide +kernel, by decide +kernel⟩
theorem lk_ClearingWaves_316 : cV "ClearingWaves" 316 149 0 0 (some .int) := ⟨mv149, mt4 (List.mem_of_getElem? (i := 171) (by decide +kernel)) (by decide +kernel), by decide +kernel, by decide +kernel⟩
theorem lk_ClearingWaves_319 : cV "ClearingWaves" 319 150 0 0 (some .int) := ⟨mv150, mt4 (List.mem_of_getElem? (i := 175) (by decide +kernel)) (by decide +kernel), by decide +kernel, by decide +kernel⟩
theorem lk_ClearingWaves_322 : cV "ClearingWaves" 322 151 0 0 (some .int) := ⟨mv151, mt4 (List.mem_of_getElem? (i := 180) (by decide +kernel)) (by decide +kernel), by decide +kernel, by decide +kernel⟩
theorem lk_ClearingWaves_325 : cV "ClearingWaves" 325 152 1 10 (some .int) := ⟨mv152, mt4 (List.mem_of_getElem? (i := 184) (by decide +kernel)) (by decide +kernel), by decide +kernel, by decide +kernel⟩
theorem lk_ClearingWaves_328 : cV "ClearingWaves" 328 154 2 6 none := ⟨mv154, mt4 (List.mem_of_getElem? (i := 193) (by decide +kernel)) (by decide +kernel), by decide +kernel, by decide +kernel⟩
theorem lk_ClearingWaves_330 : cV "ClearingWaves" 330 124 2 6 (some .boolean) := ⟨mv124, mt4 (List.mem_of_getElem? (i := 205) (by decide +kernel)) (by decide +kernel), by decide +kernel, by decide +kernel⟩
theorem lk_ClearingWaves_333 : cV "ClearingWaves" 333 157 2 6 (some .long) := ⟨mv157, mt4 (List.mem_of_getElem? (i := 206) (by decide +kernel)) (by decide +kernel), by decide +kernel, by decide +kernel⟩
theorem lk_ClearingWaves_336 : cV "ClearingWaves" 336 160 1 6 (some .int) := ⟨mv160, mt4 (List.mem_of_getElem? (i := 218) (by decide +kernel)) (by decide +kernel), by decide +kernel, by decide +kernel⟩
theorem lk_ClearingWaves_345 : cV "ClearingWaves" 345 161 1 8 (some .boolean) := ⟨mv161, mt4 (List.mem_of_getElem? (i := 222) (by decide +kernel)) (by decide +kernel), by decide +kernel, by decide +kernel⟩
theorem lk_ClearingWaves_348 : cV "ClearingWaves" 348 162 2 8 (some .boolean) := ⟨mv162, mt4 (List.mem_of_getElem? (i := 227) (by decide +kernel)) (by decide +kernel), by decide +kernel, by decide +kernel⟩
theorem lk_ClearingWaves_352 : cV "ClearingWaves" 352 163 1 8 (some .boolean) := ⟨mv163, mt4 (List.mem_of_getElem? (i := 233) (by decide +kernel)) (by decide +kernel), by decide +kernel, by decide +kernel⟩
theorem lk_ClearingWaves_356 : cV "ClearingWaves" 356 168 1 0 none := ⟨mv168, mt5 (List.mem_of_getElem? (i := 15) (by decide +kernel)) (by decide +kernel), by decide +kernel, by decide +kernel⟩
theorem lk_ClearingWaves_362 : cV "ClearingWaves" 362 93 0 2 none := ⟨mv93, mt3 (List.mem_of_getElem? (i := 168) (by decide +kernel)) (by decide +kernel), by decide +kernel, by decide +kernel⟩
theorem la_ClearingWaves_365 : Cond.methodLink "ClearingWaves" 365 arraycopyName ∈ lw_g := mt4 (List.mem_of_getElem? (i := 3) (by decide +kernel)) (by decide +kernel)
theorem lk_ClearingWaves_371 : cS "ClearingWaves" 371 51 2 (some .int) := ⟨mv51, mt4 (List.mem_of_getElem? (i := 4) (by decide +kernel)) (by decide +kernel), by decide +kernel⟩
theorem lk_ClearingWaves_376 : cS "ClearingWaves" 376 114 2 (some .int) := ⟨mv114, mt4 (List.mem_of_getElem? (i := 18) (by decide +kernel)) (by decide +kernel), by decide +kernel⟩
theorem lk_ClearingWaves_379 : cV "ClearingWaves" 379 145 1 4 none := ⟨mv145, mt4 (List.mem_of_getElem? (i := 151) (by decide +kernel)) (by decide +kernel), by decide +kernel, by decide +kernel⟩
theorem lk_ClearingWaves_381 : cV "ClearingWaves" 381 146 1 4 none := ⟨mv146, mt4 (List.mem_of_getElem? (i := 155) (by decide +kernel)) (by decide +kernel), by decide +kernel, by decide +kernel⟩
theorem lk_ClearingWaves_385 : cV "ClearingWaves" 385 85 1 1 (some .long) := ⟨mv85, mt4 (List.mem_of_getElem? (i := 162) (by decide +kernel)) (by decide +kernel), by decide +kernel, by decide +kernel⟩
theorem lk_ClearingWaves_388 : cV "ClearingWaves" 388 6 2 0 (some .int) := ⟨mv6, mt4 (List.mem_of_getElem? (i := 188) (by decide +kernel)) (by decide +kernel), by decide +kernel, by decide +kernel⟩
theorem lo_Book_3 : Cond.methodLink "ClearingWaves$Book" 3 Lib.objectInit ∈ lw_g := mt1 (List.mem_of_getElem? (i := 30) (by decide +kernel)) (by decide +kernel)
theorem lk_Book_22 : cV "ClearingWaves$Book" 22 2 1 0 none := ⟨mv2, mt1 (List.mem_of_getElem? (i := 31) (by decide +kernel)) (by decide +kernel), by decide +kernel, by decide +kernel⟩
theorem la_Book_36 : Cond.methodLink "ClearingWaves$Book" 36 arraycopyName ∈ lw_g := mt5 (List.mem_of_getElem? (i := 19) (by decide +kernel)) (by decide +kernel)
theorem lk_Book_42 : cV "ClearingWaves$Book" 42 19 1 0 (some .boolean) := ⟨mv19, mt2 (List.mem_of_getElem? (i := 112) (by decide +kernel)) (by decide +kernel), by decide +kernel, by decide +kernel⟩
theorem lk_Book_46 : cV "ClearingWaves$Book" 46 23 1 0 (some .boolean) := ⟨mv23, mt2 (List.mem_of_getElem? (i := 113) (by decide +kernel)) (by decide +kernel), by decide +kernel, by decide +kernel⟩
theorem lk_Book_49 : cV "ClearingWaves$Book" 49 22 2 0 (some .boolean) := ⟨mv22, mt2 (List.mem_of_getElem? (i := 108) (by decide +kernel)) (by decide +kernel), by decide +kernel, by decide +kernel⟩
theorem lk_Book_53 : cV "ClearingWaves$Book" 53 7 3 0 (some .int) := ⟨mv7, mt1 (List.mem_of_getElem? (i := 106) (by decide +kernel)) (by decide +kernel), by decide +kernel, by decide +kernel⟩
theorem lk_Book_57 : cV "ClearingWaves$Book" 57 6 2 0 (some .int) := ⟨mv6, mt3 (List.mem_of_getElem? (i := 198) (by decide +kernel)) (by decide +kernel), by decide +kernel, by decide +kernel⟩
theorem lk_Book_61 : cV "ClearingWaves$Book" 61 99 1 0 (some .int) := ⟨mv99, mt4 (List.mem_of_getElem? (i := 179) (by decide +kernel)) (by decide +kernel), by decide +kernel, by decide +kernel⟩
theorem lk_Book_65 : cS "ClearingWaves$Book" 65 133 3 (some .int) := ⟨mv133, mt4 (List.mem_of_getElem? (i := 138) (by decide +kernel)) (by decide +kernel), by decide +kernel⟩
theorem lo_Clearing_3 : Cond.methodLink "ClearingWaves$Clearing" 3 Lib.objectInit ∈ lw_g := mt1 (List.mem_of_getElem? (i := 83) (by decide +kernel)) (by decide +kernel)
theorem lk_Clearing_55 : cV "ClearingWaves$Clearing" 55 5 0 1 none := ⟨mv5, mt1 (List.mem_of_getElem? (i := 98) (by decide +kernel)) (by decide +kernel), by decide +kernel, by decide +kernel⟩
theorem lk_Clearing_58 : cV "ClearingWaves$Clearing" 58 42 0 1 (some .int) := ⟨mv42, mt2 (List.mem_of_getElem? (i := 192) (by decide +kernel)) (by decide +kernel), by decide +kernel, by decide +kernel⟩
theorem lk_Clearing_62 : cV "ClearingWaves$Clearing" 62 47 1 1 (some .int) := ⟨mv47, mt2 (List.mem_of_getElem? (i := 213) (by decide +kernel)) (by decide +kernel), by decide +kernel, by decide +kernel⟩
theorem lk_Clearing_66 : cV "ClearingWaves$Clearing" 66 50 1 1 none := ⟨mv50, mt2 (List.mem_of_getElem? (i := 226) (by decide +kernel)) (by decide +kernel), by decide +kernel, by decide +kernel⟩
theorem lk_Clearing_70 : cV "ClearingWaves$Clearing" 70 61 0 1 none := ⟨mv61, mt3 (List.mem_of_getElem? (i := 31) (by decide +kernel)) (by decide +kernel), by decide +kernel, by decide +kernel⟩
theorem lk_Clearing_73 : cV "ClearingWaves$Clearing" 73 64 0 1 (some .boolean) := ⟨mv64, mt3 (List.mem_of_getElem? (i := 41) (by decide +kernel)) (by decide +kernel), by decide +kernel, by decide +kernel⟩
theorem lk_Clearing_88 : cV "ClearingWaves$Clearing" 88 6 2 0 (some .int) := ⟨mv6, mt1 (List.mem_of_getElem? (i := 102) (by decide +kernel)) (by decide +kernel), by decide +kernel, by decide +kernel⟩
theorem lk_Clearing_94 : cV "ClearingWaves$Clearing" 94 8 0 1 none := ⟨mv8, mt1 (List.mem_of_getElem? (i := 110) (by decide +kernel)) (by decide +kernel), by decide +kernel, by decide +kernel⟩
theorem lk_Clearing_103 : cV "ClearingWaves$Clearing" 103 45 2 1 (some .long) := ⟨mv45, mt2 (List.mem_of_getElem? (i := 204) (by decide +kernel)) (by decide +kernel), by decide +kernel, by decide +kernel⟩
theorem lk_Clearing_112 : cV "ClearingWaves$Clearing" 112 43 1 1 (some .boolean) := ⟨mv43, mt2 (List.mem_of_getElem? (i := 196) (by decide +kernel)) (by decide +kernel), by decide +kernel, by decide +kernel⟩
theorem lk_Clearing_116 : cV "ClearingWaves$Clearing" 116 44 1 1 (some .long) := ⟨mv44, mt2 (List.mem_of_getElem? (i := 200) (by decide +kernel)) (by decide +kernel), by decide +kernel, by decide +kernel⟩
theorem lk_Clearing_120 : cV "ClearingWaves$Clearing" 120 46 1 1 (some .long) := ⟨mv46, mt2 (List.mem_of_getElem? (i := 208) (by decide +kernel)) (by decide +kernel), by decide +kernel, by decide +kernel⟩
theorem lk_Clearing_123 : cV "ClearingWaves$Clearing" 123 49 1 1 (some .int) := ⟨mv49, mt2 (List.mem_of_getElem? (i := 221) (by decide +kernel)) (by decide +kernel), by decide +kernel, by decide +kernel⟩
theorem lk_Clearing_126 : cV "ClearingWaves$Clearing" 126 7 3 0 (some .int) := ⟨mv7, mt2 (List.mem_of_getElem? (i := 225) (by decide +kernel)) (by decide +kernel), by decide +kernel, by decide +kernel⟩
theorem lk_Clearing_130 : cV "ClearingWaves$Clearing" 130 48 2 1 (some .boolean) := ⟨mv48, mt2 (List.mem_of_getElem? (i := 217) (by decide +kernel)) (by decide +kernel), by decide +kernel, by decide +kernel⟩
theorem lk_Clearing_134 : cS "ClearingWaves$Clearing" 134 51 2 (some .int) := ⟨mv51, mt2 (List.mem_of_getElem? (i := 230) (by decide +kernel)) (by decide +kernel), by decide +kernel⟩
theorem lk_Clearing_139 : cV "ClearingWaves$Clearing" 139 52 0 1 none := ⟨mv52, mt2 (List.mem_of_getElem? (i := 233) (by decide +kernel)) (by decide +kernel), by decide +kernel, by decide +kernel⟩
theorem lk_Clearing_142 : cV "ClearingWaves$Clearing" 142 60 1 1 (some .int) := ⟨mv60, mt3 (List.mem_of_getElem? (i := 27) (by decide +kernel)) (by decide +kernel), by decide +kernel, by decide +kernel⟩
theorem lk_Clearing_145 : cV "ClearingWaves$Clearing" 145 53 2 1 (some .long) := ⟨mv53, mt2 (List.mem_of_getElem? (i := 237) (by decide +kernel)) (by decide +kernel), by decide +kernel, by decide +kernel⟩
theorem lk_Clearing_148 : cV "ClearingWaves$Clearing" 148 54 3 3 none := ⟨mv54, mt3 (List.mem_of_getElem? (i := 1) (by decide +kernel)) (by decide +kernel), by decide +kernel, by decide +kernel⟩
theorem lk_Clearing_152 : cV "ClearingWaves$Clearing" 152 55 1 3 none := ⟨mv55, mt3 (List.mem_of_getElem? (i := 5) (by decide +kernel)) (by decide +kernel), by decide +kernel, by decide +kernel⟩
theorem lk_Clearing_155 : cV "ClearingWaves$Clearing" 155 58 1 3 (some .long) := ⟨mv58, mt3 (List.mem_of_getElem? (i := 19) (by decide +kernel)) (by decide +kernel), by decide +kernel, by decide +kernel⟩
theorem lk_Clearing_158 : cV "ClearingWaves$Clearing" 158 59 2 3 (some .long) := ⟨mv59, mt3 (List.mem_of_getElem? (i := 23) (by decide +kernel)) (by decide +kernel), by decide +kernel, by decide +kernel⟩
theorem lk_Clearing_161 : cS "ClearingWaves$Clearing" 161 62 2 (some .long) := ⟨mv62, mt3 (List.mem_of_getElem? (i := 35) (by decide +kernel)) (by decide +kernel), by decide +kernel⟩
theorem lk_Clearing_167 : cV "ClearingWaves$Clearing" 167 65 2 1 (some .long) := ⟨mv65, mt3 (List.mem_of_getElem? (i := 45) (by decide +kernel)) (by decide +kernel), by decide +kernel, by decide +kernel⟩
theorem lk_Clearing_173 : cV "ClearingWaves$Clearing" 173 71 3 1 (some .long) := ⟨mv71, mt3 (List.mem_of_getElem? (i := 124) (by decide +kernel)) (by decide +kernel), by decide +kernel, by decide +kernel⟩
theorem lk_Clearing_176 : cV "ClearingWaves$Clearing" 176 85 1 1 (some .long) := ⟨mv85, mt3 (List.mem_of_getElem? (i := 133) (by decide +kernel)) (by decide +kernel), by decide +kernel, by decide +kernel⟩
theorem lk_Clearing_181 : cV "ClearingWaves$Clearing" 181 82 3 1 (some .long) := ⟨mv82, mt3 (List.mem_of_getElem? (i := 150) (by decide +kernel)) (by decide +kernel), by decide +kernel, by decide +kernel⟩
theorem lo_Coins_3 : Cond.methodLink "ClearingWaves$Coins" 3 Lib.objectInit ∈ lw_g := mt1 (List.mem_of_getElem? (i := 170) (by decide +kernel)) (by decide +kernel)
theorem la_Coins_27 : Cond.methodLink "ClearingWaves$Coins" 27 arraycopyName ∈ lw_g := mt3 (List.mem_of_getElem? (i := 172) (by decide +kernel)) (by decide +kernel)
theorem lk_Coins_37 : cV "ClearingWaves$Coins" 37 94 0 2 none := ⟨mv94, mt3 (List.mem_of_getElem? (i := 175) (by decide +kernel)) (by decide +kernel), by decide +kernel, by decide +kernel⟩
theorem lk_Coins_43 : cV "ClearingWaves$Coins" 43 97 1 2 (some .boolean) := ⟨mv97, mt3 (List.mem_of_getElem? (i := 186) (by decide +kernel)) (by decide +kernel), by decide +kernel, by decide +kernel⟩
theorem lk_Coins_47 : cS "ClearingWaves$Coins" 47 96 3 (some .int) := ⟨mv96, mt3 (List.mem_of_getElem? (i := 183) (by decide +kernel)) (by decide +kernel), by decide +kernel⟩
theorem lk_Coins_51 : cV "ClearingWaves$Coins" 51 95 3 2 (some .int) := ⟨mv95, mt3 (List.mem_of_getElem? (i := 179) (by decide +kernel)) (by decide +kernel), by decide +kernel, by decide +kernel⟩
theorem lk_Coins_57 : cV "ClearingWaves$Coins" 57 99 1 0 (some .int) := ⟨mv99, mt3 (List.mem_of_getElem? (i := 194) (by decide +kernel)) (by decide +kernel), by decide +kernel, by decide +kernel⟩
theorem lk_Coins_67 : cV "ClearingWaves$Coins" 67 98 1 2 (some .boolean) := ⟨mv98, mt3 (List.mem_of_getElem? (i := 190) (by decide +kernel)) (by decide +kernel), by decide +kernel, by decide +kernel⟩
theorem lk_Coins_70 : cV "ClearingWaves$Coins" 70 100 1 2 (some .int) := ⟨mv100, mt3 (List.mem_of_getElem? (i := 199) (by decide +kernel)) (by decide +kernel), by decide +kernel, by decide +kernel⟩
theorem lk_Coins_73 : cV "ClearingWaves$Coins" 73 6 2 0 (some .int) := ⟨mv6, mt3 (List.mem_of_getElem? (i := 203) (by decide +kernel)) (by decide +kernel), by decide +kernel, by decide +kernel⟩
theorem lk_Coins_77 : cS "ClearingWaves$Coins" 77 101 2 (some .int) := ⟨mv101, mt3 (List.mem_of_getElem? (i := 204) (by decide +kernel)) (by decide +kernel), by decide +kernel⟩
theorem lo_Equations_3 : Cond.methodLink "ClearingWaves$Equations" 3 Lib.objectInit ∈ lw_g := mt1 (List.mem_of_getElem? (i := 89) (by decide +kernel)) (by decide +kernel)
theorem lk_Equations_18 : cS "ClearingWaves$Equations" 18 56 1 (some .int) := ⟨mv56, mt3 (List.mem_of_getElem? (i := 9) (by decide +kernel)) (by decide +kernel), by decide +kernel⟩
theorem lk_Equations_24 : cV "ClearingWaves$Equations" 24 57 2 3 (some .long) := ⟨mv57, mt3 (List.mem_of_getElem? (i := 15) (by decide +kernel)) (by decide +kernel), by decide +kernel, by decide +kernel⟩
theorem lo_Paper_1 : Cond.methodLink "ClearingWaves$Paper" 1 Lib.objectInit ∈ lw_g := mt2 (List.mem_of_getElem? (i := 11) (by decide +kernel)) (by decide +kernel)
theorem lk_Paper_21 : cV "ClearingWaves$Paper" 21 145 1 4 none := ⟨mv145, mt4 (List.mem_of_getElem? (i := 161) (by decide +kernel)) (by decide +kernel), by decide +kernel, by decide +kernel⟩
theorem lk_Ratio_11 : cS "ClearingWaves$Ratio" 11 63 2 (some .long) := ⟨mv63, mt3 (List.mem_of_getElem? (i := 38) (by decide +kernel)) (by decide +kernel), by decide +kernel⟩
theorem lk_Ratio_19 : cS "ClearingWaves$Ratio" 19 62 2 (some .long) := ⟨mv62, mt3 (List.mem_of_getElem? (i := 83) (by decide +kernel)) (by decide +kernel), by decide +kernel⟩
theorem lo_Rings_3 : Cond.methodLink "ClearingWaves$Rings" 3 Lib.objectInit ∈ lw_g := mt1 (List.mem_of_getElem? (i := 190) (by decide +kernel)) (by decide +kernel)
theorem lk_Rings_25 : cS "ClearingWaves$Rings" 25 127 4 (some .int) := ⟨mv127, mt4 (List.mem_of_getElem? (i := 70) (by decide +kernel)) (by decide +kernel), by decide +kernel⟩
theorem lk_Rings_29 : cV "ClearingWaves$Rings" 29 7 3 0 (some .int) := ⟨mv7, mt4 (List.mem_of_getElem? (i := 73) (by decide +kernel)) (by decide +kernel), by decide +kernel, by decide +kernel⟩
theorem lk_Rings_33 : cS "ClearingWaves$Rings" 33 128 3 (some .boolean) := ⟨mv128, mt4 (List.mem_of_getElem? (i := 74) (by decide +kernel)) (by decide +kernel), by decide +kernel⟩
theorem lk_Rings_37 : cV "ClearingWaves$Rings" 37 126 1 5 (some .int) := ⟨mv126, mt4 (List.mem_of_getElem? (i := 85) (by decide +kernel)) (by decide +kernel), by decide +kernel, by decide +kernel⟩
theorem lk_Rings_41 : cV "ClearingWaves$Rings" 41 131 2 5 (some .int) := ⟨mv131, mt4 (List.mem_of_getElem? (i := 86) (by decide +kernel)) (by decide +kernel), by decide +kernel, by decide +kernel⟩
theorem lk_Rings_45 : cS "ClearingWaves$Rings" 45 101 2 (some .int) := ⟨mv101, mt4 (List.mem_of_getElem? (i := 90) (by decide +kernel)) (by decide +kernel), by decide +kernel⟩
theorem lk_Rings_50 : cV "ClearingWaves$Rings" 50 24 4 0 none := ⟨mv24, mt4 (List.mem_of_getElem? (i := 91) (by decide +kernel)) (by decide +kernel), by decide +kernel, by decide +kernel⟩
theorem lo_Rows_1 : Cond.methodLink "ClearingWaves$Rows" 1 Lib.objectInit ∈ lw_g := mt2 (List.mem_of_getElem? (i := 26) (by decide +kernel)) (by decide +kernel)
theorem lk_Rows_17 : cV "ClearingWaves$Rows" 17 121 1 6 (some .boolean) := ⟨mv121, mt4 (List.mem_of_getElem? (i := 60) (by decide +kernel)) (by decide +kernel), by decide +kernel, by decide +kernel⟩
theorem lk_Rows_21 : cV "ClearingWaves$Rows" 21 124 2 6 (some .boolean) := ⟨mv124, mt4 (List.mem_of_getElem? (i := 56) (by decide +kernel)) (by decide +kernel), by decide +kernel, by decide +kernel⟩
theorem lo_Tape_3 : Cond.methodLink "ClearingWaves$Tape" 3 Lib.objectInit ∈ lw_g := mt1 (List.mem_of_getElem? (i := 234) (by decide +kernel)) (by decide +kernel)
theorem lk_Tape_22 : cV "ClearingWaves$Tape" 22 35 2 7 (some .int) := ⟨mv35, mt2 (List.mem_of_getElem? (i := 162) (by decide +kernel)) (by decide +kernel), by decide +kernel, by decide +kernel⟩
theorem lk_Tape_26 : cV "ClearingWaves$Tape" 26 36 1 7 (some .int) := ⟨mv36, mt2 (List.mem_of_getElem? (i := 166) (by decide +kernel)) (by decide +kernel), by decide +kernel, by decide +kernel⟩
theorem lk_Tape_30 : cV "ClearingWaves$Tape" 30 37 1 7 (some .boolean) := ⟨mv37, mt2 (List.mem_of_getElem? (i := 171) (by decide +kernel)) (by decide +kernel), by decide +kernel, by decide +kernel⟩
theorem lk_Tape_34 : cV "ClearingWaves$Tape" 34 38 1 7 (some .int) := ⟨mv38, mt2 (List.mem_of_getElem? (i := 175) (by decide +kernel)) (by decide +kernel), by decide +kernel, by decide +kernel⟩
theorem lk_Tape_38 : cV "ClearingWaves$Tape" 38 24 4 0 none := ⟨mv24, mt2 (List.mem_of_getElem? (i := 179) (by decide +kernel)) (by decide +kernel), by decide +kernel, by decide +kernel⟩
theorem lk_Tape_47 : cV "ClearingWaves$Tape" 47 19 1 0 (some .boolean) := ⟨mv19, mt2 (List.mem_of_getElem? (i := 170) (by decide +kernel)) (by decide +kernel), by decide +kernel, by decide +kernel⟩
theorem lo_Told_3 : Cond.methodLink "ClearingWaves$Told" 3 Lib.objectInit ∈ lw_g := mt1 (List.mem_of_getElem? (i := 219) (by decide +kernel)) (by decide +kernel)
theorem lk_Told_27 : cV "ClearingWaves$Told" 27 72 1 1 (some .long) := ⟨mv72, mt4 (List.mem_of_getElem? (i := 231) (by decide +kernel)) (by decide +kernel), by decide +kernel, by decide +kernel⟩
theorem lk_Told_31 : cV "ClearingWaves$Told" 31 71 3 1 (some .long) := ⟨mv71, mt4 (List.mem_of_getElem? (i := 232) (by decide +kernel)) (by decide +kernel), by decide +kernel, by decide +kernel⟩
theorem lk_Told_40 : cV "ClearingWaves$Told" 40 164 2 8 (some .boolean) := ⟨mv164, mt4 (List.mem_of_getElem? (i := 237) (by decide +kernel)) (by decide +kernel), by decide +kernel, by decide +kernel⟩
theorem lk_Told_44 : cV "ClearingWaves$Told" 44 165 2 8 (some .long) := ⟨mv165, mt5 (List.mem_of_getElem? (i := 1) (by decide +kernel)) (by decide +kernel), by decide +kernel, by decide +kernel⟩
theorem lk_Told_52 : cV "ClearingWaves$Told" 52 99 1 0 (some .int) := ⟨mv99, mt5 (List.mem_of_getElem? (i := 6) (by decide +kernel)) (by decide +kernel), by decide +kernel, by decide +kernel⟩
theorem lk_Told_62 : cV "ClearingWaves$Told" 62 6 2 0 (some .int) := ⟨mv6, mt5 (List.mem_of_getElem? (i := 7) (by decide +kernel)) (by decide +kernel), by decide +kernel, by decide +kernel⟩
theorem lk_Told_66 : cS "ClearingWaves$Told" 66 166 2 (some .long) := ⟨mv166, mt5 (List.mem_of_getElem? (i := 8) (by decide +kernel)) (by decide +kernel), by decide +kernel⟩
theorem lk_Told_72 : cV "ClearingWaves$Told" 72 7 3 0 (some .int) := ⟨mv7, mt5 (List.mem_of_getElem? (i := 5) (by decide +kernel)) (by decide +kernel), by decide +kernel, by decide +kernel⟩
theorem lo_Worth_3 : Cond.methodLink "ClearingWaves$Worth" 3 Lib.objectInit ∈ lw_g := mt1 (List.mem_of_getElem? (i := 204) (by decide +kernel)) (by decide +kernel)
theorem lk_Worth_28 : cS "ClearingWaves$Worth" 28 133 3 (some .int) := ⟨mv133, mt4 (List.mem_of_getElem? (i := 114) (by decide +kernel)) (by decide +kernel), by decide +kernel⟩
theorem lk_Worth_37 : cV "ClearingWaves$Worth" 37 71 3 1 (some .long) := ⟨mv71, mt4 (List.mem_of_getElem? (i := 115) (by decide +kernel)) (by decide +kernel), by decide +kernel, by decide +kernel⟩
theorem lk_Worth_40 : cV "ClearingWaves$Worth" 40 72 1 1 (some .long) := ⟨mv72, mt4 (List.mem_of_getElem? (i := 116) (by decide +kernel)) (by decide +kernel), by decide +kernel, by decide +kernel⟩
theorem lk_Worth_43 : cV "ClearingWaves$Worth" 43 137 3 9 (some .boolean) := ⟨mv137, mt4 (List.mem_of_getElem? (i := 117) (by decide +kernel)) (by decide +kernel), by decide +kernel, by decide +kernel⟩
theorem lk_Worth_47 : cS "ClearingWaves$Worth" 47 73 3 (some .long) := ⟨mv73, mt4 (List.mem_of_getElem? (i := 121) (by decide +kernel)) (by decide +kernel), by decide +kernel⟩
theorem lk_Worth_53 : cS "ClearingWaves$Worth" 53 138 2 (some .long) := ⟨mv138, mt4 (List.mem_of_getElem? (i := 122) (by decide +kernel)) (by decide +kernel), by decide +kernel⟩
theorem lk_Worth_57 : cS "ClearingWaves$Worth" 57 139 2 (some .long) := ⟨mv139, mt4 (List.mem_of_getElem? (i := 127) (by decide +kernel)) (by decide +kernel), by decide +kernel⟩
theorem lk_Law_9 : cI "ClearingWavesLaw" 9 0 0 := ⟨mv0, Or.inl (mt1 (List.mem_of_getElem? (i := 19) (by decide +kernel)) (by decide +kernel))⟩
theorem lk_Law_12 : cI "ClearingWavesLaw" 12 170 0 := ⟨mv170, Or.inl (mt5 (List.mem_of_getElem? (i := 26) (by decide +kernel)) (by decide +kernel))⟩
theorem lk_Law_13 : cV "ClearingWavesLaw" 13 16 1 10 (some .int) := ⟨mv16, mt2 (List.mem_of_getElem? (i := 83) (by decide +kernel)) (by decide +kernel), by decide +kernel, by decide +kernel⟩
theorem lk_Law_17 : cV "ClearingWavesLaw" 17 173 1 11 (some .int) := ⟨mv173, mt5 (List.mem_of_getElem? (i := 145) (by decide +kernel)) (by decide +kernel), by decide +kernel, by decide +kernel⟩
theorem lk_Law_18 : cV "ClearingWavesLaw" 18 18 2 10 (some .int) := ⟨mv18, mt2 (List.mem_of_getElem? (i := 92) (by decide +kernel)) (by decide +kernel), by decide +kernel, by decide +kernel⟩
theorem lk_Law_22 : cV "ClearingWavesLaw" 22 175 2 11 (some .int) := ⟨mv175, mt5 (List.mem_of_getElem? (i := 154) (by decide +kernel)) (by decide +kernel), by decide +kernel, by decide +kernel⟩
theorem lk_Law_23 : cV "ClearingWavesLaw" 23 20 4 10 (some .int) := ⟨mv20, mt2 (List.mem_of_getElem? (i := 100) (by decide +kernel)) (by decide +kernel), by decide +kernel, by decide +kernel⟩
theorem lk_Law_27 : cV "ClearingWavesLaw" 27 178 4 11 (some .int) := ⟨mv178, mt5 (List.mem_of_getElem? (i := 167) (by decide +kernel)) (by decide +kernel), by decide +kernel, by decide +kernel⟩
theorem lk_Law_28 : cV "ClearingWavesLaw" 28 25 3 10 (some .int) := ⟨mv25, mt2 (List.mem_of_getElem? (i := 122) (by decide +kernel)) (by decide +kernel), by decide +kernel, by decide +kernel⟩
theorem lk_Law_32 : cV "ClearingWavesLaw" 32 182 3 11 (some .int) := ⟨mv182, mt5 (List.mem_of_getElem? (i := 182) (by decide +kernel)) (by decide +kernel), by decide +kernel, by decide +kernel⟩
theorem lk_Law_33 : cV "ClearingWavesLaw" 33 26 2 10 (some .int) := ⟨mv26, mt2 (List.mem_of_getElem? (i := 126) (by decide +kernel)) (by decide +kernel), by decide +kernel, by decide +kernel⟩
theorem lk_Law_36 : cV "ClearingWavesLaw" 36 184 2 11 (some .int) := ⟨mv184, mt5 (List.mem_of_getElem? (i := 190) (by decide +kernel)) (by decide +kernel), by decide +kernel, by decide +kernel⟩
theorem lk_Law_37 : cV "ClearingWavesLaw" 37 27 5 10 (some .int) := ⟨mv27, mt2 (List.mem_of_getElem? (i := 130) (by decide +kernel)) (by decide +kernel), by decide +kernel, by decide +kernel⟩
theorem lk_Law_41 : cV "ClearingWavesLaw" 41 185 5 11 (some .int) := ⟨mv185, mt5 (List.mem_of_getElem? (i := 194) (by decide +kernel)) (by decide +kernel), by decide +kernel, by decide +kernel⟩
theorem lk_Law_42 : cV "ClearingWavesLaw" 42 28 4 10 (some .int) := ⟨mv28, mt2 (List.mem_of_getElem? (i := 134) (by decide +kernel)) (by decide +kernel), by decide +kernel, by decide +kernel⟩
theorem lk_Law_45 : cV "ClearingWavesLaw" 45 186 4 11 (some .int) := ⟨mv186, mt5 (List.mem_of_getElem? (i := 198) (by decide +kernel)) (by decide +kernel), by decide +kernel, by decide +kernel⟩
theorem lk_Law_46 : cV "ClearingWavesLaw" 46 29 1 10 (some .int) := ⟨mv29, mt2 (List.mem_of_getElem? (i := 138) (by decide +kernel)) (by decide +kernel), by decide +kernel, by decide +kernel⟩
theorem lk_Law_49 : cV "ClearingWavesLaw" 49 187 1 11 (some .int) := ⟨mv187, mt5 (List.mem_of_getElem? (i := 202) (by decide +kernel)) (by decide +kernel), by decide +kernel, by decide +kernel⟩
theorem lk_Law_50 : cV "ClearingWavesLaw" 50 31 0 10 (some .int) := ⟨mv31, mt2 (List.mem_of_getElem? (i := 146) (by decide +kernel)) (by decide +kernel), by decide +kernel, by decide +kernel⟩
theorem lk_Law_54 : cV "ClearingWavesLaw" 54 188 0 11 (some .int) := ⟨mv188, mt5 (List.mem_of_getElem? (i := 207) (by decide +kernel)) (by decide +kernel), by decide +kernel, by decide +kernel⟩
theorem lk_Law_55 : cV "ClearingWavesLaw" 55 33 0 10 (some .int) := ⟨mv33, mt2 (List.mem_of_getElem? (i := 154) (by decide +kernel)) (by decide +kernel), by decide +kernel, by decide +kernel⟩
theorem lk_Law_58 : cV "ClearingWavesLaw" 58 189 0 11 (some .int) := ⟨mv189, mt5 (List.mem_of_getElem? (i := 211) (by decide +kernel)) (by decide +kernel), by decide +kernel, by decide +kernel⟩
theorem lk_Law_59 : cV "ClearingWavesLaw" 59 39 0 10 (some .int) := ⟨mv39, mt2 (List.mem_of_getElem? (i := 180) (by decide +kernel)) (by decide +kernel), by decide +kernel, by decide +kernel⟩
theorem lk_Law_62 : cV "ClearingWavesLaw" 62 194 0 11 (some .int) := ⟨mv194, mt5 (List.mem_of_getElem? (i := 234) (by decide +kernel)) (by decide +kernel), by decide +kernel, by decide +kernel⟩
theorem lk_Law_63 : cV "ClearingWavesLaw" 63 66 1 10 (some .int) := ⟨mv66, mt3 (List.mem_of_getElem? (i := 49) (by decide +kernel)) (by decide +kernel), by decide +kernel, by decide +kernel⟩
theorem lk_Law_66 : cV "ClearingWavesLaw" 66 214 1 11 (some .int) := ⟨mv214, mt6 (List.mem_of_getElem? (i := 72) (by decide +kernel)) (by decide +kernel), by decide +kernel, by decide +kernel⟩
theorem lk_Law_67 : cV "ClearingWavesLaw" 67 67 0 10 (some .int) := ⟨mv67, mt3 (List.mem_of_getElem? (i := 53) (by decide +kernel)) (by decide +kernel), by decide +kernel, by decide +kernel⟩
theorem lk_Law_70 : cV "ClearingWavesLaw" 70 215 0 11 (some .int) := ⟨mv215, mt6 (List.mem_of_getElem? (i := 76) (by decide +kernel)) (by decide +kernel), by decide +kernel, by decide +kernel⟩
theorem lk_Law_71 : cV "ClearingWavesLaw" 71 68 3 10 (some .long) := ⟨mv68, mt3 (List.mem_of_getElem? (i := 57) (by decide +kernel)) (by decide +kernel), by decide +kernel, by decide +kernel⟩
theorem lk_Law_75 : cV "ClearingWavesLaw" 75 216 3 11 (some .long) := ⟨mv216, mt6 (List.mem_of_getElem? (i := 80) (by decide +kernel)) (by decide +kernel), by decide +kernel, by decide +kernel⟩
theorem lk_Law_76 : cV "ClearingWavesLaw" 76 69 4 10 (some .long) := ⟨mv69, mt3 (List.mem_of_getElem? (i := 84) (by decide +kernel)) (by decide +kernel), by decide +kernel, by decide +kernel⟩
theorem lk_Law_80 : cV "ClearingWavesLaw" 80 217 4 11 (some .long) := ⟨mv217, mt6 (List.mem_of_getElem? (i := 95) (by decide +kernel)) (by decide +kernel), by decide +kernel, by decide +kernel⟩
theorem lk_Law_81 : cV "ClearingWavesLaw" 81 74 4 10 (some .long) := ⟨mv74, mt3 (List.mem_of_getElem? (i := 85) (by decide +kernel)) (by decide +kernel), by decide +kernel, by decide +kernel⟩
theorem lk_Law_84 : cV "ClearingWavesLaw" 84 220 4 11 (some .long) := ⟨mv220, mt6 (List.mem_of_getElem? (i := 96) (by decide +kernel)) (by decide +kernel), by decide +kernel, by decide +kernel⟩
theorem lk_Law_85 : cV "ClearingWavesLaw" 85 75 2 10 (some .long) := ⟨mv75, mt3 (List.mem_of_getElem? (i := 89) (by decide +kernel)) (by decide +kernel), by decide +kernel, by decide +kernel⟩
theorem lk_Law_89 : cV "ClearingWavesLaw" 89 221 2 11 (some .long) := ⟨mv221, mt6 (List.mem_of_getElem? (i := 100) (by decide +kernel)) (by decide +kernel), by decide +kernel, by decide +kernel⟩
theorem lk_Law_90 : cV "ClearingWavesLaw" 90 76 3 10 (some .long) := ⟨mv76, mt3 (List.mem_of_getElem? (i := 94) (by decide +kernel)) (by decide +kernel), by decide +kernel, by decide +kernel⟩
theorem lk_Law_93 : cV "ClearingWavesLaw" 93 222 3 11 (some .long) := ⟨mv222, mt6 (List.mem_of_getElem? (i := 104) (by decide +kernel)) (by decide +kernel), by decide +kernel, by decide +kernel⟩
theorem lk_Law_94 : cV "ClearingWavesLaw" 94 77 2 10 (some .long) := ⟨mv77, mt3 (List.mem_of_getElem? (i := 99) (by decide +kernel)) (by decide +kernel), by decide +kernel, by decide +kernel⟩
theorem lk_Law_97 : cV "ClearingWavesLaw" 97 223 2 11 (some .long) := ⟨mv223, mt6 (List.mem_of_getElem? (i := 108) (by decide +kernel)) (by decide +kernel), by decide +kernel, by decide +kernel⟩
theorem lk_Law_98 : cV "ClearingWavesLaw" 98 79 2 10 (some .long) := ⟨mv79, mt3 (List.mem_of_getElem? (i := 107) (by decide +kernel)) (by decide +kernel), by decide +kernel, by decide +kernel⟩
theorem lk_Law_101 : cV "ClearingWavesLaw" 101 225 2 11 (some .long) := ⟨mv225, mt6 (List.mem_of_getElem? (i := 116) (by decide +kernel)) (by decide +kernel), by decide +kernel, by decide +kernel⟩
theorem lk_Law_102 : cV "ClearingWavesLaw" 102 81 3 10 (some .long) := ⟨mv81, mt3 (List.mem_of_getElem? (i := 116) (by decide +kernel)) (by decide +kernel), by decide +kernel, by decide +kernel⟩
theorem lk_Law_105 : cV "ClearingWavesLaw" 105 227 3 11 (some .long) := ⟨mv227, mt6 (List.mem_of_getElem? (i := 124) (by decide +kernel)) (by decide +kernel), by decide +kernel, by decide +kernel⟩
theorem lk_Law_106 : cV "ClearingWavesLaw" 106 83 2 10 (some .long) := ⟨mv83, mt3 (List.mem_of_getElem? (i := 125) (by decide +kernel)) (by decide +kernel), by decide +kernel, by decide +kernel⟩
theorem lk_Law_109 : cV "ClearingWavesLaw" 109 229 2 11 (some .long) := ⟨mv229, mt6 (List.mem_of_getElem? (i := 132) (by decide +kernel)) (by decide +kernel), by decide +kernel, by decide +kernel⟩
theorem lk_Law_110 : cV "ClearingWavesLaw" 110 86 1 10 (some .int) := ⟨mv86, mt3 (List.mem_of_getElem? (i := 137) (by decide +kernel)) (by decide +kernel), by decide +kernel, by decide +kernel⟩
theorem lk_Law_113 : cV "ClearingWavesLaw" 113 231 1 11 (some .int) := ⟨mv231, mt6 (List.mem_of_getElem? (i := 140) (by decide +kernel)) (by decide +kernel), by decide +kernel, by decide +kernel⟩
theorem lk_Law_114 : cV "ClearingWavesLaw" 114 87 2 10 (some .int) := ⟨mv87, mt3 (List.mem_of_getElem? (i := 151) (by decide +kernel)) (by decide +kernel), by decide +kernel, by decide +kernel⟩
theorem lk_Law_117 : cV "ClearingWavesLaw" 117 234 2 11 (some .int) := ⟨mv234, mt6 (List.mem_of_getElem? (i := 152) (by decide +kernel)) (by decide +kernel), by decide +kernel, by decide +kernel⟩
theorem lk_Law_118 : cV "ClearingWavesLaw" 118 89 1 10 (some .int) := ⟨mv89, mt3 (List.mem_of_getElem? (i := 152) (by decide +kernel)) (by decide +kernel), by decide +kernel, by decide +kernel⟩
theorem lk_Law_121 : cV "ClearingWavesLaw" 121 235 1 11 (some .int) := ⟨mv235, mt6 (List.mem_of_getElem? (i := 157) (by decide +kernel)) (by decide +kernel), by decide +kernel, by decide +kernel⟩
theorem lk_Law_122 : cV "ClearingWavesLaw" 122 90 1 10 (some .int) := ⟨mv90, mt3 (List.mem_of_getElem? (i := 156) (by decide +kernel)) (by decide +kernel), by decide +kernel, by decide +kernel⟩
theorem lk_Law_125 : cV "ClearingWavesLaw" 125 237 1 11 (some .int) := ⟨mv237, mt6 (List.mem_of_getElem? (i := 165) (by decide +kernel)) (by decide +kernel), by decide +kernel, by decide +kernel⟩
theorem lk_Law_126 : cV "ClearingWavesLaw" 126 91 3 10 (some .int) := ⟨mv91, mt3 (List.mem_of_getElem? (i := 160) (by decide +kernel)) (by decide +kernel), by decide +kernel, by decide +kernel⟩
theorem lk_Law_129 : cV "ClearingWavesLaw" 129 238 3 11 (some .int) := ⟨mv238, mt6 (List.mem_of_getElem? (i := 169) (by decide +kernel)) (by decide +kernel), by decide +kernel, by decide +kernel⟩
theorem lk_Law_130 : cV "ClearingWavesLaw" 130 102 0 10 (some .int) := ⟨mv102, mt3 (List.mem_of_getElem? (i := 208) (by decide +kernel)) (by decide +kernel), by decide +kernel, by decide +kernel⟩
theorem lk_Law_133 : cV "ClearingWavesLaw" 133 244 0 11 (some .int) := ⟨mv244, mt6 (List.mem_of_getElem? (i := 193) (by decide +kernel)) (by decide +kernel), by decide +kernel, by decide +kernel⟩
theorem lk_Law_134 : cV "ClearingWavesLaw" 134 103 0 10 (some .int) := ⟨mv103, mt3 (List.mem_of_getElem? (i := 212) (by decide +kernel)) (by decide +kernel), by decide +kernel, by decide +kernel⟩
theorem lk_Law_137 : cV "ClearingWavesLaw" 137 245 0 11 (some .int) := ⟨mv245, mt6 (List.mem_of_getElem? (i := 197) (by decide +kernel)) (by decide +kernel), by decide +kernel, by decide +kernel⟩
theorem lk_Law_138 : cV "ClearingWavesLaw" 138 105 0 10 (some .int) := ⟨mv105, mt3 (List.mem_of_getElem? (i := 220) (by decide +kernel)) (by decide +kernel), by decide +kernel, by decide +kernel⟩
theorem lk_Law_141 : cV "ClearingWavesLaw" 141 246 0 11 (some .int) := ⟨mv246, mt6 (List.mem_of_getElem? (i := 201) (by decide +kernel)) (by decide +kernel), by decide +kernel, by decide +kernel⟩
theorem lk_Law_142 : cV "ClearingWavesLaw" 142 107 2 10 (some .int) := ⟨mv107, mt3 (List.mem_of_getElem? (i := 228) (by decide +kernel)) (by decide +kernel), by decide +kernel, by decide +kernel⟩
theorem lk_Law_145 : cV "ClearingWavesLaw" 145 247 2 11 (some .int) := ⟨mv247, mt6 (List.mem_of_getElem? (i := 205) (by decide +kernel)) (by decide +kernel), by decide +kernel, by decide +kernel⟩
theorem lk_Law_146 : cV "ClearingWavesLaw" 146 111 2 10 (some .int) := ⟨mv111, mt4 (List.mem_of_getElem? (i := 5) (by decide +kernel)) (by decide +kernel), by decide +kernel, by decide +kernel⟩
theorem lk_Law_149 : cV "ClearingWavesLaw" 149 250 2 11 (some .int) := ⟨mv250, mt6 (List.mem_of_getElem? (i := 217) (by decide +kernel)) (by decide +kernel), by decide +kernel, by decide +kernel⟩
theorem lk_Law_150 : cV "ClearingWavesLaw" 150 112 2 10 (some .int) := ⟨mv112, mt4 (List.mem_of_getElem? (i := 9) (by decide +kernel)) (by decide +kernel), by decide +kernel, by decide +kernel⟩
theorem lk_Law_153 : cV "ClearingWavesLaw" 153 251 2 11 (some .int) := ⟨mv251, mt6 (List.mem_of_getElem? (i := 221) (by decide +kernel)) (by decide +kernel), by decide +kernel, by decide +kernel⟩
theorem lk_Law_154 : cV "ClearingWavesLaw" 154 116 2 10 (some .int) := ⟨mv116, mt4 (List.mem_of_getElem? (i := 24) (by decide +kernel)) (by decide +kernel), by decide +kernel, by decide +kernel⟩
theorem lk_Law_157 : cV "ClearingWavesLaw" 157 257 2 11 (some .int) := ⟨mv257, mt7 (List.mem_of_getElem? (i := 3) (by decide +kernel)) (by decide +kernel), by decide +kernel, by decide +kernel⟩
theorem lk_Law_158 : cV "ClearingWavesLaw" 158 118 1 10 (some .int) := ⟨mv118, mt4 (List.mem_of_getElem? (i := 32) (by decide +kernel)) (by decide +kernel), by decide +kernel, by decide +kernel⟩
theorem lk_Law_161 : cV "ClearingWavesLaw" 161 258 1 11 (some .int) := ⟨mv258, mt7 (List.mem_of_getElem? (i := 7) (by decide +kernel)) (by decide +kernel), by decide +kernel, by decide +kernel⟩
theorem lk_Law_162 : cV "ClearingWavesLaw" 162 119 0 10 (some .int) := ⟨mv119, mt4 (List.mem_of_getElem? (i := 36) (by decide +kernel)) (by decide +kernel), by decide +kernel, by decide +kernel⟩
theorem lk_Law_165 : cV "ClearingWavesLaw" 165 259 0 11 (some .int) := ⟨mv259, mt7 (List.mem_of_getElem? (i := 11) (by decide +kernel)) (by decide +kernel), by decide +kernel, by decide +kernel⟩
theorem lk_Law_166 : cV "ClearingWavesLaw" 166 120 5 10 (some .int) := ⟨mv120, mt4 (List.mem_of_getElem? (i := 40) (by decide +kernel)) (by decide +kernel), by decide +kernel, by decide +kernel⟩
theorem lk_Law_169 : cV "ClearingWavesLaw" 169 260 5 11 (some .int) := ⟨mv260, mt7 (List.mem_of_getElem? (i := 15) (by decide +kernel)) (by decide +kernel), by decide +kernel, by decide +kernel⟩
theorem lk_Law_170 : cV "ClearingWavesLaw" 170 125 2 10 (some .int) := ⟨mv125, mt4 (List.mem_of_getElem? (i := 61) (by decide +kernel)) (by decide +kernel), by decide +kernel, by decide +kernel⟩
theorem lk_Law_173 : cV "ClearingWavesLaw" 173 263 2 11 (some .int) := ⟨mv263, mt7 (List.mem_of_getElem? (i := 29) (by decide +kernel)) (by decide +kernel), by decide +kernel, by decide +kernel⟩
theorem lk_Law_174 : cV "ClearingWavesLaw" 174 129 1 10 (some .int) := ⟨mv129, mt4 (List.mem_of_getElem? (i := 77) (by decide +kernel)) (by decide +kernel), by decide +kernel, by decide +kernel⟩
theorem lk_Law_177 : cV "ClearingWavesLaw" 177 267 1 11 (some .int) := ⟨mv267, mt7 (List.mem_of_getElem? (i := 45) (by decide +kernel)) (by decide +kernel), by decide +kernel, by decide +kernel⟩
theorem lk_Law_180 : cV "ClearingWavesLaw" 180 132 4 10 (some .long) := ⟨mv132, mt4 (List.mem_of_getElem? (i := 92) (by decide +kernel)) (by decide +kernel), by decide +kernel, by decide +kernel⟩
theorem lk_Law_184 : cV "ClearingWavesLaw" 184 268 4 11 (some .long) := ⟨mv268, mt7 (List.mem_of_getElem? (i := 49) (by decide +kernel)) (by decide +kernel), by decide +kernel, by decide +kernel⟩
theorem lk_Law_185 : cV "ClearingWavesLaw" 185 134 3 10 (some .long) := ⟨mv134, mt4 (List.mem_of_getElem? (i := 102) (by decide +kernel)) (by decide +kernel), by decide +kernel, by decide +kernel⟩
theorem lk_Law_188 : cV "ClearingWavesLaw" 188 271 3 11 (some .long) := ⟨mv271, mt7 (List.mem_of_getElem? (i := 62) (by decide +kernel)) (by decide +kernel), by decide +kernel, by decide +kernel⟩
theorem lk_Law_189 : cV "ClearingWavesLaw" 189 135 2 10 (some .long) := ⟨mv135, mt4 (List.mem_of_getElem? (i := 106) (by decide +kernel)) (by decide +kernel), by decide +kernel, by decide +kernel⟩
theorem lk_Law_192 : cV "ClearingWavesLaw" 192 272 2 11 (some .long) := ⟨mv272, mt7 (List.mem_of_getElem? (i := 66) (by decide +kernel)) (by decide +kernel), by decide +kernel, by decide +kernel⟩
theorem lk_Law_193 : cV "ClearingWavesLaw" 193 140 1 10 (some .int) := ⟨mv140, mt4 (List.mem_of_getElem? (i := 130) (by decide +kernel)) (by decide +kernel), by decide +kernel, by decide +kernel⟩
theorem lk_Law_196 : cV "ClearingWavesLaw" 196 276 1 11 (some .int) := ⟨mv276, mt7 (List.mem_of_getElem? (i := 83) (by decide +kernel)) (by decide +kernel), by decide +kernel, by decide +kernel⟩
theorem lk_Law_197 : cV "ClearingWavesLaw" 197 142 0 10 (some .int) := ⟨mv142, mt4 (List.mem_of_getElem? (i := 139) (by decide +kernel)) (by decide +kernel), by decide +kernel, by decide +kernel⟩
theorem lk_Law_200 : cV "ClearingWavesLaw" 200 278 0 11 (some .int) := ⟨mv278, mt7 (List.mem_of_getElem? (i := 91) (by decide +kernel)) (by decide +kernel), by decide +kernel, by decide +kernel⟩
theorem lk_Law_201 : cV "ClearingWavesLaw" 201 143 0 10 (some .int) := ⟨mv143, mt4 (List.mem_of_getElem? (i := 143) (by decide +kernel)) (by decide +kernel), by decide +kernel, by decide +kernel⟩
theorem lk_Law_204 : cV "ClearingWavesLaw" 204 279 0 11 (some .int) := ⟨mv279, mt7 (List.mem_of_getElem? (i := 95) (by decide +kernel)) (by decide +kernel), by decide +kernel, by decide +kernel⟩
theorem lk_Law_205 : cV "ClearingWavesLaw" 205 147 1 10 (some .int) := ⟨mv147, mt4 (List.mem_of_getElem? (i := 163) (by decide +kernel)) (by decide +kernel), by decide +kernel, by decide +kernel⟩
theorem lk_Law_208 : cV "ClearingWavesLaw" 208 284 1 11 (some .int) := ⟨mv284, mt7 (List.mem_of_getElem? (i := 116) (by decide +kernel)) (by decide +kernel), by decide +kernel, by decide +kernel⟩
theorem lk_Law_209 : cV "ClearingWavesLaw" 209 148 1 10 (some .int) := ⟨mv148, mt4 (List.mem_of_getElem? (i := 167) (by decide +kernel)) (by decide +kernel), by decide +kernel, by decide +kernel⟩
theorem lk_Law_212 : cV "ClearingWavesLaw" 212 285 1 11 (some .int) := ⟨mv285, mt7 (List.mem_of_getElem? (i := 120) (by decide +kernel)) (by decide +kernel), by decide +kernel, by decide +kernel⟩
theorem lk_Law_213 : cV "ClearingWavesLaw" 213 153 2 10 (some .int) := ⟨mv153, mt4 (List.mem_of_getElem? (i := 189) (by decide +kernel)) (by decide +kernel), by decide +kernel, by decide +kernel⟩
theorem lk_Law_216 : cV "ClearingWavesLaw" 216 288 2 11 (some .int) := ⟨mv288, mt7 (List.mem_of_getElem? (i := 134) (by decide +kernel)) (by decide +kernel), by decide +kernel, by decide +kernel⟩
theorem lk_Law_217 : cV "ClearingWavesLaw" 217 155 3 10 (some .int) := ⟨mv155, mt4 (List.mem_of_getElem? (i := 197) (by decide +kernel)) (by decide +kernel), by decide +kernel, by decide +kernel⟩
theorem lk_Law_221 : cV "ClearingWavesLaw" 221 289 3 11 (some .int) := ⟨mv289, mt7 (List.mem_of_getElem? (i := 138) (by decide +kernel)) (by decide +kernel), by decide +kernel, by decide +kernel⟩
theorem lk_Law_222 : cV "ClearingWavesLaw" 222 156 2 10 (some .long) := ⟨mv156, mt4 (List.mem_of_getElem? (i := 201) (by decide +kernel)) (by decide +kernel), by decide +kernel, by decide +kernel⟩
theorem lk_Law_225 : cV "ClearingWavesLaw" 225 290 2 11 (some .long) := ⟨mv290, mt7 (List.mem_of_getElem? (i := 142) (by decide +kernel)) (by decide +kernel), by decide +kernel, by decide +kernel⟩
theorem lk_Law_226 : cV "ClearingWavesLaw" 226 158 2 10 (some .int) := ⟨mv158, mt4 (List.mem_of_getElem? (i := 210) (by decide +kernel)) (by decide +kernel), by decide +kernel, by decide +kernel⟩
theorem lk_Law_229 : cV "ClearingWavesLaw" 229 291 2 11 (some .int) := ⟨mv291, mt7 (List.mem_of_getElem? (i := 146) (by decide +kernel)) (by decide +kernel), by decide +kernel, by decide +kernel⟩
theorem lk_Law_230 : cV "ClearingWavesLaw" 230 159 2 10 (some .int) := ⟨mv159, mt4 (List.mem_of_getElem? (i := 214) (by decide +kernel)) (by decide +kernel), by decide +kernel, by decide +kernel⟩
theorem lk_Law_233 : cV "ClearingWavesLaw" 233 292 2 11 (some .int) := ⟨mv292, mt7 (List.mem_of_getElem? (i := 150) (by decide +kernel)) (by decide +kernel), by decide +kernel, by decide +kernel⟩
theorem lk_Law_234 : cV "ClearingWavesLaw" 234 167 0 10 (some .int) := ⟨mv167, mt5 (List.mem_of_getElem? (i := 11) (by decide +kernel)) (by decide +kernel), by decide +kernel, by decide +kernel⟩
theorem lk_Law_237 : cV "ClearingWavesLaw" 237 295 0 11 (some .int) := ⟨mv295, mt7 (List.mem_of_getElem? (i := 164) (by decide +kernel)) (by decide +kernel), by decide +kernel, by decide +kernel⟩
theorem lk_Law_238 : cV "ClearingWavesLaw" 238 169 0 10 (some .int) := ⟨mv169, mt5 (List.mem_of_getElem? (i := 20) (by decide +kernel)) (by decide +kernel), by decide +kernel, by decide +kernel⟩
theorem lk_Law_241 : cV "ClearingWavesLaw" 241 296 0 11 (some .int) := ⟨mv296, mt7 (List.mem_of_getElem? (i := 168) (by decide +kernel)) (by decide +kernel), by decide +kernel, by decide +kernel⟩
theorem lk_Model_9 : cS "ClearingWavesModel" 9 174 3 (some .boolean) := ⟨mv174, mt5 (List.mem_of_getElem? (i := 151) (by decide +kernel)) (by decide +kernel), by decide +kernel⟩
theorem lk_Model_13 : cV "ClearingWavesModel" 13 176 1 11 (some .boolean) := ⟨mv176, mt5 (List.mem_of_getElem? (i := 158) (by decide +kernel)) (by decide +kernel), by decide +kernel, by decide +kernel⟩
theorem lo_Model_19 : Cond.methodLink "ClearingWavesModel" 19 Lib.objectInit ∈ lw_g := mt5 (List.mem_of_getElem? (i := 29) (by decide +kernel)) (by decide +kernel)
theorem lk_Model_86 : cV "ClearingWavesModel" 86 171 1 11 none := ⟨mv171, mt5 (List.mem_of_getElem? (i := 30) (by decide +kernel)) (by decide +kernel), by decide +kernel, by decide +kernel⟩
theorem lk_Model_92 : cV "ClearingWavesModel" 92 172 0 11 none := ⟨mv172, mt5 (List.mem_of_getElem? (i := 35) (by decide +kernel)) (by decide +kernel), by decide +kernel, by decide +kernel⟩
theorem lk_Model_99 : cS "ClearingWavesModel" 99 181 3 (some .int) := ⟨mv181, mt5 (List.mem_of_getElem? (i := 179) (by decide +kernel)) (by decide +kernel), by decide +kernel⟩
theorem lk_Model_103 : cV "ClearingWavesModel" 103 183 3 11 (some .int) := ⟨mv183, mt5 (List.mem_of_getElem? (i := 186) (by decide +kernel)) (by decide +kernel), by decide +kernel, by decide +kernel⟩
theorem lk_Model_106 : cV "ClearingWavesModel" 106 204 2 11 (some .int) := ⟨mv204, mt6 (List.mem_of_getElem? (i := 33) (by decide +kernel)) (by decide +kernel), by decide +kernel, by decide +kernel⟩
theorem lk_Model_114 : cV "ClearingWavesModel" 114 177 2 11 (some .int) := ⟨mv177, mt5 (List.mem_of_getElem? (i := 163) (by decide +kernel)) (by decide +kernel), by decide +kernel, by decide +kernel⟩
theorem lk_Model_117 : cV "ClearingWavesModel" 117 179 2 11 (some .boolean) := ⟨mv179, mt5 (List.mem_of_getElem? (i := 171) (by decide +kernel)) (by decide +kernel), by decide +kernel, by decide +kernel⟩
theorem lk_Model_121 : cS "ClearingWavesModel" 121 180 1 (some .boolean) := ⟨mv180, mt5 (List.mem_of_getElem? (i := 175) (by decide +kernel)) (by decide +kernel), by decide +kernel⟩
theorem lk_Model_135 : cV "ClearingWavesModel" 135 192 0 11 (some .int) := ⟨mv192, mt5 (List.mem_of_getElem? (i := 223) (by decide +kernel)) (by decide +kernel), by decide +kernel, by decide +kernel⟩
theorem lk_Model_143 : cV "ClearingWavesModel" 143 193 2 11 (some .int) := ⟨mv193, mt5 (List.mem_of_getElem? (i := 227) (by decide +kernel)) (by decide +kernel), by decide +kernel, by decide +kernel⟩
theorem lk_Model_146 : cS "ClearingWavesModel" 146 101 2 (some .int) := ⟨mv101, mt5 (List.mem_of_getElem? (i := 233) (by decide +kernel)) (by decide +kernel), by decide +kernel⟩
theorem lk_Model_151 : cV "ClearingWavesModel" 151 191 1 11 (some .int) := ⟨mv191, mt5 (List.mem_of_getElem? (i := 219) (by decide +kernel)) (by decide +kernel), by decide +kernel, by decide +kernel⟩
theorem lk_Model_155 : cV "ClearingWavesModel" 155 190 0 11 (some .int) := ⟨mv190, mt5 (List.mem_of_getElem? (i := 215) (by decide +kernel)) (by decide +kernel), by decide +kernel, by decide +kernel⟩
theorem lk_Model_161 : cS "ClearingWavesModel" 161 200 2 (some .boolean) := ⟨mv200, mt6 (List.mem_of_getElem? (i := 18) (by decide +kernel)) (by decide +kernel), by decide +kernel⟩
theorem lk_Model_164 : cV "ClearingWavesModel" 164 206 3 11 (some .long) := ⟨mv206, mt6 (List.mem_of_getElem? (i := 41) (by decide +kernel)) (by decide +kernel), by decide +kernel, by decide +kernel⟩
theorem lk_Model_168 : cV "ClearingWavesModel" 168 203 1 11 (some .long) := ⟨mv203, mt6 (List.mem_of_getElem? (i := 29) (by decide +kernel)) (by decide +kernel), by decide +kernel, by decide +kernel⟩
theorem lk_Model_179 : cV "ClearingWavesModel" 179 201 1 11 (some .boolean) := ⟨mv201, mt6 (List.mem_of_getElem? (i := 21) (by decide +kernel)) (by decide +kernel), by decide +kernel, by decide +kernel⟩
theorem lk_Model_182 : cV "ClearingWavesModel" 182 202 1 11 (some .long) := ⟨mv202, mt6 (List.mem_of_getElem? (i := 25) (by decide +kernel)) (by decide +kernel), by decide +kernel, by decide +kernel⟩
theorem lk_Model_185 : cV "ClearingWavesModel" 185 205 0 11 none := ⟨mv205, mt6 (List.mem_of_getElem? (i := 37) (by decide +kernel)) (by decide +kernel), by decide +kernel, by decide +kernel⟩
theorem lk_Model_188 : cV "ClearingWavesModel" 188 199 0 11 none := ⟨mv199, mt6 (List.mem_of_getElem? (i := 14) (by decide +kernel)) (by decide +kernel), by decide +kernel, by decide +kernel⟩
theorem lk_Model_191 : cV "ClearingWavesModel" 191 207 0 11 (some .boolean) := ⟨mv207, mt6 (List.mem_of_getElem? (i := 45) (by decide +kernel)) (by decide +kernel), by decide +kernel, by decide +kernel⟩
theorem lk_Model_195 : cS "ClearingWavesModel" 195 208 2 (some .long) := ⟨mv208, mt6 (List.mem_of_getElem? (i := 49) (by decide +kernel)) (by decide +kernel), by decide +kernel⟩
theorem lk_Model_199 : cV "ClearingWavesModel" 199 212 3 11 (some .long) := ⟨mv212, mt6 (List.mem_of_getElem? (i := 64) (by decide +kernel)) (by decide +kernel), by decide +kernel, by decide +kernel⟩
theorem lk_Model_202 : cV "ClearingWavesModel" 202 211 2 11 (some .long) := ⟨mv211, mt6 (List.mem_of_getElem? (i := 60) (by decide +kernel)) (by decide +kernel), by decide +kernel, by decide +kernel⟩
theorem lk_Model_209 : cV "ClearingWavesModel" 209 198 1 11 none := ⟨mv198, mt6 (List.mem_of_getElem? (i := 10) (by decide +kernel)) (by decide +kernel), by decide +kernel, by decide +kernel⟩
theorem lk_Model_212 : cV "ClearingWavesModel" 212 209 0 11 (some .int) := ⟨mv209, mt6 (List.mem_of_getElem? (i := 52) (by decide +kernel)) (by decide +kernel), by decide +kernel, by decide +kernel⟩
theorem lk_Model_215 : cV "ClearingWavesModel" 215 210 2 11 (some .long) := ⟨mv210, mt6 (List.mem_of_getElem? (i := 56) (by decide +kernel)) (by decide +kernel), by decide +kernel, by decide +kernel⟩
theorem lk_Model_218 : cV "ClearingWavesModel" 218 213 1 11 (some .int) := ⟨mv213, mt6 (List.mem_of_getElem? (i := 68) (by decide +kernel)) (by decide +kernel), by decide +kernel, by decide +kernel⟩
theorem lk_Model_221 : cV "ClearingWavesModel" 221 196 0 11 none := ⟨mv196, mt6 (List.mem_of_getElem? (i := 2) (by decide +kernel)) (by decide +kernel), by decide +kernel, by decide +kernel⟩
theorem lk_Model_224 : cV "ClearingWavesModel" 224 197 0 11 none := ⟨mv197, mt6 (List.mem_of_getElem? (i := 6) (by decide +kernel)) (by decide +kernel), by decide +kernel, by decide +kernel⟩
theorem lk_Model_227 : cS "ClearingWavesModel" 227 51 2 (some .int) := ⟨mv51, mt6 (List.mem_of_getElem? (i := 216) (by decide +kernel)) (by decide +kernel), by decide +kernel⟩
theorem lk_Model_230 : cV "ClearingWavesModel" 230 195 0 11 none := ⟨mv195, mt5 (List.mem_of_getElem? (i := 238) (by decide +kernel)) (by decide +kernel), by decide +kernel, by decide +kernel⟩
theorem lk_Model_233 : cV "ClearingWavesModel" 233 217 4 11 (some .long) := ⟨mv217, mt6 (List.mem_of_getElem? (i := 84) (by decide +kernel)) (by decide +kernel), by decide +kernel, by decide +kernel⟩
theorem lk_Model_237 : cS "ClearingWavesModel" 237 218 1 (some .boolean) := ⟨mv218, mt6 (List.mem_of_getElem? (i := 88) (by decide +kernel)) (by decide +kernel), by decide +kernel⟩
theorem lk_Model_242 : cS "ClearingWavesModel" 242 219 3 (some .long) := ⟨mv219, mt6 (List.mem_of_getElem? (i := 92) (by decide +kernel)) (by decide +kernel), by decide +kernel⟩
theorem lk_Model_246 : cV "ClearingWavesModel" 246 224 1 11 (some .long) := ⟨mv224, mt6 (List.mem_of_getElem? (i := 112) (by decide +kernel)) (by decide +kernel), by decide +kernel, by decide +kernel⟩
theorem lk_Model_249 : cV "ClearingWavesModel" 249 226 1 11 (some .long) := ⟨mv226, mt6 (List.mem_of_getElem? (i := 120) (by decide +kernel)) (by decide +kernel), by decide +kernel, by decide +kernel⟩
theorem lk_Model_252 : cV "ClearingWavesModel" 252 228 3 11 (some .long) := ⟨mv228, mt6 (List.mem_of_getElem? (i := 128) (by decide +kernel)) (by decide +kernel), by decide +kernel, by decide +kernel⟩
theorem lk_Model_255 : cV "ClearingWavesModel" 255 230 0 11 (some .long) := ⟨mv230, mt6 (List.mem_of_getElem? (i := 136) (by decide +kernel)) (by decide +kernel), by decide +kernel, by decide +kernel⟩
theorem lk_Model_259 : cV "ClearingWavesModel" 259 232 1 11 (some .int) := ⟨mv232, mt6 (List.mem_of_getElem? (i := 144) (by decide +kernel)) (by decide +kernel), by decide +kernel, by decide +kernel⟩
theorem lk_Model_262 : cV "ClearingWavesModel" 262 233 1 11 (some .int) := ⟨mv233, mt6 (List.mem_of_getElem? (i := 148) (by decide +kernel)) (by decide +kernel), by decide +kernel, by decide +kernel⟩
theorem lk_Model_267 : cV "ClearingWavesModel" 267 236 1 11 (some .int) := ⟨mv236, mt6 (List.mem_of_getElem? (i := 161) (by decide +kernel)) (by decide +kernel), by decide +kernel, by decide +kernel⟩
theorem lk_Model_270 : cS "ClearingWavesModel" 270 242 3 (some .int) := ⟨mv242, mt6 (List.mem_of_getElem? (i := 186) (by decide +kernel)) (by decide +kernel), by decide +kernel⟩
theorem lk_Model_273 : cV "ClearingWavesModel" 273 241 2 11 (some .int) := ⟨mv241, mt6 (List.mem_of_getElem? (i := 182) (by decide +kernel)) (by decide +kernel), by decide +kernel, by decide +kernel⟩
theorem lk_Model_277 : cV "ClearingWavesModel" 277 243 2 11 (some .int) := ⟨mv243, mt6 (List.mem_of_getElem? (i := 189) (by decide +kernel)) (by decide +kernel), by decide +kernel, by decide +kernel⟩
theorem la_Model_283 : Cond.methodLink "ClearingWavesModel" 283 arraycopyName ∈ lw_g := mt6 (List.mem_of_getElem? (i := 177) (by decide +kernel)) (by decide +kernel)
theorem lk_Model_289 : cV "ClearingWavesModel" 289 240 1 11 none := ⟨mv240, mt6 (List.mem_of_getElem? (i := 178) (by decide +kernel)) (by decide +kernel), by decide +kernel, by decide +kernel⟩
theorem lk_Model_292 : cV "ClearingWavesModel" 292 239 0 11 (some .int) := ⟨mv239, mt6 (List.mem_of_getElem? (i := 173) (by decide +kernel)) (by decide +kernel), by decide +kernel, by decide +kernel⟩
theorem lk_Model_295 : cS "ClearingWavesModel" 295 248 1 (some .boolean) := ⟨mv248, mt6 (List.mem_of_getElem? (i := 209) (by decide +kernel)) (by decide +kernel), by decide +kernel⟩
theorem lk_Model_298 : cV "ClearingWavesModel" 298 249 2 11 (some .int) := ⟨mv249, mt6 (List.mem_of_getElem? (i := 212) (by decide +kernel)) (by decide +kernel), by decide +kernel, by decide +kernel⟩
theorem lk_Model_301 : cV "ClearingWavesModel" 301 254 2 11 none := ⟨mv254, mt6 (List.mem_of_getElem? (i := 233) (by decide +kernel)) (by decide +kernel), by decide +kernel, by decide +kernel⟩
theorem lk_Model_305 : cS "ClearingWavesModel" 305 255 1 (some .int) := ⟨mv255, mt6 (List.mem_of_getElem? (i := 237) (by decide +kernel)) (by decide +kernel), by decide +kernel⟩
theorem lk_Model_308 : cS "ClearingWavesModel" 308 256 4 (some .int) := ⟨mv256, mt7 (List.mem_of_getElem? (i := 0) (by decide +kernel)) (by decide +kernel), by decide +kernel⟩
theorem lk_Model_312 : cV "ClearingWavesModel" 312 252 0 11 none := ⟨mv252, mt6 (List.mem_of_getElem? (i := 225) (by decide +kernel)) (by decide +kernel), by decide +kernel, by decide +kernel⟩
theorem lk_Model_315 : cV "ClearingWavesModel" 315 253 2 11 (some .int) := ⟨mv253, mt6 (List.mem_of_getElem? (i := 229) (by decide +kernel)) (by decide +kernel), by decide +kernel, by decide +kernel⟩
theorem lk_Model_318 : cS "ClearingWavesModel" 318 261 1 (some .boolean) := ⟨mv261, mt7 (List.mem_of_getElem? (i := 19) (by decide +kernel)) (by decide +kernel), by decide +kernel⟩
theorem lk_Model_325 : cV "ClearingWavesModel" 325 262 3 11 (some .boolean) := ⟨mv262, mt7 (List.mem_of_getElem? (i := 25) (by decide +kernel)) (by decide +kernel), by decide +kernel, by decide +kernel⟩
theorem lk_Model_332 : cV "ClearingWavesModel" 332 266 1 11 (some .boolean) := ⟨mv266, mt7 (List.mem_of_getElem? (i := 41) (by decide +kernel)) (by decide +kernel), by decide +kernel, by decide +kernel⟩
theorem lk_Model_335 : cV "ClearingWavesModel" 335 265 1 11 (some .boolean) := ⟨mv265, mt7 (List.mem_of_getElem? (i := 37) (by decide +kernel)) (by decide +kernel), by decide +kernel, by decide +kernel⟩
theorem lk_Model_338 : cV "ClearingWavesModel" 338 264 1 11 (some .boolean) := ⟨mv264, mt7 (List.mem_of_getElem? (i := 33) (by decide +kernel)) (by decide +kernel), by decide +kernel, by decide +kernel⟩
theorem lk_Model_341 : cS "ClearingWavesModel" 341 269 1 (some .boolean) := ⟨mv269, mt7 (List.mem_of_getElem? (i := 53) (by decide +kernel)) (by decide +kernel), by decide +kernel⟩
theorem lk_Model_350 : cS "ClearingWavesModel" 350 270 3 (some .int) := ⟨mv270, mt7 (List.mem_of_getElem? (i := 59) (by decide +kernel)) (by decide +kernel), by decide +kernel⟩
theorem lk_Model_364 : cV "ClearingWavesModel" 364 274 2 11 none := ⟨mv274, mt7 (List.mem_of_getElem? (i := 74) (by decide +kernel)) (by decide +kernel), by decide +kernel, by decide +kernel⟩
theorem lk_Model_368 : cV "ClearingWavesModel" 368 275 2 11 (some .long) := ⟨mv275, mt7 (List.mem_of_getElem? (i := 78) (by decide +kernel)) (by decide +kernel), by decide +kernel, by decide +kernel⟩
theorem lk_Model_371 : cV "ClearingWavesModel" 371 273 1 11 none := ⟨mv273, mt7 (List.mem_of_getElem? (i := 70) (by decide +kernel)) (by decide +kernel), by decide +kernel, by decide +kernel⟩
theorem lk_Model_374 : cV "ClearingWavesModel" 374 277 1 11 (some .boolean) := ⟨mv277, mt7 (List.mem_of_getElem? (i := 87) (by decide +kernel)) (by decide +kernel), by decide +kernel, by decide +kernel⟩
theorem lk_Model_382 : cV "ClearingWavesModel" 382 283 1 11 none := ⟨mv283, mt7 (List.mem_of_getElem? (i := 111) (by decide +kernel)) (by decide +kernel), by decide +kernel, by decide +kernel⟩
theorem lk_Model_386 : cV "ClearingWavesModel" 386 281 1 11 none := ⟨mv281, mt7 (List.mem_of_getElem? (i := 103) (by decide +kernel)) (by decide +kernel), by decide +kernel, by decide +kernel⟩
theorem lk_Model_389 : cV "ClearingWavesModel" 389 280 1 11 none := ⟨mv280, mt7 (List.mem_of_getElem? (i := 99) (by decide +kernel)) (by decide +kernel), by decide +kernel, by decide +kernel⟩
theorem lk_Model_392 : cV "ClearingWavesModel" 392 282 1 11 (some .long) := ⟨mv282, mt7 (List.mem_of_getElem? (i := 107) (by decide +kernel)) (by decide +kernel), by decide +kernel, by decide +kernel⟩
theorem lk_Model_399 : cV "ClearingWavesModel" 399 286 0 11 (some .int) := ⟨mv286, mt7 (List.mem_of_getElem? (i := 126) (by decide +kernel)) (by decide +kernel), by decide +kernel, by decide +kernel⟩
theorem lk_Model_402 : cV "ClearingWavesModel" 402 287 1 11 (some .int) := ⟨mv287, mt7 (List.mem_of_getElem? (i := 130) (by decide +kernel)) (by decide +kernel), by decide +kernel, by decide +kernel⟩
theorem lk_Model_408 : cS "ClearingWavesModel" 408 166 2 (some .long) := ⟨mv166, mt7 (List.mem_of_getElem? (i := 159) (by decide +kernel)) (by decide +kernel), by decide +kernel⟩
theorem lk_Model_412 : cV "ClearingWavesModel" 412 293 2 11 (some .boolean) := ⟨mv293, mt7 (List.mem_of_getElem? (i := 155) (by decide +kernel)) (by decide +kernel), by decide +kernel, by decide +kernel⟩
theorem lk_Model_415 : cV "ClearingWavesModel" 415 294 1 11 (some .boolean) := ⟨mv294, mt7 (List.mem_of_getElem? (i := 160) (by decide +kernel)) (by decide +kernel), by decide +kernel, by decide +kernel⟩
theorem lk_ClearingWaves_61 : cI "ClearingWaves" 61 11 0 := ⟨mv11, Or.inr ⟨"ClearingWaves", by decide +kernel⟩⟩
theorem lk_ClearingWaves_68 : cI "ClearingWaves" 68 12 0 := ⟨mv12, Or.inr ⟨"ClearingWaves", by decide +kernel⟩⟩
theorem lk_ClearingWaves_75 : cI "ClearingWaves" 75 13 0 := ⟨mv13, Or.inr ⟨"ClearingWaves", by decide +kernel⟩⟩
theorem lk_ClearingWaves_82 : cI "ClearingWaves" 82 14 0 := ⟨mv14, Or.inr ⟨"ClearingWaves", by decide +kernel⟩⟩
theorem lk_ClearingWaves_89 : cI "ClearingWaves" 89 15 0 := ⟨mv15, Or.inr ⟨"ClearingWaves", by decide +kernel⟩⟩
theorem lk_Clearing_43 : cI "ClearingWaves$Clearing" 43 4 0 := ⟨mv4, Or.inr ⟨"ClearingWaves", by decide +kernel⟩⟩
theorem kl_ClearingWaves_169 : Cond.constantLong "ClearingWaves" 169 (Int64.ofInt (-9223372036854775808)) ∈ lw_g := mt3 (List.mem_of_getElem? (i := 70) (by decide +kernel)) (by decide +kernel)
theorem kl_ClearingWaves_198 : Cond.constantLong "ClearingWaves" 198 (Int64.ofInt (10)) ∈ lw_g := mt3 (List.mem_of_getElem? (i := 115) (by decide +kernel)) (by decide +kernel)
theorem kl_ClearingWaves_279 : Cond.constantLong "ClearingWaves" 279 (Int64.ofInt (-1)) ∈ lw_g := mt4 (List.mem_of_getElem? (i := 96) (by decide +kernel)) (by decide +kernel)
theorem kl_ClearingWaves_281 : Cond.constantLong "ClearingWaves" 281 (Int64.ofInt (1000000000000)) ∈ lw_g := mt4 (List.mem_of_getElem? (i := 97) (by decide +kernel)) (by decide +kernel)
theorem kl_ClearingWaves_283 : Cond.constantLong "ClearingWaves" 283 (Int64.ofInt (-2)) ∈ lw_g := mt4 (List.mem_of_getElem? (i := 98) (by decide +kernel)) (by decide +kernel)
theorem kl_Clearing_107 : Cond.constantLong "ClearingWaves$Clearing" 107 (Int64.ofInt (10)) ∈ lw_g := mt2 (List.mem_of_getElem? (i := 212) (by decide +kernel)) (by decide +kernel)
theorem kl_Clearing_179 : Cond.constantLong "ClearingWaves$Clearing" 179 (Int64.ofInt (-1)) ∈ lw_g := mt3 (List.mem_of_getElem? (i := 149) (by decide +kernel)) (by decide +kernel)
theorem kl_Paper_17 : Cond.constantLong "ClearingWaves$Paper" 17 (Int64.ofInt (10)) ∈ lw_g := mt4 (List.mem_of_getElem? (i := 159) (by decide +kernel)) (by decide +kernel)
theorem kl_Paper_19 : Cond.constantLong "ClearingWaves$Paper" 19 (Int64.ofInt (48)) ∈ lw_g := mt4 (List.mem_of_getElem? (i := 160) (by decide +kernel)) (by decide +kernel)
theorem kl_Ratio_17 : Cond.constantLong "ClearingWaves$Ratio" 17 (Int64.ofInt (-9223372036854775808)) ∈ lw_g := mt3 (List.mem_of_getElem? (i := 82) (by decide +kernel)) (by decide +kernel)
theorem kl_Told_19 : Cond.constantLong "ClearingWaves$Told" 19 (Int64.ofInt (1000000000000000)) ∈ lw_g := mt4 (List.mem_of_getElem? (i := 226) (by decide +kernel)) (by decide +kernel)
theorem kl_Worth_60 : Cond.constantLong "ClearingWaves$Worth" 60 (Int64.ofInt (-1)) ∈ lw_g := mt4 (List.mem_of_getElem? (i := 126) (by decide +kernel)) (by decide +kernel)
theorem kl_Worth_62 : Cond.constantLong "ClearingWaves$Worth" 62 (Int64.ofInt (9223372036854775807)) ∈ lw_g := mt4 (List.mem_of_getElem? (i := 125) (by decide +kernel)) (by decide +kernel)
theorem kl_Law_178 : Cond.constantLong "ClearingWavesLaw" 178 (Int64.ofInt (4294967295)) ∈ lw_g := mt7 (List.mem_of_getElem? (i := 172) (by decide +kernel)) (by decide +kernel)
theorem kl_Model_17 : Cond.constantLong "ClearingWavesModel" 17 (Int64.ofInt (2)) ∈ lw_g := mt5 (List.mem_of_getElem? (i := 149) (by decide +kernel)) (by decide +kernel)
theorem kl_Model_90 : Cond.constantLong "ClearingWavesModel" 90 (Int64.ofInt (10)) ∈ lw_g := mt5 (List.mem_of_getElem? (i := 34) (by decide +kernel)) (by decide +kernel)
theorem kl_Model_110 : Cond.constantLong "ClearingWavesModel" 110 (Int64.ofInt (5)) ∈ lw_g := mt5 (List.mem_of_getElem? (i := 150) (by decide +kernel)) (by decide +kernel)
theorem kl_Model_112 : Cond.constantLong "ClearingWavesModel" 112 (Int64.ofInt (200)) ∈ lw_g := mt5 (List.mem_of_getElem? (i := 162) (by decide +kernel)) (by decide +kernel)
theorem kl_Model_124 : Cond.constantLong "ClearingWavesModel" 124 (Int64.ofInt (20)) ∈ lw_g := mt5 (List.mem_of_getElem? (i := 178) (by decide +kernel)) (by decide +kernel)
theorem kl_Model_126 : Cond.constantLong "ClearingWavesModel" 126 (Int64.ofInt (127)) ∈ lw_g := mt5 (List.mem_of_getElem? (i := 206) (by decide +kernel)) (by decide +kernel)
theorem kl_Model_139 : Cond.constantLong "ClearingWavesModel" 139 (Int64.ofInt (48)) ∈ lw_g := mt5 (List.mem_of_getElem? (i := 231) (by decide +kernel)) (by decide +kernel)
theorem kl_Model_141 : Cond.constantLong "ClearingWavesModel" 141 (Int64.ofInt (57)) ∈ lw_g := mt5 (List.mem_of_getElem? (i := 232) (by decide +kernel)) (by decide +kernel)
theorem kl_Model_240 : Cond.constantLong "ClearingWavesModel" 240 (Int64.ofInt (-9223372036854775808)) ∈ lw_g := mt6 (List.mem_of_getElem? (i := 91) (by decide +kernel)) (by decide +kernel)
theorem kl_Model_265 : Cond.constantLong "ClearingWavesModel" 265 (Int64.ofInt (4)) ∈ lw_g := mt6 (List.mem_of_getElem? (i := 156) (by decide +kernel)) (by decide +kernel)
theorem kl_Model_321 : Cond.constantLong "ClearingWavesModel" 321 (Int64.ofInt (30)) ∈ lw_g := mt7 (List.mem_of_getElem? (i := 23) (by decide +kernel)) (by decide +kernel)
theorem kl_Model_323 : Cond.constantLong "ClearingWavesModel" 323 (Int64.ofInt (6)) ∈ lw_g := mt7 (List.mem_of_getElem? (i := 24) (by decide +kernel)) (by decide +kernel)
theorem kl_Model_344 : Cond.constantLong "ClearingWavesModel" 344 (Int64.ofInt (-1)) ∈ lw_g := mt7 (List.mem_of_getElem? (i := 56) (by decide +kernel)) (by decide +kernel)
theorem kl_Model_346 : Cond.constantLong "ClearingWavesModel" 346 (Int64.ofInt (1000000000000)) ∈ lw_g := mt7 (List.mem_of_getElem? (i := 57) (by decide +kernel)) (by decide +kernel)
theorem kl_Model_348 : Cond.constantLong "ClearingWavesModel" 348 (Int64.ofInt (-2)) ∈ lw_g := mt7 (List.mem_of_getElem? (i := 58) (by decide +kernel)) (by decide +kernel)
theorem kl_Model_356 : Cond.constantLong "ClearingWavesModel" 356 (Int64.ofInt (9223372036854775807)) ∈ lw_g := mt7 (List.mem_of_getElem? (i := 82) (by decide +kernel)) (by decide +kernel)
theorem kl_Model_380 : Cond.constantLong "ClearingWavesModel" 380 (Int64.ofInt (9)) ∈ lw_g := mt7 (List.mem_of_getElem? (i := 115) (by decide +kernel)) (by decide +kernel)
theorem kl_Model_395 : Cond.constantLong "ClearingWavesModel" 395 (Int64.ofInt (14)) ∈ lw_g := mt7 (List.mem_of_getElem? (i := 124) (by decide +kernel)) (by decide +kernel)
theorem kl_Model_397 : Cond.constantLong "ClearingWavesModel" 397 (Int64.ofInt (34)) ∈ lw_g := mt7 (List.mem_of_getElem? (i := 125) (by decide +kernel)) (by decide +kernel)
theorem kl_Model_406 : Cond.constantLong "ClearingWavesModel" 406 (Int64.ofInt (3)) ∈ lw_g := mt7 (List.mem_of_getElem? (i := 22) (by decide +kernel)) (by decide +kernel)
theorem kl_Model_410 : Cond.constantLong "ClearingWavesModel" 410 (Int64.ofInt (1000000000000000)) ∈ lw_g := mt7 (List.mem_of_getElem? (i := 154) (by decide +kernel)) (by decide +kernel)
theorem kc_JInteger_265 : Cond.constant "java/lang/Integer" 265 (Int32.ofInt (1431655765)) ∈ lw_g := by decide +kernel
theorem kc_JInteger_266 : Cond.constant "java/lang/Integer" 266 (Int32.ofInt (858993459)) ∈ lw_g := by decide +kernel
theorem kc_JInteger_267 : Cond.constant "java/lang/Integer" 267 (Int32.ofInt (252645135)) ∈ lw_g := by decide +kernel
theorem kn_ClearingWaves_9 : Cond.classLink "ClearingWaves" 9 "ClearingWaves$Book" ∈ lw_g ∧ Cond.instantiable "ClearingWaves$Book" 6 ∈ lw_g ∧ Cond.initialized "ClearingWaves$Book" ∈ lw_g := ⟨by decide +kernel, by decide +kernel, by decide +kernel⟩
theorem kn_ClearingWaves_28 : Cond.classLink "ClearingWaves" 28 "ClearingWaves$Clearing" ∈ lw_g ∧ Cond.instantiable "ClearingWaves$Clearing" 15 ∈ lw_g ∧ Cond.initialized "ClearingWaves$Clearing" ∈ lw_g := ⟨by decide +kernel, by decide +kernel, by decide +kernel⟩
theorem kn_ClearingWaves_43 : Cond.classLink "ClearingWaves" 43 "ClearingWaves$Coins" ∈ lw_g ∧ Cond.instantiable "ClearingWaves$Coins" 4 ∈ lw_g ∧ Cond.initialized "ClearingWaves$Coins" ∈ lw_g := ⟨by decide +kernel, by decide +kernel, by decide +kernel⟩
theorem kn_ClearingWaves_52 : Cond.classLink "ClearingWaves" 52 "ClearingWaves$Rings" ∈ lw_g ∧ Cond.instantiable "ClearingWaves$Rings" 2 ∈ lw_g ∧ Cond.initialized "ClearingWaves$Rings" ∈ lw_g := ⟨by decide +kernel, by decide +kernel, by decide +kernel⟩
theorem kn_ClearingWaves_59 : Cond.classLink "ClearingWaves" 59 "ClearingWaves$Worth" ∈ lw_g ∧ Cond.instantiable "ClearingWaves$Worth" 2 ∈ lw_g ∧ Cond.initialized "ClearingWaves$Worth" ∈ lw_g := ⟨by decide +kernel, by decide +kernel, by decide +kernel⟩
theorem kn_ClearingWaves_66 : Cond.classLink "ClearingWaves" 66 "ClearingWaves$Told" ∈ lw_g ∧ Cond.instantiable "ClearingWaves$Told" 2 ∈ lw_g ∧ Cond.initialized "ClearingWaves$Told" ∈ lw_g := ⟨by decide +kernel, by decide +kernel, by decide +kernel⟩
theorem kn_ClearingWaves_73 : Cond.classLink "ClearingWaves" 73 "ClearingWaves$Tape" ∈ lw_g ∧ Cond.instantiable "ClearingWaves$Tape" 3 ∈ lw_g ∧ Cond.initialized "ClearingWaves$Tape" ∈ lw_g := ⟨by decide +kernel, by decide +kernel, by decide +kernel⟩
theorem kn_ClearingWaves_80 : Cond.classLink "ClearingWaves" 80 "ClearingWaves$Paper" ∈ lw_g ∧ Cond.instantiable "ClearingWaves$Paper" 2 ∈ lw_g ∧ Cond.initialized "ClearingWaves$Paper" ∈ lw_g := ⟨by decide +kernel, by decide +kernel, by decide +kernel⟩
theorem kn_ClearingWaves_87 : Cond.classLink "ClearingWaves" 87 "ClearingWaves$Rows" ∈ lw_g ∧ Cond.instantiable "ClearingWaves$Rows" 2 ∈ lw_g ∧ Cond.initialized "ClearingWaves$Rows" ∈ lw_g := ⟨by decide +kernel, by decide +kernel, by decide +kernel⟩
theorem kn_Clearing_41 : Cond.classLink "ClearingWaves$Clearing" 41 "ClearingWaves$Equations" ∈ lw_g ∧ Cond.instantiable "ClearingWaves$Equations" 2 ∈ lw_g ∧ Cond.initialized "ClearingWaves$Equations" ∈ lw_g := ⟨by decide +kernel, by decide +kernel, by decide +kernel⟩
theorem kn_Law_7 : Cond.classLink "ClearingWavesLaw" 7 "ClearingWaves" ∈ lw_g ∧ Cond.instantiable "ClearingWaves" 16 ∈ lw_g ∧ Cond.initialized "ClearingWaves" ∈ lw_g := ⟨by decide +kernel, by decide +kernel, by decide +kernel⟩
theorem kn_Law_10 : Cond.classLink "ClearingWavesLaw" 10 "ClearingWavesModel" ∈ lw_g ∧ Cond.instantiable "ClearingWavesModel" 35 ∈ lw_g ∧ Cond.initialized "ClearingWavesModel" ∈ lw_g := ⟨by decide +kernel, by decide +kernel, by decide +kernel⟩
theorem ka_int : Cond.arrayClass .int ∈ lw_g := by decide +kernel
theorem ka_long : Cond.arrayClass .long ∈ lw_g := by decide +kernel
theorem ka_boolean : Cond.arrayClass .boolean ∈ lw_g := by decide +kernel
theorem lm_ClearingWaves_371 : Cond.methodLink "ClearingWaves" 371 Lib.Math.max.name ∈ lw_g := mt4 (List.mem_of_getElem? (i := 4) (by decide +kernel)) (by decide +kernel)
theorem lm_Clearing_134 : Cond.methodLink "ClearingWaves$Clearing" 134 Lib.Math.max.name ∈ lw_g := mt2 (List.mem_of_getElem? (i := 230) (by decide +kernel)) (by decide +kernel)
theorem lm_Coins_77 : Cond.methodLink "ClearingWaves$Coins" 77 Lib.Math.min.name ∈ lw_g := mt3 (List.mem_of_getElem? (i := 204) (by decide +kernel)) (by decide +kernel)
theorem lm_Ratio_11 : Cond.methodLink "ClearingWaves$Ratio" 11 Lib.MathLoose.max_long.x ∈ lw_g := mt3 (List.mem_of_getElem? (i := 38) (by decide +kernel)) (by decide +kernel)
theorem lm_Rings_45 : Cond.methodLink "ClearingWaves$Rings" 45 Lib.Math.min.name ∈ lw_g := mt4 (List.mem_of_getElem? (i := 90) (by decide +kernel)) (by decide +kernel)
theorem lm_Told_66 : Cond.methodLink "ClearingWaves$Told" 66 Lib.MathLoose.min_long.x ∈ lw_g := mt5 (List.mem_of_getElem? (i := 8) (by decide +kernel)) (by decide +kernel)
theorem lm_Model_146 : Cond.methodLink "ClearingWavesModel" 146 Lib.Math.min.name ∈ lw_g := mt5 (List.mem_of_getElem? (i := 233) (by decide +kernel)) (by decide +kernel)
theorem lm_Model_227 : Cond.methodLink "ClearingWavesModel" 227 Lib.Math.max.name ∈ lw_g := mt6 (List.mem_of_getElem? (i := 216) (by decide +kernel)) (by decide +kernel)
theorem lm_Model_408 : Cond.methodLink "ClearingWavesModel" 408 Lib.MathLoose.min_long.x ∈ lw_g := mt7 (List.mem_of_getElem? (i := 159) (by decide +kernel)) (by decide +kernel)

/-! Math.max, Math.min -/
def mx2 (x y : Int) : Int := if x < y then y else x
def mn2 (x y : Int) : Int := if x < y then x else y
theorem mmax_words : Cond.static Lib.Math.max.name ∈ lw_g ∧ Cond.initialized "java/lang/Math" ∈ lw_g ∧ Cond.code Lib.Math.max.name Lib.Math.max.code 2 (some .int) ∈ lw_g := ⟨by decide +kernel, by decide +kernel, by decide +kernel⟩
theorem mmin_words : Cond.static Lib.Math.min.name ∈ lw_g ∧ Cond.initialized "java/lang/Math" ∈ lw_g ∧ Cond.code Lib.Math.min.name Lib.Math.min.code 2 (some .int) ∈ lw_g := ⟨by decide +kernel, by decide +kernel, by decide +kernel⟩
theorem mmaxl_words : Cond.static Lib.MathLoose.max_long.x ∈ lw_g ∧ Cond.initialized "java/lang/Math" ∈ lw_g ∧ Cond.code Lib.MathLoose.max_long.x Lib.MathLoose.max_long.code 4 (some .long) ∈ lw_g := ⟨by decide +kernel, by decide +kernel, by decide +kernel⟩
theorem mminl_words : Cond.static Lib.MathLoose.min_long.x ∈ lw_g ∧ Cond.initialized "java/lang/Math" ∈ lw_g ∧ Cond.code Lib.MathLoose.min_long.x Lib.MathLoose.min_long.code 4 (some .long) ∈ lw_g := ⟨by decide +kernel, by decide +kernel, by decide +kernel⟩
section MM
variable {S : PS} {K mi pc : Nat} {L : List (Nat × PV)} {st : List PV} {ph phE : PH} {M : PM} {Q : Option PV → PM → Prop}
theorem H_mmax {own : String} {mx : Nat} {t : Option FieldType} (f : mfx mi own mx t) {ix : Nat} {x y : Int} (hd : decode (mr mi).2.1 pc = .ok (.invokestatic ix, 3)) (hw : Cond.methodLink own ix Lib.Math.max.name ∈ lw_g) (hE : ph.1 ≤ phE.1) (hst : (st.map pcat).sum ≤ 8) (hx : R32 x) (hy : R32 y) (k : G S (K + 1) mi (pc + 3) L (.inl (mx2 x y) :: st) ph phE M Q) : G S (K + 1) mi pc L (.inl y :: .inl x :: st) ph phE M Q := by
  intro l B b D cA p e R s m args below meth c H0 c0 s0 Z F H locs cells slots ls hS hW hl hc hs
  have hrm := F.2.2.2.2.2.2.2.2.1
  have h3 := F.2.2.2.2.2.2.2.2.2.1
  have hm := slp_mono hE
  have hr := rvs_cat (B := B) (b := b) hst
  have z := k l B b D cA p e R s m args below meth c H0 c0 s0 Z F H locs cells slots ls hS hW hl hc hs
  have e1 : (if Int32.ofInt x < Int32.ofInt y then Int32.ofInt y else Int32.ofInt x) = Int32.ofInt (mx2 x y) := by
    unfold mx2
    by_cases h : x < y
    · rw [if_pos ((i32_lt hx hy).mpr h), if_pos h]
    · rw [if_neg (fun w => h ((i32_lt hx hy).mp w)), if_neg h]
  refine va_mmax F.1 F.2.1 (F.2.2.1.trans hl.1.symm) F.2.2.2.1 (F.2.2.2.2.1 _ (by rw [f.1]; exact hw)) (F.2.2.2.2.1 _ mmax_words.1) (F.2.2.2.2.1 _ mmax_words.2.1) (F.2.2.2.2.1 _ mmax_words.2.2) (by omega) (by omega) (by omega) (by omega) hd ?_
  rw [e1]
  exact z
theorem H_mmin {own : String} {mx : Nat} {t : Option FieldType} (f : mfx mi own mx t) {ix : Nat} {x y : Int} (hd : decode (mr mi).2.1 pc = .ok (.invokestatic ix, 3)) (hw : Cond.methodLink own ix Lib.Math.min.name ∈ lw_g) (hE : ph.1 ≤ phE.1) (hst : (st.map pcat).sum ≤ 8) (hx : R32 x) (hy : R32 y) (k : G S (K + 1) mi (pc + 3) L (.inl (mn2 x y) :: st) ph phE M Q) : G S (K + 1) mi pc L (.inl y :: .inl x :: st) ph phE M Q := by
  intro l B b D cA p e R s m args below meth c H0 c0 s0 Z F H locs cells slots ls hS hW hl hc hs
  have hrm := F.2.2.2.2.2.2.2.2.1
  have h3 := F.2.2.2.2.2.2.2.2.2.1
  have hm := slp_mono hE
  have hr := rvs_cat (B := B) (b := b) hst
  have z := k l B b D cA p e R s m args below meth c H0 c0 s0 Z F H locs cells slots ls hS hW hl hc hs
  have e1 : (if Int32.ofInt y < Int32.ofInt x then Int32.ofInt y else Int32.ofInt x) = Int32.ofInt (mn2 x y) := by
    unfold mn2
    by_cases h : y < x
    · rw [if_pos ((i32_lt hy hx).mpr h), if_neg (by omega)]
    · rw [if_neg (fun w => h ((i32_lt hy hx).mp w))]
      split
      · rfl
      · congr 1; omega
  refine va_mmin F.1 F.2.1 (F.2.2.1.trans hl.1.symm) F.2.2.2.1 (F.2.2.2.2.1 _ (by rw [f.1]; exact hw)) (F.2.2.2.2.1 _ mmin_words.1) (F.2.2.2.2.1 _ mmin_words.2.1) (F.2.2.2.2.1 _ mmin_words.2.2) (by omega) (by omega) (by omega) (by omega) hd ?_
  rw [e1]
  exact z
theorem H_mmaxl {own : String} {mx : Nat} {t : Option FieldType} (f : mfx mi own mx t) {ix : Nat} {x y : Int} (hd : decode (mr mi).2.1 pc = .ok (.invokestatic ix, 3)) (hw : Cond.methodLink own ix Lib.MathLoose.max_long.x ∈ lw_g) (hE : ph.1 ≤ phE.1) (hst : (st.map pcat).sum ≤ 8) (hx : R64 x) (hy : R64 y) (k : G S (K + 1) mi (pc + 3) L (.inr (.inl (mx2 x y)) :: st) ph phE M Q) : G S (K + 1) mi pc L (.inr (.inl y) :: .inr (.inl x) :: st) ph phE M Q := by
  intro l B b D cA p e R s m args below meth c H0 c0 s0 Z F H locs cells slots ls hS hW hl hc hs
  have hrm := F.2.2.2.2.2.2.2.2.1
  have h3 := F.2.2.2.2.2.2.2.2.2.1
  have hm := slp_mono hE
  have hr := rvs_cat (B := B) (b := b) hst
  have z := k l B b D cA p e R s m args below meth c H0 c0 s0 Z F H locs cells slots ls hS hW hl hc hs
  have e1 : (if Int64.ofInt y < Int64.ofInt x then Int64.ofInt x else Int64.ofInt y) = Int64.ofInt (mx2 x y) := by
    unfold mx2
    by_cases h : y < x
    · rw [if_pos ((i64_lt hy hx).mpr h), if_neg (by omega)]
    · rw [if_neg (fun w => h ((i64_lt hy hx).mp w))]
      split
      · rfl
      · congr 1; omega
  refine va_mmax_long F.1 F.2.1 (F.2.2.1.trans hl.1.symm) F.2.2.2.1 (F.2.2.2.2.1 _ (by rw [f.1]; exact hw)) (F.2.2.2.2.1 _ mmaxl_words.1) (F.2.2.2.2.1 _ mmaxl_words.2.1) (F.2.2.2.2.1 _ mmaxl_words.2.2) (by omega) (by omega) (by omega) (by omega) hd ?_
  rw [e1]
  exact z
theorem H_mminl {own : String} {mx : Nat} {t : Option FieldType} (f : mfx mi own mx t) {ix : Nat} {x y : Int} (hd : decode (mr mi).2.1 pc = .ok (.invokestatic ix, 3)) (hw : Cond.methodLink own ix Lib.MathLoose.min_long.x ∈ lw_g) (hE : ph.1 ≤ phE.1) (hst : (st.map pcat).sum ≤ 8) (hx : R64 x) (hy : R64 y) (k : G S (K + 1) mi (pc + 3) L (.inr (.inl (mn2 x y)) :: st) ph phE M Q) : G S (K + 1) mi pc L (.inr (.inl y) :: .inr (.inl x) :: st) ph phE M Q := by
  intro l B b D cA p e R s m args below meth c H0 c0 s0 Z F H locs cells slots ls hS hW hl hc hs
  have hrm := F.2.2.2.2.2.2.2.2.1
  have h3 := F.2.2.2.2.2.2.2.2.2.1
  have hm := slp_mono hE
  have hr := rvs_cat (B := B) (b := b) hst
  have z := k l B b D cA p e R s m args below meth c H0 c0 s0 Z F H locs cells slots ls hS hW hl hc hs
  have e1 : (if Int64.ofInt y < Int64.ofInt x then Int64.ofInt y else Int64.ofInt x) = Int64.ofInt (mn2 x y) := by
    unfold mn2
    by_cases h : y < x
    · rw [if_pos ((i64_lt hy hx).mpr h), if_neg (by omega)]
    · rw [if_neg (fun w => h ((i64_lt hy hx).mp w))]
      split
      · rfl
      · congr 1; omega
  refine va_mmin_long F.1 F.2.1 (F.2.2.1.trans hl.1.symm) F.2.2.2.1 (F.2.2.2.2.1 _ (by rw [f.1]; exact hw)) (F.2.2.2.2.1 _ mminl_words.1) (F.2.2.2.2.1 _ mminl_words.2.1) (F.2.2.2.2.1 _ mminl_words.2.2) (by omega) (by omega) (by omega) (by omega) hd ?_
  rw [e1]
  exact z
end MM

