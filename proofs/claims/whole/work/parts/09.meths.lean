theorem mf0 : mfx 0 "ClearingWaves" 1 none := ⟨by decide +kernel, by decide +kernel, by decide +kernel⟩
set_option maxRecDepth 20000 in
theorem mo0 : mok 0 0 := ⟨mt1 (List.mem_of_getElem? (i := 21) rfl) (by decide +kernel), mt1 (List.mem_of_getElem? (i := 1) (by decide +kernel)) (by decide +kernel), ⟨by decide +kernel, by decide +kernel, by decide +kernel⟩, by decide +kernel⟩
theorem mv0 : mokI 0 0 := ⟨mo0, mt1 (List.mem_of_getElem? (i := 20) (by decide +kernel)) (by decide +kernel), by decide +kernel, by decide +kernel⟩
theorem mf1 : mfx 1 "ClearingWaves$Book" 1 none := ⟨by decide +kernel, by decide +kernel, by decide +kernel⟩
set_option maxRecDepth 20000 in
theorem mo1 : mok 1 0 := ⟨mt1 (List.mem_of_getElem? (i := 29) rfl) (by decide +kernel), mt1 (List.mem_of_getElem? (i := 2) (by decide +kernel)) (by decide +kernel), ⟨by decide +kernel, by decide +kernel, by decide +kernel⟩, by decide +kernel⟩
theorem mv1 : mokI 1 0 := ⟨mo1, mt1 (List.mem_of_getElem? (i := 28) (by decide +kernel)) (by decide +kernel), by decide +kernel, by decide +kernel⟩
theorem mf2 : mfx 2 "ClearingWaves$Book" 3 none := ⟨by decide +kernel, by decide +kernel, by decide +kernel⟩
set_option maxRecDepth 20000 in
theorem mo2 : mok 2 1 := ⟨mt1 (List.mem_of_getElem? (i := 34) rfl) (by decide +kernel), mt1 (List.mem_of_getElem? (i := 2) (by decide +kernel)) (by decide +kernel), ⟨by decide +kernel, by decide +kernel, by decide +kernel⟩, by decide +kernel⟩
theorem mv2 : mokV 2 1 := ⟨mo2, mt1 (List.mem_of_getElem? (i := 32) (by decide +kernel)) (by decide +kernel), mt1 (List.mem_of_getElem? (i := 33) (by decide +kernel)) (by decide +kernel)⟩
theorem mf3 : mfx 3 "ClearingWaves$Clearing" 3 none := ⟨by decide +kernel, by decide +kernel, by decide +kernel⟩
set_option maxRecDepth 20000 in
theorem mo3 : mok 3 2 := ⟨mt1 (List.mem_of_getElem? (i := 82) rfl) (by decide +kernel), mt1 (List.mem_of_getElem? (i := 3) (by decide +kernel)) (by decide +kernel), ⟨by decide +kernel, by decide +kernel, by decide +kernel⟩, by decide +kernel⟩
theorem mv3 : mokI 3 2 := ⟨mo3, mt1 (List.mem_of_getElem? (i := 81) (by decide +kernel)) (by decide +kernel), by decide +kernel, by decide +kernel⟩
theorem mf4 : mfx 4 "ClearingWaves$Equations" 1 none := ⟨by decide +kernel, by decide +kernel, by decide +kernel⟩
set_option maxRecDepth 20000 in
theorem mo4 : mok 4 0 := ⟨mt1 (List.mem_of_getElem? (i := 88) rfl) (by decide +kernel), mt1 (List.mem_of_getElem? (i := 4) (by decide +kernel)) (by decide +kernel), ⟨by decide +kernel, by decide +kernel, by decide +kernel⟩, by decide +kernel⟩
theorem mv4 : mokI 4 0 := ⟨mo4, mt1 (List.mem_of_getElem? (i := 87) (by decide +kernel)) (by decide +kernel), by decide +kernel, by decide +kernel⟩
theorem mf5 : mfx 5 "ClearingWaves$Clearing" 4 none := ⟨by decide +kernel, by decide +kernel, by decide +kernel⟩
set_option maxRecDepth 20000 in
theorem mo5 : mok 5 0 := ⟨mt1 (List.mem_of_getElem? (i := 101) rfl) (by decide +kernel), mt1 (List.mem_of_getElem? (i := 3) (by decide +kernel)) (by decide +kernel), ⟨by decide +kernel, by decide +kernel, by decide +kernel⟩, by decide +kernel⟩
theorem mv5 : mokV 5 0 := ⟨mo5, mt1 (List.mem_of_getElem? (i := 100) (by decide +kernel)) (by decide +kernel), ms1 (List.mem_of_getElem? (i := 0) (by decide +kernel)) (by decide +kernel)⟩
theorem mf6 : mfx 6 "ClearingWaves$Book" 5 (some .int) := ⟨by decide +kernel, by decide +kernel, by decide +kernel⟩
set_option maxRecDepth 20000 in
theorem mo6 : mok 6 2 := ⟨mt1 (List.mem_of_getElem? (i := 105) rfl) (by decide +kernel), mt1 (List.mem_of_getElem? (i := 2) (by decide +kernel)) (by decide +kernel), ⟨by decide +kernel, by decide +kernel, by decide +kernel⟩, by decide +kernel⟩
theorem mv6 : mokV 6 2 := ⟨mo6, mt1 (List.mem_of_getElem? (i := 103) (by decide +kernel)) (by decide +kernel), mt1 (List.mem_of_getElem? (i := 104) (by decide +kernel)) (by decide +kernel)⟩
theorem mf7 : mfx 7 "ClearingWaves$Book" 4 (some .int) := ⟨by decide +kernel, by decide +kernel, by decide +kernel⟩
set_option maxRecDepth 20000 in
theorem mo7 : mok 7 3 := ⟨mt1 (List.mem_of_getElem? (i := 109) rfl) (by decide +kernel), mt1 (List.mem_of_getElem? (i := 2) (by decide +kernel)) (by decide +kernel), ⟨by decide +kernel, by decide +kernel, by decide +kernel⟩, by decide +kernel⟩
theorem mv7 : mokV 7 3 := ⟨mo7, mt1 (List.mem_of_getElem? (i := 107) (by decide +kernel)) (by decide +kernel), mt1 (List.mem_of_getElem? (i := 108) (by decide +kernel)) (by decide +kernel)⟩
theorem mf8 : mfx 8 "ClearingWaves$Clearing" 6 none := ⟨by decide +kernel, by decide +kernel, by decide +kernel⟩
set_option maxRecDepth 20000 in
theorem mo8 : mok 8 0 := ⟨mt1 (List.mem_of_getElem? (i := 113) rfl) (by decide +kernel), mt1 (List.mem_of_getElem? (i := 3) (by decide +kernel)) (by decide +kernel), ⟨by decide +kernel, by decide +kernel, by decide +kernel⟩, by decide +kernel⟩
theorem mv8 : mokV 8 0 := ⟨mo8, mt1 (List.mem_of_getElem? (i := 112) (by decide +kernel)) (by decide +kernel), ms1 (List.mem_of_getElem? (i := 1) (by decide +kernel)) (by decide +kernel)⟩
theorem mf9 : mfx 9 "ClearingWaves$Coins" 2 none := ⟨by decide +kernel, by decide +kernel, by decide +kernel⟩
set_option maxRecDepth 20000 in
theorem mo9 : mok 9 1 := ⟨mt1 (List.mem_of_getElem? (i := 169) rfl) (by decide +kernel), mt1 (List.mem_of_getElem? (i := 5) (by decide +kernel)) (by decide +kernel), ⟨by decide +kernel, by decide +kernel, by decide +kernel⟩, by decide +kernel⟩
theorem mv9 : mokI 9 1 := ⟨mo9, mt1 (List.mem_of_getElem? (i := 168) (by decide +kernel)) (by decide +kernel), by decide +kernel, by decide +kernel⟩
theorem mf10 : mfx 10 "ClearingWaves$Rings" 2 none := ⟨by decide +kernel, by decide +kernel, by decide +kernel⟩
set_option maxRecDepth 20000 in
theorem mo10 : mok 10 1 := ⟨mt1 (List.mem_of_getElem? (i := 189) rfl) (by decide +kernel), mt1 (List.mem_of_getElem? (i := 6) (by decide +kernel)) (by decide +kernel), ⟨by decide +kernel, by decide +kernel, by decide +kernel⟩, by decide +kernel⟩
theorem mv10 : mokI 10 1 := ⟨mo10, mt1 (List.mem_of_getElem? (i := 188) (by decide +kernel)) (by decide +kernel), by decide +kernel, by decide +kernel⟩
theorem mf11 : mfx 11 "ClearingWaves$Worth" 1 none := ⟨by decide +kernel, by decide +kernel, by decide +kernel⟩
set_option maxRecDepth 20000 in
theorem mo11 : mok 11 0 := ⟨mt1 (List.mem_of_getElem? (i := 203) rfl) (by decide +kernel), mt1 (List.mem_of_getElem? (i := 7) (by decide +kernel)) (by decide +kernel), ⟨by decide +kernel, by decide +kernel, by decide +kernel⟩, by decide +kernel⟩
theorem mv11 : mokI 11 0 := ⟨mo11, mt1 (List.mem_of_getElem? (i := 202) (by decide +kernel)) (by decide +kernel), by decide +kernel, by decide +kernel⟩
theorem mf12 : mfx 12 "ClearingWaves$Told" 1 none := ⟨by decide +kernel, by decide +kernel, by decide +kernel⟩
set_option maxRecDepth 20000 in
theorem mo12 : mok 12 0 := ⟨mt1 (List.mem_of_getElem? (i := 218) rfl) (by decide +kernel), mt1 (List.mem_of_getElem? (i := 8) (by decide +kernel)) (by decide +kernel), ⟨by decide +kernel, by decide +kernel, by decide +kernel⟩, by decide +kernel⟩
theorem mv12 : mokI 12 0 := ⟨mo12, mt1 (List.mem_of_getElem? (i := 217) (by decide +kernel)) (by decide +kernel), by decide +kernel, by decide +kernel⟩
theorem mf13 : mfx 13 "ClearingWaves$Tape" 1 none := ⟨by decide +kernel, by decide +kernel, by decide +kernel⟩
set_option maxRecDepth 20000 in
theorem mo13 : mok 13 0 := ⟨mt1 (List.mem_of_getElem? (i := 233) rfl) (by decide +kernel), mt1 (List.mem_of_getElem? (i := 9) (by decide +kernel)) (by decide +kernel), ⟨by decide +kernel, by decide +kernel, by decide +kernel⟩, by decide +kernel⟩
theorem mv13 : mokI 13 0 := ⟨mo13, mt1 (List.mem_of_getElem? (i := 232) (by decide +kernel)) (by decide +kernel), by decide +kernel, by decide +kernel⟩
theorem mf14 : mfx 14 "ClearingWaves$Paper" 1 none := ⟨by decide +kernel, by decide +kernel, by decide +kernel⟩
set_option maxRecDepth 20000 in
theorem mo14 : mok 14 0 := ⟨mt2 (List.mem_of_getElem? (i := 10) rfl) (by decide +kernel), mt1 (List.mem_of_getElem? (i := 10) (by decide +kernel)) (by decide +kernel), ⟨by decide +kernel, by decide +kernel, by decide +kernel⟩, by decide +kernel⟩
theorem mv14 : mokI 14 0 := ⟨mo14, mt2 (List.mem_of_getElem? (i := 9) (by decide +kernel)) (by decide +kernel), by decide +kernel, by decide +kernel⟩
theorem mf15 : mfx 15 "ClearingWaves$Rows" 1 none := ⟨by decide +kernel, by decide +kernel, by decide +kernel⟩
set_option maxRecDepth 20000 in
theorem mo15 : mok 15 0 := ⟨mt2 (List.mem_of_getElem? (i := 25) rfl) (by decide +kernel), mt1 (List.mem_of_getElem? (i := 11) (by decide +kernel)) (by decide +kernel), ⟨by decide +kernel, by decide +kernel, by decide +kernel⟩, by decide +kernel⟩
theorem mv15 : mokI 15 0 := ⟨mo15, mt2 (List.mem_of_getElem? (i := 24) (by decide +kernel)) (by decide +kernel), by decide +kernel, by decide +kernel⟩
theorem mf16 : mfx 16 "ClearingWaves" 2 (some .int) := ⟨by decide +kernel, by decide +kernel, by decide +kernel⟩
set_option maxRecDepth 20000 in
theorem mo16 : mok 16 1 := ⟨mt2 (List.mem_of_getElem? (i := 86) rfl) (by decide +kernel), mt1 (List.mem_of_getElem? (i := 1) (by decide +kernel)) (by decide +kernel), ⟨by decide +kernel, by decide +kernel, by decide +kernel⟩, by decide +kernel⟩
theorem mv16 : mokV 16 1 := ⟨mo16, mt2 (List.mem_of_getElem? (i := 84) (by decide +kernel)) (by decide +kernel), mt2 (List.mem_of_getElem? (i := 85) (by decide +kernel)) (by decide +kernel)⟩
theorem mf17 : mfx 17 "ClearingWaves" 1 none := ⟨by decide +kernel, by decide +kernel, by decide +kernel⟩
set_option maxRecDepth 20000 in
theorem mo17 : mok 17 0 := ⟨mt2 (List.mem_of_getElem? (i := 91) rfl) (by decide +kernel), mt1 (List.mem_of_getElem? (i := 1) (by decide +kernel)) (by decide +kernel), ⟨by decide +kernel, by decide +kernel, by decide +kernel⟩, by decide +kernel⟩
theorem mv17 : mokV 17 0 := ⟨mo17, mt2 (List.mem_of_getElem? (i := 90) (by decide +kernel)) (by decide +kernel), ms1 (List.mem_of_getElem? (i := 2) (by decide +kernel)) (by decide +kernel)⟩
theorem mf18 : mfx 18 "ClearingWaves" 4 (some .int) := ⟨by decide +kernel, by decide +kernel, by decide +kernel⟩
set_option maxRecDepth 20000 in
theorem mo18 : mok 18 2 := ⟨mt2 (List.mem_of_getElem? (i := 95) rfl) (by decide +kernel), mt1 (List.mem_of_getElem? (i := 1) (by decide +kernel)) (by decide +kernel), ⟨by decide +kernel, by decide +kernel, by decide +kernel⟩, by decide +kernel⟩
theorem mv18 : mokV 18 2 := ⟨mo18, mt2 (List.mem_of_getElem? (i := 93) (by decide +kernel)) (by decide +kernel), mt2 (List.mem_of_getElem? (i := 94) (by decide +kernel)) (by decide +kernel)⟩
theorem mf19 : mfx 19 "ClearingWaves$Book" 2 (some .boolean) := ⟨by decide +kernel, by decide +kernel, by decide +kernel⟩
set_option maxRecDepth 20000 in
theorem mo19 : mok 19 1 := ⟨mt2 (List.mem_of_getElem? (i := 99) rfl) (by decide +kernel), mt1 (List.mem_of_getElem? (i := 2) (by decide +kernel)) (by decide +kernel), ⟨by decide +kernel, by decide +kernel, by decide +kernel⟩, by decide +kernel⟩
theorem mv19 : mokV 19 1 := ⟨mo19, mt2 (List.mem_of_getElem? (i := 97) (by decide +kernel)) (by decide +kernel), mt2 (List.mem_of_getElem? (i := 98) (by decide +kernel)) (by decide +kernel)⟩
theorem mf20 : mfx 20 "ClearingWaves" 6 (some .int) := ⟨by decide +kernel, by decide +kernel, by decide +kernel⟩
set_option maxRecDepth 20000 in
theorem mo20 : mok 20 4 := ⟨mt2 (List.mem_of_getElem? (i := 103) rfl) (by decide +kernel), mt1 (List.mem_of_getElem? (i := 1) (by decide +kernel)) (by decide +kernel), ⟨by decide +kernel, by decide +kernel, by decide +kernel⟩, by decide +kernel⟩
theorem mv20 : mokV 20 4 := ⟨mo20, mt2 (List.mem_of_getElem? (i := 101) (by decide +kernel)) (by decide +kernel), mt2 (List.mem_of_getElem? (i := 102) (by decide +kernel)) (by decide +kernel)⟩
theorem mf21 : mfx 21 "ClearingWaves$Book" 4 (some .boolean) := ⟨by decide +kernel, by decide +kernel, by decide +kernel⟩
set_option maxRecDepth 20000 in
theorem mo21 : mok 21 3 := ⟨mt2 (List.mem_of_getElem? (i := 107) rfl) (by decide +kernel), mt1 (List.mem_of_getElem? (i := 2) (by decide +kernel)) (by decide +kernel), ⟨by decide +kernel, by decide +kernel, by decide +kernel⟩, by decide +kernel⟩
theorem mv21 : mokV 21 3 := ⟨mo21, mt2 (List.mem_of_getElem? (i := 105) (by decide +kernel)) (by decide +kernel), mt2 (List.mem_of_getElem? (i := 106) (by decide +kernel)) (by decide +kernel)⟩
theorem mf22 : mfx 22 "ClearingWaves$Book" 3 (some .boolean) := ⟨by decide +kernel, by decide +kernel, by decide +kernel⟩
set_option maxRecDepth 20000 in
theorem mo22 : mok 22 2 := ⟨mt2 (List.mem_of_getElem? (i := 111) rfl) (by decide +kernel), mt1 (List.mem_of_getElem? (i := 2) (by decide +kernel)) (by decide +kernel), ⟨by decide +kernel, by decide +kernel, by decide +kernel⟩, by decide +kernel⟩
theorem mv22 : mokV 22 2 := ⟨mo22, mt2 (List.mem_of_getElem? (i := 109) (by decide +kernel)) (by decide +kernel), mt2 (List.mem_of_getElem? (i := 110) (by decide +kernel)) (by decide +kernel)⟩
theorem mf23 : mfx 23 "ClearingWaves$Book" 2 (some .boolean) := ⟨by decide +kernel, by decide +kernel, by decide +kernel⟩
set_option maxRecDepth 20000 in
theorem mo23 : mok 23 1 := ⟨mt2 (List.mem_of_getElem? (i := 116) rfl) (by decide +kernel), mt1 (List.mem_of_getElem? (i := 2) (by decide +kernel)) (by decide +kernel), ⟨by decide +kernel, by decide +kernel, by decide +kernel⟩, by decide +kernel⟩
theorem mv23 : mokV 23 1 := ⟨mo23, mt2 (List.mem_of_getElem? (i := 114) (by decide +kernel)) (by decide +kernel), mt2 (List.mem_of_getElem? (i := 115) (by decide +kernel)) (by decide +kernel)⟩
theorem mf24 : mfx 24 "ClearingWaves$Book" 5 none := ⟨by decide +kernel, by decide +kernel, by decide +kernel⟩
set_option maxRecDepth 20000 in
theorem mo24 : mok 24 4 := ⟨mt2 (List.mem_of_getElem? (i := 121) rfl) (by decide +kernel), mt1 (List.mem_of_getElem? (i := 2) (by decide +kernel)) (by decide +kernel), ⟨by decide +kernel, by decide +kernel, by decide +kernel⟩, by decide +kernel⟩
theorem mv24 : mokV 24 4 := ⟨mo24, mt2 (List.mem_of_getElem? (i := 119) (by decide +kernel)) (by decide +kernel), mt2 (List.mem_of_getElem? (i := 120) (by decide +kernel)) (by decide +kernel)⟩
theorem mf25 : mfx 25 "ClearingWaves" 4 (some .int) := ⟨by decide +kernel, by decide +kernel, by decide +kernel⟩
set_option maxRecDepth 20000 in
theorem mo25 : mok 25 3 := ⟨mt2 (List.mem_of_getElem? (i := 125) rfl) (by decide +kernel), mt1 (List.mem_of_getElem? (i := 1) (by decide +kernel)) (by decide +kernel), ⟨by decide +kernel, by decide +kernel, by decide +kernel⟩, by decide +kernel⟩
theorem mv25 : mokV 25 3 := ⟨mo25, mt2 (List.mem_of_getElem? (i := 123) (by decide +kernel)) (by decide +kernel), mt2 (List.mem_of_getElem? (i := 124) (by decide +kernel)) (by decide +kernel)⟩
theorem mf26 : mfx 26 "ClearingWaves" 3 (some .int) := ⟨by decide +kernel, by decide +kernel, by decide +kernel⟩
set_option maxRecDepth 20000 in
theorem mo26 : mok 26 2 := ⟨mt2 (List.mem_of_getElem? (i := 129) rfl) (by decide +kernel), mt1 (List.mem_of_getElem? (i := 1) (by decide +kernel)) (by decide +kernel), ⟨by decide +kernel, by decide +kernel, by decide +kernel⟩, by decide +kernel⟩
theorem mv26 : mokV 26 2 := ⟨mo26, mt2 (List.mem_of_getElem? (i := 127) (by decide +kernel)) (by decide +kernel), mt2 (List.mem_of_getElem? (i := 128) (by decide +kernel)) (by decide +kernel)⟩
theorem mf27 : mfx 27 "ClearingWaves" 8 (some .int) := ⟨by decide +kernel, by decide +kernel, by decide +kernel⟩
set_option maxRecDepth 20000 in
theorem mo27 : mok 27 5 := ⟨mt2 (List.mem_of_getElem? (i := 133) rfl) (by decide +kernel), mt1 (List.mem_of_getElem? (i := 1) (by decide +kernel)) (by decide +kernel), ⟨by decide +kernel, by decide +kernel, by decide +kernel⟩, by decide +kernel⟩
theorem mv27 : mokV 27 5 := ⟨mo27, mt2 (List.mem_of_getElem? (i := 131) (by decide +kernel)) (by decide +kernel), mt2 (List.mem_of_getElem? (i := 132) (by decide +kernel)) (by decide +kernel)⟩
theorem mf28 : mfx 28 "ClearingWaves" 6 (some .int) := ⟨by decide +kernel, by decide +kernel, by decide +kernel⟩
set_option maxRecDepth 20000 in
theorem mo28 : mok 28 4 := ⟨mt2 (List.mem_of_getElem? (i := 137) rfl) (by decide +kernel), mt1 (List.mem_of_getElem? (i := 1) (by decide +kernel)) (by decide +kernel), ⟨by decide +kernel, by decide +kernel, by decide +kernel⟩, by decide +kernel⟩
theorem mv28 : mokV 28 4 := ⟨mo28, mt2 (List.mem_of_getElem? (i := 135) (by decide +kernel)) (by decide +kernel), mt2 (List.mem_of_getElem? (i := 136) (by decide +kernel)) (by decide +kernel)⟩
theorem mf29 : mfx 29 "ClearingWaves" 2 (some .int) := ⟨by decide +kernel, by decide +kernel, by decide +kernel⟩
set_option maxRecDepth 20000 in
theorem mo29 : mok 29 1 := ⟨mt2 (List.mem_of_getElem? (i := 141) rfl) (by decide +kernel), mt1 (List.mem_of_getElem? (i := 1) (by decide +kernel)) (by decide +kernel), ⟨by decide +kernel, by decide +kernel, by decide +kernel⟩, by decide +kernel⟩
theorem mv29 : mokV 29 1 := ⟨mo29, mt2 (List.mem_of_getElem? (i := 139) (by decide +kernel)) (by decide +kernel), mt2 (List.mem_of_getElem? (i := 140) (by decide +kernel)) (by decide +kernel)⟩
theorem mf30 : mfx 30 "ClearingWaves$Tape" 2 (some .boolean) := ⟨by decide +kernel, by decide +kernel, by decide +kernel⟩
set_option maxRecDepth 20000 in
theorem mo30 : mok 30 1 := ⟨mt2 (List.mem_of_getElem? (i := 145) rfl) (by decide +kernel), mt1 (List.mem_of_getElem? (i := 9) (by decide +kernel)) (by decide +kernel), ⟨by decide +kernel, by decide +kernel, by decide +kernel⟩, by decide +kernel⟩
theorem mv30 : mokV 30 1 := ⟨mo30, mt2 (List.mem_of_getElem? (i := 143) (by decide +kernel)) (by decide +kernel), mt2 (List.mem_of_getElem? (i := 144) (by decide +kernel)) (by decide +kernel)⟩
theorem mf31 : mfx 31 "ClearingWaves" 1 (some .int) := ⟨by decide +kernel, by decide +kernel, by decide +kernel⟩
set_option maxRecDepth 20000 in
theorem mo31 : mok 31 0 := ⟨mt2 (List.mem_of_getElem? (i := 149) rfl) (by decide +kernel), mt1 (List.mem_of_getElem? (i := 1) (by decide +kernel)) (by decide +kernel), ⟨by decide +kernel, by decide +kernel, by decide +kernel⟩, by decide +kernel⟩
theorem mv31 : mokV 31 0 := ⟨mo31, mt2 (List.mem_of_getElem? (i := 147) (by decide +kernel)) (by decide +kernel), mt2 (List.mem_of_getElem? (i := 148) (by decide +kernel)) (by decide +kernel)⟩
theorem mf32 : mfx 32 "ClearingWaves$Tape" 2 (some .int) := ⟨by decide +kernel, by decide +kernel, by decide +kernel⟩
set_option maxRecDepth 20000 in
theorem mo32 : mok 32 0 := ⟨mt2 (List.mem_of_getElem? (i := 153) rfl) (by decide +kernel), mt1 (List.mem_of_getElem? (i := 9) (by decide +kernel)) (by decide +kernel), ⟨by decide +kernel, by decide +kernel, by decide +kernel⟩, by decide +kernel⟩
theorem mv32 : mokV 32 0 := ⟨mo32, mt2 (List.mem_of_getElem? (i := 151) (by decide +kernel)) (by decide +kernel), mt2 (List.mem_of_getElem? (i := 152) (by decide +kernel)) (by decide +kernel)⟩
theorem mf33 : mfx 33 "ClearingWaves" 2 (some .int) := ⟨by decide +kernel, by decide +kernel, by decide +kernel⟩
set_option maxRecDepth 20000 in
theorem mo33 : mok 33 0 := ⟨mt2 (List.mem_of_getElem? (i := 157) rfl) (by decide +kernel), mt1 (List.mem_of_getElem? (i := 1) (by decide +kernel)) (by decide +kernel), ⟨by decide +kernel, by decide +kernel, by decide +kernel⟩, by decide +kernel⟩
theorem mv33 : mokV 33 0 := ⟨mo33, mt2 (List.mem_of_getElem? (i := 155) (by decide +kernel)) (by decide +kernel), mt2 (List.mem_of_getElem? (i := 156) (by decide +kernel)) (by decide +kernel)⟩
theorem mf34 : mfx 34 "ClearingWaves$Tape" 5 (some .int) := ⟨by decide +kernel, by decide +kernel, by decide +kernel⟩
set_option maxRecDepth 20000 in
theorem mo34 : mok 34 2 := ⟨mt2 (List.mem_of_getElem? (i := 161) rfl) (by decide +kernel), mt1 (List.mem_of_getElem? (i := 9) (by decide +kernel)) (by decide +kernel), ⟨by decide +kernel, by decide +kernel, by decide +kernel⟩, by decide +kernel⟩
theorem mv34 : mokV 34 2 := ⟨mo34, mt2 (List.mem_of_getElem? (i := 159) (by decide +kernel)) (by decide +kernel), mt2 (List.mem_of_getElem? (i := 160) (by decide +kernel)) (by decide +kernel)⟩
theorem mf35 : mfx 35 "ClearingWaves$Tape" 8 (some .int) := ⟨by decide +kernel, by decide +kernel, by decide +kernel⟩
set_option maxRecDepth 20000 in
theorem mo35 : mok 35 2 := ⟨mt2 (List.mem_of_getElem? (i := 165) rfl) (by decide +kernel), mt1 (List.mem_of_getElem? (i := 9) (by decide +kernel)) (by decide +kernel), ⟨by decide +kernel, by decide +kernel, by decide +kernel⟩, by decide +kernel⟩
theorem mv35 : mokV 35 2 := ⟨mo35, mt2 (List.mem_of_getElem? (i := 164) (by decide +kernel)) (by decide +kernel), ms1 (List.mem_of_getElem? (i := 3) (by decide +kernel)) (by decide +kernel)⟩
theorem mf36 : mfx 36 "ClearingWaves$Tape" 3 (some .int) := ⟨by decide +kernel, by decide +kernel, by decide +kernel⟩
set_option maxRecDepth 20000 in
theorem mo36 : mok 36 1 := ⟨mt2 (List.mem_of_getElem? (i := 169) rfl) (by decide +kernel), mt1 (List.mem_of_getElem? (i := 9) (by decide +kernel)) (by decide +kernel), ⟨by decide +kernel, by decide +kernel, by decide +kernel⟩, by decide +kernel⟩
theorem mv36 : mokV 36 1 := ⟨mo36, mt2 (List.mem_of_getElem? (i := 168) (by decide +kernel)) (by decide +kernel), ms1 (List.mem_of_getElem? (i := 4) (by decide +kernel)) (by decide +kernel)⟩
theorem mf37 : mfx 37 "ClearingWaves$Tape" 2 (some .boolean) := ⟨by decide +kernel, by decide +kernel, by decide +kernel⟩
set_option maxRecDepth 20000 in
theorem mo37 : mok 37 1 := ⟨mt2 (List.mem_of_getElem? (i := 174) rfl) (by decide +kernel), mt1 (List.mem_of_getElem? (i := 9) (by decide +kernel)) (by decide +kernel), ⟨by decide +kernel, by decide +kernel, by decide +kernel⟩, by decide +kernel⟩
theorem mv37 : mokV 37 1 := ⟨mo37, mt2 (List.mem_of_getElem? (i := 173) (by decide +kernel)) (by decide +kernel), ms1 (List.mem_of_getElem? (i := 5) (by decide +kernel)) (by decide +kernel)⟩
theorem mf38 : mfx 38 "ClearingWaves$Tape" 5 (some .int) := ⟨by decide +kernel, by decide +kernel, by decide +kernel⟩
set_option maxRecDepth 20000 in
theorem mo38 : mok 38 1 := ⟨mt2 (List.mem_of_getElem? (i := 178) rfl) (by decide +kernel), mt1 (List.mem_of_getElem? (i := 9) (by decide +kernel)) (by decide +kernel), ⟨by decide +kernel, by decide +kernel, by decide +kernel⟩, by decide +kernel⟩
theorem mv38 : mokV 38 1 := ⟨mo38, mt2 (List.mem_of_getElem? (i := 177) (by decide +kernel)) (by decide +kernel), ms1 (List.mem_of_getElem? (i := 6) (by decide +kernel)) (by decide +kernel)⟩
theorem mf39 : mfx 39 "ClearingWaves" 1 (some .int) := ⟨by decide +kernel, by decide +kernel, by decide +kernel⟩
set_option maxRecDepth 20000 in
theorem mo39 : mok 39 0 := ⟨mt2 (List.mem_of_getElem? (i := 183) rfl) (by decide +kernel), mt1 (List.mem_of_getElem? (i := 1) (by decide +kernel)) (by decide +kernel), ⟨by decide +kernel, by decide +kernel, by decide +kernel⟩, by decide +kernel⟩
theorem mv39 : mokV 39 0 := ⟨mo39, mt2 (List.mem_of_getElem? (i := 181) (by decide +kernel)) (by decide +kernel), mt2 (List.mem_of_getElem? (i := 182) (by decide +kernel)) (by decide +kernel)⟩
theorem mf40 : mfx 40 "ClearingWaves" 1 (some (.object "ClearingWaves$Clearing")) := ⟨by decide +kernel, by decide +kernel, by decide +kernel⟩
set_option maxRecDepth 20000 in
theorem mo40 : mok 40 0 := ⟨mt2 (List.mem_of_getElem? (i := 187) rfl) (by decide +kernel), mt1 (List.mem_of_getElem? (i := 1) (by decide +kernel)) (by decide +kernel), ⟨by decide +kernel, by decide +kernel, by decide +kernel⟩, by decide +kernel⟩
theorem mv40 : mokV 40 0 := ⟨mo40, mt2 (List.mem_of_getElem? (i := 186) (by decide +kernel)) (by decide +kernel), ms1 (List.mem_of_getElem? (i := 7) (by decide +kernel)) (by decide +kernel)⟩
theorem mf41 : mfx 41 "ClearingWaves$Clearing" 3 none := ⟨by decide +kernel, by decide +kernel, by decide +kernel⟩
set_option maxRecDepth 20000 in
theorem mo41 : mok 41 0 := ⟨mt2 (List.mem_of_getElem? (i := 191) rfl) (by decide +kernel), mt1 (List.mem_of_getElem? (i := 3) (by decide +kernel)) (by decide +kernel), ⟨by decide +kernel, by decide +kernel, by decide +kernel⟩, by decide +kernel⟩
theorem mv41 : mokV 41 0 := ⟨mo41, mt2 (List.mem_of_getElem? (i := 189) (by decide +kernel)) (by decide +kernel), mt2 (List.mem_of_getElem? (i := 190) (by decide +kernel)) (by decide +kernel)⟩
theorem mf42 : mfx 42 "ClearingWaves$Clearing" 3 (some .int) := ⟨by decide +kernel, by decide +kernel, by decide +kernel⟩
set_option maxRecDepth 20000 in
theorem mo42 : mok 42 0 := ⟨mt2 (List.mem_of_getElem? (i := 195) rfl) (by decide +kernel), mt1 (List.mem_of_getElem? (i := 3) (by decide +kernel)) (by decide +kernel), ⟨by decide +kernel, by decide +kernel, by decide +kernel⟩, by decide +kernel⟩
theorem mv42 : mokV 42 0 := ⟨mo42, mt2 (List.mem_of_getElem? (i := 194) (by decide +kernel)) (by decide +kernel), ms1 (List.mem_of_getElem? (i := 8) (by decide +kernel)) (by decide +kernel)⟩
theorem mf43 : mfx 43 "ClearingWaves$Clearing" 2 (some .boolean) := ⟨by decide +kernel, by decide +kernel, by decide +kernel⟩
set_option maxRecDepth 20000 in
theorem mo43 : mok 43 1 := ⟨mt2 (List.mem_of_getElem? (i := 199) rfl) (by decide +kernel), mt1 (List.mem_of_getElem? (i := 3) (by decide +kernel)) (by decide +kernel), ⟨by decide +kernel, by decide +kernel, by decide +kernel⟩, by decide +kernel⟩
theorem mv43 : mokV 43 1 := ⟨mo43, mt2 (List.mem_of_getElem? (i := 198) (by decide +kernel)) (by decide +kernel), ms1 (List.mem_of_getElem? (i := 9) (by decide +kernel)) (by decide +kernel)⟩
theorem mf44 : mfx 44 "ClearingWaves$Clearing" 2 (some .long) := ⟨by decide +kernel, by decide +kernel, by decide +kernel⟩
set_option maxRecDepth 20000 in
theorem mo44 : mok 44 1 := ⟨mt2 (List.mem_of_getElem? (i := 203) rfl) (by decide +kernel), mt1 (List.mem_of_getElem? (i := 3) (by decide +kernel)) (by decide +kernel), ⟨by decide +kernel, by decide +kernel, by decide +kernel⟩, by decide +kernel⟩
theorem mv44 : mokV 44 1 := ⟨mo44, mt2 (List.mem_of_getElem? (i := 202) (by decide +kernel)) (by decide +kernel), ms1 (List.mem_of_getElem? (i := 10) (by decide +kernel)) (by decide +kernel)⟩
theorem mf45 : mfx 45 "ClearingWaves$Clearing" 9 (some .long) := ⟨by decide +kernel, by decide +kernel, by decide +kernel⟩
set_option maxRecDepth 20000 in
theorem mo45 : mok 45 2 := ⟨mt2 (List.mem_of_getElem? (i := 207) rfl) (by decide +kernel), mt1 (List.mem_of_getElem? (i := 3) (by decide +kernel)) (by decide +kernel), ⟨by decide +kernel, by decide +kernel, by decide +kernel⟩, by decide +kernel⟩
theorem mv45 : mokV 45 2 := ⟨mo45, mt2 (List.mem_of_getElem? (i := 205) (by decide +kernel)) (by decide +kernel), mt2 (List.mem_of_getElem? (i := 206) (by decide +kernel)) (by decide +kernel)⟩
theorem mf46 : mfx 46 "ClearingWaves$Clearing" 4 (some .long) := ⟨by decide +kernel, by decide +kernel, by decide +kernel⟩
set_option maxRecDepth 20000 in
theorem mo46 : mok 46 1 := ⟨mt2 (List.mem_of_getElem? (i := 211) rfl) (by decide +kernel), mt1 (List.mem_of_getElem? (i := 3) (by decide +kernel)) (by decide +kernel), ⟨by decide +kernel, by decide +kernel, by decide +kernel⟩, by decide +kernel⟩
theorem mv46 : mokV 46 1 := ⟨mo46, mt2 (List.mem_of_getElem? (i := 210) (by decide +kernel)) (by decide +kernel), ms1 (List.mem_of_getElem? (i := 11) (by decide +kernel)) (by decide +kernel)⟩
theorem mf47 : mfx 47 "ClearingWaves$Clearing" 6 (some .int) := ⟨by decide +kernel, by decide +kernel, by decide +kernel⟩
set_option maxRecDepth 20000 in
theorem mo47 : mok 47 1 := ⟨mt2 (List.mem_of_getElem? (i := 216) rfl) (by decide +kernel), mt1 (List.mem_of_getElem? (i := 3) (by decide +kernel)) (by decide +kernel), ⟨by decide +kernel, by decide +kernel, by decide +kernel⟩, by decide +kernel⟩
theorem mv47 : mokV 47 1 := ⟨mo47, mt2 (List.mem_of_getElem? (i := 215) (by decide +kernel)) (by decide +kernel), ms1 (List.mem_of_getElem? (i := 12) (by decide +kernel)) (by decide +kernel)⟩
theorem mf48 : mfx 48 "ClearingWaves$Clearing" 4 (some .boolean) := ⟨by decide +kernel, by decide +kernel, by decide +kernel⟩
set_option maxRecDepth 20000 in
theorem mo48 : mok 48 2 := ⟨mt2 (List.mem_of_getElem? (i := 220) rfl) (by decide +kernel), mt1 (List.mem_of_getElem? (i := 3) (by decide +kernel)) (by decide +kernel), ⟨by decide +kernel, by decide +kernel, by decide +kernel⟩, by decide +kernel⟩
theorem mv48 : mokV 48 2 := ⟨mo48, mt2 (List.mem_of_getElem? (i := 219) (by decide +kernel)) (by decide +kernel), ms1 (List.mem_of_getElem? (i := 13) (by decide +kernel)) (by decide +kernel)⟩
theorem mf49 : mfx 49 "ClearingWaves$Clearing" 3 (some .int) := ⟨by decide +kernel, by decide +kernel, by decide +kernel⟩
set_option maxRecDepth 20000 in
theorem mo49 : mok 49 1 := ⟨mt2 (List.mem_of_getElem? (i := 224) rfl) (by decide +kernel), mt1 (List.mem_of_getElem? (i := 3) (by decide +kernel)) (by decide +kernel), ⟨by decide +kernel, by decide +kernel, by decide +kernel⟩, by decide +kernel⟩
theorem mv49 : mokV 49 1 := ⟨mo49, mt2 (List.mem_of_getElem? (i := 223) (by decide +kernel)) (by decide +kernel), ms1 (List.mem_of_getElem? (i := 14) (by decide +kernel)) (by decide +kernel)⟩
theorem mf50 : mfx 50 "ClearingWaves$Clearing" 5 none := ⟨by decide +kernel, by decide +kernel, by decide +kernel⟩
set_option maxRecDepth 20000 in
theorem mo50 : mok 50 1 := ⟨mt2 (List.mem_of_getElem? (i := 229) rfl) (by decide +kernel), mt1 (List.mem_of_getElem? (i := 3) (by decide +kernel)) (by decide +kernel), ⟨by decide +kernel, by decide +kernel, by decide +kernel⟩, by decide +kernel⟩
theorem mv50 : mokV 50 1 := ⟨mo50, mt2 (List.mem_of_getElem? (i := 228) (by decide +kernel)) (by decide +kernel), ms1 (List.mem_of_getElem? (i := 15) (by decide +kernel)) (by decide +kernel)⟩
theorem mf51 : mfx 51 "java/lang/Math" 2 (some .int) := ⟨by decide +kernel, by decide +kernel, by decide +kernel⟩
set_option maxRecDepth 20000 in
theorem mo51 : mok 51 2 := ⟨mt2 (List.mem_of_getElem? (i := 232) rfl) (by decide +kernel), mt1 (List.mem_of_getElem? (i := 13) (by decide +kernel)) (by decide +kernel), ⟨by decide +kernel, by decide +kernel, by decide +kernel⟩, by decide +kernel⟩
theorem mv51 : mokS 51 2 := ⟨mo51, mt2 (List.mem_of_getElem? (i := 231) (by decide +kernel)) (by decide +kernel)⟩
theorem mf52 : mfx 52 "ClearingWaves$Clearing" 5 none := ⟨by decide +kernel, by decide +kernel, by decide +kernel⟩
set_option maxRecDepth 20000 in
theorem mo52 : mok 52 0 := ⟨mt2 (List.mem_of_getElem? (i := 236) rfl) (by decide +kernel), mt1 (List.mem_of_getElem? (i := 3) (by decide +kernel)) (by decide +kernel), ⟨by decide +kernel, by decide +kernel, by decide +kernel⟩, by decide +kernel⟩
theorem mv52 : mokV 52 0 := ⟨mo52, mt2 (List.mem_of_getElem? (i := 235) (by decide +kernel)) (by decide +kernel), ms2 (List.mem_of_getElem? (i := 0) (by decide +kernel)) (by decide +kernel)⟩
theorem mf53 : mfx 53 "ClearingWaves$Clearing" 4 (some .long) := ⟨by decide +kernel, by decide +kernel, by decide +kernel⟩
set_option maxRecDepth 20000 in
theorem mo53 : mok 53 2 := ⟨mt3 (List.mem_of_getElem? (i := 0) rfl) (by decide +kernel), mt1 (List.mem_of_getElem? (i := 3) (by decide +kernel)) (by decide +kernel), ⟨by decide +kernel, by decide +kernel, by decide +kernel⟩, by decide +kernel⟩
theorem mv53 : mokV 53 2 := ⟨mo53, mt2 (List.mem_of_getElem? (i := 239) (by decide +kernel)) (by decide +kernel), ms2 (List.mem_of_getElem? (i := 1) (by decide +kernel)) (by decide +kernel)⟩
theorem mf54 : mfx 54 "ClearingWaves$Equations" 5 none := ⟨by decide +kernel, by decide +kernel, by decide +kernel⟩
set_option maxRecDepth 20000 in
theorem mo54 : mok 54 3 := ⟨mt3 (List.mem_of_getElem? (i := 4) rfl) (by decide +kernel), mt1 (List.mem_of_getElem? (i := 4) (by decide +kernel)) (by decide +kernel), ⟨by decide +kernel, by decide +kernel, by decide +kernel⟩, by decide +kernel⟩
theorem mv54 : mokV 54 3 := ⟨mo54, mt3 (List.mem_of_getElem? (i := 2) (by decide +kernel)) (by decide +kernel), mt3 (List.mem_of_getElem? (i := 3) (by decide +kernel)) (by decide +kernel)⟩
theorem mf55 : mfx 55 "ClearingWaves$Equations" 4 none := ⟨by decide +kernel, by decide +kernel, by decide +kernel⟩
set_option maxRecDepth 20000 in
theorem mo55 : mok 55 1 := ⟨mt3 (List.mem_of_getElem? (i := 8) rfl) (by decide +kernel), mt1 (List.mem_of_getElem? (i := 4) (by decide +kernel)) (by decide +kernel), ⟨by decide +kernel, by decide +kernel, by decide +kernel⟩, by decide +kernel⟩
theorem mv55 : mokV 55 1 := ⟨mo55, mt3 (List.mem_of_getElem? (i := 6) (by decide +kernel)) (by decide +kernel), mt3 (List.mem_of_getElem? (i := 7) (by decide +kernel)) (by decide +kernel)⟩
theorem mf56 : mfx 56 "java/lang/Integer" 1 (some .int) := ⟨by decide +kernel, by decide +kernel, by decide +kernel⟩
set_option maxRecDepth 20000 in
theorem mo56 : mok 56 1 := ⟨mt3 (List.mem_of_getElem? (i := 11) rfl) (by decide +kernel), mt1 (List.mem_of_getElem? (i := 14) (by decide +kernel)) (by decide +kernel), ⟨by decide +kernel, by decide +kernel, by decide +kernel⟩, by decide +kernel⟩
theorem mv56 : mokS 56 1 := ⟨mo56, mt3 (List.mem_of_getElem? (i := 10) (by decide +kernel)) (by decide +kernel)⟩
theorem mf57 : mfx 57 "ClearingWaves$Equations" 9 (some .long) := ⟨by decide +kernel, by decide +kernel, by decide +kernel⟩
set_option maxRecDepth 20000 in
theorem mo57 : mok 57 2 := ⟨mt3 (List.mem_of_getElem? (i := 18) rfl) (by decide +kernel), mt1 (List.mem_of_getElem? (i := 4) (by decide +kernel)) (by decide +kernel), ⟨by decide +kernel, by decide +kernel, by decide +kernel⟩, by decide +kernel⟩
theorem mv57 : mokV 57 2 := ⟨mo57, mt3 (List.mem_of_getElem? (i := 17) (by decide +kernel)) (by decide +kernel), ms2 (List.mem_of_getElem? (i := 2) (by decide +kernel)) (by decide +kernel)⟩
theorem mf58 : mfx 58 "ClearingWaves$Equations" 2 (some .long) := ⟨by decide +kernel, by decide +kernel, by decide +kernel⟩
set_option maxRecDepth 20000 in
theorem mo58 : mok 58 1 := ⟨mt3 (List.mem_of_getElem? (i := 22) rfl) (by decide +kernel), mt1 (List.mem_of_getElem? (i := 4) (by decide +kernel)) (by decide +kernel), ⟨by decide +kernel, by decide +kernel, by decide +kernel⟩, by decide +kernel⟩
theorem mv58 : mokV 58 1 := ⟨mo58, mt3 (List.mem_of_getElem? (i := 20) (by decide +kernel)) (by decide +kernel), mt3 (List.mem_of_getElem? (i := 21) (by decide +kernel)) (by decide +kernel)⟩
theorem mf59 : mfx 59 "ClearingWaves$Equations" 5 (some .long) := ⟨by decide +kernel, by decide +kernel, by decide +kernel⟩
set_option maxRecDepth 20000 in
theorem mo59 : mok 59 2 := ⟨mt3 (List.mem_of_getElem? (i := 26) rfl) (by decide +kernel), mt1 (List.mem_of_getElem? (i := 4) (by decide +kernel)) (by decide +kernel), ⟨by decide +kernel, by decide +kernel, by decide +kernel⟩, by decide +kernel⟩
theorem mv59 : mokV 59 2 := ⟨mo59, mt3 (List.mem_of_getElem? (i := 24) (by decide +kernel)) (by decide +kernel), mt3 (List.mem_of_getElem? (i := 25) (by decide +kernel)) (by decide +kernel)⟩
theorem mf60 : mfx 60 "ClearingWaves$Clearing" 5 (some .int) := ⟨by decide +kernel, by decide +kernel, by decide +kernel⟩
set_option maxRecDepth 20000 in
theorem mo60 : mok 60 1 := ⟨mt3 (List.mem_of_getElem? (i := 30) rfl) (by decide +kernel), mt1 (List.mem_of_getElem? (i := 3) (by decide +kernel)) (by decide +kernel), ⟨by decide +kernel, by decide +kernel, by decide +kernel⟩, by decide +kernel⟩
theorem mv60 : mokV 60 1 := ⟨mo60, mt3 (List.mem_of_getElem? (i := 29) (by decide +kernel)) (by decide +kernel), ms2 (List.mem_of_getElem? (i := 3) (by decide +kernel)) (by decide +kernel)⟩
theorem mf61 : mfx 61 "ClearingWaves$Clearing" 4 none := ⟨by decide +kernel, by decide +kernel, by decide +kernel⟩
set_option maxRecDepth 20000 in
theorem mo61 : mok 61 0 := ⟨mt3 (List.mem_of_getElem? (i := 34) rfl) (by decide +kernel), mt1 (List.mem_of_getElem? (i := 3) (by decide +kernel)) (by decide +kernel), ⟨by decide +kernel, by decide +kernel, by decide +kernel⟩, by decide +kernel⟩
theorem mv61 : mokV 61 0 := ⟨mo61, mt3 (List.mem_of_getElem? (i := 33) (by decide +kernel)) (by decide +kernel), ms2 (List.mem_of_getElem? (i := 4) (by decide +kernel)) (by decide +kernel)⟩
theorem mf62 : mfx 62 "ClearingWaves$Ratio" 11 (some .long) := ⟨by decide +kernel, by decide +kernel, by decide +kernel⟩
set_option maxRecDepth 20000 in
theorem mo62 : mok 62 2 := ⟨mt3 (List.mem_of_getElem? (i := 37) rfl) (by decide +kernel), mt1 (List.mem_of_getElem? (i := 15) (by decide +kernel)) (by decide +kernel), ⟨by decide +kernel, by decide +kernel, by decide +kernel⟩, by decide +kernel⟩
theorem mv62 : mokS 62 2 := ⟨mo62, mt3 (List.mem_of_getElem? (i := 36) (by decide +kernel)) (by decide +kernel)⟩
theorem mf63 : mfx 63 "java/lang/Math" 4 (some .long) := ⟨by decide +kernel, by decide +kernel, by decide +kernel⟩
set_option maxRecDepth 20000 in
theorem mo63 : mok 63 2 := ⟨mt3 (List.mem_of_getElem? (i := 40) rfl) (by decide +kernel), mt1 (List.mem_of_getElem? (i := 13) (by decide +kernel)) (by decide +kernel), ⟨by decide +kernel, by decide +kernel, by decide +kernel⟩, by decide +kernel⟩
theorem mv63 : mokS 63 2 := ⟨mo63, mt3 (List.mem_of_getElem? (i := 39) (by decide +kernel)) (by decide +kernel)⟩
theorem mf64 : mfx 64 "ClearingWaves$Clearing" 3 (some .boolean) := ⟨by decide +kernel, by decide +kernel, by decide +kernel⟩
set_option maxRecDepth 20000 in
theorem mo64 : mok 64 0 := ⟨mt3 (List.mem_of_getElem? (i := 44) rfl) (by decide +kernel), mt1 (List.mem_of_getElem? (i := 3) (by decide +kernel)) (by decide +kernel), ⟨by decide +kernel, by decide +kernel, by decide +kernel⟩, by decide +kernel⟩
theorem mv64 : mokV 64 0 := ⟨mo64, mt3 (List.mem_of_getElem? (i := 43) (by decide +kernel)) (by decide +kernel), ms2 (List.mem_of_getElem? (i := 5) (by decide +kernel)) (by decide +kernel)⟩
theorem mf65 : mfx 65 "ClearingWaves$Clearing" 3 (some .long) := ⟨by decide +kernel, by decide +kernel, by decide +kernel⟩
set_option maxRecDepth 20000 in
theorem mo65 : mok 65 2 := ⟨mt3 (List.mem_of_getElem? (i := 48) rfl) (by decide +kernel), mt1 (List.mem_of_getElem? (i := 3) (by decide +kernel)) (by decide +kernel), ⟨by decide +kernel, by decide +kernel, by decide +kernel⟩, by decide +kernel⟩
theorem mv65 : mokV 65 2 := ⟨mo65, mt3 (List.mem_of_getElem? (i := 46) (by decide +kernel)) (by decide +kernel), mt3 (List.mem_of_getElem? (i := 47) (by decide +kernel)) (by decide +kernel)⟩
theorem mf66 : mfx 66 "ClearingWaves" 2 (some .int) := ⟨by decide +kernel, by decide +kernel, by decide +kernel⟩
set_option maxRecDepth 20000 in
theorem mo66 : mok 66 1 := ⟨mt3 (List.mem_of_getElem? (i := 52) rfl) (by decide +kernel), mt1 (List.mem_of_getElem? (i := 1) (by decide +kernel)) (by decide +kernel), ⟨by decide +kernel, by decide +kernel, by decide +kernel⟩, by decide +kernel⟩
theorem mv66 : mokV 66 1 := ⟨mo66, mt3 (List.mem_of_getElem? (i := 50) (by decide +kernel)) (by decide +kernel), mt3 (List.mem_of_getElem? (i := 51) (by decide +kernel)) (by decide +kernel)⟩
theorem mf67 : mfx 67 "ClearingWaves" 1 (some .int) := ⟨by decide +kernel, by decide +kernel, by decide +kernel⟩
set_option maxRecDepth 20000 in
theorem mo67 : mok 67 0 := ⟨mt3 (List.mem_of_getElem? (i := 56) rfl) (by decide +kernel), mt1 (List.mem_of_getElem? (i := 1) (by decide +kernel)) (by decide +kernel), ⟨by decide +kernel, by decide +kernel, by decide +kernel⟩, by decide +kernel⟩
theorem mv67 : mokV 67 0 := ⟨mo67, mt3 (List.mem_of_getElem? (i := 54) (by decide +kernel)) (by decide +kernel), mt3 (List.mem_of_getElem? (i := 55) (by decide +kernel)) (by decide +kernel)⟩
theorem mf68 : mfx 68 "ClearingWaves" 4 (some .long) := ⟨by decide +kernel, by decide +kernel, by decide +kernel⟩
set_option maxRecDepth 20000 in
theorem mo68 : mok 68 3 := ⟨mt3 (List.mem_of_getElem? (i := 60) rfl) (by decide +kernel), mt1 (List.mem_of_getElem? (i := 1) (by decide +kernel)) (by decide +kernel), ⟨by decide +kernel, by decide +kernel, by decide +kernel⟩, by decide +kernel⟩
theorem mv68 : mokV 68 3 := ⟨mo68, mt3 (List.mem_of_getElem? (i := 58) (by decide +kernel)) (by decide +kernel), mt3 (List.mem_of_getElem? (i := 59) (by decide +kernel)) (by decide +kernel)⟩
theorem mf69 : mfx 69 "ClearingWaves" 6 (some .long) := ⟨by decide +kernel, by decide +kernel, by decide +kernel⟩
set_option maxRecDepth 20000 in
theorem mo69 : mok 69 4 := ⟨mt3 (List.mem_of_getElem? (i := 64) rfl) (by decide +kernel), mt1 (List.mem_of_getElem? (i := 1) (by decide +kernel)) (by decide +kernel), ⟨by decide +kernel, by decide +kernel, by decide +kernel⟩, by decide +kernel⟩
theorem mv69 : mokV 69 4 := ⟨mo69, mt3 (List.mem_of_getElem? (i := 62) (by decide +kernel)) (by decide +kernel), mt3 (List.mem_of_getElem? (i := 63) (by decide +kernel)) (by decide +kernel)⟩
theorem mf70 : mfx 70 "ClearingWaves$Clearing" 2 (some .boolean) := ⟨by decide +kernel, by decide +kernel, by decide +kernel⟩
set_option maxRecDepth 20000 in
theorem mo70 : mok 70 1 := ⟨mt3 (List.mem_of_getElem? (i := 68) rfl) (by decide +kernel), mt1 (List.mem_of_getElem? (i := 3) (by decide +kernel)) (by decide +kernel), ⟨by decide +kernel, by decide +kernel, by decide +kernel⟩, by decide +kernel⟩
theorem mv70 : mokV 70 1 := ⟨mo70, mt3 (List.mem_of_getElem? (i := 66) (by decide +kernel)) (by decide +kernel), mt3 (List.mem_of_getElem? (i := 67) (by decide +kernel)) (by decide +kernel)⟩
theorem mf71 : mfx 71 "ClearingWaves$Clearing" 4 (some .long) := ⟨by decide +kernel, by decide +kernel, by decide +kernel⟩
set_option maxRecDepth 20000 in
theorem mo71 : mok 71 3 := ⟨mt3 (List.mem_of_getElem? (i := 74) rfl) (by decide +kernel), mt1 (List.mem_of_getElem? (i := 3) (by decide +kernel)) (by decide +kernel), ⟨by decide +kernel, by decide +kernel, by decide +kernel⟩, by decide +kernel⟩
theorem mv71 : mokV 71 3 := ⟨mo71, mt3 (List.mem_of_getElem? (i := 72) (by decide +kernel)) (by decide +kernel), mt3 (List.mem_of_getElem? (i := 73) (by decide +kernel)) (by decide +kernel)⟩
theorem mf72 : mfx 72 "ClearingWaves$Clearing" 2 (some .long) := ⟨by decide +kernel, by decide +kernel, by decide +kernel⟩
set_option maxRecDepth 20000 in
theorem mo72 : mok 72 1 := ⟨mt3 (List.mem_of_getElem? (i := 78) rfl) (by decide +kernel), mt1 (List.mem_of_getElem? (i := 3) (by decide +kernel)) (by decide +kernel), ⟨by decide +kernel, by decide +kernel, by decide +kernel⟩, by decide +kernel⟩
theorem mv72 : mokV 72 1 := ⟨mo72, mt3 (List.mem_of_getElem? (i := 76) (by decide +kernel)) (by decide +kernel), mt3 (List.mem_of_getElem? (i := 77) (by decide +kernel)) (by decide +kernel)⟩
theorem mf73 : mfx 73 "ClearingWaves$Ratio" 7 (some .long) := ⟨by decide +kernel, by decide +kernel, by decide +kernel⟩
set_option maxRecDepth 20000 in
theorem mo73 : mok 73 3 := ⟨mt3 (List.mem_of_getElem? (i := 81) rfl) (by decide +kernel), mt1 (List.mem_of_getElem? (i := 15) (by decide +kernel)) (by decide +kernel), ⟨by decide +kernel, by decide +kernel, by decide +kernel⟩, by decide +kernel⟩
theorem mv73 : mokS 73 3 := ⟨mo73, mt3 (List.mem_of_getElem? (i := 80) (by decide +kernel)) (by decide +kernel)⟩
theorem mf74 : mfx 74 "ClearingWaves" 8 (some .long) := ⟨by decide +kernel, by decide +kernel, by decide +kernel⟩
set_option maxRecDepth 20000 in
theorem mo74 : mok 74 4 := ⟨mt3 (List.mem_of_getElem? (i := 88) rfl) (by decide +kernel), mt1 (List.mem_of_getElem? (i := 1) (by decide +kernel)) (by decide +kernel), ⟨by decide +kernel, by decide +kernel, by decide +kernel⟩, by decide +kernel⟩
theorem mv74 : mokV 74 4 := ⟨mo74, mt3 (List.mem_of_getElem? (i := 86) (by decide +kernel)) (by decide +kernel), mt3 (List.mem_of_getElem? (i := 87) (by decide +kernel)) (by decide +kernel)⟩
theorem mf75 : mfx 75 "ClearingWaves" 4 (some .long) := ⟨by decide +kernel, by decide +kernel, by decide +kernel⟩
set_option maxRecDepth 20000 in
theorem mo75 : mok 75 2 := ⟨mt3 (List.mem_of_getElem? (i := 92) rfl) (by decide +kernel), mt1 (List.mem_of_getElem? (i := 1) (by decide +kernel)) (by decide +kernel), ⟨by decide +kernel, by decide +kernel, by decide +kernel⟩, by decide +kernel⟩
theorem mv75 : mokV 75 2 := ⟨mo75, mt3 (List.mem_of_getElem? (i := 90) (by decide +kernel)) (by decide +kernel), mt3 (List.mem_of_getElem? (i := 91) (by decide +kernel)) (by decide +kernel)⟩
theorem mf76 : mfx 76 "ClearingWaves" 5 (some .long) := ⟨by decide +kernel, by decide +kernel, by decide +kernel⟩
set_option maxRecDepth 20000 in
theorem mo76 : mok 76 3 := ⟨mt3 (List.mem_of_getElem? (i := 97) rfl) (by decide +kernel), mt1 (List.mem_of_getElem? (i := 1) (by decide +kernel)) (by decide +kernel), ⟨by decide +kernel, by decide +kernel, by decide +kernel⟩, by decide +kernel⟩
theorem mv76 : mokV 76 3 := ⟨mo76, mt3 (List.mem_of_getElem? (i := 95) (by decide +kernel)) (by decide +kernel), mt3 (List.mem_of_getElem? (i := 96) (by decide +kernel)) (by decide +kernel)⟩
theorem mf77 : mfx 77 "ClearingWaves" 4 (some .long) := ⟨by decide +kernel, by decide +kernel, by decide +kernel⟩
set_option maxRecDepth 20000 in
theorem mo77 : mok 77 2 := ⟨mt3 (List.mem_of_getElem? (i := 102) rfl) (by decide +kernel), mt1 (List.mem_of_getElem? (i := 1) (by decide +kernel)) (by decide +kernel), ⟨by decide +kernel, by decide +kernel, by decide +kernel⟩, by decide +kernel⟩
theorem mv77 : mokV 77 2 := ⟨mo77, mt3 (List.mem_of_getElem? (i := 100) (by decide +kernel)) (by decide +kernel), mt3 (List.mem_of_getElem? (i := 101) (by decide +kernel)) (by decide +kernel)⟩
theorem mf78 : mfx 78 "ClearingWaves$Clearing" 2 (some .long) := ⟨by decide +kernel, by decide +kernel, by decide +kernel⟩
set_option maxRecDepth 20000 in
theorem mo78 : mok 78 1 := ⟨mt3 (List.mem_of_getElem? (i := 106) rfl) (by decide +kernel), mt1 (List.mem_of_getElem? (i := 3) (by decide +kernel)) (by decide +kernel), ⟨by decide +kernel, by decide +kernel, by decide +kernel⟩, by decide +kernel⟩
theorem mv78 : mokV 78 1 := ⟨mo78, mt3 (List.mem_of_getElem? (i := 104) (by decide +kernel)) (by decide +kernel), mt3 (List.mem_of_getElem? (i := 105) (by decide +kernel)) (by decide +kernel)⟩
theorem mf79 : mfx 79 "ClearingWaves" 4 (some .long) := ⟨by decide +kernel, by decide +kernel, by decide +kernel⟩
set_option maxRecDepth 20000 in
theorem mo79 : mok 79 2 := ⟨mt3 (List.mem_of_getElem? (i := 110) rfl) (by decide +kernel), mt1 (List.mem_of_getElem? (i := 1) (by decide +kernel)) (by decide +kernel), ⟨by decide +kernel, by decide +kernel, by decide +kernel⟩, by decide +kernel⟩
theorem mv79 : mokV 79 2 := ⟨mo79, mt3 (List.mem_of_getElem? (i := 108) (by decide +kernel)) (by decide +kernel), mt3 (List.mem_of_getElem? (i := 109) (by decide +kernel)) (by decide +kernel)⟩
theorem mf80 : mfx 80 "ClearingWaves$Clearing" 4 (some .long) := ⟨by decide +kernel, by decide +kernel, by decide +kernel⟩
set_option maxRecDepth 20000 in
theorem mo80 : mok 80 1 := ⟨mt3 (List.mem_of_getElem? (i := 114) rfl) (by decide +kernel), mt1 (List.mem_of_getElem? (i := 3) (by decide +kernel)) (by decide +kernel), ⟨by decide +kernel, by decide +kernel, by decide +kernel⟩, by decide +kernel⟩
theorem mv80 : mokV 80 1 := ⟨mo80, mt3 (List.mem_of_getElem? (i := 112) (by decide +kernel)) (by decide +kernel), mt3 (List.mem_of_getElem? (i := 113) (by decide +kernel)) (by decide +kernel)⟩
theorem mf81 : mfx 81 "ClearingWaves" 5 (some .long) := ⟨by decide +kernel, by decide +kernel, by decide +kernel⟩
set_option maxRecDepth 20000 in
theorem mo81 : mok 81 3 := ⟨mt3 (List.mem_of_getElem? (i := 119) rfl) (by decide +kernel), mt1 (List.mem_of_getElem? (i := 1) (by decide +kernel)) (by decide +kernel), ⟨by decide +kernel, by decide +kernel, by decide +kernel⟩, by decide +kernel⟩
theorem mv81 : mokV 81 3 := ⟨mo81, mt3 (List.mem_of_getElem? (i := 117) (by decide +kernel)) (by decide +kernel), mt3 (List.mem_of_getElem? (i := 118) (by decide +kernel)) (by decide +kernel)⟩
theorem mf82 : mfx 82 "ClearingWaves$Clearing" 7 (some .long) := ⟨by decide +kernel, by decide +kernel, by decide +kernel⟩
set_option maxRecDepth 20000 in
theorem mo82 : mok 82 3 := ⟨mt3 (List.mem_of_getElem? (i := 123) rfl) (by decide +kernel), mt1 (List.mem_of_getElem? (i := 3) (by decide +kernel)) (by decide +kernel), ⟨by decide +kernel, by decide +kernel, by decide +kernel⟩, by decide +kernel⟩
theorem mv82 : mokV 82 3 := ⟨mo82, mt3 (List.mem_of_getElem? (i := 121) (by decide +kernel)) (by decide +kernel), mt3 (List.mem_of_getElem? (i := 122) (by decide +kernel)) (by decide +kernel)⟩
theorem mf83 : mfx 83 "ClearingWaves" 9 (some .long) := ⟨by decide +kernel, by decide +kernel, by decide +kernel⟩
set_option maxRecDepth 20000 in
theorem mo83 : mok 83 2 := ⟨mt3 (List.mem_of_getElem? (i := 128) rfl) (by decide +kernel), mt1 (List.mem_of_getElem? (i := 1) (by decide +kernel)) (by decide +kernel), ⟨by decide +kernel, by decide +kernel, by decide +kernel⟩, by decide +kernel⟩
theorem mv83 : mokV 83 2 := ⟨mo83, mt3 (List.mem_of_getElem? (i := 126) (by decide +kernel)) (by decide +kernel), mt3 (List.mem_of_getElem? (i := 127) (by decide +kernel)) (by decide +kernel)⟩
theorem mf84 : mfx 84 "ClearingWaves$Clearing" 4 (some .long) := ⟨by decide +kernel, by decide +kernel, by decide +kernel⟩
set_option maxRecDepth 20000 in
theorem mo84 : mok 84 0 := ⟨mt3 (List.mem_of_getElem? (i := 132) rfl) (by decide +kernel), mt1 (List.mem_of_getElem? (i := 3) (by decide +kernel)) (by decide +kernel), ⟨by decide +kernel, by decide +kernel, by decide +kernel⟩, by decide +kernel⟩
theorem mv84 : mokV 84 0 := ⟨mo84, mt3 (List.mem_of_getElem? (i := 130) (by decide +kernel)) (by decide +kernel), mt3 (List.mem_of_getElem? (i := 131) (by decide +kernel)) (by decide +kernel)⟩
theorem mf85 : mfx 85 "ClearingWaves$Clearing" 5 (some .long) := ⟨by decide +kernel, by decide +kernel, by decide +kernel⟩
set_option maxRecDepth 20000 in
theorem mo85 : mok 85 1 := ⟨mt3 (List.mem_of_getElem? (i := 136) rfl) (by decide +kernel), mt1 (List.mem_of_getElem? (i := 3) (by decide +kernel)) (by decide +kernel), ⟨by decide +kernel, by decide +kernel, by decide +kernel⟩, by decide +kernel⟩
theorem mv85 : mokV 85 1 := ⟨mo85, mt3 (List.mem_of_getElem? (i := 134) (by decide +kernel)) (by decide +kernel), mt3 (List.mem_of_getElem? (i := 135) (by decide +kernel)) (by decide +kernel)⟩
theorem mf86 : mfx 86 "ClearingWaves" 2 (some .int) := ⟨by decide +kernel, by decide +kernel, by decide +kernel⟩
set_option maxRecDepth 20000 in
theorem mo86 : mok 86 1 := ⟨mt3 (List.mem_of_getElem? (i := 140) rfl) (by decide +kernel), mt1 (List.mem_of_getElem? (i := 1) (by decide +kernel)) (by decide +kernel), ⟨by decide +kernel, by decide +kernel, by decide +kernel⟩, by decide +kernel⟩
theorem mv86 : mokV 86 1 := ⟨mo86, mt3 (List.mem_of_getElem? (i := 138) (by decide +kernel)) (by decide +kernel), mt3 (List.mem_of_getElem? (i := 139) (by decide +kernel)) (by decide +kernel)⟩
theorem mf87 : mfx 87 "ClearingWaves" 6 (some .int) := ⟨by decide +kernel, by decide +kernel, by decide +kernel⟩
set_option maxRecDepth 20000 in
theorem mo87 : mok 87 2 := ⟨mt3 (List.mem_of_getElem? (i := 144) rfl) (by decide +kernel), mt1 (List.mem_of_getElem? (i := 1) (by decide +kernel)) (by decide +kernel), ⟨by decide +kernel, by decide +kernel, by decide +kernel⟩, by decide +kernel⟩
theorem mv87 : mokV 87 2 := ⟨mo87, mt3 (List.mem_of_getElem? (i := 142) (by decide +kernel)) (by decide +kernel), mt3 (List.mem_of_getElem? (i := 143) (by decide +kernel)) (by decide +kernel)⟩
theorem mf88 : mfx 88 "ClearingWaves$Clearing" 9 (some .int) := ⟨by decide +kernel, by decide +kernel, by decide +kernel⟩
set_option maxRecDepth 20000 in
theorem mo88 : mok 88 1 := ⟨mt3 (List.mem_of_getElem? (i := 148) rfl) (by decide +kernel), mt1 (List.mem_of_getElem? (i := 3) (by decide +kernel)) (by decide +kernel), ⟨by decide +kernel, by decide +kernel, by decide +kernel⟩, by decide +kernel⟩
theorem mv88 : mokV 88 1 := ⟨mo88, mt3 (List.mem_of_getElem? (i := 146) (by decide +kernel)) (by decide +kernel), mt3 (List.mem_of_getElem? (i := 147) (by decide +kernel)) (by decide +kernel)⟩
theorem mf89 : mfx 89 "ClearingWaves" 6 (some .int) := ⟨by decide +kernel, by decide +kernel, by decide +kernel⟩
set_option maxRecDepth 20000 in
theorem mo89 : mok 89 1 := ⟨mt3 (List.mem_of_getElem? (i := 155) rfl) (by decide +kernel), mt1 (List.mem_of_getElem? (i := 1) (by decide +kernel)) (by decide +kernel), ⟨by decide +kernel, by decide +kernel, by decide +kernel⟩, by decide +kernel⟩
theorem mv89 : mokV 89 1 := ⟨mo89, mt3 (List.mem_of_getElem? (i := 153) (by decide +kernel)) (by decide +kernel), mt3 (List.mem_of_getElem? (i := 154) (by decide +kernel)) (by decide +kernel)⟩
theorem mf90 : mfx 90 "ClearingWaves" 7 (some .int) := ⟨by decide +kernel, by decide +kernel, by decide +kernel⟩
set_option maxRecDepth 20000 in
theorem mo90 : mok 90 1 := ⟨mt3 (List.mem_of_getElem? (i := 159) rfl) (by decide +kernel), mt1 (List.mem_of_getElem? (i := 1) (by decide +kernel)) (by decide +kernel), ⟨by decide +kernel, by decide +kernel, by decide +kernel⟩, by decide +kernel⟩
theorem mv90 : mokV 90 1 := ⟨mo90, mt3 (List.mem_of_getElem? (i := 157) (by decide +kernel)) (by decide +kernel), mt3 (List.mem_of_getElem? (i := 158) (by decide +kernel)) (by decide +kernel)⟩
theorem mf91 : mfx 91 "ClearingWaves" 4 (some .int) := ⟨by decide +kernel, by decide +kernel, by decide +kernel⟩
set_option maxRecDepth 20000 in
theorem mo91 : mok 91 3 := ⟨mt3 (List.mem_of_getElem? (i := 163) rfl) (by decide +kernel), mt1 (List.mem_of_getElem? (i := 1) (by decide +kernel)) (by decide +kernel), ⟨by decide +kernel, by decide +kernel, by decide +kernel⟩, by decide +kernel⟩
theorem mv91 : mokV 91 3 := ⟨mo91, mt3 (List.mem_of_getElem? (i := 161) (by decide +kernel)) (by decide +kernel), mt3 (List.mem_of_getElem? (i := 162) (by decide +kernel)) (by decide +kernel)⟩
theorem mf92 : mfx 92 "ClearingWaves" 1 (some (.object "ClearingWaves$Coins")) := ⟨by decide +kernel, by decide +kernel, by decide +kernel⟩
set_option maxRecDepth 20000 in
theorem mo92 : mok 92 0 := ⟨mt3 (List.mem_of_getElem? (i := 167) rfl) (by decide +kernel), mt1 (List.mem_of_getElem? (i := 1) (by decide +kernel)) (by decide +kernel), ⟨by decide +kernel, by decide +kernel, by decide +kernel⟩, by decide +kernel⟩
theorem mv92 : mokV 92 0 := ⟨mo92, mt3 (List.mem_of_getElem? (i := 166) (by decide +kernel)) (by decide +kernel), ms2 (List.mem_of_getElem? (i := 6) (by decide +kernel)) (by decide +kernel)⟩
theorem mf93 : mfx 93 "ClearingWaves$Coins" 4 none := ⟨by decide +kernel, by decide +kernel, by decide +kernel⟩
set_option maxRecDepth 20000 in
theorem mo93 : mok 93 0 := ⟨mt3 (List.mem_of_getElem? (i := 171) rfl) (by decide +kernel), mt1 (List.mem_of_getElem? (i := 5) (by decide +kernel)) (by decide +kernel), ⟨by decide +kernel, by decide +kernel, by decide +kernel⟩, by decide +kernel⟩
theorem mv93 : mokV 93 0 := ⟨mo93, mt3 (List.mem_of_getElem? (i := 169) (by decide +kernel)) (by decide +kernel), mt3 (List.mem_of_getElem? (i := 170) (by decide +kernel)) (by decide +kernel)⟩
theorem mf94 : mfx 94 "ClearingWaves$Coins" 4 none := ⟨by decide +kernel, by decide +kernel, by decide +kernel⟩
set_option maxRecDepth 20000 in
theorem mo94 : mok 94 0 := ⟨mt3 (List.mem_of_getElem? (i := 178) rfl) (by decide +kernel), mt1 (List.mem_of_getElem? (i := 5) (by decide +kernel)) (by decide +kernel), ⟨by decide +kernel, by decide +kernel, by decide +kernel⟩, by decide +kernel⟩
theorem mv94 : mokV 94 0 := ⟨mo94, mt3 (List.mem_of_getElem? (i := 177) (by decide +kernel)) (by decide +kernel), ms2 (List.mem_of_getElem? (i := 7) (by decide +kernel)) (by decide +kernel)⟩
theorem mf95 : mfx 95 "ClearingWaves$Coins" 4 (some .int) := ⟨by decide +kernel, by decide +kernel, by decide +kernel⟩
set_option maxRecDepth 20000 in
theorem mo95 : mok 95 3 := ⟨mt3 (List.mem_of_getElem? (i := 182) rfl) (by decide +kernel), mt1 (List.mem_of_getElem? (i := 5) (by decide +kernel)) (by decide +kernel), ⟨by decide +kernel, by decide +kernel, by decide +kernel⟩, by decide +kernel⟩
theorem mv95 : mokV 95 3 := ⟨mo95, mt3 (List.mem_of_getElem? (i := 180) (by decide +kernel)) (by decide +kernel), mt3 (List.mem_of_getElem? (i := 181) (by decide +kernel)) (by decide +kernel)⟩
theorem mf96 : mfx 96 "ClearingWaves$Coins" 3 (some .int) := ⟨by decide +kernel, by decide +kernel, by decide +kernel⟩
set_option maxRecDepth 20000 in
theorem mo96 : mok 96 3 := ⟨mt3 (List.mem_of_getElem? (i := 185) rfl) (by decide +kernel), mt1 (List.mem_of_getElem? (i := 5) (by decide +kernel)) (by decide +kernel), ⟨by decide +kernel, by decide +kernel, by decide +kernel⟩, by decide +kernel⟩
theorem mv96 : mokS 96 3 := ⟨mo96, mt3 (List.mem_of_getElem? (i := 184) (by decide +kernel)) (by decide +kernel)⟩
theorem mf97 : mfx 97 "ClearingWaves$Coins" 11 (some .boolean) := ⟨by decide +kernel, by decide +kernel, by decide +kernel⟩
set_option maxRecDepth 20000 in
theorem mo97 : mok 97 1 := ⟨mt3 (List.mem_of_getElem? (i := 189) rfl) (by decide +kernel), mt1 (List.mem_of_getElem? (i := 5) (by decide +kernel)) (by decide +kernel), ⟨by decide +kernel, by decide +kernel, by decide +kernel⟩, by decide +kernel⟩
theorem mv97 : mokV 97 1 := ⟨mo97, mt3 (List.mem_of_getElem? (i := 188) (by decide +kernel)) (by decide +kernel), ms2 (List.mem_of_getElem? (i := 8) (by decide +kernel)) (by decide +kernel)⟩
theorem mf98 : mfx 98 "ClearingWaves$Coins" 2 (some .boolean) := ⟨by decide +kernel, by decide +kernel, by decide +kernel⟩
set_option maxRecDepth 20000 in
theorem mo98 : mok 98 1 := ⟨mt3 (List.mem_of_getElem? (i := 193) rfl) (by decide +kernel), mt1 (List.mem_of_getElem? (i := 5) (by decide +kernel)) (by decide +kernel), ⟨by decide +kernel, by decide +kernel, by decide +kernel⟩, by decide +kernel⟩
theorem mv98 : mokV 98 1 := ⟨mo98, mt3 (List.mem_of_getElem? (i := 192) (by decide +kernel)) (by decide +kernel), ms2 (List.mem_of_getElem? (i := 9) (by decide +kernel)) (by decide +kernel)⟩
theorem mf99 : mfx 99 "ClearingWaves$Book" 2 (some .int) := ⟨by decide +kernel, by decide +kernel, by decide +kernel⟩
set_option maxRecDepth 20000 in
theorem mo99 : mok 99 1 := ⟨mt3 (List.mem_of_getElem? (i := 197) rfl) (by decide +kernel), mt1 (List.mem_of_getElem? (i := 2) (by decide +kernel)) (by decide +kernel), ⟨by decide +kernel, by decide +kernel, by decide +kernel⟩, by decide +kernel⟩
theorem mv99 : mokV 99 1 := ⟨mo99, mt3 (List.mem_of_getElem? (i := 195) (by decide +kernel)) (by decide +kernel), mt3 (List.mem_of_getElem? (i := 196) (by decide +kernel)) (by decide +kernel)⟩
theorem mf100 : mfx 100 "ClearingWaves$Coins" 3 (some .int) := ⟨by decide +kernel, by decide +kernel, by decide +kernel⟩
set_option maxRecDepth 20000 in
theorem mo100 : mok 100 1 := ⟨mt3 (List.mem_of_getElem? (i := 202) rfl) (by decide +kernel), mt1 (List.mem_of_getElem? (i := 5) (by decide +kernel)) (by decide +kernel), ⟨by decide +kernel, by decide +kernel, by decide +kernel⟩, by decide +kernel⟩
theorem mv100 : mokV 100 1 := ⟨mo100, mt3 (List.mem_of_getElem? (i := 201) (by decide +kernel)) (by decide +kernel), ms2 (List.mem_of_getElem? (i := 10) (by decide +kernel)) (by decide +kernel)⟩
theorem mf101 : mfx 101 "java/lang/Math" 2 (some .int) := ⟨by decide +kernel, by decide +kernel, by decide +kernel⟩
set_option maxRecDepth 20000 in
theorem mo101 : mok 101 2 := ⟨mt3 (List.mem_of_getElem? (i := 206) rfl) (by decide +kernel), mt1 (List.mem_of_getElem? (i := 13) (by decide +kernel)) (by decide +kernel), ⟨by decide +kernel, by decide +kernel, by decide +kernel⟩, by decide +kernel⟩
theorem mv101 : mokS 101 2 := ⟨mo101, mt3 (List.mem_of_getElem? (i := 205) (by decide +kernel)) (by decide +kernel)⟩
theorem mf102 : mfx 102 "ClearingWaves" 1 (some .int) := ⟨by decide +kernel, by decide +kernel, by decide +kernel⟩
set_option maxRecDepth 20000 in
theorem mo102 : mok 102 0 := ⟨mt3 (List.mem_of_getElem? (i := 211) rfl) (by decide +kernel), mt1 (List.mem_of_getElem? (i := 1) (by decide +kernel)) (by decide +kernel), ⟨by decide +kernel, by decide +kernel, by decide +kernel⟩, by decide +kernel⟩
theorem mv102 : mokV 102 0 := ⟨mo102, mt3 (List.mem_of_getElem? (i := 209) (by decide +kernel)) (by decide +kernel), mt3 (List.mem_of_getElem? (i := 210) (by decide +kernel)) (by decide +kernel)⟩
theorem mf103 : mfx 103 "ClearingWaves" 1 (some .int) := ⟨by decide +kernel, by decide +kernel, by decide +kernel⟩
set_option maxRecDepth 20000 in
theorem mo103 : mok 103 0 := ⟨mt3 (List.mem_of_getElem? (i := 215) rfl) (by decide +kernel), mt1 (List.mem_of_getElem? (i := 1) (by decide +kernel)) (by decide +kernel), ⟨by decide +kernel, by decide +kernel, by decide +kernel⟩, by decide +kernel⟩
theorem mv103 : mokV 103 0 := ⟨mo103, mt3 (List.mem_of_getElem? (i := 213) (by decide +kernel)) (by decide +kernel), mt3 (List.mem_of_getElem? (i := 214) (by decide +kernel)) (by decide +kernel)⟩
theorem mf104 : mfx 104 "ClearingWaves$Coins" 3 (some .int) := ⟨by decide +kernel, by decide +kernel, by decide +kernel⟩
set_option maxRecDepth 20000 in
theorem mo104 : mok 104 0 := ⟨mt3 (List.mem_of_getElem? (i := 219) rfl) (by decide +kernel), mt1 (List.mem_of_getElem? (i := 5) (by decide +kernel)) (by decide +kernel), ⟨by decide +kernel, by decide +kernel, by decide +kernel⟩, by decide +kernel⟩
theorem mv104 : mokV 104 0 := ⟨mo104, mt3 (List.mem_of_getElem? (i := 217) (by decide +kernel)) (by decide +kernel), mt3 (List.mem_of_getElem? (i := 218) (by decide +kernel)) (by decide +kernel)⟩
theorem mf105 : mfx 105 "ClearingWaves" 1 (some .int) := ⟨by decide +kernel, by decide +kernel, by decide +kernel⟩
set_option maxRecDepth 20000 in
theorem mo105 : mok 105 0 := ⟨mt3 (List.mem_of_getElem? (i := 223) rfl) (by decide +kernel), mt1 (List.mem_of_getElem? (i := 1) (by decide +kernel)) (by decide +kernel), ⟨by decide +kernel, by decide +kernel, by decide +kernel⟩, by decide +kernel⟩
theorem mv105 : mokV 105 0 := ⟨mo105, mt3 (List.mem_of_getElem? (i := 221) (by decide +kernel)) (by decide +kernel), mt3 (List.mem_of_getElem? (i := 222) (by decide +kernel)) (by decide +kernel)⟩
theorem mf106 : mfx 106 "ClearingWaves$Coins" 3 (some .int) := ⟨by decide +kernel, by decide +kernel, by decide +kernel⟩
set_option maxRecDepth 20000 in
theorem mo106 : mok 106 0 := ⟨mt3 (List.mem_of_getElem? (i := 227) rfl) (by decide +kernel), mt1 (List.mem_of_getElem? (i := 5) (by decide +kernel)) (by decide +kernel), ⟨by decide +kernel, by decide +kernel, by decide +kernel⟩, by decide +kernel⟩
theorem mv106 : mokV 106 0 := ⟨mo106, mt3 (List.mem_of_getElem? (i := 225) (by decide +kernel)) (by decide +kernel), mt3 (List.mem_of_getElem? (i := 226) (by decide +kernel)) (by decide +kernel)⟩
theorem mf107 : mfx 107 "ClearingWaves" 3 (some .int) := ⟨by decide +kernel, by decide +kernel, by decide +kernel⟩
set_option maxRecDepth 20000 in
theorem mo107 : mok 107 2 := ⟨mt3 (List.mem_of_getElem? (i := 231) rfl) (by decide +kernel), mt1 (List.mem_of_getElem? (i := 1) (by decide +kernel)) (by decide +kernel), ⟨by decide +kernel, by decide +kernel, by decide +kernel⟩, by decide +kernel⟩
theorem mv107 : mokV 107 2 := ⟨mo107, mt3 (List.mem_of_getElem? (i := 229) (by decide +kernel)) (by decide +kernel), mt3 (List.mem_of_getElem? (i := 230) (by decide +kernel)) (by decide +kernel)⟩
theorem mf108 : mfx 108 "ClearingWaves" 1 (some .boolean) := ⟨by decide +kernel, by decide +kernel, by decide +kernel⟩
set_option maxRecDepth 20000 in
theorem mo108 : mok 108 1 := ⟨mt3 (List.mem_of_getElem? (i := 234) rfl) (by decide +kernel), mt1 (List.mem_of_getElem? (i := 1) (by decide +kernel)) (by decide +kernel), ⟨by decide +kernel, by decide +kernel, by decide +kernel⟩, by decide +kernel⟩
theorem mv108 : mokS 108 1 := ⟨mo108, mt3 (List.mem_of_getElem? (i := 233) (by decide +kernel)) (by decide +kernel)⟩
theorem mf109 : mfx 109 "ClearingWaves" 3 (some .int) := ⟨by decide +kernel, by decide +kernel, by decide +kernel⟩
set_option maxRecDepth 20000 in
theorem mo109 : mok 109 2 := ⟨mt3 (List.mem_of_getElem? (i := 238) rfl) (by decide +kernel), mt1 (List.mem_of_getElem? (i := 1) (by decide +kernel)) (by decide +kernel), ⟨by decide +kernel, by decide +kernel, by decide +kernel⟩, by decide +kernel⟩
theorem mv109 : mokV 109 2 := ⟨mo109, mt3 (List.mem_of_getElem? (i := 237) (by decide +kernel)) (by decide +kernel), ms2 (List.mem_of_getElem? (i := 11) (by decide +kernel)) (by decide +kernel)⟩
theorem mf110 : mfx 110 "ClearingWaves" 1 none := ⟨by decide +kernel, by decide +kernel, by decide +kernel⟩
set_option maxRecDepth 20000 in
theorem mo110 : mok 110 0 := ⟨mt4 (List.mem_of_getElem? (i := 2) rfl) (by decide +kernel), mt1 (List.mem_of_getElem? (i := 1) (by decide +kernel)) (by decide +kernel), ⟨by decide +kernel, by decide +kernel, by decide +kernel⟩, by decide +kernel⟩
theorem mv110 : mokV 110 0 := ⟨mo110, mt4 (List.mem_of_getElem? (i := 1) (by decide +kernel)) (by decide +kernel), ms2 (List.mem_of_getElem? (i := 12) (by decide +kernel)) (by decide +kernel)⟩
theorem mf111 : mfx 111 "ClearingWaves" 3 (some .int) := ⟨by decide +kernel, by decide +kernel, by decide +kernel⟩
set_option maxRecDepth 20000 in
theorem mo111 : mok 111 2 := ⟨mt4 (List.mem_of_getElem? (i := 8) rfl) (by decide +kernel), mt1 (List.mem_of_getElem? (i := 1) (by decide +kernel)) (by decide +kernel), ⟨by decide +kernel, by decide +kernel, by decide +kernel⟩, by decide +kernel⟩
theorem mv111 : mokV 111 2 := ⟨mo111, mt4 (List.mem_of_getElem? (i := 6) (by decide +kernel)) (by decide +kernel), mt4 (List.mem_of_getElem? (i := 7) (by decide +kernel)) (by decide +kernel)⟩
theorem mf112 : mfx 112 "ClearingWaves" 3 (some .int) := ⟨by decide +kernel, by decide +kernel, by decide +kernel⟩
set_option maxRecDepth 20000 in
theorem mo112 : mok 112 2 := ⟨mt4 (List.mem_of_getElem? (i := 12) rfl) (by decide +kernel), mt1 (List.mem_of_getElem? (i := 1) (by decide +kernel)) (by decide +kernel), ⟨by decide +kernel, by decide +kernel, by decide +kernel⟩, by decide +kernel⟩
theorem mv112 : mokV 112 2 := ⟨mo112, mt4 (List.mem_of_getElem? (i := 10) (by decide +kernel)) (by decide +kernel), mt4 (List.mem_of_getElem? (i := 11) (by decide +kernel)) (by decide +kernel)⟩
theorem mf113 : mfx 113 "ClearingWaves" 19 (some .int) := ⟨by decide +kernel, by decide +kernel, by decide +kernel⟩
set_option maxRecDepth 20000 in
theorem mo113 : mok 113 2 := ⟨mt4 (List.mem_of_getElem? (i := 16) rfl) (by decide +kernel), mt1 (List.mem_of_getElem? (i := 1) (by decide +kernel)) (by decide +kernel), ⟨by decide +kernel, by decide +kernel, by decide +kernel⟩, by decide +kernel⟩
theorem mv113 : mokV 113 2 := ⟨mo113, mt4 (List.mem_of_getElem? (i := 15) (by decide +kernel)) (by decide +kernel), ms2 (List.mem_of_getElem? (i := 13) (by decide +kernel)) (by decide +kernel)⟩
theorem mf114 : mfx 114 "java/lang/Integer" 2 (some .int) := ⟨by decide +kernel, by decide +kernel, by decide +kernel⟩
set_option maxRecDepth 20000 in
theorem mo114 : mok 114 2 := ⟨mt4 (List.mem_of_getElem? (i := 20) rfl) (by decide +kernel), mt1 (List.mem_of_getElem? (i := 14) (by decide +kernel)) (by decide +kernel), ⟨by decide +kernel, by decide +kernel, by decide +kernel⟩, by decide +kernel⟩
theorem mv114 : mokS 114 2 := ⟨mo114, mt4 (List.mem_of_getElem? (i := 19) (by decide +kernel)) (by decide +kernel)⟩
theorem mf115 : mfx 115 "ClearingWaves$Ratio" 26 (some .int) := ⟨by decide +kernel, by decide +kernel, by decide +kernel⟩
set_option maxRecDepth 20000 in
theorem mo115 : mok 115 4 := ⟨mt4 (List.mem_of_getElem? (i := 23) rfl) (by decide +kernel), mt1 (List.mem_of_getElem? (i := 15) (by decide +kernel)) (by decide +kernel), ⟨by decide +kernel, by decide +kernel, by decide +kernel⟩, by decide +kernel⟩
theorem mv115 : mokS 115 4 := ⟨mo115, mt4 (List.mem_of_getElem? (i := 22) (by decide +kernel)) (by decide +kernel)⟩
theorem mf116 : mfx 116 "ClearingWaves" 3 (some .int) := ⟨by decide +kernel, by decide +kernel, by decide +kernel⟩
set_option maxRecDepth 20000 in
theorem mo116 : mok 116 2 := ⟨mt4 (List.mem_of_getElem? (i := 27) rfl) (by decide +kernel), mt1 (List.mem_of_getElem? (i := 1) (by decide +kernel)) (by decide +kernel), ⟨by decide +kernel, by decide +kernel, by decide +kernel⟩, by decide +kernel⟩
theorem mv116 : mokV 116 2 := ⟨mo116, mt4 (List.mem_of_getElem? (i := 25) (by decide +kernel)) (by decide +kernel), mt4 (List.mem_of_getElem? (i := 26) (by decide +kernel)) (by decide +kernel)⟩
theorem mf117 : mfx 117 "ClearingWaves" 7 (some .int) := ⟨by decide +kernel, by decide +kernel, by decide +kernel⟩
set_option maxRecDepth 20000 in
theorem mo117 : mok 117 2 := ⟨mt4 (List.mem_of_getElem? (i := 31) rfl) (by decide +kernel), mt1 (List.mem_of_getElem? (i := 1) (by decide +kernel)) (by decide +kernel), ⟨by decide +kernel, by decide +kernel, by decide +kernel⟩, by decide +kernel⟩
theorem mv117 : mokV 117 2 := ⟨mo117, mt4 (List.mem_of_getElem? (i := 30) (by decide +kernel)) (by decide +kernel), ms2 (List.mem_of_getElem? (i := 14) (by decide +kernel)) (by decide +kernel)⟩
theorem mf118 : mfx 118 "ClearingWaves" 2 (some .int) := ⟨by decide +kernel, by decide +kernel, by decide +kernel⟩
set_option maxRecDepth 20000 in
theorem mo118 : mok 118 1 := ⟨mt4 (List.mem_of_getElem? (i := 35) rfl) (by decide +kernel), mt1 (List.mem_of_getElem? (i := 1) (by decide +kernel)) (by decide +kernel), ⟨by decide +kernel, by decide +kernel, by decide +kernel⟩, by decide +kernel⟩
theorem mv118 : mokV 118 1 := ⟨mo118, mt4 (List.mem_of_getElem? (i := 33) (by decide +kernel)) (by decide +kernel), mt4 (List.mem_of_getElem? (i := 34) (by decide +kernel)) (by decide +kernel)⟩
theorem mf119 : mfx 119 "ClearingWaves" 5 (some .int) := ⟨by decide +kernel, by decide +kernel, by decide +kernel⟩
set_option maxRecDepth 20000 in
theorem mo119 : mok 119 0 := ⟨mt4 (List.mem_of_getElem? (i := 39) rfl) (by decide +kernel), mt1 (List.mem_of_getElem? (i := 1) (by decide +kernel)) (by decide +kernel), ⟨by decide +kernel, by decide +kernel, by decide +kernel⟩, by decide +kernel⟩
theorem mv119 : mokV 119 0 := ⟨mo119, mt4 (List.mem_of_getElem? (i := 37) (by decide +kernel)) (by decide +kernel), mt4 (List.mem_of_getElem? (i := 38) (by decide +kernel)) (by decide +kernel)⟩
theorem mf120 : mfx 120 "ClearingWaves" 8 (some .int) := ⟨by decide +kernel, by decide +kernel, by decide +kernel⟩
set_option maxRecDepth 20000 in
theorem mo120 : mok 120 5 := ⟨mt4 (List.mem_of_getElem? (i := 43) rfl) (by decide +kernel), mt1 (List.mem_of_getElem? (i := 1) (by decide +kernel)) (by decide +kernel), ⟨by decide +kernel, by decide +kernel, by decide +kernel⟩, by decide +kernel⟩
theorem mv120 : mokV 120 5 := ⟨mo120, mt4 (List.mem_of_getElem? (i := 41) (by decide +kernel)) (by decide +kernel), mt4 (List.mem_of_getElem? (i := 42) (by decide +kernel)) (by decide +kernel)⟩
theorem mf121 : mfx 121 "ClearingWaves$Rows" 2 (some .boolean) := ⟨by decide +kernel, by decide +kernel, by decide +kernel⟩
set_option maxRecDepth 20000 in
theorem mo121 : mok 121 1 := ⟨mt4 (List.mem_of_getElem? (i := 47) rfl) (by decide +kernel), mt1 (List.mem_of_getElem? (i := 11) (by decide +kernel)) (by decide +kernel), ⟨by decide +kernel, by decide +kernel, by decide +kernel⟩, by decide +kernel⟩
theorem mv121 : mokV 121 1 := ⟨mo121, mt4 (List.mem_of_getElem? (i := 45) (by decide +kernel)) (by decide +kernel), mt4 (List.mem_of_getElem? (i := 46) (by decide +kernel)) (by decide +kernel)⟩
theorem mf122 : mfx 122 "ClearingWaves$Rows" 2 (some .boolean) := ⟨by decide +kernel, by decide +kernel, by decide +kernel⟩
set_option maxRecDepth 20000 in
theorem mo122 : mok 122 1 := ⟨mt4 (List.mem_of_getElem? (i := 51) rfl) (by decide +kernel), mt1 (List.mem_of_getElem? (i := 11) (by decide +kernel)) (by decide +kernel), ⟨by decide +kernel, by decide +kernel, by decide +kernel⟩, by decide +kernel⟩
theorem mv122 : mokV 122 1 := ⟨mo122, mt4 (List.mem_of_getElem? (i := 49) (by decide +kernel)) (by decide +kernel), mt4 (List.mem_of_getElem? (i := 50) (by decide +kernel)) (by decide +kernel)⟩
theorem mf123 : mfx 123 "ClearingWaves$Rows" 6 (some .boolean) := ⟨by decide +kernel, by decide +kernel, by decide +kernel⟩
set_option maxRecDepth 20000 in
theorem mo123 : mok 123 4 := ⟨mt4 (List.mem_of_getElem? (i := 55) rfl) (by decide +kernel), mt1 (List.mem_of_getElem? (i := 11) (by decide +kernel)) (by decide +kernel), ⟨by decide +kernel, by decide +kernel, by decide +kernel⟩, by decide +kernel⟩
theorem mv123 : mokV 123 4 := ⟨mo123, mt4 (List.mem_of_getElem? (i := 53) (by decide +kernel)) (by decide +kernel), mt4 (List.mem_of_getElem? (i := 54) (by decide +kernel)) (by decide +kernel)⟩
theorem mf124 : mfx 124 "ClearingWaves$Rows" 3 (some .boolean) := ⟨by decide +kernel, by decide +kernel, by decide +kernel⟩
set_option maxRecDepth 20000 in
theorem mo124 : mok 124 2 := ⟨mt4 (List.mem_of_getElem? (i := 59) rfl) (by decide +kernel), mt1 (List.mem_of_getElem? (i := 11) (by decide +kernel)) (by decide +kernel), ⟨by decide +kernel, by decide +kernel, by decide +kernel⟩, by decide +kernel⟩
theorem mv124 : mokV 124 2 := ⟨mo124, mt4 (List.mem_of_getElem? (i := 57) (by decide +kernel)) (by decide +kernel), mt4 (List.mem_of_getElem? (i := 58) (by decide +kernel)) (by decide +kernel)⟩
theorem mf125 : mfx 125 "ClearingWaves" 3 (some .int) := ⟨by decide +kernel, by decide +kernel, by decide +kernel⟩
set_option maxRecDepth 20000 in
theorem mo125 : mok 125 2 := ⟨mt4 (List.mem_of_getElem? (i := 64) rfl) (by decide +kernel), mt1 (List.mem_of_getElem? (i := 1) (by decide +kernel)) (by decide +kernel), ⟨by decide +kernel, by decide +kernel, by decide +kernel⟩, by decide +kernel⟩
theorem mv125 : mokV 125 2 := ⟨mo125, mt4 (List.mem_of_getElem? (i := 62) (by decide +kernel)) (by decide +kernel), mt4 (List.mem_of_getElem? (i := 63) (by decide +kernel)) (by decide +kernel)⟩
theorem mf126 : mfx 126 "ClearingWaves$Rings" 4 (some .int) := ⟨by decide +kernel, by decide +kernel, by decide +kernel⟩
set_option maxRecDepth 20000 in
theorem mo126 : mok 126 1 := ⟨mt4 (List.mem_of_getElem? (i := 69) rfl) (by decide +kernel), mt1 (List.mem_of_getElem? (i := 6) (by decide +kernel)) (by decide +kernel), ⟨by decide +kernel, by decide +kernel, by decide +kernel⟩, by decide +kernel⟩
theorem mv126 : mokV 126 1 := ⟨mo126, mt4 (List.mem_of_getElem? (i := 67) (by decide +kernel)) (by decide +kernel), mt4 (List.mem_of_getElem? (i := 68) (by decide +kernel)) (by decide +kernel)⟩
theorem mf127 : mfx 127 "ClearingWaves$Rings" 7 (some .int) := ⟨by decide +kernel, by decide +kernel, by decide +kernel⟩
set_option maxRecDepth 20000 in
theorem mo127 : mok 127 4 := ⟨mt4 (List.mem_of_getElem? (i := 72) rfl) (by decide +kernel), mt1 (List.mem_of_getElem? (i := 6) (by decide +kernel)) (by decide +kernel), ⟨by decide +kernel, by decide +kernel, by decide +kernel⟩, by decide +kernel⟩
theorem mv127 : mokS 127 4 := ⟨mo127, mt4 (List.mem_of_getElem? (i := 71) (by decide +kernel)) (by decide +kernel)⟩
theorem mf128 : mfx 128 "ClearingWaves$Rings" 4 (some .boolean) := ⟨by decide +kernel, by decide +kernel, by decide +kernel⟩
set_option maxRecDepth 20000 in
theorem mo128 : mok 128 3 := ⟨mt4 (List.mem_of_getElem? (i := 76) rfl) (by decide +kernel), mt1 (List.mem_of_getElem? (i := 6) (by decide +kernel)) (by decide +kernel), ⟨by decide +kernel, by decide +kernel, by decide +kernel⟩, by decide +kernel⟩
theorem mv128 : mokS 128 3 := ⟨mo128, mt4 (List.mem_of_getElem? (i := 75) (by decide +kernel)) (by decide +kernel)⟩
theorem mf129 : mfx 129 "ClearingWaves" 5 (some .int) := ⟨by decide +kernel, by decide +kernel, by decide +kernel⟩
set_option maxRecDepth 20000 in
theorem mo129 : mok 129 1 := ⟨mt4 (List.mem_of_getElem? (i := 80) rfl) (by decide +kernel), mt1 (List.mem_of_getElem? (i := 1) (by decide +kernel)) (by decide +kernel), ⟨by decide +kernel, by decide +kernel, by decide +kernel⟩, by decide +kernel⟩
theorem mv129 : mokV 129 1 := ⟨mo129, mt4 (List.mem_of_getElem? (i := 78) (by decide +kernel)) (by decide +kernel), mt4 (List.mem_of_getElem? (i := 79) (by decide +kernel)) (by decide +kernel)⟩
theorem mf130 : mfx 130 "ClearingWaves$Rings" 6 (some .int) := ⟨by decide +kernel, by decide +kernel, by decide +kernel⟩
set_option maxRecDepth 20000 in
theorem mo130 : mok 130 1 := ⟨mt4 (List.mem_of_getElem? (i := 84) rfl) (by decide +kernel), mt1 (List.mem_of_getElem? (i := 6) (by decide +kernel)) (by decide +kernel), ⟨by decide +kernel, by decide +kernel, by decide +kernel⟩, by decide +kernel⟩
theorem mv130 : mokV 130 1 := ⟨mo130, mt4 (List.mem_of_getElem? (i := 82) (by decide +kernel)) (by decide +kernel), mt4 (List.mem_of_getElem? (i := 83) (by decide +kernel)) (by decide +kernel)⟩
theorem mf131 : mfx 131 "ClearingWaves$Rings" 3 (some .int) := ⟨by decide +kernel, by decide +kernel, by decide +kernel⟩
set_option maxRecDepth 20000 in
theorem mo131 : mok 131 2 := ⟨mt4 (List.mem_of_getElem? (i := 89) rfl) (by decide +kernel), mt1 (List.mem_of_getElem? (i := 6) (by decide +kernel)) (by decide +kernel), ⟨by decide +kernel, by decide +kernel, by decide +kernel⟩, by decide +kernel⟩
theorem mv131 : mokV 131 2 := ⟨mo131, mt4 (List.mem_of_getElem? (i := 88) (by decide +kernel)) (by decide +kernel), ms2 (List.mem_of_getElem? (i := 15) (by decide +kernel)) (by decide +kernel)⟩
theorem mf132 : mfx 132 "ClearingWaves" 9 (some .long) := ⟨by decide +kernel, by decide +kernel, by decide +kernel⟩
set_option maxRecDepth 20000 in
theorem mo132 : mok 132 4 := ⟨mt4 (List.mem_of_getElem? (i := 95) rfl) (by decide +kernel), mt1 (List.mem_of_getElem? (i := 1) (by decide +kernel)) (by decide +kernel), ⟨by decide +kernel, by decide +kernel, by decide +kernel⟩, by decide +kernel⟩
theorem mv132 : mokV 132 4 := ⟨mo132, mt4 (List.mem_of_getElem? (i := 93) (by decide +kernel)) (by decide +kernel), mt4 (List.mem_of_getElem? (i := 94) (by decide +kernel)) (by decide +kernel)⟩
theorem mf133 : mfx 133 "ClearingWaves$Book" 3 (some .int) := ⟨by decide +kernel, by decide +kernel, by decide +kernel⟩
set_option maxRecDepth 20000 in
theorem mo133 : mok 133 3 := ⟨mt4 (List.mem_of_getElem? (i := 101) rfl) (by decide +kernel), mt1 (List.mem_of_getElem? (i := 2) (by decide +kernel)) (by decide +kernel), ⟨by decide +kernel, by decide +kernel, by decide +kernel⟩, by decide +kernel⟩
theorem mv133 : mokS 133 3 := ⟨mo133, mt4 (List.mem_of_getElem? (i := 100) (by decide +kernel)) (by decide +kernel)⟩
theorem mf134 : mfx 134 "ClearingWaves" 4 (some .long) := ⟨by decide +kernel, by decide +kernel, by decide +kernel⟩
set_option maxRecDepth 20000 in
theorem mo134 : mok 134 3 := ⟨mt4 (List.mem_of_getElem? (i := 105) rfl) (by decide +kernel), mt1 (List.mem_of_getElem? (i := 1) (by decide +kernel)) (by decide +kernel), ⟨by decide +kernel, by decide +kernel, by decide +kernel⟩, by decide +kernel⟩
theorem mv134 : mokV 134 3 := ⟨mo134, mt4 (List.mem_of_getElem? (i := 103) (by decide +kernel)) (by decide +kernel), mt4 (List.mem_of_getElem? (i := 104) (by decide +kernel)) (by decide +kernel)⟩
theorem mf135 : mfx 135 "ClearingWaves" 3 (some .long) := ⟨by decide +kernel, by decide +kernel, by decide +kernel⟩
set_option maxRecDepth 20000 in
theorem mo135 : mok 135 2 := ⟨mt4 (List.mem_of_getElem? (i := 109) rfl) (by decide +kernel), mt1 (List.mem_of_getElem? (i := 1) (by decide +kernel)) (by decide +kernel), ⟨by decide +kernel, by decide +kernel, by decide +kernel⟩, by decide +kernel⟩
theorem mv135 : mokV 135 2 := ⟨mo135, mt4 (List.mem_of_getElem? (i := 107) (by decide +kernel)) (by decide +kernel), mt4 (List.mem_of_getElem? (i := 108) (by decide +kernel)) (by decide +kernel)⟩
theorem mf136 : mfx 136 "ClearingWaves$Worth" 9 (some .boolean) := ⟨by decide +kernel, by decide +kernel, by decide +kernel⟩
set_option maxRecDepth 20000 in
theorem mo136 : mok 136 3 := ⟨mt4 (List.mem_of_getElem? (i := 113) rfl) (by decide +kernel), mt1 (List.mem_of_getElem? (i := 7) (by decide +kernel)) (by decide +kernel), ⟨by decide +kernel, by decide +kernel, by decide +kernel⟩, by decide +kernel⟩
theorem mv136 : mokV 136 3 := ⟨mo136, mt4 (List.mem_of_getElem? (i := 111) (by decide +kernel)) (by decide +kernel), mt4 (List.mem_of_getElem? (i := 112) (by decide +kernel)) (by decide +kernel)⟩
theorem mf137 : mfx 137 "ClearingWaves$Worth" 15 (some .boolean) := ⟨by decide +kernel, by decide +kernel, by decide +kernel⟩
set_option maxRecDepth 20000 in
theorem mo137 : mok 137 3 := ⟨mt4 (List.mem_of_getElem? (i := 120) rfl) (by decide +kernel), mt1 (List.mem_of_getElem? (i := 7) (by decide +kernel)) (by decide +kernel), ⟨by decide +kernel, by decide +kernel, by decide +kernel⟩, by decide +kernel⟩
theorem mv137 : mokV 137 3 := ⟨mo137, mt4 (List.mem_of_getElem? (i := 119) (by decide +kernel)) (by decide +kernel), ms3 (List.mem_of_getElem? (i := 0) (by decide +kernel)) (by decide +kernel)⟩
theorem mf138 : mfx 138 "ClearingWaves$Worth" 4 (some .long) := ⟨by decide +kernel, by decide +kernel, by decide +kernel⟩
set_option maxRecDepth 20000 in
theorem mo138 : mok 138 2 := ⟨mt4 (List.mem_of_getElem? (i := 124) rfl) (by decide +kernel), mt1 (List.mem_of_getElem? (i := 7) (by decide +kernel)) (by decide +kernel), ⟨by decide +kernel, by decide +kernel, by decide +kernel⟩, by decide +kernel⟩
theorem mv138 : mokS 138 2 := ⟨mo138, mt4 (List.mem_of_getElem? (i := 123) (by decide +kernel)) (by decide +kernel)⟩
theorem mf139 : mfx 139 "ClearingWaves$Worth" 4 (some .long) := ⟨by decide +kernel, by decide +kernel, by decide +kernel⟩
set_option maxRecDepth 20000 in
theorem mo139 : mok 139 2 := ⟨mt4 (List.mem_of_getElem? (i := 129) rfl) (by decide +kernel), mt1 (List.mem_of_getElem? (i := 7) (by decide +kernel)) (by decide +kernel), ⟨by decide +kernel, by decide +kernel, by decide +kernel⟩, by decide +kernel⟩
theorem mv139 : mokS 139 2 := ⟨mo139, mt4 (List.mem_of_getElem? (i := 128) (by decide +kernel)) (by decide +kernel)⟩
theorem mf140 : mfx 140 "ClearingWaves" 2 (some .int) := ⟨by decide +kernel, by decide +kernel, by decide +kernel⟩
set_option maxRecDepth 20000 in
theorem mo140 : mok 140 1 := ⟨mt4 (List.mem_of_getElem? (i := 133) rfl) (by decide +kernel), mt1 (List.mem_of_getElem? (i := 1) (by decide +kernel)) (by decide +kernel), ⟨by decide +kernel, by decide +kernel, by decide +kernel⟩, by decide +kernel⟩
theorem mv140 : mokV 140 1 := ⟨mo140, mt4 (List.mem_of_getElem? (i := 131) (by decide +kernel)) (by decide +kernel), mt4 (List.mem_of_getElem? (i := 132) (by decide +kernel)) (by decide +kernel)⟩
theorem mf141 : mfx 141 "ClearingWaves$Book" 4 (some .boolean) := ⟨by decide +kernel, by decide +kernel, by decide +kernel⟩
set_option maxRecDepth 20000 in
theorem mo141 : mok 141 1 := ⟨mt4 (List.mem_of_getElem? (i := 137) rfl) (by decide +kernel), mt1 (List.mem_of_getElem? (i := 2) (by decide +kernel)) (by decide +kernel), ⟨by decide +kernel, by decide +kernel, by decide +kernel⟩, by decide +kernel⟩
theorem mv141 : mokV 141 1 := ⟨mo141, mt4 (List.mem_of_getElem? (i := 135) (by decide +kernel)) (by decide +kernel), mt4 (List.mem_of_getElem? (i := 136) (by decide +kernel)) (by decide +kernel)⟩
theorem mf142 : mfx 142 "ClearingWaves" 7 (some .int) := ⟨by decide +kernel, by decide +kernel, by decide +kernel⟩
set_option maxRecDepth 20000 in
theorem mo142 : mok 142 0 := ⟨mt4 (List.mem_of_getElem? (i := 142) rfl) (by decide +kernel), mt1 (List.mem_of_getElem? (i := 1) (by decide +kernel)) (by decide +kernel), ⟨by decide +kernel, by decide +kernel, by decide +kernel⟩, by decide +kernel⟩
theorem mv142 : mokV 142 0 := ⟨mo142, mt4 (List.mem_of_getElem? (i := 140) (by decide +kernel)) (by decide +kernel), mt4 (List.mem_of_getElem? (i := 141) (by decide +kernel)) (by decide +kernel)⟩
theorem mf143 : mfx 143 "ClearingWaves" 4 (some .int) := ⟨by decide +kernel, by decide +kernel, by decide +kernel⟩
set_option maxRecDepth 20000 in
theorem mo143 : mok 143 0 := ⟨mt4 (List.mem_of_getElem? (i := 146) rfl) (by decide +kernel), mt1 (List.mem_of_getElem? (i := 1) (by decide +kernel)) (by decide +kernel), ⟨by decide +kernel, by decide +kernel, by decide +kernel⟩, by decide +kernel⟩
theorem mv143 : mokV 143 0 := ⟨mo143, mt4 (List.mem_of_getElem? (i := 144) (by decide +kernel)) (by decide +kernel), mt4 (List.mem_of_getElem? (i := 145) (by decide +kernel)) (by decide +kernel)⟩
theorem mf144 : mfx 144 "ClearingWaves" 9 none := ⟨by decide +kernel, by decide +kernel, by decide +kernel⟩
set_option maxRecDepth 20000 in
theorem mo144 : mok 144 2 := ⟨mt4 (List.mem_of_getElem? (i := 150) rfl) (by decide +kernel), mt1 (List.mem_of_getElem? (i := 1) (by decide +kernel)) (by decide +kernel), ⟨by decide +kernel, by decide +kernel, by decide +kernel⟩, by decide +kernel⟩
theorem mv144 : mokV 144 2 := ⟨mo144, mt4 (List.mem_of_getElem? (i := 149) (by decide +kernel)) (by decide +kernel), ms3 (List.mem_of_getElem? (i := 1) (by decide +kernel)) (by decide +kernel)⟩
theorem mf145 : mfx 145 "ClearingWaves$Paper" 2 none := ⟨by decide +kernel, by decide +kernel, by decide +kernel⟩
set_option maxRecDepth 20000 in
theorem mo145 : mok 145 1 := ⟨mt4 (List.mem_of_getElem? (i := 154) rfl) (by decide +kernel), mt1 (List.mem_of_getElem? (i := 10) (by decide +kernel)) (by decide +kernel), ⟨by decide +kernel, by decide +kernel, by decide +kernel⟩, by decide +kernel⟩
theorem mv145 : mokV 145 1 := ⟨mo145, mt4 (List.mem_of_getElem? (i := 152) (by decide +kernel)) (by decide +kernel), mt4 (List.mem_of_getElem? (i := 153) (by decide +kernel)) (by decide +kernel)⟩
theorem mf146 : mfx 146 "ClearingWaves$Paper" 6 none := ⟨by decide +kernel, by decide +kernel, by decide +kernel⟩
set_option maxRecDepth 20000 in
theorem mo146 : mok 146 1 := ⟨mt4 (List.mem_of_getElem? (i := 158) rfl) (by decide +kernel), mt1 (List.mem_of_getElem? (i := 10) (by decide +kernel)) (by decide +kernel), ⟨by decide +kernel, by decide +kernel, by decide +kernel⟩, by decide +kernel⟩
theorem mv146 : mokV 146 1 := ⟨mo146, mt4 (List.mem_of_getElem? (i := 156) (by decide +kernel)) (by decide +kernel), mt4 (List.mem_of_getElem? (i := 157) (by decide +kernel)) (by decide +kernel)⟩
theorem mf147 : mfx 147 "ClearingWaves" 2 (some .int) := ⟨by decide +kernel, by decide +kernel, by decide +kernel⟩
set_option maxRecDepth 20000 in
theorem mo147 : mok 147 1 := ⟨mt4 (List.mem_of_getElem? (i := 166) rfl) (by decide +kernel), mt1 (List.mem_of_getElem? (i := 1) (by decide +kernel)) (by decide +kernel), ⟨by decide +kernel, by decide +kernel, by decide +kernel⟩, by decide +kernel⟩
theorem mv147 : mokV 147 1 := ⟨mo147, mt4 (List.mem_of_getElem? (i := 164) (by decide +kernel)) (by decide +kernel), mt4 (List.mem_of_getElem? (i := 165) (by decide +kernel)) (by decide +kernel)⟩
theorem mf148 : mfx 148 "ClearingWaves" 2 (some .int) := ⟨by decide +kernel, by decide +kernel, by decide +kernel⟩
set_option maxRecDepth 20000 in
theorem mo148 : mok 148 1 := ⟨mt4 (List.mem_of_getElem? (i := 170) rfl) (by decide +kernel), mt1 (List.mem_of_getElem? (i := 1) (by decide +kernel)) (by decide +kernel), ⟨by decide +kernel, by decide +kernel, by decide +kernel⟩, by decide +kernel⟩
theorem mv148 : mokV 148 1 := ⟨mo148, mt4 (List.mem_of_getElem? (i := 168) (by decide +kernel)) (by decide +kernel), mt4 (List.mem_of_getElem? (i := 169) (by decide +kernel)) (by decide +kernel)⟩
theorem mf149 : mfx 149 "ClearingWaves$Book" 3 (some .int) := ⟨by decide +kernel, by decide +kernel, by decide +kernel⟩
set_option maxRecDepth 20000 in
theorem mo149 : mok 149 0 := ⟨mt4 (List.mem_of_getElem? (i := 174) rfl) (by decide +kernel), mt1 (List.mem_of_getElem? (i := 2) (by decide +kernel)) (by decide +kernel), ⟨by decide +kernel, by decide +kernel, by decide +kernel⟩, by decide +kernel⟩
theorem mv149 : mokV 149 0 := ⟨mo149, mt4 (List.mem_of_getElem? (i := 172) (by decide +kernel)) (by decide +kernel), mt4 (List.mem_of_getElem? (i := 173) (by decide +kernel)) (by decide +kernel)⟩
theorem mf150 : mfx 150 "ClearingWaves$Book" 3 (some .int) := ⟨by decide +kernel, by decide +kernel, by decide +kernel⟩
set_option maxRecDepth 20000 in
theorem mo150 : mok 150 0 := ⟨mt4 (List.mem_of_getElem? (i := 178) rfl) (by decide +kernel), mt1 (List.mem_of_getElem? (i := 2) (by decide +kernel)) (by decide +kernel), ⟨by decide +kernel, by decide +kernel, by decide +kernel⟩, by decide +kernel⟩
theorem mv150 : mokV 150 0 := ⟨mo150, mt4 (List.mem_of_getElem? (i := 176) (by decide +kernel)) (by decide +kernel), mt4 (List.mem_of_getElem? (i := 177) (by decide +kernel)) (by decide +kernel)⟩
theorem mf151 : mfx 151 "ClearingWaves$Book" 3 (some .int) := ⟨by decide +kernel, by decide +kernel, by decide +kernel⟩
set_option maxRecDepth 20000 in
theorem mo151 : mok 151 0 := ⟨mt4 (List.mem_of_getElem? (i := 183) rfl) (by decide +kernel), mt1 (List.mem_of_getElem? (i := 2) (by decide +kernel)) (by decide +kernel), ⟨by decide +kernel, by decide +kernel, by decide +kernel⟩, by decide +kernel⟩
theorem mv151 : mokV 151 0 := ⟨mo151, mt4 (List.mem_of_getElem? (i := 181) (by decide +kernel)) (by decide +kernel), mt4 (List.mem_of_getElem? (i := 182) (by decide +kernel)) (by decide +kernel)⟩
theorem mf152 : mfx 152 "ClearingWaves" 2 (some .int) := ⟨by decide +kernel, by decide +kernel, by decide +kernel⟩
set_option maxRecDepth 20000 in
theorem mo152 : mok 152 1 := ⟨mt4 (List.mem_of_getElem? (i := 187) rfl) (by decide +kernel), mt1 (List.mem_of_getElem? (i := 1) (by decide +kernel)) (by decide +kernel), ⟨by decide +kernel, by decide +kernel, by decide +kernel⟩, by decide +kernel⟩
theorem mv152 : mokV 152 1 := ⟨mo152, mt4 (List.mem_of_getElem? (i := 186) (by decide +kernel)) (by decide +kernel), ms3 (List.mem_of_getElem? (i := 2) (by decide +kernel)) (by decide +kernel)⟩
theorem mf153 : mfx 153 "ClearingWaves" 3 (some .int) := ⟨by decide +kernel, by decide +kernel, by decide +kernel⟩
set_option maxRecDepth 20000 in
theorem mo153 : mok 153 2 := ⟨mt4 (List.mem_of_getElem? (i := 192) rfl) (by decide +kernel), mt1 (List.mem_of_getElem? (i := 1) (by decide +kernel)) (by decide +kernel), ⟨by decide +kernel, by decide +kernel, by decide +kernel⟩, by decide +kernel⟩
theorem mv153 : mokV 153 2 := ⟨mo153, mt4 (List.mem_of_getElem? (i := 190) (by decide +kernel)) (by decide +kernel), mt4 (List.mem_of_getElem? (i := 191) (by decide +kernel)) (by decide +kernel)⟩
theorem mf154 : mfx 154 "ClearingWaves$Rows" 4 none := ⟨by decide +kernel, by decide +kernel, by decide +kernel⟩
set_option maxRecDepth 20000 in
theorem mo154 : mok 154 2 := ⟨mt4 (List.mem_of_getElem? (i := 196) rfl) (by decide +kernel), mt1 (List.mem_of_getElem? (i := 11) (by decide +kernel)) (by decide +kernel), ⟨by decide +kernel, by decide +kernel, by decide +kernel⟩, by decide +kernel⟩
theorem mv154 : mokV 154 2 := ⟨mo154, mt4 (List.mem_of_getElem? (i := 194) (by decide +kernel)) (by decide +kernel), mt4 (List.mem_of_getElem? (i := 195) (by decide +kernel)) (by decide +kernel)⟩
theorem mf155 : mfx 155 "ClearingWaves" 5 (some .int) := ⟨by decide +kernel, by decide +kernel, by decide +kernel⟩
set_option maxRecDepth 20000 in
theorem mo155 : mok 155 3 := ⟨mt4 (List.mem_of_getElem? (i := 200) rfl) (by decide +kernel), mt1 (List.mem_of_getElem? (i := 1) (by decide +kernel)) (by decide +kernel), ⟨by decide +kernel, by decide +kernel, by decide +kernel⟩, by decide +kernel⟩
theorem mv155 : mokV 155 3 := ⟨mo155, mt4 (List.mem_of_getElem? (i := 198) (by decide +kernel)) (by decide +kernel), mt4 (List.mem_of_getElem? (i := 199) (by decide +kernel)) (by decide +kernel)⟩
theorem mf156 : mfx 156 "ClearingWaves" 3 (some .long) := ⟨by decide +kernel, by decide +kernel, by decide +kernel⟩
set_option maxRecDepth 20000 in
theorem mo156 : mok 156 2 := ⟨mt4 (List.mem_of_getElem? (i := 204) rfl) (by decide +kernel), mt1 (List.mem_of_getElem? (i := 1) (by decide +kernel)) (by decide +kernel), ⟨by decide +kernel, by decide +kernel, by decide +kernel⟩, by decide +kernel⟩
theorem mv156 : mokV 156 2 := ⟨mo156, mt4 (List.mem_of_getElem? (i := 202) (by decide +kernel)) (by decide +kernel), mt4 (List.mem_of_getElem? (i := 203) (by decide +kernel)) (by decide +kernel)⟩
theorem mf157 : mfx 157 "ClearingWaves$Rows" 3 (some .long) := ⟨by decide +kernel, by decide +kernel, by decide +kernel⟩
set_option maxRecDepth 20000 in
theorem mo157 : mok 157 2 := ⟨mt4 (List.mem_of_getElem? (i := 209) rfl) (by decide +kernel), mt1 (List.mem_of_getElem? (i := 11) (by decide +kernel)) (by decide +kernel), ⟨by decide +kernel, by decide +kernel, by decide +kernel⟩, by decide +kernel⟩
theorem mv157 : mokV 157 2 := ⟨mo157, mt4 (List.mem_of_getElem? (i := 207) (by decide +kernel)) (by decide +kernel), mt4 (List.mem_of_getElem? (i := 208) (by decide +kernel)) (by decide +kernel)⟩
theorem mf158 : mfx 158 "ClearingWaves" 9 (some .int) := ⟨by decide +kernel, by decide +kernel, by decide +kernel⟩
set_option maxRecDepth 20000 in
theorem mo158 : mok 158 2 := ⟨mt4 (List.mem_of_getElem? (i := 213) rfl) (by decide +kernel), mt1 (List.mem_of_getElem? (i := 1) (by decide +kernel)) (by decide +kernel), ⟨by decide +kernel, by decide +kernel, by decide +kernel⟩, by decide +kernel⟩
theorem mv158 : mokV 158 2 := ⟨mo158, mt4 (List.mem_of_getElem? (i := 211) (by decide +kernel)) (by decide +kernel), mt4 (List.mem_of_getElem? (i := 212) (by decide +kernel)) (by decide +kernel)⟩
theorem mf159 : mfx 159 "ClearingWaves" 5 (some .int) := ⟨by decide +kernel, by decide +kernel, by decide +kernel⟩
set_option maxRecDepth 20000 in
theorem mo159 : mok 159 2 := ⟨mt4 (List.mem_of_getElem? (i := 217) rfl) (by decide +kernel), mt1 (List.mem_of_getElem? (i := 1) (by decide +kernel)) (by decide +kernel), ⟨by decide +kernel, by decide +kernel, by decide +kernel⟩, by decide +kernel⟩
theorem mv159 : mokV 159 2 := ⟨mo159, mt4 (List.mem_of_getElem? (i := 215) (by decide +kernel)) (by decide +kernel), mt4 (List.mem_of_getElem? (i := 216) (by decide +kernel)) (by decide +kernel)⟩
theorem mf160 : mfx 160 "ClearingWaves$Rows" 2 (some .int) := ⟨by decide +kernel, by decide +kernel, by decide +kernel⟩
set_option maxRecDepth 20000 in
theorem mo160 : mok 160 1 := ⟨mt4 (List.mem_of_getElem? (i := 221) rfl) (by decide +kernel), mt1 (List.mem_of_getElem? (i := 11) (by decide +kernel)) (by decide +kernel), ⟨by decide +kernel, by decide +kernel, by decide +kernel⟩, by decide +kernel⟩
theorem mv160 : mokV 160 1 := ⟨mo160, mt4 (List.mem_of_getElem? (i := 219) (by decide +kernel)) (by decide +kernel), mt4 (List.mem_of_getElem? (i := 220) (by decide +kernel)) (by decide +kernel)⟩
theorem mf161 : mfx 161 "ClearingWaves$Told" 3 (some .boolean) := ⟨by decide +kernel, by decide +kernel, by decide +kernel⟩
set_option maxRecDepth 20000 in
theorem mo161 : mok 161 1 := ⟨mt4 (List.mem_of_getElem? (i := 225) rfl) (by decide +kernel), mt1 (List.mem_of_getElem? (i := 8) (by decide +kernel)) (by decide +kernel), ⟨by decide +kernel, by decide +kernel, by decide +kernel⟩, by decide +kernel⟩
theorem mv161 : mokV 161 1 := ⟨mo161, mt4 (List.mem_of_getElem? (i := 223) (by decide +kernel)) (by decide +kernel), mt4 (List.mem_of_getElem? (i := 224) (by decide +kernel)) (by decide +kernel)⟩
theorem mf162 : mfx 162 "ClearingWaves$Told" 8 (some .boolean) := ⟨by decide +kernel, by decide +kernel, by decide +kernel⟩
set_option maxRecDepth 20000 in
theorem mo162 : mok 162 2 := ⟨mt4 (List.mem_of_getElem? (i := 230) rfl) (by decide +kernel), mt1 (List.mem_of_getElem? (i := 8) (by decide +kernel)) (by decide +kernel), ⟨by decide +kernel, by decide +kernel, by decide +kernel⟩, by decide +kernel⟩
theorem mv162 : mokV 162 2 := ⟨mo162, mt4 (List.mem_of_getElem? (i := 228) (by decide +kernel)) (by decide +kernel), mt4 (List.mem_of_getElem? (i := 229) (by decide +kernel)) (by decide +kernel)⟩
theorem mf163 : mfx 163 "ClearingWaves$Told" 3 (some .boolean) := ⟨by decide +kernel, by decide +kernel, by decide +kernel⟩
set_option maxRecDepth 20000 in
theorem mo163 : mok 163 1 := ⟨mt4 (List.mem_of_getElem? (i := 236) rfl) (by decide +kernel), mt1 (List.mem_of_getElem? (i := 8) (by decide +kernel)) (by decide +kernel), ⟨by decide +kernel, by decide +kernel, by decide +kernel⟩, by decide +kernel⟩
theorem mv163 : mokV 163 1 := ⟨mo163, mt4 (List.mem_of_getElem? (i := 234) (by decide +kernel)) (by decide +kernel), mt4 (List.mem_of_getElem? (i := 235) (by decide +kernel)) (by decide +kernel)⟩
theorem mf164 : mfx 164 "ClearingWaves$Told" 15 (some .boolean) := ⟨by decide +kernel, by decide +kernel, by decide +kernel⟩
set_option maxRecDepth 20000 in
theorem mo164 : mok 164 2 := ⟨mt5 (List.mem_of_getElem? (i := 0) rfl) (by decide +kernel), mt1 (List.mem_of_getElem? (i := 8) (by decide +kernel)) (by decide +kernel), ⟨by decide +kernel, by decide +kernel, by decide +kernel⟩, by decide +kernel⟩
theorem mv164 : mokV 164 2 := ⟨mo164, mt4 (List.mem_of_getElem? (i := 239) (by decide +kernel)) (by decide +kernel), ms3 (List.mem_of_getElem? (i := 3) (by decide +kernel)) (by decide +kernel)⟩
theorem mf165 : mfx 165 "ClearingWaves$Told" 7 (some .long) := ⟨by decide +kernel, by decide +kernel, by decide +kernel⟩
set_option maxRecDepth 20000 in
theorem mo165 : mok 165 2 := ⟨mt5 (List.mem_of_getElem? (i := 4) rfl) (by decide +kernel), mt1 (List.mem_of_getElem? (i := 8) (by decide +kernel)) (by decide +kernel), ⟨by decide +kernel, by decide +kernel, by decide +kernel⟩, by decide +kernel⟩
theorem mv165 : mokV 165 2 := ⟨mo165, mt5 (List.mem_of_getElem? (i := 3) (by decide +kernel)) (by decide +kernel), ms3 (List.mem_of_getElem? (i := 4) (by decide +kernel)) (by decide +kernel)⟩
theorem mf166 : mfx 166 "java/lang/Math" 4 (some .long) := ⟨by decide +kernel, by decide +kernel, by decide +kernel⟩
set_option maxRecDepth 20000 in
theorem mo166 : mok 166 2 := ⟨mt5 (List.mem_of_getElem? (i := 10) rfl) (by decide +kernel), mt1 (List.mem_of_getElem? (i := 13) (by decide +kernel)) (by decide +kernel), ⟨by decide +kernel, by decide +kernel, by decide +kernel⟩, by decide +kernel⟩
theorem mv166 : mokS 166 2 := ⟨mo166, mt5 (List.mem_of_getElem? (i := 9) (by decide +kernel)) (by decide +kernel)⟩
theorem mf167 : mfx 167 "ClearingWaves" 1 (some .int) := ⟨by decide +kernel, by decide +kernel, by decide +kernel⟩
set_option maxRecDepth 20000 in
theorem mo167 : mok 167 0 := ⟨mt5 (List.mem_of_getElem? (i := 14) rfl) (by decide +kernel), mt1 (List.mem_of_getElem? (i := 1) (by decide +kernel)) (by decide +kernel), ⟨by decide +kernel, by decide +kernel, by decide +kernel⟩, by decide +kernel⟩
theorem mv167 : mokV 167 0 := ⟨mo167, mt5 (List.mem_of_getElem? (i := 12) (by decide +kernel)) (by decide +kernel), mt5 (List.mem_of_getElem? (i := 13) (by decide +kernel)) (by decide +kernel)⟩
theorem mf168 : mfx 168 "ClearingWaves$Book" 2 none := ⟨by decide +kernel, by decide +kernel, by decide +kernel⟩
set_option maxRecDepth 20000 in
theorem mo168 : mok 168 1 := ⟨mt5 (List.mem_of_getElem? (i := 18) rfl) (by decide +kernel), mt1 (List.mem_of_getElem? (i := 2) (by decide +kernel)) (by decide +kernel), ⟨by decide +kernel, by decide +kernel, by decide +kernel⟩, by decide +kernel⟩
theorem mv168 : mokV 168 1 := ⟨mo168, mt5 (List.mem_of_getElem? (i := 16) (by decide +kernel)) (by decide +kernel), mt5 (List.mem_of_getElem? (i := 17) (by decide +kernel)) (by decide +kernel)⟩
theorem mf169 : mfx 169 "ClearingWaves" 1 (some .int) := ⟨by decide +kernel, by decide +kernel, by decide +kernel⟩
set_option maxRecDepth 20000 in
theorem mo169 : mok 169 0 := ⟨mt5 (List.mem_of_getElem? (i := 23) rfl) (by decide +kernel), mt1 (List.mem_of_getElem? (i := 1) (by decide +kernel)) (by decide +kernel), ⟨by decide +kernel, by decide +kernel, by decide +kernel⟩, by decide +kernel⟩
theorem mv169 : mokV 169 0 := ⟨mo169, mt5 (List.mem_of_getElem? (i := 21) (by decide +kernel)) (by decide +kernel), mt5 (List.mem_of_getElem? (i := 22) (by decide +kernel)) (by decide +kernel)⟩
theorem mf170 : mfx 170 "ClearingWavesModel" 1 none := ⟨by decide +kernel, by decide +kernel, by decide +kernel⟩
set_option maxRecDepth 20000 in
theorem mo170 : mok 170 0 := ⟨mt5 (List.mem_of_getElem? (i := 28) rfl) (by decide +kernel), mt1 (List.mem_of_getElem? (i := 12) (by decide +kernel)) (by decide +kernel), ⟨by decide +kernel, by decide +kernel, by decide +kernel⟩, by decide +kernel⟩
theorem mv170 : mokI 170 0 := ⟨mo170, mt5 (List.mem_of_getElem? (i := 27) (by decide +kernel)) (by decide +kernel), by decide +kernel, by decide +kernel⟩
theorem mf171 : mfx 171 "ClearingWavesModel" 3 none := ⟨by decide +kernel, by decide +kernel, by decide +kernel⟩
set_option maxRecDepth 20000 in
theorem mo171 : mok 171 1 := ⟨mt5 (List.mem_of_getElem? (i := 33) rfl) (by decide +kernel), mt1 (List.mem_of_getElem? (i := 12) (by decide +kernel)) (by decide +kernel), ⟨by decide +kernel, by decide +kernel, by decide +kernel⟩, by decide +kernel⟩
theorem mv171 : mokV 171 1 := ⟨mo171, mt5 (List.mem_of_getElem? (i := 32) (by decide +kernel)) (by decide +kernel), ms3 (List.mem_of_getElem? (i := 5) (by decide +kernel)) (by decide +kernel)⟩
theorem mf172 : mfx 172 "ClearingWavesModel" 2 none := ⟨by decide +kernel, by decide +kernel, by decide +kernel⟩
set_option maxRecDepth 20000 in
theorem mo172 : mok 172 0 := ⟨mt5 (List.mem_of_getElem? (i := 38) rfl) (by decide +kernel), mt1 (List.mem_of_getElem? (i := 12) (by decide +kernel)) (by decide +kernel), ⟨by decide +kernel, by decide +kernel, by decide +kernel⟩, by decide +kernel⟩
theorem mv172 : mokV 172 0 := ⟨mo172, mt5 (List.mem_of_getElem? (i := 37) (by decide +kernel)) (by decide +kernel), ms3 (List.mem_of_getElem? (i := 6) (by decide +kernel)) (by decide +kernel)⟩
theorem mf173 : mfx 173 "ClearingWavesModel" 2 (some .int) := ⟨by decide +kernel, by decide +kernel, by decide +kernel⟩
set_option maxRecDepth 20000 in
theorem mo173 : mok 173 1 := ⟨mt5 (List.mem_of_getElem? (i := 148) rfl) (by decide +kernel), mt1 (List.mem_of_getElem? (i := 12) (by decide +kernel)) (by decide +kernel), ⟨by decide +kernel, by decide +kernel, by decide +kernel⟩, by decide +kernel⟩
theorem mv173 : mokV 173 1 := ⟨mo173, mt5 (List.mem_of_getElem? (i := 146) (by decide +kernel)) (by decide +kernel), mt5 (List.mem_of_getElem? (i := 147) (by decide +kernel)) (by decide +kernel)⟩
theorem mf174 : mfx 174 "ClearingWavesModel" 6 (some .boolean) := ⟨by decide +kernel, by decide +kernel, by decide +kernel⟩
set_option maxRecDepth 20000 in
theorem mo174 : mok 174 3 := ⟨mt5 (List.mem_of_getElem? (i := 153) rfl) (by decide +kernel), mt1 (List.mem_of_getElem? (i := 12) (by decide +kernel)) (by decide +kernel), ⟨by decide +kernel, by decide +kernel, by decide +kernel⟩, by decide +kernel⟩
theorem mv174 : mokS 174 3 := ⟨mo174, mt5 (List.mem_of_getElem? (i := 152) (by decide +kernel)) (by decide +kernel)⟩
theorem mf175 : mfx 175 "ClearingWavesModel" 3 (some .int) := ⟨by decide +kernel, by decide +kernel, by decide +kernel⟩
set_option maxRecDepth 20000 in
theorem mo175 : mok 175 2 := ⟨mt5 (List.mem_of_getElem? (i := 157) rfl) (by decide +kernel), mt1 (List.mem_of_getElem? (i := 12) (by decide +kernel)) (by decide +kernel), ⟨by decide +kernel, by decide +kernel, by decide +kernel⟩, by decide +kernel⟩
theorem mv175 : mokV 175 2 := ⟨mo175, mt5 (List.mem_of_getElem? (i := 155) (by decide +kernel)) (by decide +kernel), mt5 (List.mem_of_getElem? (i := 156) (by decide +kernel)) (by decide +kernel)⟩
theorem mf176 : mfx 176 "ClearingWavesModel" 2 (some .boolean) := ⟨by decide +kernel, by decide +kernel, by decide +kernel⟩
set_option maxRecDepth 20000 in
theorem mo176 : mok 176 1 := ⟨mt5 (List.mem_of_getElem? (i := 161) rfl) (by decide +kernel), mt1 (List.mem_of_getElem? (i := 12) (by decide +kernel)) (by decide +kernel), ⟨by decide +kernel, by decide +kernel, by decide +kernel⟩, by decide +kernel⟩
theorem mv176 : mokV 176 1 := ⟨mo176, mt5 (List.mem_of_getElem? (i := 160) (by decide +kernel)) (by decide +kernel), ms3 (List.mem_of_getElem? (i := 7) (by decide +kernel)) (by decide +kernel)⟩
theorem mf177 : mfx 177 "ClearingWavesModel" 4 (some .int) := ⟨by decide +kernel, by decide +kernel, by decide +kernel⟩
set_option maxRecDepth 20000 in
theorem mo177 : mok 177 2 := ⟨mt5 (List.mem_of_getElem? (i := 166) rfl) (by decide +kernel), mt1 (List.mem_of_getElem? (i := 12) (by decide +kernel)) (by decide +kernel), ⟨by decide +kernel, by decide +kernel, by decide +kernel⟩, by decide +kernel⟩
theorem mv177 : mokV 177 2 := ⟨mo177, mt5 (List.mem_of_getElem? (i := 165) (by decide +kernel)) (by decide +kernel), ms3 (List.mem_of_getElem? (i := 8) (by decide +kernel)) (by decide +kernel)⟩
theorem mf178 : mfx 178 "ClearingWavesModel" 5 (some .int) := ⟨by decide +kernel, by decide +kernel, by decide +kernel⟩
set_option maxRecDepth 20000 in
theorem mo178 : mok 178 4 := ⟨mt5 (List.mem_of_getElem? (i := 170) rfl) (by decide +kernel), mt1 (List.mem_of_getElem? (i := 12) (by decide +kernel)) (by decide +kernel), ⟨by decide +kernel, by decide +kernel, by decide +kernel⟩, by decide +kernel⟩
theorem mv178 : mokV 178 4 := ⟨mo178, mt5 (List.mem_of_getElem? (i := 168) (by decide +kernel)) (by decide +kernel), mt5 (List.mem_of_getElem? (i := 169) (by decide +kernel)) (by decide +kernel)⟩
theorem mf179 : mfx 179 "ClearingWavesModel" 3 (some .boolean) := ⟨by decide +kernel, by decide +kernel, by decide +kernel⟩
set_option maxRecDepth 20000 in
theorem mo179 : mok 179 2 := ⟨mt5 (List.mem_of_getElem? (i := 174) rfl) (by decide +kernel), mt1 (List.mem_of_getElem? (i := 12) (by decide +kernel)) (by decide +kernel), ⟨by decide +kernel, by decide +kernel, by decide +kernel⟩, by decide +kernel⟩
theorem mv179 : mokV 179 2 := ⟨mo179, mt5 (List.mem_of_getElem? (i := 173) (by decide +kernel)) (by decide +kernel), ms3 (List.mem_of_getElem? (i := 9) (by decide +kernel)) (by decide +kernel)⟩
theorem mf180 : mfx 180 "ClearingWavesModel" 1 (some .boolean) := ⟨by decide +kernel, by decide +kernel, by decide +kernel⟩
set_option maxRecDepth 20000 in
theorem mo180 : mok 180 1 := ⟨mt5 (List.mem_of_getElem? (i := 177) rfl) (by decide +kernel), mt1 (List.mem_of_getElem? (i := 12) (by decide +kernel)) (by decide +kernel), ⟨by decide +kernel, by decide +kernel, by decide +kernel⟩, by decide +kernel⟩
theorem mv180 : mokS 180 1 := ⟨mo180, mt5 (List.mem_of_getElem? (i := 176) (by decide +kernel)) (by decide +kernel)⟩
theorem mf181 : mfx 181 "ClearingWavesModel" 3 (some .int) := ⟨by decide +kernel, by decide +kernel, by decide +kernel⟩
set_option maxRecDepth 20000 in
theorem mo181 : mok 181 3 := ⟨mt5 (List.mem_of_getElem? (i := 181) rfl) (by decide +kernel), mt1 (List.mem_of_getElem? (i := 12) (by decide +kernel)) (by decide +kernel), ⟨by decide +kernel, by decide +kernel, by decide +kernel⟩, by decide +kernel⟩
theorem mv181 : mokS 181 3 := ⟨mo181, mt5 (List.mem_of_getElem? (i := 180) (by decide +kernel)) (by decide +kernel)⟩
theorem mf182 : mfx 182 "ClearingWavesModel" 4 (some .int) := ⟨by decide +kernel, by decide +kernel, by decide +kernel⟩
set_option maxRecDepth 20000 in
theorem mo182 : mok 182 3 := ⟨mt5 (List.mem_of_getElem? (i := 185) rfl) (by decide +kernel), mt1 (List.mem_of_getElem? (i := 12) (by decide +kernel)) (by decide +kernel), ⟨by decide +kernel, by decide +kernel, by decide +kernel⟩, by decide +kernel⟩
theorem mv182 : mokV 182 3 := ⟨mo182, mt5 (List.mem_of_getElem? (i := 183) (by decide +kernel)) (by decide +kernel), mt5 (List.mem_of_getElem? (i := 184) (by decide +kernel)) (by decide +kernel)⟩
theorem mf183 : mfx 183 "ClearingWavesModel" 4 (some .int) := ⟨by decide +kernel, by decide +kernel, by decide +kernel⟩
set_option maxRecDepth 20000 in
theorem mo183 : mok 183 3 := ⟨mt5 (List.mem_of_getElem? (i := 189) rfl) (by decide +kernel), mt1 (List.mem_of_getElem? (i := 12) (by decide +kernel)) (by decide +kernel), ⟨by decide +kernel, by decide +kernel, by decide +kernel⟩, by decide +kernel⟩
theorem mv183 : mokV 183 3 := ⟨mo183, mt5 (List.mem_of_getElem? (i := 188) (by decide +kernel)) (by decide +kernel), ms3 (List.mem_of_getElem? (i := 10) (by decide +kernel)) (by decide +kernel)⟩
theorem mf184 : mfx 184 "ClearingWavesModel" 3 (some .int) := ⟨by decide +kernel, by decide +kernel, by decide +kernel⟩
set_option maxRecDepth 20000 in
theorem mo184 : mok 184 2 := ⟨mt5 (List.mem_of_getElem? (i := 193) rfl) (by decide +kernel), mt1 (List.mem_of_getElem? (i := 12) (by decide +kernel)) (by decide +kernel), ⟨by decide +kernel, by decide +kernel, by decide +kernel⟩, by decide +kernel⟩
theorem mv184 : mokV 184 2 := ⟨mo184, mt5 (List.mem_of_getElem? (i := 191) (by decide +kernel)) (by decide +kernel), mt5 (List.mem_of_getElem? (i := 192) (by decide +kernel)) (by decide +kernel)⟩
theorem mf185 : mfx 185 "ClearingWavesModel" 7 (some .int) := ⟨by decide +kernel, by decide +kernel, by decide +kernel⟩
set_option maxRecDepth 20000 in
theorem mo185 : mok 185 5 := ⟨mt5 (List.mem_of_getElem? (i := 197) rfl) (by decide +kernel), mt1 (List.mem_of_getElem? (i := 12) (by decide +kernel)) (by decide +kernel), ⟨by decide +kernel, by decide +kernel, by decide +kernel⟩, by decide +kernel⟩
theorem mv185 : mokV 185 5 := ⟨mo185, mt5 (List.mem_of_getElem? (i := 195) (by decide +kernel)) (by decide +kernel), mt5 (List.mem_of_getElem? (i := 196) (by decide +kernel)) (by decide +kernel)⟩
theorem mf186 : mfx 186 "ClearingWavesModel" 5 (some .int) := ⟨by decide +kernel, by decide +kernel, by decide +kernel⟩
set_option maxRecDepth 20000 in
theorem mo186 : mok 186 4 := ⟨mt5 (List.mem_of_getElem? (i := 201) rfl) (by decide +kernel), mt1 (List.mem_of_getElem? (i := 12) (by decide +kernel)) (by decide +kernel), ⟨by decide +kernel, by decide +kernel, by decide +kernel⟩, by decide +kernel⟩
theorem mv186 : mokV 186 4 := ⟨mo186, mt5 (List.mem_of_getElem? (i := 199) (by decide +kernel)) (by decide +kernel), mt5 (List.mem_of_getElem? (i := 200) (by decide +kernel)) (by decide +kernel)⟩
theorem mf187 : mfx 187 "ClearingWavesModel" 2 (some .int) := ⟨by decide +kernel, by decide +kernel, by decide +kernel⟩
set_option maxRecDepth 20000 in
theorem mo187 : mok 187 1 := ⟨mt5 (List.mem_of_getElem? (i := 205) rfl) (by decide +kernel), mt1 (List.mem_of_getElem? (i := 12) (by decide +kernel)) (by decide +kernel), ⟨by decide +kernel, by decide +kernel, by decide +kernel⟩, by decide +kernel⟩
theorem mv187 : mokV 187 1 := ⟨mo187, mt5 (List.mem_of_getElem? (i := 203) (by decide +kernel)) (by decide +kernel), mt5 (List.mem_of_getElem? (i := 204) (by decide +kernel)) (by decide +kernel)⟩
theorem mf188 : mfx 188 "ClearingWavesModel" 2 (some .int) := ⟨by decide +kernel, by decide +kernel, by decide +kernel⟩
set_option maxRecDepth 20000 in
theorem mo188 : mok 188 0 := ⟨mt5 (List.mem_of_getElem? (i := 210) rfl) (by decide +kernel), mt1 (List.mem_of_getElem? (i := 12) (by decide +kernel)) (by decide +kernel), ⟨by decide +kernel, by decide +kernel, by decide +kernel⟩, by decide +kernel⟩
theorem mv188 : mokV 188 0 := ⟨mo188, mt5 (List.mem_of_getElem? (i := 208) (by decide +kernel)) (by decide +kernel), mt5 (List.mem_of_getElem? (i := 209) (by decide +kernel)) (by decide +kernel)⟩
theorem mf189 : mfx 189 "ClearingWavesModel" 3 (some .int) := ⟨by decide +kernel, by decide +kernel, by decide +kernel⟩
set_option maxRecDepth 20000 in
theorem mo189 : mok 189 0 := ⟨mt5 (List.mem_of_getElem? (i := 214) rfl) (by decide +kernel), mt1 (List.mem_of_getElem? (i := 12) (by decide +kernel)) (by decide +kernel), ⟨by decide +kernel, by decide +kernel, by decide +kernel⟩, by decide +kernel⟩
theorem mv189 : mokV 189 0 := ⟨mo189, mt5 (List.mem_of_getElem? (i := 212) (by decide +kernel)) (by decide +kernel), mt5 (List.mem_of_getElem? (i := 213) (by decide +kernel)) (by decide +kernel)⟩
theorem mf190 : mfx 190 "ClearingWavesModel" 3 (some .int) := ⟨by decide +kernel, by decide +kernel, by decide +kernel⟩
set_option maxRecDepth 20000 in
theorem mo190 : mok 190 0 := ⟨mt5 (List.mem_of_getElem? (i := 218) rfl) (by decide +kernel), mt1 (List.mem_of_getElem? (i := 12) (by decide +kernel)) (by decide +kernel), ⟨by decide +kernel, by decide +kernel, by decide +kernel⟩, by decide +kernel⟩
theorem mv190 : mokV 190 0 := ⟨mo190, mt5 (List.mem_of_getElem? (i := 217) (by decide +kernel)) (by decide +kernel), ms3 (List.mem_of_getElem? (i := 11) (by decide +kernel)) (by decide +kernel)⟩
theorem mf191 : mfx 191 "ClearingWavesModel" 6 (some .int) := ⟨by decide +kernel, by decide +kernel, by decide +kernel⟩
set_option maxRecDepth 20000 in
theorem mo191 : mok 191 1 := ⟨mt5 (List.mem_of_getElem? (i := 222) rfl) (by decide +kernel), mt1 (List.mem_of_getElem? (i := 12) (by decide +kernel)) (by decide +kernel), ⟨by decide +kernel, by decide +kernel, by decide +kernel⟩, by decide +kernel⟩
theorem mv191 : mokV 191 1 := ⟨mo191, mt5 (List.mem_of_getElem? (i := 221) (by decide +kernel)) (by decide +kernel), ms3 (List.mem_of_getElem? (i := 12) (by decide +kernel)) (by decide +kernel)⟩
theorem mf192 : mfx 192 "ClearingWavesModel" 1 (some .int) := ⟨by decide +kernel, by decide +kernel, by decide +kernel⟩
set_option maxRecDepth 20000 in
theorem mo192 : mok 192 0 := ⟨mt5 (List.mem_of_getElem? (i := 226) rfl) (by decide +kernel), mt1 (List.mem_of_getElem? (i := 12) (by decide +kernel)) (by decide +kernel), ⟨by decide +kernel, by decide +kernel, by decide +kernel⟩, by decide +kernel⟩
theorem mv192 : mokV 192 0 := ⟨mo192, mt5 (List.mem_of_getElem? (i := 225) (by decide +kernel)) (by decide +kernel), ms3 (List.mem_of_getElem? (i := 13) (by decide +kernel)) (by decide +kernel)⟩
theorem mf193 : mfx 193 "ClearingWavesModel" 5 (some .int) := ⟨by decide +kernel, by decide +kernel, by decide +kernel⟩
set_option maxRecDepth 20000 in
theorem mo193 : mok 193 2 := ⟨mt5 (List.mem_of_getElem? (i := 230) rfl) (by decide +kernel), mt1 (List.mem_of_getElem? (i := 12) (by decide +kernel)) (by decide +kernel), ⟨by decide +kernel, by decide +kernel, by decide +kernel⟩, by decide +kernel⟩
theorem mv193 : mokV 193 2 := ⟨mo193, mt5 (List.mem_of_getElem? (i := 229) (by decide +kernel)) (by decide +kernel), ms3 (List.mem_of_getElem? (i := 14) (by decide +kernel)) (by decide +kernel)⟩
theorem mf194 : mfx 194 "ClearingWavesModel" 1 (some .int) := ⟨by decide +kernel, by decide +kernel, by decide +kernel⟩
set_option maxRecDepth 20000 in
theorem mo194 : mok 194 0 := ⟨mt5 (List.mem_of_getElem? (i := 237) rfl) (by decide +kernel), mt1 (List.mem_of_getElem? (i := 12) (by decide +kernel)) (by decide +kernel), ⟨by decide +kernel, by decide +kernel, by decide +kernel⟩, by decide +kernel⟩
theorem mv194 : mokV 194 0 := ⟨mo194, mt5 (List.mem_of_getElem? (i := 235) (by decide +kernel)) (by decide +kernel), mt5 (List.mem_of_getElem? (i := 236) (by decide +kernel)) (by decide +kernel)⟩
theorem mf195 : mfx 195 "ClearingWavesModel" 1 none := ⟨by decide +kernel, by decide +kernel, by decide +kernel⟩
set_option maxRecDepth 20000 in
theorem mo195 : mok 195 0 := ⟨mt6 (List.mem_of_getElem? (i := 1) rfl) (by decide +kernel), mt1 (List.mem_of_getElem? (i := 12) (by decide +kernel)) (by decide +kernel), ⟨by decide +kernel, by decide +kernel, by decide +kernel⟩, by decide +kernel⟩
theorem mv195 : mokV 195 0 := ⟨mo195, mt6 (List.mem_of_getElem? (i := 0) (by decide +kernel)) (by decide +kernel), ms3 (List.mem_of_getElem? (i := 15) (by decide +kernel)) (by decide +kernel)⟩
theorem mf196 : mfx 196 "ClearingWavesModel" 2 none := ⟨by decide +kernel, by decide +kernel, by decide +kernel⟩
set_option maxRecDepth 20000 in
theorem mo196 : mok 196 0 := ⟨mt6 (List.mem_of_getElem? (i := 5) rfl) (by decide +kernel), mt1 (List.mem_of_getElem? (i := 12) (by decide +kernel)) (by decide +kernel), ⟨by decide +kernel, by decide +kernel, by decide +kernel⟩, by decide +kernel⟩
theorem mv196 : mokV 196 0 := ⟨mo196, mt6 (List.mem_of_getElem? (i := 4) (by decide +kernel)) (by decide +kernel), ms4 (List.mem_of_getElem? (i := 0) (by decide +kernel)) (by decide +kernel)⟩
theorem mf197 : mfx 197 "ClearingWavesModel" 2 none := ⟨by decide +kernel, by decide +kernel, by decide +kernel⟩
set_option maxRecDepth 20000 in
theorem mo197 : mok 197 0 := ⟨mt6 (List.mem_of_getElem? (i := 9) rfl) (by decide +kernel), mt1 (List.mem_of_getElem? (i := 12) (by decide +kernel)) (by decide +kernel), ⟨by decide +kernel, by decide +kernel, by decide +kernel⟩, by decide +kernel⟩
theorem mv197 : mokV 197 0 := ⟨mo197, mt6 (List.mem_of_getElem? (i := 8) (by decide +kernel)) (by decide +kernel), ms4 (List.mem_of_getElem? (i := 1) (by decide +kernel)) (by decide +kernel)⟩
theorem mf198 : mfx 198 "ClearingWavesModel" 8 none := ⟨by decide +kernel, by decide +kernel, by decide +kernel⟩
set_option maxRecDepth 20000 in
theorem mo198 : mok 198 1 := ⟨mt6 (List.mem_of_getElem? (i := 13) rfl) (by decide +kernel), mt1 (List.mem_of_getElem? (i := 12) (by decide +kernel)) (by decide +kernel), ⟨by decide +kernel, by decide +kernel, by decide +kernel⟩, by decide +kernel⟩
theorem mv198 : mokV 198 1 := ⟨mo198, mt6 (List.mem_of_getElem? (i := 12) (by decide +kernel)) (by decide +kernel), ms4 (List.mem_of_getElem? (i := 2) (by decide +kernel)) (by decide +kernel)⟩
theorem mf199 : mfx 199 "ClearingWavesModel" 4 none := ⟨by decide +kernel, by decide +kernel, by decide +kernel⟩
set_option maxRecDepth 20000 in
theorem mo199 : mok 199 0 := ⟨mt6 (List.mem_of_getElem? (i := 17) rfl) (by decide +kernel), mt1 (List.mem_of_getElem? (i := 12) (by decide +kernel)) (by decide +kernel), ⟨by decide +kernel, by decide +kernel, by decide +kernel⟩, by decide +kernel⟩
theorem mv199 : mokV 199 0 := ⟨mo199, mt6 (List.mem_of_getElem? (i := 16) (by decide +kernel)) (by decide +kernel), ms4 (List.mem_of_getElem? (i := 3) (by decide +kernel)) (by decide +kernel)⟩
theorem mf200 : mfx 200 "ClearingWavesModel" 2 (some .boolean) := ⟨by decide +kernel, by decide +kernel, by decide +kernel⟩
set_option maxRecDepth 20000 in
theorem mo200 : mok 200 2 := ⟨mt6 (List.mem_of_getElem? (i := 20) rfl) (by decide +kernel), mt1 (List.mem_of_getElem? (i := 12) (by decide +kernel)) (by decide +kernel), ⟨by decide +kernel, by decide +kernel, by decide +kernel⟩, by decide +kernel⟩
theorem mv200 : mokS 200 2 := ⟨mo200, mt6 (List.mem_of_getElem? (i := 19) (by decide +kernel)) (by decide +kernel)⟩
theorem mf201 : mfx 201 "ClearingWavesModel" 3 (some .boolean) := ⟨by decide +kernel, by decide +kernel, by decide +kernel⟩
set_option maxRecDepth 20000 in
theorem mo201 : mok 201 1 := ⟨mt6 (List.mem_of_getElem? (i := 24) rfl) (by decide +kernel), mt1 (List.mem_of_getElem? (i := 12) (by decide +kernel)) (by decide +kernel), ⟨by decide +kernel, by decide +kernel, by decide +kernel⟩, by decide +kernel⟩
theorem mv201 : mokV 201 1 := ⟨mo201, mt6 (List.mem_of_getElem? (i := 23) (by decide +kernel)) (by decide +kernel), ms4 (List.mem_of_getElem? (i := 4) (by decide +kernel)) (by decide +kernel)⟩
theorem mf202 : mfx 202 "ClearingWavesModel" 5 (some .long) := ⟨by decide +kernel, by decide +kernel, by decide +kernel⟩
set_option maxRecDepth 20000 in
theorem mo202 : mok 202 1 := ⟨mt6 (List.mem_of_getElem? (i := 28) rfl) (by decide +kernel), mt1 (List.mem_of_getElem? (i := 12) (by decide +kernel)) (by decide +kernel), ⟨by decide +kernel, by decide +kernel, by decide +kernel⟩, by decide +kernel⟩
theorem mv202 : mokV 202 1 := ⟨mo202, mt6 (List.mem_of_getElem? (i := 27) (by decide +kernel)) (by decide +kernel), ms4 (List.mem_of_getElem? (i := 5) (by decide +kernel)) (by decide +kernel)⟩
theorem mf203 : mfx 203 "ClearingWavesModel" 6 (some .long) := ⟨by decide +kernel, by decide +kernel, by decide +kernel⟩
set_option maxRecDepth 20000 in
theorem mo203 : mok 203 1 := ⟨mt6 (List.mem_of_getElem? (i := 32) rfl) (by decide +kernel), mt1 (List.mem_of_getElem? (i := 12) (by decide +kernel)) (by decide +kernel), ⟨by decide +kernel, by decide +kernel, by decide +kernel⟩, by decide +kernel⟩
theorem mv203 : mokV 203 1 := ⟨mo203, mt6 (List.mem_of_getElem? (i := 31) (by decide +kernel)) (by decide +kernel), ms4 (List.mem_of_getElem? (i := 6) (by decide +kernel)) (by decide +kernel)⟩
theorem mf204 : mfx 204 "ClearingWavesModel" 5 (some .int) := ⟨by decide +kernel, by decide +kernel, by decide +kernel⟩
set_option maxRecDepth 20000 in
theorem mo204 : mok 204 2 := ⟨mt6 (List.mem_of_getElem? (i := 36) rfl) (by decide +kernel), mt1 (List.mem_of_getElem? (i := 12) (by decide +kernel)) (by decide +kernel), ⟨by decide +kernel, by decide +kernel, by decide +kernel⟩, by decide +kernel⟩
theorem mv204 : mokV 204 2 := ⟨mo204, mt6 (List.mem_of_getElem? (i := 35) (by decide +kernel)) (by decide +kernel), ms4 (List.mem_of_getElem? (i := 7) (by decide +kernel)) (by decide +kernel)⟩
theorem mf205 : mfx 205 "ClearingWavesModel" 5 none := ⟨by decide +kernel, by decide +kernel, by decide +kernel⟩
set_option maxRecDepth 20000 in
theorem mo205 : mok 205 0 := ⟨mt6 (List.mem_of_getElem? (i := 40) rfl) (by decide +kernel), mt1 (List.mem_of_getElem? (i := 12) (by decide +kernel)) (by decide +kernel), ⟨by decide +kernel, by decide +kernel, by decide +kernel⟩, by decide +kernel⟩
theorem mv205 : mokV 205 0 := ⟨mo205, mt6 (List.mem_of_getElem? (i := 39) (by decide +kernel)) (by decide +kernel), ms4 (List.mem_of_getElem? (i := 8) (by decide +kernel)) (by decide +kernel)⟩
theorem mf206 : mfx 206 "ClearingWavesModel" 11 (some .long) := ⟨by decide +kernel, by decide +kernel, by decide +kernel⟩
set_option maxRecDepth 20000 in
theorem mo206 : mok 206 3 := ⟨mt6 (List.mem_of_getElem? (i := 44) rfl) (by decide +kernel), mt1 (List.mem_of_getElem? (i := 12) (by decide +kernel)) (by decide +kernel), ⟨by decide +kernel, by decide +kernel, by decide +kernel⟩, by decide +kernel⟩
theorem mv206 : mokV 206 3 := ⟨mo206, mt6 (List.mem_of_getElem? (i := 43) (by decide +kernel)) (by decide +kernel), ms4 (List.mem_of_getElem? (i := 9) (by decide +kernel)) (by decide +kernel)⟩
theorem mf207 : mfx 207 "ClearingWavesModel" 3 (some .boolean) := ⟨by decide +kernel, by decide +kernel, by decide +kernel⟩
set_option maxRecDepth 20000 in
theorem mo207 : mok 207 0 := ⟨mt6 (List.mem_of_getElem? (i := 48) rfl) (by decide +kernel), mt1 (List.mem_of_getElem? (i := 12) (by decide +kernel)) (by decide +kernel), ⟨by decide +kernel, by decide +kernel, by decide +kernel⟩, by decide +kernel⟩
theorem mv207 : mokV 207 0 := ⟨mo207, mt6 (List.mem_of_getElem? (i := 47) (by decide +kernel)) (by decide +kernel), ms4 (List.mem_of_getElem? (i := 10) (by decide +kernel)) (by decide +kernel)⟩
theorem mf208 : mfx 208 "ClearingWavesModel" 10 (some .long) := ⟨by decide +kernel, by decide +kernel, by decide +kernel⟩
set_option maxRecDepth 20000 in
theorem mo208 : mok 208 2 := ⟨mt6 (List.mem_of_getElem? (i := 51) rfl) (by decide +kernel), mt1 (List.mem_of_getElem? (i := 12) (by decide +kernel)) (by decide +kernel), ⟨by decide +kernel, by decide +kernel, by decide +kernel⟩, by decide +kernel⟩
theorem mv208 : mokS 208 2 := ⟨mo208, mt6 (List.mem_of_getElem? (i := 50) (by decide +kernel)) (by decide +kernel)⟩
theorem mf209 : mfx 209 "ClearingWavesModel" 3 (some .int) := ⟨by decide +kernel, by decide +kernel, by decide +kernel⟩
set_option maxRecDepth 20000 in
theorem mo209 : mok 209 0 := ⟨mt6 (List.mem_of_getElem? (i := 55) rfl) (by decide +kernel), mt1 (List.mem_of_getElem? (i := 12) (by decide +kernel)) (by decide +kernel), ⟨by decide +kernel, by decide +kernel, by decide +kernel⟩, by decide +kernel⟩
theorem mv209 : mokV 209 0 := ⟨mo209, mt6 (List.mem_of_getElem? (i := 54) (by decide +kernel)) (by decide +kernel), ms4 (List.mem_of_getElem? (i := 11) (by decide +kernel)) (by decide +kernel)⟩
theorem mf210 : mfx 210 "ClearingWavesModel" 3 (some .long) := ⟨by decide +kernel, by decide +kernel, by decide +kernel⟩
set_option maxRecDepth 20000 in
theorem mo210 : mok 210 2 := ⟨mt6 (List.mem_of_getElem? (i := 59) rfl) (by decide +kernel), mt1 (List.mem_of_getElem? (i := 12) (by decide +kernel)) (by decide +kernel), ⟨by decide +kernel, by decide +kernel, by decide +kernel⟩, by decide +kernel⟩
theorem mv210 : mokV 210 2 := ⟨mo210, mt6 (List.mem_of_getElem? (i := 58) (by decide +kernel)) (by decide +kernel), ms4 (List.mem_of_getElem? (i := 12) (by decide +kernel)) (by decide +kernel)⟩
theorem mf211 : mfx 211 "ClearingWavesModel" 7 (some .long) := ⟨by decide +kernel, by decide +kernel, by decide +kernel⟩
set_option maxRecDepth 20000 in
theorem mo211 : mok 211 2 := ⟨mt6 (List.mem_of_getElem? (i := 63) rfl) (by decide +kernel), mt1 (List.mem_of_getElem? (i := 12) (by decide +kernel)) (by decide +kernel), ⟨by decide +kernel, by decide +kernel, by decide +kernel⟩, by decide +kernel⟩
theorem mv211 : mokV 211 2 := ⟨mo211, mt6 (List.mem_of_getElem? (i := 62) (by decide +kernel)) (by decide +kernel), ms4 (List.mem_of_getElem? (i := 13) (by decide +kernel)) (by decide +kernel)⟩
theorem mf212 : mfx 212 "ClearingWavesModel" 4 (some .long) := ⟨by decide +kernel, by decide +kernel, by decide +kernel⟩
set_option maxRecDepth 20000 in
theorem mo212 : mok 212 3 := ⟨mt6 (List.mem_of_getElem? (i := 67) rfl) (by decide +kernel), mt1 (List.mem_of_getElem? (i := 12) (by decide +kernel)) (by decide +kernel), ⟨by decide +kernel, by decide +kernel, by decide +kernel⟩, by decide +kernel⟩
theorem mv212 : mokV 212 3 := ⟨mo212, mt6 (List.mem_of_getElem? (i := 66) (by decide +kernel)) (by decide +kernel), ms4 (List.mem_of_getElem? (i := 14) (by decide +kernel)) (by decide +kernel)⟩
theorem mf213 : mfx 213 "ClearingWavesModel" 2 (some .int) := ⟨by decide +kernel, by decide +kernel, by decide +kernel⟩
set_option maxRecDepth 20000 in
theorem mo213 : mok 213 1 := ⟨mt6 (List.mem_of_getElem? (i := 71) rfl) (by decide +kernel), mt1 (List.mem_of_getElem? (i := 12) (by decide +kernel)) (by decide +kernel), ⟨by decide +kernel, by decide +kernel, by decide +kernel⟩, by decide +kernel⟩
theorem mv213 : mokV 213 1 := ⟨mo213, mt6 (List.mem_of_getElem? (i := 70) (by decide +kernel)) (by decide +kernel), ms4 (List.mem_of_getElem? (i := 15) (by decide +kernel)) (by decide +kernel)⟩
theorem mf214 : mfx 214 "ClearingWavesModel" 2 (some .int) := ⟨by decide +kernel, by decide +kernel, by decide +kernel⟩
set_option maxRecDepth 20000 in
theorem mo214 : mok 214 1 := ⟨mt6 (List.mem_of_getElem? (i := 75) rfl) (by decide +kernel), mt1 (List.mem_of_getElem? (i := 12) (by decide +kernel)) (by decide +kernel), ⟨by decide +kernel, by decide +kernel, by decide +kernel⟩, by decide +kernel⟩
theorem mv214 : mokV 214 1 := ⟨mo214, mt6 (List.mem_of_getElem? (i := 73) (by decide +kernel)) (by decide +kernel), mt6 (List.mem_of_getElem? (i := 74) (by decide +kernel)) (by decide +kernel)⟩
theorem mf215 : mfx 215 "ClearingWavesModel" 1 (some .int) := ⟨by decide +kernel, by decide +kernel, by decide +kernel⟩
set_option maxRecDepth 20000 in
theorem mo215 : mok 215 0 := ⟨mt6 (List.mem_of_getElem? (i := 79) rfl) (by decide +kernel), mt1 (List.mem_of_getElem? (i := 12) (by decide +kernel)) (by decide +kernel), ⟨by decide +kernel, by decide +kernel, by decide +kernel⟩, by decide +kernel⟩
theorem mv215 : mokV 215 0 := ⟨mo215, mt6 (List.mem_of_getElem? (i := 77) (by decide +kernel)) (by decide +kernel), mt6 (List.mem_of_getElem? (i := 78) (by decide +kernel)) (by decide +kernel)⟩
theorem mf216 : mfx 216 "ClearingWavesModel" 4 (some .long) := ⟨by decide +kernel, by decide +kernel, by decide +kernel⟩
set_option maxRecDepth 20000 in
theorem mo216 : mok 216 3 := ⟨mt6 (List.mem_of_getElem? (i := 83) rfl) (by decide +kernel), mt1 (List.mem_of_getElem? (i := 12) (by decide +kernel)) (by decide +kernel), ⟨by decide +kernel, by decide +kernel, by decide +kernel⟩, by decide +kernel⟩
theorem mv216 : mokV 216 3 := ⟨mo216, mt6 (List.mem_of_getElem? (i := 81) (by decide +kernel)) (by decide +kernel), mt6 (List.mem_of_getElem? (i := 82) (by decide +kernel)) (by decide +kernel)⟩
theorem mf217 : mfx 217 "ClearingWavesModel" 5 (some .long) := ⟨by decide +kernel, by decide +kernel, by decide +kernel⟩
set_option maxRecDepth 20000 in
theorem mo217 : mok 217 4 := ⟨mt6 (List.mem_of_getElem? (i := 87) rfl) (by decide +kernel), mt1 (List.mem_of_getElem? (i := 12) (by decide +kernel)) (by decide +kernel), ⟨by decide +kernel, by decide +kernel, by decide +kernel⟩, by decide +kernel⟩
theorem mv217 : mokV 217 4 := ⟨mo217, mt6 (List.mem_of_getElem? (i := 85) (by decide +kernel)) (by decide +kernel), mt6 (List.mem_of_getElem? (i := 86) (by decide +kernel)) (by decide +kernel)⟩
theorem mf218 : mfx 218 "ClearingWavesModel" 1 (some .boolean) := ⟨by decide +kernel, by decide +kernel, by decide +kernel⟩
set_option maxRecDepth 20000 in
theorem mo218 : mok 218 1 := ⟨mt6 (List.mem_of_getElem? (i := 90) rfl) (by decide +kernel), mt1 (List.mem_of_getElem? (i := 12) (by decide +kernel)) (by decide +kernel), ⟨by decide +kernel, by decide +kernel, by decide +kernel⟩, by decide +kernel⟩
theorem mv218 : mokS 218 1 := ⟨mo218, mt6 (List.mem_of_getElem? (i := 89) (by decide +kernel)) (by decide +kernel)⟩
theorem mf219 : mfx 219 "ClearingWavesModel" 7 (some .long) := ⟨by decide +kernel, by decide +kernel, by decide +kernel⟩
set_option maxRecDepth 20000 in
theorem mo219 : mok 219 3 := ⟨mt6 (List.mem_of_getElem? (i := 94) rfl) (by decide +kernel), mt1 (List.mem_of_getElem? (i := 12) (by decide +kernel)) (by decide +kernel), ⟨by decide +kernel, by decide +kernel, by decide +kernel⟩, by decide +kernel⟩
theorem mv219 : mokS 219 3 := ⟨mo219, mt6 (List.mem_of_getElem? (i := 93) (by decide +kernel)) (by decide +kernel)⟩
theorem mf220 : mfx 220 "ClearingWavesModel" 5 (some .long) := ⟨by decide +kernel, by decide +kernel, by decide +kernel⟩
set_option maxRecDepth 20000 in
theorem mo220 : mok 220 4 := ⟨mt6 (List.mem_of_getElem? (i := 99) rfl) (by decide +kernel), mt1 (List.mem_of_getElem? (i := 12) (by decide +kernel)) (by decide +kernel), ⟨by decide +kernel, by decide +kernel, by decide +kernel⟩, by decide +kernel⟩
theorem mv220 : mokV 220 4 := ⟨mo220, mt6 (List.mem_of_getElem? (i := 97) (by decide +kernel)) (by decide +kernel), mt6 (List.mem_of_getElem? (i := 98) (by decide +kernel)) (by decide +kernel)⟩
theorem mf221 : mfx 221 "ClearingWavesModel" 3 (some .long) := ⟨by decide +kernel, by decide +kernel, by decide +kernel⟩
set_option maxRecDepth 20000 in
theorem mo221 : mok 221 2 := ⟨mt6 (List.mem_of_getElem? (i := 103) rfl) (by decide +kernel), mt1 (List.mem_of_getElem? (i := 12) (by decide +kernel)) (by decide +kernel), ⟨by decide +kernel, by decide +kernel, by decide +kernel⟩, by decide +kernel⟩
theorem mv221 : mokV 221 2 := ⟨mo221, mt6 (List.mem_of_getElem? (i := 101) (by decide +kernel)) (by decide +kernel), mt6 (List.mem_of_getElem? (i := 102) (by decide +kernel)) (by decide +kernel)⟩
theorem mf222 : mfx 222 "ClearingWavesModel" 4 (some .long) := ⟨by decide +kernel, by decide +kernel, by decide +kernel⟩
set_option maxRecDepth 20000 in
theorem mo222 : mok 222 3 := ⟨mt6 (List.mem_of_getElem? (i := 107) rfl) (by decide +kernel), mt1 (List.mem_of_getElem? (i := 12) (by decide +kernel)) (by decide +kernel), ⟨by decide +kernel, by decide +kernel, by decide +kernel⟩, by decide +kernel⟩
theorem mv222 : mokV 222 3 := ⟨mo222, mt6 (List.mem_of_getElem? (i := 105) (by decide +kernel)) (by decide +kernel), mt6 (List.mem_of_getElem? (i := 106) (by decide +kernel)) (by decide +kernel)⟩
theorem mf223 : mfx 223 "ClearingWavesModel" 3 (some .long) := ⟨by decide +kernel, by decide +kernel, by decide +kernel⟩
set_option maxRecDepth 20000 in
theorem mo223 : mok 223 2 := ⟨mt6 (List.mem_of_getElem? (i := 111) rfl) (by decide +kernel), mt1 (List.mem_of_getElem? (i := 12) (by decide +kernel)) (by decide +kernel), ⟨by decide +kernel, by decide +kernel, by decide +kernel⟩, by decide +kernel⟩
theorem mv223 : mokV 223 2 := ⟨mo223, mt6 (List.mem_of_getElem? (i := 109) (by decide +kernel)) (by decide +kernel), mt6 (List.mem_of_getElem? (i := 110) (by decide +kernel)) (by decide +kernel)⟩
theorem mf224 : mfx 224 "ClearingWavesModel" 2 (some .long) := ⟨by decide +kernel, by decide +kernel, by decide +kernel⟩
set_option maxRecDepth 20000 in
theorem mo224 : mok 224 1 := ⟨mt6 (List.mem_of_getElem? (i := 115) rfl) (by decide +kernel), mt1 (List.mem_of_getElem? (i := 12) (by decide +kernel)) (by decide +kernel), ⟨by decide +kernel, by decide +kernel, by decide +kernel⟩, by decide +kernel⟩
theorem mv224 : mokV 224 1 := ⟨mo224, mt6 (List.mem_of_getElem? (i := 114) (by decide +kernel)) (by decide +kernel), ms5 (List.mem_of_getElem? (i := 0) (by decide +kernel)) (by decide +kernel)⟩
theorem mf225 : mfx 225 "ClearingWavesModel" 3 (some .long) := ⟨by decide +kernel, by decide +kernel, by decide +kernel⟩
set_option maxRecDepth 20000 in
theorem mo225 : mok 225 2 := ⟨mt6 (List.mem_of_getElem? (i := 119) rfl) (by decide +kernel), mt1 (List.mem_of_getElem? (i := 12) (by decide +kernel)) (by decide +kernel), ⟨by decide +kernel, by decide +kernel, by decide +kernel⟩, by decide +kernel⟩
theorem mv225 : mokV 225 2 := ⟨mo225, mt6 (List.mem_of_getElem? (i := 117) (by decide +kernel)) (by decide +kernel), mt6 (List.mem_of_getElem? (i := 118) (by decide +kernel)) (by decide +kernel)⟩
theorem mf226 : mfx 226 "ClearingWavesModel" 2 (some .long) := ⟨by decide +kernel, by decide +kernel, by decide +kernel⟩
set_option maxRecDepth 20000 in
theorem mo226 : mok 226 1 := ⟨mt6 (List.mem_of_getElem? (i := 123) rfl) (by decide +kernel), mt1 (List.mem_of_getElem? (i := 12) (by decide +kernel)) (by decide +kernel), ⟨by decide +kernel, by decide +kernel, by decide +kernel⟩, by decide +kernel⟩
theorem mv226 : mokV 226 1 := ⟨mo226, mt6 (List.mem_of_getElem? (i := 122) (by decide +kernel)) (by decide +kernel), ms5 (List.mem_of_getElem? (i := 1) (by decide +kernel)) (by decide +kernel)⟩
theorem mf227 : mfx 227 "ClearingWavesModel" 4 (some .long) := ⟨by decide +kernel, by decide +kernel, by decide +kernel⟩
set_option maxRecDepth 20000 in
theorem mo227 : mok 227 3 := ⟨mt6 (List.mem_of_getElem? (i := 127) rfl) (by decide +kernel), mt1 (List.mem_of_getElem? (i := 12) (by decide +kernel)) (by decide +kernel), ⟨by decide +kernel, by decide +kernel, by decide +kernel⟩, by decide +kernel⟩
theorem mv227 : mokV 227 3 := ⟨mo227, mt6 (List.mem_of_getElem? (i := 125) (by decide +kernel)) (by decide +kernel), mt6 (List.mem_of_getElem? (i := 126) (by decide +kernel)) (by decide +kernel)⟩
theorem mf228 : mfx 228 "ClearingWavesModel" 7 (some .long) := ⟨by decide +kernel, by decide +kernel, by decide +kernel⟩
set_option maxRecDepth 20000 in
theorem mo228 : mok 228 3 := ⟨mt6 (List.mem_of_getElem? (i := 131) rfl) (by decide +kernel), mt1 (List.mem_of_getElem? (i := 12) (by decide +kernel)) (by decide +kernel), ⟨by decide +kernel, by decide +kernel, by decide +kernel⟩, by decide +kernel⟩
theorem mv228 : mokV 228 3 := ⟨mo228, mt6 (List.mem_of_getElem? (i := 130) (by decide +kernel)) (by decide +kernel), ms5 (List.mem_of_getElem? (i := 2) (by decide +kernel)) (by decide +kernel)⟩
theorem mf229 : mfx 229 "ClearingWavesModel" 6 (some .long) := ⟨by decide +kernel, by decide +kernel, by decide +kernel⟩
set_option maxRecDepth 20000 in
theorem mo229 : mok 229 2 := ⟨mt6 (List.mem_of_getElem? (i := 135) rfl) (by decide +kernel), mt1 (List.mem_of_getElem? (i := 12) (by decide +kernel)) (by decide +kernel), ⟨by decide +kernel, by decide +kernel, by decide +kernel⟩, by decide +kernel⟩
theorem mv229 : mokV 229 2 := ⟨mo229, mt6 (List.mem_of_getElem? (i := 133) (by decide +kernel)) (by decide +kernel), mt6 (List.mem_of_getElem? (i := 134) (by decide +kernel)) (by decide +kernel)⟩
theorem mf230 : mfx 230 "ClearingWavesModel" 4 (some .long) := ⟨by decide +kernel, by decide +kernel, by decide +kernel⟩
set_option maxRecDepth 20000 in
theorem mo230 : mok 230 0 := ⟨mt6 (List.mem_of_getElem? (i := 139) rfl) (by decide +kernel), mt1 (List.mem_of_getElem? (i := 12) (by decide +kernel)) (by decide +kernel), ⟨by decide +kernel, by decide +kernel, by decide +kernel⟩, by decide +kernel⟩
theorem mv230 : mokV 230 0 := ⟨mo230, mt6 (List.mem_of_getElem? (i := 138) (by decide +kernel)) (by decide +kernel), ms5 (List.mem_of_getElem? (i := 3) (by decide +kernel)) (by decide +kernel)⟩
theorem mf231 : mfx 231 "ClearingWavesModel" 3 (some .int) := ⟨by decide +kernel, by decide +kernel, by decide +kernel⟩
set_option maxRecDepth 20000 in
theorem mo231 : mok 231 1 := ⟨mt6 (List.mem_of_getElem? (i := 143) rfl) (by decide +kernel), mt1 (List.mem_of_getElem? (i := 12) (by decide +kernel)) (by decide +kernel), ⟨by decide +kernel, by decide +kernel, by decide +kernel⟩, by decide +kernel⟩
theorem mv231 : mokV 231 1 := ⟨mo231, mt6 (List.mem_of_getElem? (i := 141) (by decide +kernel)) (by decide +kernel), mt6 (List.mem_of_getElem? (i := 142) (by decide +kernel)) (by decide +kernel)⟩
theorem mf232 : mfx 232 "ClearingWavesModel" 2 (some .int) := ⟨by decide +kernel, by decide +kernel, by decide +kernel⟩
set_option maxRecDepth 20000 in
theorem mo232 : mok 232 1 := ⟨mt6 (List.mem_of_getElem? (i := 147) rfl) (by decide +kernel), mt1 (List.mem_of_getElem? (i := 12) (by decide +kernel)) (by decide +kernel), ⟨by decide +kernel, by decide +kernel, by decide +kernel⟩, by decide +kernel⟩
theorem mv232 : mokV 232 1 := ⟨mo232, mt6 (List.mem_of_getElem? (i := 146) (by decide +kernel)) (by decide +kernel), ms5 (List.mem_of_getElem? (i := 4) (by decide +kernel)) (by decide +kernel)⟩
theorem mf233 : mfx 233 "ClearingWavesModel" 4 (some .int) := ⟨by decide +kernel, by decide +kernel, by decide +kernel⟩
set_option maxRecDepth 20000 in
theorem mo233 : mok 233 1 := ⟨mt6 (List.mem_of_getElem? (i := 151) rfl) (by decide +kernel), mt1 (List.mem_of_getElem? (i := 12) (by decide +kernel)) (by decide +kernel), ⟨by decide +kernel, by decide +kernel, by decide +kernel⟩, by decide +kernel⟩
theorem mv233 : mokV 233 1 := ⟨mo233, mt6 (List.mem_of_getElem? (i := 150) (by decide +kernel)) (by decide +kernel), ms5 (List.mem_of_getElem? (i := 5) (by decide +kernel)) (by decide +kernel)⟩
theorem mf234 : mfx 234 "ClearingWavesModel" 6 (some .int) := ⟨by decide +kernel, by decide +kernel, by decide +kernel⟩
set_option maxRecDepth 20000 in
theorem mo234 : mok 234 2 := ⟨mt6 (List.mem_of_getElem? (i := 155) rfl) (by decide +kernel), mt1 (List.mem_of_getElem? (i := 12) (by decide +kernel)) (by decide +kernel), ⟨by decide +kernel, by decide +kernel, by decide +kernel⟩, by decide +kernel⟩
theorem mv234 : mokV 234 2 := ⟨mo234, mt6 (List.mem_of_getElem? (i := 153) (by decide +kernel)) (by decide +kernel), mt6 (List.mem_of_getElem? (i := 154) (by decide +kernel)) (by decide +kernel)⟩
theorem mf235 : mfx 235 "ClearingWavesModel" 3 (some .int) := ⟨by decide +kernel, by decide +kernel, by decide +kernel⟩
set_option maxRecDepth 20000 in
theorem mo235 : mok 235 1 := ⟨mt6 (List.mem_of_getElem? (i := 160) rfl) (by decide +kernel), mt1 (List.mem_of_getElem? (i := 12) (by decide +kernel)) (by decide +kernel), ⟨by decide +kernel, by decide +kernel, by decide +kernel⟩, by decide +kernel⟩
theorem mv235 : mokV 235 1 := ⟨mo235, mt6 (List.mem_of_getElem? (i := 158) (by decide +kernel)) (by decide +kernel), mt6 (List.mem_of_getElem? (i := 159) (by decide +kernel)) (by decide +kernel)⟩
theorem mf236 : mfx 236 "ClearingWavesModel" 3 (some .int) := ⟨by decide +kernel, by decide +kernel, by decide +kernel⟩
set_option maxRecDepth 20000 in
theorem mo236 : mok 236 1 := ⟨mt6 (List.mem_of_getElem? (i := 164) rfl) (by decide +kernel), mt1 (List.mem_of_getElem? (i := 12) (by decide +kernel)) (by decide +kernel), ⟨by decide +kernel, by decide +kernel, by decide +kernel⟩, by decide +kernel⟩
theorem mv236 : mokV 236 1 := ⟨mo236, mt6 (List.mem_of_getElem? (i := 163) (by decide +kernel)) (by decide +kernel), ms5 (List.mem_of_getElem? (i := 6) (by decide +kernel)) (by decide +kernel)⟩
theorem mf237 : mfx 237 "ClearingWavesModel" 5 (some .int) := ⟨by decide +kernel, by decide +kernel, by decide +kernel⟩
set_option maxRecDepth 20000 in
theorem mo237 : mok 237 1 := ⟨mt6 (List.mem_of_getElem? (i := 168) rfl) (by decide +kernel), mt1 (List.mem_of_getElem? (i := 12) (by decide +kernel)) (by decide +kernel), ⟨by decide +kernel, by decide +kernel, by decide +kernel⟩, by decide +kernel⟩
theorem mv237 : mokV 237 1 := ⟨mo237, mt6 (List.mem_of_getElem? (i := 166) (by decide +kernel)) (by decide +kernel), mt6 (List.mem_of_getElem? (i := 167) (by decide +kernel)) (by decide +kernel)⟩
theorem mf238 : mfx 238 "ClearingWavesModel" 4 (some .int) := ⟨by decide +kernel, by decide +kernel, by decide +kernel⟩
set_option maxRecDepth 20000 in
theorem mo238 : mok 238 3 := ⟨mt6 (List.mem_of_getElem? (i := 172) rfl) (by decide +kernel), mt1 (List.mem_of_getElem? (i := 12) (by decide +kernel)) (by decide +kernel), ⟨by decide +kernel, by decide +kernel, by decide +kernel⟩, by decide +kernel⟩
theorem mv238 : mokV 238 3 := ⟨mo238, mt6 (List.mem_of_getElem? (i := 170) (by decide +kernel)) (by decide +kernel), mt6 (List.mem_of_getElem? (i := 171) (by decide +kernel)) (by decide +kernel)⟩
theorem mf239 : mfx 239 "ClearingWavesModel" 3 (some .int) := ⟨by decide +kernel, by decide +kernel, by decide +kernel⟩
set_option maxRecDepth 20000 in
theorem mo239 : mok 239 0 := ⟨mt6 (List.mem_of_getElem? (i := 176) rfl) (by decide +kernel), mt1 (List.mem_of_getElem? (i := 12) (by decide +kernel)) (by decide +kernel), ⟨by decide +kernel, by decide +kernel, by decide +kernel⟩, by decide +kernel⟩
theorem mv239 : mokV 239 0 := ⟨mo239, mt6 (List.mem_of_getElem? (i := 175) (by decide +kernel)) (by decide +kernel), ms5 (List.mem_of_getElem? (i := 7) (by decide +kernel)) (by decide +kernel)⟩
theorem mf240 : mfx 240 "ClearingWavesModel" 8 none := ⟨by decide +kernel, by decide +kernel, by decide +kernel⟩
set_option maxRecDepth 20000 in
theorem mo240 : mok 240 1 := ⟨mt6 (List.mem_of_getElem? (i := 181) rfl) (by decide +kernel), mt1 (List.mem_of_getElem? (i := 12) (by decide +kernel)) (by decide +kernel), ⟨by decide +kernel, by decide +kernel, by decide +kernel⟩, by decide +kernel⟩
theorem mv240 : mokV 240 1 := ⟨mo240, mt6 (List.mem_of_getElem? (i := 180) (by decide +kernel)) (by decide +kernel), ms5 (List.mem_of_getElem? (i := 8) (by decide +kernel)) (by decide +kernel)⟩
theorem mf241 : mfx 241 "ClearingWavesModel" 6 (some .int) := ⟨by decide +kernel, by decide +kernel, by decide +kernel⟩
set_option maxRecDepth 20000 in
theorem mo241 : mok 241 2 := ⟨mt6 (List.mem_of_getElem? (i := 185) rfl) (by decide +kernel), mt1 (List.mem_of_getElem? (i := 12) (by decide +kernel)) (by decide +kernel), ⟨by decide +kernel, by decide +kernel, by decide +kernel⟩, by decide +kernel⟩
theorem mv241 : mokV 241 2 := ⟨mo241, mt6 (List.mem_of_getElem? (i := 184) (by decide +kernel)) (by decide +kernel), ms5 (List.mem_of_getElem? (i := 9) (by decide +kernel)) (by decide +kernel)⟩
theorem mf242 : mfx 242 "ClearingWavesModel" 3 (some .int) := ⟨by decide +kernel, by decide +kernel, by decide +kernel⟩
set_option maxRecDepth 20000 in
theorem mo242 : mok 242 3 := ⟨mt6 (List.mem_of_getElem? (i := 188) rfl) (by decide +kernel), mt1 (List.mem_of_getElem? (i := 12) (by decide +kernel)) (by decide +kernel), ⟨by decide +kernel, by decide +kernel, by decide +kernel⟩, by decide +kernel⟩
theorem mv242 : mokS 242 3 := ⟨mo242, mt6 (List.mem_of_getElem? (i := 187) (by decide +kernel)) (by decide +kernel)⟩
theorem mf243 : mfx 243 "ClearingWavesModel" 3 (some .int) := ⟨by decide +kernel, by decide +kernel, by decide +kernel⟩
set_option maxRecDepth 20000 in
theorem mo243 : mok 243 2 := ⟨mt6 (List.mem_of_getElem? (i := 192) rfl) (by decide +kernel), mt1 (List.mem_of_getElem? (i := 12) (by decide +kernel)) (by decide +kernel), ⟨by decide +kernel, by decide +kernel, by decide +kernel⟩, by decide +kernel⟩
theorem mv243 : mokV 243 2 := ⟨mo243, mt6 (List.mem_of_getElem? (i := 191) (by decide +kernel)) (by decide +kernel), ms5 (List.mem_of_getElem? (i := 10) (by decide +kernel)) (by decide +kernel)⟩
theorem mf244 : mfx 244 "ClearingWavesModel" 1 (some .int) := ⟨by decide +kernel, by decide +kernel, by decide +kernel⟩
set_option maxRecDepth 20000 in
theorem mo244 : mok 244 0 := ⟨mt6 (List.mem_of_getElem? (i := 196) rfl) (by decide +kernel), mt1 (List.mem_of_getElem? (i := 12) (by decide +kernel)) (by decide +kernel), ⟨by decide +kernel, by decide +kernel, by decide +kernel⟩, by decide +kernel⟩
theorem mv244 : mokV 244 0 := ⟨mo244, mt6 (List.mem_of_getElem? (i := 194) (by decide +kernel)) (by decide +kernel), mt6 (List.mem_of_getElem? (i := 195) (by decide +kernel)) (by decide +kernel)⟩
theorem mf245 : mfx 245 "ClearingWavesModel" 3 (some .int) := ⟨by decide +kernel, by decide +kernel, by decide +kernel⟩
set_option maxRecDepth 20000 in
theorem mo245 : mok 245 0 := ⟨mt6 (List.mem_of_getElem? (i := 200) rfl) (by decide +kernel), mt1 (List.mem_of_getElem? (i := 12) (by decide +kernel)) (by decide +kernel), ⟨by decide +kernel, by decide +kernel, by decide +kernel⟩, by decide +kernel⟩
theorem mv245 : mokV 245 0 := ⟨mo245, mt6 (List.mem_of_getElem? (i := 198) (by decide +kernel)) (by decide +kernel), mt6 (List.mem_of_getElem? (i := 199) (by decide +kernel)) (by decide +kernel)⟩
theorem mf246 : mfx 246 "ClearingWavesModel" 7 (some .int) := ⟨by decide +kernel, by decide +kernel, by decide +kernel⟩
set_option maxRecDepth 20000 in
theorem mo246 : mok 246 0 := ⟨mt6 (List.mem_of_getElem? (i := 204) rfl) (by decide +kernel), mt1 (List.mem_of_getElem? (i := 12) (by decide +kernel)) (by decide +kernel), ⟨by decide +kernel, by decide +kernel, by decide +kernel⟩, by decide +kernel⟩
theorem mv246 : mokV 246 0 := ⟨mo246, mt6 (List.mem_of_getElem? (i := 202) (by decide +kernel)) (by decide +kernel), mt6 (List.mem_of_getElem? (i := 203) (by decide +kernel)) (by decide +kernel)⟩
theorem mf247 : mfx 247 "ClearingWavesModel" 3 (some .int) := ⟨by decide +kernel, by decide +kernel, by decide +kernel⟩
set_option maxRecDepth 20000 in
theorem mo247 : mok 247 2 := ⟨mt6 (List.mem_of_getElem? (i := 208) rfl) (by decide +kernel), mt1 (List.mem_of_getElem? (i := 12) (by decide +kernel)) (by decide +kernel), ⟨by decide +kernel, by decide +kernel, by decide +kernel⟩, by decide +kernel⟩
theorem mv247 : mokV 247 2 := ⟨mo247, mt6 (List.mem_of_getElem? (i := 206) (by decide +kernel)) (by decide +kernel), mt6 (List.mem_of_getElem? (i := 207) (by decide +kernel)) (by decide +kernel)⟩
theorem mf248 : mfx 248 "ClearingWavesModel" 1 (some .boolean) := ⟨by decide +kernel, by decide +kernel, by decide +kernel⟩
set_option maxRecDepth 20000 in
theorem mo248 : mok 248 1 := ⟨mt6 (List.mem_of_getElem? (i := 211) rfl) (by decide +kernel), mt1 (List.mem_of_getElem? (i := 12) (by decide +kernel)) (by decide +kernel), ⟨by decide +kernel, by decide +kernel, by decide +kernel⟩, by decide +kernel⟩
theorem mv248 : mokS 248 1 := ⟨mo248, mt6 (List.mem_of_getElem? (i := 210) (by decide +kernel)) (by decide +kernel)⟩
theorem mf249 : mfx 249 "ClearingWavesModel" 3 (some .int) := ⟨by decide +kernel, by decide +kernel, by decide +kernel⟩
set_option maxRecDepth 20000 in
theorem mo249 : mok 249 2 := ⟨mt6 (List.mem_of_getElem? (i := 215) rfl) (by decide +kernel), mt1 (List.mem_of_getElem? (i := 12) (by decide +kernel)) (by decide +kernel), ⟨by decide +kernel, by decide +kernel, by decide +kernel⟩, by decide +kernel⟩
theorem mv249 : mokV 249 2 := ⟨mo249, mt6 (List.mem_of_getElem? (i := 214) (by decide +kernel)) (by decide +kernel), ms5 (List.mem_of_getElem? (i := 11) (by decide +kernel)) (by decide +kernel)⟩
theorem mf250 : mfx 250 "ClearingWavesModel" 3 (some .int) := ⟨by decide +kernel, by decide +kernel, by decide +kernel⟩
set_option maxRecDepth 20000 in
theorem mo250 : mok 250 2 := ⟨mt6 (List.mem_of_getElem? (i := 220) rfl) (by decide +kernel), mt1 (List.mem_of_getElem? (i := 12) (by decide +kernel)) (by decide +kernel), ⟨by decide +kernel, by decide +kernel, by decide +kernel⟩, by decide +kernel⟩
theorem mv250 : mokV 250 2 := ⟨mo250, mt6 (List.mem_of_getElem? (i := 218) (by decide +kernel)) (by decide +kernel), mt6 (List.mem_of_getElem? (i := 219) (by decide +kernel)) (by decide +kernel)⟩
theorem mf251 : mfx 251 "ClearingWavesModel" 3 (some .int) := ⟨by decide +kernel, by decide +kernel, by decide +kernel⟩
set_option maxRecDepth 20000 in
theorem mo251 : mok 251 2 := ⟨mt6 (List.mem_of_getElem? (i := 224) rfl) (by decide +kernel), mt1 (List.mem_of_getElem? (i := 12) (by decide +kernel)) (by decide +kernel), ⟨by decide +kernel, by decide +kernel, by decide +kernel⟩, by decide +kernel⟩
theorem mv251 : mokV 251 2 := ⟨mo251, mt6 (List.mem_of_getElem? (i := 222) (by decide +kernel)) (by decide +kernel), mt6 (List.mem_of_getElem? (i := 223) (by decide +kernel)) (by decide +kernel)⟩
theorem mf252 : mfx 252 "ClearingWavesModel" 2 none := ⟨by decide +kernel, by decide +kernel, by decide +kernel⟩
set_option maxRecDepth 20000 in
theorem mo252 : mok 252 0 := ⟨mt6 (List.mem_of_getElem? (i := 228) rfl) (by decide +kernel), mt1 (List.mem_of_getElem? (i := 12) (by decide +kernel)) (by decide +kernel), ⟨by decide +kernel, by decide +kernel, by decide +kernel⟩, by decide +kernel⟩
theorem mv252 : mokV 252 0 := ⟨mo252, mt6 (List.mem_of_getElem? (i := 227) (by decide +kernel)) (by decide +kernel), ms5 (List.mem_of_getElem? (i := 12) (by decide +kernel)) (by decide +kernel)⟩
theorem mf253 : mfx 253 "ClearingWavesModel" 14 (some .int) := ⟨by decide +kernel, by decide +kernel, by decide +kernel⟩
set_option maxRecDepth 20000 in
theorem mo253 : mok 253 2 := ⟨mt6 (List.mem_of_getElem? (i := 232) rfl) (by decide +kernel), mt1 (List.mem_of_getElem? (i := 12) (by decide +kernel)) (by decide +kernel), ⟨by decide +kernel, by decide +kernel, by decide +kernel⟩, by decide +kernel⟩
theorem mv253 : mokV 253 2 := ⟨mo253, mt6 (List.mem_of_getElem? (i := 231) (by decide +kernel)) (by decide +kernel), ms5 (List.mem_of_getElem? (i := 13) (by decide +kernel)) (by decide +kernel)⟩
theorem mf254 : mfx 254 "ClearingWavesModel" 4 none := ⟨by decide +kernel, by decide +kernel, by decide +kernel⟩
set_option maxRecDepth 20000 in
theorem mo254 : mok 254 2 := ⟨mt6 (List.mem_of_getElem? (i := 236) rfl) (by decide +kernel), mt1 (List.mem_of_getElem? (i := 12) (by decide +kernel)) (by decide +kernel), ⟨by decide +kernel, by decide +kernel, by decide +kernel⟩, by decide +kernel⟩
theorem mv254 : mokV 254 2 := ⟨mo254, mt6 (List.mem_of_getElem? (i := 235) (by decide +kernel)) (by decide +kernel), ms5 (List.mem_of_getElem? (i := 14) (by decide +kernel)) (by decide +kernel)⟩
theorem mf255 : mfx 255 "ClearingWavesModel" 3 (some .int) := ⟨by decide +kernel, by decide +kernel, by decide +kernel⟩
set_option maxRecDepth 20000 in
theorem mo255 : mok 255 1 := ⟨mt6 (List.mem_of_getElem? (i := 239) rfl) (by decide +kernel), mt1 (List.mem_of_getElem? (i := 12) (by decide +kernel)) (by decide +kernel), ⟨by decide +kernel, by decide +kernel, by decide +kernel⟩, by decide +kernel⟩
theorem mv255 : mokS 255 1 := ⟨mo255, mt6 (List.mem_of_getElem? (i := 238) (by decide +kernel)) (by decide +kernel)⟩
theorem mf256 : mfx 256 "ClearingWavesModel" 21 (some .int) := ⟨by decide +kernel, by decide +kernel, by decide +kernel⟩
set_option maxRecDepth 20000 in
theorem mo256 : mok 256 4 := ⟨mt7 (List.mem_of_getElem? (i := 2) rfl) (by decide +kernel), mt1 (List.mem_of_getElem? (i := 12) (by decide +kernel)) (by decide +kernel), ⟨by decide +kernel, by decide +kernel, by decide +kernel⟩, by decide +kernel⟩
theorem mv256 : mokS 256 4 := ⟨mo256, mt7 (List.mem_of_getElem? (i := 1) (by decide +kernel)) (by decide +kernel)⟩
theorem mf257 : mfx 257 "ClearingWavesModel" 4 (some .int) := ⟨by decide +kernel, by decide +kernel, by decide +kernel⟩
set_option maxRecDepth 20000 in
theorem mo257 : mok 257 2 := ⟨mt7 (List.mem_of_getElem? (i := 6) rfl) (by decide +kernel), mt1 (List.mem_of_getElem? (i := 12) (by decide +kernel)) (by decide +kernel), ⟨by decide +kernel, by decide +kernel, by decide +kernel⟩, by decide +kernel⟩
theorem mv257 : mokV 257 2 := ⟨mo257, mt7 (List.mem_of_getElem? (i := 4) (by decide +kernel)) (by decide +kernel), mt7 (List.mem_of_getElem? (i := 5) (by decide +kernel)) (by decide +kernel)⟩
theorem mf258 : mfx 258 "ClearingWavesModel" 3 (some .int) := ⟨by decide +kernel, by decide +kernel, by decide +kernel⟩
set_option maxRecDepth 20000 in
theorem mo258 : mok 258 1 := ⟨mt7 (List.mem_of_getElem? (i := 10) rfl) (by decide +kernel), mt1 (List.mem_of_getElem? (i := 12) (by decide +kernel)) (by decide +kernel), ⟨by decide +kernel, by decide +kernel, by decide +kernel⟩, by decide +kernel⟩
theorem mv258 : mokV 258 1 := ⟨mo258, mt7 (List.mem_of_getElem? (i := 8) (by decide +kernel)) (by decide +kernel), mt7 (List.mem_of_getElem? (i := 9) (by decide +kernel)) (by decide +kernel)⟩
theorem mf259 : mfx 259 "ClearingWavesModel" 5 (some .int) := ⟨by decide +kernel, by decide +kernel, by decide +kernel⟩
set_option maxRecDepth 20000 in
theorem mo259 : mok 259 0 := ⟨mt7 (List.mem_of_getElem? (i := 14) rfl) (by decide +kernel), mt1 (List.mem_of_getElem? (i := 12) (by decide +kernel)) (by decide +kernel), ⟨by decide +kernel, by decide +kernel, by decide +kernel⟩, by decide +kernel⟩
theorem mv259 : mokV 259 0 := ⟨mo259, mt7 (List.mem_of_getElem? (i := 12) (by decide +kernel)) (by decide +kernel), mt7 (List.mem_of_getElem? (i := 13) (by decide +kernel)) (by decide +kernel)⟩
theorem mf260 : mfx 260 "ClearingWavesModel" 8 (some .int) := ⟨by decide +kernel, by decide +kernel, by decide +kernel⟩
set_option maxRecDepth 20000 in
theorem mo260 : mok 260 5 := ⟨mt7 (List.mem_of_getElem? (i := 18) rfl) (by decide +kernel), mt1 (List.mem_of_getElem? (i := 12) (by decide +kernel)) (by decide +kernel), ⟨by decide +kernel, by decide +kernel, by decide +kernel⟩, by decide +kernel⟩
theorem mv260 : mokV 260 5 := ⟨mo260, mt7 (List.mem_of_getElem? (i := 16) (by decide +kernel)) (by decide +kernel), mt7 (List.mem_of_getElem? (i := 17) (by decide +kernel)) (by decide +kernel)⟩
theorem mf261 : mfx 261 "ClearingWavesModel" 1 (some .boolean) := ⟨by decide +kernel, by decide +kernel, by decide +kernel⟩
set_option maxRecDepth 20000 in
theorem mo261 : mok 261 1 := ⟨mt7 (List.mem_of_getElem? (i := 21) rfl) (by decide +kernel), mt1 (List.mem_of_getElem? (i := 12) (by decide +kernel)) (by decide +kernel), ⟨by decide +kernel, by decide +kernel, by decide +kernel⟩, by decide +kernel⟩
theorem mv261 : mokS 261 1 := ⟨mo261, mt7 (List.mem_of_getElem? (i := 20) (by decide +kernel)) (by decide +kernel)⟩
theorem mf262 : mfx 262 "ClearingWavesModel" 4 (some .boolean) := ⟨by decide +kernel, by decide +kernel, by decide +kernel⟩
set_option maxRecDepth 20000 in
theorem mo262 : mok 262 3 := ⟨mt7 (List.mem_of_getElem? (i := 28) rfl) (by decide +kernel), mt1 (List.mem_of_getElem? (i := 12) (by decide +kernel)) (by decide +kernel), ⟨by decide +kernel, by decide +kernel, by decide +kernel⟩, by decide +kernel⟩
theorem mv262 : mokV 262 3 := ⟨mo262, mt7 (List.mem_of_getElem? (i := 27) (by decide +kernel)) (by decide +kernel), ms5 (List.mem_of_getElem? (i := 15) (by decide +kernel)) (by decide +kernel)⟩
theorem mf263 : mfx 263 "ClearingWavesModel" 3 (some .int) := ⟨by decide +kernel, by decide +kernel, by decide +kernel⟩
set_option maxRecDepth 20000 in
theorem mo263 : mok 263 2 := ⟨mt7 (List.mem_of_getElem? (i := 32) rfl) (by decide +kernel), mt1 (List.mem_of_getElem? (i := 12) (by decide +kernel)) (by decide +kernel), ⟨by decide +kernel, by decide +kernel, by decide +kernel⟩, by decide +kernel⟩
theorem mv263 : mokV 263 2 := ⟨mo263, mt7 (List.mem_of_getElem? (i := 30) (by decide +kernel)) (by decide +kernel), mt7 (List.mem_of_getElem? (i := 31) (by decide +kernel)) (by decide +kernel)⟩
theorem mf264 : mfx 264 "ClearingWavesModel" 3 (some .boolean) := ⟨by decide +kernel, by decide +kernel, by decide +kernel⟩
set_option maxRecDepth 20000 in
theorem mo264 : mok 264 1 := ⟨mt7 (List.mem_of_getElem? (i := 36) rfl) (by decide +kernel), mt1 (List.mem_of_getElem? (i := 12) (by decide +kernel)) (by decide +kernel), ⟨by decide +kernel, by decide +kernel, by decide +kernel⟩, by decide +kernel⟩
theorem mv264 : mokV 264 1 := ⟨mo264, mt7 (List.mem_of_getElem? (i := 35) (by decide +kernel)) (by decide +kernel), ms6 (List.mem_of_getElem? (i := 0) (by decide +kernel)) (by decide +kernel)⟩
theorem mf265 : mfx 265 "ClearingWavesModel" 4 (some .boolean) := ⟨by decide +kernel, by decide +kernel, by decide +kernel⟩
set_option maxRecDepth 20000 in
theorem mo265 : mok 265 1 := ⟨mt7 (List.mem_of_getElem? (i := 40) rfl) (by decide +kernel), mt1 (List.mem_of_getElem? (i := 12) (by decide +kernel)) (by decide +kernel), ⟨by decide +kernel, by decide +kernel, by decide +kernel⟩, by decide +kernel⟩
theorem mv265 : mokV 265 1 := ⟨mo265, mt7 (List.mem_of_getElem? (i := 39) (by decide +kernel)) (by decide +kernel), ms6 (List.mem_of_getElem? (i := 1) (by decide +kernel)) (by decide +kernel)⟩
theorem mf266 : mfx 266 "ClearingWavesModel" 3 (some .boolean) := ⟨by decide +kernel, by decide +kernel, by decide +kernel⟩
set_option maxRecDepth 20000 in
theorem mo266 : mok 266 1 := ⟨mt7 (List.mem_of_getElem? (i := 44) rfl) (by decide +kernel), mt1 (List.mem_of_getElem? (i := 12) (by decide +kernel)) (by decide +kernel), ⟨by decide +kernel, by decide +kernel, by decide +kernel⟩, by decide +kernel⟩
theorem mv266 : mokV 266 1 := ⟨mo266, mt7 (List.mem_of_getElem? (i := 43) (by decide +kernel)) (by decide +kernel), ms6 (List.mem_of_getElem? (i := 2) (by decide +kernel)) (by decide +kernel)⟩
theorem mf267 : mfx 267 "ClearingWavesModel" 6 (some .int) := ⟨by decide +kernel, by decide +kernel, by decide +kernel⟩
set_option maxRecDepth 20000 in
theorem mo267 : mok 267 1 := ⟨mt7 (List.mem_of_getElem? (i := 48) rfl) (by decide +kernel), mt1 (List.mem_of_getElem? (i := 12) (by decide +kernel)) (by decide +kernel), ⟨by decide +kernel, by decide +kernel, by decide +kernel⟩, by decide +kernel⟩
theorem mv267 : mokV 267 1 := ⟨mo267, mt7 (List.mem_of_getElem? (i := 46) (by decide +kernel)) (by decide +kernel), mt7 (List.mem_of_getElem? (i := 47) (by decide +kernel)) (by decide +kernel)⟩
theorem mf268 : mfx 268 "ClearingWavesModel" 8 (some .long) := ⟨by decide +kernel, by decide +kernel, by decide +kernel⟩
set_option maxRecDepth 20000 in
theorem mo268 : mok 268 4 := ⟨mt7 (List.mem_of_getElem? (i := 52) rfl) (by decide +kernel), mt1 (List.mem_of_getElem? (i := 12) (by decide +kernel)) (by decide +kernel), ⟨by decide +kernel, by decide +kernel, by decide +kernel⟩, by decide +kernel⟩
theorem mv268 : mokV 268 4 := ⟨mo268, mt7 (List.mem_of_getElem? (i := 50) (by decide +kernel)) (by decide +kernel), mt7 (List.mem_of_getElem? (i := 51) (by decide +kernel)) (by decide +kernel)⟩
theorem mf269 : mfx 269 "ClearingWavesModel" 1 (some .boolean) := ⟨by decide +kernel, by decide +kernel, by decide +kernel⟩
set_option maxRecDepth 20000 in
theorem mo269 : mok 269 1 := ⟨mt7 (List.mem_of_getElem? (i := 55) rfl) (by decide +kernel), mt1 (List.mem_of_getElem? (i := 12) (by decide +kernel)) (by decide +kernel), ⟨by decide +kernel, by decide +kernel, by decide +kernel⟩, by decide +kernel⟩
theorem mv269 : mokS 269 1 := ⟨mo269, mt7 (List.mem_of_getElem? (i := 54) (by decide +kernel)) (by decide +kernel)⟩
theorem mf270 : mfx 270 "ClearingWavesModel" 3 (some .int) := ⟨by decide +kernel, by decide +kernel, by decide +kernel⟩
set_option maxRecDepth 20000 in
theorem mo270 : mok 270 3 := ⟨mt7 (List.mem_of_getElem? (i := 61) rfl) (by decide +kernel), mt1 (List.mem_of_getElem? (i := 12) (by decide +kernel)) (by decide +kernel), ⟨by decide +kernel, by decide +kernel, by decide +kernel⟩, by decide +kernel⟩
theorem mv270 : mokS 270 3 := ⟨mo270, mt7 (List.mem_of_getElem? (i := 60) (by decide +kernel)) (by decide +kernel)⟩
theorem mf271 : mfx 271 "ClearingWavesModel" 4 (some .long) := ⟨by decide +kernel, by decide +kernel, by decide +kernel⟩
set_option maxRecDepth 20000 in
theorem mo271 : mok 271 3 := ⟨mt7 (List.mem_of_getElem? (i := 65) rfl) (by decide +kernel), mt1 (List.mem_of_getElem? (i := 12) (by decide +kernel)) (by decide +kernel), ⟨by decide +kernel, by decide +kernel, by decide +kernel⟩, by decide +kernel⟩
theorem mv271 : mokV 271 3 := ⟨mo271, mt7 (List.mem_of_getElem? (i := 63) (by decide +kernel)) (by decide +kernel), mt7 (List.mem_of_getElem? (i := 64) (by decide +kernel)) (by decide +kernel)⟩
theorem mf272 : mfx 272 "ClearingWavesModel" 3 (some .long) := ⟨by decide +kernel, by decide +kernel, by decide +kernel⟩
set_option maxRecDepth 20000 in
theorem mo272 : mok 272 2 := ⟨mt7 (List.mem_of_getElem? (i := 69) rfl) (by decide +kernel), mt1 (List.mem_of_getElem? (i := 12) (by decide +kernel)) (by decide +kernel), ⟨by decide +kernel, by decide +kernel, by decide +kernel⟩, by decide +kernel⟩
theorem mv272 : mokV 272 2 := ⟨mo272, mt7 (List.mem_of_getElem? (i := 67) (by decide +kernel)) (by decide +kernel), mt7 (List.mem_of_getElem? (i := 68) (by decide +kernel)) (by decide +kernel)⟩
theorem mf273 : mfx 273 "ClearingWavesModel" 5 none := ⟨by decide +kernel, by decide +kernel, by decide +kernel⟩
set_option maxRecDepth 20000 in
theorem mo273 : mok 273 1 := ⟨mt7 (List.mem_of_getElem? (i := 73) rfl) (by decide +kernel), mt1 (List.mem_of_getElem? (i := 12) (by decide +kernel)) (by decide +kernel), ⟨by decide +kernel, by decide +kernel, by decide +kernel⟩, by decide +kernel⟩
theorem mv273 : mokV 273 1 := ⟨mo273, mt7 (List.mem_of_getElem? (i := 72) (by decide +kernel)) (by decide +kernel), ms6 (List.mem_of_getElem? (i := 3) (by decide +kernel)) (by decide +kernel)⟩
theorem mf274 : mfx 274 "ClearingWavesModel" 15 none := ⟨by decide +kernel, by decide +kernel, by decide +kernel⟩
set_option maxRecDepth 20000 in
theorem mo274 : mok 274 2 := ⟨mt7 (List.mem_of_getElem? (i := 77) rfl) (by decide +kernel), mt1 (List.mem_of_getElem? (i := 12) (by decide +kernel)) (by decide +kernel), ⟨by decide +kernel, by decide +kernel, by decide +kernel⟩, by decide +kernel⟩
theorem mv274 : mokV 274 2 := ⟨mo274, mt7 (List.mem_of_getElem? (i := 76) (by decide +kernel)) (by decide +kernel), ms6 (List.mem_of_getElem? (i := 4) (by decide +kernel)) (by decide +kernel)⟩
theorem mf275 : mfx 275 "ClearingWavesModel" 5 (some .long) := ⟨by decide +kernel, by decide +kernel, by decide +kernel⟩
set_option maxRecDepth 20000 in
theorem mo275 : mok 275 2 := ⟨mt7 (List.mem_of_getElem? (i := 81) rfl) (by decide +kernel), mt1 (List.mem_of_getElem? (i := 12) (by decide +kernel)) (by decide +kernel), ⟨by decide +kernel, by decide +kernel, by decide +kernel⟩, by decide +kernel⟩
theorem mv275 : mokV 275 2 := ⟨mo275, mt7 (List.mem_of_getElem? (i := 80) (by decide +kernel)) (by decide +kernel), ms6 (List.mem_of_getElem? (i := 5) (by decide +kernel)) (by decide +kernel)⟩
theorem mf276 : mfx 276 "ClearingWavesModel" 2 (some .int) := ⟨by decide +kernel, by decide +kernel, by decide +kernel⟩
set_option maxRecDepth 20000 in
theorem mo276 : mok 276 1 := ⟨mt7 (List.mem_of_getElem? (i := 86) rfl) (by decide +kernel), mt1 (List.mem_of_getElem? (i := 12) (by decide +kernel)) (by decide +kernel), ⟨by decide +kernel, by decide +kernel, by decide +kernel⟩, by decide +kernel⟩
theorem mv276 : mokV 276 1 := ⟨mo276, mt7 (List.mem_of_getElem? (i := 84) (by decide +kernel)) (by decide +kernel), mt7 (List.mem_of_getElem? (i := 85) (by decide +kernel)) (by decide +kernel)⟩
theorem mf277 : mfx 277 "ClearingWavesModel" 4 (some .boolean) := ⟨by decide +kernel, by decide +kernel, by decide +kernel⟩
set_option maxRecDepth 20000 in
theorem mo277 : mok 277 1 := ⟨mt7 (List.mem_of_getElem? (i := 90) rfl) (by decide +kernel), mt1 (List.mem_of_getElem? (i := 12) (by decide +kernel)) (by decide +kernel), ⟨by decide +kernel, by decide +kernel, by decide +kernel⟩, by decide +kernel⟩
theorem mv277 : mokV 277 1 := ⟨mo277, mt7 (List.mem_of_getElem? (i := 89) (by decide +kernel)) (by decide +kernel), ms6 (List.mem_of_getElem? (i := 6) (by decide +kernel)) (by decide +kernel)⟩
theorem mf278 : mfx 278 "ClearingWavesModel" 7 (some .int) := ⟨by decide +kernel, by decide +kernel, by decide +kernel⟩
set_option maxRecDepth 20000 in
theorem mo278 : mok 278 0 := ⟨mt7 (List.mem_of_getElem? (i := 94) rfl) (by decide +kernel), mt1 (List.mem_of_getElem? (i := 12) (by decide +kernel)) (by decide +kernel), ⟨by decide +kernel, by decide +kernel, by decide +kernel⟩, by decide +kernel⟩
theorem mv278 : mokV 278 0 := ⟨mo278, mt7 (List.mem_of_getElem? (i := 92) (by decide +kernel)) (by decide +kernel), mt7 (List.mem_of_getElem? (i := 93) (by decide +kernel)) (by decide +kernel)⟩
theorem mf279 : mfx 279 "ClearingWavesModel" 3 (some .int) := ⟨by decide +kernel, by decide +kernel, by decide +kernel⟩
set_option maxRecDepth 20000 in
theorem mo279 : mok 279 0 := ⟨mt7 (List.mem_of_getElem? (i := 98) rfl) (by decide +kernel), mt1 (List.mem_of_getElem? (i := 12) (by decide +kernel)) (by decide +kernel), ⟨by decide +kernel, by decide +kernel, by decide +kernel⟩, by decide +kernel⟩
theorem mv279 : mokV 279 0 := ⟨mo279, mt7 (List.mem_of_getElem? (i := 96) (by decide +kernel)) (by decide +kernel), mt7 (List.mem_of_getElem? (i := 97) (by decide +kernel)) (by decide +kernel)⟩
theorem mf280 : mfx 280 "ClearingWavesModel" 6 none := ⟨by decide +kernel, by decide +kernel, by decide +kernel⟩
set_option maxRecDepth 20000 in
theorem mo280 : mok 280 1 := ⟨mt7 (List.mem_of_getElem? (i := 102) rfl) (by decide +kernel), mt1 (List.mem_of_getElem? (i := 12) (by decide +kernel)) (by decide +kernel), ⟨by decide +kernel, by decide +kernel, by decide +kernel⟩, by decide +kernel⟩
theorem mv280 : mokV 280 1 := ⟨mo280, mt7 (List.mem_of_getElem? (i := 101) (by decide +kernel)) (by decide +kernel), ms6 (List.mem_of_getElem? (i := 7) (by decide +kernel)) (by decide +kernel)⟩
theorem mf281 : mfx 281 "ClearingWavesModel" 2 none := ⟨by decide +kernel, by decide +kernel, by decide +kernel⟩
set_option maxRecDepth 20000 in
theorem mo281 : mok 281 1 := ⟨mt7 (List.mem_of_getElem? (i := 106) rfl) (by decide +kernel), mt1 (List.mem_of_getElem? (i := 12) (by decide +kernel)) (by decide +kernel), ⟨by decide +kernel, by decide +kernel, by decide +kernel⟩, by decide +kernel⟩
theorem mv281 : mokV 281 1 := ⟨mo281, mt7 (List.mem_of_getElem? (i := 105) (by decide +kernel)) (by decide +kernel), ms6 (List.mem_of_getElem? (i := 8) (by decide +kernel)) (by decide +kernel)⟩
theorem mf282 : mfx 282 "ClearingWavesModel" 5 (some .long) := ⟨by decide +kernel, by decide +kernel, by decide +kernel⟩
set_option maxRecDepth 20000 in
theorem mo282 : mok 282 1 := ⟨mt7 (List.mem_of_getElem? (i := 110) rfl) (by decide +kernel), mt1 (List.mem_of_getElem? (i := 12) (by decide +kernel)) (by decide +kernel), ⟨by decide +kernel, by decide +kernel, by decide +kernel⟩, by decide +kernel⟩
theorem mv282 : mokV 282 1 := ⟨mo282, mt7 (List.mem_of_getElem? (i := 109) (by decide +kernel)) (by decide +kernel), ms6 (List.mem_of_getElem? (i := 9) (by decide +kernel)) (by decide +kernel)⟩
theorem mf283 : mfx 283 "ClearingWavesModel" 3 none := ⟨by decide +kernel, by decide +kernel, by decide +kernel⟩
set_option maxRecDepth 20000 in
theorem mo283 : mok 283 1 := ⟨mt7 (List.mem_of_getElem? (i := 114) rfl) (by decide +kernel), mt1 (List.mem_of_getElem? (i := 12) (by decide +kernel)) (by decide +kernel), ⟨by decide +kernel, by decide +kernel, by decide +kernel⟩, by decide +kernel⟩
theorem mv283 : mokV 283 1 := ⟨mo283, mt7 (List.mem_of_getElem? (i := 113) (by decide +kernel)) (by decide +kernel), ms6 (List.mem_of_getElem? (i := 10) (by decide +kernel)) (by decide +kernel)⟩
theorem mf284 : mfx 284 "ClearingWavesModel" 2 (some .int) := ⟨by decide +kernel, by decide +kernel, by decide +kernel⟩
set_option maxRecDepth 20000 in
theorem mo284 : mok 284 1 := ⟨mt7 (List.mem_of_getElem? (i := 119) rfl) (by decide +kernel), mt1 (List.mem_of_getElem? (i := 12) (by decide +kernel)) (by decide +kernel), ⟨by decide +kernel, by decide +kernel, by decide +kernel⟩, by decide +kernel⟩
theorem mv284 : mokV 284 1 := ⟨mo284, mt7 (List.mem_of_getElem? (i := 117) (by decide +kernel)) (by decide +kernel), mt7 (List.mem_of_getElem? (i := 118) (by decide +kernel)) (by decide +kernel)⟩
theorem mf285 : mfx 285 "ClearingWavesModel" 3 (some .int) := ⟨by decide +kernel, by decide +kernel, by decide +kernel⟩
set_option maxRecDepth 20000 in
theorem mo285 : mok 285 1 := ⟨mt7 (List.mem_of_getElem? (i := 123) rfl) (by decide +kernel), mt1 (List.mem_of_getElem? (i := 12) (by decide +kernel)) (by decide +kernel), ⟨by decide +kernel, by decide +kernel, by decide +kernel⟩, by decide +kernel⟩
theorem mv285 : mokV 285 1 := ⟨mo285, mt7 (List.mem_of_getElem? (i := 121) (by decide +kernel)) (by decide +kernel), mt7 (List.mem_of_getElem? (i := 122) (by decide +kernel)) (by decide +kernel)⟩
theorem mf286 : mfx 286 "ClearingWavesModel" 3 (some .int) := ⟨by decide +kernel, by decide +kernel, by decide +kernel⟩
set_option maxRecDepth 20000 in
theorem mo286 : mok 286 0 := ⟨mt7 (List.mem_of_getElem? (i := 129) rfl) (by decide +kernel), mt1 (List.mem_of_getElem? (i := 12) (by decide +kernel)) (by decide +kernel), ⟨by decide +kernel, by decide +kernel, by decide +kernel⟩, by decide +kernel⟩
theorem mv286 : mokV 286 0 := ⟨mo286, mt7 (List.mem_of_getElem? (i := 128) (by decide +kernel)) (by decide +kernel), ms6 (List.mem_of_getElem? (i := 11) (by decide +kernel)) (by decide +kernel)⟩
theorem mf287 : mfx 287 "ClearingWavesModel" 4 (some .int) := ⟨by decide +kernel, by decide +kernel, by decide +kernel⟩
set_option maxRecDepth 20000 in
theorem mo287 : mok 287 1 := ⟨mt7 (List.mem_of_getElem? (i := 133) rfl) (by decide +kernel), mt1 (List.mem_of_getElem? (i := 12) (by decide +kernel)) (by decide +kernel), ⟨by decide +kernel, by decide +kernel, by decide +kernel⟩, by decide +kernel⟩
theorem mv287 : mokV 287 1 := ⟨mo287, mt7 (List.mem_of_getElem? (i := 132) (by decide +kernel)) (by decide +kernel), ms6 (List.mem_of_getElem? (i := 12) (by decide +kernel)) (by decide +kernel)⟩
theorem mf288 : mfx 288 "ClearingWavesModel" 4 (some .int) := ⟨by decide +kernel, by decide +kernel, by decide +kernel⟩
set_option maxRecDepth 20000 in
theorem mo288 : mok 288 2 := ⟨mt7 (List.mem_of_getElem? (i := 137) rfl) (by decide +kernel), mt1 (List.mem_of_getElem? (i := 12) (by decide +kernel)) (by decide +kernel), ⟨by decide +kernel, by decide +kernel, by decide +kernel⟩, by decide +kernel⟩
theorem mv288 : mokV 288 2 := ⟨mo288, mt7 (List.mem_of_getElem? (i := 135) (by decide +kernel)) (by decide +kernel), mt7 (List.mem_of_getElem? (i := 136) (by decide +kernel)) (by decide +kernel)⟩
theorem mf289 : mfx 289 "ClearingWavesModel" 5 (some .int) := ⟨by decide +kernel, by decide +kernel, by decide +kernel⟩
set_option maxRecDepth 20000 in
theorem mo289 : mok 289 3 := ⟨mt7 (List.mem_of_getElem? (i := 141) rfl) (by decide +kernel), mt1 (List.mem_of_getElem? (i := 12) (by decide +kernel)) (by decide +kernel), ⟨by decide +kernel, by decide +kernel, by decide +kernel⟩, by decide +kernel⟩
theorem mv289 : mokV 289 3 := ⟨mo289, mt7 (List.mem_of_getElem? (i := 139) (by decide +kernel)) (by decide +kernel), mt7 (List.mem_of_getElem? (i := 140) (by decide +kernel)) (by decide +kernel)⟩
theorem mf290 : mfx 290 "ClearingWavesModel" 3 (some .long) := ⟨by decide +kernel, by decide +kernel, by decide +kernel⟩
set_option maxRecDepth 20000 in
theorem mo290 : mok 290 2 := ⟨mt7 (List.mem_of_getElem? (i := 145) rfl) (by decide +kernel), mt1 (List.mem_of_getElem? (i := 12) (by decide +kernel)) (by decide +kernel), ⟨by decide +kernel, by decide +kernel, by decide +kernel⟩, by decide +kernel⟩
theorem mv290 : mokV 290 2 := ⟨mo290, mt7 (List.mem_of_getElem? (i := 143) (by decide +kernel)) (by decide +kernel), mt7 (List.mem_of_getElem? (i := 144) (by decide +kernel)) (by decide +kernel)⟩
theorem mf291 : mfx 291 "ClearingWavesModel" 5 (some .int) := ⟨by decide +kernel, by decide +kernel, by decide +kernel⟩
set_option maxRecDepth 20000 in
theorem mo291 : mok 291 2 := ⟨mt7 (List.mem_of_getElem? (i := 149) rfl) (by decide +kernel), mt1 (List.mem_of_getElem? (i := 12) (by decide +kernel)) (by decide +kernel), ⟨by decide +kernel, by decide +kernel, by decide +kernel⟩, by decide +kernel⟩
theorem mv291 : mokV 291 2 := ⟨mo291, mt7 (List.mem_of_getElem? (i := 147) (by decide +kernel)) (by decide +kernel), mt7 (List.mem_of_getElem? (i := 148) (by decide +kernel)) (by decide +kernel)⟩
theorem mf292 : mfx 292 "ClearingWavesModel" 8 (some .int) := ⟨by decide +kernel, by decide +kernel, by decide +kernel⟩
set_option maxRecDepth 20000 in
theorem mo292 : mok 292 2 := ⟨mt7 (List.mem_of_getElem? (i := 153) rfl) (by decide +kernel), mt1 (List.mem_of_getElem? (i := 12) (by decide +kernel)) (by decide +kernel), ⟨by decide +kernel, by decide +kernel, by decide +kernel⟩, by decide +kernel⟩
theorem mv292 : mokV 292 2 := ⟨mo292, mt7 (List.mem_of_getElem? (i := 151) (by decide +kernel)) (by decide +kernel), mt7 (List.mem_of_getElem? (i := 152) (by decide +kernel)) (by decide +kernel)⟩
theorem mf293 : mfx 293 "ClearingWavesModel" 17 (some .boolean) := ⟨by decide +kernel, by decide +kernel, by decide +kernel⟩
set_option maxRecDepth 20000 in
theorem mo293 : mok 293 2 := ⟨mt7 (List.mem_of_getElem? (i := 158) rfl) (by decide +kernel), mt1 (List.mem_of_getElem? (i := 12) (by decide +kernel)) (by decide +kernel), ⟨by decide +kernel, by decide +kernel, by decide +kernel⟩, by decide +kernel⟩
theorem mv293 : mokV 293 2 := ⟨mo293, mt7 (List.mem_of_getElem? (i := 157) (by decide +kernel)) (by decide +kernel), ms6 (List.mem_of_getElem? (i := 13) (by decide +kernel)) (by decide +kernel)⟩
theorem mf294 : mfx 294 "ClearingWavesModel" 5 (some .boolean) := ⟨by decide +kernel, by decide +kernel, by decide +kernel⟩
set_option maxRecDepth 20000 in
theorem mo294 : mok 294 1 := ⟨mt7 (List.mem_of_getElem? (i := 163) rfl) (by decide +kernel), mt1 (List.mem_of_getElem? (i := 12) (by decide +kernel)) (by decide +kernel), ⟨by decide +kernel, by decide +kernel, by decide +kernel⟩, by decide +kernel⟩
theorem mv294 : mokV 294 1 := ⟨mo294, mt7 (List.mem_of_getElem? (i := 162) (by decide +kernel)) (by decide +kernel), ms6 (List.mem_of_getElem? (i := 14) (by decide +kernel)) (by decide +kernel)⟩
theorem mf295 : mfx 295 "ClearingWavesModel" 1 (some .int) := ⟨by decide +kernel, by decide +kernel, by decide +kernel⟩
set_option maxRecDepth 20000 in
theorem mo295 : mok 295 0 := ⟨mt7 (List.mem_of_getElem? (i := 167) rfl) (by decide +kernel), mt1 (List.mem_of_getElem? (i := 12) (by decide +kernel)) (by decide +kernel), ⟨by decide +kernel, by decide +kernel, by decide +kernel⟩, by decide +kernel⟩
theorem mv295 : mokV 295 0 := ⟨mo295, mt7 (List.mem_of_getElem? (i := 165) (by decide +kernel)) (by decide +kernel), mt7 (List.mem_of_getElem? (i := 166) (by decide +kernel)) (by decide +kernel)⟩
theorem mf296 : mfx 296 "ClearingWavesModel" 1 (some .int) := ⟨by decide +kernel, by decide +kernel, by decide +kernel⟩
set_option maxRecDepth 20000 in
theorem mo296 : mok 296 0 := ⟨mt7 (List.mem_of_getElem? (i := 171) rfl) (by decide +kernel), mt1 (List.mem_of_getElem? (i := 12) (by decide +kernel)) (by decide +kernel), ⟨by decide +kernel, by decide +kernel, by decide +kernel⟩, by decide +kernel⟩
theorem mv296 : mokV 296 0 := ⟨mo296, mt7 (List.mem_of_getElem? (i := 169) (by decide +kernel)) (by decide +kernel), mt7 (List.mem_of_getElem? (i := 170) (by decide +kernel)) (by decide +kernel)⟩
theorem mf297 : mfx 297 "ClearingWavesLaw" 4 (some .boolean) := ⟨by decide +kernel, by decide +kernel, by decide +kernel⟩
