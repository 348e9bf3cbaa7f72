abbrev P0 : PH := (74, RFL)
theorem mt1 {w : Cond} (h : w ∈ tables_1_1) (g : goodWord w = true) : w ∈ lw_g := List.mem_filter.mpr ⟨List.mem_append_right _ (show w ∈ tables_1 from List.mem_append_left _ h), g⟩
theorem mt2 {w : Cond} (h : w ∈ tables_1_2) (g : goodWord w = true) : w ∈ lw_g := List.mem_filter.mpr ⟨List.mem_append_right _ (show w ∈ tables_1 from List.mem_append_right _ (List.mem_append_left _ h)), g⟩
theorem mt3 {w : Cond} (h : w ∈ tables_1_3) (g : goodWord w = true) : w ∈ lw_g := List.mem_filter.mpr ⟨List.mem_append_right _ (show w ∈ tables_1 from List.mem_append_right _ (List.mem_append_right _ (List.mem_append_left _ h))), g⟩
theorem mt4 {w : Cond} (h : w ∈ tables_1_4) (g : goodWord w = true) : w ∈ lw_g := List.mem_filter.mpr ⟨List.mem_append_right _ (show w ∈ tables_1 from List.mem_append_right _ (List.mem_append_right _ (List.mem_append_right _ (List.mem_append_left _ h)))), g⟩
theorem mt5 {w : Cond} (h : w ∈ tables_1_5) (g : goodWord w = true) : w ∈ lw_g := List.mem_filter.mpr ⟨List.mem_append_right _ (show w ∈ tables_1 from List.mem_append_right _ (List.mem_append_right _ (List.mem_append_right _ (List.mem_append_right _ (List.mem_append_left _ h))))), g⟩
theorem mt6 {w : Cond} (h : w ∈ tables_1_6) (g : goodWord w = true) : w ∈ lw_g := List.mem_filter.mpr ⟨List.mem_append_right _ (show w ∈ tables_1 from List.mem_append_right _ (List.mem_append_right _ (List.mem_append_right _ (List.mem_append_right _ (List.mem_append_right _ (List.mem_append_left _ h)))))), g⟩
theorem mt7 {w : Cond} (h : w ∈ tables_1_7) (g : goodWord w = true) : w ∈ lw_g := List.mem_filter.mpr ⟨List.mem_append_right _ (show w ∈ tables_1 from List.mem_append_right _ (List.mem_append_right _ (List.mem_append_right _ (List.mem_append_right _ (List.mem_append_right _ (List.mem_append_right _ (h))))))), g⟩
theorem ms1 {w : Cond} (h : w ∈ k2_sels lw_privs_1) (g : goodWord w = true) : w ∈ lw_g := by
  refine List.mem_filter.mpr ⟨List.mem_append_left _ ?_, g⟩
  obtain ⟨q, hq, rfl⟩ := List.mem_map.mp h
  exact List.mem_map.mpr ⟨q, (show q ∈ lw_privs from List.mem_append_left _ hq), rfl⟩
theorem ms2 {w : Cond} (h : w ∈ k2_sels lw_privs_2) (g : goodWord w = true) : w ∈ lw_g := by
  refine List.mem_filter.mpr ⟨List.mem_append_left _ ?_, g⟩
  obtain ⟨q, hq, rfl⟩ := List.mem_map.mp h
  exact List.mem_map.mpr ⟨q, (show q ∈ lw_privs from List.mem_append_right _ (List.mem_append_left _ hq)), rfl⟩
theorem ms3 {w : Cond} (h : w ∈ k2_sels lw_privs_3) (g : goodWord w = true) : w ∈ lw_g := by
  refine List.mem_filter.mpr ⟨List.mem_append_left _ ?_, g⟩
  obtain ⟨q, hq, rfl⟩ := List.mem_map.mp h
  exact List.mem_map.mpr ⟨q, (show q ∈ lw_privs from List.mem_append_right _ (List.mem_append_right _ (List.mem_append_left _ hq))), rfl⟩
theorem ms4 {w : Cond} (h : w ∈ k2_sels lw_privs_4) (g : goodWord w = true) : w ∈ lw_g := by
  refine List.mem_filter.mpr ⟨List.mem_append_left _ ?_, g⟩
  obtain ⟨q, hq, rfl⟩ := List.mem_map.mp h
  exact List.mem_map.mpr ⟨q, (show q ∈ lw_privs from List.mem_append_right _ (List.mem_append_right _ (List.mem_append_right _ (List.mem_append_left _ hq)))), rfl⟩
theorem ms5 {w : Cond} (h : w ∈ k2_sels lw_privs_5) (g : goodWord w = true) : w ∈ lw_g := by
  refine List.mem_filter.mpr ⟨List.mem_append_left _ ?_, g⟩
  obtain ⟨q, hq, rfl⟩ := List.mem_map.mp h
  exact List.mem_map.mpr ⟨q, (show q ∈ lw_privs from List.mem_append_right _ (List.mem_append_right _ (List.mem_append_right _ (List.mem_append_right _ (List.mem_append_left _ hq))))), rfl⟩
theorem ms6 {w : Cond} (h : w ∈ k2_sels lw_privs_6) (g : goodWord w = true) : w ∈ lw_g := by
  refine List.mem_filter.mpr ⟨List.mem_append_left _ ?_, g⟩
  obtain ⟨q, hq, rfl⟩ := List.mem_map.mp h
  exact List.mem_map.mpr ⟨q, (show q ∈ lw_privs from List.mem_append_right _ (List.mem_append_right _ (List.mem_append_right _ (List.mem_append_right _ (List.mem_append_right _ (hq)))))), rfl⟩
abbrev jClearingWaves_init : Nat := 0
abbrev jBook_init : Nat := 1
abbrev jBook_begin : Nat := 2
abbrev jClearing_init : Nat := 3
abbrev jEquations_init : Nat := 4
abbrev jClearing_begin : Nat := 5
abbrev jBook_dueIn : Nat := 6
abbrev jBook_amount : Nat := 7
abbrev jClearing_spread : Nat := 8
abbrev jCoins_init : Nat := 9
abbrev jRings_init : Nat := 10
abbrev jWorth_init : Nat := 11
abbrev jTold_init : Nat := 12
abbrev jTape_init : Nat := 13
abbrev jPaper_init : Nat := 14
abbrev jRows_init : Nat := 15
abbrev jClearingWaves_houses : Nat := 16
abbrev jClearingWaves_noteChange : Nat := 17
abbrev jClearingWaves_cash : Nat := 18
abbrev jBook_hasHouse : Nat := 19
abbrev jClearingWaves_owe : Nat := 20
abbrev jBook_hasDebt : Nat := 21
abbrev jBook_hasPart : Nat := 22
abbrev jBook_hasClass : Nat := 23
abbrev jBook_put : Nat := 24
abbrev jClearingWaves_owed : Nat := 25
abbrev jClearingWaves_costs : Nat := 26
abbrev jClearingWaves_cede : Nat := 27
abbrev jClearingWaves_settle : Nat := 28
abbrev jClearingWaves_feed : Nat := 29
abbrev jTape_add : Nat := 30
abbrev jClearingWaves_clear : Nat := 31
abbrev jTape_empty : Nat := 32
abbrev jClearingWaves_read : Nat := 33
abbrev jTape_scan : Nat := 34
abbrev jTape_scanPart : Nat := 35
abbrev jTape_house : Nat := 36
abbrev jTape_isNext : Nat := 37
abbrev jTape_number : Nat := 38
abbrev jClearingWaves_waves : Nat := 39
abbrev jClearingWaves_cleared : Nat := 40
abbrev jClearing_run : Nat := 41
abbrev jClearing_sinking : Nat := 42
abbrev jClearing_fell : Nat := 43
abbrev jClearing_restTenths : Nat := 44
abbrev jClearing_income : Nat := 45
abbrev jClearing_heldTenths : Nat := 46
abbrev jClearing_reached : Nat := 47
abbrev jClearing_feels : Nat := 48
abbrev jClearing_margin : Nat := 49
abbrev jClearing_lower : Nat := 50
abbrev jJMath_maxI : Nat := 51
abbrev jClearing_balance : Nat := 52
abbrev jClearing_factor : Nat := 53
abbrev jEquations_put : Nat := 54
abbrev jEquations_solve : Nat := 55
abbrev jJInteger_bitCount : Nat := 56
abbrev jEquations_expand : Nat := 57
abbrev jEquations_bottom : Nat := 58
abbrev jEquations_top : Nat := 59
abbrev jClearing_rising : Nat := 60
abbrev jClearing_keepRound : Nat := 61
abbrev jRatio_divisor : Nat := 62
abbrev jJMath_maxJ : Nat := 63
abbrev jClearing_nextWave : Nat := 64
abbrev jClearing_wealth : Nat := 65
abbrev jClearingWaves_wave : Nat := 66
abbrev jClearingWaves_fails : Nat := 67
abbrev jClearingWaves_part : Nat := 68
abbrev jClearingWaves_partIn : Nat := 69
abbrev jClearing_hasRound : Nat := 70
abbrev jClearing_top : Nat := 71
abbrev jClearing_bottom : Nat := 72
abbrev jRatio_tell : Nat := 73
abbrev jClearingWaves_paid : Nat := 74
abbrev jClearingWaves_gets : Nat := 75
abbrev jClearingWaves_worthIn : Nat := 76
abbrev jClearingWaves_left : Nat := 77
abbrev jClearing_remains : Nat := 78
abbrev jClearingWaves_lost : Nat := 79
abbrev jClearing_wasteTenths : Nat := 80
abbrev jClearingWaves_lacks : Nat := 81
abbrev jClearing_missing : Nat := 82
abbrev jClearingWaves_all : Nat := 83
abbrev jClearing_allPaid : Nat := 84
abbrev jClearing_pays : Nat := 85
abbrev jClearingWaves_cause : Nat := 86
abbrev jClearingWaves_chain : Nat := 87
abbrev jClearing_causeOf : Nat := 88
abbrev jClearingWaves_root : Nat := 89
abbrev jClearingWaves_pulls : Nat := 90
abbrev jClearingWaves_coin : Nat := 91
abbrev jClearingWaves_coined : Nat := 92
abbrev jCoins_walk : Nat := 93
abbrev jCoins_takeIn : Nat := 94
abbrev jCoins_paidCoins : Nat := 95
abbrev jCoins_place : Nat := 96
abbrev jCoins_payOut : Nat := 97
abbrev jCoins_isShort : Nat := 98
abbrev jBook_dueOf : Nat := 99
abbrev jCoins_rest : Nat := 100
abbrev jJMath_minI : Nat := 101
abbrev jClearingWaves_steps : Nat := 102
abbrev jClearingWaves_coinFails : Nat := 103
abbrev jCoins_shortBits : Nat := 104
abbrev jClearingWaves_gone : Nat := 105
abbrev jCoins_waste : Nat := 106
abbrev jClearingWaves_saved : Nat := 107
abbrev jClearingWaves_isCoins : Nat := 108
abbrev jClearingWaves_failsWith : Nat := 109
abbrev jClearingWaves_loadPurse : Nat := 110
abbrev jClearingWaves_struck : Nat := 111
abbrev jClearingWaves_saves : Nat := 112
abbrev jClearingWaves_mostSaved : Nat := 113
abbrev jJInteger_compare : Nat := 114
abbrev jRatio_order : Nat := 115
abbrev jClearingWaves_needs : Nat := 116
abbrev jClearingWaves_leastThatSaves : Nat := 117
abbrev jClearingWaves_calms : Nat := 118
abbrev jClearingWaves_danger : Nat := 119
abbrev jClearingWaves_rescue : Nat := 120
abbrev jRows_has : Nat := 121
abbrev jRows_holds : Nat := 122
abbrev jRows_layAt : Nat := 123
abbrev jRows_hasPlace : Nat := 124
abbrev jClearingWaves_ring : Nat := 125
abbrev jRings_find : Nat := 126
abbrev jRings_closed : Nat := 127
abbrev jRings_isOn : Nat := 128
abbrev jClearingWaves_net : Nat := 129
abbrev jRings_takeOff : Nat := 130
abbrev jRings_after : Nat := 131
abbrev jClearingWaves_units : Nat := 132
abbrev jBook_unitPlace : Nat := 133
abbrev jClearingWaves_unitsOf : Nat := 134
abbrev jClearingWaves_fund : Nat := 135
abbrev jWorth_reckon : Nat := 136
abbrev jWorth_addUnits : Nat := 137
abbrev jWorth_product : Nat := 138
abbrev jWorth_sum : Nat := 139
abbrev jClearingWaves_told : Nat := 140
abbrev jBook_hasUnits : Nat := 141
abbrev jClearingWaves_best : Nat := 142
abbrev jClearingWaves_spell : Nat := 143
abbrev jClearingWaves_spellHouse : Nat := 144
abbrev jPaper_add : Nat := 145
abbrev jPaper_addNumber : Nat := 146
abbrev jClearingWaves_paper : Nat := 147
abbrev jClearingWaves_count : Nat := 148
abbrev jBook_cashOfAll : Nat := 149
abbrev jBook_dueOfAll : Nat := 150
abbrev jBook_openDebts : Nat := 151
abbrev jClearingWaves_countOfHouse : Nat := 152
abbrev jClearingWaves_row : Nat := 153
abbrev jRows_begin : Nat := 154
abbrev jClearingWaves_set : Nat := 155
abbrev jClearingWaves_get : Nat := 156
abbrev jRows_at : Nat := 157
abbrev jClearingWaves_lay : Nat := 158
abbrev jClearingWaves_judge : Nat := 159
abbrev jRows_size : Nat := 160
abbrev jTold_areFractions : Nat := 161
abbrev jTold_areThose : Nat := 162
abbrev jTold_agree : Nat := 163
abbrev jTold_agrees : Nat := 164
abbrev jTold_incomeByTold : Nat := 165
abbrev jJMath_minJ : Nat := 166
abbrev jClearingWaves_image : Nat := 167
abbrev jBook_copy : Nat := 168
abbrev jClearingWaves_undo : Nat := 169
abbrev jModel_init : Nat := 170
abbrev jModel_asAtFirst : Nat := 171
abbrev jModel_reads : Nat := 172
abbrev jModel_houses : Nat := 173
abbrev jModel_within : Nat := 174
abbrev jModel_cash : Nat := 175
abbrev jModel_isHouse : Nat := 176
abbrev jModel_tells : Nat := 177
abbrev jModel_owe : Nat := 178
abbrev jModel_arePair : Nat := 179
abbrev jModel_isClass : Nat := 180
abbrev jModel_owedAt : Nat := 181
abbrev jModel_owed : Nat := 182
abbrev jModel_owes : Nat := 183
abbrev jModel_costs : Nat := 184
abbrev jModel_cede : Nat := 185
abbrev jModel_settle : Nat := 186
abbrev jModel_feed : Nat := 187
abbrev jModel_clear : Nat := 188
abbrev jModel_read : Nat := 189
abbrev jModel_readsAll : Nat := 190
abbrev jModel_readsPart : Nat := 191
abbrev jModel_peek : Nat := 192
abbrev jModel_readsNumber : Nat := 193
abbrev jModel_waves : Nat := 194
abbrev jModel_clears : Nat := 195
abbrev jModel_supposesCash : Nat := 196
abbrev jModel_goesRound : Nat := 197
abbrev jModel_agrees : Nat := 198
abbrev jModel_opens : Nat := 199
abbrev jModel_isIn : Nat := 200
abbrev jModel_isOpen : Nat := 201
abbrev jModel_beyondAll : Nat := 202
abbrev jModel_beyond : Nat := 203
abbrev jModel_due : Nat := 204
abbrev jModel_solves : Nat := 205
abbrev jModel_determinant : Nat := 206
abbrev jModel_endsEarlier : Nat := 207
abbrev jModel_divisor : Nat := 208
abbrev jModel_failsMore : Nat := 209
abbrev jModel_worth : Nat := 210
abbrev jModel_getsIn : Nat := 211
abbrev jModel_partAt : Nat := 212
abbrev jModel_dueInAll : Nat := 213
abbrev jModel_wave : Nat := 214
abbrev jModel_fails : Nat := 215
abbrev jModel_part : Nat := 216
abbrev jModel_partIn : Nat := 217
abbrev jModel_isSide : Nat := 218
abbrev jModel_lowest : Nat := 219
abbrev jModel_paid : Nat := 220
abbrev jModel_gets : Nat := 221
abbrev jModel_worthIn : Nat := 222
abbrev jModel_left : Nat := 223
abbrev jModel_leftOf : Nat := 224
abbrev jModel_lost : Nat := 225
abbrev jModel_lostOf : Nat := 226
abbrev jModel_lacks : Nat := 227
abbrev jModel_lacksIn : Nat := 228
abbrev jModel_all : Nat := 229
abbrev jModel_allPaid : Nat := 230
abbrev jModel_cause : Nat := 231
abbrev jModel_refusal : Nat := 232
abbrev jModel_causeOf : Nat := 233
abbrev jModel_chain : Nat := 234
abbrev jModel_root : Nat := 235
abbrev jModel_rootOf : Nat := 236
abbrev jModel_pulls : Nat := 237
abbrev jModel_coin : Nat := 238
abbrev jModel_stepsOn : Nat := 239
abbrev jModel_paysCoins : Nat := 240
abbrev jModel_coinsFor : Nat := 241
abbrev jModel_coinAt : Nat := 242
abbrev jModel_restOf : Nat := 243
abbrev jModel_steps : Nat := 244
abbrev jModel_coinFails : Nat := 245
abbrev jModel_gone : Nat := 246
abbrev jModel_saved : Nat := 247
abbrev jModel_isGift : Nat := 248
abbrev jModel_failsIf : Nat := 249
abbrev jModel_struck : Nat := 250
abbrev jModel_saves : Nat := 251
abbrev jModel_givesNothing : Nat := 252
abbrev jModel_savesMost : Nat := 253
abbrev jModel_supposesGiven : Nat := 254
abbrev jModel_sizeOf : Nat := 255
abbrev jModel_compared : Nat := 256
abbrev jModel_needs : Nat := 257
abbrev jModel_calms : Nat := 258
abbrev jModel_danger : Nat := 259
abbrev jModel_rescue : Nat := 260
abbrev jModel_isRow : Nat := 261
abbrev jModel_hasPlace : Nat := 262
abbrev jModel_ring : Nat := 263
abbrev jModel_findsRing : Nat := 264
abbrev jModel_rings : Nat := 265
abbrev jModel_isOnWay : Nat := 266
abbrev jModel_net : Nat := 267
abbrev jModel_units : Nat := 268
abbrev jModel_isFund : Nat := 269
abbrev jModel_unitsAt : Nat := 270
abbrev jModel_unitsOf : Nat := 271
abbrev jModel_fund : Nat := 272
abbrev jModel_looksAt : Nat := 273
abbrev jModel_adds : Nat := 274
abbrev jModel_times : Nat := 275
abbrev jModel_told : Nat := 276
abbrev jModel_hasUnits : Nat := 277
abbrev jModel_best : Nat := 278
abbrev jModel_spell : Nat := 279
abbrev jModel_spells : Nat := 280
abbrev jModel_writes : Nat := 281
abbrev jModel_paysAll : Nat := 282
abbrev jModel_writesNumber : Nat := 283
abbrev jModel_paper : Nat := 284
abbrev jModel_count : Nat := 285
abbrev jModel_cashOfAll : Nat := 286
abbrev jModel_owedOfAll : Nat := 287
abbrev jModel_row : Nat := 288
abbrev jModel_set : Nat := 289
abbrev jModel_get : Nat := 290
abbrev jModel_lay : Nat := 291
abbrev jModel_judge : Nat := 292
abbrev jModel_paysSo : Nat := 293
abbrev jModel_isOfClearing : Nat := 294
abbrev jModel_image : Nat := 295
abbrev jModel_undo : Nat := 296
abbrev jLaw_law : Nat := 297
/-- a method's own class, locals, answer -/
def mfx (i : Nat) (own : String) (mx : Nat) (t : Option FieldType) : Prop := (mr i).1.cls = own ∧ (mr i).2.2.1 = mx ∧ (mr i).2.2.2 = t
theorem mfx.lt {i mx k : Nat} {own : String} {t : Option FieldType} (f : mfx i own mx t) (h : k < mx) : k < (mr i).2.2.1 := by rw [f.2.1]; exact h
def chk (b : ByteArray) (l : List (Nat × Nat × Instr)) : Bool := l.all fun q => decide (decode b q.1 = .ok (q.2.2, q.2.1))
theorem ck {b : ByteArray} {l : List (Nat × Nat × Instr)} (h : chk b l = true) {i pc n : Nat} {x : Instr} (hi : l[i]? = some (pc, n, x)) : decode b pc = .ok (x, n) := by
  have h2 := List.all_eq_true.mp h _ (List.mem_of_getElem? hi)
  simp only [decide_eq_true_eq] at h2
  exact h2
def cV (own : String) (ix j n ci : Nat) (t : Option FieldType) : Prop := mokV j n ∧ Cond.methodLink own ix (mr j).1 ∈ lw_g ∧ (classes[ci]?).map (fun q => q.1) = some (mr j).1.cls ∧ (mr j).2.2.2 = t
def cS (own : String) (ix j n : Nat) (t : Option FieldType) : Prop := mokS j n ∧ Cond.methodLink own ix (mr j).1 ∈ lw_g ∧ (mr j).2.2.2 = t
def cI (own : String) (ix j n : Nat) : Prop := mokI j n ∧ (Cond.methodLink own ix (mr j).1 ∈ lw_g ∨ ∃ host, (own, ix, (mr j).1, host) ∈ nestL)
section WR
variable {S : PS} {K mi pc : Nat} {L : List (Nat × PV)} {st st0 : List PV} {ph ph' phE : PH} {M : PM} {Q : Option PV → PM → Prop}
theorem H_getI {own : String} {mx : Nat} {t : Option FieldType} (f : mfx mi own mx t) {C : String} {ix ci k N a : Nat} {ty : FieldType} {fin : Bool} {x : Int} (hd : decode (mr mi).2.1 pc = .ok (.getfield ix, 3)) (hw : fok own C ix ci k N ty fin) (hf : fct ci k = 0 ∨ fct ci k = 2) (hla : lay a = (ci + 3, N)) (ha : a < ph.1 ∧ a < 1000000) (hx : M a (k : Int) = x) (kk : G S K mi (pc + 3) L (.inl x :: st) ph phE M Q) : G S K mi pc L (.inr (.inr a) :: st) ph phE M Q := by
  subst hx
  exact G_getI hd (by rw [f.1]; exact hw) ha hla hf kk
theorem H_getL {own : String} {mx : Nat} {t : Option FieldType} (f : mfx mi own mx t) {C : String} {ix ci k N a : Nat} {ty : FieldType} {fin : Bool} {x : Int} (hd : decode (mr mi).2.1 pc = .ok (.getfield ix, 3)) (hw : fok own C ix ci k N ty fin) (hf : fct ci k = 1) (hla : lay a = (ci + 3, N)) (ha : a < ph.1 ∧ a < 1000000) (hx : M a (k : Int) = x) (kk : G S K mi (pc + 3) L (.inr (.inl x) :: st) ph phE M Q) : G S K mi pc L (.inr (.inr a) :: st) ph phE M Q := by
  subst hx
  exact G_getL hd (by rw [f.1]; exact hw) ha hla hf kk
theorem H_getR {own : String} {mx : Nat} {t : Option FieldType} (f : mfx mi own mx t) {C : String} {ix ci k N a q : Nat} {ty : FieldType} {fin : Bool} (hd : decode (mr mi).2.1 pc = .ok (.getfield ix, 3)) (hw : fok own C ix ci k N ty fin) (hf : fct ci k = 3) (hla : lay a = (ci + 3, N)) (ha : a < ph.1 ∧ a < 1000000) (hq : rfg ph.2 a k = q + 1) (hq1 : q < 1000000) (kk : G S K mi (pc + 3) L (.inr (.inr q) :: st) ph phE M Q) : G S K mi pc L (.inr (.inr a) :: st) ph phE M Q :=
  G_getR hd (by rw [f.1]; exact hw) ha hla hf hq hq1 kk
theorem H_putI {own : String} {mx : Nat} {t : Option FieldType} (f : mfx mi own mx t) {C : String} {ix ci k N a : Nat} {fin : Bool} {x : Int} (hd : decode (mr mi).2.1 pc = .ok (.putfield ix, 3)) (hw : fok own C ix ci k N .int fin) (hf : fct ci k = 0) (hla : lay a = (ci + 3, N)) (ha : a < ph.1 ∧ a < 1000000) (hfin : fin = false ∨ ((mr mi).1.name = "<init>" ∧ own = C)) (kk : G S K mi (pc + 3) L st ph phE (mset M a (k : Int) x) Q) : G S K mi pc L (.inl x :: .inr (.inr a) :: st) ph phE M Q :=
  G_putI hd (by rw [f.1]; exact hw) ha hla hf (by rw [f.1]; exact hfin) kk
theorem H_putZ {own : String} {mx : Nat} {t : Option FieldType} (f : mfx mi own mx t) {C : String} {ix ci k N a : Nat} {fin : Bool} {x : Int} (hd : decode (mr mi).2.1 pc = .ok (.putfield ix, 3)) (hw : fok own C ix ci k N .boolean fin) (hf : fct ci k = 2) (hla : lay a = (ci + 3, N)) (ha : a < ph.1 ∧ a < 1000000) (hfin : fin = false ∨ ((mr mi).1.name = "<init>" ∧ own = C)) (hx : x = 0 ∨ x = 1) (kk : G S K mi (pc + 3) L st ph phE (mset M a (k : Int) x) Q) : G S K mi pc L (.inl x :: .inr (.inr a) :: st) ph phE M Q :=
  G_putZ hd (by rw [f.1]; exact hw) ha hla hf (by rw [f.1]; exact hfin) hx kk
theorem H_putL {own : String} {mx : Nat} {t : Option FieldType} (f : mfx mi own mx t) {C : String} {ix ci k N a : Nat} {fin : Bool} {x : Int} (hd : decode (mr mi).2.1 pc = .ok (.putfield ix, 3)) (hw : fok own C ix ci k N .long fin) (hf : fct ci k = 1) (hla : lay a = (ci + 3, N)) (ha : a < ph.1 ∧ a < 1000000) (hfin : fin = false ∨ ((mr mi).1.name = "<init>" ∧ own = C)) (kk : G S K mi (pc + 3) L st ph phE (mset M a (k : Int) x) Q) : G S K mi pc L (.inr (.inl x) :: .inr (.inr a) :: st) ph phE M Q :=
  G_putL hd (by rw [f.1]; exact hw) ha hla hf (by rw [f.1]; exact hfin) kk
theorem H_putR {own : String} {mx : Nat} {t : Option FieldType} (f : mfx mi own mx t) {C : String} {ix ci k N a q : Nat} {ty : FieldType} {fin : Bool} (hd : decode (mr mi).2.1 pc = .ok (.putfield ix, 3)) (hw : fok own C ix ci k N ty fin) (hf : fct ci k = 3) (hty : (∃ n, ty = .object n) ∨ ∃ t, ty = .array t) (hla : lay a = (ci + 3, N)) (ha : a < ph.1 ∧ a < 1000000) (hq : q < 1000000) (hfin : fin = false ∨ ((mr mi).1.name = "<init>" ∧ own = C)) {ph2 : PH} (hp2 : (ph.1, (a, k, q) :: ph.2) = ph2) (kk : G S K mi (pc + 3) L st ph2 phE M Q) : G S K mi pc L (.inr (.inr q) :: .inr (.inr a) :: st) ph phE M Q := by
  subst hp2
  exact G_putR hd (by rw [f.1]; exact hw) hty ha hla hf hq (by rw [f.1]; exact hfin) kk
theorem H_ldcw {own : String} {mx : Nat} {t : Option FieldType} (f : mfx mi own mx t) {ix : Nat} {v : Int} (hd : decode (mr mi).2.1 pc = .ok (.ldc_w ix, 3)) (hw : Cond.constant own ix (Int32.ofInt v) ∈ lw_g) (k : G S K mi (pc + 3) L (.inl v :: st) ph phE M Q) : G S K mi pc L st ph phE M Q :=
  G_ldcw (by rw [f.1]; exact hw) hd k
theorem H_ldc2 {own : String} {mx : Nat} {t : Option FieldType} (f : mfx mi own mx t) {ix : Nat} {v : Int} (hd : decode (mr mi).2.1 pc = .ok (.ldc2_w ix, 3)) (hw : Cond.constantLong own ix (Int64.ofInt v) ∈ lw_g) (k : G S K mi (pc + 3) L (.inr (.inl v) :: st) ph phE M Q) : G S K mi pc L st ph phE M Q :=
  G_ldc2 (by rw [f.1]; exact hw) hd k
theorem H_vI {own : String} {mx : Nat} {t : Option FieldType} (f : mfx mi own mx t) {ix j n a ci N : Nat} {As : List PV} {q : Int → PM → Prop} (hd : decode (mr mi).2.1 pc = .ok (.invokevirtual ix, 3)) (w : cV own ix j n ci (some .int)) (hs0 : As.reverse ++ .inr (.inr a) :: st = st0) (hn : As.length = n) (hst : (st.map pcat).sum ≤ 8) (hla : lay a = (ci + 3, N)) (ha : a < ph.1 ∧ a < 1000000) (hph : ph.1 ≤ ph'.1 ∧ ph'.1 ≤ phE.1) (hC : Call K j (.inr (.inr a) :: As) ph ph' M (retI q)) (go : ∀ i M', q i M' → G S (K + 1) mi (pc + 3) L (.inl i :: st) ph' phE M' Q) : G S (K + 1) mi pc L st0 ph phE M Q := by
  subst hs0
  refine G_callV hd w.1 (by rw [f.1]; exact w.2.1) hn hst ha hla w.2.2.1 hph hC ?_
  rw [w.2.2.2]
  exact go
theorem H_sI {own : String} {mx : Nat} {t : Option FieldType} (f : mfx mi own mx t) {ix j n : Nat} {As : List PV} {q : Int → PM → Prop} (hd : decode (mr mi).2.1 pc = .ok (.invokestatic ix, 3)) (w : cS own ix j n (some .int)) (hs0 : As.reverse ++ st = st0) (hn : As.length = n) (hst : (st.map pcat).sum ≤ 8) (hph : ph.1 ≤ ph'.1 ∧ ph'.1 ≤ phE.1) (hC : Call K j As ph ph' M (retI q)) (go : ∀ i M', q i M' → G S (K + 1) mi (pc + 3) L (.inl i :: st) ph' phE M' Q) : G S (K + 1) mi pc L st0 ph phE M Q := by
  subst hs0
  refine G_callS hd w.1 (by rw [f.1]; exact w.2.1) hn hst hph hC ?_
  rw [w.2.2]
  exact go
theorem H_vZ {own : String} {mx : Nat} {t : Option FieldType} (f : mfx mi own mx t) {ix j n a ci N : Nat} {As : List PV} {q : Int → PM → Prop} (hd : decode (mr mi).2.1 pc = .ok (.invokevirtual ix, 3)) (w : cV own ix j n ci (some .boolean)) (hs0 : As.reverse ++ .inr (.inr a) :: st = st0) (hn : As.length = n) (hst : (st.map pcat).sum ≤ 8) (hla : lay a = (ci + 3, N)) (ha : a < ph.1 ∧ a < 1000000) (hph : ph.1 ≤ ph'.1 ∧ ph'.1 ≤ phE.1) (hC : Call K j (.inr (.inr a) :: As) ph ph' M (retI q)) (go : ∀ i M', q i M' → G S (K + 1) mi (pc + 3) L (.inl i :: st) ph' phE M' Q) : G S (K + 1) mi pc L st0 ph phE M Q := by
  subst hs0
  refine G_callV hd w.1 (by rw [f.1]; exact w.2.1) hn hst ha hla w.2.2.1 hph hC ?_
  rw [w.2.2.2]
  exact go
theorem H_sZ {own : String} {mx : Nat} {t : Option FieldType} (f : mfx mi own mx t) {ix j n : Nat} {As : List PV} {q : Int → PM → Prop} (hd : decode (mr mi).2.1 pc = .ok (.invokestatic ix, 3)) (w : cS own ix j n (some .boolean)) (hs0 : As.reverse ++ st = st0) (hn : As.length = n) (hst : (st.map pcat).sum ≤ 8) (hph : ph.1 ≤ ph'.1 ∧ ph'.1 ≤ phE.1) (hC : Call K j As ph ph' M (retI q)) (go : ∀ i M', q i M' → G S (K + 1) mi (pc + 3) L (.inl i :: st) ph' phE M' Q) : G S (K + 1) mi pc L st0 ph phE M Q := by
  subst hs0
  refine G_callS hd w.1 (by rw [f.1]; exact w.2.1) hn hst hph hC ?_
  rw [w.2.2]
  exact go
theorem H_vL {own : String} {mx : Nat} {t : Option FieldType} (f : mfx mi own mx t) {ix j n a ci N : Nat} {As : List PV} {q : Int → PM → Prop} (hd : decode (mr mi).2.1 pc = .ok (.invokevirtual ix, 3)) (w : cV own ix j n ci (some .long)) (hs0 : As.reverse ++ .inr (.inr a) :: st = st0) (hn : As.length = n) (hst : (st.map pcat).sum ≤ 8) (hla : lay a = (ci + 3, N)) (ha : a < ph.1 ∧ a < 1000000) (hph : ph.1 ≤ ph'.1 ∧ ph'.1 ≤ phE.1) (hC : Call K j (.inr (.inr a) :: As) ph ph' M (retL q)) (go : ∀ i M', q i M' → G S (K + 1) mi (pc + 3) L (.inr (.inl i) :: st) ph' phE M' Q) : G S (K + 1) mi pc L st0 ph phE M Q := by
  subst hs0
  refine G_callV hd w.1 (by rw [f.1]; exact w.2.1) hn hst ha hla w.2.2.1 hph hC ?_
  rw [w.2.2.2]
  exact go
theorem H_sL {own : String} {mx : Nat} {t : Option FieldType} (f : mfx mi own mx t) {ix j n : Nat} {As : List PV} {q : Int → PM → Prop} (hd : decode (mr mi).2.1 pc = .ok (.invokestatic ix, 3)) (w : cS own ix j n (some .long)) (hs0 : As.reverse ++ st = st0) (hn : As.length = n) (hst : (st.map pcat).sum ≤ 8) (hph : ph.1 ≤ ph'.1 ∧ ph'.1 ≤ phE.1) (hC : Call K j As ph ph' M (retL q)) (go : ∀ i M', q i M' → G S (K + 1) mi (pc + 3) L (.inr (.inl i) :: st) ph' phE M' Q) : G S (K + 1) mi pc L st0 ph phE M Q := by
  subst hs0
  refine G_callS hd w.1 (by rw [f.1]; exact w.2.1) hn hst hph hC ?_
  rw [w.2.2]
  exact go
theorem H_vV {own : String} {mx : Nat} {t : Option FieldType} (f : mfx mi own mx t) {ix j n a ci N : Nat} {As : List PV} {q : PM → Prop} (hd : decode (mr mi).2.1 pc = .ok (.invokevirtual ix, 3)) (w : cV own ix j n ci (none)) (hs0 : As.reverse ++ .inr (.inr a) :: st = st0) (hn : As.length = n) (hst : (st.map pcat).sum ≤ 8) (hla : lay a = (ci + 3, N)) (ha : a < ph.1 ∧ a < 1000000) (hph : ph.1 ≤ ph'.1 ∧ ph'.1 ≤ phE.1) (hC : Call K j (.inr (.inr a) :: As) ph ph' M (retV q)) (go : ∀ M', q M' → G S (K + 1) mi (pc + 3) L st ph' phE M' Q) : G S (K + 1) mi pc L st0 ph phE M Q := by
  subst hs0
  refine G_callV hd w.1 (by rw [f.1]; exact w.2.1) hn hst ha hla w.2.2.1 hph hC ?_
  rw [w.2.2.2]
  exact go
theorem H_sV {own : String} {mx : Nat} {t : Option FieldType} (f : mfx mi own mx t) {ix j n : Nat} {As : List PV} {q : PM → Prop} (hd : decode (mr mi).2.1 pc = .ok (.invokestatic ix, 3)) (w : cS own ix j n (none)) (hs0 : As.reverse ++ st = st0) (hn : As.length = n) (hst : (st.map pcat).sum ≤ 8) (hph : ph.1 ≤ ph'.1 ∧ ph'.1 ≤ phE.1) (hC : Call K j As ph ph' M (retV q)) (go : ∀ M', q M' → G S (K + 1) mi (pc + 3) L st ph' phE M' Q) : G S (K + 1) mi pc L st0 ph phE M Q := by
  subst hs0
  refine G_callS hd w.1 (by rw [f.1]; exact w.2.1) hn hst hph hC ?_
  rw [w.2.2]
  exact go
theorem H_vR {own : String} {mx : Nat} {t : Option FieldType} (f : mfx mi own mx t) {nm : String} {ix j n a ci N : Nat} {As : List PV} {q : Nat → PM → Prop} (hd : decode (mr mi).2.1 pc = .ok (.invokevirtual ix, 3)) (w : cV own ix j n ci (some (.object nm))) (hs0 : As.reverse ++ .inr (.inr a) :: st = st0) (hn : As.length = n) (hst : (st.map pcat).sum ≤ 8) (hla : lay a = (ci + 3, N)) (ha : a < ph.1 ∧ a < 1000000) (hph : ph.1 ≤ ph'.1 ∧ ph'.1 ≤ phE.1) (hC : Call K j (.inr (.inr a) :: As) ph ph' M (retR q)) (go : ∀ i M', q i M' → G S (K + 1) mi (pc + 3) L (.inr (.inr i) :: st) ph' phE M' Q) : G S (K + 1) mi pc L st0 ph phE M Q := by
  subst hs0
  refine G_callV hd w.1 (by rw [f.1]; exact w.2.1) hn hst ha hla w.2.2.1 hph hC ?_
  rw [w.2.2.2]
  exact go
theorem H_sR {own : String} {mx : Nat} {t : Option FieldType} (f : mfx mi own mx t) {nm : String} {ix j n : Nat} {As : List PV} {q : Nat → PM → Prop} (hd : decode (mr mi).2.1 pc = .ok (.invokestatic ix, 3)) (w : cS own ix j n (some (.object nm))) (hs0 : As.reverse ++ st = st0) (hn : As.length = n) (hst : (st.map pcat).sum ≤ 8) (hph : ph.1 ≤ ph'.1 ∧ ph'.1 ≤ phE.1) (hC : Call K j As ph ph' M (retR q)) (go : ∀ i M', q i M' → G S (K + 1) mi (pc + 3) L (.inr (.inr i) :: st) ph' phE M' Q) : G S (K + 1) mi pc L st0 ph phE M Q := by
  subst hs0
  refine G_callS hd w.1 (by rw [f.1]; exact w.2.1) hn hst hph hC ?_
  rw [w.2.2]
  exact go
theorem H_i {own : String} {mx : Nat} {t : Option FieldType} (f : mfx mi own mx t) {ix j n a : Nat} {As : List PV} {q : PM → Prop} (hd : decode (mr mi).2.1 pc = .ok (.invokespecial ix, 3)) (w : cI own ix j n) (hs0 : As.reverse ++ .inr (.inr a) :: st = st0) (hn : As.length = n) (hst : (st.map pcat).sum ≤ 8) (ha : a < 1000000) (hph : ph.1 ≤ ph'.1 ∧ ph'.1 ≤ phE.1) (hC : Call K j (.inr (.inr a) :: As) ph ph' M (retV q)) (go : ∀ M', q M' → G S (K + 1) mi (pc + 3) L st ph' phE M' Q) : G S (K + 1) mi pc L st0 ph phE M Q := by
  subst hs0
  exact G_callI hd w.1 (by rw [f.1]; exact w.2) hn hst ha hph hC go
theorem H_obj {own : String} {mx : Nat} {t : Option FieldType} (f : mfx mi own mx t) {ix a : Nat} (hd : decode (mr mi).2.1 pc = .ok (.invokespecial ix, 3)) (hw : Cond.methodLink own ix Lib.objectInit ∈ lw_g) (ha : a < 1000000) (hst : (st.map pcat).sum ≤ 8) (k : G S (K + 1) mi (pc + 3) L st ph phE M Q) : G S (K + 1) mi pc L (.inr (.inr a) :: st) ph phE M Q :=
  G_objInit hd (by rw [f.1]; exact hw) ha hst k
theorem H_cpyi {own : String} {mx : Nat} {t : Option FieldType} (f : mfx mi own mx t) {a0 a n n0 n1 ix : Nat} (hd : decode (mr mi).2.1 pc = .ok (.invokestatic ix, 3)) (hw : Cond.methodLink own ix arraycopyName ∈ lw_g) (h74 : 74 ≤ ph.1) (hla0 : lay a0 = (0, n0)) (hla : lay a = (0, n1)) (ha0 : a0 < ph.1 ∧ a0 < 1000000) (ha : a < ph.1 ∧ a < 1000000) (hn0 : n ≤ n0) (hn1 : n ≤ n1) (hn : n ≤ 2000000000) (hst : (st.map pcat).sum ≤ 8) (kk : G S (K + 1) mi (pc + 3) L st ph phE (mcpy M a0 a n) Q) : G S (K + 1) mi pc L (.inl (n : Int) :: .inl 0 :: .inr (.inr a) :: .inl 0 :: .inr (.inr a0) :: st) ph phE M Q :=
  G_cpyi hd (by rw [f.1]; exact hw) h74 ha0 ha hla0 hla hn0 hn1 hn hst kk
theorem H_cpyl {own : String} {mx : Nat} {t : Option FieldType} (f : mfx mi own mx t) {a0 a n n0 n1 ix : Nat} (hd : decode (mr mi).2.1 pc = .ok (.invokestatic ix, 3)) (hw : Cond.methodLink own ix arraycopyName ∈ lw_g) (h74 : 74 ≤ ph.1) (hla0 : lay a0 = (1, n0)) (hla : lay a = (1, n1)) (ha0 : a0 < ph.1 ∧ a0 < 1000000) (ha : a < ph.1 ∧ a < 1000000) (hn0 : n ≤ n0) (hn1 : n ≤ n1) (hn : n ≤ 2000000000) (hst : (st.map pcat).sum ≤ 8) (kk : G S (K + 1) mi (pc + 3) L st ph phE (mcpy M a0 a n) Q) : G S (K + 1) mi pc L (.inl (n : Int) :: .inl 0 :: .inr (.inr a) :: .inl 0 :: .inr (.inr a0) :: st) ph phE M Q :=
  G_cpyl hd (by rw [f.1]; exact hw) h74 ha0 ha hla0 hla hn0 hn1 hn hst kk
theorem H_new {own : String} {mx : Nat} {t : Option FieldType} (f : mfx mi own mx t) {C : String} {T : u_T} {tyf : Nat → FieldType} {ix ci N : Nat} (hd : decode (mr mi).2.1 pc = .ok (.new ix, 3)) (hck : cok ci C T tyf N) (hla : lay ph.1 = (ci + 3, N)) (hw : Cond.classLink own ix C ∈ lw_g) (hw2 : Cond.instantiable C N ∈ lw_g) (hw3 : Cond.initialized C ∈ lw_g) (h74 : ph.1 < 74) (hE : ph.1 + 1 ≤ phE.1) (hsl : slp ph.1 + N = slp (ph.1 + 1)) (hdf : ∀ k, k < N → defaultValue (tyf k) = (match fct ci k with
      | 0 => Value.int (Int32.ofInt 0)
      | 1 => .long (Int64.ofInt 0)
      | 2 => .int (Int32.ofInt 0)
      | _ => .null)) (hrf : ∀ k, k < N → rfg ph.2 ph.1 k = 0) {ph2 : PH} (hp2 : (ph.1 + 1, ph.2) = ph2) (kk : G S K mi (pc + 3) L (.inr (.inr ph.1) :: st) ph2 phE (mclr M ph.1) Q) : G S K mi pc L st ph phE M Q := by
  subst hp2
  exact G_new hd hck hla (by rw [f.1]; exact hw) hw2 hw3 h74 hE hsl hdf hrf kk
theorem H_iretI {x : Int} {own : String} {mx : Nat} {t : Option FieldType} (f : mfx mi own mx t) (hd : decode (mr mi).2.1 pc = .ok (.ireturn, 1)) (ht : t = some .int) (k : Q (some (.inl x)) M) : G S K mi pc L [.inl x] phE phE M Q := G_iret hd (by rw [f.2.2, ht]; trivial) k
theorem H_iretZ {x : Int} {own : String} {mx : Nat} {t : Option FieldType} (f : mfx mi own mx t) (hd : decode (mr mi).2.1 pc = .ok (.ireturn, 1)) (ht : t = some .boolean) (hx : x = 0 ∨ x = 1) (k : Q (some (.inl x)) M) : G S K mi pc L [.inl x] phE phE M Q := G_iret hd (by rw [f.2.2, ht]; exact hx) k
theorem H_lret {x : Int} {own : String} {mx : Nat} {t : Option FieldType} (f : mfx mi own mx t) (hd : decode (mr mi).2.1 pc = .ok (.lreturn, 1)) (ht : t = some .long) (k : Q (some (.inr (.inl x))) M) : G S K mi pc L [.inr (.inl x)] phE phE M Q := G_lret hd (by rw [f.2.2, ht]; trivial) k
theorem H_aret {x : Nat} {nm : String} {own : String} {mx : Nat} {t : Option FieldType} (f : mfx mi own mx t) (hd : decode (mr mi).2.1 pc = .ok (.areturn, 1)) (ht : t = some (.object nm)) (hx : x < 1000000) (k : Q (some (.inr (.inr x))) M) : G S K mi pc L [.inr (.inr x)] phE phE M Q := G_aret hd (by rw [f.2.2, ht]; exact hx) k
theorem H_vret {own : String} {mx : Nat} {t : Option FieldType} (f : mfx mi own mx t) (hd : decode (mr mi).2.1 pc = .ok (.return_, 1)) (ht : t = none) (k : Q none M) : G S K mi pc L [] phE phE M Q := G_vret hd (by rw [f.2.2, ht]; trivial) k
theorem H_iald {a n : Nat} {i x : Int} (hd : decode (mr mi).2.1 pc = .ok (.iaload, 1)) (hla : lay a = (0, n)) (hn : n ≤ 2000000000) (ha : a < ph.1 ∧ a < 1000000) (hi : 0 ≤ i ∧ i < (n : Int)) (hx : M a i = x) (kk : G S K mi (pc + 1) L (.inl x :: st) ph phE M Q) : G S K mi pc L (.inl i :: .inr (.inr a) :: st) ph phE M Q := by
  subst hx
  exact G_iald hd ha hla hn hi kk
theorem H_lald {a n : Nat} {i x : Int} (hd : decode (mr mi).2.1 pc = .ok (.laload, 1)) (hla : lay a = (1, n)) (hn : n ≤ 2000000000) (ha : a < ph.1 ∧ a < 1000000) (hi : 0 ≤ i ∧ i < (n : Int)) (hx : M a i = x) (kk : G S K mi (pc + 1) L (.inr (.inl x) :: st) ph phE M Q) : G S K mi pc L (.inl i :: .inr (.inr a) :: st) ph phE M Q := by
  subst hx
  exact G_lald hd ha hla hn hi kk
theorem H_zald {a n : Nat} {i x : Int} (hd : decode (mr mi).2.1 pc = .ok (.baload, 1)) (hla : lay a = (2, n)) (hn : n ≤ 2000000000) (ha : a < ph.1 ∧ a < 1000000) (hi : 0 ≤ i ∧ i < (n : Int)) (hx : M a i = x) (kk : G S K mi (pc + 1) L (.inl x :: st) ph phE M Q) : G S K mi pc L (.inl i :: .inr (.inr a) :: st) ph phE M Q := by
  subst hx
  exact G_zald hd ha hla hn hi kk
theorem H_newI {n : Nat} (hd : decode (mr mi).2.1 pc = .ok (.newarray .int, 2)) (hw : Cond.arrayClass .int ∈ lw_g) (hla : lay ph.1 = (0, n)) (hn : n ≤ 100000) (h74 : ph.1 < 74) (hE : ph.1 + 1 ≤ phE.1) (hsl : slp ph.1 + n = slp (ph.1 + 1)) {ph2 : PH} (hp2 : (ph.1 + 1, ph.2) = ph2) (kk : G S K mi (pc + 2) L (.inr (.inr ph.1) :: st) ph2 phE (mclr M ph.1) Q) : G S K mi pc L (.inl (n : Int) :: st) ph phE M Q := by
  subst hp2
  exact G_newI hd hw hla hn h74 hE hsl kk
theorem H_newL {n : Nat} (hd : decode (mr mi).2.1 pc = .ok (.newarray .long, 2)) (hw : Cond.arrayClass .long ∈ lw_g) (hla : lay ph.1 = (1, n)) (hn : n ≤ 100000) (h74 : ph.1 < 74) (hE : ph.1 + 1 ≤ phE.1) (hsl : slp ph.1 + n = slp (ph.1 + 1)) {ph2 : PH} (hp2 : (ph.1 + 1, ph.2) = ph2) (kk : G S K mi (pc + 2) L (.inr (.inr ph.1) :: st) ph2 phE (mclr M ph.1) Q) : G S K mi pc L (.inl (n : Int) :: st) ph phE M Q := by
  subst hp2
  exact G_newL hd hw hla hn h74 hE hsl kk
theorem H_newZ {n : Nat} (hd : decode (mr mi).2.1 pc = .ok (.newarray .boolean, 2)) (hw : Cond.arrayClass .boolean ∈ lw_g) (hla : lay ph.1 = (2, n)) (hn : n ≤ 100000) (h74 : ph.1 < 74) (hE : ph.1 + 1 ≤ phE.1) (hsl : slp ph.1 + n = slp (ph.1 + 1)) {ph2 : PH} (hp2 : (ph.1 + 1, ph.2) = ph2) (kk : G S K mi (pc + 2) L (.inr (.inr ph.1) :: st) ph2 phE (mclr M ph.1) Q) : G S K mi pc L (.inl (n : Int) :: st) ph phE M Q := by
  subst hp2
  exact G_newZ hd hw hla hn h74 hE hsl kk
end WR
