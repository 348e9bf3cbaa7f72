theorem cok_0 : cok 0 "ClearingWaves$Book" T0 ty0 6 := ⟨rfl, in0, ty0_ok, nm0⟩
theorem cok_1 : cok 1 "ClearingWaves$Clearing" T1 ty1 15 := ⟨rfl, in1, ty1_ok, nm1⟩
theorem cok_2 : cok 2 "ClearingWaves$Coins" T2 ty2 4 := ⟨rfl, in2, ty2_ok, nm2⟩
theorem cok_3 : cok 3 "ClearingWaves$Equations" T3 ty3 2 := ⟨rfl, in3, ty3_ok, nm3⟩
theorem cok_4 : cok 4 "ClearingWaves$Paper" T4 ty4 2 := ⟨rfl, in4, ty4_ok, nm4⟩
theorem cok_5 : cok 5 "ClearingWaves$Rings" T5 ty5 2 := ⟨rfl, in5, ty5_ok, nm5⟩
theorem cok_6 : cok 6 "ClearingWaves$Rows" T6 ty6 2 := ⟨rfl, in6, ty6_ok, nm6⟩
theorem cok_7 : cok 7 "ClearingWaves$Tape" T7 ty7 3 := ⟨rfl, in7, ty7_ok, nm7⟩
theorem cok_8 : cok 8 "ClearingWaves$Told" T8 ty8 2 := ⟨rfl, in8, ty8_ok, nm8⟩
theorem cok_9 : cok 9 "ClearingWaves$Worth" T9 ty9 2 := ⟨rfl, in9, ty9_ok, nm9⟩
theorem cok_10 : cok 10 "ClearingWaves" T10 ty10 16 := ⟨rfl, in10, ty10_ok, nm10⟩
theorem cok_11 : cok 11 "ClearingWavesModel" T11 ty11 35 := ⟨rfl, in11, ty11_ok, nm11⟩
theorem ly0 : lay 0 = (13, 16) := by decide +kernel
theorem ra0 : 0 < P0.1 ∧ 0 < 1000000 := by decide
theorem ly1 : lay 1 = (3, 6) := by decide +kernel
theorem ra1 : 1 < P0.1 ∧ 1 < 1000000 := by decide
theorem ly2 : lay 2 = (0, 5) := by decide +kernel
theorem ra2 : 2 < P0.1 ∧ 2 < 1000000 := by decide
theorem ly3 : lay 3 = (0, 75) := by decide +kernel
theorem ra3 : 3 < P0.1 ∧ 3 < 1000000 := by decide
theorem ly4 : lay 4 = (1, 45) := by decide +kernel
theorem ra4 : 4 < P0.1 ∧ 4 < 1000000 := by decide
theorem ly5 : lay 5 = (3, 6) := by decide +kernel
theorem ra5 : 5 < P0.1 ∧ 5 < 1000000 := by decide
theorem ly6 : lay 6 = (0, 5) := by decide +kernel
theorem ra6 : 6 < P0.1 ∧ 6 < 1000000 := by decide
theorem ly7 : lay 7 = (0, 75) := by decide +kernel
theorem ra7 : 7 < P0.1 ∧ 7 < 1000000 := by decide
theorem ly8 : lay 8 = (1, 45) := by decide +kernel
theorem ra8 : 8 < P0.1 ∧ 8 < 1000000 := by decide
theorem ly9 : lay 9 = (0, 5) := by decide +kernel
theorem ra9 : 9 < P0.1 ∧ 9 < 1000000 := by decide
theorem ly10 : lay 10 = (0, 5) := by decide +kernel
theorem ra10 : 10 < P0.1 ∧ 10 < 1000000 := by decide
theorem ly11 : lay 11 = (4, 15) := by decide +kernel
theorem ra11 : 11 < P0.1 ∧ 11 < 1000000 := by decide
theorem ly12 : lay 12 = (0, 5) := by decide +kernel
theorem ra12 : 12 < P0.1 ∧ 12 < 1000000 := by decide
theorem ly13 : lay 13 = (1, 90) := by decide +kernel
theorem ra13 : 13 < P0.1 ∧ 13 < 1000000 := by decide
theorem ly14 : lay 14 = (1, 6) := by decide +kernel
theorem ra14 : 14 < P0.1 ∧ 14 < 1000000 := by decide
theorem ly15 : lay 15 = (0, 15) := by decide +kernel
theorem ra15 : 15 < P0.1 ∧ 15 < 1000000 := by decide
theorem ly16 : lay 16 = (0, 5) := by decide +kernel
theorem ra16 : 16 < P0.1 ∧ 16 < 1000000 := by decide
theorem ly17 : lay 17 = (0, 5) := by decide +kernel
theorem ra17 : 17 < P0.1 ∧ 17 < 1000000 := by decide
theorem ly18 : lay 18 = (2, 5) := by decide +kernel
theorem ra18 : 18 < P0.1 ∧ 18 < 1000000 := by decide
theorem ly19 : lay 19 = (1, 5) := by decide +kernel
theorem ra19 : 19 < P0.1 ∧ 19 < 1000000 := by decide
theorem ly20 : lay 20 = (0, 5) := by decide +kernel
theorem ra20 : 20 < P0.1 ∧ 20 < 1000000 := by decide
theorem ly21 : lay 21 = (6, 2) := by decide +kernel
theorem ra21 : 21 < P0.1 ∧ 21 < 1000000 := by decide
theorem ly22 : lay 22 = (1, 30) := by decide +kernel
theorem ra22 : 22 < P0.1 ∧ 22 < 1000000 := by decide
theorem ly23 : lay 23 = (1, 64) := by decide +kernel
theorem ra23 : 23 < P0.1 ∧ 23 < 1000000 := by decide
theorem ly24 : lay 24 = (4, 15) := by decide +kernel
theorem ra24 : 24 < P0.1 ∧ 24 < 1000000 := by decide
theorem ly25 : lay 25 = (0, 5) := by decide +kernel
theorem ra25 : 25 < P0.1 ∧ 25 < 1000000 := by decide
theorem ly26 : lay 26 = (1, 90) := by decide +kernel
theorem ra26 : 26 < P0.1 ∧ 26 < 1000000 := by decide
theorem ly27 : lay 27 = (1, 6) := by decide +kernel
theorem ra27 : 27 < P0.1 ∧ 27 < 1000000 := by decide
theorem ly28 : lay 28 = (0, 15) := by decide +kernel
theorem ra28 : 28 < P0.1 ∧ 28 < 1000000 := by decide
theorem ly29 : lay 29 = (0, 5) := by decide +kernel
theorem ra29 : 29 < P0.1 ∧ 29 < 1000000 := by decide
theorem ly30 : lay 30 = (0, 5) := by decide +kernel
theorem ra30 : 30 < P0.1 ∧ 30 < 1000000 := by decide
theorem ly31 : lay 31 = (2, 5) := by decide +kernel
theorem ra31 : 31 < P0.1 ∧ 31 < 1000000 := by decide
theorem ly32 : lay 32 = (1, 5) := by decide +kernel
theorem ra32 : 32 < P0.1 ∧ 32 < 1000000 := by decide
theorem ly33 : lay 33 = (0, 5) := by decide +kernel
theorem ra33 : 33 < P0.1 ∧ 33 < 1000000 := by decide
theorem ly34 : lay 34 = (6, 2) := by decide +kernel
theorem ra34 : 34 < P0.1 ∧ 34 < 1000000 := by decide
theorem ly35 : lay 35 = (1, 30) := by decide +kernel
theorem ra35 : 35 < P0.1 ∧ 35 < 1000000 := by decide
theorem ly36 : lay 36 = (1, 64) := by decide +kernel
theorem ra36 : 36 < P0.1 ∧ 36 < 1000000 := by decide
theorem ly37 : lay 37 = (5, 4) := by decide +kernel
theorem ra37 : 37 < P0.1 ∧ 37 < 1000000 := by decide
theorem ly38 : lay 38 = (0, 5) := by decide +kernel
theorem ra38 : 38 < P0.1 ∧ 38 < 1000000 := by decide
theorem ly39 : lay 39 = (0, 75) := by decide +kernel
theorem ra39 : 39 < P0.1 ∧ 39 < 1000000 := by decide
theorem ly40 : lay 40 = (8, 2) := by decide +kernel
theorem ra40 : 40 < P0.1 ∧ 40 < 1000000 := by decide
theorem ly41 : lay 41 = (0, 5) := by decide +kernel
theorem ra41 : 41 < P0.1 ∧ 41 < 1000000 := by decide
theorem ly42 : lay 42 = (12, 2) := by decide +kernel
theorem ra42 : 42 < P0.1 ∧ 42 < 1000000 := by decide
theorem ly43 : lay 43 = (11, 2) := by decide +kernel
theorem ra43 : 43 < P0.1 ∧ 43 < 1000000 := by decide
theorem ly44 : lay 44 = (1, 15) := by decide +kernel
theorem ra44 : 44 < P0.1 ∧ 44 < 1000000 := by decide
theorem ly45 : lay 45 = (10, 3) := by decide +kernel
theorem ra45 : 45 < P0.1 ∧ 45 < 1000000 := by decide
theorem ly46 : lay 46 = (0, 120) := by decide +kernel
theorem ra46 : 46 < P0.1 ∧ 46 < 1000000 := by decide
theorem ly47 : lay 47 = (7, 2) := by decide +kernel
theorem ra47 : 47 < P0.1 ∧ 47 < 1000000 := by decide
theorem ly48 : lay 48 = (0, 200) := by decide +kernel
theorem ra48 : 48 < P0.1 ∧ 48 < 1000000 := by decide
theorem ly49 : lay 49 = (9, 2) := by decide +kernel
theorem ra49 : 49 < P0.1 ∧ 49 < 1000000 := by decide
theorem ly50 : lay 50 = (0, 4) := by decide +kernel
theorem ra50 : 50 < P0.1 ∧ 50 < 1000000 := by decide
theorem ly51 : lay 51 = (1, 80) := by decide +kernel
theorem ra51 : 51 < P0.1 ∧ 51 < 1000000 := by decide
theorem ly52 : lay 52 = (14, 35) := by decide +kernel
theorem ra52 : 52 < P0.1 ∧ 52 < 1000000 := by decide
theorem ly53 : lay 53 = (1, 128) := by decide +kernel
theorem ra53 : 53 < P0.1 ∧ 53 < 1000000 := by decide
theorem ly54 : lay 54 = (1, 128) := by decide +kernel
theorem ra54 : 54 < P0.1 ∧ 54 < 1000000 := by decide
theorem ly55 : lay 55 = (0, 83) := by decide +kernel
theorem ra55 : 55 < P0.1 ∧ 55 < 1000000 := by decide
theorem ly56 : lay 56 = (0, 120) := by decide +kernel
theorem ra56 : 56 < P0.1 ∧ 56 < 1000000 := by decide
theorem ly57 : lay 57 = (0, 120) := by decide +kernel
theorem ra57 : 57 < P0.1 ∧ 57 < 1000000 := by decide
theorem ly58 : lay 58 = (1, 90) := by decide +kernel
theorem ra58 : 58 < P0.1 ∧ 58 < 1000000 := by decide
theorem ly59 : lay 59 = (1, 6) := by decide +kernel
theorem ra59 : 59 < P0.1 ∧ 59 < 1000000 := by decide
theorem ly60 : lay 60 = (0, 5) := by decide +kernel
theorem ra60 : 60 < P0.1 ∧ 60 < 1000000 := by decide
theorem ly61 : lay 61 = (0, 5) := by decide +kernel
theorem ra61 : 61 < P0.1 ∧ 61 < 1000000 := by decide
theorem ly62 : lay 62 = (0, 5) := by decide +kernel
theorem ra62 : 62 < P0.1 ∧ 62 < 1000000 := by decide
theorem ly63 : lay 63 = (0, 5) := by decide +kernel
theorem ra63 : 63 < P0.1 ∧ 63 < 1000000 := by decide
theorem ly64 : lay 64 = (1, 25) := by decide +kernel
theorem ra64 : 64 < P0.1 ∧ 64 < 1000000 := by decide
theorem ly65 : lay 65 = (1, 5) := by decide +kernel
theorem ra65 : 65 < P0.1 ∧ 65 < 1000000 := by decide
theorem ly66 : lay 66 = (1, 5) := by decide +kernel
theorem ra66 : 66 < P0.1 ∧ 66 < 1000000 := by decide
theorem ly67 : lay 67 = (0, 75) := by decide +kernel
theorem ra67 : 67 < P0.1 ∧ 67 < 1000000 := by decide
theorem ly68 : lay 68 = (0, 75) := by decide +kernel
theorem ra68 : 68 < P0.1 ∧ 68 < 1000000 := by decide
theorem ly69 : lay 69 = (0, 5) := by decide +kernel
theorem ra69 : 69 < P0.1 ∧ 69 < 1000000 := by decide
theorem ly70 : lay 70 = (0, 5) := by decide +kernel
theorem ra70 : 70 < P0.1 ∧ 70 < 1000000 := by decide
theorem ly71 : lay 71 = (0, 320) := by decide +kernel
theorem ra71 : 71 < P0.1 ∧ 71 < 1000000 := by decide
theorem ly72 : lay 72 = (1, 80) := by decide +kernel
theorem ra72 : 72 < P0.1 ∧ 72 < 1000000 := by decide
theorem ly73 : lay 73 = (0, 4) := by decide +kernel
theorem ra73 : 73 < P0.1 ∧ 73 < 1000000 := by decide
theorem rf1_3 : rfg P0.2 1 3 = 2 + 1 := by decide +kernel
theorem rf1_4 : rfg P0.2 1 4 = 3 + 1 := by decide +kernel
theorem rf1_5 : rfg P0.2 1 5 = 4 + 1 := by decide +kernel
theorem rf0_0 : rfg P0.2 0 0 = 1 + 1 := by decide +kernel
theorem rf5_3 : rfg P0.2 5 3 = 6 + 1 := by decide +kernel
theorem rf5_4 : rfg P0.2 5 4 = 7 + 1 := by decide +kernel
theorem rf5_5 : rfg P0.2 5 5 = 8 + 1 := by decide +kernel
theorem rf0_1 : rfg P0.2 0 1 = 5 + 1 := by decide +kernel
theorem rf0_3 : rfg P0.2 0 3 = 9 + 1 := by decide +kernel
theorem rf0_4 : rfg P0.2 0 4 = 10 + 1 := by decide +kernel
theorem rf11_2 : rfg P0.2 11 2 = 12 + 1 := by decide +kernel
theorem rf11_5 : rfg P0.2 11 5 = 13 + 1 := by decide +kernel
theorem rf11_6 : rfg P0.2 11 6 = 14 + 1 := by decide +kernel
theorem rf11_7 : rfg P0.2 11 7 = 15 + 1 := by decide +kernel
theorem rf11_8 : rfg P0.2 11 8 = 16 + 1 := by decide +kernel
theorem rf11_9 : rfg P0.2 11 9 = 17 + 1 := by decide +kernel
theorem rf11_10 : rfg P0.2 11 10 = 18 + 1 := by decide +kernel
theorem rf11_11 : rfg P0.2 11 11 = 19 + 1 := by decide +kernel
theorem rf11_12 : rfg P0.2 11 12 = 20 + 1 := by decide +kernel
theorem rf21_0 : rfg P0.2 21 0 = 22 + 1 := by decide +kernel
theorem rf21_1 : rfg P0.2 21 1 = 23 + 1 := by decide +kernel
theorem rf11_13 : rfg P0.2 11 13 = 21 + 1 := by decide +kernel
theorem rf11_3 : rfg P0.2 11 3 = 1 + 1 := by decide +kernel
theorem rf11_4 : rfg P0.2 11 4 = 2 + 1 := by decide +kernel
theorem rf0_5 : rfg P0.2 0 5 = 11 + 1 := by decide +kernel
theorem rf24_2 : rfg P0.2 24 2 = 25 + 1 := by decide +kernel
theorem rf24_5 : rfg P0.2 24 5 = 26 + 1 := by decide +kernel
theorem rf24_6 : rfg P0.2 24 6 = 27 + 1 := by decide +kernel
theorem rf24_7 : rfg P0.2 24 7 = 28 + 1 := by decide +kernel
theorem rf24_8 : rfg P0.2 24 8 = 29 + 1 := by decide +kernel
theorem rf24_9 : rfg P0.2 24 9 = 30 + 1 := by decide +kernel
theorem rf24_10 : rfg P0.2 24 10 = 31 + 1 := by decide +kernel
theorem rf24_11 : rfg P0.2 24 11 = 32 + 1 := by decide +kernel
theorem rf24_12 : rfg P0.2 24 12 = 33 + 1 := by decide +kernel
theorem rf34_0 : rfg P0.2 34 0 = 35 + 1 := by decide +kernel
theorem rf34_1 : rfg P0.2 34 1 = 36 + 1 := by decide +kernel
theorem rf24_13 : rfg P0.2 24 13 = 34 + 1 := by decide +kernel
theorem rf24_3 : rfg P0.2 24 3 = 1 + 1 := by decide +kernel
theorem rf24_4 : rfg P0.2 24 4 = 9 + 1 := by decide +kernel
theorem rf0_6 : rfg P0.2 0 6 = 24 + 1 := by decide +kernel
theorem rf37_2 : rfg P0.2 37 2 = 38 + 1 := by decide +kernel
theorem rf37_3 : rfg P0.2 37 3 = 39 + 1 := by decide +kernel
theorem rf37_1 : rfg P0.2 37 1 = 1 + 1 := by decide +kernel
theorem rf0_8 : rfg P0.2 0 8 = 37 + 1 := by decide +kernel
theorem rf40_0 : rfg P0.2 40 0 = 41 + 1 := by decide +kernel
theorem rf40_1 : rfg P0.2 40 1 = 1 + 1 := by decide +kernel
theorem rf0_10 : rfg P0.2 0 10 = 40 + 1 := by decide +kernel
theorem rf0_11 : rfg P0.2 0 11 = 42 + 1 := by decide +kernel
theorem rf43_1 : rfg P0.2 43 1 = 44 + 1 := by decide +kernel
theorem rf0_12 : rfg P0.2 0 12 = 43 + 1 := by decide +kernel
theorem rf45_1 : rfg P0.2 45 1 = 46 + 1 := by decide +kernel
theorem rf0_13 : rfg P0.2 0 13 = 45 + 1 := by decide +kernel
theorem rf47_1 : rfg P0.2 47 1 = 48 + 1 := by decide +kernel
theorem rf0_14 : rfg P0.2 0 14 = 47 + 1 := by decide +kernel
theorem rf49_0 : rfg P0.2 49 0 = 50 + 1 := by decide +kernel
theorem rf49_1 : rfg P0.2 49 1 = 51 + 1 := by decide +kernel
theorem rf0_15 : rfg P0.2 0 15 = 49 + 1 := by decide +kernel
theorem rf52_0 : rfg P0.2 52 0 = 53 + 1 := by decide +kernel
theorem rf52_1 : rfg P0.2 52 1 = 54 + 1 := by decide +kernel
theorem rf52_3 : rfg P0.2 52 3 = 55 + 1 := by decide +kernel
theorem rf52_5 : rfg P0.2 52 5 = 56 + 1 := by decide +kernel
theorem rf52_8 : rfg P0.2 52 8 = 57 + 1 := by decide +kernel
theorem rf52_10 : rfg P0.2 52 10 = 58 + 1 := by decide +kernel
theorem rf52_11 : rfg P0.2 52 11 = 59 + 1 := by decide +kernel
theorem rf52_12 : rfg P0.2 52 12 = 60 + 1 := by decide +kernel
theorem rf52_14 : rfg P0.2 52 14 = 61 + 1 := by decide +kernel
theorem rf52_15 : rfg P0.2 52 15 = 62 + 1 := by decide +kernel
theorem rf52_16 : rfg P0.2 52 16 = 63 + 1 := by decide +kernel
theorem rf52_18 : rfg P0.2 52 18 = 64 + 1 := by decide +kernel
theorem rf52_19 : rfg P0.2 52 19 = 65 + 1 := by decide +kernel
theorem rf52_20 : rfg P0.2 52 20 = 66 + 1 := by decide +kernel
theorem rf52_22 : rfg P0.2 52 22 = 67 + 1 := by decide +kernel
theorem rf52_23 : rfg P0.2 52 23 = 68 + 1 := by decide +kernel
theorem rf52_25 : rfg P0.2 52 25 = 69 + 1 := by decide +kernel
theorem rf52_26 : rfg P0.2 52 26 = 70 + 1 := by decide +kernel
theorem rf52_31 : rfg P0.2 52 31 = 71 + 1 := by decide +kernel
theorem rf52_33 : rfg P0.2 52 33 = 72 + 1 := by decide +kernel
theorem rf52_34 : rfg P0.2 52 34 = 73 + 1 := by decide +kernel
theorem fc0_0 : fct 0 0 = 0 := by decide +kernel
theorem fc0_1 : fct 0 1 = 0 := by decide +kernel
theorem fc0_2 : fct 0 2 = 0 := by decide +kernel
theorem fc0_3 : fct 0 3 = 3 := by decide +kernel
theorem fc0_4 : fct 0 4 = 3 := by decide +kernel
theorem fc0_5 : fct 0 5 = 3 := by decide +kernel
theorem fc1_0 : fct 1 0 = 0 := by decide +kernel
theorem fc1_1 : fct 1 1 = 0 := by decide +kernel
theorem fc1_2 : fct 1 2 = 3 := by decide +kernel
theorem fc1_3 : fct 1 3 = 3 := by decide +kernel
theorem fc1_4 : fct 1 4 = 3 := by decide +kernel
theorem fc1_5 : fct 1 5 = 3 := by decide +kernel
theorem fc1_6 : fct 1 6 = 3 := by decide +kernel
theorem fc1_7 : fct 1 7 = 3 := by decide +kernel
theorem fc1_8 : fct 1 8 = 3 := by decide +kernel
theorem fc1_9 : fct 1 9 = 3 := by decide +kernel
theorem fc1_10 : fct 1 10 = 3 := by decide +kernel
theorem fc1_11 : fct 1 11 = 3 := by decide +kernel
theorem fc1_12 : fct 1 12 = 3 := by decide +kernel
theorem fc1_13 : fct 1 13 = 3 := by decide +kernel
theorem fc1_14 : fct 1 14 = 1 := by decide +kernel
theorem fc2_0 : fct 2 0 = 0 := by decide +kernel
theorem fc2_1 : fct 2 1 = 3 := by decide +kernel
theorem fc2_2 : fct 2 2 = 3 := by decide +kernel
theorem fc2_3 : fct 2 3 = 3 := by decide +kernel
theorem fc3_0 : fct 3 0 = 3 := by decide +kernel
theorem fc3_1 : fct 3 1 = 3 := by decide +kernel
theorem fc4_0 : fct 4 0 = 0 := by decide +kernel
theorem fc4_1 : fct 4 1 = 3 := by decide +kernel
theorem fc5_0 : fct 5 0 = 3 := by decide +kernel
theorem fc5_1 : fct 5 1 = 3 := by decide +kernel
theorem fc6_0 : fct 6 0 = 3 := by decide +kernel
theorem fc6_1 : fct 6 1 = 3 := by decide +kernel
theorem fc7_0 : fct 7 0 = 0 := by decide +kernel
theorem fc7_1 : fct 7 1 = 3 := by decide +kernel
theorem fc7_2 : fct 7 2 = 0 := by decide +kernel
theorem fc8_0 : fct 8 0 = 1 := by decide +kernel
theorem fc8_1 : fct 8 1 = 3 := by decide +kernel
theorem fc9_0 : fct 9 0 = 1 := by decide +kernel
theorem fc9_1 : fct 9 1 = 1 := by decide +kernel
theorem fc10_0 : fct 10 0 = 3 := by decide +kernel
theorem fc10_1 : fct 10 1 = 3 := by decide +kernel
theorem fc10_2 : fct 10 2 = 2 := by decide +kernel
theorem fc10_3 : fct 10 3 = 3 := by decide +kernel
theorem fc10_4 : fct 10 4 = 3 := by decide +kernel
theorem fc10_5 : fct 10 5 = 3 := by decide +kernel
theorem fc10_6 : fct 10 6 = 3 := by decide +kernel
theorem fc10_7 : fct 10 7 = 2 := by decide +kernel
theorem fc10_8 : fct 10 8 = 3 := by decide +kernel
theorem fc10_9 : fct 10 9 = 2 := by decide +kernel
theorem fc10_10 : fct 10 10 = 3 := by decide +kernel
theorem fc10_11 : fct 10 11 = 3 := by decide +kernel
theorem fc10_12 : fct 10 12 = 3 := by decide +kernel
theorem fc10_13 : fct 10 13 = 3 := by decide +kernel
theorem fc10_14 : fct 10 14 = 3 := by decide +kernel
theorem fc10_15 : fct 10 15 = 3 := by decide +kernel
theorem fc11_0 : fct 11 0 = 3 := by decide +kernel
theorem fc11_1 : fct 11 1 = 3 := by decide +kernel
theorem fc11_2 : fct 11 2 = 2 := by decide +kernel
theorem fc11_3 : fct 11 3 = 3 := by decide +kernel
theorem fc11_4 : fct 11 4 = 2 := by decide +kernel
theorem fc11_5 : fct 11 5 = 3 := by decide +kernel
theorem fc11_6 : fct 11 6 = 0 := by decide +kernel
theorem fc11_7 : fct 11 7 = 0 := by decide +kernel
theorem fc11_8 : fct 11 8 = 3 := by decide +kernel
theorem fc11_9 : fct 11 9 = 0 := by decide +kernel
theorem fc11_10 : fct 11 10 = 3 := by decide +kernel
theorem fc11_11 : fct 11 11 = 3 := by decide +kernel
theorem fc11_12 : fct 11 12 = 3 := by decide +kernel
theorem fc11_13 : fct 11 13 = 0 := by decide +kernel
theorem fc11_14 : fct 11 14 = 3 := by decide +kernel
theorem fc11_15 : fct 11 15 = 3 := by decide +kernel
theorem fc11_16 : fct 11 16 = 3 := by decide +kernel
theorem fc11_17 : fct 11 17 = 0 := by decide +kernel
theorem fc11_18 : fct 11 18 = 3 := by decide +kernel
theorem fc11_19 : fct 11 19 = 3 := by decide +kernel
theorem fc11_20 : fct 11 20 = 3 := by decide +kernel
theorem fc11_21 : fct 11 21 = 1 := by decide +kernel
theorem fc11_22 : fct 11 22 = 3 := by decide +kernel
theorem fc11_23 : fct 11 23 = 3 := by decide +kernel
theorem fc11_24 : fct 11 24 = 0 := by decide +kernel
theorem fc11_25 : fct 11 25 = 3 := by decide +kernel
theorem fc11_26 : fct 11 26 = 3 := by decide +kernel
theorem fc11_27 : fct 11 27 = 0 := by decide +kernel
theorem fc11_28 : fct 11 28 = 1 := by decide +kernel
theorem fc11_29 : fct 11 29 = 1 := by decide +kernel
theorem fc11_30 : fct 11 30 = 2 := by decide +kernel
theorem fc11_31 : fct 11 31 = 3 := by decide +kernel
theorem fc11_32 : fct 11 32 = 0 := by decide +kernel
theorem fc11_33 : fct 11 33 = 3 := by decide +kernel
theorem fc11_34 : fct 11 34 = 3 := by decide +kernel
theorem fw_ClearingWaves_12 : fok "ClearingWaves" "ClearingWaves" 12 10 0 16 (.object "ClearingWaves$Book") true := ⟨T10, ty10, cok_10, Nat.le_of_ble_eq_true rfl, mt2 (List.mem_of_getElem? (i := 34) (by decide +kernel)) (by decide +kernel), rfl, rfl, rfl⟩
theorem fw_ClearingWaves_18 : fok "ClearingWaves" "ClearingWaves" 18 10 1 16 (.object "ClearingWaves$Book") true := ⟨T10, ty10, cok_10, Nat.le_of_ble_eq_true rfl, mt2 (List.mem_of_getElem? (i := 35) (by decide +kernel)) (by decide +kernel), rfl, rfl, rfl⟩
theorem fw_ClearingWaves_21 : fok "ClearingWaves" "ClearingWaves" 21 10 3 16 (.array .int) true := ⟨T10, ty10, cok_10, Nat.le_of_ble_eq_true rfl, mt2 (List.mem_of_getElem? (i := 37) (by decide +kernel)) (by decide +kernel), rfl, rfl, rfl⟩
theorem fw_ClearingWaves_25 : fok "ClearingWaves" "ClearingWaves" 25 10 4 16 (.array .int) true := ⟨T10, ty10, cok_10, Nat.le_of_ble_eq_true rfl, mt2 (List.mem_of_getElem? (i := 38) (by decide +kernel)) (by decide +kernel), rfl, rfl, rfl⟩
theorem fw_ClearingWaves_30 : fok "ClearingWaves" "ClearingWaves$Book" 30 0 3 6 (.array .int) true := ⟨T0, ty0, cok_0, Nat.le_of_ble_eq_true rfl, mt1 (List.mem_of_getElem? (i := 53) (by decide +kernel)) (by decide +kernel), rfl, rfl, rfl⟩
theorem fw_ClearingWaves_36 : fok "ClearingWaves" "ClearingWaves" 36 10 5 16 (.object "ClearingWaves$Clearing") true := ⟨T10, ty10, cok_10, Nat.le_of_ble_eq_true rfl, mt2 (List.mem_of_getElem? (i := 39) (by decide +kernel)) (by decide +kernel), rfl, rfl, rfl⟩
theorem fw_ClearingWaves_40 : fok "ClearingWaves" "ClearingWaves" 40 10 6 16 (.object "ClearingWaves$Clearing") true := ⟨T10, ty10, cok_10, Nat.le_of_ble_eq_true rfl, mt2 (List.mem_of_getElem? (i := 40) (by decide +kernel)) (by decide +kernel), rfl, rfl, rfl⟩
theorem fw_ClearingWaves_48 : fok "ClearingWaves" "ClearingWaves" 48 10 8 16 (.object "ClearingWaves$Coins") true := ⟨T10, ty10, cok_10, Nat.le_of_ble_eq_true rfl, mt2 (List.mem_of_getElem? (i := 42) (by decide +kernel)) (by decide +kernel), rfl, rfl, rfl⟩
theorem fw_ClearingWaves_55 : fok "ClearingWaves" "ClearingWaves" 55 10 10 16 (.object "ClearingWaves$Rings") true := ⟨T10, ty10, cok_10, Nat.le_of_ble_eq_true rfl, mt2 (List.mem_of_getElem? (i := 44) (by decide +kernel)) (by decide +kernel), rfl, rfl, rfl⟩
theorem fw_ClearingWaves_62 : fok "ClearingWaves" "ClearingWaves" 62 10 11 16 (.object "ClearingWaves$Worth") true := ⟨T10, ty10, cok_10, Nat.le_of_ble_eq_true rfl, mt2 (List.mem_of_getElem? (i := 45) (by decide +kernel)) (by decide +kernel), rfl, rfl, rfl⟩
theorem fw_ClearingWaves_69 : fok "ClearingWaves" "ClearingWaves" 69 10 12 16 (.object "ClearingWaves$Told") true := ⟨T10, ty10, cok_10, Nat.le_of_ble_eq_true rfl, mt2 (List.mem_of_getElem? (i := 46) (by decide +kernel)) (by decide +kernel), rfl, rfl, rfl⟩
theorem fw_ClearingWaves_76 : fok "ClearingWaves" "ClearingWaves" 76 10 13 16 (.object "ClearingWaves$Tape") true := ⟨T10, ty10, cok_10, Nat.le_of_ble_eq_true rfl, mt2 (List.mem_of_getElem? (i := 47) (by decide +kernel)) (by decide +kernel), rfl, rfl, rfl⟩
theorem fw_ClearingWaves_83 : fok "ClearingWaves" "ClearingWaves" 83 10 14 16 (.object "ClearingWaves$Paper") true := ⟨T10, ty10, cok_10, Nat.le_of_ble_eq_true rfl, mt2 (List.mem_of_getElem? (i := 48) (by decide +kernel)) (by decide +kernel), rfl, rfl, rfl⟩
theorem fw_ClearingWaves_90 : fok "ClearingWaves" "ClearingWaves" 90 10 15 16 (.object "ClearingWaves$Rows") true := ⟨T10, ty10, cok_10, Nat.le_of_ble_eq_true rfl, mt2 (List.mem_of_getElem? (i := 49) (by decide +kernel)) (by decide +kernel), rfl, rfl, rfl⟩
theorem fw_ClearingWaves_94 : fok "ClearingWaves" "ClearingWaves" 94 10 7 16 (.boolean) false := ⟨T10, ty10, cok_10, Nat.le_of_ble_eq_true rfl, mt2 (List.mem_of_getElem? (i := 41) (by decide +kernel)) (by decide +kernel), rfl, rfl, rfl⟩
theorem fw_ClearingWaves_98 : fok "ClearingWaves" "ClearingWaves" 98 10 9 16 (.boolean) false := ⟨T10, ty10, cok_10, Nat.le_of_ble_eq_true rfl, mt2 (List.mem_of_getElem? (i := 43) (by decide +kernel)) (by decide +kernel), rfl, rfl, rfl⟩
theorem fw_ClearingWaves_124 : fok "ClearingWaves" "ClearingWaves$Book" 124 0 1 6 (.int) false := ⟨T0, ty0, cok_0, Nat.le_of_ble_eq_true rfl, mt1 (List.mem_of_getElem? (i := 45) (by decide +kernel)) (by decide +kernel), rfl, rfl, rfl⟩
theorem fw_ClearingWaves_128 : fok "ClearingWaves" "ClearingWaves$Book" 128 0 2 6 (.int) false := ⟨T0, ty0, cok_0, Nat.le_of_ble_eq_true rfl, mt1 (List.mem_of_getElem? (i := 50) (by decide +kernel)) (by decide +kernel), rfl, rfl, rfl⟩
theorem fw_ClearingWaves_134 : fok "ClearingWaves" "ClearingWaves$Tape" 134 7 0 3 (.int) false := ⟨T7, ty7, cok_7, Nat.le_of_ble_eq_true rfl, mt1 (List.mem_of_getElem? (i := 236) (by decide +kernel)) (by decide +kernel), rfl, rfl, rfl⟩
theorem fw_ClearingWaves_149 : fok "ClearingWaves" "ClearingWaves$Clearing" 149 1 0 15 (.int) false := ⟨T1, ty1, cok_1, Nat.le_of_ble_eq_true rfl, mt1 (List.mem_of_getElem? (i := 117) (by decide +kernel)) (by decide +kernel), rfl, rfl, rfl⟩
theorem fw_ClearingWaves_152 : fok "ClearingWaves" "ClearingWaves$Clearing" 152 1 2 15 (.array .int) true := ⟨T1, ty1, cok_1, Nat.le_of_ble_eq_true rfl, mt1 (List.mem_of_getElem? (i := 121) (by decide +kernel)) (by decide +kernel), rfl, rfl, rfl⟩
theorem fw_ClearingWaves_155 : fok "ClearingWaves" "ClearingWaves$Clearing" 155 1 1 15 (.int) false := ⟨T1, ty1, cok_1, Nat.le_of_ble_eq_true rfl, mt1 (List.mem_of_getElem? (i := 119) (by decide +kernel)) (by decide +kernel), rfl, rfl, rfl⟩
theorem fw_ClearingWaves_207 : fok "ClearingWaves" "ClearingWaves$Book" 207 0 0 6 (.int) false := ⟨T0, ty0, cok_0, Nat.le_of_ble_eq_true rfl, mt1 (List.mem_of_getElem? (i := 41) (by decide +kernel)) (by decide +kernel), rfl, rfl, rfl⟩
theorem fw_ClearingWaves_225 : fok "ClearingWaves" "ClearingWaves$Coins" 225 2 0 4 (.int) false := ⟨T2, ty2, cok_2, Nat.le_of_ble_eq_true rfl, mt1 (List.mem_of_getElem? (i := 172) (by decide +kernel)) (by decide +kernel), rfl, rfl, rfl⟩
theorem fw_ClearingWaves_273 : fok "ClearingWaves" "ClearingWaves$Rings" 273 5 0 2 (.array .int) true := ⟨T5, ty5, cok_5, Nat.le_of_ble_eq_true rfl, mt1 (List.mem_of_getElem? (i := 192) (by decide +kernel)) (by decide +kernel), rfl, rfl, rfl⟩
theorem fw_ClearingWaves_288 : fok "ClearingWaves" "ClearingWaves$Book" 288 0 5 6 (.array .long) true := ⟨T0, ty0, cok_0, Nat.le_of_ble_eq_true rfl, mt1 (List.mem_of_getElem? (i := 62) (by decide +kernel)) (by decide +kernel), rfl, rfl, rfl⟩
theorem fw_ClearingWaves_296 : fok "ClearingWaves" "ClearingWaves$Worth" 296 9 0 2 (.long) false := ⟨T9, ty9, cok_9, Nat.le_of_ble_eq_true rfl, mt1 (List.mem_of_getElem? (i := 206) (by decide +kernel)) (by decide +kernel), rfl, rfl, rfl⟩
theorem fw_ClearingWaves_299 : fok "ClearingWaves" "ClearingWaves$Worth" 299 9 1 2 (.long) false := ⟨T9, ty9, cok_9, Nat.le_of_ble_eq_true rfl, mt1 (List.mem_of_getElem? (i := 208) (by decide +kernel)) (by decide +kernel), rfl, rfl, rfl⟩
theorem fw_ClearingWaves_308 : fok "ClearingWaves" "ClearingWaves$Paper" 308 4 0 2 (.int) false := ⟨T4, ty4, cok_4, Nat.le_of_ble_eq_true rfl, mt2 (List.mem_of_getElem? (i := 13) (by decide +kernel)) (by decide +kernel), rfl, rfl, rfl⟩
theorem fw_ClearingWaves_313 : fok "ClearingWaves" "ClearingWaves$Paper" 313 4 1 2 (.array .int) true := ⟨T4, ty4, cok_4, Nat.le_of_ble_eq_true rfl, mt2 (List.mem_of_getElem? (i := 15) (by decide +kernel)) (by decide +kernel), rfl, rfl, rfl⟩
theorem fw_ClearingWaves_339 : fok "ClearingWaves" "ClearingWaves$Told" 339 8 0 2 (.long) false := ⟨T8, ty8, cok_8, Nat.le_of_ble_eq_true rfl, mt1 (List.mem_of_getElem? (i := 221) (by decide +kernel)) (by decide +kernel), rfl, rfl, rfl⟩
theorem fw_ClearingWaves_342 : fok "ClearingWaves" "ClearingWaves$Told" 342 8 1 2 (.array .long) true := ⟨T8, ty8, cok_8, Nat.le_of_ble_eq_true rfl, mt1 (List.mem_of_getElem? (i := 223) (by decide +kernel)) (by decide +kernel), rfl, rfl, rfl⟩
theorem fw_ClearingWaves_359 : fok "ClearingWaves" "ClearingWaves" 359 10 2 16 (.boolean) false := ⟨T10, ty10, cok_10, Nat.le_of_ble_eq_true rfl, mt2 (List.mem_of_getElem? (i := 36) (by decide +kernel)) (by decide +kernel), rfl, rfl, rfl⟩
theorem fw_Book_9 : fok "ClearingWaves$Book" "ClearingWaves$Book" 9 0 3 6 (.array .int) true := ⟨T0, ty0, cok_0, Nat.le_of_ble_eq_true rfl, mt1 (List.mem_of_getElem? (i := 52) (by decide +kernel)) (by decide +kernel), rfl, rfl, rfl⟩
theorem fw_Book_15 : fok "ClearingWaves$Book" "ClearingWaves$Book" 15 0 4 6 (.array .int) true := ⟨T0, ty0, cok_0, Nat.le_of_ble_eq_true rfl, mt1 (List.mem_of_getElem? (i := 57) (by decide +kernel)) (by decide +kernel), rfl, rfl, rfl⟩
theorem fw_Book_18 : fok "ClearingWaves$Book" "ClearingWaves$Book" 18 0 5 6 (.array .long) true := ⟨T0, ty0, cok_0, Nat.le_of_ble_eq_true rfl, mt1 (List.mem_of_getElem? (i := 60) (by decide +kernel)) (by decide +kernel), rfl, rfl, rfl⟩
theorem fw_Book_26 : fok "ClearingWaves$Book" "ClearingWaves$Book" 26 0 0 6 (.int) false := ⟨T0, ty0, cok_0, Nat.le_of_ble_eq_true rfl, mt1 (List.mem_of_getElem? (i := 35) (by decide +kernel)) (by decide +kernel), rfl, rfl, rfl⟩
theorem fw_Book_30 : fok "ClearingWaves$Book" "ClearingWaves$Book" 30 0 1 6 (.int) false := ⟨T0, ty0, cok_0, Nat.le_of_ble_eq_true rfl, mt1 (List.mem_of_getElem? (i := 42) (by decide +kernel)) (by decide +kernel), rfl, rfl, rfl⟩
theorem fw_Book_33 : fok "ClearingWaves$Book" "ClearingWaves$Book" 33 0 2 6 (.int) false := ⟨T0, ty0, cok_0, Nat.le_of_ble_eq_true rfl, mt1 (List.mem_of_getElem? (i := 47) (by decide +kernel)) (by decide +kernel), rfl, rfl, rfl⟩
theorem fw_Clearing_9 : fok "ClearingWaves$Clearing" "ClearingWaves$Clearing" 9 1 2 15 (.array .int) true := ⟨T1, ty1, cok_1, Nat.le_of_ble_eq_true rfl, mt1 (List.mem_of_getElem? (i := 120) (by decide +kernel)) (by decide +kernel), rfl, rfl, rfl⟩
theorem fw_Clearing_15 : fok "ClearingWaves$Clearing" "ClearingWaves$Clearing" 15 1 5 15 (.array .long) true := ⟨T1, ty1, cok_1, Nat.le_of_ble_eq_true rfl, mt1 (List.mem_of_getElem? (i := 124) (by decide +kernel)) (by decide +kernel), rfl, rfl, rfl⟩
theorem fw_Clearing_19 : fok "ClearingWaves$Clearing" "ClearingWaves$Clearing" 19 1 6 15 (.array .long) true := ⟨T1, ty1, cok_1, Nat.le_of_ble_eq_true rfl, mt1 (List.mem_of_getElem? (i := 125) (by decide +kernel)) (by decide +kernel), rfl, rfl, rfl⟩
theorem fw_Clearing_22 : fok "ClearingWaves$Clearing" "ClearingWaves$Clearing" 22 1 7 15 (.array .int) true := ⟨T1, ty1, cok_1, Nat.le_of_ble_eq_true rfl, mt1 (List.mem_of_getElem? (i := 126) (by decide +kernel)) (by decide +kernel), rfl, rfl, rfl⟩
theorem fw_Clearing_25 : fok "ClearingWaves$Clearing" "ClearingWaves$Clearing" 25 1 8 15 (.array .int) true := ⟨T1, ty1, cok_1, Nat.le_of_ble_eq_true rfl, mt1 (List.mem_of_getElem? (i := 127) (by decide +kernel)) (by decide +kernel), rfl, rfl, rfl⟩
theorem fw_Clearing_28 : fok "ClearingWaves$Clearing" "ClearingWaves$Clearing" 28 1 9 15 (.array .int) true := ⟨T1, ty1, cok_1, Nat.le_of_ble_eq_true rfl, mt1 (List.mem_of_getElem? (i := 128) (by decide +kernel)) (by decide +kernel), rfl, rfl, rfl⟩
theorem fw_Clearing_31 : fok "ClearingWaves$Clearing" "ClearingWaves$Clearing" 31 1 10 15 (.array .boolean) true := ⟨T1, ty1, cok_1, Nat.le_of_ble_eq_true rfl, mt1 (List.mem_of_getElem? (i := 129) (by decide +kernel)) (by decide +kernel), rfl, rfl, rfl⟩
theorem fw_Clearing_35 : fok "ClearingWaves$Clearing" "ClearingWaves$Clearing" 35 1 11 15 (.array .long) true := ⟨T1, ty1, cok_1, Nat.le_of_ble_eq_true rfl, mt1 (List.mem_of_getElem? (i := 130) (by decide +kernel)) (by decide +kernel), rfl, rfl, rfl⟩
theorem fw_Clearing_38 : fok "ClearingWaves$Clearing" "ClearingWaves$Clearing" 38 1 12 15 (.array .int) true := ⟨T1, ty1, cok_1, Nat.le_of_ble_eq_true rfl, mt1 (List.mem_of_getElem? (i := 131) (by decide +kernel)) (by decide +kernel), rfl, rfl, rfl⟩
theorem fw_Clearing_44 : fok "ClearingWaves$Clearing" "ClearingWaves$Clearing" 44 1 13 15 (.object "ClearingWaves$Equations") true := ⟨T1, ty1, cok_1, Nat.le_of_ble_eq_true rfl, mt1 (List.mem_of_getElem? (i := 132) (by decide +kernel)) (by decide +kernel), rfl, rfl, rfl⟩
theorem fw_Clearing_48 : fok "ClearingWaves$Clearing" "ClearingWaves$Clearing" 48 1 3 15 (.object "ClearingWaves$Book") true := ⟨T1, ty1, cok_1, Nat.le_of_ble_eq_true rfl, mt1 (List.mem_of_getElem? (i := 122) (by decide +kernel)) (by decide +kernel), rfl, rfl, rfl⟩
theorem fw_Clearing_52 : fok "ClearingWaves$Clearing" "ClearingWaves$Clearing" 52 1 4 15 (.array .int) true := ⟨T1, ty1, cok_1, Nat.le_of_ble_eq_true rfl, mt1 (List.mem_of_getElem? (i := 123) (by decide +kernel)) (by decide +kernel), rfl, rfl, rfl⟩
theorem fw_Clearing_77 : fok "ClearingWaves$Clearing" "ClearingWaves$Clearing" 77 1 0 15 (.int) false := ⟨T1, ty1, cok_1, Nat.le_of_ble_eq_true rfl, mt1 (List.mem_of_getElem? (i := 115) (by decide +kernel)) (by decide +kernel), rfl, rfl, rfl⟩
theorem fw_Clearing_81 : fok "ClearingWaves$Clearing" "ClearingWaves$Clearing" 81 1 1 15 (.int) false := ⟨T1, ty1, cok_1, Nat.le_of_ble_eq_true rfl, mt1 (List.mem_of_getElem? (i := 118) (by decide +kernel)) (by decide +kernel), rfl, rfl, rfl⟩
theorem fw_Clearing_84 : fok "ClearingWaves$Clearing" "ClearingWaves$Clearing" 84 1 14 15 (.long) false := ⟨T1, ty1, cok_1, Nat.le_of_ble_eq_true rfl, mt1 (List.mem_of_getElem? (i := 133) (by decide +kernel)) (by decide +kernel), rfl, rfl, rfl⟩
theorem fw_Clearing_97 : fok "ClearingWaves$Clearing" "ClearingWaves$Book" 97 0 1 6 (.int) false := ⟨T0, ty0, cok_0, Nat.le_of_ble_eq_true rfl, mt1 (List.mem_of_getElem? (i := 44) (by decide +kernel)) (by decide +kernel), rfl, rfl, rfl⟩
theorem fw_Clearing_100 : fok "ClearingWaves$Clearing" "ClearingWaves$Book" 100 0 2 6 (.int) false := ⟨T0, ty0, cok_0, Nat.le_of_ble_eq_true rfl, mt1 (List.mem_of_getElem? (i := 49) (by decide +kernel)) (by decide +kernel), rfl, rfl, rfl⟩
theorem fw_Clearing_109 : fok "ClearingWaves$Clearing" "ClearingWaves$Book" 109 0 0 6 (.int) false := ⟨T0, ty0, cok_0, Nat.le_of_ble_eq_true rfl, mt1 (List.mem_of_getElem? (i := 40) (by decide +kernel)) (by decide +kernel), rfl, rfl, rfl⟩
theorem fw_Clearing_170 : fok "ClearingWaves$Clearing" "ClearingWaves$Book" 170 0 4 6 (.array .int) true := ⟨T0, ty0, cok_0, Nat.le_of_ble_eq_true rfl, mt1 (List.mem_of_getElem? (i := 59) (by decide +kernel)) (by decide +kernel), rfl, rfl, rfl⟩
theorem fw_Coins_9 : fok "ClearingWaves$Coins" "ClearingWaves$Coins" 9 2 2 4 (.array .int) true := ⟨T2, ty2, cok_2, Nat.le_of_ble_eq_true rfl, mt1 (List.mem_of_getElem? (i := 174) (by decide +kernel)) (by decide +kernel), rfl, rfl, rfl⟩
theorem fw_Coins_15 : fok "ClearingWaves$Coins" "ClearingWaves$Coins" 15 2 3 4 (.array .int) true := ⟨T2, ty2, cok_2, Nat.le_of_ble_eq_true rfl, mt1 (List.mem_of_getElem? (i := 175) (by decide +kernel)) (by decide +kernel), rfl, rfl, rfl⟩
theorem fw_Coins_18 : fok "ClearingWaves$Coins" "ClearingWaves$Coins" 18 2 1 4 (.object "ClearingWaves$Book") true := ⟨T2, ty2, cok_2, Nat.le_of_ble_eq_true rfl, mt1 (List.mem_of_getElem? (i := 173) (by decide +kernel)) (by decide +kernel), rfl, rfl, rfl⟩
theorem fw_Coins_22 : fok "ClearingWaves$Coins" "ClearingWaves$Book" 22 0 4 6 (.array .int) true := ⟨T0, ty0, cok_0, Nat.le_of_ble_eq_true rfl, mt1 (List.mem_of_getElem? (i := 58) (by decide +kernel)) (by decide +kernel), rfl, rfl, rfl⟩
theorem fw_Coins_33 : fok "ClearingWaves$Coins" "ClearingWaves$Coins" 33 2 0 4 (.int) false := ⟨T2, ty2, cok_2, Nat.le_of_ble_eq_true rfl, mt1 (List.mem_of_getElem? (i := 171) (by decide +kernel)) (by decide +kernel), rfl, rfl, rfl⟩
theorem fw_Coins_40 : fok "ClearingWaves$Coins" "ClearingWaves$Book" 40 0 0 6 (.int) false := ⟨T0, ty0, cok_0, Nat.le_of_ble_eq_true rfl, mt1 (List.mem_of_getElem? (i := 38) (by decide +kernel)) (by decide +kernel), rfl, rfl, rfl⟩
theorem fw_Coins_54 : fok "ClearingWaves$Coins" "ClearingWaves$Book" 54 0 3 6 (.array .int) true := ⟨T0, ty0, cok_0, Nat.le_of_ble_eq_true rfl, mt1 (List.mem_of_getElem? (i := 56) (by decide +kernel)) (by decide +kernel), rfl, rfl, rfl⟩
theorem fw_Coins_61 : fok "ClearingWaves$Coins" "ClearingWaves$Book" 61 0 1 6 (.int) false := ⟨T0, ty0, cok_0, Nat.le_of_ble_eq_true rfl, mt1 (List.mem_of_getElem? (i := 46) (by decide +kernel)) (by decide +kernel), rfl, rfl, rfl⟩
theorem fw_Coins_64 : fok "ClearingWaves$Coins" "ClearingWaves$Book" 64 0 2 6 (.int) false := ⟨T0, ty0, cok_0, Nat.le_of_ble_eq_true rfl, mt1 (List.mem_of_getElem? (i := 51) (by decide +kernel)) (by decide +kernel), rfl, rfl, rfl⟩
theorem fw_Equations_11 : fok "ClearingWaves$Equations" "ClearingWaves$Equations" 11 3 0 2 (.array .long) true := ⟨T3, ty3, cok_3, Nat.le_of_ble_eq_true rfl, mt1 (List.mem_of_getElem? (i := 90) (by decide +kernel)) (by decide +kernel), rfl, rfl, rfl⟩
theorem fw_Equations_15 : fok "ClearingWaves$Equations" "ClearingWaves$Equations" 15 3 1 2 (.array .long) true := ⟨T3, ty3, cok_3, Nat.le_of_ble_eq_true rfl, mt1 (List.mem_of_getElem? (i := 91) (by decide +kernel)) (by decide +kernel), rfl, rfl, rfl⟩
theorem fw_Paper_9 : fok "ClearingWaves$Paper" "ClearingWaves$Paper" 9 4 1 2 (.array .int) true := ⟨T4, ty4, cok_4, Nat.le_of_ble_eq_true rfl, mt2 (List.mem_of_getElem? (i := 14) (by decide +kernel)) (by decide +kernel), rfl, rfl, rfl⟩
theorem fw_Paper_13 : fok "ClearingWaves$Paper" "ClearingWaves$Paper" 13 4 0 2 (.int) false := ⟨T4, ty4, cok_4, Nat.le_of_ble_eq_true rfl, mt2 (List.mem_of_getElem? (i := 12) (by decide +kernel)) (by decide +kernel), rfl, rfl, rfl⟩
theorem fw_Rings_9 : fok "ClearingWaves$Rings" "ClearingWaves$Rings" 9 5 0 2 (.array .int) true := ⟨T5, ty5, cok_5, Nat.le_of_ble_eq_true rfl, mt1 (List.mem_of_getElem? (i := 191) (by decide +kernel)) (by decide +kernel), rfl, rfl, rfl⟩
theorem fw_Rings_15 : fok "ClearingWaves$Rings" "ClearingWaves$Rings" 15 5 1 2 (.object "ClearingWaves$Book") true := ⟨T5, ty5, cok_5, Nat.le_of_ble_eq_true rfl, mt1 (List.mem_of_getElem? (i := 193) (by decide +kernel)) (by decide +kernel), rfl, rfl, rfl⟩
theorem fw_Rings_19 : fok "ClearingWaves$Rings" "ClearingWaves$Book" 19 0 0 6 (.int) false := ⟨T0, ty0, cok_0, Nat.le_of_ble_eq_true rfl, mt1 (List.mem_of_getElem? (i := 36) (by decide +kernel)) (by decide +kernel), rfl, rfl, rfl⟩
theorem fw_Rows_9 : fok "ClearingWaves$Rows" "ClearingWaves$Rows" 9 6 0 2 (.array .int) true := ⟨T6, ty6, cok_6, Nat.le_of_ble_eq_true rfl, mt2 (List.mem_of_getElem? (i := 27) (by decide +kernel)) (by decide +kernel), rfl, rfl, rfl⟩
theorem fw_Rows_13 : fok "ClearingWaves$Rows" "ClearingWaves$Rows" 13 6 1 2 (.array .long) true := ⟨T6, ty6, cok_6, Nat.le_of_ble_eq_true rfl, mt2 (List.mem_of_getElem? (i := 28) (by decide +kernel)) (by decide +kernel), rfl, rfl, rfl⟩
theorem fw_Tape_11 : fok "ClearingWaves$Tape" "ClearingWaves$Tape" 11 7 1 3 (.array .int) true := ⟨T7, ty7, cok_7, Nat.le_of_ble_eq_true rfl, mt1 (List.mem_of_getElem? (i := 237) (by decide +kernel)) (by decide +kernel), rfl, rfl, rfl⟩
theorem fw_Tape_15 : fok "ClearingWaves$Tape" "ClearingWaves$Tape" 15 7 0 3 (.int) false := ⟨T7, ty7, cok_7, Nat.le_of_ble_eq_true rfl, mt1 (List.mem_of_getElem? (i := 235) (by decide +kernel)) (by decide +kernel), rfl, rfl, rfl⟩
theorem fw_Tape_19 : fok "ClearingWaves$Tape" "ClearingWaves$Tape" 19 7 2 3 (.int) false := ⟨T7, ty7, cok_7, Nat.le_of_ble_eq_true rfl, mt1 (List.mem_of_getElem? (i := 238) (by decide +kernel)) (by decide +kernel), rfl, rfl, rfl⟩
theorem fw_Tape_44 : fok "ClearingWaves$Tape" "ClearingWaves$Book" 44 0 3 6 (.array .int) true := ⟨T0, ty0, cok_0, Nat.le_of_ble_eq_true rfl, mt1 (List.mem_of_getElem? (i := 55) (by decide +kernel)) (by decide +kernel), rfl, rfl, rfl⟩
theorem fw_Told_9 : fok "ClearingWaves$Told" "ClearingWaves$Told" 9 8 1 2 (.array .long) true := ⟨T8, ty8, cok_8, Nat.le_of_ble_eq_true rfl, mt1 (List.mem_of_getElem? (i := 222) (by decide +kernel)) (by decide +kernel), rfl, rfl, rfl⟩
theorem fw_Told_15 : fok "ClearingWaves$Told" "ClearingWaves$Told" 15 8 0 2 (.long) false := ⟨T8, ty8, cok_8, Nat.le_of_ble_eq_true rfl, mt1 (List.mem_of_getElem? (i := 220) (by decide +kernel)) (by decide +kernel), rfl, rfl, rfl⟩
theorem fw_Told_21 : fok "ClearingWaves$Told" "ClearingWaves$Clearing" 21 1 0 15 (.int) false := ⟨T1, ty1, cok_1, Nat.le_of_ble_eq_true rfl, mt1 (List.mem_of_getElem? (i := 116) (by decide +kernel)) (by decide +kernel), rfl, rfl, rfl⟩
theorem fw_Told_35 : fok "ClearingWaves$Told" "ClearingWaves$Book" 35 0 0 6 (.int) false := ⟨T0, ty0, cok_0, Nat.le_of_ble_eq_true rfl, mt1 (List.mem_of_getElem? (i := 39) (by decide +kernel)) (by decide +kernel), rfl, rfl, rfl⟩
theorem fw_Told_48 : fok "ClearingWaves$Told" "ClearingWaves$Book" 48 0 3 6 (.array .int) true := ⟨T0, ty0, cok_0, Nat.le_of_ble_eq_true rfl, mt1 (List.mem_of_getElem? (i := 54) (by decide +kernel)) (by decide +kernel), rfl, rfl, rfl⟩
theorem fw_Told_56 : fok "ClearingWaves$Told" "ClearingWaves$Book" 56 0 1 6 (.int) false := ⟨T0, ty0, cok_0, Nat.le_of_ble_eq_true rfl, mt1 (List.mem_of_getElem? (i := 43) (by decide +kernel)) (by decide +kernel), rfl, rfl, rfl⟩
theorem fw_Told_59 : fok "ClearingWaves$Told" "ClearingWaves$Book" 59 0 2 6 (.int) false := ⟨T0, ty0, cok_0, Nat.le_of_ble_eq_true rfl, mt1 (List.mem_of_getElem? (i := 48) (by decide +kernel)) (by decide +kernel), rfl, rfl, rfl⟩
theorem fw_Worth_9 : fok "ClearingWaves$Worth" "ClearingWaves$Worth" 9 9 0 2 (.long) false := ⟨T9, ty9, cok_9, Nat.le_of_ble_eq_true rfl, mt1 (List.mem_of_getElem? (i := 205) (by decide +kernel)) (by decide +kernel), rfl, rfl, rfl⟩
theorem fw_Worth_15 : fok "ClearingWaves$Worth" "ClearingWaves$Worth" 15 9 1 2 (.long) false := ⟨T9, ty9, cok_9, Nat.le_of_ble_eq_true rfl, mt1 (List.mem_of_getElem? (i := 207) (by decide +kernel)) (by decide +kernel), rfl, rfl, rfl⟩
theorem fw_Worth_18 : fok "ClearingWaves$Worth" "ClearingWaves$Book" 18 0 0 6 (.int) false := ⟨T0, ty0, cok_0, Nat.le_of_ble_eq_true rfl, mt1 (List.mem_of_getElem? (i := 37) (by decide +kernel)) (by decide +kernel), rfl, rfl, rfl⟩
theorem fw_Worth_24 : fok "ClearingWaves$Worth" "ClearingWaves$Book" 24 0 5 6 (.array .long) true := ⟨T0, ty0, cok_0, Nat.le_of_ble_eq_true rfl, mt1 (List.mem_of_getElem? (i := 61) (by decide +kernel)) (by decide +kernel), rfl, rfl, rfl⟩
theorem fw_Worth_32 : fok "ClearingWaves$Worth" "ClearingWaves$Clearing" 32 1 0 15 (.int) false := ⟨T1, ty1, cok_1, Nat.le_of_ble_eq_true rfl, mt1 (List.mem_of_getElem? (i := 114) (by decide +kernel)) (by decide +kernel), rfl, rfl, rfl⟩
theorem fw_Model_5 : fok "ClearingWavesModel" "ClearingWavesModel" 5 11 3 35 (.array .int) true := ⟨T11, ty11, cok_11, Nat.le_of_ble_eq_true rfl, mt5 (List.mem_of_getElem? (i := 42) (by decide +kernel)) (by decide +kernel), rfl, rfl, rfl⟩
theorem fw_Model_25 : fok "ClearingWavesModel" "ClearingWavesModel" 25 11 0 35 (.array .long) true := ⟨T11, ty11, cok_11, Nat.le_of_ble_eq_true rfl, mt5 (List.mem_of_getElem? (i := 39) (by decide +kernel)) (by decide +kernel), rfl, rfl, rfl⟩
theorem fw_Model_29 : fok "ClearingWavesModel" "ClearingWavesModel" 29 11 1 35 (.array .long) true := ⟨T11, ty11, cok_11, Nat.le_of_ble_eq_true rfl, mt5 (List.mem_of_getElem? (i := 40) (by decide +kernel)) (by decide +kernel), rfl, rfl, rfl⟩
theorem fw_Model_32 : fok "ClearingWavesModel" "ClearingWavesModel" 32 11 5 35 (.array .int) true := ⟨T11, ty11, cok_11, Nat.le_of_ble_eq_true rfl, mt5 (List.mem_of_getElem? (i := 44) (by decide +kernel)) (by decide +kernel), rfl, rfl, rfl⟩
theorem fw_Model_35 : fok "ClearingWavesModel" "ClearingWavesModel" 35 11 8 35 (.array .int) true := ⟨T11, ty11, cok_11, Nat.le_of_ble_eq_true rfl, mt5 (List.mem_of_getElem? (i := 47) (by decide +kernel)) (by decide +kernel), rfl, rfl, rfl⟩
theorem fw_Model_38 : fok "ClearingWavesModel" "ClearingWavesModel" 38 11 10 35 (.array .long) true := ⟨T11, ty11, cok_11, Nat.le_of_ble_eq_true rfl, mt5 (List.mem_of_getElem? (i := 49) (by decide +kernel)) (by decide +kernel), rfl, rfl, rfl⟩
theorem fw_Model_41 : fok "ClearingWavesModel" "ClearingWavesModel" 41 11 11 35 (.array .long) true := ⟨T11, ty11, cok_11, Nat.le_of_ble_eq_true rfl, mt5 (List.mem_of_getElem? (i := 50) (by decide +kernel)) (by decide +kernel), rfl, rfl, rfl⟩
theorem fw_Model_44 : fok "ClearingWavesModel" "ClearingWavesModel" 44 11 12 35 (.array .int) true := ⟨T11, ty11, cok_11, Nat.le_of_ble_eq_true rfl, mt5 (List.mem_of_getElem? (i := 51) (by decide +kernel)) (by decide +kernel), rfl, rfl, rfl⟩
theorem fw_Model_47 : fok "ClearingWavesModel" "ClearingWavesModel" 47 11 14 35 (.array .int) true := ⟨T11, ty11, cok_11, Nat.le_of_ble_eq_true rfl, mt5 (List.mem_of_getElem? (i := 53) (by decide +kernel)) (by decide +kernel), rfl, rfl, rfl⟩
theorem fw_Model_50 : fok "ClearingWavesModel" "ClearingWavesModel" 50 11 15 35 (.array .int) true := ⟨T11, ty11, cok_11, Nat.le_of_ble_eq_true rfl, mt5 (List.mem_of_getElem? (i := 54) (by decide +kernel)) (by decide +kernel), rfl, rfl, rfl⟩
theorem fw_Model_53 : fok "ClearingWavesModel" "ClearingWavesModel" 53 11 16 35 (.array .int) true := ⟨T11, ty11, cok_11, Nat.le_of_ble_eq_true rfl, mt5 (List.mem_of_getElem? (i := 55) (by decide +kernel)) (by decide +kernel), rfl, rfl, rfl⟩
theorem fw_Model_56 : fok "ClearingWavesModel" "ClearingWavesModel" 56 11 18 35 (.array .long) true := ⟨T11, ty11, cok_11, Nat.le_of_ble_eq_true rfl, mt5 (List.mem_of_getElem? (i := 57) (by decide +kernel)) (by decide +kernel), rfl, rfl, rfl⟩
theorem fw_Model_59 : fok "ClearingWavesModel" "ClearingWavesModel" 59 11 19 35 (.array .long) true := ⟨T11, ty11, cok_11, Nat.le_of_ble_eq_true rfl, mt5 (List.mem_of_getElem? (i := 58) (by decide +kernel)) (by decide +kernel), rfl, rfl, rfl⟩
theorem fw_Model_62 : fok "ClearingWavesModel" "ClearingWavesModel" 62 11 20 35 (.array .long) true := ⟨T11, ty11, cok_11, Nat.le_of_ble_eq_true rfl, mt5 (List.mem_of_getElem? (i := 59) (by decide +kernel)) (by decide +kernel), rfl, rfl, rfl⟩
theorem fw_Model_65 : fok "ClearingWavesModel" "ClearingWavesModel" 65 11 22 35 (.array .int) true := ⟨T11, ty11, cok_11, Nat.le_of_ble_eq_true rfl, mt5 (List.mem_of_getElem? (i := 61) (by decide +kernel)) (by decide +kernel), rfl, rfl, rfl⟩
theorem fw_Model_68 : fok "ClearingWavesModel" "ClearingWavesModel" 68 11 23 35 (.array .int) true := ⟨T11, ty11, cok_11, Nat.le_of_ble_eq_true rfl, mt5 (List.mem_of_getElem? (i := 62) (by decide +kernel)) (by decide +kernel), rfl, rfl, rfl⟩
theorem fw_Model_71 : fok "ClearingWavesModel" "ClearingWavesModel" 71 11 25 35 (.array .int) true := ⟨T11, ty11, cok_11, Nat.le_of_ble_eq_true rfl, mt5 (List.mem_of_getElem? (i := 64) (by decide +kernel)) (by decide +kernel), rfl, rfl, rfl⟩
theorem fw_Model_74 : fok "ClearingWavesModel" "ClearingWavesModel" 74 11 26 35 (.array .int) true := ⟨T11, ty11, cok_11, Nat.le_of_ble_eq_true rfl, mt5 (List.mem_of_getElem? (i := 65) (by decide +kernel)) (by decide +kernel), rfl, rfl, rfl⟩
theorem fw_Model_77 : fok "ClearingWavesModel" "ClearingWavesModel" 77 11 31 35 (.array .int) true := ⟨T11, ty11, cok_11, Nat.le_of_ble_eq_true rfl, mt5 (List.mem_of_getElem? (i := 70) (by decide +kernel)) (by decide +kernel), rfl, rfl, rfl⟩
theorem fw_Model_80 : fok "ClearingWavesModel" "ClearingWavesModel" 80 11 33 35 (.array .long) true := ⟨T11, ty11, cok_11, Nat.le_of_ble_eq_true rfl, mt5 (List.mem_of_getElem? (i := 72) (by decide +kernel)) (by decide +kernel), rfl, rfl, rfl⟩
theorem fw_Model_83 : fok "ClearingWavesModel" "ClearingWavesModel" 83 11 34 35 (.array .int) true := ⟨T11, ty11, cok_11, Nat.le_of_ble_eq_true rfl, mt5 (List.mem_of_getElem? (i := 73) (by decide +kernel)) (by decide +kernel), rfl, rfl, rfl⟩
theorem fw_Model_95 : fok "ClearingWavesModel" "ClearingWavesModel" 95 11 4 35 (.boolean) false := ⟨T11, ty11, cok_11, Nat.le_of_ble_eq_true rfl, mt5 (List.mem_of_getElem? (i := 43) (by decide +kernel)) (by decide +kernel), rfl, rfl, rfl⟩
theorem fw_Model_128 : fok "ClearingWavesModel" "ClearingWavesModel" 128 11 6 35 (.int) false := ⟨T11, ty11, cok_11, Nat.le_of_ble_eq_true rfl, mt5 (List.mem_of_getElem? (i := 45) (by decide +kernel)) (by decide +kernel), rfl, rfl, rfl⟩
theorem fw_Model_132 : fok "ClearingWavesModel" "ClearingWavesModel" 132 11 7 35 (.int) false := ⟨T11, ty11, cok_11, Nat.le_of_ble_eq_true rfl, mt5 (List.mem_of_getElem? (i := 46) (by decide +kernel)) (by decide +kernel), rfl, rfl, rfl⟩
theorem fw_Model_158 : fok "ClearingWavesModel" "ClearingWavesModel" 158 11 17 35 (.int) false := ⟨T11, ty11, cok_11, Nat.le_of_ble_eq_true rfl, mt5 (List.mem_of_getElem? (i := 56) (by decide +kernel)) (by decide +kernel), rfl, rfl, rfl⟩
theorem fw_Model_172 : fok "ClearingWavesModel" "ClearingWavesModel" 172 11 21 35 (.long) false := ⟨T11, ty11, cok_11, Nat.le_of_ble_eq_true rfl, mt5 (List.mem_of_getElem? (i := 60) (by decide +kernel)) (by decide +kernel), rfl, rfl, rfl⟩
theorem fw_Model_176 : fok "ClearingWavesModel" "ClearingWavesModel" 176 11 13 35 (.int) false := ⟨T11, ty11, cok_11, Nat.le_of_ble_eq_true rfl, mt5 (List.mem_of_getElem? (i := 52) (by decide +kernel)) (by decide +kernel), rfl, rfl, rfl⟩
theorem fw_Model_206 : fok "ClearingWavesModel" "ClearingWavesModel" 206 11 9 35 (.int) false := ⟨T11, ty11, cok_11, Nat.le_of_ble_eq_true rfl, mt5 (List.mem_of_getElem? (i := 48) (by decide +kernel)) (by decide +kernel), rfl, rfl, rfl⟩
theorem fw_Model_280 : fok "ClearingWavesModel" "ClearingWavesModel" 280 11 24 35 (.int) false := ⟨T11, ty11, cok_11, Nat.le_of_ble_eq_true rfl, mt5 (List.mem_of_getElem? (i := 63) (by decide +kernel)) (by decide +kernel), rfl, rfl, rfl⟩
theorem fw_Model_329 : fok "ClearingWavesModel" "ClearingWavesModel" 329 11 27 35 (.int) false := ⟨T11, ty11, cok_11, Nat.le_of_ble_eq_true rfl, mt5 (List.mem_of_getElem? (i := 66) (by decide +kernel)) (by decide +kernel), rfl, rfl, rfl⟩
theorem fw_Model_353 : fok "ClearingWavesModel" "ClearingWavesModel" 353 11 30 35 (.boolean) false := ⟨T11, ty11, cok_11, Nat.le_of_ble_eq_true rfl, mt5 (List.mem_of_getElem? (i := 69) (by decide +kernel)) (by decide +kernel), rfl, rfl, rfl⟩
theorem fw_Model_358 : fok "ClearingWavesModel" "ClearingWavesModel" 358 11 28 35 (.long) false := ⟨T11, ty11, cok_11, Nat.le_of_ble_eq_true rfl, mt5 (List.mem_of_getElem? (i := 67) (by decide +kernel)) (by decide +kernel), rfl, rfl, rfl⟩
theorem fw_Model_361 : fok "ClearingWavesModel" "ClearingWavesModel" 361 11 29 35 (.long) false := ⟨T11, ty11, cok_11, Nat.le_of_ble_eq_true rfl, mt5 (List.mem_of_getElem? (i := 68) (by decide +kernel)) (by decide +kernel), rfl, rfl, rfl⟩
theorem fw_Model_377 : fok "ClearingWavesModel" "ClearingWavesModel" 377 11 32 35 (.int) false := ⟨T11, ty11, cok_11, Nat.le_of_ble_eq_true rfl, mt5 (List.mem_of_getElem? (i := 71) (by decide +kernel)) (by decide +kernel), rfl, rfl, rfl⟩
theorem fw_Model_418 : fok "ClearingWavesModel" "ClearingWavesModel" 418 11 2 35 (.boolean) false := ⟨T11, ty11, cok_11, Nat.le_of_ble_eq_true rfl, mt5 (List.mem_of_getElem? (i := 41) (by decide +kernel)) (by decide +kernel), rfl, rfl, rfl⟩
