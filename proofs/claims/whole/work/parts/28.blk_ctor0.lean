theorem c_bk_init (K : Nat) (M : PM) (Q : Option PV → PM → Prop)
    (h : Call K jBook_begin [.inr (.inr 1), .inl 2] (phx 5 75) (phx 5 75) (mclr (mclr (mclr M 2) 3) 4) (retV fun M2 => Q none M2)) : Call (K + 1) jBook_init [.inr (.inr 1)] (phx 2 78) (phx 5 75) M Q := by
  refine Call.intro (by decide +kernel) (mfx.le mf1 (Nat.le_of_ble_eq_true rfl)) (by decide +kernel) rfl ?_
  refine G_aload_n 0 rfl rfl (ck dc1 (i := 0) rfl) ?_
  refine H_obj mf1 (ck dc1 (i := 1) rfl) lo_Book_3 (by decide) (Nat.le_of_ble_eq_true rfl) ?_
  refine G_aload_n 0 rfl rfl (ck dc1 (i := 2) rfl) ?_
  refine G_iconst (ck dc1 (i := 3) rfl) ?_
  refine H_newI (n := 5) (ck dc1 (i := 4) rfl) ka_int ly2 (by decide) (by decide +kernel) (by decide +kernel) (by decide +kernel) (ph2 := phx 3 78) rfl ?_
  refine H_putR mf1 (ck dc1 (i := 5) rfl) fw_Book_9 fc0_3 (Or.inr ⟨_, rfl⟩) ly1 ⟨Nat.le_of_ble_eq_true rfl, Nat.le_of_ble_eq_true rfl⟩ (by decide) (Or.inr ⟨rfl, rfl⟩) (ph2 := phx 3 77) (by decide +kernel) ?_
  refine G_aload_n 0 rfl rfl (ck dc1 (i := 6) rfl) ?_
  refine G_bipush (n := 75) rfl (ck dc1 (i := 7) rfl) ?_
  refine H_newI (n := 75) (ck dc1 (i := 8) rfl) ka_int ly3 (by decide) (by decide +kernel) (by decide +kernel) (by decide +kernel) (ph2 := phx 4 77) rfl ?_
  refine H_putR mf1 (ck dc1 (i := 9) rfl) fw_Book_15 fc0_4 (Or.inr ⟨_, rfl⟩) ly1 ⟨Nat.le_of_ble_eq_true rfl, Nat.le_of_ble_eq_true rfl⟩ (by decide) (Or.inr ⟨rfl, rfl⟩) (ph2 := phx 4 76) (by decide +kernel) ?_
  refine G_aload_n 0 rfl rfl (ck dc1 (i := 10) rfl) ?_
  refine G_bipush (n := 45) rfl (ck dc1 (i := 11) rfl) ?_
  refine H_newL (n := 45) (ck dc1 (i := 12) rfl) ka_long ly4 (by decide) (by decide +kernel) (by decide +kernel) (by decide +kernel) (ph2 := phx 5 76) rfl ?_
  refine H_putR mf1 (ck dc1 (i := 13) rfl) fw_Book_18 fc0_5 (Or.inr ⟨_, rfl⟩) ly1 ⟨Nat.le_of_ble_eq_true rfl, Nat.le_of_ble_eq_true rfl⟩ (by decide) (Or.inr ⟨rfl, rfl⟩) (ph2 := phx 5 75) (by decide +kernel) ?_
  refine G_aload_n 0 rfl rfl (ck dc1 (i := 14) rfl) ?_
  refine G_iconst (ck dc1 (i := 15) rfl) ?_
  refine H_vV mf1 (As := [.inl 2]) (st := []) (ck dc1 (i := 16) rfl) lk_Book_22 rfl rfl (Nat.le_of_ble_eq_true rfl) ly1 ⟨Nat.le_of_ble_eq_true rfl, Nat.le_of_ble_eq_true rfl⟩ (by decide +kernel) h (fun M2 h => ?_)
  exact H_vret mf1 (ck dc1 (i := 17) rfl) rfl h
theorem c_kp_init (K : Nat) (M : PM) (Q : Option PV → PM → Prop)
    (h : Call K jBook_begin [.inr (.inr 5), .inl 2] (phx 9 71) (phx 9 71) (mclr (mclr (mclr M 6) 7) 8) (retV fun M2 => Q none M2)) : Call (K + 1) jBook_init [.inr (.inr 5)] (phx 6 74) (phx 9 71) M Q := by
  refine Call.intro (by decide +kernel) (mfx.le mf1 (Nat.le_of_ble_eq_true rfl)) (by decide +kernel) rfl ?_
  refine G_aload_n 0 rfl rfl (ck dc1 (i := 0) rfl) ?_
  refine H_obj mf1 (ck dc1 (i := 1) rfl) lo_Book_3 (by decide) (Nat.le_of_ble_eq_true rfl) ?_
  refine G_aload_n 0 rfl rfl (ck dc1 (i := 2) rfl) ?_
  refine G_iconst (ck dc1 (i := 3) rfl) ?_
  refine H_newI (n := 5) (ck dc1 (i := 4) rfl) ka_int ly6 (by decide) (by decide +kernel) (by decide +kernel) (by decide +kernel) (ph2 := phx 7 74) rfl ?_
  refine H_putR mf1 (ck dc1 (i := 5) rfl) fw_Book_9 fc0_3 (Or.inr ⟨_, rfl⟩) ly5 ⟨Nat.le_of_ble_eq_true rfl, Nat.le_of_ble_eq_true rfl⟩ (by decide) (Or.inr ⟨rfl, rfl⟩) (ph2 := phx 7 73) (by decide +kernel) ?_
  refine G_aload_n 0 rfl rfl (ck dc1 (i := 6) rfl) ?_
  refine G_bipush (n := 75) rfl (ck dc1 (i := 7) rfl) ?_
  refine H_newI (n := 75) (ck dc1 (i := 8) rfl) ka_int ly7 (by decide) (by decide +kernel) (by decide +kernel) (by decide +kernel) (ph2 := phx 8 73) rfl ?_
  refine H_putR mf1 (ck dc1 (i := 9) rfl) fw_Book_15 fc0_4 (Or.inr ⟨_, rfl⟩) ly5 ⟨Nat.le_of_ble_eq_true rfl, Nat.le_of_ble_eq_true rfl⟩ (by decide) (Or.inr ⟨rfl, rfl⟩) (ph2 := phx 8 72) (by decide +kernel) ?_
  refine G_aload_n 0 rfl rfl (ck dc1 (i := 10) rfl) ?_
  refine G_bipush (n := 45) rfl (ck dc1 (i := 11) rfl) ?_
  refine H_newL (n := 45) (ck dc1 (i := 12) rfl) ka_long ly8 (by decide) (by decide +kernel) (by decide +kernel) (by decide +kernel) (ph2 := phx 9 72) rfl ?_
  refine H_putR mf1 (ck dc1 (i := 13) rfl) fw_Book_18 fc0_5 (Or.inr ⟨_, rfl⟩) ly5 ⟨Nat.le_of_ble_eq_true rfl, Nat.le_of_ble_eq_true rfl⟩ (by decide) (Or.inr ⟨rfl, rfl⟩) (ph2 := phx 9 71) (by decide +kernel) ?_
  refine G_aload_n 0 rfl rfl (ck dc1 (i := 14) rfl) ?_
  refine G_iconst (ck dc1 (i := 15) rfl) ?_
  refine H_vV mf1 (As := [.inl 2]) (st := []) (ck dc1 (i := 16) rfl) lk_Book_22 rfl rfl (Nat.le_of_ble_eq_true rfl) ly5 ⟨Nat.le_of_ble_eq_true rfl, Nat.le_of_ble_eq_true rfl⟩ (by decide +kernel) h (fun M2 h => ?_)
  exact H_vret mf1 (ck dc1 (i := 17) rfl) rfl h
theorem c_ep_init (K : Nat) (M : PM) (Q : Option PV → PM → Prop)
    (h : Q none (mclr (mclr M 22) 23)) : Call (K + 1) jEquations_init [.inr (.inr 21)] (phx 22 59) (phx 24 57) M Q := by
  refine Call.intro (by decide +kernel) (mfx.le mf4 (Nat.le_of_ble_eq_true rfl)) (by decide +kernel) rfl ?_
  refine G_aload_n 0 rfl rfl (ck dc4 (i := 0) rfl) ?_
  refine H_obj mf4 (ck dc4 (i := 1) rfl) lo_Equations_3 (by decide) (Nat.le_of_ble_eq_true rfl) ?_
  refine G_aload_n 0 rfl rfl (ck dc4 (i := 2) rfl) ?_
  refine G_bipush (n := 30) rfl (ck dc4 (i := 3) rfl) ?_
  refine H_newL (n := 30) (ck dc4 (i := 4) rfl) ka_long ly22 (by decide) (by decide +kernel) (by decide +kernel) (by decide +kernel) (ph2 := phx 23 59) rfl ?_
  refine H_putR mf4 (ck dc4 (i := 5) rfl) fw_Equations_11 fc3_0 (Or.inr ⟨_, rfl⟩) ly21 ⟨Nat.le_of_ble_eq_true rfl, Nat.le_of_ble_eq_true rfl⟩ (by decide) (Or.inr ⟨rfl, rfl⟩) (ph2 := phx 23 58) (by decide +kernel) ?_
  refine G_aload_n 0 rfl rfl (ck dc4 (i := 6) rfl) ?_
  refine G_bipush (n := 64) rfl (ck dc4 (i := 7) rfl) ?_
  refine H_newL (n := 64) (ck dc4 (i := 8) rfl) ka_long ly23 (by decide) (by decide +kernel) (by decide +kernel) (by decide +kernel) (ph2 := phx 24 58) rfl ?_
  refine H_putR mf4 (ck dc4 (i := 9) rfl) fw_Equations_15 fc3_1 (Or.inr ⟨_, rfl⟩) ly21 ⟨Nat.le_of_ble_eq_true rfl, Nat.le_of_ble_eq_true rfl⟩ (by decide) (Or.inr ⟨rfl, rfl⟩) (ph2 := phx 24 57) (by decide +kernel) ?_
  exact H_vret mf4 (ck dc4 (i := 10) rfl) rfl h
set_option maxHeartbeats 20000000 in
theorem c_cp_init (K : Nat) (M : PM) (Q : Option PV → PM → Prop)
    (h : Call K jEquations_init [.inr (.inr 21)] (phx 22 59) (phx 24 57) (mclr (mclr (mclr (mclr (mclr (mclr (mclr (mclr (mclr (mclr M 12) 13) 14) 15) 16) 17) 18) 19) 20) 21) (retV fun M2 => Call K jClearing_begin [.inr (.inr 11)] (phx 24 54) (phx 24 54) M2 (retV fun M4 => Q none M4))) : Call (K + 1) jClearing_init [.inr (.inr 11), .inr (.inr 1), .inr (.inr 2)] (phx 12 68) (phx 24 54) M Q := by
  refine Call.intro (by decide +kernel) (mfx.le mf3 (Nat.le_of_ble_eq_true rfl)) (by decide +kernel) rfl ?_
  refine G_aload_n 0 rfl rfl (ck dc3 (i := 0) rfl) ?_
  refine H_obj mf3 (ck dc3 (i := 1) rfl) lo_Clearing_3 (by decide) (Nat.le_of_ble_eq_true rfl) ?_
  refine G_aload_n 0 rfl rfl (ck dc3 (i := 2) rfl) ?_
  refine G_iconst (ck dc3 (i := 3) rfl) ?_
  refine H_newI (n := 5) (ck dc3 (i := 4) rfl) ka_int ly12 (by decide) (by decide +kernel) (by decide +kernel) (by decide +kernel) (ph2 := phx 13 68) rfl ?_
  refine H_putR mf3 (ck dc3 (i := 5) rfl) fw_Clearing_9 fc1_2 (Or.inr ⟨_, rfl⟩) ly11 ⟨Nat.le_of_ble_eq_true rfl, Nat.le_of_ble_eq_true rfl⟩ (by decide) (Or.inr ⟨rfl, rfl⟩) (ph2 := phx 13 67) (by decide +kernel) ?_
  refine G_aload_n 0 rfl rfl (ck dc3 (i := 6) rfl) ?_
  refine G_bipush (n := 90) rfl (ck dc3 (i := 7) rfl) ?_
  refine H_newL (n := 90) (ck dc3 (i := 8) rfl) ka_long ly13 (by decide) (by decide +kernel) (by decide +kernel) (by decide +kernel) (ph2 := phx 14 67) rfl ?_
  refine H_putR mf3 (ck dc3 (i := 9) rfl) fw_Clearing_15 fc1_5 (Or.inr ⟨_, rfl⟩) ly11 ⟨Nat.le_of_ble_eq_true rfl, Nat.le_of_ble_eq_true rfl⟩ (by decide) (Or.inr ⟨rfl, rfl⟩) (ph2 := phx 14 66) (by decide +kernel) ?_
  refine G_aload_n 0 rfl rfl (ck dc3 (i := 10) rfl) ?_
  refine G_bipush (n := 6) rfl (ck dc3 (i := 11) rfl) ?_
  refine H_newL (n := 6) (ck dc3 (i := 12) rfl) ka_long ly14 (by decide) (by decide +kernel) (by decide +kernel) (by decide +kernel) (ph2 := phx 15 66) rfl ?_
  refine H_putR mf3 (ck dc3 (i := 13) rfl) fw_Clearing_19 fc1_6 (Or.inr ⟨_, rfl⟩) ly11 ⟨Nat.le_of_ble_eq_true rfl, Nat.le_of_ble_eq_true rfl⟩ (by decide) (Or.inr ⟨rfl, rfl⟩) (ph2 := phx 15 65) (by decide +kernel) ?_
  refine G_aload_n 0 rfl rfl (ck dc3 (i := 14) rfl) ?_
  refine G_bipush (n := 15) rfl (ck dc3 (i := 15) rfl) ?_
  refine H_newI (n := 15) (ck dc3 (i := 16) rfl) ka_int ly15 (by decide) (by decide +kernel) (by decide +kernel) (by decide +kernel) (ph2 := phx 16 65) rfl ?_
  refine H_putR mf3 (ck dc3 (i := 17) rfl) fw_Clearing_22 fc1_7 (Or.inr ⟨_, rfl⟩) ly11 ⟨Nat.le_of_ble_eq_true rfl, Nat.le_of_ble_eq_true rfl⟩ (by decide) (Or.inr ⟨rfl, rfl⟩) (ph2 := phx 16 64) (by decide +kernel) ?_
  refine G_aload_n 0 rfl rfl (ck dc3 (i := 18) rfl) ?_
  refine G_iconst (ck dc3 (i := 19) rfl) ?_
  refine H_newI (n := 5) (ck dc3 (i := 20) rfl) ka_int ly16 (by decide) (by decide +kernel) (by decide +kernel) (by decide +kernel) (ph2 := phx 17 64) rfl ?_
  refine H_putR mf3 (ck dc3 (i := 21) rfl) fw_Clearing_25 fc1_8 (Or.inr ⟨_, rfl⟩) ly11 ⟨Nat.le_of_ble_eq_true rfl, Nat.le_of_ble_eq_true rfl⟩ (by decide) (Or.inr ⟨rfl, rfl⟩) (ph2 := phx 17 63) (by decide +kernel) ?_
  refine G_aload_n 0 rfl rfl (ck dc3 (i := 22) rfl) ?_
  refine G_iconst (ck dc3 (i := 23) rfl) ?_
  refine H_newI (n := 5) (ck dc3 (i := 24) rfl) ka_int ly17 (by decide) (by decide +kernel) (by decide +kernel) (by decide +kernel) (ph2 := phx 18 63) rfl ?_
  refine H_putR mf3 (ck dc3 (i := 25) rfl) fw_Clearing_28 fc1_9 (Or.inr ⟨_, rfl⟩) ly11 ⟨Nat.le_of_ble_eq_true rfl, Nat.le_of_ble_eq_true rfl⟩ (by decide) (Or.inr ⟨rfl, rfl⟩) (ph2 := phx 18 62) (by decide +kernel) ?_
  refine G_aload_n 0 rfl rfl (ck dc3 (i := 26) rfl) ?_
  refine G_iconst (ck dc3 (i := 27) rfl) ?_
  refine H_newZ (n := 5) (ck dc3 (i := 28) rfl) ka_boolean ly18 (by decide) (by decide +kernel) (by decide +kernel) (by decide +kernel) (ph2 := phx 19 62) rfl ?_
  refine H_putR mf3 (ck dc3 (i := 29) rfl) fw_Clearing_31 fc1_10 (Or.inr ⟨_, rfl⟩) ly11 ⟨Nat.le_of_ble_eq_true rfl, Nat.le_of_ble_eq_true rfl⟩ (by decide) (Or.inr ⟨rfl, rfl⟩) (ph2 := phx 19 61) (by decide +kernel) ?_
  refine G_aload_n 0 rfl rfl (ck dc3 (i := 30) rfl) ?_
  refine G_iconst (ck dc3 (i := 31) rfl) ?_
  refine H_newL (n := 5) (ck dc3 (i := 32) rfl) ka_long ly19 (by decide) (by decide +kernel) (by decide +kernel) (by decide +kernel) (ph2 := phx 20 61) rfl ?_
  refine H_putR mf3 (ck dc3 (i := 33) rfl) fw_Clearing_35 fc1_11 (Or.inr ⟨_, rfl⟩) ly11 ⟨Nat.le_of_ble_eq_true rfl, Nat.le_of_ble_eq_true rfl⟩ (by decide) (Or.inr ⟨rfl, rfl⟩) (ph2 := phx 20 60) (by decide +kernel) ?_
  refine G_aload_n 0 rfl rfl (ck dc3 (i := 34) rfl) ?_
  refine G_iconst (ck dc3 (i := 35) rfl) ?_
  refine H_newI (n := 5) (ck dc3 (i := 36) rfl) ka_int ly20 (by decide) (by decide +kernel) (by decide +kernel) (by decide +kernel) (ph2 := phx 21 60) rfl ?_
  refine H_putR mf3 (ck dc3 (i := 37) rfl) fw_Clearing_38 fc1_12 (Or.inr ⟨_, rfl⟩) ly11 ⟨Nat.le_of_ble_eq_true rfl, Nat.le_of_ble_eq_true rfl⟩ (by decide) (Or.inr ⟨rfl, rfl⟩) (ph2 := phx 21 59) (by decide +kernel) ?_
  refine G_aload_n 0 rfl rfl (ck dc3 (i := 38) rfl) ?_
  refine H_new mf3 (ck dc3 (i := 39) rfl) cok_3 ly21 kn_Clearing_41.1 kn_Clearing_41.2.1 kn_Clearing_41.2.2 (by decide +kernel) (by decide +kernel) (by decide +kernel) (by decide +kernel) (by decide +kernel) (ph2 := phx 22 59) rfl ?_
  refine G_dup rfl (ck dc3 (i := 40) rfl) ?_
  refine H_i mf3 (As := []) (st := [.inr (.inr 21), .inr (.inr 11)]) (ck dc3 (i := 41) rfl) lk_Clearing_43 rfl rfl (Nat.le_of_ble_eq_true rfl) (by decide) (by decide +kernel) h (fun M2 h => ?_)
  refine H_putR mf3 (ck dc3 (i := 42) rfl) fw_Clearing_44 fc1_13 (Or.inl ⟨_, rfl⟩) ly11 ⟨Nat.le_of_ble_eq_true rfl, Nat.le_of_ble_eq_true rfl⟩ (by decide) (Or.inr ⟨rfl, rfl⟩) (ph2 := phx 24 56) (by decide +kernel) ?_
  refine G_aload_n 0 rfl rfl (ck dc3 (i := 43) rfl) ?_
  refine G_aload_n 1 rfl rfl (ck dc3 (i := 44) rfl) ?_
  refine H_putR mf3 (ck dc3 (i := 45) rfl) fw_Clearing_48 fc1_3 (Or.inl ⟨_, rfl⟩) ly11 ⟨Nat.le_of_ble_eq_true rfl, Nat.le_of_ble_eq_true rfl⟩ (by decide) (Or.inr ⟨rfl, rfl⟩) (ph2 := phx 24 55) (by decide +kernel) ?_
  refine G_aload_n 0 rfl rfl (ck dc3 (i := 46) rfl) ?_
  refine G_aload_n 2 rfl rfl (ck dc3 (i := 47) rfl) ?_
  refine H_putR mf3 (ck dc3 (i := 48) rfl) fw_Clearing_52 fc1_4 (Or.inr ⟨_, rfl⟩) ly11 ⟨Nat.le_of_ble_eq_true rfl, Nat.le_of_ble_eq_true rfl⟩ (by decide) (Or.inr ⟨rfl, rfl⟩) (ph2 := phx 24 54) (by decide +kernel) ?_
  refine G_aload_n 0 rfl rfl (ck dc3 (i := 49) rfl) ?_
  refine H_vV mf3 (As := []) (st := []) (ck dc3 (i := 50) rfl) lk_Clearing_55 rfl rfl (Nat.le_of_ble_eq_true rfl) ly11 ⟨Nat.le_of_ble_eq_true rfl, Nat.le_of_ble_eq_true rfl⟩ (by decide +kernel) h (fun M4 h => ?_)
  exact H_vret mf3 (ck dc3 (i := 51) rfl) rfl h
theorem c_et_init (K : Nat) (M : PM) (Q : Option PV → PM → Prop)
    (h : Q none (mclr (mclr M 35) 36)) : Call (K + 1) jEquations_init [.inr (.inr 34)] (phx 35 44) (phx 37 42) M Q := by
  refine Call.intro (by decide +kernel) (mfx.le mf4 (Nat.le_of_ble_eq_true rfl)) (by decide +kernel) rfl ?_
  refine G_aload_n 0 rfl rfl (ck dc4 (i := 0) rfl) ?_
  refine H_obj mf4 (ck dc4 (i := 1) rfl) lo_Equations_3 (by decide) (Nat.le_of_ble_eq_true rfl) ?_
  refine G_aload_n 0 rfl rfl (ck dc4 (i := 2) rfl) ?_
  refine G_bipush (n := 30) rfl (ck dc4 (i := 3) rfl) ?_
  refine H_newL (n := 30) (ck dc4 (i := 4) rfl) ka_long ly35 (by decide) (by decide +kernel) (by decide +kernel) (by decide +kernel) (ph2 := phx 36 44) rfl ?_
  refine H_putR mf4 (ck dc4 (i := 5) rfl) fw_Equations_11 fc3_0 (Or.inr ⟨_, rfl⟩) ly34 ⟨Nat.le_of_ble_eq_true rfl, Nat.le_of_ble_eq_true rfl⟩ (by decide) (Or.inr ⟨rfl, rfl⟩) (ph2 := phx 36 43) (by decide +kernel) ?_
  refine G_aload_n 0 rfl rfl (ck dc4 (i := 6) rfl) ?_
  refine G_bipush (n := 64) rfl (ck dc4 (i := 7) rfl) ?_
  refine H_newL (n := 64) (ck dc4 (i := 8) rfl) ka_long ly36 (by decide) (by decide +kernel) (by decide +kernel) (by decide +kernel) (ph2 := phx 37 43) rfl ?_
  refine H_putR mf4 (ck dc4 (i := 9) rfl) fw_Equations_15 fc3_1 (Or.inr ⟨_, rfl⟩) ly34 ⟨Nat.le_of_ble_eq_true rfl, Nat.le_of_ble_eq_true rfl⟩ (by decide) (Or.inr ⟨rfl, rfl⟩) (ph2 := phx 37 42) (by decide +kernel) ?_
  exact H_vret mf4 (ck dc4 (i := 10) rfl) rfl h
set_option maxHeartbeats 20000000 in
theorem c_ct_init (K : Nat) (M : PM) (Q : Option PV → PM → Prop)
    (h : Call K jEquations_init [.inr (.inr 34)] (phx 35 44) (phx 37 42) (mclr (mclr (mclr (mclr (mclr (mclr (mclr (mclr (mclr (mclr M 25) 26) 27) 28) 29) 30) 31) 32) 33) 34) (retV fun M2 => Call K jClearing_begin [.inr (.inr 24)] (phx 37 39) (phx 37 39) M2 (retV fun M4 => Q none M4))) : Call (K + 1) jClearing_init [.inr (.inr 24), .inr (.inr 1), .inr (.inr 9)] (phx 25 53) (phx 37 39) M Q := by
  refine Call.intro (by decide +kernel) (mfx.le mf3 (Nat.le_of_ble_eq_true rfl)) (by decide +kernel) rfl ?_
  refine G_aload_n 0 rfl rfl (ck dc3 (i := 0) rfl) ?_
  refine H_obj mf3 (ck dc3 (i := 1) rfl) lo_Clearing_3 (by decide) (Nat.le_of_ble_eq_true rfl) ?_
  refine G_aload_n 0 rfl rfl (ck dc3 (i := 2) rfl) ?_
  refine G_iconst (ck dc3 (i := 3) rfl) ?_
  refine H_newI (n := 5) (ck dc3 (i := 4) rfl) ka_int ly25 (by decide) (by decide +kernel) (by decide +kernel) (by decide +kernel) (ph2 := phx 26 53) rfl ?_
  refine H_putR mf3 (ck dc3 (i := 5) rfl) fw_Clearing_9 fc1_2 (Or.inr ⟨_, rfl⟩) ly24 ⟨Nat.le_of_ble_eq_true rfl, Nat.le_of_ble_eq_true rfl⟩ (by decide) (Or.inr ⟨rfl, rfl⟩) (ph2 := phx 26 52) (by decide +kernel) ?_
  refine G_aload_n 0 rfl rfl (ck dc3 (i := 6) rfl) ?_
  refine G_bipush (n := 90) rfl (ck dc3 (i := 7) rfl) ?_
  refine H_newL (n := 90) (ck dc3 (i := 8) rfl) ka_long ly26 (by decide) (by decide +kernel) (by decide +kernel) (by decide +kernel) (ph2 := phx 27 52) rfl ?_
  refine H_putR mf3 (ck dc3 (i := 9) rfl) fw_Clearing_15 fc1_5 (Or.inr ⟨_, rfl⟩) ly24 ⟨Nat.le_of_ble_eq_true rfl, Nat.le_of_ble_eq_true rfl⟩ (by decide) (Or.inr ⟨rfl, rfl⟩) (ph2 := phx 27 51) (by decide +kernel) ?_
  refine G_aload_n 0 rfl rfl (ck dc3 (i := 10) rfl) ?_
  refine G_bipush (n := 6) rfl (ck dc3 (i := 11) rfl) ?_
  refine H_newL (n := 6) (ck dc3 (i := 12) rfl) ka_long ly27 (by decide) (by decide +kernel) (by decide +kernel) (by decide +kernel) (ph2 := phx 28 51) rfl ?_
  refine H_putR mf3 (ck dc3 (i := 13) rfl) fw_Clearing_19 fc1_6 (Or.inr ⟨_, rfl⟩) ly24 ⟨Nat.le_of_ble_eq_true rfl, Nat.le_of_ble_eq_true rfl⟩ (by decide) (Or.inr ⟨rfl, rfl⟩) (ph2 := phx 28 50) (by decide +kernel) ?_
  refine G_aload_n 0 rfl rfl (ck dc3 (i := 14) rfl) ?_
  refine G_bipush (n := 15) rfl (ck dc3 (i := 15) rfl) ?_
  refine H_newI (n := 15) (ck dc3 (i := 16) rfl) ka_int ly28 (by decide) (by decide +kernel) (by decide +kernel) (by decide +kernel) (ph2 := phx 29 50) rfl ?_
  refine H_putR mf3 (ck dc3 (i := 17) rfl) fw_Clearing_22 fc1_7 (Or.inr ⟨_, rfl⟩) ly24 ⟨Nat.le_of_ble_eq_true rfl, Nat.le_of_ble_eq_true rfl⟩ (by decide) (Or.inr ⟨rfl, rfl⟩) (ph2 := phx 29 49) (by decide +kernel) ?_
  refine G_aload_n 0 rfl rfl (ck dc3 (i := 18) rfl) ?_
  refine G_iconst (ck dc3 (i := 19) rfl) ?_
  refine H_newI (n := 5) (ck dc3 (i := 20) rfl) ka_int ly29 (by decide) (by decide +kernel) (by decide +kernel) (by decide +kernel) (ph2 := phx 30 49) rfl ?_
  refine H_putR mf3 (ck dc3 (i := 21) rfl) fw_Clearing_25 fc1_8 (Or.inr ⟨_, rfl⟩) ly24 ⟨Nat.le_of_ble_eq_true rfl, Nat.le_of_ble_eq_true rfl⟩ (by decide) (Or.inr ⟨rfl, rfl⟩) (ph2 := phx 30 48) (by decide +kernel) ?_
  refine G_aload_n 0 rfl rfl (ck dc3 (i := 22) rfl) ?_
  refine G_iconst (ck dc3 (i := 23) rfl) ?_
  refine H_newI (n := 5) (ck dc3 (i := 24) rfl) ka_int ly30 (by decide) (by decide +kernel) (by decide +kernel) (by decide +kernel) (ph2 := phx 31 48) rfl ?_
  refine H_putR mf3 (ck dc3 (i := 25) rfl) fw_Clearing_28 fc1_9 (Or.inr ⟨_, rfl⟩) ly24 ⟨Nat.le_of_ble_eq_true rfl, Nat.le_of_ble_eq_true rfl⟩ (by decide) (Or.inr ⟨rfl, rfl⟩) (ph2 := phx 31 47) (by decide +kernel) ?_
  refine G_aload_n 0 rfl rfl (ck dc3 (i := 26) rfl) ?_
  refine G_iconst (ck dc3 (i := 27) rfl) ?_
  refine H_newZ (n := 5) (ck dc3 (i := 28) rfl) ka_boolean ly31 (by decide) (by decide +kernel) (by decide +kernel) (by decide +kernel) (ph2 := phx 32 47) rfl ?_
  refine H_putR mf3 (ck dc3 (i := 29) rfl) fw_Clearing_31 fc1_10 (Or.inr ⟨_, rfl⟩) ly24 ⟨Nat.le_of_ble_eq_true rfl, Nat.le_of_ble_eq_true rfl⟩ (by decide) (Or.inr ⟨rfl, rfl⟩) (ph2 := phx 32 46) (by decide +kernel) ?_
  refine G_aload_n 0 rfl rfl (ck dc3 (i := 30) rfl) ?_
  refine G_iconst (ck dc3 (i := 31) rfl) ?_
  refine H_newL (n := 5) (ck dc3 (i := 32) rfl) ka_long ly32 (by decide) (by decide +kernel) (by decide +kernel) (by decide +kernel) (ph2 := phx 33 46) rfl ?_
  refine H_putR mf3 (ck dc3 (i := 33) rfl) fw_Clearing_35 fc1_11 (Or.inr ⟨_, rfl⟩) ly24 ⟨Nat.le_of_ble_eq_true rfl, Nat.le_of_ble_eq_true rfl⟩ (by decide) (Or.inr ⟨rfl, rfl⟩) (ph2 := phx 33 45) (by decide +kernel) ?_
  refine G_aload_n 0 rfl rfl (ck dc3 (i := 34) rfl) ?_
  refine G_iconst (ck dc3 (i := 35) rfl) ?_
  refine H_newI (n := 5) (ck dc3 (i := 36) rfl) ka_int ly33 (by decide) (by decide +kernel) (by decide +kernel) (by decide +kernel) (ph2 := phx 34 45) rfl ?_
  refine H_putR mf3 (ck dc3 (i := 37) rfl) fw_Clearing_38 fc1_12 (Or.inr ⟨_, rfl⟩) ly24 ⟨Nat.le_of_ble_eq_true rfl, Nat.le_of_ble_eq_true rfl⟩ (by decide) (Or.inr ⟨rfl, rfl⟩) (ph2 := phx 34 44) (by decide +kernel) ?_
  refine G_aload_n 0 rfl rfl (ck dc3 (i := 38) rfl) ?_
  refine H_new mf3 (ck dc3 (i := 39) rfl) cok_3 ly34 kn_Clearing_41.1 kn_Clearing_41.2.1 kn_Clearing_41.2.2 (by decide +kernel) (by decide +kernel) (by decide +kernel) (by decide +kernel) (by decide +kernel) (ph2 := phx 35 44) rfl ?_
  refine G_dup rfl (ck dc3 (i := 40) rfl) ?_
  refine H_i mf3 (As := []) (st := [.inr (.inr 34), .inr (.inr 24)]) (ck dc3 (i := 41) rfl) lk_Clearing_43 rfl rfl (Nat.le_of_ble_eq_true rfl) (by decide) (by decide +kernel) h (fun M2 h => ?_)
  refine H_putR mf3 (ck dc3 (i := 42) rfl) fw_Clearing_44 fc1_13 (Or.inl ⟨_, rfl⟩) ly24 ⟨Nat.le_of_ble_eq_true rfl, Nat.le_of_ble_eq_true rfl⟩ (by decide) (Or.inr ⟨rfl, rfl⟩) (ph2 := phx 37 41) (by decide +kernel) ?_
  refine G_aload_n 0 rfl rfl (ck dc3 (i := 43) rfl) ?_
  refine G_aload_n 1 rfl rfl (ck dc3 (i := 44) rfl) ?_
  refine H_putR mf3 (ck dc3 (i := 45) rfl) fw_Clearing_48 fc1_3 (Or.inl ⟨_, rfl⟩) ly24 ⟨Nat.le_of_ble_eq_true rfl, Nat.le_of_ble_eq_true rfl⟩ (by decide) (Or.inr ⟨rfl, rfl⟩) (ph2 := phx 37 40) (by decide +kernel) ?_
  refine G_aload_n 0 rfl rfl (ck dc3 (i := 46) rfl) ?_
  refine G_aload_n 2 rfl rfl (ck dc3 (i := 47) rfl) ?_
  refine H_putR mf3 (ck dc3 (i := 48) rfl) fw_Clearing_52 fc1_4 (Or.inr ⟨_, rfl⟩) ly24 ⟨Nat.le_of_ble_eq_true rfl, Nat.le_of_ble_eq_true rfl⟩ (by decide) (Or.inr ⟨rfl, rfl⟩) (ph2 := phx 37 39) (by decide +kernel) ?_
  refine G_aload_n 0 rfl rfl (ck dc3 (i := 49) rfl) ?_
  refine H_vV mf3 (As := []) (st := []) (ck dc3 (i := 50) rfl) lk_Clearing_55 rfl rfl (Nat.le_of_ble_eq_true rfl) ly24 ⟨Nat.le_of_ble_eq_true rfl, Nat.le_of_ble_eq_true rfl⟩ (by decide +kernel) h (fun M4 h => ?_)
  exact H_vret mf3 (ck dc3 (i := 51) rfl) rfl h
theorem c_co_init (K : Nat) (M : PM) (Q : Option PV → PM → Prop)
    (h : Q none (mclr (mclr M 38) 39)) : Call (K + 1) jCoins_init [.inr (.inr 37), .inr (.inr 1)] (phx 38 38) (phx 40 35) M Q := by
  refine Call.intro (by decide +kernel) (mfx.le mf9 (Nat.le_of_ble_eq_true rfl)) (by decide +kernel) rfl ?_
  refine G_aload_n 0 rfl rfl (ck dc9 (i := 0) rfl) ?_
  refine H_obj mf9 (ck dc9 (i := 1) rfl) lo_Coins_3 (by decide) (Nat.le_of_ble_eq_true rfl) ?_
  refine G_aload_n 0 rfl rfl (ck dc9 (i := 2) rfl) ?_
  refine G_iconst (ck dc9 (i := 3) rfl) ?_
  refine H_newI (n := 5) (ck dc9 (i := 4) rfl) ka_int ly38 (by decide) (by decide +kernel) (by decide +kernel) (by decide +kernel) (ph2 := phx 39 38) rfl ?_
  refine H_putR mf9 (ck dc9 (i := 5) rfl) fw_Coins_9 fc2_2 (Or.inr ⟨_, rfl⟩) ly37 ⟨Nat.le_of_ble_eq_true rfl, Nat.le_of_ble_eq_true rfl⟩ (by decide) (Or.inr ⟨rfl, rfl⟩) (ph2 := phx 39 37) (by decide +kernel) ?_
  refine G_aload_n 0 rfl rfl (ck dc9 (i := 6) rfl) ?_
  refine G_bipush (n := 75) rfl (ck dc9 (i := 7) rfl) ?_
  refine H_newI (n := 75) (ck dc9 (i := 8) rfl) ka_int ly39 (by decide) (by decide +kernel) (by decide +kernel) (by decide +kernel) (ph2 := phx 40 37) rfl ?_
  refine H_putR mf9 (ck dc9 (i := 9) rfl) fw_Coins_15 fc2_3 (Or.inr ⟨_, rfl⟩) ly37 ⟨Nat.le_of_ble_eq_true rfl, Nat.le_of_ble_eq_true rfl⟩ (by decide) (Or.inr ⟨rfl, rfl⟩) (ph2 := phx 40 36) (by decide +kernel) ?_
  refine G_aload_n 0 rfl rfl (ck dc9 (i := 10) rfl) ?_
  refine G_aload_n 1 rfl rfl (ck dc9 (i := 11) rfl) ?_
  refine H_putR mf9 (ck dc9 (i := 12) rfl) fw_Coins_18 fc2_1 (Or.inl ⟨_, rfl⟩) ly37 ⟨Nat.le_of_ble_eq_true rfl, Nat.le_of_ble_eq_true rfl⟩ (by decide) (Or.inr ⟨rfl, rfl⟩) (ph2 := phx 40 35) (by decide +kernel) ?_
  exact H_vret mf9 (ck dc9 (i := 13) rfl) rfl h
theorem c_ri_init (K : Nat) (M : PM) (Q : Option PV → PM → Prop)
    (h : Q none (mclr M 41)) : Call (K + 1) jRings_init [.inr (.inr 40), .inr (.inr 1)] (phx 41 34) (phx 42 32) M Q := by
  refine Call.intro (by decide +kernel) (mfx.le mf10 (Nat.le_of_ble_eq_true rfl)) (by decide +kernel) rfl ?_
  refine G_aload_n 0 rfl rfl (ck dc10 (i := 0) rfl) ?_
  refine H_obj mf10 (ck dc10 (i := 1) rfl) lo_Rings_3 (by decide) (Nat.le_of_ble_eq_true rfl) ?_
  refine G_aload_n 0 rfl rfl (ck dc10 (i := 2) rfl) ?_
  refine G_iconst (ck dc10 (i := 3) rfl) ?_
  refine H_newI (n := 5) (ck dc10 (i := 4) rfl) ka_int ly41 (by decide) (by decide +kernel) (by decide +kernel) (by decide +kernel) (ph2 := phx 42 34) rfl ?_
  refine H_putR mf10 (ck dc10 (i := 5) rfl) fw_Rings_9 fc5_0 (Or.inr ⟨_, rfl⟩) ly40 ⟨Nat.le_of_ble_eq_true rfl, Nat.le_of_ble_eq_true rfl⟩ (by decide) (Or.inr ⟨rfl, rfl⟩) (ph2 := phx 42 33) (by decide +kernel) ?_
  refine G_aload_n 0 rfl rfl (ck dc10 (i := 6) rfl) ?_
  refine G_aload_n 1 rfl rfl (ck dc10 (i := 7) rfl) ?_
  refine H_putR mf10 (ck dc10 (i := 8) rfl) fw_Rings_15 fc5_1 (Or.inl ⟨_, rfl⟩) ly40 ⟨Nat.le_of_ble_eq_true rfl, Nat.le_of_ble_eq_true rfl⟩ (by decide) (Or.inr ⟨rfl, rfl⟩) (ph2 := phx 42 32) (by decide +kernel) ?_
  exact H_vret mf10 (ck dc10 (i := 9) rfl) rfl h
theorem c_wo_init (K : Nat) (M : PM) (Q : Option PV → PM → Prop)
    (h : Q none M) : Call (K + 1) jWorth_init [.inr (.inr 42)] (phx 43 31) (phx 43 31) M Q := by
  refine Call.intro (by decide +kernel) (mfx.le mf11 (Nat.le_of_ble_eq_true rfl)) (by decide +kernel) rfl ?_
  refine G_aload_n 0 rfl rfl (ck dc11 (i := 0) rfl) ?_
  refine H_obj mf11 (ck dc11 (i := 1) rfl) lo_Worth_3 (by decide) (Nat.le_of_ble_eq_true rfl) ?_
  exact H_vret mf11 (ck dc11 (i := 2) rfl) rfl h
theorem c_to_init (K : Nat) (M : PM) (Q : Option PV → PM → Prop)
    (h : Q none (mclr M 44)) : Call (K + 1) jTold_init [.inr (.inr 43)] (phx 44 30) (phx 45 29) M Q := by
  refine Call.intro (by decide +kernel) (mfx.le mf12 (Nat.le_of_ble_eq_true rfl)) (by decide +kernel) rfl ?_
  refine G_aload_n 0 rfl rfl (ck dc12 (i := 0) rfl) ?_
  refine H_obj mf12 (ck dc12 (i := 1) rfl) lo_Told_3 (by decide) (Nat.le_of_ble_eq_true rfl) ?_
  refine G_aload_n 0 rfl rfl (ck dc12 (i := 2) rfl) ?_
  refine G_bipush (n := 15) rfl (ck dc12 (i := 3) rfl) ?_
  refine H_newL (n := 15) (ck dc12 (i := 4) rfl) ka_long ly44 (by decide) (by decide +kernel) (by decide +kernel) (by decide +kernel) (ph2 := phx 45 30) rfl ?_
  refine H_putR mf12 (ck dc12 (i := 5) rfl) fw_Told_9 fc8_1 (Or.inr ⟨_, rfl⟩) ly43 ⟨Nat.le_of_ble_eq_true rfl, Nat.le_of_ble_eq_true rfl⟩ (by decide) (Or.inr ⟨rfl, rfl⟩) (ph2 := phx 45 29) (by decide +kernel) ?_
  exact H_vret mf12 (ck dc12 (i := 6) rfl) rfl h
theorem c_ta_init (K : Nat) (M : PM) (Q : Option PV → PM → Prop)
    (h : Q none (mclr M 46)) : Call (K + 1) jTape_init [.inr (.inr 45)] (phx 46 28) (phx 47 27) M Q := by
  refine Call.intro (by decide +kernel) (mfx.le mf13 (Nat.le_of_ble_eq_true rfl)) (by decide +kernel) rfl ?_
  refine G_aload_n 0 rfl rfl (ck dc13 (i := 0) rfl) ?_
  refine H_obj mf13 (ck dc13 (i := 1) rfl) lo_Tape_3 (by decide) (Nat.le_of_ble_eq_true rfl) ?_
  refine G_aload_n 0 rfl rfl (ck dc13 (i := 2) rfl) ?_
  refine G_bipush (n := 120) rfl (ck dc13 (i := 3) rfl) ?_
  refine H_newI (n := 120) (ck dc13 (i := 4) rfl) ka_int ly46 (by decide) (by decide +kernel) (by decide +kernel) (by decide +kernel) (ph2 := phx 47 28) rfl ?_
  refine H_putR mf13 (ck dc13 (i := 5) rfl) fw_Tape_11 fc7_1 (Or.inr ⟨_, rfl⟩) ly45 ⟨Nat.le_of_ble_eq_true rfl, Nat.le_of_ble_eq_true rfl⟩ (by decide) (Or.inr ⟨rfl, rfl⟩) (ph2 := phx 47 27) (by decide +kernel) ?_
  exact H_vret mf13 (ck dc13 (i := 6) rfl) rfl h
theorem c_pa_init (K : Nat) (M : PM) (Q : Option PV → PM → Prop)
    (h : Q none (mclr M 48)) : Call (K + 1) jPaper_init [.inr (.inr 47)] (phx 48 26) (phx 49 25) M Q := by
  refine Call.intro (by decide +kernel) (mfx.le mf14 (Nat.le_of_ble_eq_true rfl)) (by decide +kernel) rfl ?_
  refine G_aload_n 0 rfl rfl (ck dc14 (i := 0) rfl) ?_
  refine H_obj mf14 (ck dc14 (i := 1) rfl) lo_Paper_1 (by decide) (Nat.le_of_ble_eq_true rfl) ?_
  refine G_aload_n 0 rfl rfl (ck dc14 (i := 2) rfl) ?_
  refine G_sipush (n := 200) rfl (ck dc14 (i := 3) rfl) ?_
  refine H_newI (n := 200) (ck dc14 (i := 4) rfl) ka_int ly48 (by decide) (by decide +kernel) (by decide +kernel) (by decide +kernel) (ph2 := phx 49 26) rfl ?_
  refine H_putR mf14 (ck dc14 (i := 5) rfl) fw_Paper_9 fc4_1 (Or.inr ⟨_, rfl⟩) ly47 ⟨Nat.le_of_ble_eq_true rfl, Nat.le_of_ble_eq_true rfl⟩ (by decide) (Or.inr ⟨rfl, rfl⟩) (ph2 := phx 49 25) (by decide +kernel) ?_
  exact H_vret mf14 (ck dc14 (i := 6) rfl) rfl h
theorem c_ro_init (K : Nat) (M : PM) (Q : Option PV → PM → Prop)
    (h : Q none (mclr (mset (mset (mset (mset (mclr M 50) 50 0 (-1)) 50 1 (-1)) 50 2 (-1)) 50 3 (-1)) 51)) : Call (K + 1) jRows_init [.inr (.inr 49)] (phx 50 24) (phx 52 22) M Q := by
  refine Call.intro (by decide +kernel) (mfx.le mf15 (Nat.le_of_ble_eq_true rfl)) (by decide +kernel) rfl ?_
  refine G_aload_n 0 rfl rfl (ck dc15 (i := 0) rfl) ?_
  refine H_obj mf15 (ck dc15 (i := 1) rfl) lo_Rows_1 (by decide) (Nat.le_of_ble_eq_true rfl) ?_
  refine G_aload_n 0 rfl rfl (ck dc15 (i := 2) rfl) ?_
  refine G_iconst (ck dc15 (i := 3) rfl) ?_
  refine H_newI (n := 4) (ck dc15 (i := 4) rfl) ka_int ly50 (by decide) (by decide +kernel) (by decide +kernel) (by decide +kernel) (ph2 := phx 51 24) rfl ?_
  refine G_dup rfl (ck dc15 (i := 5) rfl) ?_
  refine G_iconst (ck dc15 (i := 6) rfl) ?_
  refine G_iconst (ck dc15 (i := 7) rfl) ?_
  refine G_iast (ck dc15 (i := 8) rfl) ⟨Nat.le_of_ble_eq_true rfl, Nat.le_of_ble_eq_true rfl⟩ ly50 (by decide) (by decide) ?_
  refine G_dup rfl (ck dc15 (i := 9) rfl) ?_
  refine G_iconst (ck dc15 (i := 10) rfl) ?_
  refine G_iconst (ck dc15 (i := 11) rfl) ?_
  refine G_iast (ck dc15 (i := 12) rfl) ⟨Nat.le_of_ble_eq_true rfl, Nat.le_of_ble_eq_true rfl⟩ ly50 (by decide) (by decide) ?_
  refine G_dup rfl (ck dc15 (i := 13) rfl) ?_
  refine G_iconst (ck dc15 (i := 14) rfl) ?_
  refine G_iconst (ck dc15 (i := 15) rfl) ?_
  refine G_iast (ck dc15 (i := 16) rfl) ⟨Nat.le_of_ble_eq_true rfl, Nat.le_of_ble_eq_true rfl⟩ ly50 (by decide) (by decide) ?_
  refine G_dup rfl (ck dc15 (i := 17) rfl) ?_
  refine G_iconst (ck dc15 (i := 18) rfl) ?_
  refine G_iconst (ck dc15 (i := 19) rfl) ?_
  refine G_iast (ck dc15 (i := 20) rfl) ⟨Nat.le_of_ble_eq_true rfl, Nat.le_of_ble_eq_true rfl⟩ ly50 (by decide) (by decide) ?_
  refine H_putR mf15 (ck dc15 (i := 21) rfl) fw_Rows_9 fc6_0 (Or.inr ⟨_, rfl⟩) ly49 ⟨Nat.le_of_ble_eq_true rfl, Nat.le_of_ble_eq_true rfl⟩ (by decide) (Or.inr ⟨rfl, rfl⟩) (ph2 := phx 51 23) (by decide +kernel) ?_
  refine G_aload_n 0 rfl rfl (ck dc15 (i := 22) rfl) ?_
  refine G_bipush (n := 80) rfl (ck dc15 (i := 23) rfl) ?_
  refine H_newL (n := 80) (ck dc15 (i := 24) rfl) ka_long ly51 (by decide) (by decide +kernel) (by decide +kernel) (by decide +kernel) (ph2 := phx 52 23) rfl ?_
  refine H_putR mf15 (ck dc15 (i := 25) rfl) fw_Rows_13 fc6_1 (Or.inr ⟨_, rfl⟩) ly49 ⟨Nat.le_of_ble_eq_true rfl, Nat.le_of_ble_eq_true rfl⟩ (by decide) (Or.inr ⟨rfl, rfl⟩) (ph2 := phx 52 22) (by decide +kernel) ?_
  exact H_vret mf15 (ck dc15 (i := 26) rfl) rfl h
set_option maxHeartbeats 20000000 in
theorem c_x_init (K : Nat) (M : PM) (Q : Option PV → PM → Prop)
    (h : Call K jBook_init [.inr (.inr 1)] (phx 2 78) (phx 5 75) (mclr M 1) (retV fun M2 => Call K jBook_init [.inr (.inr 5)] (phx 6 74) (phx 9 71) (mclr M2 5) (retV fun M4 => Call K jClearing_init [.inr (.inr 11), .inr (.inr 1), .inr (.inr 2)] (phx 12 68) (phx 24 54) (mclr (mclr (mclr M4 9) 10) 11) (retV fun M6 => Call K jClearing_init [.inr (.inr 24), .inr (.inr 1), .inr (.inr 9)] (phx 25 53) (phx 37 39) (mclr M6 24) (retV fun M8 => Call K jCoins_init [.inr (.inr 37), .inr (.inr 1)] (phx 38 38) (phx 40 35) (mclr M8 37) (retV fun M10 => Call K jRings_init [.inr (.inr 40), .inr (.inr 1)] (phx 41 34) (phx 42 32) (mclr M10 40) (retV fun M12 => Call K jWorth_init [.inr (.inr 42)] (phx 43 31) (phx 43 31) (mclr M12 42) (retV fun M14 => Call K jTold_init [.inr (.inr 43)] (phx 44 30) (phx 45 29) (mclr M14 43) (retV fun M16 => Call K jTape_init [.inr (.inr 45)] (phx 46 28) (phx 47 27) (mclr M16 45) (retV fun M18 => Call K jPaper_init [.inr (.inr 47)] (phx 48 26) (phx 49 25) (mclr M18 47) (retV fun M20 => Call K jRows_init [.inr (.inr 49)] (phx 50 24) (phx 52 22) (mclr M20 49) (retV fun M22 => Q none (mset (mset M22 0 7 1) 0 9 1))))))))))))) : Call (K + 1) jClearingWaves_init [.inr (.inr 0)] (phx 1 78) (phx 52 21) M Q := by
  refine Call.intro (by decide +kernel) (mfx.le mf0 (Nat.le_of_ble_eq_true rfl)) (by decide +kernel) rfl ?_
  refine G_aload_n 0 rfl rfl (ck dc0 (i := 0) rfl) ?_
  refine H_obj mf0 (ck dc0 (i := 1) rfl) lo_ClearingWaves_3 (by decide) (Nat.le_of_ble_eq_true rfl) ?_
  refine G_aload_n 0 rfl rfl (ck dc0 (i := 2) rfl) ?_
  refine H_new mf0 (ck dc0 (i := 3) rfl) cok_0 ly1 kn_ClearingWaves_9.1 kn_ClearingWaves_9.2.1 kn_ClearingWaves_9.2.2 (by decide +kernel) (by decide +kernel) (by decide +kernel) (by decide +kernel) (by decide +kernel) (ph2 := phx 2 78) rfl ?_
  refine G_dup rfl (ck dc0 (i := 4) rfl) ?_
  refine H_i mf0 (As := []) (st := [.inr (.inr 1), .inr (.inr 0)]) (ck dc0 (i := 5) rfl) lk_ClearingWaves_11 rfl rfl (Nat.le_of_ble_eq_true rfl) (by decide) (by decide +kernel) h (fun M2 h => ?_)
  refine H_putR mf0 (ck dc0 (i := 6) rfl) fw_ClearingWaves_12 fc10_0 (Or.inl ⟨_, rfl⟩) ly0 ⟨Nat.le_of_ble_eq_true rfl, Nat.le_of_ble_eq_true rfl⟩ (by decide) (Or.inr ⟨rfl, rfl⟩) (ph2 := phx 5 74) (by decide +kernel) ?_
  refine G_aload_n 0 rfl rfl (ck dc0 (i := 7) rfl) ?_
  refine H_new mf0 (ck dc0 (i := 8) rfl) cok_0 ly5 kn_ClearingWaves_9.1 kn_ClearingWaves_9.2.1 kn_ClearingWaves_9.2.2 (by decide +kernel) (by decide +kernel) (by decide +kernel) (by decide +kernel) (by decide +kernel) (ph2 := phx 6 74) rfl ?_
  refine G_dup rfl (ck dc0 (i := 9) rfl) ?_
  refine H_i mf0 (As := []) (st := [.inr (.inr 5), .inr (.inr 0)]) (ck dc0 (i := 10) rfl) lk_ClearingWaves_11 rfl rfl (Nat.le_of_ble_eq_true rfl) (by decide) (by decide +kernel) h (fun M4 h => ?_)
  refine H_putR mf0 (ck dc0 (i := 11) rfl) fw_ClearingWaves_18 fc10_1 (Or.inl ⟨_, rfl⟩) ly0 ⟨Nat.le_of_ble_eq_true rfl, Nat.le_of_ble_eq_true rfl⟩ (by decide) (Or.inr ⟨rfl, rfl⟩) (ph2 := phx 9 70) (by decide +kernel) ?_
  refine G_aload_n 0 rfl rfl (ck dc0 (i := 12) rfl) ?_
  refine G_iconst (ck dc0 (i := 13) rfl) ?_
  refine H_newI (n := 5) (ck dc0 (i := 14) rfl) ka_int ly9 (by decide) (by decide +kernel) (by decide +kernel) (by decide +kernel) (ph2 := phx 10 70) rfl ?_
  refine H_putR mf0 (ck dc0 (i := 15) rfl) fw_ClearingWaves_21 fc10_3 (Or.inr ⟨_, rfl⟩) ly0 ⟨Nat.le_of_ble_eq_true rfl, Nat.le_of_ble_eq_true rfl⟩ (by decide) (Or.inr ⟨rfl, rfl⟩) (ph2 := phx 10 69) (by decide +kernel) ?_
  refine G_aload_n 0 rfl rfl (ck dc0 (i := 16) rfl) ?_
  refine G_iconst (ck dc0 (i := 17) rfl) ?_
  refine H_newI (n := 5) (ck dc0 (i := 18) rfl) ka_int ly10 (by decide) (by decide +kernel) (by decide +kernel) (by decide +kernel) (ph2 := phx 11 69) rfl ?_
  refine H_putR mf0 (ck dc0 (i := 19) rfl) fw_ClearingWaves_25 fc10_4 (Or.inr ⟨_, rfl⟩) ly0 ⟨Nat.le_of_ble_eq_true rfl, Nat.le_of_ble_eq_true rfl⟩ (by decide) (Or.inr ⟨rfl, rfl⟩) (ph2 := phx 11 68) (by decide +kernel) ?_
  refine G_aload_n 0 rfl rfl (ck dc0 (i := 20) rfl) ?_
  refine H_new mf0 (ck dc0 (i := 21) rfl) cok_1 ly11 kn_ClearingWaves_28.1 kn_ClearingWaves_28.2.1 kn_ClearingWaves_28.2.2 (by decide +kernel) (by decide +kernel) (by decide +kernel) (by decide +kernel) (by decide +kernel) (ph2 := phx 12 68) rfl ?_
  refine G_dup rfl (ck dc0 (i := 22) rfl) ?_
  refine G_aload_n 0 rfl rfl (ck dc0 (i := 23) rfl) ?_
  refine H_getR mf0 (q := 1) (ck dc0 (i := 24) rfl) fw_ClearingWaves_12 fc10_0 ly0 ⟨Nat.le_of_ble_eq_true rfl, Nat.le_of_ble_eq_true rfl⟩ (by decide +kernel) (by decide) ?_
  refine G_aload_n 0 rfl rfl (ck dc0 (i := 25) rfl) ?_
  refine H_getR mf0 (q := 1) (ck dc0 (i := 26) rfl) fw_ClearingWaves_12 fc10_0 ly0 ⟨Nat.le_of_ble_eq_true rfl, Nat.le_of_ble_eq_true rfl⟩ (by decide +kernel) (by decide) ?_
  refine H_getR mf0 (q := 2) (ck dc0 (i := 27) rfl) fw_ClearingWaves_30 fc0_3 ly1 ⟨Nat.le_of_ble_eq_true rfl, Nat.le_of_ble_eq_true rfl⟩ (by decide +kernel) (by decide) ?_
  refine H_i mf0 (As := [.inr (.inr 1), .inr (.inr 2)]) (st := [.inr (.inr 11), .inr (.inr 0)]) (ck dc0 (i := 28) rfl) lk_ClearingWaves_33 rfl rfl (Nat.le_of_ble_eq_true rfl) (by decide) (by decide +kernel) h (fun M6 h => ?_)
  refine H_putR mf0 (ck dc0 (i := 29) rfl) fw_ClearingWaves_36 fc10_5 (Or.inl ⟨_, rfl⟩) ly0 ⟨Nat.le_of_ble_eq_true rfl, Nat.le_of_ble_eq_true rfl⟩ (by decide) (Or.inr ⟨rfl, rfl⟩) (ph2 := phx 24 53) (by decide +kernel) ?_
  refine G_aload_n 0 rfl rfl (ck dc0 (i := 30) rfl) ?_
  refine H_new mf0 (ck dc0 (i := 31) rfl) cok_1 ly24 kn_ClearingWaves_28.1 kn_ClearingWaves_28.2.1 kn_ClearingWaves_28.2.2 (by decide +kernel) (by decide +kernel) (by decide +kernel) (by decide +kernel) (by decide +kernel) (ph2 := phx 25 53) rfl ?_
  refine G_dup rfl (ck dc0 (i := 32) rfl) ?_
  refine G_aload_n 0 rfl rfl (ck dc0 (i := 33) rfl) ?_
  refine H_getR mf0 (q := 1) (ck dc0 (i := 34) rfl) fw_ClearingWaves_12 fc10_0 ly0 ⟨Nat.le_of_ble_eq_true rfl, Nat.le_of_ble_eq_true rfl⟩ (by decide +kernel) (by decide) ?_
  refine G_aload_n 0 rfl rfl (ck dc0 (i := 35) rfl) ?_
  refine H_getR mf0 (q := 9) (ck dc0 (i := 36) rfl) fw_ClearingWaves_21 fc10_3 ly0 ⟨Nat.le_of_ble_eq_true rfl, Nat.le_of_ble_eq_true rfl⟩ (by decide +kernel) (by decide) ?_
  refine H_i mf0 (As := [.inr (.inr 1), .inr (.inr 9)]) (st := [.inr (.inr 24), .inr (.inr 0)]) (ck dc0 (i := 37) rfl) lk_ClearingWaves_33 rfl rfl (Nat.le_of_ble_eq_true rfl) (by decide) (by decide +kernel) h (fun M8 h => ?_)
  refine H_putR mf0 (ck dc0 (i := 38) rfl) fw_ClearingWaves_40 fc10_6 (Or.inl ⟨_, rfl⟩) ly0 ⟨Nat.le_of_ble_eq_true rfl, Nat.le_of_ble_eq_true rfl⟩ (by decide) (Or.inr ⟨rfl, rfl⟩) (ph2 := phx 37 38) (by decide +kernel) ?_
  refine G_aload_n 0 rfl rfl (ck dc0 (i := 39) rfl) ?_
  refine H_new mf0 (ck dc0 (i := 40) rfl) cok_2 ly37 kn_ClearingWaves_43.1 kn_ClearingWaves_43.2.1 kn_ClearingWaves_43.2.2 (by decide +kernel) (by decide +kernel) (by decide +kernel) (by decide +kernel) (by decide +kernel) (ph2 := phx 38 38) rfl ?_
  refine G_dup rfl (ck dc0 (i := 41) rfl) ?_
  refine G_aload_n 0 rfl rfl (ck dc0 (i := 42) rfl) ?_
  refine H_getR mf0 (q := 1) (ck dc0 (i := 43) rfl) fw_ClearingWaves_12 fc10_0 ly0 ⟨Nat.le_of_ble_eq_true rfl, Nat.le_of_ble_eq_true rfl⟩ (by decide +kernel) (by decide) ?_
  refine H_i mf0 (As := [.inr (.inr 1)]) (st := [.inr (.inr 37), .inr (.inr 0)]) (ck dc0 (i := 44) rfl) lk_ClearingWaves_45 rfl rfl (Nat.le_of_ble_eq_true rfl) (by decide) (by decide +kernel) h (fun M10 h => ?_)
  refine H_putR mf0 (ck dc0 (i := 45) rfl) fw_ClearingWaves_48 fc10_8 (Or.inl ⟨_, rfl⟩) ly0 ⟨Nat.le_of_ble_eq_true rfl, Nat.le_of_ble_eq_true rfl⟩ (by decide) (Or.inr ⟨rfl, rfl⟩) (ph2 := phx 40 34) (by decide +kernel) ?_
  refine G_aload_n 0 rfl rfl (ck dc0 (i := 46) rfl) ?_
  refine H_new mf0 (ck dc0 (i := 47) rfl) cok_5 ly40 kn_ClearingWaves_52.1 kn_ClearingWaves_52.2.1 kn_ClearingWaves_52.2.2 (by decide +kernel) (by decide +kernel) (by decide +kernel) (by decide +kernel) (by decide +kernel) (ph2 := phx 41 34) rfl ?_
  refine G_dup rfl (ck dc0 (i := 48) rfl) ?_
  refine G_aload_n 0 rfl rfl (ck dc0 (i := 49) rfl) ?_
  refine H_getR mf0 (q := 1) (ck dc0 (i := 50) rfl) fw_ClearingWaves_12 fc10_0 ly0 ⟨Nat.le_of_ble_eq_true rfl, Nat.le_of_ble_eq_true rfl⟩ (by decide +kernel) (by decide) ?_
  refine H_i mf0 (As := [.inr (.inr 1)]) (st := [.inr (.inr 40), .inr (.inr 0)]) (ck dc0 (i := 51) rfl) lk_ClearingWaves_54 rfl rfl (Nat.le_of_ble_eq_true rfl) (by decide) (by decide +kernel) h (fun M12 h => ?_)
  refine H_putR mf0 (ck dc0 (i := 52) rfl) fw_ClearingWaves_55 fc10_10 (Or.inl ⟨_, rfl⟩) ly0 ⟨Nat.le_of_ble_eq_true rfl, Nat.le_of_ble_eq_true rfl⟩ (by decide) (Or.inr ⟨rfl, rfl⟩) (ph2 := phx 42 31) (by decide +kernel) ?_
  refine G_aload_n 0 rfl rfl (ck dc0 (i := 53) rfl) ?_
  refine H_new mf0 (ck dc0 (i := 54) rfl) cok_9 ly42 kn_ClearingWaves_59.1 kn_ClearingWaves_59.2.1 kn_ClearingWaves_59.2.2 (by decide +kernel) (by decide +kernel) (by decide +kernel) (by decide +kernel) (by decide +kernel) (ph2 := phx 43 31) rfl ?_
  refine G_dup rfl (ck dc0 (i := 55) rfl) ?_
  refine H_i mf0 (As := []) (st := [.inr (.inr 42), .inr (.inr 0)]) (ck dc0 (i := 56) rfl) lk_ClearingWaves_61 rfl rfl (Nat.le_of_ble_eq_true rfl) (by decide) (by decide +kernel) h (fun M14 h => ?_)
  refine H_putR mf0 (ck dc0 (i := 57) rfl) fw_ClearingWaves_62 fc10_11 (Or.inl ⟨_, rfl⟩) ly0 ⟨Nat.le_of_ble_eq_true rfl, Nat.le_of_ble_eq_true rfl⟩ (by decide) (Or.inr ⟨rfl, rfl⟩) (ph2 := phx 43 30) (by decide +kernel) ?_
  refine G_aload_n 0 rfl rfl (ck dc0 (i := 58) rfl) ?_
  refine H_new mf0 (ck dc0 (i := 59) rfl) cok_8 ly43 kn_ClearingWaves_66.1 kn_ClearingWaves_66.2.1 kn_ClearingWaves_66.2.2 (by decide +kernel) (by decide +kernel) (by decide +kernel) (by decide +kernel) (by decide +kernel) (ph2 := phx 44 30) rfl ?_
  refine G_dup rfl (ck dc0 (i := 60) rfl) ?_
  refine H_i mf0 (As := []) (st := [.inr (.inr 43), .inr (.inr 0)]) (ck dc0 (i := 61) rfl) lk_ClearingWaves_68 rfl rfl (Nat.le_of_ble_eq_true rfl) (by decide) (by decide +kernel) h (fun M16 h => ?_)
  refine H_putR mf0 (ck dc0 (i := 62) rfl) fw_ClearingWaves_69 fc10_12 (Or.inl ⟨_, rfl⟩) ly0 ⟨Nat.le_of_ble_eq_true rfl, Nat.le_of_ble_eq_true rfl⟩ (by decide) (Or.inr ⟨rfl, rfl⟩) (ph2 := phx 45 28) (by decide +kernel) ?_
  refine G_aload_n 0 rfl rfl (ck dc0 (i := 63) rfl) ?_
  refine H_new mf0 (ck dc0 (i := 64) rfl) cok_7 ly45 kn_ClearingWaves_73.1 kn_ClearingWaves_73.2.1 kn_ClearingWaves_73.2.2 (by decide +kernel) (by decide +kernel) (by decide +kernel) (by decide +kernel) (by decide +kernel) (ph2 := phx 46 28) rfl ?_
  refine G_dup rfl (ck dc0 (i := 65) rfl) ?_
  refine H_i mf0 (As := []) (st := [.inr (.inr 45), .inr (.inr 0)]) (ck dc0 (i := 66) rfl) lk_ClearingWaves_75 rfl rfl (Nat.le_of_ble_eq_true rfl) (by decide) (by decide +kernel) h (fun M18 h => ?_)
  refine H_putR mf0 (ck dc0 (i := 67) rfl) fw_ClearingWaves_76 fc10_13 (Or.inl ⟨_, rfl⟩) ly0 ⟨Nat.le_of_ble_eq_true rfl, Nat.le_of_ble_eq_true rfl⟩ (by decide) (Or.inr ⟨rfl, rfl⟩) (ph2 := phx 47 26) (by decide +kernel) ?_
  refine G_aload_n 0 rfl rfl (ck dc0 (i := 68) rfl) ?_
  refine H_new mf0 (ck dc0 (i := 69) rfl) cok_4 ly47 kn_ClearingWaves_80.1 kn_ClearingWaves_80.2.1 kn_ClearingWaves_80.2.2 (by decide +kernel) (by decide +kernel) (by decide +kernel) (by decide +kernel) (by decide +kernel) (ph2 := phx 48 26) rfl ?_
  refine G_dup rfl (ck dc0 (i := 70) rfl) ?_
  refine H_i mf0 (As := []) (st := [.inr (.inr 47), .inr (.inr 0)]) (ck dc0 (i := 71) rfl) lk_ClearingWaves_82 rfl rfl (Nat.le_of_ble_eq_true rfl) (by decide) (by decide +kernel) h (fun M20 h => ?_)
  refine H_putR mf0 (ck dc0 (i := 72) rfl) fw_ClearingWaves_83 fc10_14 (Or.inl ⟨_, rfl⟩) ly0 ⟨Nat.le_of_ble_eq_true rfl, Nat.le_of_ble_eq_true rfl⟩ (by decide) (Or.inr ⟨rfl, rfl⟩) (ph2 := phx 49 24) (by decide +kernel) ?_
  refine G_aload_n 0 rfl rfl (ck dc0 (i := 73) rfl) ?_
  refine H_new mf0 (ck dc0 (i := 74) rfl) cok_6 ly49 kn_ClearingWaves_87.1 kn_ClearingWaves_87.2.1 kn_ClearingWaves_87.2.2 (by decide +kernel) (by decide +kernel) (by decide +kernel) (by decide +kernel) (by decide +kernel) (ph2 := phx 50 24) rfl ?_
  refine G_dup rfl (ck dc0 (i := 75) rfl) ?_
  refine H_i mf0 (As := []) (st := [.inr (.inr 49), .inr (.inr 0)]) (ck dc0 (i := 76) rfl) lk_ClearingWaves_89 rfl rfl (Nat.le_of_ble_eq_true rfl) (by decide) (by decide +kernel) h (fun M22 h => ?_)
  refine H_putR mf0 (ck dc0 (i := 77) rfl) fw_ClearingWaves_90 fc10_15 (Or.inl ⟨_, rfl⟩) ly0 ⟨Nat.le_of_ble_eq_true rfl, Nat.le_of_ble_eq_true rfl⟩ (by decide) (Or.inr ⟨rfl, rfl⟩) (ph2 := phx 52 21) (by decide +kernel) ?_
  refine G_aload_n 0 rfl rfl (ck dc0 (i := 78) rfl) ?_
  refine G_iconst (ck dc0 (i := 79) rfl) ?_
  refine H_putZ mf0 (ck dc0 (i := 80) rfl) fw_ClearingWaves_94 fc10_7 ly0 ⟨Nat.le_of_ble_eq_true rfl, Nat.le_of_ble_eq_true rfl⟩ (Or.inl rfl) (Or.inr rfl) ?_
  refine G_aload_n 0 rfl rfl (ck dc0 (i := 81) rfl) ?_
  refine G_iconst (ck dc0 (i := 82) rfl) ?_
  refine H_putZ mf0 (ck dc0 (i := 83) rfl) fw_ClearingWaves_98 fc10_9 ly0 ⟨Nat.le_of_ble_eq_true rfl, Nat.le_of_ble_eq_true rfl⟩ (Or.inl rfl) (Or.inr rfl) ?_
  exact H_vret mf0 (ck dc0 (i := 84) rfl) rfl h
set_option maxHeartbeats 20000000 in
theorem c_m_init (K : Nat) (M : PM) (Q : Option PV → PM → Prop)
    (h : Call K jModel_asAtFirst [.inr (.inr 52), .inl 2] (phx 74 0) (phx 74 0) (mset (mset (mset (mset (mclr (mclr (mclr (mclr (mclr (mclr (mclr (mclr (mclr (mclr (mclr (mclr (mclr (mclr (mclr (mclr (mclr (mclr (mclr (mclr (mclr M 53) 54) 55) 56) 57) 58) 59) 60) 61) 62) 63) 64) 65) 66) 67) 68) 69) 70) 71) 72) 73) 73 0 (-1)) 73 1 (-1)) 73 2 (-1)) 73 3 (-1)) (retV fun M2 => Q none M2)) : Call (K + 1) jModel_init [.inr (.inr 52)] (phx 53 21) (phx 74 0) M Q := by
  refine Call.intro (by decide +kernel) (mfx.le mf170 (Nat.le_of_ble_eq_true rfl)) (by decide +kernel) rfl ?_
  refine G_aload_n 0 rfl rfl (ck dc170 (i := 0) rfl) ?_
  refine H_obj mf170 (ck dc170 (i := 1) rfl) lo_Model_19 (by decide) (Nat.le_of_ble_eq_true rfl) ?_
  refine G_aload_n 0 rfl rfl (ck dc170 (i := 2) rfl) ?_
  refine G_sipush (n := 128) rfl (ck dc170 (i := 3) rfl) ?_
  refine H_newL (n := 128) (ck dc170 (i := 4) rfl) ka_long ly53 (by decide) (by decide +kernel) (by decide +kernel) (by decide +kernel) (ph2 := phx 54 21) rfl ?_
  refine H_putR mf170 (ck dc170 (i := 5) rfl) fw_Model_25 fc11_0 (Or.inr ⟨_, rfl⟩) ly52 ⟨Nat.le_of_ble_eq_true rfl, Nat.le_of_ble_eq_true rfl⟩ (by decide) (Or.inr ⟨rfl, rfl⟩) (ph2 := phx 54 20) (by decide +kernel) ?_
  refine G_aload_n 0 rfl rfl (ck dc170 (i := 6) rfl) ?_
  refine G_sipush (n := 128) rfl (ck dc170 (i := 7) rfl) ?_
  refine H_newL (n := 128) (ck dc170 (i := 8) rfl) ka_long ly54 (by decide) (by decide +kernel) (by decide +kernel) (by decide +kernel) (ph2 := phx 55 20) rfl ?_
  refine H_putR mf170 (ck dc170 (i := 9) rfl) fw_Model_29 fc11_1 (Or.inr ⟨_, rfl⟩) ly52 ⟨Nat.le_of_ble_eq_true rfl, Nat.le_of_ble_eq_true rfl⟩ (by decide) (Or.inr ⟨rfl, rfl⟩) (ph2 := phx 55 19) (by decide +kernel) ?_
  refine G_aload_n 0 rfl rfl (ck dc170 (i := 10) rfl) ?_
  refine G_bipush (n := 83) rfl (ck dc170 (i := 11) rfl) ?_
  refine H_newI (n := 83) (ck dc170 (i := 12) rfl) ka_int ly55 (by decide) (by decide +kernel) (by decide +kernel) (by decide +kernel) (ph2 := phx 56 19) rfl ?_
  refine H_putR mf170 (ck dc170 (i := 13) rfl) fw_Model_5 fc11_3 (Or.inr ⟨_, rfl⟩) ly52 ⟨Nat.le_of_ble_eq_true rfl, Nat.le_of_ble_eq_true rfl⟩ (by decide) (Or.inr ⟨rfl, rfl⟩) (ph2 := phx 56 18) (by decide +kernel) ?_
  refine G_aload_n 0 rfl rfl (ck dc170 (i := 14) rfl) ?_
  refine G_bipush (n := 120) rfl (ck dc170 (i := 15) rfl) ?_
  refine H_newI (n := 120) (ck dc170 (i := 16) rfl) ka_int ly56 (by decide) (by decide +kernel) (by decide +kernel) (by decide +kernel) (ph2 := phx 57 18) rfl ?_
  refine H_putR mf170 (ck dc170 (i := 17) rfl) fw_Model_32 fc11_5 (Or.inr ⟨_, rfl⟩) ly52 ⟨Nat.le_of_ble_eq_true rfl, Nat.le_of_ble_eq_true rfl⟩ (by decide) (Or.inr ⟨rfl, rfl⟩) (ph2 := phx 57 17) (by decide +kernel) ?_
  refine G_aload_n 0 rfl rfl (ck dc170 (i := 18) rfl) ?_
  refine G_bipush (n := 120) rfl (ck dc170 (i := 19) rfl) ?_
  refine H_newI (n := 120) (ck dc170 (i := 20) rfl) ka_int ly57 (by decide) (by decide +kernel) (by decide +kernel) (by decide +kernel) (ph2 := phx 58 17) rfl ?_
  refine H_putR mf170 (ck dc170 (i := 21) rfl) fw_Model_35 fc11_8 (Or.inr ⟨_, rfl⟩) ly52 ⟨Nat.le_of_ble_eq_true rfl, Nat.le_of_ble_eq_true rfl⟩ (by decide) (Or.inr ⟨rfl, rfl⟩) (ph2 := phx 58 16) (by decide +kernel) ?_
  refine G_aload_n 0 rfl rfl (ck dc170 (i := 22) rfl) ?_
  refine G_bipush (n := 90) rfl (ck dc170 (i := 23) rfl) ?_
  refine H_newL (n := 90) (ck dc170 (i := 24) rfl) ka_long ly58 (by decide) (by decide +kernel) (by decide +kernel) (by decide +kernel) (ph2 := phx 59 16) rfl ?_
  refine H_putR mf170 (ck dc170 (i := 25) rfl) fw_Model_38 fc11_10 (Or.inr ⟨_, rfl⟩) ly52 ⟨Nat.le_of_ble_eq_true rfl, Nat.le_of_ble_eq_true rfl⟩ (by decide) (Or.inr ⟨rfl, rfl⟩) (ph2 := phx 59 15) (by decide +kernel) ?_
  refine G_aload_n 0 rfl rfl (ck dc170 (i := 26) rfl) ?_
  refine G_bipush (n := 6) rfl (ck dc170 (i := 27) rfl) ?_
  refine H_newL (n := 6) (ck dc170 (i := 28) rfl) ka_long ly59 (by decide) (by decide +kernel) (by decide +kernel) (by decide +kernel) (ph2 := phx 60 15) rfl ?_
  refine H_putR mf170 (ck dc170 (i := 29) rfl) fw_Model_41 fc11_11 (Or.inr ⟨_, rfl⟩) ly52 ⟨Nat.le_of_ble_eq_true rfl, Nat.le_of_ble_eq_true rfl⟩ (by decide) (Or.inr ⟨rfl, rfl⟩) (ph2 := phx 60 14) (by decide +kernel) ?_
  refine G_aload_n 0 rfl rfl (ck dc170 (i := 30) rfl) ?_
  refine G_iconst (ck dc170 (i := 31) rfl) ?_
  refine H_newI (n := 5) (ck dc170 (i := 32) rfl) ka_int ly60 (by decide) (by decide +kernel) (by decide +kernel) (by decide +kernel) (ph2 := phx 61 14) rfl ?_
  refine H_putR mf170 (ck dc170 (i := 33) rfl) fw_Model_44 fc11_12 (Or.inr ⟨_, rfl⟩) ly52 ⟨Nat.le_of_ble_eq_true rfl, Nat.le_of_ble_eq_true rfl⟩ (by decide) (Or.inr ⟨rfl, rfl⟩) (ph2 := phx 61 13) (by decide +kernel) ?_
  refine G_aload_n 0 rfl rfl (ck dc170 (i := 34) rfl) ?_
  refine G_iconst (ck dc170 (i := 35) rfl) ?_
  refine H_newI (n := 5) (ck dc170 (i := 36) rfl) ka_int ly61 (by decide) (by decide +kernel) (by decide +kernel) (by decide +kernel) (ph2 := phx 62 13) rfl ?_
  refine H_putR mf170 (ck dc170 (i := 37) rfl) fw_Model_47 fc11_14 (Or.inr ⟨_, rfl⟩) ly52 ⟨Nat.le_of_ble_eq_true rfl, Nat.le_of_ble_eq_true rfl⟩ (by decide) (Or.inr ⟨rfl, rfl⟩) (ph2 := phx 62 12) (by decide +kernel) ?_
  refine G_aload_n 0 rfl rfl (ck dc170 (i := 38) rfl) ?_
  refine G_iconst (ck dc170 (i := 39) rfl) ?_
  refine H_newI (n := 5) (ck dc170 (i := 40) rfl) ka_int ly62 (by decide) (by decide +kernel) (by decide +kernel) (by decide +kernel) (ph2 := phx 63 12) rfl ?_
  refine H_putR mf170 (ck dc170 (i := 41) rfl) fw_Model_50 fc11_15 (Or.inr ⟨_, rfl⟩) ly52 ⟨Nat.le_of_ble_eq_true rfl, Nat.le_of_ble_eq_true rfl⟩ (by decide) (Or.inr ⟨rfl, rfl⟩) (ph2 := phx 63 11) (by decide +kernel) ?_
  refine G_aload_n 0 rfl rfl (ck dc170 (i := 42) rfl) ?_
  refine G_iconst (ck dc170 (i := 43) rfl) ?_
  refine H_newI (n := 5) (ck dc170 (i := 44) rfl) ka_int ly63 (by decide) (by decide +kernel) (by decide +kernel) (by decide +kernel) (ph2 := phx 64 11) rfl ?_
  refine H_putR mf170 (ck dc170 (i := 45) rfl) fw_Model_53 fc11_16 (Or.inr ⟨_, rfl⟩) ly52 ⟨Nat.le_of_ble_eq_true rfl, Nat.le_of_ble_eq_true rfl⟩ (by decide) (Or.inr ⟨rfl, rfl⟩) (ph2 := phx 64 10) (by decide +kernel) ?_
  refine G_aload_n 0 rfl rfl (ck dc170 (i := 46) rfl) ?_
  refine G_bipush (n := 25) rfl (ck dc170 (i := 47) rfl) ?_
  refine H_newL (n := 25) (ck dc170 (i := 48) rfl) ka_long ly64 (by decide) (by decide +kernel) (by decide +kernel) (by decide +kernel) (ph2 := phx 65 10) rfl ?_
  refine H_putR mf170 (ck dc170 (i := 49) rfl) fw_Model_56 fc11_18 (Or.inr ⟨_, rfl⟩) ly52 ⟨Nat.le_of_ble_eq_true rfl, Nat.le_of_ble_eq_true rfl⟩ (by decide) (Or.inr ⟨rfl, rfl⟩) (ph2 := phx 65 9) (by decide +kernel) ?_
  refine G_aload_n 0 rfl rfl (ck dc170 (i := 50) rfl) ?_
  refine G_iconst (ck dc170 (i := 51) rfl) ?_
  refine H_newL (n := 5) (ck dc170 (i := 52) rfl) ka_long ly65 (by decide) (by decide +kernel) (by decide +kernel) (by decide +kernel) (ph2 := phx 66 9) rfl ?_
  refine H_putR mf170 (ck dc170 (i := 53) rfl) fw_Model_59 fc11_19 (Or.inr ⟨_, rfl⟩) ly52 ⟨Nat.le_of_ble_eq_true rfl, Nat.le_of_ble_eq_true rfl⟩ (by decide) (Or.inr ⟨rfl, rfl⟩) (ph2 := phx 66 8) (by decide +kernel) ?_
  refine G_aload_n 0 rfl rfl (ck dc170 (i := 54) rfl) ?_
  refine G_iconst (ck dc170 (i := 55) rfl) ?_
  refine H_newL (n := 5) (ck dc170 (i := 56) rfl) ka_long ly66 (by decide) (by decide +kernel) (by decide +kernel) (by decide +kernel) (ph2 := phx 67 8) rfl ?_
  refine H_putR mf170 (ck dc170 (i := 57) rfl) fw_Model_62 fc11_20 (Or.inr ⟨_, rfl⟩) ly52 ⟨Nat.le_of_ble_eq_true rfl, Nat.le_of_ble_eq_true rfl⟩ (by decide) (Or.inr ⟨rfl, rfl⟩) (ph2 := phx 67 7) (by decide +kernel) ?_
  refine G_aload_n 0 rfl rfl (ck dc170 (i := 58) rfl) ?_
  refine G_bipush (n := 75) rfl (ck dc170 (i := 59) rfl) ?_
  refine H_newI (n := 75) (ck dc170 (i := 60) rfl) ka_int ly67 (by decide) (by decide +kernel) (by decide +kernel) (by decide +kernel) (ph2 := phx 68 7) rfl ?_
  refine H_putR mf170 (ck dc170 (i := 61) rfl) fw_Model_65 fc11_22 (Or.inr ⟨_, rfl⟩) ly52 ⟨Nat.le_of_ble_eq_true rfl, Nat.le_of_ble_eq_true rfl⟩ (by decide) (Or.inr ⟨rfl, rfl⟩) (ph2 := phx 68 6) (by decide +kernel) ?_
  refine G_aload_n 0 rfl rfl (ck dc170 (i := 62) rfl) ?_
  refine G_bipush (n := 75) rfl (ck dc170 (i := 63) rfl) ?_
  refine H_newI (n := 75) (ck dc170 (i := 64) rfl) ka_int ly68 (by decide) (by decide +kernel) (by decide +kernel) (by decide +kernel) (ph2 := phx 69 6) rfl ?_
  refine H_putR mf170 (ck dc170 (i := 65) rfl) fw_Model_68 fc11_23 (Or.inr ⟨_, rfl⟩) ly52 ⟨Nat.le_of_ble_eq_true rfl, Nat.le_of_ble_eq_true rfl⟩ (by decide) (Or.inr ⟨rfl, rfl⟩) (ph2 := phx 69 5) (by decide +kernel) ?_
  refine G_aload_n 0 rfl rfl (ck dc170 (i := 66) rfl) ?_
  refine G_iconst (ck dc170 (i := 67) rfl) ?_
  refine H_newI (n := 5) (ck dc170 (i := 68) rfl) ka_int ly69 (by decide) (by decide +kernel) (by decide +kernel) (by decide +kernel) (ph2 := phx 70 5) rfl ?_
  refine H_putR mf170 (ck dc170 (i := 69) rfl) fw_Model_71 fc11_25 (Or.inr ⟨_, rfl⟩) ly52 ⟨Nat.le_of_ble_eq_true rfl, Nat.le_of_ble_eq_true rfl⟩ (by decide) (Or.inr ⟨rfl, rfl⟩) (ph2 := phx 70 4) (by decide +kernel) ?_
  refine G_aload_n 0 rfl rfl (ck dc170 (i := 70) rfl) ?_
  refine G_iconst (ck dc170 (i := 71) rfl) ?_
  refine H_newI (n := 5) (ck dc170 (i := 72) rfl) ka_int ly70 (by decide) (by decide +kernel) (by decide +kernel) (by decide +kernel) (ph2 := phx 71 4) rfl ?_
  refine H_putR mf170 (ck dc170 (i := 73) rfl) fw_Model_74 fc11_26 (Or.inr ⟨_, rfl⟩) ly52 ⟨Nat.le_of_ble_eq_true rfl, Nat.le_of_ble_eq_true rfl⟩ (by decide) (Or.inr ⟨rfl, rfl⟩) (ph2 := phx 71 3) (by decide +kernel) ?_
  refine G_aload_n 0 rfl rfl (ck dc170 (i := 74) rfl) ?_
  refine G_sipush (n := 320) rfl (ck dc170 (i := 75) rfl) ?_
  refine H_newI (n := 320) (ck dc170 (i := 76) rfl) ka_int ly71 (by decide) (by decide +kernel) (by decide +kernel) (by decide +kernel) (ph2 := phx 72 3) rfl ?_
  refine H_putR mf170 (ck dc170 (i := 77) rfl) fw_Model_77 fc11_31 (Or.inr ⟨_, rfl⟩) ly52 ⟨Nat.le_of_ble_eq_true rfl, Nat.le_of_ble_eq_true rfl⟩ (by decide) (Or.inr ⟨rfl, rfl⟩) (ph2 := phx 72 2) (by decide +kernel) ?_
  refine G_aload_n 0 rfl rfl (ck dc170 (i := 78) rfl) ?_
  refine G_bipush (n := 80) rfl (ck dc170 (i := 79) rfl) ?_
  refine H_newL (n := 80) (ck dc170 (i := 80) rfl) ka_long ly72 (by decide) (by decide +kernel) (by decide +kernel) (by decide +kernel) (ph2 := phx 73 2) rfl ?_
  refine H_putR mf170 (ck dc170 (i := 81) rfl) fw_Model_80 fc11_33 (Or.inr ⟨_, rfl⟩) ly52 ⟨Nat.le_of_ble_eq_true rfl, Nat.le_of_ble_eq_true rfl⟩ (by decide) (Or.inr ⟨rfl, rfl⟩) (ph2 := phx 73 1) (by decide +kernel) ?_
  refine G_aload_n 0 rfl rfl (ck dc170 (i := 82) rfl) ?_
  refine G_iconst (ck dc170 (i := 83) rfl) ?_
  refine H_newI (n := 4) (ck dc170 (i := 84) rfl) ka_int ly73 (by decide) (by decide +kernel) (by decide +kernel) (by decide +kernel) (ph2 := phx 74 1) rfl ?_
  refine G_dup rfl (ck dc170 (i := 85) rfl) ?_
  refine G_iconst (ck dc170 (i := 86) rfl) ?_
  refine G_iconst (ck dc170 (i := 87) rfl) ?_
  refine G_iast (ck dc170 (i := 88) rfl) ⟨Nat.le_of_ble_eq_true rfl, Nat.le_of_ble_eq_true rfl⟩ ly73 (by decide) (by decide) ?_
  refine G_dup rfl (ck dc170 (i := 89) rfl) ?_
  refine G_iconst (ck dc170 (i := 90) rfl) ?_
  refine G_iconst (ck dc170 (i := 91) rfl) ?_
  refine G_iast (ck dc170 (i := 92) rfl) ⟨Nat.le_of_ble_eq_true rfl, Nat.le_of_ble_eq_true rfl⟩ ly73 (by decide) (by decide) ?_
  refine G_dup rfl (ck dc170 (i := 93) rfl) ?_
  refine G_iconst (ck dc170 (i := 94) rfl) ?_
  refine G_iconst (ck dc170 (i := 95) rfl) ?_
  refine G_iast (ck dc170 (i := 96) rfl) ⟨Nat.le_of_ble_eq_true rfl, Nat.le_of_ble_eq_true rfl⟩ ly73 (by decide) (by decide) ?_
  refine G_dup rfl (ck dc170 (i := 97) rfl) ?_
  refine G_iconst (ck dc170 (i := 98) rfl) ?_
  refine G_iconst (ck dc170 (i := 99) rfl) ?_
  refine G_iast (ck dc170 (i := 100) rfl) ⟨Nat.le_of_ble_eq_true rfl, Nat.le_of_ble_eq_true rfl⟩ ly73 (by decide) (by decide) ?_
  refine H_putR mf170 (ck dc170 (i := 101) rfl) fw_Model_83 fc11_34 (Or.inr ⟨_, rfl⟩) ly52 ⟨Nat.le_of_ble_eq_true rfl, Nat.le_of_ble_eq_true rfl⟩ (by decide) (Or.inr ⟨rfl, rfl⟩) (ph2 := phx 74 0) (by decide +kernel) ?_
  refine G_aload_n 0 rfl rfl (ck dc170 (i := 102) rfl) ?_
  refine G_iconst (ck dc170 (i := 103) rfl) ?_
  refine H_vV mf170 (As := [.inl 2]) (st := []) (ck dc170 (i := 104) rfl) lk_Model_86 rfl rfl (Nat.le_of_ble_eq_true rfl) ly52 ⟨Nat.le_of_ble_eq_true rfl, Nat.le_of_ble_eq_true rfl⟩ (by decide +kernel) h (fun M2 h => ?_)
  exact H_vret mf170 (ck dc170 (i := 105) rfl) rfl h
