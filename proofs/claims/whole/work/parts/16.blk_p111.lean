theorem g_cp_lower_74 (K : Nat) (l1 l2 l3 l4 : Int) (M : PM) (Q : Option PV → PM → Prop)
    (h : R32 l4 ∧ R32 (M 1 0) ∧ ((M 1 0) ≤ l4 → Call K jClearing_balance [.inr (.inr 11)] P0 P0 M (retV fun M4 => G none (K + 1) jClearing_lower 55 [(0, .inr (.inr 11)), (1, .inl l1), (2, .inl (l2 + 1))] [] P0 P0 M4 Q)) ∧ (¬ (M 1 0) ≤ l4 → R32 (bAnd (bShr l3 l4) 1) ∧ ((bAnd (bShr l3 l4) 1) = 0 → G none (K + 1) jClearing_lower 74 [(0, .inr (.inr 11)), (1, .inl l1), (2, .inl l2), (3, .inl l3), (4, .inl (l4 + 1))] [] P0 P0 M Q) ∧ (¬ (bAnd (bShr l3 l4) 1) = 0 → (0 ≤ l4 ∧ l4 < 5) ∧ G none (K + 1) jClearing_lower 74 [(0, .inr (.inr 11)), (1, .inl l1), (2, .inl l2), (3, .inl l3), (4, .inl (l4 + 1))] [] P0 P0 (mset M 18 l4 1) Q))) : G none (K + 1) jClearing_lower 74 [(0, .inr (.inr 11)), (1, .inl l1), (2, .inl l2), (3, .inl l3), (4, .inl l4)] [] P0 P0 M Q := by
  refine G_iload 4 rfl (ck dc50 (i := 45) rfl) ?_
  refine G_aload_n 0 rfl rfl (ck dc50 (i := 46) rfl) ?_
  refine H_getR mf50 (ck dc50 (i := 47) rfl) fw_Clearing_48 fc1_3 ly11 ra11 rf11_3 (by decide) ?_
  refine H_getI mf50 (ck dc50 (i := 48) rfl) fw_Clearing_109 (Or.inl fc0_0) ly1 ra1 (x := (M 1 0)) rfl ?_
  obtain ⟨o1, h⟩ := h
  obtain ⟨o2, h⟩ := h
  refine G_icmp_ge (tgt := 109) (by decide) o1 o2 (ck dc50 (i := 49) rfl) (fun c => ?_) (fun c => ?_)
  · replace h := h.1 c
    refine G_aload_n 0 rfl rfl (ck dc50 (i := 63) rfl) ?_
    refine H_vV mf50 (As := []) (st := []) (ck dc50 (i := 64) rfl) lk_Clearing_139 rfl rfl (Nat.le_of_ble_eq_true rfl) ly11 ra11 ⟨Nat.le_refl _, Nat.le_refl _⟩ h (fun M4 h => ?_)
    refine G_iinc (L' := [(2, .inl (l2 + 1)), (0, .inr (.inr 11)), (1, .inl l1), (3, .inl l3), (4, .inl l4)]) 2 rfl (mfx.lt mf50 (Nat.le_of_ble_eq_true rfl)) rfl (ck dc50 (i := 65) rfl) ?_
    refine G_goto (tgt := 55) (by decide) (ck dc50 (i := 66) rfl) ?_
    exact G_sub [1, 2, 0] rfl h
  · replace h := h.2 c
    refine G_iload_n 3 rfl rfl (ck dc50 (i := 50) rfl) ?_
    refine G_iload 4 rfl (ck dc50 (i := 51) rfl) ?_
    refine G_ishr (ck dc50 (i := 52) rfl) ?_
    refine G_iconst (ck dc50 (i := 53) rfl) ?_
    refine G_iand (ck dc50 (i := 54) rfl) ?_
    obtain ⟨o5, h⟩ := h
    refine G_if_eq (tgt := 103) (by decide) o5 (ck dc50 (i := 55) rfl) (fun c => ?_) (fun c => ?_)
    · replace h := h.1 c
      refine G_iinc (L' := [(4, .inl (l4 + 1)), (0, .inr (.inr 11)), (1, .inl l1), (2, .inl l2), (3, .inl l3)]) 4 rfl (mfx.lt mf50 (Nat.le_of_ble_eq_true rfl)) rfl (ck dc50 (i := 61) rfl) ?_
      refine G_goto (tgt := 74) (by decide) (ck dc50 (i := 62) rfl) ?_
      exact G_sub [1, 2, 3, 4, 0] rfl h
    · replace h := h.2 c
      refine G_aload_n 0 rfl rfl (ck dc50 (i := 56) rfl) ?_
      refine H_getR mf50 (ck dc50 (i := 57) rfl) fw_Clearing_31 fc1_10 ly11 ra11 rf11_10 (by decide) ?_
      refine G_iload 4 rfl (ck dc50 (i := 58) rfl) ?_
      refine G_iconst (ck dc50 (i := 59) rfl) ?_
      obtain ⟨o6, h⟩ := h
      refine G_zast (ck dc50 (i := 60) rfl) ra18 ly18 (by decide) o6 (Or.inr rfl) ?_
      refine G_iinc (L' := [(4, .inl (l4 + 1)), (0, .inr (.inr 11)), (1, .inl l1), (2, .inl l2), (3, .inl l3)]) 4 rfl (mfx.lt mf50 (Nat.le_of_ble_eq_true rfl)) rfl (ck dc50 (i := 61) rfl) ?_
      refine G_goto (tgt := 74) (by decide) (ck dc50 (i := 62) rfl) ?_
      exact G_sub [1, 2, 3, 4, 0] rfl h
theorem c_cp_run (K : Nat) (M : PM) (Q : Option PV → PM → Prop)
    (h : Call K jClearing_begin [.inr (.inr 11)] P0 P0 M (retV fun M2 => G none (K + 1) jClearing_run 6 [(0, .inr (.inr 11)), (1, .inl 0)] [] P0 P0 M2 Q)) : Call (K + 1) jClearing_run [.inr (.inr 11)] P0 P0 M Q := by
  refine Call.intro (by decide +kernel) (mfx.le mf41 (Nat.le_of_ble_eq_true rfl)) (Nat.le_refl _) rfl ?_
  refine G_aload_n 0 rfl rfl (ck dc41 (i := 0) rfl) ?_
  refine H_vV mf41 (As := []) (st := []) (ck dc41 (i := 1) rfl) lk_Clearing_55 rfl rfl (Nat.le_of_ble_eq_true rfl) ly11 ra11 ⟨Nat.le_refl _, Nat.le_refl _⟩ h (fun M2 h => ?_)
  refine G_iconst (ck dc41 (i := 2) rfl) ?_
  refine G_istore_n (L' := [(1, .inl 0), (0, .inr (.inr 11))]) rfl (mfx.lt mf41 (Nat.le_of_ble_eq_true rfl)) rfl (ck dc41 (i := 3) rfl) ?_
  exact G_sub [1, 0] rfl h
theorem g_cp_run_6 (K : Nat) (l1 : Int) (M : PM) (Q : Option PV → PM → Prop)
    (h : R32 l1 ∧ (1000 ≤ l1 → Q none M) ∧ (¬ 1000 ≤ l1 → Call K jClearing_sinking [.inr (.inr 11)] P0 P0 M (retI fun r2 M3 => R32 r2 ∧ (r2 = 0 → Call K jClearing_keepRound [.inr (.inr 11)] P0 P0 M3 (retV fun M6 => Call K jClearing_nextWave [.inr (.inr 11)] P0 P0 M6 (retI fun r7 M8 => R32 r7 ∧ (¬ r7 = 0 → G none (K + 1) jClearing_run 6 [(0, .inr (.inr 11)), (1, .inl (l1 + 1))] [] P0 P0 M8 Q) ∧ (r7 = 0 → Q none M8)))) ∧ (¬ r2 = 0 → Call K jClearing_reached [.inr (.inr 11), .inl r2] P0 P0 M3 (retI fun r10 M11 => Call K jClearing_lower [.inr (.inr 11), .inl r10] P0 P0 M11 (retV fun M13 => G none (K + 1) jClearing_run 6 [(0, .inr (.inr 11)), (1, .inl (l1 + 1))] [] P0 P0 M13 Q)))))) : G none (K + 1) jClearing_run 6 [(0, .inr (.inr 11)), (1, .inl l1)] [] P0 P0 M Q := by
  refine G_iload_n 1 rfl rfl (ck dc41 (i := 4) rfl) ?_
  refine G_sipush (n := 1000) rfl (ck dc41 (i := 5) rfl) ?_
  obtain ⟨o1, h⟩ := h
  refine G_icmp_ge (tgt := 52) (by decide) o1 (by decide) (ck dc41 (i := 6) rfl) (fun c => ?_) (fun c => ?_)
  · replace h := h.1 c
    exact H_vret mf41 (ck dc41 (i := 26) rfl) rfl h
  · replace h := h.2 c
    refine G_aload_n 0 rfl rfl (ck dc41 (i := 7) rfl) ?_
    refine H_vI mf41 (As := []) (st := []) (ck dc41 (i := 8) rfl) lk_Clearing_58 rfl rfl (Nat.le_of_ble_eq_true rfl) ly11 ra11 ⟨Nat.le_refl _, Nat.le_refl _⟩ h (fun r2 M3 h => ?_)
    refine G_istore_n (L' := [(2, .inl r2), (0, .inr (.inr 11)), (1, .inl l1)]) rfl (mfx.lt mf41 (Nat.le_of_ble_eq_true rfl)) rfl (ck dc41 (i := 9) rfl) ?_
    refine G_iload_n 0 rfl rfl (ck dc41 (i := 10) rfl) ?_
    obtain ⟨o4, h⟩ := h
    refine G_if_eq (tgt := 34) (by decide) o4 (ck dc41 (i := 11) rfl) (fun c => ?_) (fun c => ?_)
    · replace h := h.1 c
      refine G_aload_n 1 rfl rfl (ck dc41 (i := 18) rfl) ?_
      refine H_vV mf41 (As := []) (st := []) (ck dc41 (i := 19) rfl) lk_Clearing_70 rfl rfl (Nat.le_of_ble_eq_true rfl) ly11 ra11 ⟨Nat.le_refl _, Nat.le_refl _⟩ h (fun M6 h => ?_)
      refine G_aload_n 1 rfl rfl (ck dc41 (i := 20) rfl) ?_
      refine H_vZ mf41 (As := []) (st := []) (ck dc41 (i := 21) rfl) lk_Clearing_73 rfl rfl (Nat.le_of_ble_eq_true rfl) ly11 ra11 ⟨Nat.le_refl _, Nat.le_refl _⟩ h (fun r7 M8 h => ?_)
      obtain ⟨o9, h⟩ := h
      refine G_if_ne (tgt := 46) (by decide) o9 (ck dc41 (i := 22) rfl) (fun c => ?_) (fun c => ?_)
      · replace h := h.1 c
        refine G_iinc (L' := [(1, .inl (l1 + 1)), (2, .inl r2), (0, .inr (.inr 11))]) 2 rfl (mfx.lt mf41 (Nat.le_of_ble_eq_true rfl)) rfl (ck dc41 (i := 24) rfl) ?_
        refine G_goto (tgt := 6) (by decide) (ck dc41 (i := 25) rfl) ?_
        exact G_sub [2, 0] rfl h
      · replace h := h.2 c
        exact H_vret mf41 (ck dc41 (i := 23) rfl) rfl h
    · replace h := h.2 c
      refine G_aload_n 1 rfl rfl (ck dc41 (i := 12) rfl) ?_
      refine G_aload_n 1 rfl rfl (ck dc41 (i := 13) rfl) ?_
      refine G_iload_n 0 rfl rfl (ck dc41 (i := 14) rfl) ?_
      refine H_vI mf41 (As := [.inl r2]) (st := [.inr (.inr 11)]) (ck dc41 (i := 15) rfl) lk_Clearing_62 rfl rfl (Nat.le_of_ble_eq_true rfl) ly11 ra11 ⟨Nat.le_refl _, Nat.le_refl _⟩ h (fun r10 M11 h => ?_)
      refine H_vV mf41 (As := [.inl r10]) (st := []) (ck dc41 (i := 16) rfl) lk_Clearing_66 rfl rfl (Nat.le_of_ble_eq_true rfl) ly11 ra11 ⟨Nat.le_refl _, Nat.le_refl _⟩ h (fun M13 h => ?_)
      refine G_goto (tgt := 46) (by decide) (ck dc41 (i := 17) rfl) ?_
      refine G_iinc (L' := [(1, .inl (l1 + 1)), (2, .inl r2), (0, .inr (.inr 11))]) 2 rfl (mfx.lt mf41 (Nat.le_of_ble_eq_true rfl)) rfl (ck dc41 (i := 24) rfl) ?_
      refine G_goto (tgt := 6) (by decide) (ck dc41 (i := 25) rfl) ?_
      exact G_sub [2, 0] rfl h
theorem c_cp_hasRound (K : Nat) (a1 : Int) (M : PM) (Q : Option PV → PM → Prop)
    (h : R32 a1 ∧ (a1 < 0 → Q (some (.inl 0)) M) ∧ (¬ a1 < 0 → R32 (M 11 0) ∧ ((M 11 0) < a1 → Q (some (.inl 0)) M) ∧ (¬ (M 11 0) < a1 → Q (some (.inl 1)) M))) : Call (K + 1) jClearing_hasRound [.inr (.inr 11), .inl a1] P0 P0 M Q := by
  refine Call.intro (by decide +kernel) (mfx.le mf70 (Nat.le_of_ble_eq_true rfl)) (Nat.le_refl _) rfl ?_
  refine G_iload_n 1 rfl rfl (ck dc70 (i := 0) rfl) ?_
  obtain ⟨o1, h⟩ := h
  refine G_if_lt (tgt := 16) (by decide) o1 (ck dc70 (i := 1) rfl) (fun c => ?_) (fun c => ?_)
  · replace h := h.1 c
    refine G_iconst (ck dc70 (i := 8) rfl) ?_
    exact H_iretZ mf70 (ck dc70 (i := 9) rfl) rfl (Or.inl rfl) h
  · replace h := h.2 c
    refine G_iload_n 1 rfl rfl (ck dc70 (i := 2) rfl) ?_
    refine G_aload_n 0 rfl rfl (ck dc70 (i := 3) rfl) ?_
    refine H_getI mf70 (ck dc70 (i := 4) rfl) fw_Clearing_77 (Or.inl fc1_0) ly11 ra11 (x := (M 11 0)) rfl ?_
    obtain ⟨o2, h⟩ := h
    refine G_icmp_gt (tgt := 16) (by decide) o1 o2 (ck dc70 (i := 5) rfl) (fun c => ?_) (fun c => ?_)
    · replace h := h.1 c
      refine G_iconst (ck dc70 (i := 8) rfl) ?_
      exact H_iretZ mf70 (ck dc70 (i := 9) rfl) rfl (Or.inl rfl) h
    · replace h := h.2 c
      refine G_iconst (ck dc70 (i := 6) rfl) ?_
      refine G_goto (tgt := 17) (by decide) (ck dc70 (i := 7) rfl) ?_
      exact H_iretZ mf70 (ck dc70 (i := 9) rfl) rfl (Or.inr rfl) h
theorem c_cp_top (K : Nat) (a1 a2 a3 : Int) (M : PM) (Q : Option PV → PM → Prop)
    (h : (0 ≤ (((a1 * 15) + (a2 * 3)) + a3) ∧ (((a1 * 15) + (a2 * 3)) + a3) < 90) ∧ Q (some (.inr (.inl (M 13 (((a1 * 15) + (a2 * 3)) + a3))))) M) : Call (K + 1) jClearing_top [.inr (.inr 11), .inl a1, .inl a2, .inl a3] P0 P0 M Q := by
  refine Call.intro (by decide +kernel) (mfx.le mf71 (Nat.le_of_ble_eq_true rfl)) (Nat.le_refl _) rfl ?_
  refine G_aload_n 0 rfl rfl (ck dc71 (i := 0) rfl) ?_
  refine H_getR mf71 (ck dc71 (i := 1) rfl) fw_Clearing_15 fc1_5 ly11 ra11 rf11_5 (by decide) ?_
  refine G_iload_n 1 rfl rfl (ck dc71 (i := 2) rfl) ?_
  refine G_bipush (n := 15) rfl (ck dc71 (i := 3) rfl) ?_
  refine G_imul (ck dc71 (i := 4) rfl) ?_
  refine G_iload_n 2 rfl rfl (ck dc71 (i := 5) rfl) ?_
  refine G_iconst (ck dc71 (i := 6) rfl) ?_
  refine G_imul (ck dc71 (i := 7) rfl) ?_
  refine G_iadd (ck dc71 (i := 8) rfl) ?_
  refine G_iload_n 3 rfl rfl (ck dc71 (i := 9) rfl) ?_
  refine G_iadd (ck dc71 (i := 10) rfl) ?_
  obtain ⟨o1, h⟩ := h
  refine H_lald (ck dc71 (i := 11) rfl) ly13 (by decide) ra13 o1 (x := (M 13 (((a1 * 15) + (a2 * 3)) + a3))) rfl ?_
  exact H_lret mf71 (ck dc71 (i := 12) rfl) rfl h
theorem c_cp_bottom (K : Nat) (a1 : Int) (M : PM) (Q : Option PV → PM → Prop)
    (h : (0 ≤ a1 ∧ a1 < 6) ∧ Q (some (.inr (.inl (M 14 a1)))) M) : Call (K + 1) jClearing_bottom [.inr (.inr 11), .inl a1] P0 P0 M Q := by
  refine Call.intro (by decide +kernel) (mfx.le mf72 (Nat.le_of_ble_eq_true rfl)) (Nat.le_refl _) rfl ?_
  refine G_aload_n 0 rfl rfl (ck dc72 (i := 0) rfl) ?_
  refine H_getR mf72 (ck dc72 (i := 1) rfl) fw_Clearing_19 fc1_6 ly11 ra11 rf11_6 (by decide) ?_
  refine G_iload_n 1 rfl rfl (ck dc72 (i := 2) rfl) ?_
  obtain ⟨o1, h⟩ := h
  refine H_lald (ck dc72 (i := 3) rfl) ly14 (by decide) ra14 o1 (x := (M 14 a1)) rfl ?_
  exact H_lret mf72 (ck dc72 (i := 4) rfl) rfl h
theorem c_cp_remains (K : Nat) (a1 : Int) (M : PM) (Q : Option PV → PM → Prop)
    (h : Call K jClearing_fell [.inr (.inr 11), .inl a1] P0 P0 M (retI fun r1 M2 => R32 r1 ∧ (r1 = 0 → Call K jClearing_wealth [.inr (.inr 11), .inl (M2 11 0), .inl a1] P0 P0 M2 (retL fun r4 M5 => (0 ≤ (M5 11 0) ∧ (M5 11 0) < 6) ∧ (0 ≤ a1 ∧ a1 < 5) ∧ R32 (M5 16 a1) ∧ Q (some (.inr (.inl (r4 - ((M5 14 (M5 11 0)) * (M5 16 a1)))))) M5)) ∧ (¬ r1 = 0 → Q (some (.inr (.inl 0))) M2))) : Call (K + 1) jClearing_remains [.inr (.inr 11), .inl a1] P0 P0 M Q := by
  refine Call.intro (by decide +kernel) (mfx.le mf78 (Nat.le_of_ble_eq_true rfl)) (Nat.le_refl _) rfl ?_
  refine G_aload_n 0 rfl rfl (ck dc78 (i := 0) rfl) ?_
  refine G_iload_n 1 rfl rfl (ck dc78 (i := 1) rfl) ?_
  refine H_vZ mf78 (As := [.inl a1]) (st := []) (ck dc78 (i := 2) rfl) lk_Clearing_112 rfl rfl (Nat.le_of_ble_eq_true rfl) ly11 ra11 ⟨Nat.le_refl _, Nat.le_refl _⟩ h (fun r1 M2 h => ?_)
  obtain ⟨o3, h⟩ := h
  refine G_if_eq (tgt := 12) (by decide) o3 (ck dc78 (i := 3) rfl) (fun c => ?_) (fun c => ?_)
  · replace h := h.1 c
    refine G_aload_n 0 rfl rfl (ck dc78 (i := 6) rfl) ?_
    refine G_aload_n 0 rfl rfl (ck dc78 (i := 7) rfl) ?_
    refine H_getI mf78 (ck dc78 (i := 8) rfl) fw_Clearing_77 (Or.inl fc1_0) ly11 ra11 (x := (M2 11 0)) rfl ?_
    refine G_iload_n 1 rfl rfl (ck dc78 (i := 9) rfl) ?_
    refine H_vL mf78 (As := [.inl (M2 11 0), .inl a1]) (st := []) (ck dc78 (i := 10) rfl) lk_Clearing_167 rfl rfl (Nat.le_of_ble_eq_true rfl) ly11 ra11 ⟨Nat.le_refl _, Nat.le_refl _⟩ h (fun r4 M5 h => ?_)
    refine G_aload_n 0 rfl rfl (ck dc78 (i := 11) rfl) ?_
    refine H_getR mf78 (ck dc78 (i := 12) rfl) fw_Clearing_19 fc1_6 ly11 ra11 rf11_6 (by decide) ?_
    refine G_aload_n 0 rfl rfl (ck dc78 (i := 13) rfl) ?_
    refine H_getI mf78 (ck dc78 (i := 14) rfl) fw_Clearing_77 (Or.inl fc1_0) ly11 ra11 (x := (M5 11 0)) rfl ?_
    obtain ⟨o6, h⟩ := h
    refine H_lald (ck dc78 (i := 15) rfl) ly14 (by decide) ra14 o6 (x := (M5 14 (M5 11 0))) rfl ?_
    refine G_aload_n 0 rfl rfl (ck dc78 (i := 16) rfl) ?_
    refine H_getR mf78 (ck dc78 (i := 17) rfl) fw_Clearing_25 fc1_8 ly11 ra11 rf11_8 (by decide) ?_
    refine G_iload_n 1 rfl rfl (ck dc78 (i := 18) rfl) ?_
    obtain ⟨o7, h⟩ := h
    refine H_iald (ck dc78 (i := 19) rfl) ly16 (by decide) ra16 o7 (x := (M5 16 a1)) rfl ?_
    obtain ⟨o8, h⟩ := h
    refine G_i2l o8 (ck dc78 (i := 20) rfl) ?_
    refine G_lmul (ck dc78 (i := 21) rfl) ?_
    refine G_lsub (ck dc78 (i := 22) rfl) ?_
    exact H_lret mf78 (ck dc78 (i := 23) rfl) rfl h
  · replace h := h.2 c
    refine G_lconst (v := 0) rfl (ck dc78 (i := 4) rfl) ?_
    refine G_goto (tgt := 39) (by decide) (ck dc78 (i := 5) rfl) ?_
    exact H_lret mf78 (ck dc78 (i := 23) rfl) rfl h
set_option maxHeartbeats 20000000 in
theorem c_cp_wasteTenths (K : Nat) (a1 : Int) (M : PM) (Q : Option PV → PM → Prop)
    (h : Call K jClearing_fell [.inr (.inr 11), .inl a1] P0 P0 M (retI fun r1 M2 => R32 r1 ∧ (¬ r1 = 0 → (0 ≤ (M2 11 0) ∧ (M2 11 0) < 6) ∧ (0 ≤ a1 ∧ a1 < 5) ∧ R32 (M2 2 a1) ∧ R32 (10 - (M2 1 1)) ∧ Call K jClearing_income [.inr (.inr 11), .inl (M2 11 0), .inl a1] P0 P0 M2 (retL fun r8 M9 => R32 (10 - (M9 1 2)) ∧ Q (some (.inr (.inl ((((M2 14 (M2 11 0)) * (M2 2 a1)) * (10 - (M2 1 1))) + (r8 * (10 - (M9 1 2))))))) M9)) ∧ (r1 = 0 → Q (some (.inr (.inl 0))) M2))) : Call (K + 1) jClearing_wasteTenths [.inr (.inr 11), .inl a1] P0 P0 M Q := by
  refine Call.intro (by decide +kernel) (mfx.le mf80 (Nat.le_of_ble_eq_true rfl)) (Nat.le_refl _) rfl ?_
  refine G_aload_n 0 rfl rfl (ck dc80 (i := 0) rfl) ?_
  refine G_iload_n 1 rfl rfl (ck dc80 (i := 1) rfl) ?_
  refine H_vZ mf80 (As := [.inl a1]) (st := []) (ck dc80 (i := 2) rfl) lk_Clearing_112 rfl rfl (Nat.le_of_ble_eq_true rfl) ly11 ra11 ⟨Nat.le_refl _, Nat.le_refl _⟩ h (fun r1 M2 h => ?_)
  obtain ⟨o3, h⟩ := h
  refine G_if_ne (tgt := 10) (by decide) o3 (ck dc80 (i := 3) rfl) (fun c => ?_) (fun c => ?_)
  · replace h := h.1 c
    refine G_aload_n 0 rfl rfl (ck dc80 (i := 6) rfl) ?_
    refine H_getR mf80 (ck dc80 (i := 7) rfl) fw_Clearing_19 fc1_6 ly11 ra11 rf11_6 (by decide) ?_
    refine G_aload_n 0 rfl rfl (ck dc80 (i := 8) rfl) ?_
    refine H_getI mf80 (ck dc80 (i := 9) rfl) fw_Clearing_77 (Or.inl fc1_0) ly11 ra11 (x := (M2 11 0)) rfl ?_
    obtain ⟨o4, h⟩ := h
    refine H_lald (ck dc80 (i := 10) rfl) ly14 (by decide) ra14 o4 (x := (M2 14 (M2 11 0))) rfl ?_
    refine G_aload_n 0 rfl rfl (ck dc80 (i := 11) rfl) ?_
    refine H_getR mf80 (ck dc80 (i := 12) rfl) fw_Clearing_52 fc1_4 ly11 ra11 rf11_4 (by decide) ?_
    refine G_iload_n 1 rfl rfl (ck dc80 (i := 13) rfl) ?_
    obtain ⟨o5, h⟩ := h
    refine H_iald (ck dc80 (i := 14) rfl) ly2 (by decide) ra2 o5 (x := (M2 2 a1)) rfl ?_
    obtain ⟨o6, h⟩ := h
    refine G_i2l o6 (ck dc80 (i := 15) rfl) ?_
    refine G_lmul (ck dc80 (i := 16) rfl) ?_
    refine G_bipush (n := 10) rfl (ck dc80 (i := 17) rfl) ?_
    refine G_aload_n 0 rfl rfl (ck dc80 (i := 18) rfl) ?_
    refine H_getR mf80 (ck dc80 (i := 19) rfl) fw_Clearing_48 fc1_3 ly11 ra11 rf11_3 (by decide) ?_
    refine H_getI mf80 (ck dc80 (i := 20) rfl) fw_Clearing_97 (Or.inl fc0_1) ly1 ra1 (x := (M2 1 1)) rfl ?_
    refine G_isub (ck dc80 (i := 21) rfl) ?_
    obtain ⟨o7, h⟩ := h
    refine G_i2l o7 (ck dc80 (i := 22) rfl) ?_
    refine G_lmul (ck dc80 (i := 23) rfl) ?_
    refine G_lstore_n (L' := [(2, .inr (.inl (((M2 14 (M2 11 0)) * (M2 2 a1)) * (10 - (M2 1 1))))), (0, .inr (.inr 11)), (1, .inl a1)]) rfl (mfx.lt mf80 (Nat.le_of_ble_eq_true rfl)) rfl (ck dc80 (i := 24) rfl) ?_
    refine G_lload_n 0 rfl rfl (ck dc80 (i := 25) rfl) ?_
    refine G_aload_n 1 rfl rfl (ck dc80 (i := 26) rfl) ?_
    refine G_aload_n 1 rfl rfl (ck dc80 (i := 27) rfl) ?_
    refine H_getI mf80 (ck dc80 (i := 28) rfl) fw_Clearing_77 (Or.inl fc1_0) ly11 ra11 (x := (M2 11 0)) rfl ?_
    refine G_iload_n 2 rfl rfl (ck dc80 (i := 29) rfl) ?_
    refine H_vL mf80 (As := [.inl (M2 11 0), .inl a1]) (st := [.inr (.inl (((M2 14 (M2 11 0)) * (M2 2 a1)) * (10 - (M2 1 1))))]) (ck dc80 (i := 30) rfl) lk_Clearing_103 rfl rfl (Nat.le_of_ble_eq_true rfl) ly11 ra11 ⟨Nat.le_refl _, Nat.le_refl _⟩ h (fun r8 M9 h => ?_)
    refine G_bipush (n := 10) rfl (ck dc80 (i := 31) rfl) ?_
    refine G_aload_n 1 rfl rfl (ck dc80 (i := 32) rfl) ?_
    refine H_getR mf80 (ck dc80 (i := 33) rfl) fw_Clearing_48 fc1_3 ly11 ra11 rf11_3 (by decide) ?_
    refine H_getI mf80 (ck dc80 (i := 34) rfl) fw_Clearing_100 (Or.inl fc0_2) ly1 ra1 (x := (M9 1 2)) rfl ?_
    refine G_isub (ck dc80 (i := 35) rfl) ?_
    obtain ⟨o10, h⟩ := h
    refine G_i2l o10 (ck dc80 (i := 36) rfl) ?_
    refine G_lmul (ck dc80 (i := 37) rfl) ?_
    refine G_ladd (ck dc80 (i := 38) rfl) ?_
    exact H_lret mf80 (ck dc80 (i := 39) rfl) rfl h
  · replace h := h.2 c
    refine G_lconst (v := 0) rfl (ck dc80 (i := 4) rfl) ?_
    exact H_lret mf80 (ck dc80 (i := 5) rfl) rfl h
theorem c_cp_missing (K : Nat) (a1 a2 a3 : Int) (M : PM) (Q : Option PV → PM → Prop)
    (h : G none (K + 1) jClearing_missing 6 [(0, .inr (.inr 11)), (1, .inl a1), (2, .inl a2), (3, .inl a3), (4, .inr (.inl 0)), (6, .inl 0)] [] P0 P0 M Q) : Call (K + 1) jClearing_missing [.inr (.inr 11), .inl a1, .inl a2, .inl a3] P0 P0 M Q := by
  refine Call.intro (by decide +kernel) (mfx.le mf82 (Nat.le_of_ble_eq_true rfl)) (Nat.le_refl _) rfl ?_
  refine G_lconst (v := 0) rfl (ck dc82 (i := 0) rfl) ?_
  refine G_lstore (L' := [(4, .inr (.inl 0)), (0, .inr (.inr 11)), (1, .inl a1), (2, .inl a2), (3, .inl a3)]) (mfx.lt mf82 (Nat.le_of_ble_eq_true rfl)) rfl (ck dc82 (i := 1) rfl) ?_
  refine G_iconst (ck dc82 (i := 2) rfl) ?_
  refine G_istore (L' := [(6, .inl 0), (4, .inr (.inl 0)), (0, .inr (.inr 11)), (1, .inl a1), (2, .inl a2), (3, .inl a3)]) (mfx.lt mf82 (Nat.le_of_ble_eq_true rfl)) rfl (ck dc82 (i := 3) rfl) ?_
  exact G_sub [2, 3, 4, 5, 1, 0] rfl h
theorem g_cp_missing_6 (K : Nat) (l1 l2 l3 l4 l6 : Int) (M : PM) (Q : Option PV → PM → Prop)
    (h : R32 l6 ∧ (3 ≤ l6 → Q (some (.inr (.inl l4))) M) ∧ (¬ 3 ≤ l6 → Call K jBook_amount [.inr (.inr 1), .inl l3, .inl l2, .inl l6] P0 P0 M (retI fun r2 M3 => R32 r2 ∧ (0 ≤ l1 ∧ l1 < 6) ∧ Call K jClearing_top [.inr (.inr 11), .inl l1, .inl l3, .inl l6] P0 P0 M3 (retL fun r6 M7 => G none (K + 1) jClearing_missing 6 [(0, .inr (.inr 11)), (1, .inl l1), (2, .inl l2), (3, .inl l3), (4, .inr (.inl (l4 + (r2 * ((M3 14 l1) - r6))))), (6, .inl (l6 + 1))] [] P0 P0 M7 Q)))) : G none (K + 1) jClearing_missing 6 [(0, .inr (.inr 11)), (1, .inl l1), (2, .inl l2), (3, .inl l3), (4, .inr (.inl l4)), (6, .inl l6)] [] P0 P0 M Q := by
  refine G_iload 5 rfl (ck dc82 (i := 4) rfl) ?_
  refine G_iconst (ck dc82 (i := 5) rfl) ?_
  obtain ⟨o1, h⟩ := h
  refine G_icmp_ge (tgt := 51) (by decide) o1 (by decide) (ck dc82 (i := 6) rfl) (fun c => ?_) (fun c => ?_)
  · replace h := h.1 c
    refine G_lload 4 rfl (ck dc82 (i := 30) rfl) ?_
    exact H_lret mf82 (ck dc82 (i := 31) rfl) rfl h
  · replace h := h.2 c
    refine G_lload 4 rfl (ck dc82 (i := 7) rfl) ?_
    refine G_aload_n 0 rfl rfl (ck dc82 (i := 8) rfl) ?_
    refine H_getR mf82 (ck dc82 (i := 9) rfl) fw_Clearing_48 fc1_3 ly11 ra11 rf11_3 (by decide) ?_
    refine G_iload_n 3 rfl rfl (ck dc82 (i := 10) rfl) ?_
    refine G_iload_n 2 rfl rfl (ck dc82 (i := 11) rfl) ?_
    refine G_iload 5 rfl (ck dc82 (i := 12) rfl) ?_
    refine H_vI mf82 (As := [.inl l3, .inl l2, .inl l6]) (st := [.inr (.inl l4)]) (ck dc82 (i := 13) rfl) lk_Clearing_126 rfl rfl (Nat.le_of_ble_eq_true rfl) ly1 ra1 ⟨Nat.le_refl _, Nat.le_refl _⟩ h (fun r2 M3 h => ?_)
    obtain ⟨o4, h⟩ := h
    refine G_i2l o4 (ck dc82 (i := 14) rfl) ?_
    refine G_aload_n 0 rfl rfl (ck dc82 (i := 15) rfl) ?_
    refine H_getR mf82 (ck dc82 (i := 16) rfl) fw_Clearing_19 fc1_6 ly11 ra11 rf11_6 (by decide) ?_
    refine G_iload_n 1 rfl rfl (ck dc82 (i := 17) rfl) ?_
    obtain ⟨o5, h⟩ := h
    refine H_lald (ck dc82 (i := 18) rfl) ly14 (by decide) ra14 o5 (x := (M3 14 l1)) rfl ?_
    refine G_aload_n 0 rfl rfl (ck dc82 (i := 19) rfl) ?_
    refine G_iload_n 1 rfl rfl (ck dc82 (i := 20) rfl) ?_
    refine G_iload_n 3 rfl rfl (ck dc82 (i := 21) rfl) ?_
    refine G_iload 5 rfl (ck dc82 (i := 22) rfl) ?_
    refine H_vL mf82 (As := [.inl l1, .inl l3, .inl l6]) (st := [.inr (.inl (M3 14 l1)), .inr (.inl r2), .inr (.inl l4)]) (ck dc82 (i := 23) rfl) lk_Clearing_173 rfl rfl (Nat.le_of_ble_eq_true rfl) ly11 ra11 ⟨Nat.le_refl _, Nat.le_refl _⟩ h (fun r6 M7 h => ?_)
    refine G_lsub (ck dc82 (i := 24) rfl) ?_
    refine G_lmul (ck dc82 (i := 25) rfl) ?_
    refine G_ladd (ck dc82 (i := 26) rfl) ?_
    refine G_lstore (L' := [(4, .inr (.inl (l4 + (r2 * ((M3 14 l1) - r6))))), (0, .inr (.inr 11)), (1, .inl l1), (2, .inl l2), (3, .inl l3), (6, .inl l6)]) (mfx.lt mf82 (Nat.le_of_ble_eq_true rfl)) rfl (ck dc82 (i := 27) rfl) ?_
    refine G_iinc (L' := [(6, .inl (l6 + 1)), (4, .inr (.inl (l4 + (r2 * ((M3 14 l1) - r6))))), (0, .inr (.inr 11)), (1, .inl l1), (2, .inl l2), (3, .inl l3)]) 5 rfl (mfx.lt mf82 (Nat.le_of_ble_eq_true rfl)) rfl (ck dc82 (i := 28) rfl) ?_
    refine G_goto (tgt := 6) (by decide) (ck dc82 (i := 29) rfl) ?_
    exact G_sub [2, 3, 4, 5, 1, 0] rfl h
theorem c_cp_pays (K : Nat) (a1 : Int) (M : PM) (Q : Option PV → PM → Prop)
    (h : G none (K + 1) jClearing_pays 5 [(0, .inr (.inr 11)), (1, .inl a1), (2, .inr (.inl 0)), (4, .inl 0)] [] P0 P0 M Q) : Call (K + 1) jClearing_pays [.inr (.inr 11), .inl a1] P0 P0 M Q := by
  refine Call.intro (by decide +kernel) (mfx.le mf85 (Nat.le_of_ble_eq_true rfl)) (Nat.le_refl _) rfl ?_
  refine G_lconst (v := 0) rfl (ck dc85 (i := 0) rfl) ?_
  refine G_lstore_n (L' := [(2, .inr (.inl 0)), (0, .inr (.inr 11)), (1, .inl a1)]) rfl (mfx.lt mf85 (Nat.le_of_ble_eq_true rfl)) rfl (ck dc85 (i := 1) rfl) ?_
  refine G_iconst (ck dc85 (i := 2) rfl) ?_
  refine G_istore (L' := [(4, .inl 0), (2, .inr (.inl 0)), (0, .inr (.inr 11)), (1, .inl a1)]) (mfx.lt mf85 (Nat.le_of_ble_eq_true rfl)) rfl (ck dc85 (i := 3) rfl) ?_
  exact G_sub [2, 3, 1, 0] rfl h
theorem g_cp_pays_5 (K : Nat) (l1 l2 l4 : Int) (M : PM) (Q : Option PV → PM → Prop)
    (h : R32 l4 ∧ (3 ≤ l4 → Q (some (.inr (.inl l2))) M) ∧ (¬ 3 ≤ l4 → (0 ≤ ((l1 * 3) + l4) ∧ ((l1 * 3) + l4) < 15) ∧ R32 (M 15 ((l1 * 3) + l4)) ∧ Call K jClearing_top [.inr (.inr 11), .inl (M 11 0), .inl l1, .inl l4] P0 P0 M (retL fun r4 M5 => G none (K + 1) jClearing_pays 5 [(0, .inr (.inr 11)), (1, .inl l1), (2, .inr (.inl (l2 + ((M 15 ((l1 * 3) + l4)) * r4)))), (4, .inl (l4 + 1))] [] P0 P0 M5 Q))) : G none (K + 1) jClearing_pays 5 [(0, .inr (.inr 11)), (1, .inl l1), (2, .inr (.inl l2)), (4, .inl l4)] [] P0 P0 M Q := by
  refine G_iload 3 rfl (ck dc85 (i := 4) rfl) ?_
  refine G_iconst (ck dc85 (i := 5) rfl) ?_
  obtain ⟨o1, h⟩ := h
  refine G_icmp_ge (tgt := 44) (by decide) o1 (by decide) (ck dc85 (i := 6) rfl) (fun c => ?_) (fun c => ?_)
  · replace h := h.1 c
    refine G_lload_n 2 rfl rfl (ck dc85 (i := 28) rfl) ?_
    exact H_lret mf85 (ck dc85 (i := 29) rfl) rfl h
  · replace h := h.2 c
    refine G_lload_n 2 rfl rfl (ck dc85 (i := 7) rfl) ?_
    refine G_aload_n 0 rfl rfl (ck dc85 (i := 8) rfl) ?_
    refine H_getR mf85 (ck dc85 (i := 9) rfl) fw_Clearing_22 fc1_7 ly11 ra11 rf11_7 (by decide) ?_
    refine G_iload_n 1 rfl rfl (ck dc85 (i := 10) rfl) ?_
    refine G_iconst (ck dc85 (i := 11) rfl) ?_
    refine G_imul (ck dc85 (i := 12) rfl) ?_
    refine G_iload 3 rfl (ck dc85 (i := 13) rfl) ?_
    refine G_iadd (ck dc85 (i := 14) rfl) ?_
    obtain ⟨o2, h⟩ := h
    refine H_iald (ck dc85 (i := 15) rfl) ly15 (by decide) ra15 o2 (x := (M 15 ((l1 * 3) + l4))) rfl ?_
    obtain ⟨o3, h⟩ := h
    refine G_i2l o3 (ck dc85 (i := 16) rfl) ?_
    refine G_aload_n 0 rfl rfl (ck dc85 (i := 17) rfl) ?_
    refine G_aload_n 0 rfl rfl (ck dc85 (i := 18) rfl) ?_
    refine H_getI mf85 (ck dc85 (i := 19) rfl) fw_Clearing_77 (Or.inl fc1_0) ly11 ra11 (x := (M 11 0)) rfl ?_
    refine G_iload_n 1 rfl rfl (ck dc85 (i := 20) rfl) ?_
    refine G_iload 3 rfl (ck dc85 (i := 21) rfl) ?_
    refine H_vL mf85 (As := [.inl (M 11 0), .inl l1, .inl l4]) (st := [.inr (.inl (M 15 ((l1 * 3) + l4))), .inr (.inl l2)]) (ck dc85 (i := 22) rfl) lk_Clearing_173 rfl rfl (Nat.le_of_ble_eq_true rfl) ly11 ra11 ⟨Nat.le_refl _, Nat.le_refl _⟩ h (fun r4 M5 h => ?_)
    refine G_lmul (ck dc85 (i := 23) rfl) ?_
    refine G_ladd (ck dc85 (i := 24) rfl) ?_
    refine G_lstore_n (L' := [(2, .inr (.inl (l2 + ((M 15 ((l1 * 3) + l4)) * r4)))), (0, .inr (.inr 11)), (1, .inl l1), (4, .inl l4)]) rfl (mfx.lt mf85 (Nat.le_of_ble_eq_true rfl)) rfl (ck dc85 (i := 25) rfl) ?_
    refine G_iinc (L' := [(4, .inl (l4 + 1)), (2, .inr (.inl (l2 + ((M 15 ((l1 * 3) + l4)) * r4)))), (0, .inr (.inr 11)), (1, .inl l1)]) 3 rfl (mfx.lt mf85 (Nat.le_of_ble_eq_true rfl)) rfl (ck dc85 (i := 26) rfl) ?_
    refine G_goto (tgt := 5) (by decide) (ck dc85 (i := 27) rfl) ?_
    exact G_sub [2, 3, 1, 0] rfl h
theorem c_cp_allPaid (K : Nat) (M : PM) (Q : Option PV → PM → Prop)
    (h : G none (K + 1) jClearing_allPaid 4 [(0, .inr (.inr 11)), (1, .inr (.inl 0)), (3, .inl 0)] [] P0 P0 M Q) : Call (K + 1) jClearing_allPaid [.inr (.inr 11)] P0 P0 M Q := by
  refine Call.intro (by decide +kernel) (mfx.le mf84 (Nat.le_of_ble_eq_true rfl)) (Nat.le_refl _) rfl ?_
  refine G_lconst (v := 0) rfl (ck dc84 (i := 0) rfl) ?_
  refine G_lstore_n (L' := [(1, .inr (.inl 0)), (0, .inr (.inr 11))]) rfl (mfx.lt mf84 (Nat.le_of_ble_eq_true rfl)) rfl (ck dc84 (i := 1) rfl) ?_
  refine G_iconst (ck dc84 (i := 2) rfl) ?_
  refine G_istore_n (L' := [(3, .inl 0), (1, .inr (.inl 0)), (0, .inr (.inr 11))]) rfl (mfx.lt mf84 (Nat.le_of_ble_eq_true rfl)) rfl (ck dc84 (i := 3) rfl) ?_
  exact G_sub [2, 1, 0] rfl h
theorem g_cp_allPaid_4 (K : Nat) (l1 l3 : Int) (M : PM) (Q : Option PV → PM → Prop)
    (h : R32 l3 ∧ R32 (M 1 0) ∧ ((M 1 0) ≤ l3 → Q (some (.inr (.inl l1))) M) ∧ (¬ (M 1 0) ≤ l3 → Call K jClearing_pays [.inr (.inr 11), .inl l3] P0 P0 M (retL fun r3 M4 => G none (K + 1) jClearing_allPaid 4 [(0, .inr (.inr 11)), (1, .inr (.inl (l1 + r3))), (3, .inl (l3 + 1))] [] P0 P0 M4 Q))) : G none (K + 1) jClearing_allPaid 4 [(0, .inr (.inr 11)), (1, .inr (.inl l1)), (3, .inl l3)] [] P0 P0 M Q := by
  refine G_iload_n 2 rfl rfl (ck dc84 (i := 4) rfl) ?_
  refine G_aload_n 0 rfl rfl (ck dc84 (i := 5) rfl) ?_
  refine H_getR mf84 (ck dc84 (i := 6) rfl) fw_Clearing_48 fc1_3 ly11 ra11 rf11_3 (by decide) ?_
  refine H_getI mf84 (ck dc84 (i := 7) rfl) fw_Clearing_109 (Or.inl fc0_0) ly1 ra1 (x := (M 1 0)) rfl ?_
  obtain ⟨o1, h⟩ := h
  obtain ⟨o2, h⟩ := h
  refine G_icmp_ge (tgt := 29) (by decide) o1 o2 (ck dc84 (i := 8) rfl) (fun c => ?_) (fun c => ?_)
  · replace h := h.1 c
    refine G_lload_n 1 rfl rfl (ck dc84 (i := 17) rfl) ?_
    exact H_lret mf84 (ck dc84 (i := 18) rfl) rfl h
  · replace h := h.2 c
    refine G_lload_n 1 rfl rfl (ck dc84 (i := 9) rfl) ?_
    refine G_aload_n 0 rfl rfl (ck dc84 (i := 10) rfl) ?_
    refine G_iload_n 2 rfl rfl (ck dc84 (i := 11) rfl) ?_
    refine H_vL mf84 (As := [.inl l3]) (st := [.inr (.inl l1)]) (ck dc84 (i := 12) rfl) lk_Clearing_176 rfl rfl (Nat.le_of_ble_eq_true rfl) ly11 ra11 ⟨Nat.le_refl _, Nat.le_refl _⟩ h (fun r3 M4 h => ?_)
    refine G_ladd (ck dc84 (i := 13) rfl) ?_
    refine G_lstore_n (L' := [(1, .inr (.inl (l1 + r3))), (0, .inr (.inr 11)), (3, .inl l3)]) rfl (mfx.lt mf84 (Nat.le_of_ble_eq_true rfl)) rfl (ck dc84 (i := 14) rfl) ?_
    refine G_iinc (L' := [(3, .inl (l3 + 1)), (1, .inr (.inl (l1 + r3))), (0, .inr (.inr 11))]) 2 rfl (mfx.lt mf84 (Nat.le_of_ble_eq_true rfl)) rfl (ck dc84 (i := 15) rfl) ?_
    refine G_goto (tgt := 4) (by decide) (ck dc84 (i := 16) rfl) ?_
    exact G_sub [2, 1, 0] rfl h
theorem c_cp_causeOf (K : Nat) (a1 : Int) (M : PM) (Q : Option PV → PM → Prop)
    (h : (0 ≤ a1 ∧ a1 < 5) ∧ G none (K + 1) jClearing_causeOf 17 [(0, .inr (.inr 11)), (1, .inl a1), (2, .inl (M 12 a1)), (3, .inl (-1)), (4, .inr (.inl (-1))), (6, .inl 0)] [] P0 P0 M Q) : Call (K + 1) jClearing_causeOf [.inr (.inr 11), .inl a1] P0 P0 M Q := by
  refine Call.intro (by decide +kernel) (mfx.le mf88 (Nat.le_of_ble_eq_true rfl)) (Nat.le_refl _) rfl ?_
  refine G_aload_n 0 rfl rfl (ck dc88 (i := 0) rfl) ?_
  refine H_getR mf88 (ck dc88 (i := 1) rfl) fw_Clearing_9 fc1_2 ly11 ra11 rf11_2 (by decide) ?_
  refine G_iload_n 1 rfl rfl (ck dc88 (i := 2) rfl) ?_
  obtain ⟨o1, h⟩ := h
  refine H_iald (ck dc88 (i := 3) rfl) ly12 (by decide) ra12 o1 (x := (M 12 a1)) rfl ?_
  refine G_istore_n (L' := [(2, .inl (M 12 a1)), (0, .inr (.inr 11)), (1, .inl a1)]) rfl (mfx.lt mf88 (Nat.le_of_ble_eq_true rfl)) rfl (ck dc88 (i := 4) rfl) ?_
  refine G_iconst (ck dc88 (i := 5) rfl) ?_
  refine G_istore_n (L' := [(3, .inl (-1)), (2, .inl (M 12 a1)), (0, .inr (.inr 11)), (1, .inl a1)]) rfl (mfx.lt mf88 (Nat.le_of_ble_eq_true rfl)) rfl (ck dc88 (i := 6) rfl) ?_
  refine H_ldc2 mf88 (v := (-1)) (ck dc88 (i := 7) rfl) kl_Clearing_179 ?_
  refine G_lstore (L' := [(4, .inr (.inl (-1))), (3, .inl (-1)), (2, .inl (M 12 a1)), (0, .inr (.inr 11)), (1, .inl a1)]) (mfx.lt mf88 (Nat.le_of_ble_eq_true rfl)) rfl (ck dc88 (i := 8) rfl) ?_
  refine G_iconst (ck dc88 (i := 9) rfl) ?_
  refine G_istore (L' := [(6, .inl 0), (4, .inr (.inl (-1))), (3, .inl (-1)), (2, .inl (M 12 a1)), (0, .inr (.inr 11)), (1, .inl a1)]) (mfx.lt mf88 (Nat.le_of_ble_eq_true rfl)) rfl (ck dc88 (i := 10) rfl) ?_
  exact G_sub [4, 5, 3, 2, 1, 0] rfl h
set_option maxHeartbeats 20000000 in
theorem g_cp_causeOf_17 (K : Nat) (l1 l2 l3 l4 l6 : Int) (M : PM) (Q : Option PV → PM → Prop)
    (h : R32 l6 ∧ R32 (M 1 0) ∧ ((M 1 0) ≤ l6 → Q (some (.inl l3)) M) ∧ (¬ (M 1 0) ≤ l6 → R32 l2 ∧ (l2 ≤ 1 → Q (some (.inl l3)) M) ∧ (¬ l2 ≤ 1 → (0 ≤ l6 ∧ l6 < 5) ∧ R32 (M 12 l6) ∧ ((M 12 l6) = 0 → G none (K + 1) jClearing_causeOf 17 [(0, .inr (.inr 11)), (1, .inl l1), (2, .inl l2), (3, .inl l3), (4, .inr (.inl l4)), (6, .inl (l6 + 1))] [] P0 P0 M Q) ∧ (¬ (M 12 l6) = 0 → ((M 12 l6) < l2 → Call K jClearing_missing [.inr (.inr 11), .inl (l2 - 1), .inl l1, .inl l6] P0 P0 M (retL fun r6 M7 => R64 r6 ∧ R64 l4 ∧ (r6 ≤ l4 → G none (K + 1) jClearing_causeOf 17 [(0, .inr (.inr 11)), (1, .inl l1), (2, .inl l2), (3, .inl l3), (4, .inr (.inl l4)), (6, .inl (l6 + 1))] [] P0 P0 M7 Q) ∧ (¬ r6 ≤ l4 → G none (K + 1) jClearing_causeOf 17 [(0, .inr (.inr 11)), (1, .inl l1), (2, .inl l2), (3, .inl l6), (4, .inr (.inl r6)), (6, .inl (l6 + 1))] [] P0 P0 M7 Q))) ∧ (¬ (M 12 l6) < l2 → G none (K + 1) jClearing_causeOf 17 [(0, .inr (.inr 11)), (1, .inl l1), (2, .inl l2), (3, .inl l3), (4, .inr (.inl l4)), (6, .inl (l6 + 1))] [] P0 P0 M Q))))) : G none (K + 1) jClearing_causeOf 17 [(0, .inr (.inr 11)), (1, .inl l1), (2, .inl l2), (3, .inl l3), (4, .inr (.inl l4)), (6, .inl l6)] [] P0 P0 M Q := by
  refine G_iload 5 rfl (ck dc88 (i := 11) rfl) ?_
  refine G_aload_n 0 rfl rfl (ck dc88 (i := 12) rfl) ?_
  refine H_getR mf88 (ck dc88 (i := 13) rfl) fw_Clearing_48 fc1_3 ly11 ra11 rf11_3 (by decide) ?_
  refine H_getI mf88 (ck dc88 (i := 14) rfl) fw_Clearing_109 (Or.inl fc0_0) ly1 ra1 (x := (M 1 0)) rfl ?_
  obtain ⟨o1, h⟩ := h
  obtain ⟨o2, h⟩ := h
  refine G_icmp_ge (tgt := 91) (by decide) o1 o2 (ck dc88 (i := 15) rfl) (fun c => ?_) (fun c => ?_)
  · replace h := h.1 c
    refine G_iload_n 3 rfl rfl (ck dc88 (i := 49) rfl) ?_
    exact H_iretI mf88 (ck dc88 (i := 50) rfl) rfl h
  · replace h := h.2 c
    refine G_iload_n 2 rfl rfl (ck dc88 (i := 16) rfl) ?_
    refine G_iconst (ck dc88 (i := 17) rfl) ?_
    obtain ⟨o3, h⟩ := h
    refine G_icmp_le (tgt := 91) (by decide) o3 (by decide) (ck dc88 (i := 18) rfl) (fun c => ?_) (fun c => ?_)
    · replace h := h.1 c
      refine G_iload_n 3 rfl rfl (ck dc88 (i := 49) rfl) ?_
      exact H_iretI mf88 (ck dc88 (i := 50) rfl) rfl h
    · replace h := h.2 c
      refine G_aload_n 0 rfl rfl (ck dc88 (i := 19) rfl) ?_
      refine H_getR mf88 (ck dc88 (i := 20) rfl) fw_Clearing_9 fc1_2 ly11 ra11 rf11_2 (by decide) ?_
      refine G_iload 5 rfl (ck dc88 (i := 21) rfl) ?_
      obtain ⟨o4, h⟩ := h
      refine H_iald (ck dc88 (i := 22) rfl) ly12 (by decide) ra12 o4 (x := (M 12 l6)) rfl ?_
      obtain ⟨o5, h⟩ := h
      refine G_if_eq (tgt := 85) (by decide) o5 (ck dc88 (i := 23) rfl) (fun c => ?_) (fun c => ?_)
      · replace h := h.1 c
        refine G_iinc (L' := [(6, .inl (l6 + 1)), (0, .inr (.inr 11)), (1, .inl l1), (2, .inl l2), (3, .inl l3), (4, .inr (.inl l4))]) 5 rfl (mfx.lt mf88 (Nat.le_of_ble_eq_true rfl)) rfl (ck dc88 (i := 47) rfl) ?_
        refine G_goto (tgt := 17) (by decide) (ck dc88 (i := 48) rfl) ?_
        exact G_sub [1, 2, 3, 4, 5, 0] rfl h
      · replace h := h.2 c
        refine G_aload_n 0 rfl rfl (ck dc88 (i := 24) rfl) ?_
        refine H_getR mf88 (ck dc88 (i := 25) rfl) fw_Clearing_9 fc1_2 ly11 ra11 rf11_2 (by decide) ?_
        refine G_iload 5 rfl (ck dc88 (i := 26) rfl) ?_
        refine H_iald (ck dc88 (i := 27) rfl) ly12 (by decide) ra12 o4 (x := (M 12 l6)) rfl ?_
        refine G_iload_n 2 rfl rfl (ck dc88 (i := 28) rfl) ?_
        refine G_icmp_lt (tgt := 58) (by decide) o5 o3 (ck dc88 (i := 29) rfl) (fun c => ?_) (fun c => ?_)
        · replace h := h.1 c
          refine G_aload_n 0 rfl rfl (ck dc88 (i := 31) rfl) ?_
          refine G_iload_n 2 rfl rfl (ck dc88 (i := 32) rfl) ?_
          refine G_iconst (ck dc88 (i := 33) rfl) ?_
          refine G_isub (ck dc88 (i := 34) rfl) ?_
          refine G_iload_n 1 rfl rfl (ck dc88 (i := 35) rfl) ?_
          refine G_iload 5 rfl (ck dc88 (i := 36) rfl) ?_
          refine H_vL mf88 (As := [.inl (l2 - 1), .inl l1, .inl l6]) (st := []) (ck dc88 (i := 37) rfl) lk_Clearing_181 rfl rfl (Nat.le_of_ble_eq_true rfl) ly11 ra11 ⟨Nat.le_refl _, Nat.le_refl _⟩ h (fun r6 M7 h => ?_)
          refine G_lstore (L' := [(7, .inr (.inl r6)), (0, .inr (.inr 11)), (1, .inl l1), (2, .inl l2), (3, .inl l3), (4, .inr (.inl l4)), (6, .inl l6)]) (mfx.lt mf88 (Nat.le_of_ble_eq_true rfl)) rfl (ck dc88 (i := 38) rfl) ?_
          refine G_lload 0 rfl (ck dc88 (i := 39) rfl) ?_
          refine G_lload 5 rfl (ck dc88 (i := 40) rfl) ?_
          obtain ⟨o8, h⟩ := h
          obtain ⟨o9, h⟩ := h
          refine G_lif_le (tgt := 85) (ck dc88 (i := 42) rfl) (by decide) o8 o9 (ck dc88 (i := 41) rfl) (fun c => ?_) (fun c => ?_)
          · replace h := h.1 c
            refine G_iinc (L' := [(6, .inl (l6 + 1)), (7, .inr (.inl r6)), (0, .inr (.inr 11)), (1, .inl l1), (2, .inl l2), (3, .inl l3), (4, .inr (.inl l4))]) 6 rfl (mfx.lt mf88 (Nat.le_of_ble_eq_true rfl)) rfl (ck dc88 (i := 47) rfl) ?_
            refine G_goto (tgt := 17) (by decide) (ck dc88 (i := 48) rfl) ?_
            exact G_sub [2, 3, 4, 5, 6, 0] rfl h
          · replace h := h.2 c
            refine G_lload 0 rfl (ck dc88 (i := 43) rfl) ?_
            refine G_lstore (L' := [(4, .inr (.inl r6)), (7, .inr (.inl r6)), (0, .inr (.inr 11)), (1, .inl l1), (2, .inl l2), (3, .inl l3), (6, .inl l6)]) (mfx.lt mf88 (Nat.le_of_ble_eq_true rfl)) rfl (ck dc88 (i := 44) rfl) ?_
            refine G_iload 6 rfl (ck dc88 (i := 45) rfl) ?_
            refine G_istore_n (L' := [(3, .inl l6), (4, .inr (.inl r6)), (7, .inr (.inl r6)), (0, .inr (.inr 11)), (1, .inl l1), (2, .inl l2), (6, .inl l6)]) rfl (mfx.lt mf88 (Nat.le_of_ble_eq_true rfl)) rfl (ck dc88 (i := 46) rfl) ?_
            refine G_iinc (L' := [(6, .inl (l6 + 1)), (3, .inl l6), (4, .inr (.inl r6)), (7, .inr (.inl r6)), (0, .inr (.inr 11)), (1, .inl l1), (2, .inl l2)]) 6 rfl (mfx.lt mf88 (Nat.le_of_ble_eq_true rfl)) rfl (ck dc88 (i := 47) rfl) ?_
            refine G_goto (tgt := 17) (by decide) (ck dc88 (i := 48) rfl) ?_
            exact G_sub [4, 5, 6, 1, 2, 0] rfl h
        · replace h := h.2 c
          refine G_goto (tgt := 85) (by decide) (ck dc88 (i := 30) rfl) ?_
          refine G_iinc (L' := [(6, .inl (l6 + 1)), (0, .inr (.inr 11)), (1, .inl l1), (2, .inl l2), (3, .inl l3), (4, .inr (.inl l4))]) 5 rfl (mfx.lt mf88 (Nat.le_of_ble_eq_true rfl)) rfl (ck dc88 (i := 47) rfl) ?_
          refine G_goto (tgt := 17) (by decide) (ck dc88 (i := 48) rfl) ?_
          exact G_sub [1, 2, 3, 4, 5, 0] rfl h
