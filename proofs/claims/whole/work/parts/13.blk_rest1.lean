theorem c_co_walk (K : Nat) (M : PM) (Q : Option PV → PM → Prop)
    (h : G none (K + 1) jCoins_walk 28 [(0, .inr (.inr 37)), (1, .inl 0)] [] P0 P0 (mset (mcpy M 3 39 75) 37 0 0) Q) : Call (K + 1) jCoins_walk [.inr (.inr 37)] P0 P0 M Q := by
  refine Call.intro (by decide +kernel) (mfx.le mf93 (Nat.le_of_ble_eq_true rfl)) (Nat.le_refl _) rfl ?_
  refine G_aload_n 0 rfl rfl (ck dc93 (i := 0) rfl) ?_
  refine H_getR mf93 (ck dc93 (i := 1) rfl) fw_Coins_18 fc2_1 ly37 ra37 rf37_1 (by decide) ?_
  refine H_getR mf93 (ck dc93 (i := 2) rfl) fw_Coins_22 fc0_4 ly1 ra1 rf1_4 (by decide) ?_
  refine G_iconst (ck dc93 (i := 3) rfl) ?_
  refine G_aload_n 0 rfl rfl (ck dc93 (i := 4) rfl) ?_
  refine H_getR mf93 (ck dc93 (i := 5) rfl) fw_Coins_15 fc2_3 ly37 ra37 rf37_3 (by decide) ?_
  refine G_iconst (ck dc93 (i := 6) rfl) ?_
  refine G_aload_n 0 rfl rfl (ck dc93 (i := 7) rfl) ?_
  refine H_getR mf93 (ck dc93 (i := 8) rfl) fw_Coins_15 fc2_3 ly37 ra37 rf37_3 (by decide) ?_
  refine G_alen (ck dc93 (i := 9) rfl) ra39 ly39 (by decide) ?_
  refine H_cpyi mf93 (n := 75) (ck dc93 (i := 10) rfl) la_Coins_27 (by decide) ly3 ly39 ra3 ra39 (by decide) (by decide) (by decide) (Nat.le_of_ble_eq_true rfl) ?_
  refine G_aload_n 0 rfl rfl (ck dc93 (i := 11) rfl) ?_
  refine G_iconst (ck dc93 (i := 12) rfl) ?_
  refine H_putI mf93 (ck dc93 (i := 13) rfl) fw_Coins_33 fc2_0 ly37 ra37 (Or.inl rfl) ?_
  refine G_iconst (ck dc93 (i := 14) rfl) ?_
  refine G_istore_n (L' := [(1, .inl 0), (0, .inr (.inr 37))]) rfl (mfx.lt mf93 (Nat.le_of_ble_eq_true rfl)) rfl (ck dc93 (i := 15) rfl) ?_
  exact G_sub [1, 0] rfl h
theorem g_co_walk_28 (K : Nat) (l1 : Int) (M : PM) (Q : Option PV → PM → Prop)
    (h : R32 l1 ∧ (10000 ≤ l1 → Q none M) ∧ (¬ 10000 ≤ l1 → Call K jCoins_takeIn [.inr (.inr 37)] P0 P0 M (retV fun M3 => G none (K + 1) jCoins_walk 43 [(0, .inr (.inr 37)), (1, .inl l1), (2, .inl 0), (3, .inl 0)] [] P0 P0 M3 Q))) : G none (K + 1) jCoins_walk 28 [(0, .inr (.inr 37)), (1, .inl l1)] [] P0 P0 M Q := by
  refine G_iload_n 1 rfl rfl (ck dc93 (i := 16) rfl) ?_
  refine G_sipush (n := 10000) rfl (ck dc93 (i := 17) rfl) ?_
  obtain ⟨o1, h⟩ := h
  refine G_icmp_ge (tgt := 99) (by decide) o1 (by decide) (ck dc93 (i := 18) rfl) (fun c => ?_) (fun c => ?_)
  · replace h := h.1 c
    exact H_vret mf93 (ck dc93 (i := 53) rfl) rfl h
  · replace h := h.2 c
    refine G_aload_n 0 rfl rfl (ck dc93 (i := 19) rfl) ?_
    refine H_vV mf93 (As := []) (st := []) (ck dc93 (i := 20) rfl) lk_Coins_37 rfl rfl (Nat.le_of_ble_eq_true rfl) ly37 ra37 ⟨Nat.le_refl _, Nat.le_refl _⟩ h (fun M3 h => ?_)
    refine G_iconst (ck dc93 (i := 21) rfl) ?_
    refine G_istore_n (L' := [(2, .inl 0), (0, .inr (.inr 37)), (1, .inl l1)]) rfl (mfx.lt mf93 (Nat.le_of_ble_eq_true rfl)) rfl (ck dc93 (i := 22) rfl) ?_
    refine G_iconst (ck dc93 (i := 23) rfl) ?_
    refine G_istore_n (L' := [(3, .inl 0), (2, .inl 0), (0, .inr (.inr 37)), (1, .inl l1)]) rfl (mfx.lt mf93 (Nat.le_of_ble_eq_true rfl)) rfl (ck dc93 (i := 24) rfl) ?_
    exact G_sub [2, 3, 1, 0] rfl h
set_option maxHeartbeats 20000000 in
theorem g_co_walk_43 (K : Nat) (l1 l2 l3 : Int) (M : PM) (Q : Option PV → PM → Prop)
    (h : R32 l3 ∧ R32 (M 1 0) ∧ ((M 1 0) ≤ l3 → R32 l2 ∧ (¬ l2 = 0 → G none (K + 1) jCoins_walk 28 [(0, .inr (.inr 37)), (1, .inl (l1 + 1))] [] P0 P0 (mset M 37 0 ((M 37 0) + 1)) Q) ∧ (l2 = 0 → Q none M)) ∧ (¬ (M 1 0) ≤ l3 → Call K jCoins_payOut [.inr (.inr 37), .inl l3] P0 P0 M (retI fun r4 M5 => R32 r4 ∧ (¬ r4 = 0 → G none (K + 1) jCoins_walk 43 [(0, .inr (.inr 37)), (1, .inl l1), (2, .inl 1), (3, .inl (l3 + 1))] [] P0 P0 M5 Q) ∧ (r4 = 0 → R32 l2 ∧ (l2 = 0 → G none (K + 1) jCoins_walk 43 [(0, .inr (.inr 37)), (1, .inl l1), (2, .inl 0), (3, .inl (l3 + 1))] [] P0 P0 M5 Q) ∧ (¬ l2 = 0 → G none (K + 1) jCoins_walk 43 [(0, .inr (.inr 37)), (1, .inl l1), (2, .inl 1), (3, .inl (l3 + 1))] [] P0 P0 M5 Q))))) : G none (K + 1) jCoins_walk 43 [(0, .inr (.inr 37)), (1, .inl l1), (2, .inl l2), (3, .inl l3)] [] P0 P0 M Q := by
  refine G_iload_n 3 rfl rfl (ck dc93 (i := 25) rfl) ?_
  refine G_aload_n 0 rfl rfl (ck dc93 (i := 26) rfl) ?_
  refine H_getR mf93 (ck dc93 (i := 27) rfl) fw_Coins_18 fc2_1 ly37 ra37 rf37_1 (by decide) ?_
  refine H_getI mf93 (ck dc93 (i := 28) rfl) fw_Coins_40 (Or.inl fc0_0) ly1 ra1 (x := (M 1 0)) rfl ?_
  obtain ⟨o1, h⟩ := h
  obtain ⟨o2, h⟩ := h
  refine G_icmp_ge (tgt := 78) (by decide) o1 o2 (ck dc93 (i := 29) rfl) (fun c => ?_) (fun c => ?_)
  · replace h := h.1 c
    refine G_iload_n 2 rfl rfl (ck dc93 (i := 42) rfl) ?_
    obtain ⟨o3, h⟩ := h
    refine G_if_ne (tgt := 83) (by decide) o3 (ck dc93 (i := 43) rfl) (fun c => ?_) (fun c => ?_)
    · replace h := h.1 c
      refine G_aload_n 0 rfl rfl (ck dc93 (i := 45) rfl) ?_
      refine G_dup rfl (ck dc93 (i := 46) rfl) ?_
      refine H_getI mf93 (ck dc93 (i := 47) rfl) fw_Coins_33 (Or.inl fc2_0) ly37 ra37 (x := (M 37 0)) rfl ?_
      refine G_iconst (ck dc93 (i := 48) rfl) ?_
      refine G_iadd (ck dc93 (i := 49) rfl) ?_
      refine H_putI mf93 (ck dc93 (i := 50) rfl) fw_Coins_33 fc2_0 ly37 ra37 (Or.inl rfl) ?_
      refine G_iinc (L' := [(1, .inl (l1 + 1)), (0, .inr (.inr 37)), (2, .inl l2), (3, .inl l3)]) 1 rfl (mfx.lt mf93 (Nat.le_of_ble_eq_true rfl)) rfl (ck dc93 (i := 51) rfl) ?_
      refine G_goto (tgt := 28) (by decide) (ck dc93 (i := 52) rfl) ?_
      exact G_sub [1, 0] rfl h
    · replace h := h.2 c
      exact H_vret mf93 (ck dc93 (i := 44) rfl) rfl h
  · replace h := h.2 c
    refine G_aload_n 0 rfl rfl (ck dc93 (i := 30) rfl) ?_
    refine G_iload_n 3 rfl rfl (ck dc93 (i := 31) rfl) ?_
    refine H_vZ mf93 (As := [.inl l3]) (st := []) (ck dc93 (i := 32) rfl) lk_Coins_43 rfl rfl (Nat.le_of_ble_eq_true rfl) ly37 ra37 ⟨Nat.le_refl _, Nat.le_refl _⟩ h (fun r4 M5 h => ?_)
    obtain ⟨o6, h⟩ := h
    refine G_if_ne (tgt := 66) (by decide) o6 (ck dc93 (i := 33) rfl) (fun c => ?_) (fun c => ?_)
    · replace h := h.1 c
      refine G_iconst (ck dc93 (i := 36) rfl) ?_
      refine G_goto (tgt := 71) (by decide) (ck dc93 (i := 37) rfl) ?_
      refine G_istore_n (L' := [(2, .inl 1), (0, .inr (.inr 37)), (1, .inl l1), (3, .inl l3)]) rfl (mfx.lt mf93 (Nat.le_of_ble_eq_true rfl)) rfl (ck dc93 (i := 39) rfl) ?_
      refine G_iinc (L' := [(3, .inl (l3 + 1)), (2, .inl 1), (0, .inr (.inr 37)), (1, .inl l1)]) 3 rfl (mfx.lt mf93 (Nat.le_of_ble_eq_true rfl)) rfl (ck dc93 (i := 40) rfl) ?_
      refine G_goto (tgt := 43) (by decide) (ck dc93 (i := 41) rfl) ?_
      exact G_sub [2, 3, 1, 0] rfl h
    · replace h := h.2 c
      refine G_iload_n 2 rfl rfl (ck dc93 (i := 34) rfl) ?_
      obtain ⟨o7, h⟩ := h
      refine G_if_eq (tgt := 70) (by decide) o7 (ck dc93 (i := 35) rfl) (fun c => ?_) (fun c => ?_)
      · replace h := h.1 c
        refine G_iconst (ck dc93 (i := 38) rfl) ?_
        refine G_istore_n (L' := [(2, .inl 0), (0, .inr (.inr 37)), (1, .inl l1), (3, .inl l3)]) rfl (mfx.lt mf93 (Nat.le_of_ble_eq_true rfl)) rfl (ck dc93 (i := 39) rfl) ?_
        refine G_iinc (L' := [(3, .inl (l3 + 1)), (2, .inl 0), (0, .inr (.inr 37)), (1, .inl l1)]) 3 rfl (mfx.lt mf93 (Nat.le_of_ble_eq_true rfl)) rfl (ck dc93 (i := 40) rfl) ?_
        refine G_goto (tgt := 43) (by decide) (ck dc93 (i := 41) rfl) ?_
        exact G_sub [2, 3, 1, 0] rfl h
      · replace h := h.2 c
        refine G_iconst (ck dc93 (i := 36) rfl) ?_
        refine G_goto (tgt := 71) (by decide) (ck dc93 (i := 37) rfl) ?_
        refine G_istore_n (L' := [(2, .inl 1), (0, .inr (.inr 37)), (1, .inl l1), (3, .inl l3)]) rfl (mfx.lt mf93 (Nat.le_of_ble_eq_true rfl)) rfl (ck dc93 (i := 39) rfl) ?_
        refine G_iinc (L' := [(3, .inl (l3 + 1)), (2, .inl 1), (0, .inr (.inr 37)), (1, .inl l1)]) 3 rfl (mfx.lt mf93 (Nat.le_of_ble_eq_true rfl)) rfl (ck dc93 (i := 40) rfl) ?_
        refine G_goto (tgt := 43) (by decide) (ck dc93 (i := 41) rfl) ?_
        exact G_sub [2, 3, 1, 0] rfl h
theorem c_co_shortBits (K : Nat) (M : PM) (Q : Option PV → PM → Prop)
    (h : G none (K + 1) jCoins_shortBits 4 [(0, .inr (.inr 37)), (1, .inl 0), (2, .inl 0)] [] P0 P0 M Q) : Call (K + 1) jCoins_shortBits [.inr (.inr 37)] P0 P0 M Q := by
  refine Call.intro (by decide +kernel) (mfx.le mf104 (Nat.le_of_ble_eq_true rfl)) (Nat.le_refl _) rfl ?_
  refine G_iconst (ck dc104 (i := 0) rfl) ?_
  refine G_istore_n (L' := [(1, .inl 0), (0, .inr (.inr 37))]) rfl (mfx.lt mf104 (Nat.le_of_ble_eq_true rfl)) rfl (ck dc104 (i := 1) rfl) ?_
  refine G_iconst (ck dc104 (i := 2) rfl) ?_
  refine G_istore_n (L' := [(2, .inl 0), (1, .inl 0), (0, .inr (.inr 37))]) rfl (mfx.lt mf104 (Nat.le_of_ble_eq_true rfl)) rfl (ck dc104 (i := 3) rfl) ?_
  exact G_sub [2, 1, 0] rfl h
theorem g_co_shortBits_4 (K : Nat) (l1 l2 : Int) (M : PM) (Q : Option PV → PM → Prop)
    (h : R32 l2 ∧ R32 (M 1 0) ∧ ((M 1 0) ≤ l2 → Q (some (.inl l1)) M) ∧ (¬ (M 1 0) ≤ l2 → Call K jCoins_isShort [.inr (.inr 37), .inl l2] P0 P0 M (retI fun r3 M4 => R32 r3 ∧ (r3 = 0 → G none (K + 1) jCoins_shortBits 4 [(0, .inr (.inr 37)), (1, .inl l1), (2, .inl (l2 + 1))] [] P0 P0 M4 Q) ∧ (¬ r3 = 0 → G none (K + 1) jCoins_shortBits 4 [(0, .inr (.inr 37)), (1, .inl (bOr l1 (bShl 1 l2))), (2, .inl (l2 + 1))] [] P0 P0 M4 Q)))) : G none (K + 1) jCoins_shortBits 4 [(0, .inr (.inr 37)), (1, .inl l1), (2, .inl l2)] [] P0 P0 M Q := by
  refine G_iload_n 2 rfl rfl (ck dc104 (i := 4) rfl) ?_
  refine G_aload_n 0 rfl rfl (ck dc104 (i := 5) rfl) ?_
  refine H_getR mf104 (ck dc104 (i := 6) rfl) fw_Coins_18 fc2_1 ly37 ra37 rf37_1 (by decide) ?_
  refine H_getI mf104 (ck dc104 (i := 7) rfl) fw_Coins_40 (Or.inl fc0_0) ly1 ra1 (x := (M 1 0)) rfl ?_
  obtain ⟨o1, h⟩ := h
  obtain ⟨o2, h⟩ := h
  refine G_icmp_ge (tgt := 35) (by decide) o1 o2 (ck dc104 (i := 8) rfl) (fun c => ?_) (fun c => ?_)
  · replace h := h.1 c
    refine G_iload_n 1 rfl rfl (ck dc104 (i := 21) rfl) ?_
    exact H_iretI mf104 (ck dc104 (i := 22) rfl) rfl h
  · replace h := h.2 c
    refine G_aload_n 0 rfl rfl (ck dc104 (i := 9) rfl) ?_
    refine G_iload_n 2 rfl rfl (ck dc104 (i := 10) rfl) ?_
    refine H_vZ mf104 (As := [.inl l2]) (st := []) (ck dc104 (i := 11) rfl) lk_Coins_67 rfl rfl (Nat.le_of_ble_eq_true rfl) ly37 ra37 ⟨Nat.le_refl _, Nat.le_refl _⟩ h (fun r3 M4 h => ?_)
    obtain ⟨o5, h⟩ := h
    refine G_if_eq (tgt := 29) (by decide) o5 (ck dc104 (i := 12) rfl) (fun c => ?_) (fun c => ?_)
    · replace h := h.1 c
      refine G_iinc (L' := [(2, .inl (l2 + 1)), (0, .inr (.inr 37)), (1, .inl l1)]) 2 rfl (mfx.lt mf104 (Nat.le_of_ble_eq_true rfl)) rfl (ck dc104 (i := 19) rfl) ?_
      refine G_goto (tgt := 4) (by decide) (ck dc104 (i := 20) rfl) ?_
      exact G_sub [1, 2, 0] rfl h
    · replace h := h.2 c
      refine G_iload_n 1 rfl rfl (ck dc104 (i := 13) rfl) ?_
      refine G_iconst (ck dc104 (i := 14) rfl) ?_
      refine G_iload_n 2 rfl rfl (ck dc104 (i := 15) rfl) ?_
      refine G_ishl (ck dc104 (i := 16) rfl) ?_
      refine G_ior (ck dc104 (i := 17) rfl) ?_
      refine G_istore_n (L' := [(1, .inl (bOr l1 (bShl 1 l2))), (0, .inr (.inr 37)), (2, .inl l2)]) rfl (mfx.lt mf104 (Nat.le_of_ble_eq_true rfl)) rfl (ck dc104 (i := 18) rfl) ?_
      refine G_iinc (L' := [(2, .inl (l2 + 1)), (1, .inl (bOr l1 (bShl 1 l2))), (0, .inr (.inr 37))]) 2 rfl (mfx.lt mf104 (Nat.le_of_ble_eq_true rfl)) rfl (ck dc104 (i := 19) rfl) ?_
      refine G_goto (tgt := 4) (by decide) (ck dc104 (i := 20) rfl) ?_
      exact G_sub [2, 1, 0] rfl h
theorem c_co_waste (K : Nat) (M : PM) (Q : Option PV → PM → Prop)
    (h : G none (K + 1) jCoins_waste 4 [(0, .inr (.inr 37)), (1, .inl 0), (2, .inl 0)] [] P0 P0 M Q) : Call (K + 1) jCoins_waste [.inr (.inr 37)] P0 P0 M Q := by
  refine Call.intro (by decide +kernel) (mfx.le mf106 (Nat.le_of_ble_eq_true rfl)) (Nat.le_refl _) rfl ?_
  refine G_iconst (ck dc106 (i := 0) rfl) ?_
  refine G_istore_n (L' := [(1, .inl 0), (0, .inr (.inr 37))]) rfl (mfx.lt mf106 (Nat.le_of_ble_eq_true rfl)) rfl (ck dc106 (i := 1) rfl) ?_
  refine G_iconst (ck dc106 (i := 2) rfl) ?_
  refine G_istore_n (L' := [(2, .inl 0), (1, .inl 0), (0, .inr (.inr 37))]) rfl (mfx.lt mf106 (Nat.le_of_ble_eq_true rfl)) rfl (ck dc106 (i := 3) rfl) ?_
  exact G_sub [2, 1, 0] rfl h
theorem g_co_waste_4 (K : Nat) (l1 l2 : Int) (M : PM) (Q : Option PV → PM → Prop)
    (h : R32 l2 ∧ R32 (M 1 0) ∧ ((M 1 0) ≤ l2 → Q (some (.inl l1)) M) ∧ (¬ (M 1 0) ≤ l2 → Call K jCoins_isShort [.inr (.inr 37), .inl l2] P0 P0 M (retI fun r3 M4 => R32 r3 ∧ (r3 = 0 → G none (K + 1) jCoins_waste 4 [(0, .inr (.inr 37)), (1, .inl l1), (2, .inl (l2 + 1))] [] P0 P0 M4 Q) ∧ (¬ r3 = 0 → (0 ≤ l2 ∧ l2 < 5) ∧ Call K jCoins_rest [.inr (.inr 37), .inl l2] P0 P0 M4 (retI fun r7 M8 => G none (K + 1) jCoins_waste 4 [(0, .inr (.inr 37)), (1, .inl (l1 + (((M4 2 l2) + (M4 38 l2)) - r7))), (2, .inl (l2 + 1))] [] P0 P0 M8 Q))))) : G none (K + 1) jCoins_waste 4 [(0, .inr (.inr 37)), (1, .inl l1), (2, .inl l2)] [] P0 P0 M Q := by
  refine G_iload_n 2 rfl rfl (ck dc106 (i := 4) rfl) ?_
  refine G_aload_n 0 rfl rfl (ck dc106 (i := 5) rfl) ?_
  refine H_getR mf106 (ck dc106 (i := 6) rfl) fw_Coins_18 fc2_1 ly37 ra37 rf37_1 (by decide) ?_
  refine H_getI mf106 (ck dc106 (i := 7) rfl) fw_Coins_40 (Or.inl fc0_0) ly1 ra1 (x := (M 1 0)) rfl ?_
  obtain ⟨o1, h⟩ := h
  obtain ⟨o2, h⟩ := h
  refine G_icmp_ge (tgt := 54) (by decide) o1 o2 (ck dc106 (i := 8) rfl) (fun c => ?_) (fun c => ?_)
  · replace h := h.1 c
    refine G_iload_n 1 rfl rfl (ck dc106 (i := 32) rfl) ?_
    exact H_iretI mf106 (ck dc106 (i := 33) rfl) rfl h
  · replace h := h.2 c
    refine G_aload_n 0 rfl rfl (ck dc106 (i := 9) rfl) ?_
    refine G_iload_n 2 rfl rfl (ck dc106 (i := 10) rfl) ?_
    refine H_vZ mf106 (As := [.inl l2]) (st := []) (ck dc106 (i := 11) rfl) lk_Coins_67 rfl rfl (Nat.le_of_ble_eq_true rfl) ly37 ra37 ⟨Nat.le_refl _, Nat.le_refl _⟩ h (fun r3 M4 h => ?_)
    obtain ⟨o5, h⟩ := h
    refine G_if_eq (tgt := 48) (by decide) o5 (ck dc106 (i := 12) rfl) (fun c => ?_) (fun c => ?_)
    · replace h := h.1 c
      refine G_iinc (L' := [(2, .inl (l2 + 1)), (0, .inr (.inr 37)), (1, .inl l1)]) 2 rfl (mfx.lt mf106 (Nat.le_of_ble_eq_true rfl)) rfl (ck dc106 (i := 30) rfl) ?_
      refine G_goto (tgt := 4) (by decide) (ck dc106 (i := 31) rfl) ?_
      exact G_sub [1, 2, 0] rfl h
    · replace h := h.2 c
      refine G_iload_n 1 rfl rfl (ck dc106 (i := 13) rfl) ?_
      refine G_aload_n 0 rfl rfl (ck dc106 (i := 14) rfl) ?_
      refine H_getR mf106 (ck dc106 (i := 15) rfl) fw_Coins_18 fc2_1 ly37 ra37 rf37_1 (by decide) ?_
      refine H_getR mf106 (ck dc106 (i := 16) rfl) fw_Coins_54 fc0_3 ly1 ra1 rf1_3 (by decide) ?_
      refine G_iload_n 2 rfl rfl (ck dc106 (i := 17) rfl) ?_
      obtain ⟨o6, h⟩ := h
      refine H_iald (ck dc106 (i := 18) rfl) ly2 (by decide) ra2 o6 (x := (M4 2 l2)) rfl ?_
      refine G_aload_n 0 rfl rfl (ck dc106 (i := 19) rfl) ?_
      refine H_getR mf106 (ck dc106 (i := 20) rfl) fw_Coins_9 fc2_2 ly37 ra37 rf37_2 (by decide) ?_
      refine G_iload_n 2 rfl rfl (ck dc106 (i := 21) rfl) ?_
      refine H_iald (ck dc106 (i := 22) rfl) ly38 (by decide) ra38 o6 (x := (M4 38 l2)) rfl ?_
      refine G_iadd (ck dc106 (i := 23) rfl) ?_
      refine G_aload_n 0 rfl rfl (ck dc106 (i := 24) rfl) ?_
      refine G_iload_n 2 rfl rfl (ck dc106 (i := 25) rfl) ?_
      refine H_vI mf106 (As := [.inl l2]) (st := [.inl ((M4 2 l2) + (M4 38 l2)), .inl l1]) (ck dc106 (i := 26) rfl) lk_Coins_70 rfl rfl (Nat.le_of_ble_eq_true rfl) ly37 ra37 ⟨Nat.le_refl _, Nat.le_refl _⟩ h (fun r7 M8 h => ?_)
      refine G_isub (ck dc106 (i := 27) rfl) ?_
      refine G_iadd (ck dc106 (i := 28) rfl) ?_
      refine G_istore_n (L' := [(1, .inl (l1 + (((M4 2 l2) + (M4 38 l2)) - r7))), (0, .inr (.inr 37)), (2, .inl l2)]) rfl (mfx.lt mf106 (Nat.le_of_ble_eq_true rfl)) rfl (ck dc106 (i := 29) rfl) ?_
      refine G_iinc (L' := [(2, .inl (l2 + 1)), (1, .inl (l1 + (((M4 2 l2) + (M4 38 l2)) - r7))), (0, .inr (.inr 37))]) 2 rfl (mfx.lt mf106 (Nat.le_of_ble_eq_true rfl)) rfl (ck dc106 (i := 30) rfl) ?_
      refine G_goto (tgt := 4) (by decide) (ck dc106 (i := 31) rfl) ?_
      exact G_sub [2, 1, 0] rfl h
theorem c_jinteger_compare (K : Nat) (a1 a2 : Int) (M : PM) (Q : Option PV → PM → Prop)
    (h : R32 a1 ∧ R32 a2 ∧ (a2 ≤ a1 → (¬ a1 = a2 → Q (some (.inl 1)) M) ∧ (a1 = a2 → Q (some (.inl 0)) M)) ∧ (¬ a2 ≤ a1 → Q (some (.inl (-1))) M)) : Call (K + 1) jJInteger_compare [.inl a1, .inl a2] P0 P0 M Q := by
  refine Call.intro (by decide +kernel) (mfx.le mf114 (Nat.le_of_ble_eq_true rfl)) (Nat.le_refl _) rfl ?_
  refine G_iload_n 0 rfl rfl (ck dc114 (i := 0) rfl) ?_
  refine G_iload_n 1 rfl rfl (ck dc114 (i := 1) rfl) ?_
  obtain ⟨o1, h⟩ := h
  obtain ⟨o2, h⟩ := h
  refine G_icmp_ge (tgt := 9) (by decide) o1 o2 (ck dc114 (i := 2) rfl) (fun c => ?_) (fun c => ?_)
  · replace h := h.1 c
    refine G_iload_n 0 rfl rfl (ck dc114 (i := 5) rfl) ?_
    refine G_iload_n 1 rfl rfl (ck dc114 (i := 6) rfl) ?_
    refine G_icmp_ne (tgt := 18) (by decide) o1 o2 (ck dc114 (i := 7) rfl) (fun c => ?_) (fun c => ?_)
    · replace h := h.1 c
      refine G_iconst (ck dc114 (i := 10) rfl) ?_
      exact H_iretI mf114 (ck dc114 (i := 11) rfl) rfl h
    · replace h := h.2 c
      refine G_iconst (ck dc114 (i := 8) rfl) ?_
      refine G_goto (tgt := 19) (by decide) (ck dc114 (i := 9) rfl) ?_
      exact H_iretI mf114 (ck dc114 (i := 11) rfl) rfl h
  · replace h := h.2 c
    refine G_iconst (ck dc114 (i := 3) rfl) ?_
    refine G_goto (tgt := 19) (by decide) (ck dc114 (i := 4) rfl) ?_
    exact H_iretI mf114 (ck dc114 (i := 11) rfl) rfl h
theorem c_ratio_order (K : Nat) (a1 a2 a3 a4 : Int) (M : PM) (Q : Option PV → PM → Prop)
    (h : G none (K + 1) jRatio_order 20 [(8, .inr (.inl a1)), (10, .inr (.inl a2)), (12, .inr (.inl a3)), (14, .inr (.inl a4)), (16, .inl 1), (17, .inl 0)] [] P0 P0 M Q) : Call (K + 1) jRatio_order [.inr (.inl a1), .inr (.inl a2), .inr (.inl a3), .inr (.inl a4)] P0 P0 M Q := by
  refine Call.intro (by decide +kernel) (mfx.le mf115 (Nat.le_of_ble_eq_true rfl)) (Nat.le_refl _) rfl ?_
  refine G_lload_n 0 rfl rfl (ck dc115 (i := 0) rfl) ?_
  refine G_lstore (L' := [(8, .inr (.inl a1)), (0, .inr (.inl a1)), (2, .inr (.inl a2)), (4, .inr (.inl a3)), (6, .inr (.inl a4))]) (mfx.lt mf115 (Nat.le_of_ble_eq_true rfl)) rfl (ck dc115 (i := 1) rfl) ?_
  refine G_lload_n 2 rfl rfl (ck dc115 (i := 2) rfl) ?_
  refine G_lstore (L' := [(10, .inr (.inl a2)), (8, .inr (.inl a1)), (0, .inr (.inl a1)), (2, .inr (.inl a2)), (4, .inr (.inl a3)), (6, .inr (.inl a4))]) (mfx.lt mf115 (Nat.le_of_ble_eq_true rfl)) rfl (ck dc115 (i := 3) rfl) ?_
  refine G_lload 4 rfl (ck dc115 (i := 4) rfl) ?_
  refine G_lstore (L' := [(12, .inr (.inl a3)), (10, .inr (.inl a2)), (8, .inr (.inl a1)), (0, .inr (.inl a1)), (2, .inr (.inl a2)), (4, .inr (.inl a3)), (6, .inr (.inl a4))]) (mfx.lt mf115 (Nat.le_of_ble_eq_true rfl)) rfl (ck dc115 (i := 5) rfl) ?_
  refine G_lload 6 rfl (ck dc115 (i := 6) rfl) ?_
  refine G_lstore (L' := [(14, .inr (.inl a4)), (12, .inr (.inl a3)), (10, .inr (.inl a2)), (8, .inr (.inl a1)), (0, .inr (.inl a1)), (2, .inr (.inl a2)), (4, .inr (.inl a3)), (6, .inr (.inl a4))]) (mfx.lt mf115 (Nat.le_of_ble_eq_true rfl)) rfl (ck dc115 (i := 7) rfl) ?_
  refine G_iconst (ck dc115 (i := 8) rfl) ?_
  refine G_istore (L' := [(16, .inl 1), (14, .inr (.inl a4)), (12, .inr (.inl a3)), (10, .inr (.inl a2)), (8, .inr (.inl a1)), (0, .inr (.inl a1)), (2, .inr (.inl a2)), (4, .inr (.inl a3)), (6, .inr (.inl a4))]) (mfx.lt mf115 (Nat.le_of_ble_eq_true rfl)) rfl (ck dc115 (i := 9) rfl) ?_
  refine G_iconst (ck dc115 (i := 10) rfl) ?_
  refine G_istore (L' := [(17, .inl 0), (16, .inl 1), (14, .inr (.inl a4)), (12, .inr (.inl a3)), (10, .inr (.inl a2)), (8, .inr (.inl a1)), (0, .inr (.inl a1)), (2, .inr (.inl a2)), (4, .inr (.inl a3)), (6, .inr (.inl a4))]) (mfx.lt mf115 (Nat.le_of_ble_eq_true rfl)) rfl (ck dc115 (i := 11) rfl) ?_
  exact G_sub [5, 4, 3, 2, 1, 0] rfl h
set_option maxHeartbeats 20000000 in
theorem g_ratio_order_20 (K : Nat) (l8 l10 l12 l14 l16 l17 : Int) (M : PM) (Q : Option PV → PM → Prop)
    (h : R32 l17 ∧ (1000 ≤ l17 → Q (some (.inl 0)) M) ∧ (¬ 1000 ≤ l17 → R64 l10 ∧ (l10 ≤ 0 → Q (some (.inl 0)) M) ∧ (¬ l10 ≤ 0 → R64 l14 ∧ (l14 ≤ 0 → Q (some (.inl 0)) M) ∧ (¬ l14 ≤ 0 → R64 l8 ∧ l10 ≠ 0 ∧ R64 l12 ∧ l14 ≠ 0 ∧ R64 (Int.tdiv l8 l10) ∧ R64 (Int.tdiv l12 l14) ∧ ((Int.tdiv l8 l10) = (Int.tdiv l12 l14) → R64 (Int.tmod l8 l10) ∧ ((Int.tmod l8 l10) = 0 → R64 (Int.tmod l12 l14) ∧ (¬ (Int.tmod l8 l10) = (Int.tmod l12 l14) → (¬ (Int.tmod l8 l10) = 0 → Q (some (.inl l16)) M) ∧ ((Int.tmod l8 l10) = 0 → Q (some (.inl (-l16))) M)) ∧ ((Int.tmod l8 l10) = (Int.tmod l12 l14) → Q (some (.inl 0)) M)) ∧ (¬ (Int.tmod l8 l10) = 0 → R64 (Int.tmod l12 l14) ∧ (¬ (Int.tmod l12 l14) = 0 → G none (K + 1) jRatio_order 20 [(8, .inr (.inl l10)), (10, .inr (.inl (Int.tmod l8 l10))), (12, .inr (.inl l14)), (14, .inr (.inl (Int.tmod l12 l14))), (16, .inl (-l16)), (17, .inl (l17 + 1))] [] P0 P0 M Q) ∧ ((Int.tmod l12 l14) = 0 → (¬ (Int.tmod l8 l10) = (Int.tmod l12 l14) → (¬ (Int.tmod l8 l10) = 0 → Q (some (.inl l16)) M) ∧ ((Int.tmod l8 l10) = 0 → Q (some (.inl (-l16))) M)) ∧ ((Int.tmod l8 l10) = (Int.tmod l12 l14) → Q (some (.inl 0)) M)))) ∧ (¬ (Int.tdiv l8 l10) = (Int.tdiv l12 l14) → ((Int.tdiv l8 l10) ≤ (Int.tdiv l12 l14) → Q (some (.inl (-l16))) M) ∧ (¬ (Int.tdiv l8 l10) ≤ (Int.tdiv l12 l14) → Q (some (.inl l16)) M)))))) : G none (K + 1) jRatio_order 20 [(8, .inr (.inl l8)), (10, .inr (.inl l10)), (12, .inr (.inl l12)), (14, .inr (.inl l14)), (16, .inl l16), (17, .inl l17)] [] P0 P0 M Q := by
  refine G_iload 5 rfl (ck dc115 (i := 12) rfl) ?_
  refine G_sipush (n := 1000) rfl (ck dc115 (i := 13) rfl) ?_
  obtain ⟨o1, h⟩ := h
  refine G_icmp_ge (tgt := 164) (by decide) o1 (by decide) (ck dc115 (i := 14) rfl) (fun c => ?_) (fun c => ?_)
  · replace h := h.1 c
    refine G_iconst (ck dc115 (i := 88) rfl) ?_
    exact H_iretI mf115 (ck dc115 (i := 89) rfl) rfl h
  · replace h := h.2 c
    refine G_lload 1 rfl (ck dc115 (i := 15) rfl) ?_
    refine G_lconst (v := 0) rfl (ck dc115 (i := 16) rfl) ?_
    obtain ⟨o2, h⟩ := h
    refine G_lif_le (tgt := 164) (ck dc115 (i := 18) rfl) (by decide) o2 (by decide) (ck dc115 (i := 17) rfl) (fun c => ?_) (fun c => ?_)
    · replace h := h.1 c
      refine G_iconst (ck dc115 (i := 88) rfl) ?_
      exact H_iretI mf115 (ck dc115 (i := 89) rfl) rfl h
    · replace h := h.2 c
      refine G_lload 3 rfl (ck dc115 (i := 19) rfl) ?_
      refine G_lconst (v := 0) rfl (ck dc115 (i := 20) rfl) ?_
      obtain ⟨o3, h⟩ := h
      refine G_lif_le (tgt := 164) (ck dc115 (i := 22) rfl) (by decide) o3 (by decide) (ck dc115 (i := 21) rfl) (fun c => ?_) (fun c => ?_)
      · replace h := h.1 c
        refine G_iconst (ck dc115 (i := 88) rfl) ?_
        exact H_iretI mf115 (ck dc115 (i := 89) rfl) rfl h
      · replace h := h.2 c
        refine G_lload 0 rfl (ck dc115 (i := 23) rfl) ?_
        refine G_lload 1 rfl (ck dc115 (i := 24) rfl) ?_
        obtain ⟨o4, h⟩ := h
        obtain ⟨o5, h⟩ := h
        refine G_ldiv o4 o2 o5 (ck dc115 (i := 25) rfl) ?_
        refine G_lstore (L' := [(18, .inr (.inl (Int.tdiv l8 l10))), (8, .inr (.inl l8)), (10, .inr (.inl l10)), (12, .inr (.inl l12)), (14, .inr (.inl l14)), (16, .inl l16), (17, .inl l17)]) (mfx.lt mf115 (Nat.le_of_ble_eq_true rfl)) rfl (ck dc115 (i := 26) rfl) ?_
        refine G_lload 3 rfl (ck dc115 (i := 27) rfl) ?_
        refine G_lload 4 rfl (ck dc115 (i := 28) rfl) ?_
        obtain ⟨o6, h⟩ := h
        obtain ⟨o7, h⟩ := h
        refine G_ldiv o6 o3 o7 (ck dc115 (i := 29) rfl) ?_
        refine G_lstore (L' := [(20, .inr (.inl (Int.tdiv l12 l14))), (18, .inr (.inl (Int.tdiv l8 l10))), (8, .inr (.inl l8)), (10, .inr (.inl l10)), (12, .inr (.inl l12)), (14, .inr (.inl l14)), (16, .inl l16), (17, .inl l17)]) (mfx.lt mf115 (Nat.le_of_ble_eq_true rfl)) rfl (ck dc115 (i := 30) rfl) ?_
        refine G_lload 1 rfl (ck dc115 (i := 31) rfl) ?_
        refine G_lload 0 rfl (ck dc115 (i := 32) rfl) ?_
        obtain ⟨o8, h⟩ := h
        obtain ⟨o9, h⟩ := h
        refine G_lif_eq (tgt := 81) (ck dc115 (i := 34) rfl) (by decide) o8 o9 (ck dc115 (i := 33) rfl) (fun c => ?_) (fun c => ?_)
        · replace h := h.1 c
          refine G_lload 2 rfl (ck dc115 (i := 44) rfl) ?_
          refine G_lload 3 rfl (ck dc115 (i := 45) rfl) ?_
          refine G_lrem o4 o2 o5 (ck dc115 (i := 46) rfl) ?_
          refine G_lstore (L' := [(22, .inr (.inl (Int.tmod l8 l10))), (20, .inr (.inl (Int.tdiv l12 l14))), (18, .inr (.inl (Int.tdiv l8 l10))), (8, .inr (.inl l8)), (10, .inr (.inl l10)), (12, .inr (.inl l12)), (14, .inr (.inl l14)), (16, .inl l16), (17, .inl l17)]) (mfx.lt mf115 (Nat.le_of_ble_eq_true rfl)) rfl (ck dc115 (i := 47) rfl) ?_
          refine G_lload 5 rfl (ck dc115 (i := 48) rfl) ?_
          refine G_lload 6 rfl (ck dc115 (i := 49) rfl) ?_
          refine G_lrem o6 o3 o7 (ck dc115 (i := 50) rfl) ?_
          refine G_lstore (L' := [(24, .inr (.inl (Int.tmod l12 l14))), (22, .inr (.inl (Int.tmod l8 l10))), (20, .inr (.inl (Int.tdiv l12 l14))), (18, .inr (.inl (Int.tdiv l8 l10))), (8, .inr (.inl l8)), (10, .inr (.inl l10)), (12, .inr (.inl l12)), (14, .inr (.inl l14)), (16, .inl l16), (17, .inl l17)]) (mfx.lt mf115 (Nat.le_of_ble_eq_true rfl)) rfl (ck dc115 (i := 51) rfl) ?_
          refine G_lload 1 rfl (ck dc115 (i := 52) rfl) ?_
          refine G_lconst (v := 0) rfl (ck dc115 (i := 53) rfl) ?_
          obtain ⟨o10, h⟩ := h
          refine G_lif_eq (tgt := 109) (ck dc115 (i := 55) rfl) (by decide) o10 (by decide) (ck dc115 (i := 54) rfl) (fun c => ?_) (fun c => ?_)
          · replace h := h.1 c
            refine G_lload 1 rfl (ck dc115 (i := 60) rfl) ?_
            refine G_lload 0 rfl (ck dc115 (i := 61) rfl) ?_
            obtain ⟨o11, h⟩ := h
            refine G_lif_ne (tgt := 121) (ck dc115 (i := 63) rfl) (by decide) o10 o11 (ck dc115 (i := 62) rfl) (fun c => ?_) (fun c => ?_)
            · replace h := h.1 c
              refine G_lload 1 rfl (ck dc115 (i := 66) rfl) ?_
              refine G_lconst (v := 0) rfl (ck dc115 (i := 67) rfl) ?_
              refine G_lif_ne (tgt := 134) (ck dc115 (i := 69) rfl) (by decide) o10 (by decide) (ck dc115 (i := 68) rfl) (fun c => ?_) (fun c => ?_)
              · replace h := h.1 c
                refine G_iload 8 rfl (ck dc115 (i := 73) rfl) ?_
                exact H_iretI mf115 (ck dc115 (i := 74) rfl) rfl h
              · replace h := h.2 c
                refine G_iload 8 rfl (ck dc115 (i := 70) rfl) ?_
                refine G_ineg (ck dc115 (i := 71) rfl) ?_
                refine G_goto (tgt := 136) (by decide) (ck dc115 (i := 72) rfl) ?_
                exact H_iretI mf115 (ck dc115 (i := 74) rfl) rfl h
            · replace h := h.2 c
              refine G_iconst (ck dc115 (i := 64) rfl) ?_
              refine G_goto (tgt := 136) (by decide) (ck dc115 (i := 65) rfl) ?_
              exact H_iretI mf115 (ck dc115 (i := 74) rfl) rfl h
          · replace h := h.2 c
            refine G_lload 0 rfl (ck dc115 (i := 56) rfl) ?_
            refine G_lconst (v := 0) rfl (ck dc115 (i := 57) rfl) ?_
            obtain ⟨o12, h⟩ := h
            refine G_lif_ne (tgt := 137) (ck dc115 (i := 59) rfl) (by decide) o12 (by decide) (ck dc115 (i := 58) rfl) (fun c => ?_) (fun c => ?_)
            · replace h := h.1 c
              refine G_lload 5 rfl (ck dc115 (i := 75) rfl) ?_
              refine G_lstore (L' := [(8, .inr (.inl l10)), (24, .inr (.inl (Int.tmod l12 l14))), (22, .inr (.inl (Int.tmod l8 l10))), (20, .inr (.inl (Int.tdiv l12 l14))), (18, .inr (.inl (Int.tdiv l8 l10))), (10, .inr (.inl l10)), (12, .inr (.inl l12)), (14, .inr (.inl l14)), (16, .inl l16), (17, .inl l17)]) (mfx.lt mf115 (Nat.le_of_ble_eq_true rfl)) rfl (ck dc115 (i := 76) rfl) ?_
              refine G_lload 2 rfl (ck dc115 (i := 77) rfl) ?_
              refine G_lstore (L' := [(10, .inr (.inl (Int.tmod l8 l10))), (8, .inr (.inl l10)), (24, .inr (.inl (Int.tmod l12 l14))), (22, .inr (.inl (Int.tmod l8 l10))), (20, .inr (.inl (Int.tdiv l12 l14))), (18, .inr (.inl (Int.tdiv l8 l10))), (12, .inr (.inl l12)), (14, .inr (.inl l14)), (16, .inl l16), (17, .inl l17)]) (mfx.lt mf115 (Nat.le_of_ble_eq_true rfl)) rfl (ck dc115 (i := 78) rfl) ?_
              refine G_lload 7 rfl (ck dc115 (i := 79) rfl) ?_
              refine G_lstore (L' := [(12, .inr (.inl l14)), (10, .inr (.inl (Int.tmod l8 l10))), (8, .inr (.inl l10)), (24, .inr (.inl (Int.tmod l12 l14))), (22, .inr (.inl (Int.tmod l8 l10))), (20, .inr (.inl (Int.tdiv l12 l14))), (18, .inr (.inl (Int.tdiv l8 l10))), (14, .inr (.inl l14)), (16, .inl l16), (17, .inl l17)]) (mfx.lt mf115 (Nat.le_of_ble_eq_true rfl)) rfl (ck dc115 (i := 80) rfl) ?_
              refine G_lload 3 rfl (ck dc115 (i := 81) rfl) ?_
              refine G_lstore (L' := [(14, .inr (.inl (Int.tmod l12 l14))), (12, .inr (.inl l14)), (10, .inr (.inl (Int.tmod l8 l10))), (8, .inr (.inl l10)), (24, .inr (.inl (Int.tmod l12 l14))), (22, .inr (.inl (Int.tmod l8 l10))), (20, .inr (.inl (Int.tdiv l12 l14))), (18, .inr (.inl (Int.tdiv l8 l10))), (16, .inl l16), (17, .inl l17)]) (mfx.lt mf115 (Nat.le_of_ble_eq_true rfl)) rfl (ck dc115 (i := 82) rfl) ?_
              refine G_iload 8 rfl (ck dc115 (i := 83) rfl) ?_
              refine G_ineg (ck dc115 (i := 84) rfl) ?_
              refine G_istore (L' := [(16, .inl (-l16)), (14, .inr (.inl (Int.tmod l12 l14))), (12, .inr (.inl l14)), (10, .inr (.inl (Int.tmod l8 l10))), (8, .inr (.inl l10)), (24, .inr (.inl (Int.tmod l12 l14))), (22, .inr (.inl (Int.tmod l8 l10))), (20, .inr (.inl (Int.tdiv l12 l14))), (18, .inr (.inl (Int.tdiv l8 l10))), (17, .inl l17)]) (mfx.lt mf115 (Nat.le_of_ble_eq_true rfl)) rfl (ck dc115 (i := 85) rfl) ?_
              refine G_iinc (L' := [(17, .inl (l17 + 1)), (16, .inl (-l16)), (14, .inr (.inl (Int.tmod l12 l14))), (12, .inr (.inl l14)), (10, .inr (.inl (Int.tmod l8 l10))), (8, .inr (.inl l10)), (24, .inr (.inl (Int.tmod l12 l14))), (22, .inr (.inl (Int.tmod l8 l10))), (20, .inr (.inl (Int.tdiv l12 l14))), (18, .inr (.inl (Int.tdiv l8 l10)))]) 9 rfl (mfx.lt mf115 (Nat.le_of_ble_eq_true rfl)) rfl (ck dc115 (i := 86) rfl) ?_
              refine G_goto (tgt := 20) (by decide) (ck dc115 (i := 87) rfl) ?_
              exact G_sub [5, 4, 3, 2, 1, 0] rfl h
            · replace h := h.2 c
              refine G_lload 1 rfl (ck dc115 (i := 60) rfl) ?_
              refine G_lload 0 rfl (ck dc115 (i := 61) rfl) ?_
              refine G_lif_ne (tgt := 121) (ck dc115 (i := 63) rfl) (by decide) o10 o12 (ck dc115 (i := 62) rfl) (fun c => ?_) (fun c => ?_)
              · replace h := h.1 c
                refine G_lload 1 rfl (ck dc115 (i := 66) rfl) ?_
                refine G_lconst (v := 0) rfl (ck dc115 (i := 67) rfl) ?_
                refine G_lif_ne (tgt := 134) (ck dc115 (i := 69) rfl) (by decide) o10 (by decide) (ck dc115 (i := 68) rfl) (fun c => ?_) (fun c => ?_)
                · replace h := h.1 c
                  refine G_iload 8 rfl (ck dc115 (i := 73) rfl) ?_
                  exact H_iretI mf115 (ck dc115 (i := 74) rfl) rfl h
                · replace h := h.2 c
                  refine G_iload 8 rfl (ck dc115 (i := 70) rfl) ?_
                  refine G_ineg (ck dc115 (i := 71) rfl) ?_
                  refine G_goto (tgt := 136) (by decide) (ck dc115 (i := 72) rfl) ?_
                  exact H_iretI mf115 (ck dc115 (i := 74) rfl) rfl h
              · replace h := h.2 c
                refine G_iconst (ck dc115 (i := 64) rfl) ?_
                refine G_goto (tgt := 136) (by decide) (ck dc115 (i := 65) rfl) ?_
                exact H_iretI mf115 (ck dc115 (i := 74) rfl) rfl h
        · replace h := h.2 c
          refine G_lload 1 rfl (ck dc115 (i := 35) rfl) ?_
          refine G_lload 0 rfl (ck dc115 (i := 36) rfl) ?_
          refine G_lif_le (tgt := 77) (ck dc115 (i := 38) rfl) (by decide) o8 o9 (ck dc115 (i := 37) rfl) (fun c => ?_) (fun c => ?_)
          · replace h := h.1 c
            refine G_iload 6 rfl (ck dc115 (i := 41) rfl) ?_
            refine G_ineg (ck dc115 (i := 42) rfl) ?_
            exact H_iretI mf115 (ck dc115 (i := 43) rfl) rfl h
          · replace h := h.2 c
            refine G_iload 6 rfl (ck dc115 (i := 39) rfl) ?_
            refine G_goto (tgt := 80) (by decide) (ck dc115 (i := 40) rfl) ?_
            exact H_iretI mf115 (ck dc115 (i := 43) rfl) rfl h
theorem c_ro_has (K : Nat) (a1 : Int) (M : PM) (Q : Option PV → PM → Prop)
    (h : R32 a1 ∧ (a1 < 0 → Q (some (.inl 0)) M) ∧ (¬ a1 < 0 → (4 ≤ a1 → Q (some (.inl 0)) M) ∧ (¬ 4 ≤ a1 → Q (some (.inl 1)) M))) : Call (K + 1) jRows_has [.inr (.inr 49), .inl a1] P0 P0 M Q := by
  refine Call.intro (by decide +kernel) (mfx.le mf121 (Nat.le_of_ble_eq_true rfl)) (Nat.le_refl _) rfl ?_
  refine G_iload_n 1 rfl rfl (ck dc121 (i := 0) rfl) ?_
  obtain ⟨o1, h⟩ := h
  refine G_if_lt (tgt := 13) (by decide) o1 (ck dc121 (i := 1) rfl) (fun c => ?_) (fun c => ?_)
  · replace h := h.1 c
    refine G_iconst (ck dc121 (i := 7) rfl) ?_
    exact H_iretZ mf121 (ck dc121 (i := 8) rfl) rfl (Or.inl rfl) h
  · replace h := h.2 c
    refine G_iload_n 1 rfl rfl (ck dc121 (i := 2) rfl) ?_
    refine G_iconst (ck dc121 (i := 3) rfl) ?_
    refine G_icmp_ge (tgt := 13) (by decide) o1 (by decide) (ck dc121 (i := 4) rfl) (fun c => ?_) (fun c => ?_)
    · replace h := h.1 c
      refine G_iconst (ck dc121 (i := 7) rfl) ?_
      exact H_iretZ mf121 (ck dc121 (i := 8) rfl) rfl (Or.inl rfl) h
    · replace h := h.2 c
      refine G_iconst (ck dc121 (i := 5) rfl) ?_
      refine G_goto (tgt := 14) (by decide) (ck dc121 (i := 6) rfl) ?_
      exact H_iretZ mf121 (ck dc121 (i := 8) rfl) rfl (Or.inr rfl) h
theorem c_ro_holds (K : Nat) (a1 : Int) (M : PM) (Q : Option PV → PM → Prop)
    (h : (0 ≤ a1 ∧ a1 < 4) ∧ R32 (M 50 a1) ∧ ((M 50 a1) = (-1) → Q (some (.inl 0)) M) ∧ (¬ (M 50 a1) = (-1) → Q (some (.inl 1)) M)) : Call (K + 1) jRows_holds [.inr (.inr 49), .inl a1] P0 P0 M Q := by
  refine Call.intro (by decide +kernel) (mfx.le mf122 (Nat.le_of_ble_eq_true rfl)) (Nat.le_refl _) rfl ?_
  refine G_aload_n 0 rfl rfl (ck dc122 (i := 0) rfl) ?_
  refine H_getR mf122 (ck dc122 (i := 1) rfl) fw_Rows_9 fc6_0 ly49 ra49 rf49_0 (by decide) ?_
  refine G_iload_n 1 rfl rfl (ck dc122 (i := 2) rfl) ?_
  obtain ⟨o1, h⟩ := h
  refine H_iald (ck dc122 (i := 3) rfl) ly50 (by decide) ra50 o1 (x := (M 50 a1)) rfl ?_
  refine G_iconst (ck dc122 (i := 4) rfl) ?_
  obtain ⟨o2, h⟩ := h
  refine G_icmp_eq (tgt := 14) (by decide) o2 (by decide) (ck dc122 (i := 5) rfl) (fun c => ?_) (fun c => ?_)
  · replace h := h.1 c
    refine G_iconst (ck dc122 (i := 8) rfl) ?_
    exact H_iretZ mf122 (ck dc122 (i := 9) rfl) rfl (Or.inl rfl) h
  · replace h := h.2 c
    refine G_iconst (ck dc122 (i := 6) rfl) ?_
    refine G_goto (tgt := 15) (by decide) (ck dc122 (i := 7) rfl) ?_
    exact H_iretZ mf122 (ck dc122 (i := 9) rfl) rfl (Or.inr rfl) h
theorem c_ro_hasPlace (K : Nat) (a1 a2 : Int) (M : PM) (Q : Option PV → PM → Prop)
    (h : Call K jRows_has [.inr (.inr 49), .inl a1] P0 P0 M (retI fun r1 M2 => R32 r1 ∧ (r1 = 0 → Q (some (.inl 0)) M2) ∧ (¬ r1 = 0 → R32 a2 ∧ (a2 < 0 → Q (some (.inl 0)) M2) ∧ (¬ a2 < 0 → (0 ≤ a1 ∧ a1 < 4) ∧ R32 (M2 50 a1) ∧ ((M2 50 a1) ≤ a2 → Q (some (.inl 0)) M2) ∧ (¬ (M2 50 a1) ≤ a2 → Q (some (.inl 1)) M2))))) : Call (K + 1) jRows_hasPlace [.inr (.inr 49), .inl a1, .inl a2] P0 P0 M Q := by
  refine Call.intro (by decide +kernel) (mfx.le mf124 (Nat.le_of_ble_eq_true rfl)) (Nat.le_refl _) rfl ?_
  refine G_aload_n 0 rfl rfl (ck dc124 (i := 0) rfl) ?_
  refine G_iload_n 1 rfl rfl (ck dc124 (i := 1) rfl) ?_
  refine H_vZ mf124 (As := [.inl a1]) (st := []) (ck dc124 (i := 2) rfl) lk_Rows_17 rfl rfl (Nat.le_of_ble_eq_true rfl) ly49 ra49 ⟨Nat.le_refl _, Nat.le_refl _⟩ h (fun r1 M2 h => ?_)
  obtain ⟨o3, h⟩ := h
  refine G_if_eq (tgt := 26) (by decide) o3 (ck dc124 (i := 3) rfl) (fun c => ?_) (fun c => ?_)
  · replace h := h.1 c
    refine G_iconst (ck dc124 (i := 14) rfl) ?_
    exact H_iretZ mf124 (ck dc124 (i := 15) rfl) rfl (Or.inl rfl) h
  · replace h := h.2 c
    refine G_iload_n 2 rfl rfl (ck dc124 (i := 4) rfl) ?_
    obtain ⟨o4, h⟩ := h
    refine G_if_lt (tgt := 26) (by decide) o4 (ck dc124 (i := 5) rfl) (fun c => ?_) (fun c => ?_)
    · replace h := h.1 c
      refine G_iconst (ck dc124 (i := 14) rfl) ?_
      exact H_iretZ mf124 (ck dc124 (i := 15) rfl) rfl (Or.inl rfl) h
    · replace h := h.2 c
      refine G_iload_n 2 rfl rfl (ck dc124 (i := 6) rfl) ?_
      refine G_aload_n 0 rfl rfl (ck dc124 (i := 7) rfl) ?_
      refine H_getR mf124 (ck dc124 (i := 8) rfl) fw_Rows_9 fc6_0 ly49 ra49 rf49_0 (by decide) ?_
      refine G_iload_n 1 rfl rfl (ck dc124 (i := 9) rfl) ?_
      obtain ⟨o5, h⟩ := h
      refine H_iald (ck dc124 (i := 10) rfl) ly50 (by decide) ra50 o5 (x := (M2 50 a1)) rfl ?_
      obtain ⟨o6, h⟩ := h
      refine G_icmp_ge (tgt := 26) (by decide) o4 o6 (ck dc124 (i := 11) rfl) (fun c => ?_) (fun c => ?_)
      · replace h := h.1 c
        refine G_iconst (ck dc124 (i := 14) rfl) ?_
        exact H_iretZ mf124 (ck dc124 (i := 15) rfl) rfl (Or.inl rfl) h
      · replace h := h.2 c
        refine G_iconst (ck dc124 (i := 12) rfl) ?_
        refine G_goto (tgt := 27) (by decide) (ck dc124 (i := 13) rfl) ?_
        exact H_iretZ mf124 (ck dc124 (i := 15) rfl) rfl (Or.inr rfl) h
theorem c_ro_layAt (K : Nat) (a1 a2 a3 a4 : Int) (M : PM) (Q : Option PV → PM → Prop)
    (h : R32 a2 ∧ (a2 < 0 → Q (some (.inl 0)) M) ∧ (¬ a2 < 0 → (20 ≤ a2 → Q (some (.inl 0)) M) ∧ (¬ 20 ≤ a2 → Call K jRows_hasPlace [.inr (.inr 49), .inl a1, .inl (a2 + a3)] P0 P0 M (retI fun r2 M3 => R32 r2 ∧ (¬ r2 = 0 → (0 ≤ (((a1 * 20) + a2) + a3) ∧ (((a1 * 20) + a2) + a3) < 80) ∧ Q (some (.inl 1)) (mset M3 51 (((a1 * 20) + a2) + a3) a4)) ∧ (r2 = 0 → Q (some (.inl 0)) M3))))) : Call (K + 1) jRows_layAt [.inr (.inr 49), .inl a1, .inl a2, .inl a3, .inr (.inl a4)] P0 P0 M Q := by
  refine Call.intro (by decide +kernel) (mfx.le mf123 (Nat.le_of_ble_eq_true rfl)) (Nat.le_refl _) rfl ?_
  refine G_iload_n 2 rfl rfl (ck dc123 (i := 0) rfl) ?_
  obtain ⟨o1, h⟩ := h
  refine G_if_lt (tgt := 21) (by decide) o1 (ck dc123 (i := 1) rfl) (fun c => ?_) (fun c => ?_)
  · replace h := h.1 c
    refine G_iconst (ck dc123 (i := 12) rfl) ?_
    exact H_iretZ mf123 (ck dc123 (i := 13) rfl) rfl (Or.inl rfl) h
  · replace h := h.2 c
    refine G_iload_n 2 rfl rfl (ck dc123 (i := 2) rfl) ?_
    refine G_bipush (n := 20) rfl (ck dc123 (i := 3) rfl) ?_
    refine G_icmp_ge (tgt := 21) (by decide) o1 (by decide) (ck dc123 (i := 4) rfl) (fun c => ?_) (fun c => ?_)
    · replace h := h.1 c
      refine G_iconst (ck dc123 (i := 12) rfl) ?_
      exact H_iretZ mf123 (ck dc123 (i := 13) rfl) rfl (Or.inl rfl) h
    · replace h := h.2 c
      refine G_aload_n 0 rfl rfl (ck dc123 (i := 5) rfl) ?_
      refine G_iload_n 1 rfl rfl (ck dc123 (i := 6) rfl) ?_
      refine G_iload_n 2 rfl rfl (ck dc123 (i := 7) rfl) ?_
      refine G_iload_n 3 rfl rfl (ck dc123 (i := 8) rfl) ?_
      refine G_iadd (ck dc123 (i := 9) rfl) ?_
      refine H_vZ mf123 (As := [.inl a1, .inl (a2 + a3)]) (st := []) (ck dc123 (i := 10) rfl) lk_Rows_21 rfl rfl (Nat.le_of_ble_eq_true rfl) ly49 ra49 ⟨Nat.le_refl _, Nat.le_refl _⟩ h (fun r2 M3 h => ?_)
      obtain ⟨o4, h⟩ := h
      refine G_if_ne (tgt := 23) (by decide) o4 (ck dc123 (i := 11) rfl) (fun c => ?_) (fun c => ?_)
      · replace h := h.1 c
        refine G_aload_n 0 rfl rfl (ck dc123 (i := 14) rfl) ?_
        refine H_getR mf123 (ck dc123 (i := 15) rfl) fw_Rows_13 fc6_1 ly49 ra49 rf49_1 (by decide) ?_
        refine G_iload_n 1 rfl rfl (ck dc123 (i := 16) rfl) ?_
        refine G_bipush (n := 20) rfl (ck dc123 (i := 17) rfl) ?_
        refine G_imul (ck dc123 (i := 18) rfl) ?_
        refine G_iload_n 2 rfl rfl (ck dc123 (i := 19) rfl) ?_
        refine G_iadd (ck dc123 (i := 20) rfl) ?_
        refine G_iload_n 3 rfl rfl (ck dc123 (i := 21) rfl) ?_
        refine G_iadd (ck dc123 (i := 22) rfl) ?_
        refine G_lload 4 rfl (ck dc123 (i := 23) rfl) ?_
        obtain ⟨o5, h⟩ := h
        refine G_last (ck dc123 (i := 24) rfl) ra51 ly51 (by decide) o5 ?_
        refine G_iconst (ck dc123 (i := 25) rfl) ?_
        exact H_iretZ mf123 (ck dc123 (i := 26) rfl) rfl (Or.inr rfl) h
      · replace h := h.2 c
        refine G_iconst (ck dc123 (i := 12) rfl) ?_
        exact H_iretZ mf123 (ck dc123 (i := 13) rfl) rfl (Or.inl rfl) h
theorem c_rings_isOn (K : Nat) (a2 a3 : Int) (M : PM) (Q : Option PV → PM → Prop)
    (h : G none (K + 1) jRings_isOn 2 [(0, .inr (.inr 41)), (1, .inl a2), (2, .inl a3), (3, .inl 0)] [] P0 P0 M Q) : Call (K + 1) jRings_isOn [.inr (.inr 41), .inl a2, .inl a3] P0 P0 M Q := by
  refine Call.intro (by decide +kernel) (mfx.le mf128 (Nat.le_of_ble_eq_true rfl)) (Nat.le_refl _) rfl ?_
  refine G_iconst (ck dc128 (i := 0) rfl) ?_
  refine G_istore_n (L' := [(3, .inl 0), (0, .inr (.inr 41)), (1, .inl a2), (2, .inl a3)]) rfl (mfx.lt mf128 (Nat.le_of_ble_eq_true rfl)) rfl (ck dc128 (i := 1) rfl) ?_
  exact G_sub [1, 2, 3, 0] rfl h
theorem g_rings_isOn_2 (K : Nat) (l1 l2 l3 : Int) (M : PM) (Q : Option PV → PM → Prop)
    (h : R32 l3 ∧ R32 l1 ∧ (l1 ≤ l3 → Q (some (.inl 0)) M) ∧ (¬ l1 ≤ l3 → (0 ≤ l3 ∧ l3 < 5) ∧ R32 (M 41 l3) ∧ R32 l2 ∧ (¬ (M 41 l3) = l2 → G none (K + 1) jRings_isOn 2 [(0, .inr (.inr 41)), (1, .inl l1), (2, .inl l2), (3, .inl (l3 + 1))] [] P0 P0 M Q) ∧ ((M 41 l3) = l2 → Q (some (.inl 1)) M))) : G none (K + 1) jRings_isOn 2 [(0, .inr (.inr 41)), (1, .inl l1), (2, .inl l2), (3, .inl l3)] [] P0 P0 M Q := by
  refine G_iload_n 3 rfl rfl (ck dc128 (i := 2) rfl) ?_
  refine G_iload_n 1 rfl rfl (ck dc128 (i := 3) rfl) ?_
  obtain ⟨o1, h⟩ := h
  obtain ⟨o2, h⟩ := h
  refine G_icmp_ge (tgt := 22) (by decide) o1 o2 (ck dc128 (i := 4) rfl) (fun c => ?_) (fun c => ?_)
  · replace h := h.1 c
    refine G_iconst (ck dc128 (i := 14) rfl) ?_
    exact H_iretZ mf128 (ck dc128 (i := 15) rfl) rfl (Or.inl rfl) h
  · replace h := h.2 c
    refine G_aload_n 0 rfl rfl (ck dc128 (i := 5) rfl) ?_
    refine G_iload_n 3 rfl rfl (ck dc128 (i := 6) rfl) ?_
    obtain ⟨o3, h⟩ := h
    refine H_iald (ck dc128 (i := 7) rfl) ly41 (by decide) ra41 o3 (x := (M 41 l3)) rfl ?_
    refine G_iload_n 2 rfl rfl (ck dc128 (i := 8) rfl) ?_
    obtain ⟨o4, h⟩ := h
    obtain ⟨o5, h⟩ := h
    refine G_icmp_ne (tgt := 16) (by decide) o4 o5 (ck dc128 (i := 9) rfl) (fun c => ?_) (fun c => ?_)
    · replace h := h.1 c
      refine G_iinc (L' := [(3, .inl (l3 + 1)), (0, .inr (.inr 41)), (1, .inl l1), (2, .inl l2)]) 3 rfl (mfx.lt mf128 (Nat.le_of_ble_eq_true rfl)) rfl (ck dc128 (i := 12) rfl) ?_
      refine G_goto (tgt := 2) (by decide) (ck dc128 (i := 13) rfl) ?_
      exact G_sub [1, 2, 3, 0] rfl h
    · replace h := h.2 c
      refine G_iconst (ck dc128 (i := 10) rfl) ?_
      exact H_iretZ mf128 (ck dc128 (i := 11) rfl) rfl (Or.inr rfl) h
set_option maxHeartbeats 20000000 in
theorem c_rings_closed (K : Nat) (a2 a4 : Int) (M : PM) (Q : Option PV → PM → Prop)
    (h : R32 a4 ∧ (a4 < 1 → Q (some (.inl 0)) M) ∧ (¬ a4 < 1 → (a4 ≤ 5 → (0 ≤ (a4 - 1) ∧ (a4 - 1) < 5) ∧ (a4 ≤ 1 → G none (K + 1) jRings_closed 47 [(0, .inr (.inr 1)), (1, .inl a2), (2, .inr (.inr 41)), (3, .inl a4), (4, .inl (M 41 (a4 - 1))), (5, .inl ((M 41 0) + 1))] [] P0 P0 M Q) ∧ (¬ a4 ≤ 1 → Call K jBook_amount [.inr (.inr 1), .inl (M 41 (a4 - 1)), .inl (M 41 0), .inl a2] P0 P0 M (retI fun r3 M4 => R32 r3 ∧ (r3 ≤ 0 → G none (K + 1) jRings_closed 47 [(0, .inr (.inr 1)), (1, .inl a2), (2, .inr (.inr 41)), (3, .inl a4), (4, .inl (M 41 (a4 - 1))), (5, .inl ((M4 41 0) + 1))] [] P0 P0 M4 Q) ∧ (¬ r3 ≤ 0 → Q (some (.inl a4)) M4)))) ∧ (¬ a4 ≤ 5 → Q (some (.inl 0)) M))) : Call (K + 1) jRings_closed [.inr (.inr 1), .inl a2, .inr (.inr 41), .inl a4] P0 P0 M Q := by
  refine Call.intro (by decide +kernel) (mfx.le mf127 (Nat.le_of_ble_eq_true rfl)) (Nat.le_refl _) rfl ?_
  refine G_iload_n 3 rfl rfl (ck dc127 (i := 0) rfl) ?_
  refine G_iconst (ck dc127 (i := 1) rfl) ?_
  obtain ⟨o1, h⟩ := h
  refine G_icmp_lt (tgt := 11) (by decide) o1 (by decide) (ck dc127 (i := 2) rfl) (fun c => ?_) (fun c => ?_)
  · replace h := h.1 c
    refine G_iconst (ck dc127 (i := 7) rfl) ?_
    exact H_iretI mf127 (ck dc127 (i := 8) rfl) rfl h
  · replace h := h.2 c
    refine G_iload_n 3 rfl rfl (ck dc127 (i := 3) rfl) ?_
    refine G_aload_n 2 rfl rfl (ck dc127 (i := 4) rfl) ?_
    refine G_alen (ck dc127 (i := 5) rfl) ra41 ly41 (by decide) ?_
    refine G_icmp_le (tgt := 13) (by decide) o1 (by decide) (ck dc127 (i := 6) rfl) (fun c => ?_) (fun c => ?_)
    · replace h := h.1 c
      refine G_aload_n 2 rfl rfl (ck dc127 (i := 9) rfl) ?_
      refine G_iload_n 3 rfl rfl (ck dc127 (i := 10) rfl) ?_
      refine G_iconst (ck dc127 (i := 11) rfl) ?_
      refine G_isub (ck dc127 (i := 12) rfl) ?_
      obtain ⟨o2, h⟩ := h
      refine H_iald (ck dc127 (i := 13) rfl) ly41 (by decide) ra41 o2 (x := (M 41 (a4 - 1))) rfl ?_
      refine G_istore (L' := [(4, .inl (M 41 (a4 - 1))), (0, .inr (.inr 1)), (1, .inl a2), (2, .inr (.inr 41)), (3, .inl a4)]) (mfx.lt mf127 (Nat.le_of_ble_eq_true rfl)) rfl (ck dc127 (i := 14) rfl) ?_
      refine G_iload_n 4 rfl rfl (ck dc127 (i := 15) rfl) ?_
      refine G_iconst (ck dc127 (i := 16) rfl) ?_
      refine G_icmp_le (tgt := 40) (by decide) o1 (by decide) (ck dc127 (i := 17) rfl) (fun c => ?_) (fun c => ?_)
      · replace h := h.1 c
        refine G_aload_n 3 rfl rfl (ck dc127 (i := 28) rfl) ?_
        refine G_iconst (ck dc127 (i := 29) rfl) ?_
        refine H_iald (ck dc127 (i := 30) rfl) ly41 (by decide) ra41 (by decide) (x := (M 41 0)) rfl ?_
        refine G_iconst (ck dc127 (i := 31) rfl) ?_
        refine G_iadd (ck dc127 (i := 32) rfl) ?_
        refine G_istore (L' := [(5, .inl ((M 41 0) + 1)), (4, .inl (M 41 (a4 - 1))), (0, .inr (.inr 1)), (1, .inl a2), (2, .inr (.inr 41)), (3, .inl a4)]) (mfx.lt mf127 (Nat.le_of_ble_eq_true rfl)) rfl (ck dc127 (i := 33) rfl) ?_
        exact G_sub [2, 3, 4, 5, 1, 0] rfl h
      · replace h := h.2 c
        refine G_aload_n 1 rfl rfl (ck dc127 (i := 18) rfl) ?_
        refine G_iload 0 rfl (ck dc127 (i := 19) rfl) ?_
        refine G_aload_n 3 rfl rfl (ck dc127 (i := 20) rfl) ?_
        refine G_iconst (ck dc127 (i := 21) rfl) ?_
        refine H_iald (ck dc127 (i := 22) rfl) ly41 (by decide) ra41 (by decide) (x := (M 41 0)) rfl ?_
        refine G_iload_n 2 rfl rfl (ck dc127 (i := 23) rfl) ?_
        refine H_vI mf127 (As := [.inl (M 41 (a4 - 1)), .inl (M 41 0), .inl a2]) (st := []) (ck dc127 (i := 24) rfl) lk_Rings_29 rfl rfl (Nat.le_of_ble_eq_true rfl) ly1 ra1 ⟨Nat.le_refl _, Nat.le_refl _⟩ h (fun r3 M4 h => ?_)
        obtain ⟨o5, h⟩ := h
        refine G_if_le (tgt := 40) (by decide) o5 (ck dc127 (i := 25) rfl) (fun c => ?_) (fun c => ?_)
        · replace h := h.1 c
          refine G_aload_n 3 rfl rfl (ck dc127 (i := 28) rfl) ?_
          refine G_iconst (ck dc127 (i := 29) rfl) ?_
          refine H_iald (ck dc127 (i := 30) rfl) ly41 (by decide) ra41 (by decide) (x := (M4 41 0)) rfl ?_
          refine G_iconst (ck dc127 (i := 31) rfl) ?_
          refine G_iadd (ck dc127 (i := 32) rfl) ?_
          refine G_istore (L' := [(5, .inl ((M4 41 0) + 1)), (4, .inl (M 41 (a4 - 1))), (0, .inr (.inr 1)), (1, .inl a2), (2, .inr (.inr 41)), (3, .inl a4)]) (mfx.lt mf127 (Nat.le_of_ble_eq_true rfl)) rfl (ck dc127 (i := 33) rfl) ?_
          exact G_sub [2, 3, 4, 5, 1, 0] rfl h
        · replace h := h.2 c
          refine G_iload_n 4 rfl rfl (ck dc127 (i := 26) rfl) ?_
          exact H_iretI mf127 (ck dc127 (i := 27) rfl) rfl h
    · replace h := h.2 c
      refine G_iconst (ck dc127 (i := 7) rfl) ?_
      exact H_iretI mf127 (ck dc127 (i := 8) rfl) rfl h
set_option maxHeartbeats 20000000 in
theorem g_rings_closed_47 (K : Nat) (l1 l3 l4 l5 : Int) (M : PM) (Q : Option PV → PM → Prop)
    (h : R32 l5 ∧ R32 (M 1 0) ∧ ((M 1 0) ≤ l5 → Q (some (.inl 0)) M) ∧ (¬ (M 1 0) ≤ l5 → R32 l3 ∧ (5 ≤ l3 → Q (some (.inl 0)) M) ∧ (¬ 5 ≤ l3 → Call K jBook_amount [.inr (.inr 1), .inl l4, .inl l5, .inl l1] P0 P0 M (retI fun r4 M5 => R32 r4 ∧ (r4 ≤ 0 → G none (K + 1) jRings_closed 47 [(0, .inr (.inr 1)), (1, .inl l1), (2, .inr (.inr 41)), (3, .inl l3), (4, .inl l4), (5, .inl (l5 + 1))] [] P0 P0 M5 Q) ∧ (¬ r4 ≤ 0 → Call K jRings_isOn [.inr (.inr 41), .inl l3, .inl l5] P0 P0 M5 (retI fun r7 M8 => R32 r7 ∧ (¬ r7 = 0 → G none (K + 1) jRings_closed 47 [(0, .inr (.inr 1)), (1, .inl l1), (2, .inr (.inr 41)), (3, .inl l3), (4, .inl l4), (5, .inl (l5 + 1))] [] P0 P0 M8 Q) ∧ (r7 = 0 → (0 ≤ l3 ∧ l3 < 5) ∧ Call K jRings_closed [.inr (.inr 1), .inl l1, .inr (.inr 41), .inl (l3 + 1)] P0 P0 (mset M8 41 l3 l5) (retI fun r11 M12 => R32 r11 ∧ (r11 ≤ 0 → G none (K + 1) jRings_closed 47 [(0, .inr (.inr 1)), (1, .inl l1), (2, .inr (.inr 41)), (3, .inl l3), (4, .inl l4), (5, .inl (l5 + 1))] [] P0 P0 M12 Q) ∧ (¬ r11 ≤ 0 → Q (some (.inl r11)) M12))))))))) : G none (K + 1) jRings_closed 47 [(0, .inr (.inr 1)), (1, .inl l1), (2, .inr (.inr 41)), (3, .inl l3), (4, .inl l4), (5, .inl l5)] [] P0 P0 M Q := by
  refine G_iload 5 rfl (ck dc127 (i := 34) rfl) ?_
  refine G_aload_n 0 rfl rfl (ck dc127 (i := 35) rfl) ?_
  refine H_getI mf127 (ck dc127 (i := 36) rfl) fw_Rings_19 (Or.inl fc0_0) ly1 ra1 (x := (M 1 0)) rfl ?_
  obtain ⟨o1, h⟩ := h
  obtain ⟨o2, h⟩ := h
  refine G_icmp_ge (tgt := 114) (by decide) o1 o2 (ck dc127 (i := 37) rfl) (fun c => ?_) (fun c => ?_)
  · replace h := h.1 c
    refine G_iconst (ck dc127 (i := 71) rfl) ?_
    exact H_iretI mf127 (ck dc127 (i := 72) rfl) rfl h
  · replace h := h.2 c
    refine G_iload_n 3 rfl rfl (ck dc127 (i := 38) rfl) ?_
    refine G_aload_n 2 rfl rfl (ck dc127 (i := 39) rfl) ?_
    refine G_alen (ck dc127 (i := 40) rfl) ra41 ly41 (by decide) ?_
    obtain ⟨o3, h⟩ := h
    refine G_icmp_ge (tgt := 114) (by decide) o3 (by decide) (ck dc127 (i := 41) rfl) (fun c => ?_) (fun c => ?_)
    · replace h := h.1 c
      refine G_iconst (ck dc127 (i := 71) rfl) ?_
      exact H_iretI mf127 (ck dc127 (i := 72) rfl) rfl h
    · replace h := h.2 c
      refine G_aload_n 0 rfl rfl (ck dc127 (i := 42) rfl) ?_
      refine G_iload 4 rfl (ck dc127 (i := 43) rfl) ?_
      refine G_iload 5 rfl (ck dc127 (i := 44) rfl) ?_
      refine G_iload_n 1 rfl rfl (ck dc127 (i := 45) rfl) ?_
      refine H_vI mf127 (As := [.inl l4, .inl l5, .inl l1]) (st := []) (ck dc127 (i := 46) rfl) lk_Rings_29 rfl rfl (Nat.le_of_ble_eq_true rfl) ly1 ra1 ⟨Nat.le_refl _, Nat.le_refl _⟩ h (fun r4 M5 h => ?_)
      obtain ⟨o6, h⟩ := h
      refine G_if_le (tgt := 108) (by decide) o6 (ck dc127 (i := 47) rfl) (fun c => ?_) (fun c => ?_)
      · replace h := h.1 c
        refine G_iinc (L' := [(5, .inl (l5 + 1)), (0, .inr (.inr 1)), (1, .inl l1), (2, .inr (.inr 41)), (3, .inl l3), (4, .inl l4)]) 5 rfl (mfx.lt mf127 (Nat.le_of_ble_eq_true rfl)) rfl (ck dc127 (i := 69) rfl) ?_
        refine G_goto (tgt := 47) (by decide) (ck dc127 (i := 70) rfl) ?_
        exact G_sub [1, 2, 3, 4, 5, 0] rfl h
      · replace h := h.2 c
        refine G_aload_n 2 rfl rfl (ck dc127 (i := 48) rfl) ?_
        refine G_iload_n 3 rfl rfl (ck dc127 (i := 49) rfl) ?_
        refine G_iload 5 rfl (ck dc127 (i := 50) rfl) ?_
        refine H_sZ mf127 (As := [.inr (.inr 41), .inl l3, .inl l5]) (st := []) (ck dc127 (i := 51) rfl) lk_Rings_33 rfl rfl (Nat.le_of_ble_eq_true rfl) ⟨Nat.le_refl _, Nat.le_refl _⟩ h (fun r7 M8 h => ?_)
        obtain ⟨o9, h⟩ := h
        refine G_if_ne (tgt := 108) (by decide) o9 (ck dc127 (i := 52) rfl) (fun c => ?_) (fun c => ?_)
        · replace h := h.1 c
          refine G_iinc (L' := [(5, .inl (l5 + 1)), (0, .inr (.inr 1)), (1, .inl l1), (2, .inr (.inr 41)), (3, .inl l3), (4, .inl l4)]) 5 rfl (mfx.lt mf127 (Nat.le_of_ble_eq_true rfl)) rfl (ck dc127 (i := 69) rfl) ?_
          refine G_goto (tgt := 47) (by decide) (ck dc127 (i := 70) rfl) ?_
          exact G_sub [1, 2, 3, 4, 5, 0] rfl h
        · replace h := h.2 c
          refine G_aload_n 2 rfl rfl (ck dc127 (i := 53) rfl) ?_
          refine G_iload_n 3 rfl rfl (ck dc127 (i := 54) rfl) ?_
          refine G_iload 5 rfl (ck dc127 (i := 55) rfl) ?_
          obtain ⟨o10, h⟩ := h
          refine G_iast (ck dc127 (i := 56) rfl) ra41 ly41 (by decide) o10 ?_
          refine G_aload_n 0 rfl rfl (ck dc127 (i := 57) rfl) ?_
          refine G_iload_n 1 rfl rfl (ck dc127 (i := 58) rfl) ?_
          refine G_aload_n 2 rfl rfl (ck dc127 (i := 59) rfl) ?_
          refine G_iload_n 3 rfl rfl (ck dc127 (i := 60) rfl) ?_
          refine G_iconst (ck dc127 (i := 61) rfl) ?_
          refine G_iadd (ck dc127 (i := 62) rfl) ?_
          refine H_sI mf127 (As := [.inr (.inr 1), .inl l1, .inr (.inr 41), .inl (l3 + 1)]) (st := []) (ck dc127 (i := 63) rfl) lk_Rings_25 rfl rfl (Nat.le_of_ble_eq_true rfl) ⟨Nat.le_refl _, Nat.le_refl _⟩ h (fun r11 M12 h => ?_)
          refine G_istore (L' := [(6, .inl r11), (0, .inr (.inr 1)), (1, .inl l1), (2, .inr (.inr 41)), (3, .inl l3), (4, .inl l4), (5, .inl l5)]) (mfx.lt mf127 (Nat.le_of_ble_eq_true rfl)) rfl (ck dc127 (i := 64) rfl) ?_
          refine G_iload 0 rfl (ck dc127 (i := 65) rfl) ?_
          obtain ⟨o13, h⟩ := h
          refine G_if_le (tgt := 108) (by decide) o13 (ck dc127 (i := 66) rfl) (fun c => ?_) (fun c => ?_)
          · replace h := h.1 c
            refine G_iinc (L' := [(5, .inl (l5 + 1)), (6, .inl r11), (0, .inr (.inr 1)), (1, .inl l1), (2, .inr (.inr 41)), (3, .inl l3), (4, .inl l4)]) 6 rfl (mfx.lt mf127 (Nat.le_of_ble_eq_true rfl)) rfl (ck dc127 (i := 69) rfl) ?_
            refine G_goto (tgt := 47) (by decide) (ck dc127 (i := 70) rfl) ?_
            exact G_sub [2, 3, 4, 5, 6, 0] rfl h
          · replace h := h.2 c
            refine G_iload 0 rfl (ck dc127 (i := 67) rfl) ?_
            exact H_iretI mf127 (ck dc127 (i := 68) rfl) rfl h
theorem c_ri_find (K : Nat) (a1 : Int) (M : PM) (Q : Option PV → PM → Prop)
    (h : G none (K + 1) jRings_find 2 [(0, .inr (.inr 40)), (1, .inl a1), (2, .inl 0)] [] P0 P0 M Q) : Call (K + 1) jRings_find [.inr (.inr 40), .inl a1] P0 P0 M Q := by
  refine Call.intro (by decide +kernel) (mfx.le mf126 (Nat.le_of_ble_eq_true rfl)) (Nat.le_refl _) rfl ?_
  refine G_iconst (ck dc126 (i := 0) rfl) ?_
  refine G_istore_n (L' := [(2, .inl 0), (0, .inr (.inr 40)), (1, .inl a1)]) rfl (mfx.lt mf126 (Nat.le_of_ble_eq_true rfl)) rfl (ck dc126 (i := 1) rfl) ?_
  exact G_sub [1, 2, 0] rfl h
theorem g_ri_find_2 (K : Nat) (l1 l2 : Int) (M : PM) (Q : Option PV → PM → Prop)
    (h : R32 l2 ∧ R32 (M 1 0) ∧ ((M 1 0) ≤ l2 → Q (some (.inl 0)) M) ∧ (¬ (M 1 0) ≤ l2 → Call K jRings_closed [.inr (.inr 1), .inl l1, .inr (.inr 41), .inl 1] P0 P0 (mset M 41 0 l2) (retI fun r3 M4 => R32 r3 ∧ (r3 ≤ 0 → G none (K + 1) jRings_find 2 [(0, .inr (.inr 40)), (1, .inl l1), (2, .inl (l2 + 1))] [] P0 P0 M4 Q) ∧ (¬ r3 ≤ 0 → Q (some (.inl r3)) M4)))) : G none (K + 1) jRings_find 2 [(0, .inr (.inr 40)), (1, .inl l1), (2, .inl l2)] [] P0 P0 M Q := by
  refine G_iload_n 2 rfl rfl (ck dc126 (i := 2) rfl) ?_
  refine G_aload_n 0 rfl rfl (ck dc126 (i := 3) rfl) ?_
  refine H_getR mf126 (ck dc126 (i := 4) rfl) fw_Rings_15 fc5_1 ly40 ra40 rf40_1 (by decide) ?_
  refine H_getI mf126 (ck dc126 (i := 5) rfl) fw_Rings_19 (Or.inl fc0_0) ly1 ra1 (x := (M 1 0)) rfl ?_
  obtain ⟨o1, h⟩ := h
  obtain ⟨o2, h⟩ := h
  refine G_icmp_ge (tgt := 46) (by decide) o1 o2 (ck dc126 (i := 6) rfl) (fun c => ?_) (fun c => ?_)
  · replace h := h.1 c
    refine G_iconst (ck dc126 (i := 26) rfl) ?_
    exact H_iretI mf126 (ck dc126 (i := 27) rfl) rfl h
  · replace h := h.2 c
    refine G_aload_n 0 rfl rfl (ck dc126 (i := 7) rfl) ?_
    refine H_getR mf126 (ck dc126 (i := 8) rfl) fw_Rings_9 fc5_0 ly40 ra40 rf40_0 (by decide) ?_
    refine G_iconst (ck dc126 (i := 9) rfl) ?_
    refine G_iload_n 2 rfl rfl (ck dc126 (i := 10) rfl) ?_
    refine G_iast (ck dc126 (i := 11) rfl) ra41 ly41 (by decide) (by decide) ?_
    refine G_aload_n 0 rfl rfl (ck dc126 (i := 12) rfl) ?_
    refine H_getR mf126 (ck dc126 (i := 13) rfl) fw_Rings_15 fc5_1 ly40 ra40 rf40_1 (by decide) ?_
    refine G_iload_n 1 rfl rfl (ck dc126 (i := 14) rfl) ?_
    refine G_aload_n 0 rfl rfl (ck dc126 (i := 15) rfl) ?_
    refine H_getR mf126 (ck dc126 (i := 16) rfl) fw_Rings_9 fc5_0 ly40 ra40 rf40_0 (by decide) ?_
    refine G_iconst (ck dc126 (i := 17) rfl) ?_
    refine H_sI mf126 (As := [.inr (.inr 1), .inl l1, .inr (.inr 41), .inl 1]) (st := []) (ck dc126 (i := 18) rfl) lk_Rings_25 rfl rfl (Nat.le_of_ble_eq_true rfl) ⟨Nat.le_refl _, Nat.le_refl _⟩ h (fun r3 M4 h => ?_)
    refine G_istore_n (L' := [(3, .inl r3), (0, .inr (.inr 40)), (1, .inl l1), (2, .inl l2)]) rfl (mfx.lt mf126 (Nat.le_of_ble_eq_true rfl)) rfl (ck dc126 (i := 19) rfl) ?_
    refine G_iload_n 0 rfl rfl (ck dc126 (i := 20) rfl) ?_
    obtain ⟨o5, h⟩ := h
    refine G_if_le (tgt := 40) (by decide) o5 (ck dc126 (i := 21) rfl) (fun c => ?_) (fun c => ?_)
    · replace h := h.1 c
      refine G_iinc (L' := [(2, .inl (l2 + 1)), (3, .inl r3), (0, .inr (.inr 40)), (1, .inl l1)]) 3 rfl (mfx.lt mf126 (Nat.le_of_ble_eq_true rfl)) rfl (ck dc126 (i := 24) rfl) ?_
      refine G_goto (tgt := 2) (by decide) (ck dc126 (i := 25) rfl) ?_
      exact G_sub [2, 3, 0] rfl h
    · replace h := h.2 c
      refine G_iload_n 0 rfl rfl (ck dc126 (i := 22) rfl) ?_
      exact H_iretI mf126 (ck dc126 (i := 23) rfl) rfl h
theorem c_ri_after (K : Nat) (a1 a2 : Int) (M : PM) (Q : Option PV → PM → Prop)
    (h : R32 (a1 + 1) ∧ R32 a2 ∧ (a2 ≤ (a1 + 1) → Q (some (.inl (M 41 0))) M) ∧ (¬ a2 ≤ (a1 + 1) → (0 ≤ (a1 + 1) ∧ (a1 + 1) < 5) ∧ Q (some (.inl (M 41 (a1 + 1)))) M)) : Call (K + 1) jRings_after [.inr (.inr 40), .inl a1, .inl a2] P0 P0 M Q := by
  refine Call.intro (by decide +kernel) (mfx.le mf131 (Nat.le_of_ble_eq_true rfl)) (Nat.le_refl _) rfl ?_
  refine G_aload_n 0 rfl rfl (ck dc131 (i := 0) rfl) ?_
  refine H_getR mf131 (ck dc131 (i := 1) rfl) fw_Rings_9 fc5_0 ly40 ra40 rf40_0 (by decide) ?_
  refine G_iload_n 1 rfl rfl (ck dc131 (i := 2) rfl) ?_
  refine G_iconst (ck dc131 (i := 3) rfl) ?_
  refine G_iadd (ck dc131 (i := 4) rfl) ?_
  refine G_iload_n 2 rfl rfl (ck dc131 (i := 5) rfl) ?_
  obtain ⟨o1, h⟩ := h
  obtain ⟨o2, h⟩ := h
  refine G_icmp_ge (tgt := 17) (by decide) o1 o2 (ck dc131 (i := 6) rfl) (fun c => ?_) (fun c => ?_)
  · replace h := h.1 c
    refine G_iconst (ck dc131 (i := 11) rfl) ?_
    refine H_iald (ck dc131 (i := 12) rfl) ly41 (by decide) ra41 (by decide) (x := (M 41 0)) rfl ?_
    exact H_iretI mf131 (ck dc131 (i := 13) rfl) rfl h
  · replace h := h.2 c
    refine G_iload_n 1 rfl rfl (ck dc131 (i := 7) rfl) ?_
    refine G_iconst (ck dc131 (i := 8) rfl) ?_
    refine G_iadd (ck dc131 (i := 9) rfl) ?_
    refine G_goto (tgt := 18) (by decide) (ck dc131 (i := 10) rfl) ?_
    obtain ⟨o3, h⟩ := h
    refine H_iald (ck dc131 (i := 12) rfl) ly41 (by decide) ra41 o3 (x := (M 41 (a1 + 1))) rfl ?_
    exact H_iretI mf131 (ck dc131 (i := 13) rfl) rfl h
theorem c_ri_takeOff (K : Nat) (a1 : Int) (M : PM) (Q : Option PV → PM → Prop)
    (h : Call K jRings_find [.inr (.inr 40), .inl a1] P0 P0 M (retI fun r1 M2 => G none (K + 1) jRings_takeOff 12 [(0, .inr (.inr 40)), (1, .inl a1), (2, .inl r1), (3, .inl 20), (4, .inl 0)] [] P0 P0 M2 Q)) : Call (K + 1) jRings_takeOff [.inr (.inr 40), .inl a1] P0 P0 M Q := by
  refine Call.intro (by decide +kernel) (mfx.le mf130 (Nat.le_of_ble_eq_true rfl)) (Nat.le_refl _) rfl ?_
  refine G_aload_n 0 rfl rfl (ck dc130 (i := 0) rfl) ?_
  refine G_iload_n 1 rfl rfl (ck dc130 (i := 1) rfl) ?_
  refine H_vI mf130 (As := [.inl a1]) (st := []) (ck dc130 (i := 2) rfl) lk_Rings_37 rfl rfl (Nat.le_of_ble_eq_true rfl) ly40 ra40 ⟨Nat.le_refl _, Nat.le_refl _⟩ h (fun r1 M2 h => ?_)
  refine G_istore_n (L' := [(2, .inl r1), (0, .inr (.inr 40)), (1, .inl a1)]) rfl (mfx.lt mf130 (Nat.le_of_ble_eq_true rfl)) rfl (ck dc130 (i := 3) rfl) ?_
  refine G_bipush (n := 20) rfl (ck dc130 (i := 4) rfl) ?_
  refine G_istore_n (L' := [(3, .inl 20), (2, .inl r1), (0, .inr (.inr 40)), (1, .inl a1)]) rfl (mfx.lt mf130 (Nat.le_of_ble_eq_true rfl)) rfl (ck dc130 (i := 5) rfl) ?_
  refine G_iconst (ck dc130 (i := 6) rfl) ?_
  refine G_istore (L' := [(4, .inl 0), (3, .inl 20), (2, .inl r1), (0, .inr (.inr 40)), (1, .inl a1)]) (mfx.lt mf130 (Nat.le_of_ble_eq_true rfl)) rfl (ck dc130 (i := 7) rfl) ?_
  exact G_sub [3, 4, 2, 1, 0] rfl h
theorem g_ri_takeOff_12 (K : Nat) (l1 l2 l3 l4 : Int) (M : PM) (Q : Option PV → PM → Prop)
    (h : R32 l4 ∧ R32 l2 ∧ (l2 ≤ l4 → G none (K + 1) jRings_takeOff 54 [(0, .inr (.inr 40)), (1, .inl l1), (2, .inl l2), (3, .inl l3), (4, .inl 0)] [] P0 P0 M Q) ∧ (¬ l2 ≤ l4 → (0 ≤ l4 ∧ l4 < 5) ∧ Call K jRings_after [.inr (.inr 40), .inl l4, .inl l2] P0 P0 M (retI fun r4 M5 => Call K jBook_amount [.inr (.inr 1), .inl (M 41 l4), .inl r4, .inl l1] P0 P0 M5 (retI fun r6 M7 => R32 l3 ∧ R32 r6 ∧ G none (K + 1) jRings_takeOff 12 [(0, .inr (.inr 40)), (1, .inl l1), (2, .inl l2), (3, .inl (mn2 l3 r6)), (4, .inl (l4 + 1))] [] P0 P0 M7 Q)))) : G none (K + 1) jRings_takeOff 12 [(0, .inr (.inr 40)), (1, .inl l1), (2, .inl l2), (3, .inl l3), (4, .inl l4)] [] P0 P0 M Q := by
  refine G_iload 4 rfl (ck dc130 (i := 8) rfl) ?_
  refine G_iload_n 2 rfl rfl (ck dc130 (i := 9) rfl) ?_
  obtain ⟨o1, h⟩ := h
  obtain ⟨o2, h⟩ := h
  refine G_icmp_ge (tgt := 51) (by decide) o1 o2 (ck dc130 (i := 10) rfl) (fun c => ?_) (fun c => ?_)
  · replace h := h.1 c
    refine G_iconst (ck dc130 (i := 28) rfl) ?_
    refine G_istore (L' := [(4, .inl 0), (0, .inr (.inr 40)), (1, .inl l1), (2, .inl l2), (3, .inl l3)]) (mfx.lt mf130 (Nat.le_of_ble_eq_true rfl)) rfl (ck dc130 (i := 29) rfl) ?_
    exact G_sub [1, 2, 3, 4, 0] rfl h
  · replace h := h.2 c
    refine G_iload_n 3 rfl rfl (ck dc130 (i := 11) rfl) ?_
    refine G_aload_n 0 rfl rfl (ck dc130 (i := 12) rfl) ?_
    refine H_getR mf130 (ck dc130 (i := 13) rfl) fw_Rings_15 fc5_1 ly40 ra40 rf40_1 (by decide) ?_
    refine G_aload_n 0 rfl rfl (ck dc130 (i := 14) rfl) ?_
    refine H_getR mf130 (ck dc130 (i := 15) rfl) fw_Rings_9 fc5_0 ly40 ra40 rf40_0 (by decide) ?_
    refine G_iload 4 rfl (ck dc130 (i := 16) rfl) ?_
    obtain ⟨o3, h⟩ := h
    refine H_iald (ck dc130 (i := 17) rfl) ly41 (by decide) ra41 o3 (x := (M 41 l4)) rfl ?_
    refine G_aload_n 0 rfl rfl (ck dc130 (i := 18) rfl) ?_
    refine G_iload 4 rfl (ck dc130 (i := 19) rfl) ?_
    refine G_iload_n 2 rfl rfl (ck dc130 (i := 20) rfl) ?_
    refine H_vI mf130 (As := [.inl l4, .inl l2]) (st := [.inl (M 41 l4), .inr (.inr 1), .inl l3]) (ck dc130 (i := 21) rfl) lk_Rings_41 rfl rfl (Nat.le_of_ble_eq_true rfl) ly40 ra40 ⟨Nat.le_refl _, Nat.le_refl _⟩ h (fun r4 M5 h => ?_)
    refine G_iload_n 1 rfl rfl (ck dc130 (i := 22) rfl) ?_
    refine H_vI mf130 (As := [.inl (M 41 l4), .inl r4, .inl l1]) (st := [.inl l3]) (ck dc130 (i := 23) rfl) lk_Rings_29 rfl rfl (Nat.le_of_ble_eq_true rfl) ly1 ra1 ⟨Nat.le_refl _, Nat.le_refl _⟩ h (fun r6 M7 h => ?_)
    obtain ⟨o8, h⟩ := h
    obtain ⟨o9, h⟩ := h
    refine H_mmin mf130 (ck dc130 (i := 24) rfl) lm_Rings_45 (Nat.le_refl _) (Nat.le_of_ble_eq_true rfl) o8 o9 ?_
    refine G_istore_n (L' := [(3, .inl (mn2 l3 r6)), (0, .inr (.inr 40)), (1, .inl l1), (2, .inl l2), (4, .inl l4)]) rfl (mfx.lt mf130 (Nat.le_of_ble_eq_true rfl)) rfl (ck dc130 (i := 25) rfl) ?_
    refine G_iinc (L' := [(4, .inl (l4 + 1)), (3, .inl (mn2 l3 r6)), (0, .inr (.inr 40)), (1, .inl l1), (2, .inl l2)]) 4 rfl (mfx.lt mf130 (Nat.le_of_ble_eq_true rfl)) rfl (ck dc130 (i := 26) rfl) ?_
    refine G_goto (tgt := 12) (by decide) (ck dc130 (i := 27) rfl) ?_
    exact G_sub [2, 3, 4, 1, 0] rfl h
theorem g_ri_takeOff_54 (K : Nat) (l1 l2 l3 l4 : Int) (M : PM) (Q : Option PV → PM → Prop)
    (h : R32 l4 ∧ R32 l2 ∧ (l2 ≤ l4 → Q (some (.inl (l3 * l2))) M) ∧ (¬ l2 ≤ l4 → Call K jRings_after [.inr (.inr 40), .inl l4, .inl l2] P0 P0 M (retI fun r3 M4 => (0 ≤ l4 ∧ l4 < 5) ∧ Call K jBook_amount [.inr (.inr 1), .inl (M4 41 l4), .inl r3, .inl l1] P0 P0 M4 (retI fun r6 M7 => Call K jBook_put [.inr (.inr 1), .inl (M4 41 l4), .inl r3, .inl l1, .inl (r6 - l3)] P0 P0 M7 (retV fun M9 => G none (K + 1) jRings_takeOff 54 [(0, .inr (.inr 40)), (1, .inl l1), (2, .inl l2), (3, .inl l3), (4, .inl (l4 + 1))] [] P0 P0 M9 Q))))) : G none (K + 1) jRings_takeOff 54 [(0, .inr (.inr 40)), (1, .inl l1), (2, .inl l2), (3, .inl l3), (4, .inl l4)] [] P0 P0 M Q := by
  refine G_iload 4 rfl (ck dc130 (i := 30) rfl) ?_
  refine G_iload_n 2 rfl rfl (ck dc130 (i := 31) rfl) ?_
  obtain ⟨o1, h⟩ := h
  obtain ⟨o2, h⟩ := h
  refine G_icmp_ge (tgt := 111) (by decide) o1 o2 (ck dc130 (i := 32) rfl) (fun c => ?_) (fun c => ?_)
  · replace h := h.1 c
    refine G_iload_n 3 rfl rfl (ck dc130 (i := 60) rfl) ?_
    refine G_iload_n 2 rfl rfl (ck dc130 (i := 61) rfl) ?_
    refine G_imul (ck dc130 (i := 62) rfl) ?_
    exact H_iretI mf130 (ck dc130 (i := 63) rfl) rfl h
  · replace h := h.2 c
    refine G_aload_n 0 rfl rfl (ck dc130 (i := 33) rfl) ?_
    refine G_iload 4 rfl (ck dc130 (i := 34) rfl) ?_
    refine G_iload_n 2 rfl rfl (ck dc130 (i := 35) rfl) ?_
    refine H_vI mf130 (As := [.inl l4, .inl l2]) (st := []) (ck dc130 (i := 36) rfl) lk_Rings_41 rfl rfl (Nat.le_of_ble_eq_true rfl) ly40 ra40 ⟨Nat.le_refl _, Nat.le_refl _⟩ h (fun r3 M4 h => ?_)
    refine G_istore (L' := [(5, .inl r3), (0, .inr (.inr 40)), (1, .inl l1), (2, .inl l2), (3, .inl l3), (4, .inl l4)]) (mfx.lt mf130 (Nat.le_of_ble_eq_true rfl)) rfl (ck dc130 (i := 37) rfl) ?_
    refine G_aload_n 1 rfl rfl (ck dc130 (i := 38) rfl) ?_
    refine H_getR mf130 (ck dc130 (i := 39) rfl) fw_Rings_15 fc5_1 ly40 ra40 rf40_1 (by decide) ?_
    refine G_aload_n 1 rfl rfl (ck dc130 (i := 40) rfl) ?_
    refine H_getR mf130 (ck dc130 (i := 41) rfl) fw_Rings_9 fc5_0 ly40 ra40 rf40_0 (by decide) ?_
    refine G_iload 5 rfl (ck dc130 (i := 42) rfl) ?_
    obtain ⟨o5, h⟩ := h
    refine H_iald (ck dc130 (i := 43) rfl) ly41 (by decide) ra41 o5 (x := (M4 41 l4)) rfl ?_
    refine G_iload 0 rfl (ck dc130 (i := 44) rfl) ?_
    refine G_iload_n 2 rfl rfl (ck dc130 (i := 45) rfl) ?_
    refine G_aload_n 1 rfl rfl (ck dc130 (i := 46) rfl) ?_
    refine H_getR mf130 (ck dc130 (i := 47) rfl) fw_Rings_15 fc5_1 ly40 ra40 rf40_1 (by decide) ?_
    refine G_aload_n 1 rfl rfl (ck dc130 (i := 48) rfl) ?_
    refine H_getR mf130 (ck dc130 (i := 49) rfl) fw_Rings_9 fc5_0 ly40 ra40 rf40_0 (by decide) ?_
    refine G_iload 5 rfl (ck dc130 (i := 50) rfl) ?_
    refine H_iald (ck dc130 (i := 51) rfl) ly41 (by decide) ra41 o5 (x := (M4 41 l4)) rfl ?_
    refine G_iload 0 rfl (ck dc130 (i := 52) rfl) ?_
    refine G_iload_n 2 rfl rfl (ck dc130 (i := 53) rfl) ?_
    refine H_vI mf130 (As := [.inl (M4 41 l4), .inl r3, .inl l1]) (st := [.inl l1, .inl r3, .inl (M4 41 l4), .inr (.inr 1)]) (ck dc130 (i := 54) rfl) lk_Rings_29 rfl rfl (Nat.le_of_ble_eq_true rfl) ly1 ra1 ⟨Nat.le_refl _, Nat.le_refl _⟩ h (fun r6 M7 h => ?_)
    refine G_iload_n 4 rfl rfl (ck dc130 (i := 55) rfl) ?_
    refine G_isub (ck dc130 (i := 56) rfl) ?_
    refine H_vV mf130 (As := [.inl (M4 41 l4), .inl r3, .inl l1, .inl (r6 - l3)]) (st := []) (ck dc130 (i := 57) rfl) lk_Rings_50 rfl rfl (Nat.le_of_ble_eq_true rfl) ly1 ra1 ⟨Nat.le_refl _, Nat.le_refl _⟩ h (fun M9 h => ?_)
    refine G_iinc (L' := [(4, .inl (l4 + 1)), (5, .inl r3), (0, .inr (.inr 40)), (1, .inl l1), (2, .inl l2), (3, .inl l3)]) 5 rfl (mfx.lt mf130 (Nat.le_of_ble_eq_true rfl)) rfl (ck dc130 (i := 58) rfl) ?_
    refine G_goto (tgt := 54) (by decide) (ck dc130 (i := 59) rfl) ?_
    exact G_sub [2, 3, 4, 5, 0] rfl h
theorem c_book_unitPlace (K : Nat) (a1 a2 a3 : Int) (M : PM) (Q : Option PV → PM → Prop)
    (h : Q (some (.inl ((((a1 * 5) + a2) * 3) + a3))) M) : Call (K + 1) jBook_unitPlace [.inl a1, .inl a2, .inl a3] P0 P0 M Q := by
  refine Call.intro (by decide +kernel) (mfx.le mf133 (Nat.le_of_ble_eq_true rfl)) (Nat.le_refl _) rfl ?_
  refine G_iload_n 0 rfl rfl (ck dc133 (i := 0) rfl) ?_
  refine G_iconst (ck dc133 (i := 1) rfl) ?_
  refine G_imul (ck dc133 (i := 2) rfl) ?_
  refine G_iload_n 1 rfl rfl (ck dc133 (i := 3) rfl) ?_
  refine G_iadd (ck dc133 (i := 4) rfl) ?_
  refine G_iconst (ck dc133 (i := 5) rfl) ?_
  refine G_imul (ck dc133 (i := 6) rfl) ?_
  refine G_iload_n 2 rfl rfl (ck dc133 (i := 7) rfl) ?_
  refine G_iadd (ck dc133 (i := 8) rfl) ?_
  exact H_iretI mf133 (ck dc133 (i := 9) rfl) rfl h
theorem c_worth_product (K : Nat) (a1 a2 : Int) (M : PM) (Q : Option PV → PM → Prop)
    (h : R64 a1 ∧ (a1 < 0 → Q (some (.inr (.inl (-1)))) M) ∧ (¬ a1 < 0 → R64 a2 ∧ (a2 < 0 → Q (some (.inr (.inl (-1)))) M) ∧ (¬ a2 < 0 → (a2 ≤ 0 → Q (some (.inr (.inl (a1 * a2)))) M) ∧ (¬ a2 ≤ 0 → a2 ≠ 0 ∧ R64 (Int.tdiv 9223372036854775807 a2) ∧ (a1 ≤ (Int.tdiv 9223372036854775807 a2) → Q (some (.inr (.inl (a1 * a2)))) M) ∧ (¬ a1 ≤ (Int.tdiv 9223372036854775807 a2) → Q (some (.inr (.inl (-1)))) M))))) : Call (K + 1) jWorth_product [.inr (.inl a1), .inr (.inl a2)] P0 P0 M Q := by
  refine Call.intro (by decide +kernel) (mfx.le mf138 (Nat.le_of_ble_eq_true rfl)) (Nat.le_refl _) rfl ?_
  refine G_lload_n 0 rfl rfl (ck dc138 (i := 0) rfl) ?_
  refine G_lconst (v := 0) rfl (ck dc138 (i := 1) rfl) ?_
  obtain ⟨o1, h⟩ := h
  refine G_lif_lt (tgt := 28) (ck dc138 (i := 3) rfl) (by decide) o1 (by decide) (ck dc138 (i := 2) rfl) (fun c => ?_) (fun c => ?_)
  · replace h := h.1 c
    refine H_ldc2 mf138 (v := (-1)) (ck dc138 (i := 18) rfl) kl_Worth_60 ?_
    exact H_lret mf138 (ck dc138 (i := 19) rfl) rfl h
  · replace h := h.2 c
    refine G_lload_n 1 rfl rfl (ck dc138 (i := 4) rfl) ?_
    refine G_lconst (v := 0) rfl (ck dc138 (i := 5) rfl) ?_
    obtain ⟨o2, h⟩ := h
    refine G_lif_lt (tgt := 28) (ck dc138 (i := 7) rfl) (by decide) o2 (by decide) (ck dc138 (i := 6) rfl) (fun c => ?_) (fun c => ?_)
    · replace h := h.1 c
      refine H_ldc2 mf138 (v := (-1)) (ck dc138 (i := 18) rfl) kl_Worth_60 ?_
      exact H_lret mf138 (ck dc138 (i := 19) rfl) rfl h
    · replace h := h.2 c
      refine G_lload_n 1 rfl rfl (ck dc138 (i := 8) rfl) ?_
      refine G_lconst (v := 0) rfl (ck dc138 (i := 9) rfl) ?_
      refine G_lif_le (tgt := 32) (ck dc138 (i := 11) rfl) (by decide) o2 (by decide) (ck dc138 (i := 10) rfl) (fun c => ?_) (fun c => ?_)
      · replace h := h.1 c
        refine G_lload_n 0 rfl rfl (ck dc138 (i := 20) rfl) ?_
        refine G_lload_n 1 rfl rfl (ck dc138 (i := 21) rfl) ?_
        refine G_lmul (ck dc138 (i := 22) rfl) ?_
        exact H_lret mf138 (ck dc138 (i := 23) rfl) rfl h
      · replace h := h.2 c
        refine G_lload_n 0 rfl rfl (ck dc138 (i := 12) rfl) ?_
        refine H_ldc2 mf138 (v := 9223372036854775807) (ck dc138 (i := 13) rfl) kl_Worth_62 ?_
        refine G_lload_n 1 rfl rfl (ck dc138 (i := 14) rfl) ?_
        obtain ⟨o3, h⟩ := h
        refine G_ldiv (by decide) o2 o3 (ck dc138 (i := 15) rfl) ?_
        obtain ⟨o4, h⟩ := h
        refine G_lif_le (tgt := 32) (ck dc138 (i := 17) rfl) (by decide) o1 o4 (ck dc138 (i := 16) rfl) (fun c => ?_) (fun c => ?_)
        · replace h := h.1 c
          refine G_lload_n 0 rfl rfl (ck dc138 (i := 20) rfl) ?_
          refine G_lload_n 1 rfl rfl (ck dc138 (i := 21) rfl) ?_
          refine G_lmul (ck dc138 (i := 22) rfl) ?_
          exact H_lret mf138 (ck dc138 (i := 23) rfl) rfl h
        · replace h := h.2 c
          refine H_ldc2 mf138 (v := (-1)) (ck dc138 (i := 18) rfl) kl_Worth_60 ?_
          exact H_lret mf138 (ck dc138 (i := 19) rfl) rfl h
theorem c_worth_sum (K : Nat) (a1 a2 : Int) (M : PM) (Q : Option PV → PM → Prop)
    (h : R64 a1 ∧ (a1 < 0 → Q (some (.inr (.inl (-1)))) M) ∧ (¬ a1 < 0 → R64 a2 ∧ (a2 < 0 → Q (some (.inr (.inl (-1)))) M) ∧ (¬ a2 < 0 → R64 (9223372036854775807 - a2) ∧ (a1 ≤ (9223372036854775807 - a2) → Q (some (.inr (.inl (a1 + a2)))) M) ∧ (¬ a1 ≤ (9223372036854775807 - a2) → Q (some (.inr (.inl (-1)))) M)))) : Call (K + 1) jWorth_sum [.inr (.inl a1), .inr (.inl a2)] P0 P0 M Q := by
  refine Call.intro (by decide +kernel) (mfx.le mf139 (Nat.le_of_ble_eq_true rfl)) (Nat.le_refl _) rfl ?_
  refine G_lload_n 0 rfl rfl (ck dc139 (i := 0) rfl) ?_
  refine G_lconst (v := 0) rfl (ck dc139 (i := 1) rfl) ?_
  obtain ⟨o1, h⟩ := h
  refine G_lif_lt (tgt := 22) (ck dc139 (i := 3) rfl) (by decide) o1 (by decide) (ck dc139 (i := 2) rfl) (fun c => ?_) (fun c => ?_)
  · replace h := h.1 c
    refine H_ldc2 mf139 (v := (-1)) (ck dc139 (i := 14) rfl) kl_Worth_60 ?_
    exact H_lret mf139 (ck dc139 (i := 15) rfl) rfl h
  · replace h := h.2 c
    refine G_lload_n 1 rfl rfl (ck dc139 (i := 4) rfl) ?_
    refine G_lconst (v := 0) rfl (ck dc139 (i := 5) rfl) ?_
    obtain ⟨o2, h⟩ := h
    refine G_lif_lt (tgt := 22) (ck dc139 (i := 7) rfl) (by decide) o2 (by decide) (ck dc139 (i := 6) rfl) (fun c => ?_) (fun c => ?_)
    · replace h := h.1 c
      refine H_ldc2 mf139 (v := (-1)) (ck dc139 (i := 14) rfl) kl_Worth_60 ?_
      exact H_lret mf139 (ck dc139 (i := 15) rfl) rfl h
    · replace h := h.2 c
      refine G_lload_n 0 rfl rfl (ck dc139 (i := 8) rfl) ?_
      refine H_ldc2 mf139 (v := 9223372036854775807) (ck dc139 (i := 9) rfl) kl_Worth_62 ?_
      refine G_lload_n 1 rfl rfl (ck dc139 (i := 10) rfl) ?_
      refine G_lsub (ck dc139 (i := 11) rfl) ?_
      obtain ⟨o3, h⟩ := h
      refine G_lif_le (tgt := 26) (ck dc139 (i := 13) rfl) (by decide) o1 o3 (ck dc139 (i := 12) rfl) (fun c => ?_) (fun c => ?_)
      · replace h := h.1 c
        refine G_lload_n 0 rfl rfl (ck dc139 (i := 16) rfl) ?_
        refine G_lload_n 1 rfl rfl (ck dc139 (i := 17) rfl) ?_
        refine G_ladd (ck dc139 (i := 18) rfl) ?_
        exact H_lret mf139 (ck dc139 (i := 19) rfl) rfl h
      · replace h := h.2 c
        refine H_ldc2 mf139 (v := (-1)) (ck dc139 (i := 14) rfl) kl_Worth_60 ?_
        exact H_lret mf139 (ck dc139 (i := 15) rfl) rfl h
set_option maxHeartbeats 20000000 in
theorem c_wo_addUnits (K : Nat) (a1 a2 a3 : Int) (M : PM) (Q : Option PV → PM → Prop)
    (h : Call K jRatio_tell [.inr (.inl a2), .inr (.inl a3), .inl 0] P0 P0 M (retL fun r1 M2 => Call K jRatio_tell [.inr (.inl a2), .inr (.inl a3), .inl 1] P0 P0 M2 (retL fun r3 M4 => Call K jWorth_product [.inr (.inl (M4 42 0)), .inr (.inl r3)] P0 P0 M4 (retL fun r5 M6 => Call K jWorth_product [.inr (.inl a1), .inr (.inl r1)] P0 P0 M6 (retL fun r7 M8 => Call K jWorth_product [.inr (.inl r7), .inr (.inl (M8 42 1))] P0 P0 M8 (retL fun r9 M10 => Call K jWorth_sum [.inr (.inl r5), .inr (.inl r9)] P0 P0 M10 (retL fun r11 M12 => Call K jWorth_product [.inr (.inl (M12 42 1)), .inr (.inl r3)] P0 P0 M12 (retL fun r13 M14 => R64 r11 ∧ (r11 = (-1) → Q (some (.inl 0)) M14) ∧ (¬ r11 = (-1) → R64 r13 ∧ (¬ r13 = (-1) → Call K jRatio_tell [.inr (.inl r11), .inr (.inl r13), .inl 0] P0 P0 M14 (retL fun r17 M18 => Call K jRatio_tell [.inr (.inl r11), .inr (.inl r13), .inl 1] P0 P0 (mset M18 42 0 r17) (retL fun r19 M20 => Q (some (.inl 1)) (mset M20 42 1 r19)))) ∧ (r13 = (-1) → Q (some (.inl 0)) M14)))))))))) : Call (K + 1) jWorth_addUnits [.inr (.inr 42), .inr (.inl a1), .inr (.inl a2), .inr (.inl a3)] P0 P0 M Q := by
  refine Call.intro (by decide +kernel) (mfx.le mf137 (Nat.le_of_ble_eq_true rfl)) (Nat.le_refl _) rfl ?_
  refine G_lload_n 2 rfl rfl (ck dc137 (i := 0) rfl) ?_
  refine G_lload 3 rfl (ck dc137 (i := 1) rfl) ?_
  refine G_iconst (ck dc137 (i := 2) rfl) ?_
  refine H_sL mf137 (As := [.inr (.inl a2), .inr (.inl a3), .inl 0]) (st := []) (ck dc137 (i := 3) rfl) lk_Worth_47 rfl rfl (Nat.le_of_ble_eq_true rfl) ⟨Nat.le_refl _, Nat.le_refl _⟩ h (fun r1 M2 h => ?_)
  refine G_lstore (L' := [(7, .inr (.inl r1)), (0, .inr (.inr 42)), (1, .inr (.inl a1)), (3, .inr (.inl a2)), (5, .inr (.inl a3))]) (mfx.lt mf137 (Nat.le_of_ble_eq_true rfl)) rfl (ck dc137 (i := 4) rfl) ?_
  refine G_lload_n 3 rfl rfl (ck dc137 (i := 5) rfl) ?_
  refine G_lload 4 rfl (ck dc137 (i := 6) rfl) ?_
  refine G_iconst (ck dc137 (i := 7) rfl) ?_
  refine H_sL mf137 (As := [.inr (.inl a2), .inr (.inl a3), .inl 1]) (st := []) (ck dc137 (i := 8) rfl) lk_Worth_47 rfl rfl (Nat.le_of_ble_eq_true rfl) ⟨Nat.le_refl _, Nat.le_refl _⟩ h (fun r3 M4 h => ?_)
  refine G_lstore (L' := [(9, .inr (.inl r3)), (7, .inr (.inl r1)), (0, .inr (.inr 42)), (1, .inr (.inl a1)), (3, .inr (.inl a2)), (5, .inr (.inl a3))]) (mfx.lt mf137 (Nat.le_of_ble_eq_true rfl)) rfl (ck dc137 (i := 9) rfl) ?_
  refine G_aload_n 2 rfl rfl (ck dc137 (i := 10) rfl) ?_
  refine H_getL mf137 (ck dc137 (i := 11) rfl) fw_Worth_9 fc9_0 ly42 ra42 (x := (M4 42 0)) rfl ?_
  refine G_lload 0 rfl (ck dc137 (i := 12) rfl) ?_
  refine H_sL mf137 (As := [.inr (.inl (M4 42 0)), .inr (.inl r3)]) (st := []) (ck dc137 (i := 13) rfl) lk_Worth_53 rfl rfl (Nat.le_of_ble_eq_true rfl) ⟨Nat.le_refl _, Nat.le_refl _⟩ h (fun r5 M6 h => ?_)
  refine G_lload_n 3 rfl rfl (ck dc137 (i := 14) rfl) ?_
  refine G_lload 1 rfl (ck dc137 (i := 15) rfl) ?_
  refine H_sL mf137 (As := [.inr (.inl a1), .inr (.inl r1)]) (st := [.inr (.inl r5)]) (ck dc137 (i := 16) rfl) lk_Worth_53 rfl rfl (Nat.le_of_ble_eq_true rfl) ⟨Nat.le_refl _, Nat.le_refl _⟩ h (fun r7 M8 h => ?_)
  refine G_aload_n 2 rfl rfl (ck dc137 (i := 17) rfl) ?_
  refine H_getL mf137 (ck dc137 (i := 18) rfl) fw_Worth_15 fc9_1 ly42 ra42 (x := (M8 42 1)) rfl ?_
  refine H_sL mf137 (As := [.inr (.inl r7), .inr (.inl (M8 42 1))]) (st := [.inr (.inl r5)]) (ck dc137 (i := 19) rfl) lk_Worth_53 rfl rfl (Nat.le_of_ble_eq_true rfl) ⟨Nat.le_refl _, Nat.le_refl _⟩ h (fun r9 M10 h => ?_)
  refine H_sL mf137 (As := [.inr (.inl r5), .inr (.inl r9)]) (st := []) (ck dc137 (i := 20) rfl) lk_Worth_57 rfl rfl (Nat.le_of_ble_eq_true rfl) ⟨Nat.le_refl _, Nat.le_refl _⟩ h (fun r11 M12 h => ?_)
  refine G_lstore (L' := [(11, .inr (.inl r11)), (9, .inr (.inl r3)), (7, .inr (.inl r1)), (0, .inr (.inr 42)), (1, .inr (.inl a1)), (3, .inr (.inl a2)), (5, .inr (.inl a3))]) (mfx.lt mf137 (Nat.le_of_ble_eq_true rfl)) rfl (ck dc137 (i := 21) rfl) ?_
  refine G_aload_n 3 rfl rfl (ck dc137 (i := 22) rfl) ?_
  refine H_getL mf137 (ck dc137 (i := 23) rfl) fw_Worth_15 fc9_1 ly42 ra42 (x := (M12 42 1)) rfl ?_
  refine G_lload 1 rfl (ck dc137 (i := 24) rfl) ?_
  refine H_sL mf137 (As := [.inr (.inl (M12 42 1)), .inr (.inl r3)]) (st := []) (ck dc137 (i := 25) rfl) lk_Worth_53 rfl rfl (Nat.le_of_ble_eq_true rfl) ⟨Nat.le_refl _, Nat.le_refl _⟩ h (fun r13 M14 h => ?_)
  refine G_lstore (L' := [(13, .inr (.inl r13)), (11, .inr (.inl r11)), (9, .inr (.inl r3)), (7, .inr (.inl r1)), (0, .inr (.inr 42)), (1, .inr (.inl a1)), (3, .inr (.inl a2)), (5, .inr (.inl a3))]) (mfx.lt mf137 (Nat.le_of_ble_eq_true rfl)) rfl (ck dc137 (i := 26) rfl) ?_
  refine G_lload 1 rfl (ck dc137 (i := 27) rfl) ?_
  refine H_ldc2 mf137 (v := (-1)) (ck dc137 (i := 28) rfl) kl_Worth_60 ?_
  obtain ⟨o15, h⟩ := h
  refine G_lif_eq (tgt := 74) (ck dc137 (i := 30) rfl) (by decide) o15 (by decide) (ck dc137 (i := 29) rfl) (fun c => ?_) (fun c => ?_)
  · replace h := h.1 c
    refine G_iconst (ck dc137 (i := 35) rfl) ?_
    exact H_iretZ mf137 (ck dc137 (i := 36) rfl) rfl (Or.inl rfl) h
  · replace h := h.2 c
    refine G_lload 0 rfl (ck dc137 (i := 31) rfl) ?_
    refine H_ldc2 mf137 (v := (-1)) (ck dc137 (i := 32) rfl) kl_Worth_60 ?_
    obtain ⟨o16, h⟩ := h
    refine G_lif_ne (tgt := 76) (ck dc137 (i := 34) rfl) (by decide) o16 (by decide) (ck dc137 (i := 33) rfl) (fun c => ?_) (fun c => ?_)
    · replace h := h.1 c
      refine G_aload_n 4 rfl rfl (ck dc137 (i := 37) rfl) ?_
      refine G_lload 1 rfl (ck dc137 (i := 38) rfl) ?_
      refine G_lload 0 rfl (ck dc137 (i := 39) rfl) ?_
      refine G_iconst (ck dc137 (i := 40) rfl) ?_
      refine H_sL mf137 (As := [.inr (.inl r11), .inr (.inl r13), .inl 0]) (st := [.inr (.inr 42)]) (ck dc137 (i := 41) rfl) lk_Worth_47 rfl rfl (Nat.le_of_ble_eq_true rfl) ⟨Nat.le_refl _, Nat.le_refl _⟩ h (fun r17 M18 h => ?_)
      refine H_putL mf137 (ck dc137 (i := 42) rfl) fw_Worth_9 fc9_0 ly42 ra42 (Or.inl rfl) ?_
      refine G_aload_n 4 rfl rfl (ck dc137 (i := 43) rfl) ?_
      refine G_lload 1 rfl (ck dc137 (i := 44) rfl) ?_
      refine G_lload 0 rfl (ck dc137 (i := 45) rfl) ?_
      refine G_iconst (ck dc137 (i := 46) rfl) ?_
      refine H_sL mf137 (As := [.inr (.inl r11), .inr (.inl r13), .inl 1]) (st := [.inr (.inr 42)]) (ck dc137 (i := 47) rfl) lk_Worth_47 rfl rfl (Nat.le_of_ble_eq_true rfl) ⟨Nat.le_refl _, Nat.le_refl _⟩ h (fun r19 M20 h => ?_)
      refine H_putL mf137 (ck dc137 (i := 48) rfl) fw_Worth_15 fc9_1 ly42 ra42 (Or.inl rfl) ?_
      refine G_iconst (ck dc137 (i := 49) rfl) ?_
      exact H_iretZ mf137 (ck dc137 (i := 50) rfl) rfl (Or.inr rfl) h
    · replace h := h.2 c
      refine G_iconst (ck dc137 (i := 35) rfl) ?_
      exact H_iretZ mf137 (ck dc137 (i := 36) rfl) rfl (Or.inl rfl) h
theorem c_wo_reckon (K : Nat) (a3 : Int) (M : PM) (Q : Option PV → PM → Prop)
    (h : G none (K + 1) jWorth_reckon 13 [(0, .inr (.inr 42)), (1, .inr (.inr 1)), (2, .inr (.inr 11)), (3, .inl a3), (4, .inl 0)] [] P0 P0 (mset (mset M 42 0 0) 42 1 1) Q) : Call (K + 1) jWorth_reckon [.inr (.inr 42), .inr (.inr 1), .inr (.inr 11), .inl a3] P0 P0 M Q := by
  refine Call.intro (by decide +kernel) (mfx.le mf136 (Nat.le_of_ble_eq_true rfl)) (Nat.le_refl _) rfl ?_
  refine G_aload_n 0 rfl rfl (ck dc136 (i := 0) rfl) ?_
  refine G_lconst (v := 0) rfl (ck dc136 (i := 1) rfl) ?_
  refine H_putL mf136 (ck dc136 (i := 2) rfl) fw_Worth_9 fc9_0 ly42 ra42 (Or.inl rfl) ?_
  refine G_aload_n 0 rfl rfl (ck dc136 (i := 3) rfl) ?_
  refine G_lconst (v := 1) rfl (ck dc136 (i := 4) rfl) ?_
  refine H_putL mf136 (ck dc136 (i := 5) rfl) fw_Worth_15 fc9_1 ly42 ra42 (Or.inl rfl) ?_
  refine G_iconst (ck dc136 (i := 6) rfl) ?_
  refine G_istore (L' := [(4, .inl 0), (0, .inr (.inr 42)), (1, .inr (.inr 1)), (2, .inr (.inr 11)), (3, .inl a3)]) (mfx.lt mf136 (Nat.le_of_ble_eq_true rfl)) rfl (ck dc136 (i := 7) rfl) ?_
  exact G_sub [1, 2, 3, 4, 0] rfl h
set_option maxHeartbeats 20000000 in
theorem g_wo_reckon_13 (K : Nat) (l3 l4 : Int) (M : PM) (Q : Option PV → PM → Prop)
    (h : R32 l4 ∧ R32 ((M 1 0) * 3) ∧ (((M 1 0) * 3) ≤ l4 → Q (some (.inl 1)) M) ∧ (¬ ((M 1 0) * 3) ≤ l4 → Call K jBook_unitPlace [.inl l3, .inl (Int.tdiv l4 3), .inl (Int.tmod l4 3)] P0 P0 M (retI fun r3 M4 => (0 ≤ r3 ∧ r3 < 45) ∧ Call K jClearing_top [.inr (.inr 11), .inl (M4 11 0), .inl (Int.tdiv l4 3), .inl (Int.tmod l4 3)] P0 P0 M4 (retL fun r6 M7 => R64 (M4 4 r3) ∧ ((M4 4 r3) ≤ 0 → G none (K + 1) jWorth_reckon 13 [(0, .inr (.inr 42)), (1, .inr (.inr 1)), (2, .inr (.inr 11)), (3, .inl l3), (4, .inl (l4 + 1))] [] P0 P0 M7 Q) ∧ (¬ (M4 4 r3) ≤ 0 → Call K jClearing_bottom [.inr (.inr 11), .inl (M7 11 0)] P0 P0 M7 (retL fun r9 M10 => Call K jWorth_addUnits [.inr (.inr 42), .inr (.inl (M4 4 r3)), .inr (.inl r6), .inr (.inl r9)] P0 P0 M10 (retI fun r11 M12 => R32 r11 ∧ (¬ r11 = 0 → G none (K + 1) jWorth_reckon 13 [(0, .inr (.inr 42)), (1, .inr (.inr 1)), (2, .inr (.inr 11)), (3, .inl l3), (4, .inl (l4 + 1))] [] P0 P0 M12 Q) ∧ (r11 = 0 → Q (some (.inl 0)) M12)))))))) : G none (K + 1) jWorth_reckon 13 [(0, .inr (.inr 42)), (1, .inr (.inr 1)), (2, .inr (.inr 11)), (3, .inl l3), (4, .inl l4)] [] P0 P0 M Q := by
  refine G_iload 4 rfl (ck dc136 (i := 8) rfl) ?_
  refine G_aload_n 1 rfl rfl (ck dc136 (i := 9) rfl) ?_
  refine H_getI mf136 (ck dc136 (i := 10) rfl) fw_Worth_18 (Or.inl fc0_0) ly1 ra1 (x := (M 1 0)) rfl ?_
  refine G_iconst (ck dc136 (i := 11) rfl) ?_
  refine G_imul (ck dc136 (i := 12) rfl) ?_
  obtain ⟨o1, h⟩ := h
  obtain ⟨o2, h⟩ := h
  refine G_icmp_ge (tgt := 95) (by decide) o1 o2 (ck dc136 (i := 13) rfl) (fun c => ?_) (fun c => ?_)
  · replace h := h.1 c
    refine G_iconst (ck dc136 (i := 54) rfl) ?_
    exact H_iretZ mf136 (ck dc136 (i := 55) rfl) rfl (Or.inr rfl) h
  · replace h := h.2 c
    refine G_aload_n 1 rfl rfl (ck dc136 (i := 14) rfl) ?_
    refine H_getR mf136 (ck dc136 (i := 15) rfl) fw_Worth_24 fc0_5 ly1 ra1 rf1_5 (by decide) ?_
    refine G_iload_n 3 rfl rfl (ck dc136 (i := 16) rfl) ?_
    refine G_iload 4 rfl (ck dc136 (i := 17) rfl) ?_
    refine G_iconst (ck dc136 (i := 18) rfl) ?_
    refine G_idiv o1 (by decide) (by decide) (ck dc136 (i := 19) rfl) ?_
    refine G_iload 4 rfl (ck dc136 (i := 20) rfl) ?_
    refine G_iconst (ck dc136 (i := 21) rfl) ?_
    refine G_irem o1 (by decide) (by decide) (ck dc136 (i := 22) rfl) ?_
    refine H_sI mf136 (As := [.inl l3, .inl (Int.tdiv l4 3), .inl (Int.tmod l4 3)]) (st := [.inr (.inr 4)]) (ck dc136 (i := 23) rfl) lk_Worth_28 rfl rfl (Nat.le_of_ble_eq_true rfl) ⟨Nat.le_refl _, Nat.le_refl _⟩ h (fun r3 M4 h => ?_)
    obtain ⟨o5, h⟩ := h
    refine H_lald (ck dc136 (i := 24) rfl) ly4 (by decide) ra4 o5 (x := (M4 4 r3)) rfl ?_
    refine G_lstore (L' := [(5, .inr (.inl (M4 4 r3))), (0, .inr (.inr 42)), (1, .inr (.inr 1)), (2, .inr (.inr 11)), (3, .inl l3), (4, .inl l4)]) (mfx.lt mf136 (Nat.le_of_ble_eq_true rfl)) rfl (ck dc136 (i := 25) rfl) ?_
    refine G_aload_n 3 rfl rfl (ck dc136 (i := 26) rfl) ?_
    refine G_aload_n 3 rfl rfl (ck dc136 (i := 27) rfl) ?_
    refine H_getI mf136 (ck dc136 (i := 28) rfl) fw_Worth_32 (Or.inl fc1_0) ly11 ra11 (x := (M4 11 0)) rfl ?_
    refine G_iload 5 rfl (ck dc136 (i := 29) rfl) ?_
    refine G_iconst (ck dc136 (i := 30) rfl) ?_
    refine G_idiv o1 (by decide) (by decide) (ck dc136 (i := 31) rfl) ?_
    refine G_iload 5 rfl (ck dc136 (i := 32) rfl) ?_
    refine G_iconst (ck dc136 (i := 33) rfl) ?_
    refine G_irem o1 (by decide) (by decide) (ck dc136 (i := 34) rfl) ?_
    refine H_vL mf136 (As := [.inl (M4 11 0), .inl (Int.tdiv l4 3), .inl (Int.tmod l4 3)]) (st := []) (ck dc136 (i := 35) rfl) lk_Worth_37 rfl rfl (Nat.le_of_ble_eq_true rfl) ly11 ra11 ⟨Nat.le_refl _, Nat.le_refl _⟩ h (fun r6 M7 h => ?_)
    refine G_lstore (L' := [(7, .inr (.inl r6)), (5, .inr (.inl (M4 4 r3))), (0, .inr (.inr 42)), (1, .inr (.inr 1)), (2, .inr (.inr 11)), (3, .inl l3), (4, .inl l4)]) (mfx.lt mf136 (Nat.le_of_ble_eq_true rfl)) rfl (ck dc136 (i := 36) rfl) ?_
    refine G_lload 1 rfl (ck dc136 (i := 37) rfl) ?_
    refine G_lconst (v := 0) rfl (ck dc136 (i := 38) rfl) ?_
    obtain ⟨o8, h⟩ := h
    refine G_lif_le (tgt := 89) (ck dc136 (i := 40) rfl) (by decide) o8 (by decide) (ck dc136 (i := 39) rfl) (fun c => ?_) (fun c => ?_)
    · replace h := h.1 c
      refine G_iinc (L' := [(4, .inl (l4 + 1)), (7, .inr (.inl r6)), (5, .inr (.inl (M4 4 r3))), (0, .inr (.inr 42)), (1, .inr (.inr 1)), (2, .inr (.inr 11)), (3, .inl l3)]) 6 rfl (mfx.lt mf136 (Nat.le_of_ble_eq_true rfl)) rfl (ck dc136 (i := 52) rfl) ?_
      refine G_goto (tgt := 13) (by decide) (ck dc136 (i := 53) rfl) ?_
      exact G_sub [3, 4, 5, 6, 0] rfl h
    · replace h := h.2 c
      refine G_aload_n 2 rfl rfl (ck dc136 (i := 41) rfl) ?_
      refine G_lload 1 rfl (ck dc136 (i := 42) rfl) ?_
      refine G_lload 0 rfl (ck dc136 (i := 43) rfl) ?_
      refine G_aload_n 4 rfl rfl (ck dc136 (i := 44) rfl) ?_
      refine G_aload_n 4 rfl rfl (ck dc136 (i := 45) rfl) ?_
      refine H_getI mf136 (ck dc136 (i := 46) rfl) fw_Worth_32 (Or.inl fc1_0) ly11 ra11 (x := (M7 11 0)) rfl ?_
      refine H_vL mf136 (As := [.inl (M7 11 0)]) (st := [.inr (.inl r6), .inr (.inl (M4 4 r3)), .inr (.inr 42)]) (ck dc136 (i := 47) rfl) lk_Worth_40 rfl rfl (Nat.le_of_ble_eq_true rfl) ly11 ra11 ⟨Nat.le_refl _, Nat.le_refl _⟩ h (fun r9 M10 h => ?_)
      refine H_vZ mf136 (As := [.inr (.inl (M4 4 r3)), .inr (.inl r6), .inr (.inl r9)]) (st := []) (ck dc136 (i := 48) rfl) lk_Worth_43 rfl rfl (Nat.le_of_ble_eq_true rfl) ly42 ra42 ⟨Nat.le_refl _, Nat.le_refl _⟩ h (fun r11 M12 h => ?_)
      obtain ⟨o13, h⟩ := h
      refine G_if_ne (tgt := 89) (by decide) o13 (ck dc136 (i := 49) rfl) (fun c => ?_) (fun c => ?_)
      · replace h := h.1 c
        refine G_iinc (L' := [(4, .inl (l4 + 1)), (7, .inr (.inl r6)), (5, .inr (.inl (M4 4 r3))), (0, .inr (.inr 42)), (1, .inr (.inr 1)), (2, .inr (.inr 11)), (3, .inl l3)]) 6 rfl (mfx.lt mf136 (Nat.le_of_ble_eq_true rfl)) rfl (ck dc136 (i := 52) rfl) ?_
        refine G_goto (tgt := 13) (by decide) (ck dc136 (i := 53) rfl) ?_
        exact G_sub [3, 4, 5, 6, 0] rfl h
      · replace h := h.2 c
        refine G_iconst (ck dc136 (i := 50) rfl) ?_
        exact H_iretZ mf136 (ck dc136 (i := 51) rfl) rfl (Or.inl rfl) h
theorem c_bk_hasUnits (K : Nat) (a1 : Int) (M : PM) (Q : Option PV → PM → Prop)
    (h : Call K jBook_unitPlace [.inl a1, .inl 0, .inl 0] P0 P0 M (retI fun r1 M2 => G none (K + 1) jBook_hasUnits 9 [(0, .inr (.inr 1)), (2, .inl r1), (3, .inl 0)] [] P0 P0 M2 Q)) : Call (K + 1) jBook_hasUnits [.inr (.inr 1), .inl a1] P0 P0 M Q := by
  refine Call.intro (by decide +kernel) (mfx.le mf141 (Nat.le_of_ble_eq_true rfl)) (Nat.le_refl _) rfl ?_
  refine G_iload_n 1 rfl rfl (ck dc141 (i := 0) rfl) ?_
  refine G_iconst (ck dc141 (i := 1) rfl) ?_
  refine G_iconst (ck dc141 (i := 2) rfl) ?_
  refine H_sI mf141 (As := [.inl a1, .inl 0, .inl 0]) (st := []) (ck dc141 (i := 3) rfl) lk_Book_65 rfl rfl (Nat.le_of_ble_eq_true rfl) ⟨Nat.le_refl _, Nat.le_refl _⟩ h (fun r1 M2 h => ?_)
  refine G_istore_n (L' := [(2, .inl r1), (0, .inr (.inr 1)), (1, .inl a1)]) rfl (mfx.lt mf141 (Nat.le_of_ble_eq_true rfl)) rfl (ck dc141 (i := 4) rfl) ?_
  refine G_iconst (ck dc141 (i := 5) rfl) ?_
  refine G_istore_n (L' := [(3, .inl 0), (2, .inl r1), (0, .inr (.inr 1)), (1, .inl a1)]) rfl (mfx.lt mf141 (Nat.le_of_ble_eq_true rfl)) rfl (ck dc141 (i := 6) rfl) ?_
  exact G_sub [2, 1, 0] rfl h
theorem g_bk_hasUnits_9 (K : Nat) (l2 l3 : Int) (M : PM) (Q : Option PV → PM → Prop)
    (h : R32 l3 ∧ (15 ≤ l3 → Q (some (.inl 0)) M) ∧ (¬ 15 ≤ l3 → (0 ≤ (l2 + l3) ∧ (l2 + l3) < 45) ∧ R64 (M 4 (l2 + l3)) ∧ ((M 4 (l2 + l3)) ≤ 0 → G none (K + 1) jBook_hasUnits 9 [(0, .inr (.inr 1)), (2, .inl l2), (3, .inl (l3 + 1))] [] P0 P0 M Q) ∧ (¬ (M 4 (l2 + l3)) ≤ 0 → Q (some (.inl 1)) M))) : G none (K + 1) jBook_hasUnits 9 [(0, .inr (.inr 1)), (2, .inl l2), (3, .inl l3)] [] P0 P0 M Q := by
  refine G_iload_n 2 rfl rfl (ck dc141 (i := 7) rfl) ?_
  refine G_bipush (n := 15) rfl (ck dc141 (i := 8) rfl) ?_
  obtain ⟨o1, h⟩ := h
  refine G_icmp_ge (tgt := 36) (by decide) o1 (by decide) (ck dc141 (i := 9) rfl) (fun c => ?_) (fun c => ?_)
  · replace h := h.1 c
    refine G_iconst (ck dc141 (i := 23) rfl) ?_
    exact H_iretZ mf141 (ck dc141 (i := 24) rfl) rfl (Or.inl rfl) h
  · replace h := h.2 c
    refine G_aload_n 0 rfl rfl (ck dc141 (i := 10) rfl) ?_
    refine H_getR mf141 (ck dc141 (i := 11) rfl) fw_Book_18 fc0_5 ly1 ra1 rf1_5 (by decide) ?_
    refine G_iload_n 1 rfl rfl (ck dc141 (i := 12) rfl) ?_
    refine G_iload_n 2 rfl rfl (ck dc141 (i := 13) rfl) ?_
    refine G_iadd (ck dc141 (i := 14) rfl) ?_
    obtain ⟨o2, h⟩ := h
    refine H_lald (ck dc141 (i := 15) rfl) ly4 (by decide) ra4 o2 (x := (M 4 (l2 + l3))) rfl ?_
    refine G_lconst (v := 0) rfl (ck dc141 (i := 16) rfl) ?_
    obtain ⟨o3, h⟩ := h
    refine G_lif_le (tgt := 30) (ck dc141 (i := 18) rfl) (by decide) o3 (by decide) (ck dc141 (i := 17) rfl) (fun c => ?_) (fun c => ?_)
    · replace h := h.1 c
      refine G_iinc (L' := [(3, .inl (l3 + 1)), (0, .inr (.inr 1)), (2, .inl l2)]) 2 rfl (mfx.lt mf141 (Nat.le_of_ble_eq_true rfl)) rfl (ck dc141 (i := 21) rfl) ?_
      refine G_goto (tgt := 9) (by decide) (ck dc141 (i := 22) rfl) ?_
      exact G_sub [1, 2, 0] rfl h
    · replace h := h.2 c
      refine G_iconst (ck dc141 (i := 19) rfl) ?_
      exact H_iretZ mf141 (ck dc141 (i := 20) rfl) rfl (Or.inr rfl) h
theorem c_pa_add (K : Nat) (a1 : Int) (M : PM) (Q : Option PV → PM → Prop)
    (h : R32 (M 47 0) ∧ (200 ≤ (M 47 0) → Q none M) ∧ (¬ 200 ≤ (M 47 0) → (0 ≤ (M 47 0) ∧ (M 47 0) < 200) ∧ Q none (mset (mset M 48 (M 47 0) a1) 47 0 ((M 47 0) + 1)))) : Call (K + 1) jPaper_add [.inr (.inr 47), .inl a1] P0 P0 M Q := by
  refine Call.intro (by decide +kernel) (mfx.le mf145 (Nat.le_of_ble_eq_true rfl)) (Nat.le_refl _) rfl ?_
  refine G_aload_n 0 rfl rfl (ck dc145 (i := 0) rfl) ?_
  refine H_getI mf145 (ck dc145 (i := 1) rfl) fw_Paper_13 (Or.inl fc4_0) ly47 ra47 (x := (M 47 0)) rfl ?_
  refine G_sipush (n := 200) rfl (ck dc145 (i := 2) rfl) ?_
  obtain ⟨o1, h⟩ := h
  refine G_icmp_ge (tgt := 30) (by decide) o1 (by decide) (ck dc145 (i := 3) rfl) (fun c => ?_) (fun c => ?_)
  · replace h := h.1 c
    exact H_vret mf145 (ck dc145 (i := 16) rfl) rfl h
  · replace h := h.2 c
    refine G_aload_n 0 rfl rfl (ck dc145 (i := 4) rfl) ?_
    refine H_getR mf145 (ck dc145 (i := 5) rfl) fw_Paper_9 fc4_1 ly47 ra47 rf47_1 (by decide) ?_
    refine G_aload_n 0 rfl rfl (ck dc145 (i := 6) rfl) ?_
    refine H_getI mf145 (ck dc145 (i := 7) rfl) fw_Paper_13 (Or.inl fc4_0) ly47 ra47 (x := (M 47 0)) rfl ?_
    refine G_iload_n 1 rfl rfl (ck dc145 (i := 8) rfl) ?_
    obtain ⟨o2, h⟩ := h
    refine G_iast (ck dc145 (i := 9) rfl) ra48 ly48 (by decide) o2 ?_
    refine G_aload_n 0 rfl rfl (ck dc145 (i := 10) rfl) ?_
    refine G_dup rfl (ck dc145 (i := 11) rfl) ?_
    refine H_getI mf145 (ck dc145 (i := 12) rfl) fw_Paper_13 (Or.inl fc4_0) ly47 ra47 (x := (M 47 0)) (by simp [mset, mcpy, mclr]) ?_
    refine G_iconst (ck dc145 (i := 13) rfl) ?_
    refine G_iadd (ck dc145 (i := 14) rfl) ?_
    refine H_putI mf145 (ck dc145 (i := 15) rfl) fw_Paper_13 fc4_0 ly47 ra47 (Or.inl rfl) ?_
    exact H_vret mf145 (ck dc145 (i := 16) rfl) rfl h
theorem c_pa_addNumber (K : Nat) (a1 : Int) (M : PM) (Q : Option PV → PM → Prop)
    (h : G none (K + 1) jPaper_addNumber 5 [(0, .inr (.inr 47)), (1, .inr (.inl a1)), (3, .inr (.inl 1)), (5, .inl 1)] [] P0 P0 M Q) : Call (K + 1) jPaper_addNumber [.inr (.inr 47), .inr (.inl a1)] P0 P0 M Q := by
  refine Call.intro (by decide +kernel) (mfx.le mf146 (Nat.le_of_ble_eq_true rfl)) (Nat.le_refl _) rfl ?_
  refine G_lconst (v := 1) rfl (ck dc146 (i := 0) rfl) ?_
  refine G_lstore_n (L' := [(3, .inr (.inl 1)), (0, .inr (.inr 47)), (1, .inr (.inl a1))]) rfl (mfx.lt mf146 (Nat.le_of_ble_eq_true rfl)) rfl (ck dc146 (i := 1) rfl) ?_
  refine G_iconst (ck dc146 (i := 2) rfl) ?_
  refine G_istore (L' := [(5, .inl 1), (3, .inr (.inl 1)), (0, .inr (.inr 47)), (1, .inr (.inl a1))]) (mfx.lt mf146 (Nat.le_of_ble_eq_true rfl)) rfl (ck dc146 (i := 3) rfl) ?_
  exact G_sub [2, 3, 1, 0] rfl h
theorem g_pa_addNumber_5 (K : Nat) (l1 l3 l5 : Int) (M : PM) (Q : Option PV → PM → Prop)
    (h : R32 l5 ∧ (19 ≤ l5 → G none (K + 1) jPaper_addNumber 37 [(0, .inr (.inr 47)), (1, .inr (.inl l1)), (3, .inr (.inl l3)), (5, .inl 0)] [] P0 P0 M Q) ∧ (¬ 19 ≤ l5 → R64 l1 ∧ R64 l3 ∧ l3 ≠ 0 ∧ R64 (Int.tdiv l1 l3) ∧ ((Int.tdiv l1 l3) < 10 → G none (K + 1) jPaper_addNumber 37 [(0, .inr (.inr 47)), (1, .inr (.inl l1)), (3, .inr (.inl l3)), (5, .inl 0)] [] P0 P0 M Q) ∧ (¬ (Int.tdiv l1 l3) < 10 → G none (K + 1) jPaper_addNumber 5 [(0, .inr (.inr 47)), (1, .inr (.inl l1)), (3, .inr (.inl (l3 * 10))), (5, .inl (l5 + 1))] [] P0 P0 M Q))) : G none (K + 1) jPaper_addNumber 5 [(0, .inr (.inr 47)), (1, .inr (.inl l1)), (3, .inr (.inl l3)), (5, .inl l5)] [] P0 P0 M Q := by
  refine G_iload 3 rfl (ck dc146 (i := 4) rfl) ?_
  refine G_bipush (n := 19) rfl (ck dc146 (i := 5) rfl) ?_
  obtain ⟨o1, h⟩ := h
  refine G_icmp_ge (tgt := 34) (by decide) o1 (by decide) (ck dc146 (i := 6) rfl) (fun c => ?_) (fun c => ?_)
  · replace h := h.1 c
    refine G_iconst (ck dc146 (i := 19) rfl) ?_
    refine G_istore (L' := [(5, .inl 0), (0, .inr (.inr 47)), (1, .inr (.inl l1)), (3, .inr (.inl l3))]) (mfx.lt mf146 (Nat.le_of_ble_eq_true rfl)) rfl (ck dc146 (i := 20) rfl) ?_
    exact G_sub [1, 2, 3, 0] rfl h
  · replace h := h.2 c
    refine G_lload_n 1 rfl rfl (ck dc146 (i := 7) rfl) ?_
    refine G_lload_n 2 rfl rfl (ck dc146 (i := 8) rfl) ?_
    obtain ⟨o2, h⟩ := h
    obtain ⟨o3, h⟩ := h
    obtain ⟨o4, h⟩ := h
    refine G_ldiv o2 o3 o4 (ck dc146 (i := 9) rfl) ?_
    refine H_ldc2 mf146 (v := 10) (ck dc146 (i := 10) rfl) kl_Paper_17 ?_
    obtain ⟨o5, h⟩ := h
    refine G_lif_lt (tgt := 34) (ck dc146 (i := 12) rfl) (by decide) o5 (by decide) (ck dc146 (i := 11) rfl) (fun c => ?_) (fun c => ?_)
    · replace h := h.1 c
      refine G_iconst (ck dc146 (i := 19) rfl) ?_
      refine G_istore (L' := [(5, .inl 0), (0, .inr (.inr 47)), (1, .inr (.inl l1)), (3, .inr (.inl l3))]) (mfx.lt mf146 (Nat.le_of_ble_eq_true rfl)) rfl (ck dc146 (i := 20) rfl) ?_
      exact G_sub [1, 2, 3, 0] rfl h
    · replace h := h.2 c
      refine G_lload_n 2 rfl rfl (ck dc146 (i := 13) rfl) ?_
      refine H_ldc2 mf146 (v := 10) (ck dc146 (i := 14) rfl) kl_Paper_17 ?_
      refine G_lmul (ck dc146 (i := 15) rfl) ?_
      refine G_lstore_n (L' := [(3, .inr (.inl (l3 * 10))), (0, .inr (.inr 47)), (1, .inr (.inl l1)), (5, .inl l5)]) rfl (mfx.lt mf146 (Nat.le_of_ble_eq_true rfl)) rfl (ck dc146 (i := 16) rfl) ?_
      refine G_iinc (L' := [(5, .inl (l5 + 1)), (3, .inr (.inl (l3 * 10))), (0, .inr (.inr 47)), (1, .inr (.inl l1))]) 3 rfl (mfx.lt mf146 (Nat.le_of_ble_eq_true rfl)) rfl (ck dc146 (i := 17) rfl) ?_
      refine G_goto (tgt := 5) (by decide) (ck dc146 (i := 18) rfl) ?_
      exact G_sub [2, 3, 1, 0] rfl h
theorem g_pa_addNumber_37 (K : Nat) (l1 l3 l5 : Int) (M : PM) (Q : Option PV → PM → Prop)
    (h : R32 l5 ∧ (19 ≤ l5 → Q none M) ∧ (¬ 19 ≤ l5 → R64 l3 ∧ (l3 ≤ 0 → Q none M) ∧ (¬ l3 ≤ 0 → R64 l1 ∧ l3 ≠ 0 ∧ R64 (Int.tdiv l1 l3) ∧ Call K jPaper_add [.inr (.inr 47), .inl (48 + (Int.tmod (Int.tdiv l1 l3) 10))] P0 P0 M (retV fun M7 => G none (K + 1) jPaper_addNumber 37 [(0, .inr (.inr 47)), (1, .inr (.inl l1)), (3, .inr (.inl (Int.tdiv l3 10))), (5, .inl (l5 + 1))] [] P0 P0 M7 Q)))) : G none (K + 1) jPaper_addNumber 37 [(0, .inr (.inr 47)), (1, .inr (.inl l1)), (3, .inr (.inl l3)), (5, .inl l5)] [] P0 P0 M Q := by
  refine G_iload 3 rfl (ck dc146 (i := 21) rfl) ?_
  refine G_bipush (n := 19) rfl (ck dc146 (i := 22) rfl) ?_
  obtain ⟨o1, h⟩ := h
  refine G_icmp_ge (tgt := 78) (by decide) o1 (by decide) (ck dc146 (i := 23) rfl) (fun c => ?_) (fun c => ?_)
  · replace h := h.1 c
    exact H_vret mf146 (ck dc146 (i := 44) rfl) rfl h
  · replace h := h.2 c
    refine G_lload_n 2 rfl rfl (ck dc146 (i := 24) rfl) ?_
    refine G_lconst (v := 0) rfl (ck dc146 (i := 25) rfl) ?_
    obtain ⟨o2, h⟩ := h
    refine G_lif_le (tgt := 78) (ck dc146 (i := 27) rfl) (by decide) o2 (by decide) (ck dc146 (i := 26) rfl) (fun c => ?_) (fun c => ?_)
    · replace h := h.1 c
      exact H_vret mf146 (ck dc146 (i := 44) rfl) rfl h
    · replace h := h.2 c
      refine G_aload_n 0 rfl rfl (ck dc146 (i := 28) rfl) ?_
      refine H_ldc2 mf146 (v := 48) (ck dc146 (i := 29) rfl) kl_Paper_19 ?_
      refine G_lload_n 1 rfl rfl (ck dc146 (i := 30) rfl) ?_
      refine G_lload_n 2 rfl rfl (ck dc146 (i := 31) rfl) ?_
      obtain ⟨o3, h⟩ := h
      obtain ⟨o4, h⟩ := h
      refine G_ldiv o3 o2 o4 (ck dc146 (i := 32) rfl) ?_
      refine H_ldc2 mf146 (v := 10) (ck dc146 (i := 33) rfl) kl_Paper_17 ?_
      obtain ⟨o5, h⟩ := h
      refine G_lrem o5 (by decide) (by decide) (ck dc146 (i := 34) rfl) ?_
      refine G_ladd (ck dc146 (i := 35) rfl) ?_
      refine G_l2i (ck dc146 (i := 36) rfl) ?_
      refine H_vV mf146 (As := [.inl (48 + (Int.tmod (Int.tdiv l1 l3) 10))]) (st := []) (ck dc146 (i := 37) rfl) lk_Paper_21 rfl rfl (Nat.le_of_ble_eq_true rfl) ly47 ra47 ⟨Nat.le_refl _, Nat.le_refl _⟩ h (fun M7 h => ?_)
      refine G_lload_n 2 rfl rfl (ck dc146 (i := 38) rfl) ?_
      refine H_ldc2 mf146 (v := 10) (ck dc146 (i := 39) rfl) kl_Paper_17 ?_
      refine G_ldiv o2 (by decide) (by decide) (ck dc146 (i := 40) rfl) ?_
      refine G_lstore_n (L' := [(3, .inr (.inl (Int.tdiv l3 10))), (0, .inr (.inr 47)), (1, .inr (.inl l1)), (5, .inl l5)]) rfl (mfx.lt mf146 (Nat.le_of_ble_eq_true rfl)) rfl (ck dc146 (i := 41) rfl) ?_
      refine G_iinc (L' := [(5, .inl (l5 + 1)), (3, .inr (.inl (Int.tdiv l3 10))), (0, .inr (.inr 47)), (1, .inr (.inl l1))]) 3 rfl (mfx.lt mf146 (Nat.le_of_ble_eq_true rfl)) rfl (ck dc146 (i := 42) rfl) ?_
      refine G_goto (tgt := 37) (by decide) (ck dc146 (i := 43) rfl) ?_
      exact G_sub [2, 3, 1, 0] rfl h
theorem c_bk_cashOfAll (K : Nat) (M : PM) (Q : Option PV → PM → Prop)
    (h : G none (K + 1) jBook_cashOfAll 4 [(0, .inr (.inr 1)), (1, .inl 0), (2, .inl 0)] [] P0 P0 M Q) : Call (K + 1) jBook_cashOfAll [.inr (.inr 1)] P0 P0 M Q := by
  refine Call.intro (by decide +kernel) (mfx.le mf149 (Nat.le_of_ble_eq_true rfl)) (Nat.le_refl _) rfl ?_
  refine G_iconst (ck dc149 (i := 0) rfl) ?_
  refine G_istore_n (L' := [(1, .inl 0), (0, .inr (.inr 1))]) rfl (mfx.lt mf149 (Nat.le_of_ble_eq_true rfl)) rfl (ck dc149 (i := 1) rfl) ?_
  refine G_iconst (ck dc149 (i := 2) rfl) ?_
  refine G_istore_n (L' := [(2, .inl 0), (1, .inl 0), (0, .inr (.inr 1))]) rfl (mfx.lt mf149 (Nat.le_of_ble_eq_true rfl)) rfl (ck dc149 (i := 3) rfl) ?_
  exact G_sub [2, 1, 0] rfl h
theorem g_bk_cashOfAll_4 (K : Nat) (l1 l2 : Int) (M : PM) (Q : Option PV → PM → Prop)
    (h : R32 l2 ∧ R32 (M 1 0) ∧ ((M 1 0) ≤ l2 → Q (some (.inl l1)) M) ∧ (¬ (M 1 0) ≤ l2 → (0 ≤ l2 ∧ l2 < 5) ∧ G none (K + 1) jBook_cashOfAll 4 [(0, .inr (.inr 1)), (1, .inl (l1 + (M 2 l2))), (2, .inl (l2 + 1))] [] P0 P0 M Q)) : G none (K + 1) jBook_cashOfAll 4 [(0, .inr (.inr 1)), (1, .inl l1), (2, .inl l2)] [] P0 P0 M Q := by
  refine G_iload_n 2 rfl rfl (ck dc149 (i := 4) rfl) ?_
  refine G_aload_n 0 rfl rfl (ck dc149 (i := 5) rfl) ?_
  refine H_getI mf149 (ck dc149 (i := 6) rfl) fw_Book_26 (Or.inl fc0_0) ly1 ra1 (x := (M 1 0)) rfl ?_
  obtain ⟨o1, h⟩ := h
  obtain ⟨o2, h⟩ := h
  refine G_icmp_ge (tgt := 27) (by decide) o1 o2 (ck dc149 (i := 7) rfl) (fun c => ?_) (fun c => ?_)
  · replace h := h.1 c
    refine G_iload_n 1 rfl rfl (ck dc149 (i := 17) rfl) ?_
    exact H_iretI mf149 (ck dc149 (i := 18) rfl) rfl h
  · replace h := h.2 c
    refine G_iload_n 1 rfl rfl (ck dc149 (i := 8) rfl) ?_
    refine G_aload_n 0 rfl rfl (ck dc149 (i := 9) rfl) ?_
    refine H_getR mf149 (ck dc149 (i := 10) rfl) fw_Book_9 fc0_3 ly1 ra1 rf1_3 (by decide) ?_
    refine G_iload_n 2 rfl rfl (ck dc149 (i := 11) rfl) ?_
    obtain ⟨o3, h⟩ := h
    refine H_iald (ck dc149 (i := 12) rfl) ly2 (by decide) ra2 o3 (x := (M 2 l2)) rfl ?_
    refine G_iadd (ck dc149 (i := 13) rfl) ?_
    refine G_istore_n (L' := [(1, .inl (l1 + (M 2 l2))), (0, .inr (.inr 1)), (2, .inl l2)]) rfl (mfx.lt mf149 (Nat.le_of_ble_eq_true rfl)) rfl (ck dc149 (i := 14) rfl) ?_
    refine G_iinc (L' := [(2, .inl (l2 + 1)), (1, .inl (l1 + (M 2 l2))), (0, .inr (.inr 1))]) 2 rfl (mfx.lt mf149 (Nat.le_of_ble_eq_true rfl)) rfl (ck dc149 (i := 15) rfl) ?_
    refine G_goto (tgt := 4) (by decide) (ck dc149 (i := 16) rfl) ?_
    exact G_sub [2, 1, 0] rfl h
theorem c_bk_dueOfAll (K : Nat) (M : PM) (Q : Option PV → PM → Prop)
    (h : G none (K + 1) jBook_dueOfAll 4 [(0, .inr (.inr 1)), (1, .inl 0), (2, .inl 0)] [] P0 P0 M Q) : Call (K + 1) jBook_dueOfAll [.inr (.inr 1)] P0 P0 M Q := by
  refine Call.intro (by decide +kernel) (mfx.le mf150 (Nat.le_of_ble_eq_true rfl)) (Nat.le_refl _) rfl ?_
  refine G_iconst (ck dc150 (i := 0) rfl) ?_
  refine G_istore_n (L' := [(1, .inl 0), (0, .inr (.inr 1))]) rfl (mfx.lt mf150 (Nat.le_of_ble_eq_true rfl)) rfl (ck dc150 (i := 1) rfl) ?_
  refine G_iconst (ck dc150 (i := 2) rfl) ?_
  refine G_istore_n (L' := [(2, .inl 0), (1, .inl 0), (0, .inr (.inr 1))]) rfl (mfx.lt mf150 (Nat.le_of_ble_eq_true rfl)) rfl (ck dc150 (i := 3) rfl) ?_
  exact G_sub [2, 1, 0] rfl h
theorem g_bk_dueOfAll_4 (K : Nat) (l1 l2 : Int) (M : PM) (Q : Option PV → PM → Prop)
    (h : R32 l2 ∧ R32 (M 1 0) ∧ ((M 1 0) ≤ l2 → Q (some (.inl l1)) M) ∧ (¬ (M 1 0) ≤ l2 → Call K jBook_dueOf [.inr (.inr 1), .inl l2] P0 P0 M (retI fun r3 M4 => G none (K + 1) jBook_dueOfAll 4 [(0, .inr (.inr 1)), (1, .inl (l1 + r3)), (2, .inl (l2 + 1))] [] P0 P0 M4 Q))) : G none (K + 1) jBook_dueOfAll 4 [(0, .inr (.inr 1)), (1, .inl l1), (2, .inl l2)] [] P0 P0 M Q := by
  refine G_iload_n 2 rfl rfl (ck dc150 (i := 4) rfl) ?_
  refine G_aload_n 0 rfl rfl (ck dc150 (i := 5) rfl) ?_
  refine H_getI mf150 (ck dc150 (i := 6) rfl) fw_Book_26 (Or.inl fc0_0) ly1 ra1 (x := (M 1 0)) rfl ?_
  obtain ⟨o1, h⟩ := h
  obtain ⟨o2, h⟩ := h
  refine G_icmp_ge (tgt := 26) (by decide) o1 o2 (ck dc150 (i := 7) rfl) (fun c => ?_) (fun c => ?_)
  · replace h := h.1 c
    refine G_iload_n 1 rfl rfl (ck dc150 (i := 16) rfl) ?_
    exact H_iretI mf150 (ck dc150 (i := 17) rfl) rfl h
  · replace h := h.2 c
    refine G_iload_n 1 rfl rfl (ck dc150 (i := 8) rfl) ?_
    refine G_aload_n 0 rfl rfl (ck dc150 (i := 9) rfl) ?_
    refine G_iload_n 2 rfl rfl (ck dc150 (i := 10) rfl) ?_
    refine H_vI mf150 (As := [.inl l2]) (st := [.inl l1]) (ck dc150 (i := 11) rfl) lk_Book_61 rfl rfl (Nat.le_of_ble_eq_true rfl) ly1 ra1 ⟨Nat.le_refl _, Nat.le_refl _⟩ h (fun r3 M4 h => ?_)
    refine G_iadd (ck dc150 (i := 12) rfl) ?_
    refine G_istore_n (L' := [(1, .inl (l1 + r3)), (0, .inr (.inr 1)), (2, .inl l2)]) rfl (mfx.lt mf150 (Nat.le_of_ble_eq_true rfl)) rfl (ck dc150 (i := 13) rfl) ?_
    refine G_iinc (L' := [(2, .inl (l2 + 1)), (1, .inl (l1 + r3)), (0, .inr (.inr 1))]) 2 rfl (mfx.lt mf150 (Nat.le_of_ble_eq_true rfl)) rfl (ck dc150 (i := 14) rfl) ?_
    refine G_goto (tgt := 4) (by decide) (ck dc150 (i := 15) rfl) ?_
    exact G_sub [2, 1, 0] rfl h
theorem c_bk_openDebts (K : Nat) (M : PM) (Q : Option PV → PM → Prop)
    (h : G none (K + 1) jBook_openDebts 4 [(0, .inr (.inr 1)), (1, .inl 0), (2, .inl 0)] [] P0 P0 M Q) : Call (K + 1) jBook_openDebts [.inr (.inr 1)] P0 P0 M Q := by
  refine Call.intro (by decide +kernel) (mfx.le mf151 (Nat.le_of_ble_eq_true rfl)) (Nat.le_refl _) rfl ?_
  refine G_iconst (ck dc151 (i := 0) rfl) ?_
  refine G_istore_n (L' := [(1, .inl 0), (0, .inr (.inr 1))]) rfl (mfx.lt mf151 (Nat.le_of_ble_eq_true rfl)) rfl (ck dc151 (i := 1) rfl) ?_
  refine G_iconst (ck dc151 (i := 2) rfl) ?_
  refine G_istore_n (L' := [(2, .inl 0), (1, .inl 0), (0, .inr (.inr 1))]) rfl (mfx.lt mf151 (Nat.le_of_ble_eq_true rfl)) rfl (ck dc151 (i := 3) rfl) ?_
  exact G_sub [2, 1, 0] rfl h
theorem g_bk_openDebts_4 (K : Nat) (l1 l2 : Int) (M : PM) (Q : Option PV → PM → Prop)
    (h : R32 l2 ∧ (75 ≤ l2 → Q (some (.inl l1)) M) ∧ (¬ 75 ≤ l2 → (0 ≤ l2 ∧ l2 < 75) ∧ R32 (M 3 l2) ∧ ((M 3 l2) ≤ 0 → G none (K + 1) jBook_openDebts 4 [(0, .inr (.inr 1)), (1, .inl l1), (2, .inl (l2 + 1))] [] P0 P0 M Q) ∧ (¬ (M 3 l2) ≤ 0 → G none (K + 1) jBook_openDebts 4 [(0, .inr (.inr 1)), (1, .inl (l1 + 1)), (2, .inl (l2 + 1))] [] P0 P0 M Q))) : G none (K + 1) jBook_openDebts 4 [(0, .inr (.inr 1)), (1, .inl l1), (2, .inl l2)] [] P0 P0 M Q := by
  refine G_iload_n 2 rfl rfl (ck dc151 (i := 4) rfl) ?_
  refine G_aload_n 0 rfl rfl (ck dc151 (i := 5) rfl) ?_
  refine H_getR mf151 (ck dc151 (i := 6) rfl) fw_Book_15 fc0_4 ly1 ra1 rf1_4 (by decide) ?_
  refine G_alen (ck dc151 (i := 7) rfl) ra3 ly3 (by decide) ?_
  obtain ⟨o1, h⟩ := h
  refine G_icmp_ge (tgt := 31) (by decide) o1 (by decide) (ck dc151 (i := 8) rfl) (fun c => ?_) (fun c => ?_)
  · replace h := h.1 c
    refine G_iload_n 1 rfl rfl (ck dc151 (i := 17) rfl) ?_
    exact H_iretI mf151 (ck dc151 (i := 18) rfl) rfl h
  · replace h := h.2 c
    refine G_aload_n 0 rfl rfl (ck dc151 (i := 9) rfl) ?_
    refine H_getR mf151 (ck dc151 (i := 10) rfl) fw_Book_15 fc0_4 ly1 ra1 rf1_4 (by decide) ?_
    refine G_iload_n 2 rfl rfl (ck dc151 (i := 11) rfl) ?_
    obtain ⟨o2, h⟩ := h
    refine H_iald (ck dc151 (i := 12) rfl) ly3 (by decide) ra3 o2 (x := (M 3 l2)) rfl ?_
    obtain ⟨o3, h⟩ := h
    refine G_if_le (tgt := 25) (by decide) o3 (ck dc151 (i := 13) rfl) (fun c => ?_) (fun c => ?_)
    · replace h := h.1 c
      refine G_iinc (L' := [(2, .inl (l2 + 1)), (0, .inr (.inr 1)), (1, .inl l1)]) 2 rfl (mfx.lt mf151 (Nat.le_of_ble_eq_true rfl)) rfl (ck dc151 (i := 15) rfl) ?_
      refine G_goto (tgt := 4) (by decide) (ck dc151 (i := 16) rfl) ?_
      exact G_sub [1, 2, 0] rfl h
    · replace h := h.2 c
      refine G_iinc (L' := [(1, .inl (l1 + 1)), (0, .inr (.inr 1)), (2, .inl l2)]) 1 rfl (mfx.lt mf151 (Nat.le_of_ble_eq_true rfl)) rfl (ck dc151 (i := 14) rfl) ?_
      refine G_iinc (L' := [(2, .inl (l2 + 1)), (1, .inl (l1 + 1)), (0, .inr (.inr 1))]) 2 rfl (mfx.lt mf151 (Nat.le_of_ble_eq_true rfl)) rfl (ck dc151 (i := 15) rfl) ?_
      refine G_goto (tgt := 4) (by decide) (ck dc151 (i := 16) rfl) ?_
      exact G_sub [2, 1, 0] rfl h
theorem c_ro_begin (K : Nat) (a1 a2 : Int) (M : PM) (Q : Option PV → PM → Prop)
    (h : (0 ≤ a1 ∧ a1 < 4) ∧ G none (K + 1) jRows_begin 9 [(0, .inr (.inr 49)), (1, .inl a1), (3, .inl 0)] [] P0 P0 (mset M 50 a1 a2) Q) : Call (K + 1) jRows_begin [.inr (.inr 49), .inl a1, .inl a2] P0 P0 M Q := by
  refine Call.intro (by decide +kernel) (mfx.le mf154 (Nat.le_of_ble_eq_true rfl)) (Nat.le_refl _) rfl ?_
  refine G_aload_n 0 rfl rfl (ck dc154 (i := 0) rfl) ?_
  refine H_getR mf154 (ck dc154 (i := 1) rfl) fw_Rows_9 fc6_0 ly49 ra49 rf49_0 (by decide) ?_
  refine G_iload_n 1 rfl rfl (ck dc154 (i := 2) rfl) ?_
  refine G_iload_n 2 rfl rfl (ck dc154 (i := 3) rfl) ?_
  obtain ⟨o1, h⟩ := h
  refine G_iast (ck dc154 (i := 4) rfl) ra50 ly50 (by decide) o1 ?_
  refine G_iconst (ck dc154 (i := 5) rfl) ?_
  refine G_istore_n (L' := [(3, .inl 0), (0, .inr (.inr 49)), (1, .inl a1), (2, .inl a2)]) rfl (mfx.lt mf154 (Nat.le_of_ble_eq_true rfl)) rfl (ck dc154 (i := 6) rfl) ?_
  exact G_sub [1, 2, 0] rfl h
theorem g_ro_begin_9 (K : Nat) (l1 l3 : Int) (M : PM) (Q : Option PV → PM → Prop)
    (h : R32 l3 ∧ (20 ≤ l3 → Q none M) ∧ (¬ 20 ≤ l3 → (0 ≤ ((l1 * 20) + l3) ∧ ((l1 * 20) + l3) < 80) ∧ G none (K + 1) jRows_begin 9 [(0, .inr (.inr 49)), (1, .inl l1), (3, .inl (l3 + 1))] [] P0 P0 (mset M 51 ((l1 * 20) + l3) 0) Q)) : G none (K + 1) jRows_begin 9 [(0, .inr (.inr 49)), (1, .inl l1), (3, .inl l3)] [] P0 P0 M Q := by
  refine G_iload_n 2 rfl rfl (ck dc154 (i := 7) rfl) ?_
  refine G_bipush (n := 20) rfl (ck dc154 (i := 8) rfl) ?_
  obtain ⟨o1, h⟩ := h
  refine G_icmp_ge (tgt := 33) (by decide) o1 (by decide) (ck dc154 (i := 9) rfl) (fun c => ?_) (fun c => ?_)
  · replace h := h.1 c
    exact H_vret mf154 (ck dc154 (i := 21) rfl) rfl h
  · replace h := h.2 c
    refine G_aload_n 0 rfl rfl (ck dc154 (i := 10) rfl) ?_
    refine H_getR mf154 (ck dc154 (i := 11) rfl) fw_Rows_13 fc6_1 ly49 ra49 rf49_1 (by decide) ?_
    refine G_iload_n 1 rfl rfl (ck dc154 (i := 12) rfl) ?_
    refine G_bipush (n := 20) rfl (ck dc154 (i := 13) rfl) ?_
    refine G_imul (ck dc154 (i := 14) rfl) ?_
    refine G_iload_n 2 rfl rfl (ck dc154 (i := 15) rfl) ?_
    refine G_iadd (ck dc154 (i := 16) rfl) ?_
    refine G_lconst (v := 0) rfl (ck dc154 (i := 17) rfl) ?_
    obtain ⟨o2, h⟩ := h
    refine G_last (ck dc154 (i := 18) rfl) ra51 ly51 (by decide) o2 ?_
    refine G_iinc (L' := [(3, .inl (l3 + 1)), (0, .inr (.inr 49)), (1, .inl l1)]) 2 rfl (mfx.lt mf154 (Nat.le_of_ble_eq_true rfl)) rfl (ck dc154 (i := 19) rfl) ?_
    refine G_goto (tgt := 9) (by decide) (ck dc154 (i := 20) rfl) ?_
    exact G_sub [1, 2, 0] rfl h
theorem c_ro_at (K : Nat) (a1 a2 : Int) (M : PM) (Q : Option PV → PM → Prop)
    (h : (0 ≤ ((a1 * 20) + a2) ∧ ((a1 * 20) + a2) < 80) ∧ Q (some (.inr (.inl (M 51 ((a1 * 20) + a2))))) M) : Call (K + 1) jRows_at [.inr (.inr 49), .inl a1, .inl a2] P0 P0 M Q := by
  refine Call.intro (by decide +kernel) (mfx.le mf157 (Nat.le_of_ble_eq_true rfl)) (Nat.le_refl _) rfl ?_
  refine G_aload_n 0 rfl rfl (ck dc157 (i := 0) rfl) ?_
  refine H_getR mf157 (ck dc157 (i := 1) rfl) fw_Rows_13 fc6_1 ly49 ra49 rf49_1 (by decide) ?_
  refine G_iload_n 1 rfl rfl (ck dc157 (i := 2) rfl) ?_
  refine G_bipush (n := 20) rfl (ck dc157 (i := 3) rfl) ?_
  refine G_imul (ck dc157 (i := 4) rfl) ?_
  refine G_iload_n 2 rfl rfl (ck dc157 (i := 5) rfl) ?_
  refine G_iadd (ck dc157 (i := 6) rfl) ?_
  obtain ⟨o1, h⟩ := h
  refine H_lald (ck dc157 (i := 7) rfl) ly51 (by decide) ra51 o1 (x := (M 51 ((a1 * 20) + a2))) rfl ?_
  exact H_lret mf157 (ck dc157 (i := 8) rfl) rfl h
theorem c_ro_size (K : Nat) (a1 : Int) (M : PM) (Q : Option PV → PM → Prop)
    (h : (0 ≤ a1 ∧ a1 < 4) ∧ Q (some (.inl (M 50 a1))) M) : Call (K + 1) jRows_size [.inr (.inr 49), .inl a1] P0 P0 M Q := by
  refine Call.intro (by decide +kernel) (mfx.le mf160 (Nat.le_of_ble_eq_true rfl)) (Nat.le_refl _) rfl ?_
  refine G_aload_n 0 rfl rfl (ck dc160 (i := 0) rfl) ?_
  refine H_getR mf160 (ck dc160 (i := 1) rfl) fw_Rows_9 fc6_0 ly49 ra49 rf49_0 (by decide) ?_
  refine G_iload_n 1 rfl rfl (ck dc160 (i := 2) rfl) ?_
  obtain ⟨o1, h⟩ := h
  refine H_iald (ck dc160 (i := 3) rfl) ly50 (by decide) ra50 o1 (x := (M 50 a1)) rfl ?_
  exact H_iretI mf160 (ck dc160 (i := 4) rfl) rfl h
theorem c_to_areFractions (K : Nat) (a1 : Int) (M : PM) (Q : Option PV → PM → Prop)
    (h : R64 (M 43 0) ∧ ((M 43 0) < 1 → Q (some (.inl 0)) M) ∧ (¬ (M 43 0) < 1 → ((M 43 0) ≤ 1000000000000000 → G none (K + 1) jTold_areFractions 24 [(0, .inr (.inr 43)), (1, .inl a1), (2, .inl 0)] [] P0 P0 M Q) ∧ (¬ (M 43 0) ≤ 1000000000000000 → Q (some (.inl 0)) M))) : Call (K + 1) jTold_areFractions [.inr (.inr 43), .inl a1] P0 P0 M Q := by
  refine Call.intro (by decide +kernel) (mfx.le mf161 (Nat.le_of_ble_eq_true rfl)) (Nat.le_refl _) rfl ?_
  refine G_aload_n 0 rfl rfl (ck dc161 (i := 0) rfl) ?_
  refine H_getL mf161 (ck dc161 (i := 1) rfl) fw_Told_15 fc8_0 ly43 ra43 (x := (M 43 0)) rfl ?_
  refine G_lconst (v := 1) rfl (ck dc161 (i := 2) rfl) ?_
  obtain ⟨o1, h⟩ := h
  refine G_lif_lt (tgt := 20) (ck dc161 (i := 4) rfl) (by decide) o1 (by decide) (ck dc161 (i := 3) rfl) (fun c => ?_) (fun c => ?_)
  · replace h := h.1 c
    refine G_iconst (ck dc161 (i := 10) rfl) ?_
    exact H_iretZ mf161 (ck dc161 (i := 11) rfl) rfl (Or.inl rfl) h
  · replace h := h.2 c
    refine G_aload_n 0 rfl rfl (ck dc161 (i := 5) rfl) ?_
    refine H_getL mf161 (ck dc161 (i := 6) rfl) fw_Told_15 fc8_0 ly43 ra43 (x := (M 43 0)) rfl ?_
    refine H_ldc2 mf161 (v := 1000000000000000) (ck dc161 (i := 7) rfl) kl_Told_19 ?_
    refine G_lif_le (tgt := 22) (ck dc161 (i := 9) rfl) (by decide) o1 (by decide) (ck dc161 (i := 8) rfl) (fun c => ?_) (fun c => ?_)
    · replace h := h.1 c
      refine G_iconst (ck dc161 (i := 12) rfl) ?_
      refine G_istore_n (L' := [(2, .inl 0), (0, .inr (.inr 43)), (1, .inl a1)]) rfl (mfx.lt mf161 (Nat.le_of_ble_eq_true rfl)) rfl (ck dc161 (i := 13) rfl) ?_
      exact G_sub [1, 2, 0] rfl h
    · replace h := h.2 c
      refine G_iconst (ck dc161 (i := 10) rfl) ?_
      exact H_iretZ mf161 (ck dc161 (i := 11) rfl) rfl (Or.inl rfl) h
theorem g_to_areFractions_24 (K : Nat) (l1 l2 : Int) (M : PM) (Q : Option PV → PM → Prop)
    (h : R32 l2 ∧ R32 l1 ∧ (l1 ≤ l2 → Q (some (.inl 1)) M) ∧ (¬ l1 ≤ l2 → (0 ≤ l2 ∧ l2 < 15) ∧ R64 (M 44 l2) ∧ ((M 44 l2) < 0 → Q (some (.inl 0)) M) ∧ (¬ (M 44 l2) < 0 → R64 (M 43 0) ∧ ((M 44 l2) ≤ (M 43 0) → G none (K + 1) jTold_areFractions 24 [(0, .inr (.inr 43)), (1, .inl l1), (2, .inl (l2 + 1))] [] P0 P0 M Q) ∧ (¬ (M 44 l2) ≤ (M 43 0) → Q (some (.inl 0)) M)))) : G none (K + 1) jTold_areFractions 24 [(0, .inr (.inr 43)), (1, .inl l1), (2, .inl l2)] [] P0 P0 M Q := by
  refine G_iload_n 2 rfl rfl (ck dc161 (i := 14) rfl) ?_
  refine G_iload_n 1 rfl rfl (ck dc161 (i := 15) rfl) ?_
  obtain ⟨o1, h⟩ := h
  obtain ⟨o2, h⟩ := h
  refine G_icmp_ge (tgt := 62) (by decide) o1 o2 (ck dc161 (i := 16) rfl) (fun c => ?_) (fun c => ?_)
  · replace h := h.1 c
    refine G_iconst (ck dc161 (i := 36) rfl) ?_
    exact H_iretZ mf161 (ck dc161 (i := 37) rfl) rfl (Or.inr rfl) h
  · replace h := h.2 c
    refine G_aload_n 0 rfl rfl (ck dc161 (i := 17) rfl) ?_
    refine H_getR mf161 (ck dc161 (i := 18) rfl) fw_Told_9 fc8_1 ly43 ra43 rf43_1 (by decide) ?_
    refine G_iload_n 2 rfl rfl (ck dc161 (i := 19) rfl) ?_
    obtain ⟨o3, h⟩ := h
    refine H_lald (ck dc161 (i := 20) rfl) ly44 (by decide) ra44 o3 (x := (M 44 l2)) rfl ?_
    refine G_lconst (v := 0) rfl (ck dc161 (i := 21) rfl) ?_
    obtain ⟨o4, h⟩ := h
    refine G_lif_lt (tgt := 54) (ck dc161 (i := 23) rfl) (by decide) o4 (by decide) (ck dc161 (i := 22) rfl) (fun c => ?_) (fun c => ?_)
    · replace h := h.1 c
      refine G_iconst (ck dc161 (i := 32) rfl) ?_
      exact H_iretZ mf161 (ck dc161 (i := 33) rfl) rfl (Or.inl rfl) h
    · replace h := h.2 c
      refine G_aload_n 0 rfl rfl (ck dc161 (i := 24) rfl) ?_
      refine H_getR mf161 (ck dc161 (i := 25) rfl) fw_Told_9 fc8_1 ly43 ra43 rf43_1 (by decide) ?_
      refine G_iload_n 2 rfl rfl (ck dc161 (i := 26) rfl) ?_
      refine H_lald (ck dc161 (i := 27) rfl) ly44 (by decide) ra44 o3 (x := (M 44 l2)) rfl ?_
      refine G_aload_n 0 rfl rfl (ck dc161 (i := 28) rfl) ?_
      refine H_getL mf161 (ck dc161 (i := 29) rfl) fw_Told_15 fc8_0 ly43 ra43 (x := (M 43 0)) rfl ?_
      obtain ⟨o5, h⟩ := h
      refine G_lif_le (tgt := 56) (ck dc161 (i := 31) rfl) (by decide) o4 o5 (ck dc161 (i := 30) rfl) (fun c => ?_) (fun c => ?_)
      · replace h := h.1 c
        refine G_iinc (L' := [(2, .inl (l2 + 1)), (0, .inr (.inr 43)), (1, .inl l1)]) 2 rfl (mfx.lt mf161 (Nat.le_of_ble_eq_true rfl)) rfl (ck dc161 (i := 34) rfl) ?_
        refine G_goto (tgt := 24) (by decide) (ck dc161 (i := 35) rfl) ?_
        exact G_sub [1, 2, 0] rfl h
      · replace h := h.2 c
        refine G_iconst (ck dc161 (i := 32) rfl) ?_
        exact H_iretZ mf161 (ck dc161 (i := 33) rfl) rfl (Or.inl rfl) h
theorem c_to_areThose (K : Nat) (a2 : Int) (M : PM) (Q : Option PV → PM → Prop)
    (h : Call K jClearing_bottom [.inr (.inr 11), .inl (M 11 0)] P0 P0 M (retL fun r1 M2 => R64 r1 ∧ (r1 < 1 → Q (some (.inl 0)) M2) ∧ (¬ r1 < 1 → R64 (M2 43 0) ∧ r1 ≠ 0 ∧ R64 (Int.tmod (M2 43 0) r1) ∧ ((Int.tmod (M2 43 0) r1) = 0 → G none (K + 1) jTold_areThose 31 [(0, .inr (.inr 43)), (1, .inr (.inr 11)), (2, .inl a2), (3, .inr (.inl r1)), (5, .inl 0)] [] P0 P0 M2 Q) ∧ (¬ (Int.tmod (M2 43 0) r1) = 0 → Q (some (.inl 0)) M2)))) : Call (K + 1) jTold_areThose [.inr (.inr 43), .inr (.inr 11), .inl a2] P0 P0 M Q := by
  refine Call.intro (by decide +kernel) (mfx.le mf162 (Nat.le_of_ble_eq_true rfl)) (Nat.le_refl _) rfl ?_
  refine G_aload_n 1 rfl rfl (ck dc162 (i := 0) rfl) ?_
  refine G_aload_n 1 rfl rfl (ck dc162 (i := 1) rfl) ?_
  refine H_getI mf162 (ck dc162 (i := 2) rfl) fw_Told_21 (Or.inl fc1_0) ly11 ra11 (x := (M 11 0)) rfl ?_
  refine H_vL mf162 (As := [.inl (M 11 0)]) (st := []) (ck dc162 (i := 3) rfl) lk_Told_27 rfl rfl (Nat.le_of_ble_eq_true rfl) ly11 ra11 ⟨Nat.le_refl _, Nat.le_refl _⟩ h (fun r1 M2 h => ?_)
  refine G_lstore_n (L' := [(3, .inr (.inl r1)), (0, .inr (.inr 43)), (1, .inr (.inr 11)), (2, .inl a2)]) rfl (mfx.lt mf162 (Nat.le_of_ble_eq_true rfl)) rfl (ck dc162 (i := 4) rfl) ?_
  refine G_lload_n 0 rfl rfl (ck dc162 (i := 5) rfl) ?_
  refine G_lconst (v := 1) rfl (ck dc162 (i := 6) rfl) ?_
  obtain ⟨o3, h⟩ := h
  refine G_lif_lt (tgt := 26) (ck dc162 (i := 8) rfl) (by decide) o3 (by decide) (ck dc162 (i := 7) rfl) (fun c => ?_) (fun c => ?_)
  · replace h := h.1 c
    refine G_iconst (ck dc162 (i := 16) rfl) ?_
    exact H_iretZ mf162 (ck dc162 (i := 17) rfl) rfl (Or.inl rfl) h
  · replace h := h.2 c
    refine G_aload_n 1 rfl rfl (ck dc162 (i := 9) rfl) ?_
    refine H_getL mf162 (ck dc162 (i := 10) rfl) fw_Told_15 fc8_0 ly43 ra43 (x := (M2 43 0)) rfl ?_
    refine G_lload_n 0 rfl rfl (ck dc162 (i := 11) rfl) ?_
    obtain ⟨o4, h⟩ := h
    obtain ⟨o5, h⟩ := h
    refine G_lrem o4 o3 o5 (ck dc162 (i := 12) rfl) ?_
    refine G_lconst (v := 0) rfl (ck dc162 (i := 13) rfl) ?_
    obtain ⟨o6, h⟩ := h
    refine G_lif_eq (tgt := 28) (ck dc162 (i := 15) rfl) (by decide) o6 (by decide) (ck dc162 (i := 14) rfl) (fun c => ?_) (fun c => ?_)
    · replace h := h.1 c
      refine G_iconst (ck dc162 (i := 18) rfl) ?_
      refine G_istore (L' := [(5, .inl 0), (3, .inr (.inl r1)), (0, .inr (.inr 43)), (1, .inr (.inr 11)), (2, .inl a2)]) (mfx.lt mf162 (Nat.le_of_ble_eq_true rfl)) rfl (ck dc162 (i := 19) rfl) ?_
      exact G_sub [2, 3, 4, 1, 0] rfl h
    · replace h := h.2 c
      refine G_iconst (ck dc162 (i := 16) rfl) ?_
      exact H_iretZ mf162 (ck dc162 (i := 17) rfl) rfl (Or.inl rfl) h
theorem g_to_areThose_31 (K : Nat) (l2 l3 l5 : Int) (M : PM) (Q : Option PV → PM → Prop)
    (h : R32 l5 ∧ R32 l2 ∧ (l2 ≤ l5 → Q (some (.inl 1)) M) ∧ (¬ l2 ≤ l5 → Call K jClearing_top [.inr (.inr 11), .inl (M 11 0), .inl (Int.tdiv l5 3), .inl (Int.tmod l5 3)] P0 P0 M (retL fun r3 M4 => (0 ≤ l5 ∧ l5 < 15) ∧ R64 (M4 43 0) ∧ R64 l3 ∧ l3 ≠ 0 ∧ R64 (M4 44 l5) ∧ R64 (r3 * (Int.tdiv (M4 43 0) l3)) ∧ ((M4 44 l5) = (r3 * (Int.tdiv (M4 43 0) l3)) → G none (K + 1) jTold_areThose 31 [(0, .inr (.inr 43)), (1, .inr (.inr 11)), (2, .inl l2), (3, .inr (.inl l3)), (5, .inl (l5 + 1))] [] P0 P0 M4 Q) ∧ (¬ (M4 44 l5) = (r3 * (Int.tdiv (M4 43 0) l3)) → Q (some (.inl 0)) M4)))) : G none (K + 1) jTold_areThose 31 [(0, .inr (.inr 43)), (1, .inr (.inr 11)), (2, .inl l2), (3, .inr (.inl l3)), (5, .inl l5)] [] P0 P0 M Q := by
  refine G_iload 4 rfl (ck dc162 (i := 20) rfl) ?_
  refine G_iload_n 2 rfl rfl (ck dc162 (i := 21) rfl) ?_
  obtain ⟨o1, h⟩ := h
  obtain ⟨o2, h⟩ := h
  refine G_icmp_ge (tgt := 83) (by decide) o1 o2 (ck dc162 (i := 22) rfl) (fun c => ?_) (fun c => ?_)
  · replace h := h.1 c
    refine G_iconst (ck dc162 (i := 50) rfl) ?_
    exact H_iretZ mf162 (ck dc162 (i := 51) rfl) rfl (Or.inr rfl) h
  · replace h := h.2 c
    refine G_aload_n 1 rfl rfl (ck dc162 (i := 23) rfl) ?_
    refine G_aload_n 1 rfl rfl (ck dc162 (i := 24) rfl) ?_
    refine H_getI mf162 (ck dc162 (i := 25) rfl) fw_Told_21 (Or.inl fc1_0) ly11 ra11 (x := (M 11 0)) rfl ?_
    refine G_iload 4 rfl (ck dc162 (i := 26) rfl) ?_
    refine G_iconst (ck dc162 (i := 27) rfl) ?_
    refine G_idiv o1 (by decide) (by decide) (ck dc162 (i := 28) rfl) ?_
    refine G_iload 4 rfl (ck dc162 (i := 29) rfl) ?_
    refine G_iconst (ck dc162 (i := 30) rfl) ?_
    refine G_irem o1 (by decide) (by decide) (ck dc162 (i := 31) rfl) ?_
    refine H_vL mf162 (As := [.inl (M 11 0), .inl (Int.tdiv l5 3), .inl (Int.tmod l5 3)]) (st := []) (ck dc162 (i := 32) rfl) lk_Told_31 rfl rfl (Nat.le_of_ble_eq_true rfl) ly11 ra11 ⟨Nat.le_refl _, Nat.le_refl _⟩ h (fun r3 M4 h => ?_)
    refine G_lstore (L' := [(6, .inr (.inl r3)), (0, .inr (.inr 43)), (1, .inr (.inr 11)), (2, .inl l2), (3, .inr (.inl l3)), (5, .inl l5)]) (mfx.lt mf162 (Nat.le_of_ble_eq_true rfl)) rfl (ck dc162 (i := 33) rfl) ?_
    refine G_aload_n 1 rfl rfl (ck dc162 (i := 34) rfl) ?_
    refine H_getR mf162 (ck dc162 (i := 35) rfl) fw_Told_9 fc8_1 ly43 ra43 rf43_1 (by decide) ?_
    refine G_iload 5 rfl (ck dc162 (i := 36) rfl) ?_
    obtain ⟨o5, h⟩ := h
    refine H_lald (ck dc162 (i := 37) rfl) ly44 (by decide) ra44 o5 (x := (M4 44 l5)) rfl ?_
    refine G_lload 0 rfl (ck dc162 (i := 38) rfl) ?_
    refine G_aload_n 1 rfl rfl (ck dc162 (i := 39) rfl) ?_
    refine H_getL mf162 (ck dc162 (i := 40) rfl) fw_Told_15 fc8_0 ly43 ra43 (x := (M4 43 0)) rfl ?_
    refine G_lload_n 4 rfl rfl (ck dc162 (i := 41) rfl) ?_
    obtain ⟨o6, h⟩ := h
    obtain ⟨o7, h⟩ := h
    obtain ⟨o8, h⟩ := h
    refine G_ldiv o6 o7 o8 (ck dc162 (i := 42) rfl) ?_
    refine G_lmul (ck dc162 (i := 43) rfl) ?_
    obtain ⟨o9, h⟩ := h
    obtain ⟨o10, h⟩ := h
    refine G_lif_eq (tgt := 77) (ck dc162 (i := 45) rfl) (by decide) o9 o10 (ck dc162 (i := 44) rfl) (fun c => ?_) (fun c => ?_)
    · replace h := h.1 c
      refine G_iinc (L' := [(5, .inl (l5 + 1)), (6, .inr (.inl r3)), (0, .inr (.inr 43)), (1, .inr (.inr 11)), (2, .inl l2), (3, .inr (.inl l3))]) 5 rfl (mfx.lt mf162 (Nat.le_of_ble_eq_true rfl)) rfl (ck dc162 (i := 48) rfl) ?_
      refine G_goto (tgt := 31) (by decide) (ck dc162 (i := 49) rfl) ?_
      exact G_sub [2, 3, 4, 5, 0] rfl h
    · replace h := h.2 c
      refine G_iconst (ck dc162 (i := 46) rfl) ?_
      exact H_iretZ mf162 (ck dc162 (i := 47) rfl) rfl (Or.inl rfl) h
