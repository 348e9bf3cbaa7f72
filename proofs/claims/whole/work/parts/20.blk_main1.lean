theorem c_x_saves (K : Nat) (a1 a2 : Int) (M : PM) (Q : Option PV → PM → Prop)
    (h : R32 a2 ∧ (a2 < 0 → Q (some (.inl (-1))) M) ∧ (¬ a2 < 0 → (a2 ≤ 1 → Call K jClearingWaves_isCoins [.inl a1] P0 P0 M (retI fun r2 M3 => R32 r2 ∧ (¬ r2 = 0 → Call K jClearingWaves_loadPurse [.inr (.inr 0)] P0 P0 M3 (retV fun M6 => Call K jClearingWaves_mostSaved [.inr (.inr 0), .inl a1, .inl a2] P0 P0 M6 (retI fun r7 M8 => Q (some (.inl r7)) M8))) ∧ (r2 = 0 → Q (some (.inl (-2))) M3))) ∧ (¬ a2 ≤ 1 → Q (some (.inl (-1))) M))) : Call (K + 1) jClearingWaves_saves [.inr (.inr 0), .inl a1, .inl a2] P0 P0 M Q := by
  refine Call.intro (by decide +kernel) (mfx.le mf112 (Nat.le_of_ble_eq_true rfl)) (Nat.le_refl _) rfl ?_
  refine G_iload_n 2 rfl rfl (ck dc112 (i := 0) rfl) ?_
  obtain ⟨o1, h⟩ := h
  refine G_if_lt (tgt := 9) (by decide) o1 (ck dc112 (i := 1) rfl) (fun c => ?_) (fun c => ?_)
  · replace h := h.1 c
    refine G_iconst (ck dc112 (i := 5) rfl) ?_
    exact H_iretI mf112 (ck dc112 (i := 6) rfl) rfl h
  · replace h := h.2 c
    refine G_iload_n 2 rfl rfl (ck dc112 (i := 2) rfl) ?_
    refine G_iconst (ck dc112 (i := 3) rfl) ?_
    refine G_icmp_le (tgt := 11) (by decide) o1 (by decide) (ck dc112 (i := 4) rfl) (fun c => ?_) (fun c => ?_)
    · replace h := h.1 c
      refine G_iload_n 1 rfl rfl (ck dc112 (i := 7) rfl) ?_
      refine H_sZ mf112 (As := [.inl a1]) (st := []) (ck dc112 (i := 8) rfl) lk_ClearingWaves_234 rfl rfl (Nat.le_of_ble_eq_true rfl) ⟨Nat.le_refl _, Nat.le_refl _⟩ h (fun r2 M3 h => ?_)
      obtain ⟨o4, h⟩ := h
      refine G_if_ne (tgt := 21) (by decide) o4 (ck dc112 (i := 9) rfl) (fun c => ?_) (fun c => ?_)
      · replace h := h.1 c
        refine G_aload_n 0 rfl rfl (ck dc112 (i := 12) rfl) ?_
        refine H_vV mf112 (As := []) (st := []) (ck dc112 (i := 13) rfl) lk_ClearingWaves_240 rfl rfl (Nat.le_of_ble_eq_true rfl) ly0 ra0 ⟨Nat.le_refl _, Nat.le_refl _⟩ h (fun M6 h => ?_)
        refine G_aload_n 0 rfl rfl (ck dc112 (i := 14) rfl) ?_
        refine G_iload_n 1 rfl rfl (ck dc112 (i := 15) rfl) ?_
        refine G_iload_n 2 rfl rfl (ck dc112 (i := 16) rfl) ?_
        refine H_vI mf112 (As := [.inl a1, .inl a2]) (st := []) (ck dc112 (i := 17) rfl) lk_ClearingWaves_243 rfl rfl (Nat.le_of_ble_eq_true rfl) ly0 ra0 ⟨Nat.le_refl _, Nat.le_refl _⟩ h (fun r7 M8 h => ?_)
        exact H_iretI mf112 (ck dc112 (i := 18) rfl) rfl h
      · replace h := h.2 c
        refine G_bipush (n := (-2)) rfl (ck dc112 (i := 10) rfl) ?_
        exact H_iretI mf112 (ck dc112 (i := 11) rfl) rfl h
    · replace h := h.2 c
      refine G_iconst (ck dc112 (i := 5) rfl) ?_
      exact H_iretI mf112 (ck dc112 (i := 6) rfl) rfl h
theorem c_x_leastThatSaves (K : Nat) (a1 a2 : Int) (M : PM) (Q : Option PV → PM → Prop)
    (h : Call K jClearingWaves_failsWith [.inr (.inr 0), .inl a2, .inl 200] P0 P0 M (retI fun r1 M2 => R32 (bAnd r1 a1) ∧ ((bAnd r1 a1) = 0 → G none (K + 1) jClearingWaves_leastThatSaves 26 [(0, .inr (.inr 0)), (1, .inl a1), (2, .inl a2), (3, .inl 0), (4, .inl 200), (5, .inl 0)] [] P0 P0 M2 Q) ∧ (¬ (bAnd r1 a1) = 0 → Q (some (.inl (-5))) M2))) : Call (K + 1) jClearingWaves_leastThatSaves [.inr (.inr 0), .inl a1, .inl a2] P0 P0 M Q := by
  refine Call.intro (by decide +kernel) (mfx.le mf117 (Nat.le_of_ble_eq_true rfl)) (Nat.le_refl _) rfl ?_
  refine G_aload_n 0 rfl rfl (ck dc117 (i := 0) rfl) ?_
  refine G_iload_n 2 rfl rfl (ck dc117 (i := 1) rfl) ?_
  refine G_sipush (n := 200) rfl (ck dc117 (i := 2) rfl) ?_
  refine H_vI mf117 (As := [.inl a2, .inl 200]) (st := []) (ck dc117 (i := 3) rfl) lk_ClearingWaves_237 rfl rfl (Nat.le_of_ble_eq_true rfl) ly0 ra0 ⟨Nat.le_refl _, Nat.le_refl _⟩ h (fun r1 M2 h => ?_)
  refine G_iload_n 1 rfl rfl (ck dc117 (i := 4) rfl) ?_
  refine G_iand (ck dc117 (i := 5) rfl) ?_
  obtain ⟨o3, h⟩ := h
  refine G_if_eq (tgt := 16) (by decide) o3 (ck dc117 (i := 6) rfl) (fun c => ?_) (fun c => ?_)
  · replace h := h.1 c
    refine G_iconst (ck dc117 (i := 9) rfl) ?_
    refine G_istore_n rfl (mfx.lt mf117 (Nat.le_of_ble_eq_true rfl)) rfl (ck dc117 (i := 10) rfl) ?_
    refine G_sipush (n := 200) rfl (ck dc117 (i := 11) rfl) ?_
    refine G_istore (mfx.lt mf117 (Nat.le_of_ble_eq_true rfl)) rfl (ck dc117 (i := 12) rfl) ?_
    refine G_iconst (ck dc117 (i := 13) rfl) ?_
    refine G_istore (mfx.lt mf117 (Nat.le_of_ble_eq_true rfl)) rfl (ck dc117 (i := 14) rfl) ?_
    exact G_sub [3, 4, 5, 2, 1, 0] rfl h
  · replace h := h.2 c
    refine G_bipush (n := (-5)) rfl (ck dc117 (i := 7) rfl) ?_
    exact H_iretI mf117 (ck dc117 (i := 8) rfl) rfl h
theorem g_x_leastThatSaves_26 (K : Nat) (l1 l2 l3 l4 l5 : Int) (M : PM) (Q : Option PV → PM → Prop)
    (h : R32 l5 ∧ (200 ≤ l5 → Q (some (.inl l4)) M) ∧ (¬ 200 ≤ l5 → R32 l3 ∧ R32 l4 ∧ (l4 ≤ l3 → Q (some (.inl l4)) M) ∧ (¬ l4 ≤ l3 → R32 (l3 + l4) ∧ Call K jClearingWaves_failsWith [.inr (.inr 0), .inl l2, .inl (Int.tdiv (l3 + l4) 2)] P0 P0 M (retI fun r5 M6 => R32 (bAnd r5 l1) ∧ (¬ (bAnd r5 l1) = 0 → G none (K + 1) jClearingWaves_leastThatSaves 26 [(0, .inr (.inr 0)), (1, .inl l1), (2, .inl l2), (3, .inl ((Int.tdiv (l3 + l4) 2) + 1)), (4, .inl l4), (5, .inl (l5 + 1))] [] P0 P0 M6 Q) ∧ ((bAnd r5 l1) = 0 → G none (K + 1) jClearingWaves_leastThatSaves 26 [(0, .inr (.inr 0)), (1, .inl l1), (2, .inl l2), (3, .inl l3), (4, .inl (Int.tdiv (l3 + l4) 2)), (5, .inl (l5 + 1))] [] P0 P0 M6 Q))))) : G none (K + 1) jClearingWaves_leastThatSaves 26 [(0, .inr (.inr 0)), (1, .inl l1), (2, .inl l2), (3, .inl l3), (4, .inl l4), (5, .inl l5)] [] P0 P0 M Q := by
  refine G_iload 5 rfl (ck dc117 (i := 15) rfl) ?_
  refine G_sipush (n := 200) rfl (ck dc117 (i := 16) rfl) ?_
  obtain ⟨o1, h⟩ := h
  refine G_icmp_ge (tgt := 78) (by decide) o1 (by decide) (ck dc117 (i := 17) rfl) (fun c => ?_) (fun c => ?_)
  · replace h := h.1 c
    refine G_iload 4 rfl (ck dc117 (i := 43) rfl) ?_
    exact H_iretI mf117 (ck dc117 (i := 44) rfl) rfl h
  · replace h := h.2 c
    refine G_iload_n 3 rfl rfl (ck dc117 (i := 18) rfl) ?_
    refine G_iload 4 rfl (ck dc117 (i := 19) rfl) ?_
    obtain ⟨o2, h⟩ := h
    obtain ⟨o3, h⟩ := h
    refine G_icmp_ge (tgt := 78) (by decide) o2 o3 (ck dc117 (i := 20) rfl) (fun c => ?_) (fun c => ?_)
    · replace h := h.1 c
      refine G_iload 4 rfl (ck dc117 (i := 43) rfl) ?_
      exact H_iretI mf117 (ck dc117 (i := 44) rfl) rfl h
    · replace h := h.2 c
      refine G_iload_n 3 rfl rfl (ck dc117 (i := 21) rfl) ?_
      refine G_iload 4 rfl (ck dc117 (i := 22) rfl) ?_
      refine G_iadd (ck dc117 (i := 23) rfl) ?_
      refine G_iconst (ck dc117 (i := 24) rfl) ?_
      obtain ⟨o4, h⟩ := h
      refine G_idiv o4 (by decide) (by decide) (ck dc117 (i := 25) rfl) ?_
      refine G_istore (mfx.lt mf117 (Nat.le_of_ble_eq_true rfl)) rfl (ck dc117 (i := 26) rfl) ?_
      refine G_aload_n 1 rfl rfl (ck dc117 (i := 27) rfl) ?_
      refine G_iload_n 3 rfl rfl (ck dc117 (i := 28) rfl) ?_
      refine G_iload 0 rfl (ck dc117 (i := 29) rfl) ?_
      refine H_vI mf117 (As := [.inl l2, .inl (Int.tdiv (l3 + l4) 2)]) (st := []) (ck dc117 (i := 30) rfl) lk_ClearingWaves_237 rfl rfl (Nat.le_of_ble_eq_true rfl) ly0 ra0 ⟨Nat.le_refl _, Nat.le_refl _⟩ h (fun r5 M6 h => ?_)
      refine G_iload_n 2 rfl rfl (ck dc117 (i := 31) rfl) ?_
      refine G_iand (ck dc117 (i := 32) rfl) ?_
      obtain ⟨o7, h⟩ := h
      refine G_if_ne (tgt := 67) (by decide) o7 (ck dc117 (i := 33) rfl) (fun c => ?_) (fun c => ?_)
      · replace h := h.1 c
        refine G_iload 0 rfl (ck dc117 (i := 37) rfl) ?_
        refine G_iconst (ck dc117 (i := 38) rfl) ?_
        refine G_iadd (ck dc117 (i := 39) rfl) ?_
        refine G_istore_n rfl (mfx.lt mf117 (Nat.le_of_ble_eq_true rfl)) rfl (ck dc117 (i := 40) rfl) ?_
        refine G_iinc 6 rfl (mfx.lt mf117 (Nat.le_of_ble_eq_true rfl)) rfl (ck dc117 (i := 41) rfl) ?_
        refine G_goto (tgt := 26) (by decide) (ck dc117 (i := 42) rfl) ?_
        exact G_sub [3, 4, 5, 1, 6, 0] rfl h
      · replace h := h.2 c
        refine G_iload 0 rfl (ck dc117 (i := 34) rfl) ?_
        refine G_istore (mfx.lt mf117 (Nat.le_of_ble_eq_true rfl)) rfl (ck dc117 (i := 35) rfl) ?_
        refine G_goto (tgt := 72) (by decide) (ck dc117 (i := 36) rfl) ?_
        refine G_iinc 6 rfl (mfx.lt mf117 (Nat.le_of_ble_eq_true rfl)) rfl (ck dc117 (i := 41) rfl) ?_
        refine G_goto (tgt := 26) (by decide) (ck dc117 (i := 42) rfl) ?_
        exact G_sub [3, 4, 5, 6, 1, 0] rfl h
theorem c_x_needs (K : Nat) (a1 a2 : Int) (M : PM) (Q : Option PV → PM → Prop)
    (h : Call K jBook_hasHouse [.inr (.inr 1), .inl a1] P0 P0 M (retI fun r1 M2 => R32 r1 ∧ (r1 = 0 → Q (some (.inl (-1))) M2) ∧ (¬ r1 = 0 → Call K jBook_hasHouse [.inr (.inr 1), .inl a2] P0 P0 M2 (retI fun r4 M5 => R32 r4 ∧ (¬ r4 = 0 → Call K jClearingWaves_leastThatSaves [.inr (.inr 0), .inl (bShl 1 a1), .inl a2] P0 P0 M5 (retI fun r7 M8 => Q (some (.inl r7)) M8)) ∧ (r4 = 0 → Q (some (.inl (-1))) M5))))) : Call (K + 1) jClearingWaves_needs [.inr (.inr 0), .inl a1, .inl a2] P0 P0 M Q := by
  refine Call.intro (by decide +kernel) (mfx.le mf116 (Nat.le_of_ble_eq_true rfl)) (Nat.le_refl _) rfl ?_
  refine G_aload_n 0 rfl rfl (ck dc116 (i := 0) rfl) ?_
  refine H_getR mf116 (ck dc116 (i := 1) rfl) fw_ClearingWaves_12 fc10_0 ly0 ra0 rf0_0 (by decide) ?_
  refine G_iload_n 1 rfl rfl (ck dc116 (i := 2) rfl) ?_
  refine H_vZ mf116 (As := [.inl a1]) (st := []) (ck dc116 (i := 3) rfl) lk_ClearingWaves_108 rfl rfl (Nat.le_of_ble_eq_true rfl) ly1 ra1 ⟨Nat.le_refl _, Nat.le_refl _⟩ h (fun r1 M2 h => ?_)
  obtain ⟨o3, h⟩ := h
  refine G_if_eq (tgt := 22) (by decide) o3 (ck dc116 (i := 4) rfl) (fun c => ?_) (fun c => ?_)
  · replace h := h.1 c
    refine G_iconst (ck dc116 (i := 10) rfl) ?_
    exact H_iretI mf116 (ck dc116 (i := 11) rfl) rfl h
  · replace h := h.2 c
    refine G_aload_n 0 rfl rfl (ck dc116 (i := 5) rfl) ?_
    refine H_getR mf116 (ck dc116 (i := 6) rfl) fw_ClearingWaves_12 fc10_0 ly0 ra0 rf0_0 (by decide) ?_
    refine G_iload_n 2 rfl rfl (ck dc116 (i := 7) rfl) ?_
    refine H_vZ mf116 (As := [.inl a2]) (st := []) (ck dc116 (i := 8) rfl) lk_ClearingWaves_108 rfl rfl (Nat.le_of_ble_eq_true rfl) ly1 ra1 ⟨Nat.le_refl _, Nat.le_refl _⟩ h (fun r4 M5 h => ?_)
    obtain ⟨o6, h⟩ := h
    refine G_if_ne (tgt := 24) (by decide) o6 (ck dc116 (i := 9) rfl) (fun c => ?_) (fun c => ?_)
    · replace h := h.1 c
      refine G_aload_n 0 rfl rfl (ck dc116 (i := 12) rfl) ?_
      refine G_iconst (ck dc116 (i := 13) rfl) ?_
      refine G_iload_n 1 rfl rfl (ck dc116 (i := 14) rfl) ?_
      refine G_ishl (ck dc116 (i := 15) rfl) ?_
      refine G_iload_n 2 rfl rfl (ck dc116 (i := 16) rfl) ?_
      refine H_vI mf116 (As := [.inl (bShl 1 a1), .inl a2]) (st := []) (ck dc116 (i := 17) rfl) lk_ClearingWaves_246 rfl rfl (Nat.le_of_ble_eq_true rfl) ly0 ra0 ⟨Nat.le_refl _, Nat.le_refl _⟩ h (fun r7 M8 h => ?_)
      exact H_iretI mf116 (ck dc116 (i := 18) rfl) rfl h
    · replace h := h.2 c
      refine G_iconst (ck dc116 (i := 10) rfl) ?_
      exact H_iretI mf116 (ck dc116 (i := 11) rfl) rfl h
theorem c_x_calms (K : Nat) (a1 : Int) (M : PM) (Q : Option PV → PM → Prop)
    (h : Call K jBook_hasHouse [.inr (.inr 1), .inl a1] P0 P0 M (retI fun r1 M2 => R32 r1 ∧ (r1 = 0 → Q (some (.inl (-1))) M2) ∧ (¬ r1 = 0 → Call K jClearingWaves_leastThatSaves [.inr (.inr 0), .inl ((bShl 1 (M2 1 0)) - 1), .inl a1] P0 P0 M2 (retI fun r4 M5 => Q (some (.inl r4)) M5)))) : Call (K + 1) jClearingWaves_calms [.inr (.inr 0), .inl a1] P0 P0 M Q := by
  refine Call.intro (by decide +kernel) (mfx.le mf118 (Nat.le_of_ble_eq_true rfl)) (Nat.le_refl _) rfl ?_
  refine G_aload_n 0 rfl rfl (ck dc118 (i := 0) rfl) ?_
  refine H_getR mf118 (ck dc118 (i := 1) rfl) fw_ClearingWaves_12 fc10_0 ly0 ra0 rf0_0 (by decide) ?_
  refine G_iload_n 1 rfl rfl (ck dc118 (i := 2) rfl) ?_
  refine H_vZ mf118 (As := [.inl a1]) (st := []) (ck dc118 (i := 3) rfl) lk_ClearingWaves_108 rfl rfl (Nat.le_of_ble_eq_true rfl) ly1 ra1 ⟨Nat.le_refl _, Nat.le_refl _⟩ h (fun r1 M2 h => ?_)
  obtain ⟨o3, h⟩ := h
  refine G_if_eq (tgt := 30) (by decide) o3 (ck dc118 (i := 4) rfl) (fun c => ?_) (fun c => ?_)
  · replace h := h.1 c
    refine G_iconst (ck dc118 (i := 16) rfl) ?_
    exact H_iretI mf118 (ck dc118 (i := 17) rfl) rfl h
  · replace h := h.2 c
    refine G_aload_n 0 rfl rfl (ck dc118 (i := 5) rfl) ?_
    refine G_iconst (ck dc118 (i := 6) rfl) ?_
    refine G_aload_n 0 rfl rfl (ck dc118 (i := 7) rfl) ?_
    refine H_getR mf118 (ck dc118 (i := 8) rfl) fw_ClearingWaves_12 fc10_0 ly0 ra0 rf0_0 (by decide) ?_
    refine H_getI mf118 (ck dc118 (i := 9) rfl) fw_ClearingWaves_207 (Or.inl fc0_0) ly1 ra1 (x := (M2 1 0)) rfl ?_
    refine G_ishl (ck dc118 (i := 10) rfl) ?_
    refine G_iconst (ck dc118 (i := 11) rfl) ?_
    refine G_isub (ck dc118 (i := 12) rfl) ?_
    refine G_iload_n 1 rfl rfl (ck dc118 (i := 13) rfl) ?_
    refine H_vI mf118 (As := [.inl ((bShl 1 (M2 1 0)) - 1), .inl a1]) (st := []) (ck dc118 (i := 14) rfl) lk_ClearingWaves_246 rfl rfl (Nat.le_of_ble_eq_true rfl) ly0 ra0 ⟨Nat.le_refl _, Nat.le_refl _⟩ h (fun r4 M5 h => ?_)
    refine G_goto (tgt := 31) (by decide) (ck dc118 (i := 15) rfl) ?_
    exact H_iretI mf118 (ck dc118 (i := 17) rfl) rfl h
theorem c_x_danger (K : Nat) (M : PM) (Q : Option PV → PM → Prop)
    (h : G none (K + 1) jClearingWaves_danger 6 [(0, .inr (.inr 0)), (1, .inl (-1)), (2, .inl 0), (3, .inl 0)] [] P0 P0 M Q) : Call (K + 1) jClearingWaves_danger [.inr (.inr 0)] P0 P0 M Q := by
  refine Call.intro (by decide +kernel) (mfx.le mf119 (Nat.le_of_ble_eq_true rfl)) (Nat.le_refl _) rfl ?_
  refine G_iconst (ck dc119 (i := 0) rfl) ?_
  refine G_istore_n rfl (mfx.lt mf119 (Nat.le_of_ble_eq_true rfl)) rfl (ck dc119 (i := 1) rfl) ?_
  refine G_iconst (ck dc119 (i := 2) rfl) ?_
  refine G_istore_n rfl (mfx.lt mf119 (Nat.le_of_ble_eq_true rfl)) rfl (ck dc119 (i := 3) rfl) ?_
  refine G_iconst (ck dc119 (i := 4) rfl) ?_
  refine G_istore_n rfl (mfx.lt mf119 (Nat.le_of_ble_eq_true rfl)) rfl (ck dc119 (i := 5) rfl) ?_
  exact G_sub [3, 2, 1, 0] rfl h
theorem g_x_danger_6 (K : Nat) (l1 l2 l3 : Int) (M : PM) (Q : Option PV → PM → Prop)
    (h : R32 l3 ∧ R32 (M 1 0) ∧ ((M 1 0) ≤ l3 → Q (some (.inl l2)) M) ∧ (¬ (M 1 0) ≤ l3 → (0 ≤ l3 ∧ l3 < 5) ∧ Call K jClearingWaves_failsWith [.inr (.inr 0), .inl l3, .inl (-(M 2 l3))] P0 P0 M (retI fun r4 M5 => Call K jJInteger_bitCount [.inl r4] P0 P0 M5 (retI fun r6 M7 => R32 r6 ∧ R32 l1 ∧ (r6 ≤ l1 → G none (K + 1) jClearingWaves_danger 6 [(0, .inr (.inr 0)), (1, .inl l1), (2, .inl l2), (3, .inl (l3 + 1))] [] P0 P0 M7 Q) ∧ (¬ r6 ≤ l1 → G none (K + 1) jClearingWaves_danger 6 [(0, .inr (.inr 0)), (1, .inl r6), (2, .inl l3), (3, .inl (l3 + 1))] [] P0 P0 M7 Q))))) : G none (K + 1) jClearingWaves_danger 6 [(0, .inr (.inr 0)), (1, .inl l1), (2, .inl l2), (3, .inl l3)] [] P0 P0 M Q := by
  refine G_iload_n 3 rfl rfl (ck dc119 (i := 6) rfl) ?_
  refine G_aload_n 0 rfl rfl (ck dc119 (i := 7) rfl) ?_
  refine H_getR mf119 (ck dc119 (i := 8) rfl) fw_ClearingWaves_12 fc10_0 ly0 ra0 rf0_0 (by decide) ?_
  refine H_getI mf119 (ck dc119 (i := 9) rfl) fw_ClearingWaves_207 (Or.inl fc0_0) ly1 ra1 (x := (M 1 0)) rfl ?_
  obtain ⟨o1, h⟩ := h
  obtain ⟨o2, h⟩ := h
  refine G_icmp_ge (tgt := 54) (by decide) o1 o2 (ck dc119 (i := 10) rfl) (fun c => ?_) (fun c => ?_)
  · replace h := h.1 c
    refine G_iload_n 2 rfl rfl (ck dc119 (i := 31) rfl) ?_
    exact H_iretI mf119 (ck dc119 (i := 32) rfl) rfl h
  · replace h := h.2 c
    refine G_aload_n 0 rfl rfl (ck dc119 (i := 11) rfl) ?_
    refine G_iload_n 3 rfl rfl (ck dc119 (i := 12) rfl) ?_
    refine G_aload_n 0 rfl rfl (ck dc119 (i := 13) rfl) ?_
    refine H_getR mf119 (ck dc119 (i := 14) rfl) fw_ClearingWaves_12 fc10_0 ly0 ra0 rf0_0 (by decide) ?_
    refine H_getR mf119 (ck dc119 (i := 15) rfl) fw_ClearingWaves_30 fc0_3 ly1 ra1 rf1_3 (by decide) ?_
    refine G_iload_n 3 rfl rfl (ck dc119 (i := 16) rfl) ?_
    obtain ⟨o3, h⟩ := h
    refine H_iald (ck dc119 (i := 17) rfl) ly2 (by decide) ra2 o3 (x := (M 2 l3)) rfl ?_
    refine G_ineg (ck dc119 (i := 18) rfl) ?_
    refine H_vI mf119 (As := [.inl l3, .inl (-(M 2 l3))]) (st := []) (ck dc119 (i := 19) rfl) lk_ClearingWaves_237 rfl rfl (Nat.le_of_ble_eq_true rfl) ly0 ra0 ⟨Nat.le_refl _, Nat.le_refl _⟩ h (fun r4 M5 h => ?_)
    refine H_sI mf119 (As := [.inl r4]) (st := []) (ck dc119 (i := 20) rfl) lk_ClearingWaves_249 rfl rfl (Nat.le_of_ble_eq_true rfl) ⟨Nat.le_refl _, Nat.le_refl _⟩ h (fun r6 M7 h => ?_)
    refine G_istore (mfx.lt mf119 (Nat.le_of_ble_eq_true rfl)) rfl (ck dc119 (i := 21) rfl) ?_
    refine G_iload 0 rfl (ck dc119 (i := 22) rfl) ?_
    refine G_iload_n 2 rfl rfl (ck dc119 (i := 23) rfl) ?_
    obtain ⟨o8, h⟩ := h
    obtain ⟨o9, h⟩ := h
    refine G_icmp_le (tgt := 48) (by decide) o8 o9 (ck dc119 (i := 24) rfl) (fun c => ?_) (fun c => ?_)
    · replace h := h.1 c
      refine G_iinc 4 rfl (mfx.lt mf119 (Nat.le_of_ble_eq_true rfl)) rfl (ck dc119 (i := 29) rfl) ?_
      refine G_goto (tgt := 6) (by decide) (ck dc119 (i := 30) rfl) ?_
      exact G_sub [2, 3, 4, 0] rfl h
    · replace h := h.2 c
      refine G_iload 0 rfl (ck dc119 (i := 25) rfl) ?_
      refine G_istore_n rfl (mfx.lt mf119 (Nat.le_of_ble_eq_true rfl)) rfl (ck dc119 (i := 26) rfl) ?_
      refine G_iload_n 4 rfl rfl (ck dc119 (i := 27) rfl) ?_
      refine G_istore_n rfl (mfx.lt mf119 (Nat.le_of_ble_eq_true rfl)) rfl (ck dc119 (i := 28) rfl) ?_
      refine G_iinc 4 rfl (mfx.lt mf119 (Nat.le_of_ble_eq_true rfl)) rfl (ck dc119 (i := 29) rfl) ?_
      refine G_goto (tgt := 6) (by decide) (ck dc119 (i := 30) rfl) ?_
      exact G_sub [4, 2, 1, 0] rfl h
theorem c_x_rescue (K : Nat) (a1 a2 a3 a4 a5 : Int) (M : PM) (Q : Option PV → PM → Prop)
    (h : Call K jRows_has [.inr (.inr 49), .inl a1] P0 P0 M (retI fun r1 M2 => R32 r1 ∧ (r1 = 0 → Q (some (.inl (-1))) M2) ∧ (¬ r1 = 0 → R32 a5 ∧ (a5 < 0 → Q (some (.inl (-1))) M2) ∧ (¬ a5 < 0 → (a5 ≤ 1 → R32 a3 ∧ (a3 < 1 → Q (some (.inl (-2))) M2) ∧ (¬ a3 < 1 → (30 < a3 → Q (some (.inl (-2))) M2) ∧ (¬ 30 < a3 → R32 a4 ∧ (a4 < 1 → Q (some (.inl (-2))) M2) ∧ (¬ a4 < 1 → (a4 ≤ 6 → Call K jRows_holds [.inr (.inr 49), .inl a1] P0 P0 M2 (retI fun r7 M8 => R32 r7 ∧ (¬ r7 = 0 → Call K jClearingWaves_loadPurse [.inr (.inr 0)] P0 P0 M8 (retV fun M11 => G none (K + 1) jClearingWaves_rescue 72 [(0, .inr (.inr 0)), (1, .inl a1), (2, .inl a2), (3, .inl a3), (4, .inl a4), (5, .inl a5), (6, .inl 0)] [] P0 P0 M11 Q)) ∧ (r7 = 0 → Q (some (.inl (-11))) M8))) ∧ (¬ a4 ≤ 6 → Q (some (.inl (-2))) M2))))) ∧ (¬ a5 ≤ 1 → Q (some (.inl (-1))) M2))))) : Call (K + 1) jClearingWaves_rescue [.inr (.inr 0), .inl a1, .inl a2, .inl a3, .inl a4, .inl a5] P0 P0 M Q := by
  refine Call.intro (by decide +kernel) (mfx.le mf120 (Nat.le_of_ble_eq_true rfl)) (Nat.le_refl _) rfl ?_
  refine G_aload_n 0 rfl rfl (ck dc120 (i := 0) rfl) ?_
  refine H_getR mf120 (ck dc120 (i := 1) rfl) fw_ClearingWaves_90 fc10_15 ly0 ra0 rf0_15 (by decide) ?_
  refine G_iload_n 1 rfl rfl (ck dc120 (i := 2) rfl) ?_
  refine H_vZ mf120 (As := [.inl a1]) (st := []) (ck dc120 (i := 3) rfl) lk_ClearingWaves_254 rfl rfl (Nat.le_of_ble_eq_true rfl) ly49 ra49 ⟨Nat.le_refl _, Nat.le_refl _⟩ h (fun r1 M2 h => ?_)
  obtain ⟨o3, h⟩ := h
  refine G_if_eq (tgt := 22) (by decide) o3 (ck dc120 (i := 4) rfl) (fun c => ?_) (fun c => ?_)
  · replace h := h.1 c
    refine G_iconst (ck dc120 (i := 10) rfl) ?_
    exact H_iretI mf120 (ck dc120 (i := 11) rfl) rfl h
  · replace h := h.2 c
    refine G_iload 5 rfl (ck dc120 (i := 5) rfl) ?_
    obtain ⟨o4, h⟩ := h
    refine G_if_lt (tgt := 22) (by decide) o4 (ck dc120 (i := 6) rfl) (fun c => ?_) (fun c => ?_)
    · replace h := h.1 c
      refine G_iconst (ck dc120 (i := 10) rfl) ?_
      exact H_iretI mf120 (ck dc120 (i := 11) rfl) rfl h
    · replace h := h.2 c
      refine G_iload 5 rfl (ck dc120 (i := 7) rfl) ?_
      refine G_iconst (ck dc120 (i := 8) rfl) ?_
      refine G_icmp_le (tgt := 24) (by decide) o4 (by decide) (ck dc120 (i := 9) rfl) (fun c => ?_) (fun c => ?_)
      · replace h := h.1 c
        refine G_iload_n 3 rfl rfl (ck dc120 (i := 12) rfl) ?_
        refine G_iconst (ck dc120 (i := 13) rfl) ?_
        obtain ⟨o5, h⟩ := h
        refine G_icmp_lt (tgt := 48) (by decide) o5 (by decide) (ck dc120 (i := 14) rfl) (fun c => ?_) (fun c => ?_)
        · replace h := h.1 c
          refine G_bipush (n := (-2)) rfl (ck dc120 (i := 24) rfl) ?_
          exact H_iretI mf120 (ck dc120 (i := 25) rfl) rfl h
        · replace h := h.2 c
          refine G_iload_n 3 rfl rfl (ck dc120 (i := 15) rfl) ?_
          refine G_bipush (n := 30) rfl (ck dc120 (i := 16) rfl) ?_
          refine G_icmp_gt (tgt := 48) (by decide) o5 (by decide) (ck dc120 (i := 17) rfl) (fun c => ?_) (fun c => ?_)
          · replace h := h.1 c
            refine G_bipush (n := (-2)) rfl (ck dc120 (i := 24) rfl) ?_
            exact H_iretI mf120 (ck dc120 (i := 25) rfl) rfl h
          · replace h := h.2 c
            refine G_iload 4 rfl (ck dc120 (i := 18) rfl) ?_
            refine G_iconst (ck dc120 (i := 19) rfl) ?_
            obtain ⟨o6, h⟩ := h
            refine G_icmp_lt (tgt := 48) (by decide) o6 (by decide) (ck dc120 (i := 20) rfl) (fun c => ?_) (fun c => ?_)
            · replace h := h.1 c
              refine G_bipush (n := (-2)) rfl (ck dc120 (i := 24) rfl) ?_
              exact H_iretI mf120 (ck dc120 (i := 25) rfl) rfl h
            · replace h := h.2 c
              refine G_iload 4 rfl (ck dc120 (i := 21) rfl) ?_
              refine G_bipush (n := 6) rfl (ck dc120 (i := 22) rfl) ?_
              refine G_icmp_le (tgt := 51) (by decide) o6 (by decide) (ck dc120 (i := 23) rfl) (fun c => ?_) (fun c => ?_)
              · replace h := h.1 c
                refine G_aload_n 0 rfl rfl (ck dc120 (i := 26) rfl) ?_
                refine H_getR mf120 (ck dc120 (i := 27) rfl) fw_ClearingWaves_90 fc10_15 ly0 ra0 rf0_15 (by decide) ?_
                refine G_iload_n 1 rfl rfl (ck dc120 (i := 28) rfl) ?_
                refine H_vZ mf120 (As := [.inl a1]) (st := []) (ck dc120 (i := 29) rfl) lk_ClearingWaves_257 rfl rfl (Nat.le_of_ble_eq_true rfl) ly49 ra49 ⟨Nat.le_refl _, Nat.le_refl _⟩ h (fun r7 M8 h => ?_)
                obtain ⟨o9, h⟩ := h
                refine G_if_ne (tgt := 65) (by decide) o9 (ck dc120 (i := 30) rfl) (fun c => ?_) (fun c => ?_)
                · replace h := h.1 c
                  refine G_aload_n 0 rfl rfl (ck dc120 (i := 33) rfl) ?_
                  refine H_vV mf120 (As := []) (st := []) (ck dc120 (i := 34) rfl) lk_ClearingWaves_240 rfl rfl (Nat.le_of_ble_eq_true rfl) ly0 ra0 ⟨Nat.le_refl _, Nat.le_refl _⟩ h (fun M11 h => ?_)
                  refine G_iconst (ck dc120 (i := 35) rfl) ?_
                  refine G_istore (mfx.lt mf120 (Nat.le_of_ble_eq_true rfl)) rfl (ck dc120 (i := 36) rfl) ?_
                  exact G_sub [1, 2, 3, 4, 5, 6, 0] rfl h
                · replace h := h.2 c
                  refine G_bipush (n := (-11)) rfl (ck dc120 (i := 31) rfl) ?_
                  exact H_iretI mf120 (ck dc120 (i := 32) rfl) rfl h
              · replace h := h.2 c
                refine G_bipush (n := (-2)) rfl (ck dc120 (i := 24) rfl) ?_
                exact H_iretI mf120 (ck dc120 (i := 25) rfl) rfl h
      · replace h := h.2 c
        refine G_iconst (ck dc120 (i := 10) rfl) ?_
        exact H_iretI mf120 (ck dc120 (i := 11) rfl) rfl h
theorem g_x_rescue_72 (K : Nat) (l1 l2 l3 l4 l5 l6 : Int) (M : PM) (Q : Option PV → PM → Prop)
    (h : R32 l6 ∧ (5 ≤ l6 → G none (K + 1) jClearingWaves_rescue 95 [(0, .inr (.inr 0)), (1, .inl l1), (2, .inl l2), (3, .inl l3), (4, .inl l4), (5, .inl l5), (6, .inl 0)] [] P0 P0 M Q) ∧ (¬ 5 ≤ l6 → (0 ≤ l6 ∧ l6 < 5) ∧ G none (K + 1) jClearingWaves_rescue 72 [(0, .inr (.inr 0)), (1, .inl l1), (2, .inl l2), (3, .inl l3), (4, .inl l4), (5, .inl l5), (6, .inl (l6 + 1))] [] P0 P0 (mset M 10 l6 0) Q)) : G none (K + 1) jClearingWaves_rescue 72 [(0, .inr (.inr 0)), (1, .inl l1), (2, .inl l2), (3, .inl l3), (4, .inl l4), (5, .inl l5), (6, .inl l6)] [] P0 P0 M Q := by
  refine G_iload 6 rfl (ck dc120 (i := 37) rfl) ?_
  refine G_iconst (ck dc120 (i := 38) rfl) ?_
  obtain ⟨o1, h⟩ := h
  refine G_icmp_ge (tgt := 92) (by decide) o1 (by decide) (ck dc120 (i := 39) rfl) (fun c => ?_) (fun c => ?_)
  · replace h := h.1 c
    refine G_iconst (ck dc120 (i := 47) rfl) ?_
    refine G_istore (mfx.lt mf120 (Nat.le_of_ble_eq_true rfl)) rfl (ck dc120 (i := 48) rfl) ?_
    exact G_sub [1, 2, 3, 4, 5, 6, 0] rfl h
  · replace h := h.2 c
    refine G_aload_n 0 rfl rfl (ck dc120 (i := 40) rfl) ?_
    refine H_getR mf120 (ck dc120 (i := 41) rfl) fw_ClearingWaves_25 fc10_4 ly0 ra0 rf0_4 (by decide) ?_
    refine G_iload 6 rfl (ck dc120 (i := 42) rfl) ?_
    refine G_iconst (ck dc120 (i := 43) rfl) ?_
    obtain ⟨o2, h⟩ := h
    refine G_iast (ck dc120 (i := 44) rfl) ra10 ly10 (by decide) o2 ?_
    refine G_iinc 6 rfl (mfx.lt mf120 (Nat.le_of_ble_eq_true rfl)) rfl (ck dc120 (i := 45) rfl) ?_
    refine G_goto (tgt := 72) (by decide) (ck dc120 (i := 46) rfl) ?_
    exact G_sub [1, 2, 3, 4, 5, 6, 0] rfl h
theorem g_x_rescue_95 (K : Nat) (l1 l2 l3 l4 l5 l6 : Int) (M : PM) (Q : Option PV → PM → Prop)
    (h : R32 l6 ∧ R32 l4 ∧ (l4 ≤ l6 → G none (K + 1) jClearingWaves_rescue 145 [(0, .inr (.inr 0)), (1, .inl l1), (2, .inl l2), (6, .inl 1), (7, .inl 0)] [] P0 P0 M Q) ∧ (¬ l4 ≤ l6 → Call K jClearingWaves_mostSaved [.inr (.inr 0), .inl l3, .inl l5] P0 P0 M (retI fun r3 M4 => (0 ≤ r3 ∧ r3 < 5) ∧ G none (K + 1) jClearingWaves_rescue 95 [(0, .inr (.inr 0)), (1, .inl l1), (2, .inl l2), (3, .inl l3), (4, .inl l4), (5, .inl l5), (6, .inl (l6 + 1))] [] P0 P0 (mset (mset M4 10 r3 ((M4 10 r3) + l3)) 9 r3 ((M4 9 r3) + l3)) Q))) : G none (K + 1) jClearingWaves_rescue 95 [(0, .inr (.inr 0)), (1, .inl l1), (2, .inl l2), (3, .inl l3), (4, .inl l4), (5, .inl l5), (6, .inl l6)] [] P0 P0 M Q := by
  refine G_iload 6 rfl (ck dc120 (i := 49) rfl) ?_
  refine G_iload 4 rfl (ck dc120 (i := 50) rfl) ?_
  obtain ⟨o1, h⟩ := h
  obtain ⟨o2, h⟩ := h
  refine G_icmp_ge (tgt := 139) (by decide) o1 o2 (ck dc120 (i := 51) rfl) (fun c => ?_) (fun c => ?_)
  · replace h := h.1 c
    refine G_iconst (ck dc120 (i := 75) rfl) ?_
    refine G_istore (mfx.lt mf120 (Nat.le_of_ble_eq_true rfl)) rfl (ck dc120 (i := 76) rfl) ?_
    refine G_iconst (ck dc120 (i := 77) rfl) ?_
    refine G_istore (mfx.lt mf120 (Nat.le_of_ble_eq_true rfl)) rfl (ck dc120 (i := 78) rfl) ?_
    exact G_sub [2, 3, 4, 1, 0] rfl h
  · replace h := h.2 c
    refine G_aload_n 0 rfl rfl (ck dc120 (i := 52) rfl) ?_
    refine G_iload_n 3 rfl rfl (ck dc120 (i := 53) rfl) ?_
    refine G_iload 5 rfl (ck dc120 (i := 54) rfl) ?_
    refine H_vI mf120 (As := [.inl l3, .inl l5]) (st := []) (ck dc120 (i := 55) rfl) lk_ClearingWaves_243 rfl rfl (Nat.le_of_ble_eq_true rfl) ly0 ra0 ⟨Nat.le_refl _, Nat.le_refl _⟩ h (fun r3 M4 h => ?_)
    refine G_istore (mfx.lt mf120 (Nat.le_of_ble_eq_true rfl)) rfl (ck dc120 (i := 56) rfl) ?_
    refine G_aload_n 1 rfl rfl (ck dc120 (i := 57) rfl) ?_
    refine H_getR mf120 (ck dc120 (i := 58) rfl) fw_ClearingWaves_25 fc10_4 ly0 ra0 rf0_4 (by decide) ?_
    refine G_iload 0 rfl (ck dc120 (i := 59) rfl) ?_
    refine G_dup2 rfl rfl (ck dc120 (i := 60) rfl) ?_
    obtain ⟨o5, h⟩ := h
    refine H_iald (ck dc120 (i := 61) rfl) ly10 (by decide) ra10 o5 (x := (M4 10 r3)) rfl ?_
    refine G_iload_n 4 rfl rfl (ck dc120 (i := 62) rfl) ?_
    refine G_iadd (ck dc120 (i := 63) rfl) ?_
    refine G_iast (ck dc120 (i := 64) rfl) ra10 ly10 (by decide) o5 ?_
    refine G_aload_n 1 rfl rfl (ck dc120 (i := 65) rfl) ?_
    refine H_getR mf120 (ck dc120 (i := 66) rfl) fw_ClearingWaves_21 fc10_3 ly0 ra0 rf0_3 (by decide) ?_
    refine G_iload 0 rfl (ck dc120 (i := 67) rfl) ?_
    refine G_dup2 rfl rfl (ck dc120 (i := 68) rfl) ?_
    refine H_iald (ck dc120 (i := 69) rfl) ly9 (by decide) ra9 o5 (x := (M4 9 r3)) (by simp [mset, mcpy, mclr]) ?_
    refine G_iload_n 4 rfl rfl (ck dc120 (i := 70) rfl) ?_
    refine G_iadd (ck dc120 (i := 71) rfl) ?_
    refine G_iast (ck dc120 (i := 72) rfl) ra9 ly9 (by decide) o5 ?_
    refine G_iinc 7 rfl (mfx.lt mf120 (Nat.le_of_ble_eq_true rfl)) rfl (ck dc120 (i := 73) rfl) ?_
    refine G_goto (tgt := 95) (by decide) (ck dc120 (i := 74) rfl) ?_
    exact G_sub [2, 3, 4, 5, 6, 7, 0] rfl h
theorem g_x_rescue_145 (K : Nat) (l1 l2 l6 l7 : Int) (M : PM) (Q : Option PV → PM → Prop)
    (h : R32 l7 ∧ R32 (M 1 0) ∧ ((M 1 0) ≤ l7 → R32 l6 ∧ (¬ l6 = 0 → Call K jClearing_run [.inr (.inr 24)] P0 P0 M (retV fun M5 => Q (some (.inl (M5 24 1))) M5)) ∧ (l6 = 0 → Q (some (.inl (-13))) M)) ∧ (¬ (M 1 0) ≤ l7 → (0 ≤ l7 ∧ l7 < 5) ∧ R32 (M 10 l7) ∧ Call K jRows_layAt [.inr (.inr 49), .inl l1, .inl l2, .inl l7, .inr (.inl (M 10 l7))] P0 P0 M (retI fun r8 M9 => R32 r8 ∧ (r8 = 0 → G none (K + 1) jClearingWaves_rescue 145 [(0, .inr (.inr 0)), (1, .inl l1), (2, .inl l2), (6, .inl 0), (7, .inl (l7 + 1))] [] P0 P0 M9 Q) ∧ (¬ r8 = 0 → R32 l6 ∧ (l6 = 0 → G none (K + 1) jClearingWaves_rescue 145 [(0, .inr (.inr 0)), (1, .inl l1), (2, .inl l2), (6, .inl 0), (7, .inl (l7 + 1))] [] P0 P0 M9 Q) ∧ (¬ l6 = 0 → G none (K + 1) jClearingWaves_rescue 145 [(0, .inr (.inr 0)), (1, .inl l1), (2, .inl l2), (6, .inl 1), (7, .inl (l7 + 1))] [] P0 P0 M9 Q))))) : G none (K + 1) jClearingWaves_rescue 145 [(0, .inr (.inr 0)), (1, .inl l1), (2, .inl l2), (6, .inl l6), (7, .inl l7)] [] P0 P0 M Q := by
  refine G_iload 4 rfl (ck dc120 (i := 79) rfl) ?_
  refine G_aload_n 0 rfl rfl (ck dc120 (i := 80) rfl) ?_
  refine H_getR mf120 (ck dc120 (i := 81) rfl) fw_ClearingWaves_12 fc10_0 ly0 ra0 rf0_0 (by decide) ?_
  refine H_getI mf120 (ck dc120 (i := 82) rfl) fw_ClearingWaves_207 (Or.inl fc0_0) ly1 ra1 (x := (M 1 0)) rfl ?_
  obtain ⟨o1, h⟩ := h
  obtain ⟨o2, h⟩ := h
  refine G_icmp_ge (tgt := 197) (by decide) o1 o2 (ck dc120 (i := 83) rfl) (fun c => ?_) (fun c => ?_)
  · replace h := h.1 c
    refine G_iload 3 rfl (ck dc120 (i := 104) rfl) ?_
    obtain ⟨o3, h⟩ := h
    refine G_if_ne (tgt := 205) (by decide) o3 (ck dc120 (i := 105) rfl) (fun c => ?_) (fun c => ?_)
    · replace h := h.1 c
      refine G_aload_n 0 rfl rfl (ck dc120 (i := 108) rfl) ?_
      refine H_getR mf120 (ck dc120 (i := 109) rfl) fw_ClearingWaves_40 fc10_6 ly0 ra0 rf0_6 (by decide) ?_
      refine H_vV mf120 (As := []) (st := []) (ck dc120 (i := 110) rfl) lk_ClearingWaves_264 rfl rfl (Nat.le_of_ble_eq_true rfl) ly24 ra24 ⟨Nat.le_refl _, Nat.le_refl _⟩ h (fun M5 h => ?_)
      refine G_aload_n 0 rfl rfl (ck dc120 (i := 111) rfl) ?_
      refine H_getR mf120 (ck dc120 (i := 112) rfl) fw_ClearingWaves_40 fc10_6 ly0 ra0 rf0_6 (by decide) ?_
      refine H_getI mf120 (ck dc120 (i := 113) rfl) fw_ClearingWaves_155 (Or.inl fc1_1) ly24 ra24 (x := (M5 24 1)) rfl ?_
      exact H_iretI mf120 (ck dc120 (i := 114) rfl) rfl h
    · replace h := h.2 c
      refine G_bipush (n := (-13)) rfl (ck dc120 (i := 106) rfl) ?_
      exact H_iretI mf120 (ck dc120 (i := 107) rfl) rfl h
  · replace h := h.2 c
    refine G_aload_n 0 rfl rfl (ck dc120 (i := 84) rfl) ?_
    refine H_getR mf120 (ck dc120 (i := 85) rfl) fw_ClearingWaves_90 fc10_15 ly0 ra0 rf0_15 (by decide) ?_
    refine G_iload_n 1 rfl rfl (ck dc120 (i := 86) rfl) ?_
    refine G_iload_n 2 rfl rfl (ck dc120 (i := 87) rfl) ?_
    refine G_iload 4 rfl (ck dc120 (i := 88) rfl) ?_
    refine G_aload_n 0 rfl rfl (ck dc120 (i := 89) rfl) ?_
    refine H_getR mf120 (ck dc120 (i := 90) rfl) fw_ClearingWaves_25 fc10_4 ly0 ra0 rf0_4 (by decide) ?_
    refine G_iload 4 rfl (ck dc120 (i := 91) rfl) ?_
    obtain ⟨o6, h⟩ := h
    refine H_iald (ck dc120 (i := 92) rfl) ly10 (by decide) ra10 o6 (x := (M 10 l7)) rfl ?_
    obtain ⟨o7, h⟩ := h
    refine G_i2l o7 (ck dc120 (i := 93) rfl) ?_
    refine H_vZ mf120 (As := [.inl l1, .inl l2, .inl l7, .inr (.inl (M 10 l7))]) (st := []) (ck dc120 (i := 94) rfl) lk_ClearingWaves_260 rfl rfl (Nat.le_of_ble_eq_true rfl) ly49 ra49 ⟨Nat.le_refl _, Nat.le_refl _⟩ h (fun r8 M9 h => ?_)
    obtain ⟨o10, h⟩ := h
    refine G_if_eq (tgt := 188) (by decide) o10 (ck dc120 (i := 95) rfl) (fun c => ?_) (fun c => ?_)
    · replace h := h.1 c
      refine G_iconst (ck dc120 (i := 100) rfl) ?_
      refine G_istore (mfx.lt mf120 (Nat.le_of_ble_eq_true rfl)) rfl (ck dc120 (i := 101) rfl) ?_
      refine G_iinc 4 rfl (mfx.lt mf120 (Nat.le_of_ble_eq_true rfl)) rfl (ck dc120 (i := 102) rfl) ?_
      refine G_goto (tgt := 145) (by decide) (ck dc120 (i := 103) rfl) ?_
      exact G_sub [2, 3, 4, 1, 0] rfl h
    · replace h := h.2 c
      refine G_iload 3 rfl (ck dc120 (i := 96) rfl) ?_
      obtain ⟨o11, h⟩ := h
      refine G_if_eq (tgt := 188) (by decide) o11 (ck dc120 (i := 97) rfl) (fun c => ?_) (fun c => ?_)
      · replace h := h.1 c
        refine G_iconst (ck dc120 (i := 100) rfl) ?_
        refine G_istore (mfx.lt mf120 (Nat.le_of_ble_eq_true rfl)) rfl (ck dc120 (i := 101) rfl) ?_
        refine G_iinc 4 rfl (mfx.lt mf120 (Nat.le_of_ble_eq_true rfl)) rfl (ck dc120 (i := 102) rfl) ?_
        refine G_goto (tgt := 145) (by decide) (ck dc120 (i := 103) rfl) ?_
        exact G_sub [2, 3, 4, 1, 0] rfl h
      · replace h := h.2 c
        refine G_iconst (ck dc120 (i := 98) rfl) ?_
        refine G_goto (tgt := 189) (by decide) (ck dc120 (i := 99) rfl) ?_
        refine G_istore (mfx.lt mf120 (Nat.le_of_ble_eq_true rfl)) rfl (ck dc120 (i := 101) rfl) ?_
        refine G_iinc 4 rfl (mfx.lt mf120 (Nat.le_of_ble_eq_true rfl)) rfl (ck dc120 (i := 102) rfl) ?_
        refine G_goto (tgt := 145) (by decide) (ck dc120 (i := 103) rfl) ?_
        exact G_sub [2, 3, 4, 1, 0] rfl h
theorem c_x_ring (K : Nat) (a1 a2 : Int) (M : PM) (Q : Option PV → PM → Prop)
    (h : Call K jBook_hasClass [.inr (.inr 1), .inl a1] P0 P0 M (retI fun r1 M2 => R32 r1 ∧ (r1 = 0 → Q (some (.inl (-1))) M2) ∧ (¬ r1 = 0 → R32 a2 ∧ (a2 < 0 → Q (some (.inl (-1))) M2) ∧ (¬ a2 < 0 → (a2 < 5 → Call K jRings_find [.inr (.inr 40), .inl a1] P0 P0 M2 (retI fun r5 M6 => R32 r5 ∧ (r5 ≤ a2 → Q (some (.inl (-5))) M6) ∧ (¬ r5 ≤ a2 → (0 ≤ a2 ∧ a2 < 5) ∧ Q (some (.inl (M6 41 a2))) M6))) ∧ (¬ a2 < 5 → Q (some (.inl (-1))) M2))))) : Call (K + 1) jClearingWaves_ring [.inr (.inr 0), .inl a1, .inl a2] P0 P0 M Q := by
  refine Call.intro (by decide +kernel) (mfx.le mf125 (Nat.le_of_ble_eq_true rfl)) (Nat.le_refl _) rfl ?_
  refine G_aload_n 0 rfl rfl (ck dc125 (i := 0) rfl) ?_
  refine H_getR mf125 (ck dc125 (i := 1) rfl) fw_ClearingWaves_12 fc10_0 ly0 ra0 rf0_0 (by decide) ?_
  refine G_iload_n 1 rfl rfl (ck dc125 (i := 2) rfl) ?_
  refine H_vZ mf125 (As := [.inl a1]) (st := []) (ck dc125 (i := 3) rfl) lk_ClearingWaves_267 rfl rfl (Nat.le_of_ble_eq_true rfl) ly1 ra1 ⟨Nat.le_refl _, Nat.le_refl _⟩ h (fun r1 M2 h => ?_)
  obtain ⟨o3, h⟩ := h
  refine G_if_eq (tgt := 20) (by decide) o3 (ck dc125 (i := 4) rfl) (fun c => ?_) (fun c => ?_)
  · replace h := h.1 c
    refine G_iconst (ck dc125 (i := 10) rfl) ?_
    exact H_iretI mf125 (ck dc125 (i := 11) rfl) rfl h
  · replace h := h.2 c
    refine G_iload_n 2 rfl rfl (ck dc125 (i := 5) rfl) ?_
    obtain ⟨o4, h⟩ := h
    refine G_if_lt (tgt := 20) (by decide) o4 (ck dc125 (i := 6) rfl) (fun c => ?_) (fun c => ?_)
    · replace h := h.1 c
      refine G_iconst (ck dc125 (i := 10) rfl) ?_
      exact H_iretI mf125 (ck dc125 (i := 11) rfl) rfl h
    · replace h := h.2 c
      refine G_iload_n 2 rfl rfl (ck dc125 (i := 7) rfl) ?_
      refine G_iconst (ck dc125 (i := 8) rfl) ?_
      refine G_icmp_lt (tgt := 22) (by decide) o4 (by decide) (ck dc125 (i := 9) rfl) (fun c => ?_) (fun c => ?_)
      · replace h := h.1 c
        refine G_iload_n 2 rfl rfl (ck dc125 (i := 12) rfl) ?_
        refine G_aload_n 0 rfl rfl (ck dc125 (i := 13) rfl) ?_
        refine H_getR mf125 (ck dc125 (i := 14) rfl) fw_ClearingWaves_55 fc10_10 ly0 ra0 rf0_10 (by decide) ?_
        refine G_iload_n 1 rfl rfl (ck dc125 (i := 15) rfl) ?_
        refine H_vI mf125 (As := [.inl a1]) (st := [.inl a2]) (ck dc125 (i := 16) rfl) lk_ClearingWaves_270 rfl rfl (Nat.le_of_ble_eq_true rfl) ly40 ra40 ⟨Nat.le_refl _, Nat.le_refl _⟩ h (fun r5 M6 h => ?_)
        obtain ⟨o7, h⟩ := h
        refine G_icmp_ge (tgt := 46) (by decide) o4 o7 (ck dc125 (i := 17) rfl) (fun c => ?_) (fun c => ?_)
        · replace h := h.1 c
          refine G_bipush (n := (-5)) rfl (ck dc125 (i := 24) rfl) ?_
          exact H_iretI mf125 (ck dc125 (i := 25) rfl) rfl h
        · replace h := h.2 c
          refine G_aload_n 0 rfl rfl (ck dc125 (i := 18) rfl) ?_
          refine H_getR mf125 (ck dc125 (i := 19) rfl) fw_ClearingWaves_55 fc10_10 ly0 ra0 rf0_10 (by decide) ?_
          refine H_getR mf125 (ck dc125 (i := 20) rfl) fw_ClearingWaves_273 fc5_0 ly40 ra40 rf40_0 (by decide) ?_
          refine G_iload_n 2 rfl rfl (ck dc125 (i := 21) rfl) ?_
          obtain ⟨o8, h⟩ := h
          refine H_iald (ck dc125 (i := 22) rfl) ly41 (by decide) ra41 o8 (x := (M6 41 a2)) rfl ?_
          refine G_goto (tgt := 48) (by decide) (ck dc125 (i := 23) rfl) ?_
          exact H_iretI mf125 (ck dc125 (i := 25) rfl) rfl h
      · replace h := h.2 c
        refine G_iconst (ck dc125 (i := 10) rfl) ?_
        exact H_iretI mf125 (ck dc125 (i := 11) rfl) rfl h
theorem c_x_net (K : Nat) (a1 : Int) (M : PM) (Q : Option PV → PM → Prop)
    (h : Call K jBook_hasClass [.inr (.inr 1), .inl a1] P0 P0 M (retI fun r1 M2 => R32 r1 ∧ (¬ r1 = 0 → G none (K + 1) jClearingWaves_net 17 [(0, .inr (.inr 0)), (1, .inl a1), (2, .inl 0), (3, .inl 0)] [] P0 P0 M2 Q) ∧ (r1 = 0 → Q (some (.inl (-1))) M2))) : Call (K + 1) jClearingWaves_net [.inr (.inr 0), .inl a1] P0 P0 M Q := by
  refine Call.intro (by decide +kernel) (mfx.le mf129 (Nat.le_of_ble_eq_true rfl)) (Nat.le_refl _) rfl ?_
  refine G_aload_n 0 rfl rfl (ck dc129 (i := 0) rfl) ?_
  refine H_getR mf129 (ck dc129 (i := 1) rfl) fw_ClearingWaves_12 fc10_0 ly0 ra0 rf0_0 (by decide) ?_
  refine G_iload_n 1 rfl rfl (ck dc129 (i := 2) rfl) ?_
  refine H_vZ mf129 (As := [.inl a1]) (st := []) (ck dc129 (i := 3) rfl) lk_ClearingWaves_267 rfl rfl (Nat.le_of_ble_eq_true rfl) ly1 ra1 ⟨Nat.le_refl _, Nat.le_refl _⟩ h (fun r1 M2 h => ?_)
  obtain ⟨o3, h⟩ := h
  refine G_if_ne (tgt := 13) (by decide) o3 (ck dc129 (i := 4) rfl) (fun c => ?_) (fun c => ?_)
  · replace h := h.1 c
    refine G_iconst (ck dc129 (i := 7) rfl) ?_
    refine G_istore_n rfl (mfx.lt mf129 (Nat.le_of_ble_eq_true rfl)) rfl (ck dc129 (i := 8) rfl) ?_
    refine G_iconst (ck dc129 (i := 9) rfl) ?_
    refine G_istore_n rfl (mfx.lt mf129 (Nat.le_of_ble_eq_true rfl)) rfl (ck dc129 (i := 10) rfl) ?_
    exact G_sub [2, 3, 1, 0] rfl h
  · replace h := h.2 c
    refine G_iconst (ck dc129 (i := 5) rfl) ?_
    exact H_iretI mf129 (ck dc129 (i := 6) rfl) rfl h
theorem g_x_net_17 (K : Nat) (l1 l2 l3 : Int) (M : PM) (Q : Option PV → PM → Prop)
    (h : R32 l3 ∧ (25 ≤ l3 → Call K jClearingWaves_noteChange [.inr (.inr 0)] P0 P0 M (retV fun M3 => Q (some (.inl l2)) M3)) ∧ (¬ 25 ≤ l3 → Call K jRings_takeOff [.inr (.inr 40), .inl l1] P0 P0 M (retI fun r4 M5 => R32 r4 ∧ (¬ r4 = 0 → G none (K + 1) jClearingWaves_net 17 [(0, .inr (.inr 0)), (1, .inl l1), (2, .inl (l2 + r4)), (3, .inl (l3 + 1))] [] P0 P0 M5 Q) ∧ (r4 = 0 → Call K jClearingWaves_noteChange [.inr (.inr 0)] P0 P0 M5 (retV fun M8 => Q (some (.inl l2)) M8))))) : G none (K + 1) jClearingWaves_net 17 [(0, .inr (.inr 0)), (1, .inl l1), (2, .inl l2), (3, .inl l3)] [] P0 P0 M Q := by
  refine G_iload_n 3 rfl rfl (ck dc129 (i := 11) rfl) ?_
  refine G_bipush (n := 25) rfl (ck dc129 (i := 12) rfl) ?_
  obtain ⟨o1, h⟩ := h
  refine G_icmp_ge (tgt := 52) (by decide) o1 (by decide) (ck dc129 (i := 13) rfl) (fun c => ?_) (fun c => ?_)
  · replace h := h.1 c
    refine G_aload_n 0 rfl rfl (ck dc129 (i := 28) rfl) ?_
    refine H_vV mf129 (As := []) (st := []) (ck dc129 (i := 29) rfl) lk_ClearingWaves_105 rfl rfl (Nat.le_of_ble_eq_true rfl) ly0 ra0 ⟨Nat.le_refl _, Nat.le_refl _⟩ h (fun M3 h => ?_)
    refine G_iload_n 2 rfl rfl (ck dc129 (i := 30) rfl) ?_
    exact H_iretI mf129 (ck dc129 (i := 31) rfl) rfl h
  · replace h := h.2 c
    refine G_aload_n 0 rfl rfl (ck dc129 (i := 14) rfl) ?_
    refine H_getR mf129 (ck dc129 (i := 15) rfl) fw_ClearingWaves_55 fc10_10 ly0 ra0 rf0_10 (by decide) ?_
    refine G_iload_n 1 rfl rfl (ck dc129 (i := 16) rfl) ?_
    refine H_vI mf129 (As := [.inl l1]) (st := []) (ck dc129 (i := 17) rfl) lk_ClearingWaves_276 rfl rfl (Nat.le_of_ble_eq_true rfl) ly40 ra40 ⟨Nat.le_refl _, Nat.le_refl _⟩ h (fun r4 M5 h => ?_)
    refine G_istore (mfx.lt mf129 (Nat.le_of_ble_eq_true rfl)) rfl (ck dc129 (i := 18) rfl) ?_
    refine G_iload 0 rfl (ck dc129 (i := 19) rfl) ?_
    obtain ⟨o6, h⟩ := h
    refine G_if_ne (tgt := 41) (by decide) o6 (ck dc129 (i := 20) rfl) (fun c => ?_) (fun c => ?_)
    · replace h := h.1 c
      refine G_iload_n 3 rfl rfl (ck dc129 (i := 22) rfl) ?_
      refine G_iload 0 rfl (ck dc129 (i := 23) rfl) ?_
      refine G_iadd (ck dc129 (i := 24) rfl) ?_
      refine G_istore_n rfl (mfx.lt mf129 (Nat.le_of_ble_eq_true rfl)) rfl (ck dc129 (i := 25) rfl) ?_
      refine G_iinc 4 rfl (mfx.lt mf129 (Nat.le_of_ble_eq_true rfl)) rfl (ck dc129 (i := 26) rfl) ?_
      refine G_goto (tgt := 17) (by decide) (ck dc129 (i := 27) rfl) ?_
      exact G_sub [3, 4, 1, 0] rfl h
    · replace h := h.2 c
      refine G_goto (tgt := 52) (by decide) (ck dc129 (i := 21) rfl) ?_
      refine G_aload_n 1 rfl rfl (ck dc129 (i := 28) rfl) ?_
      refine H_vV mf129 (As := []) (st := []) (ck dc129 (i := 29) rfl) lk_ClearingWaves_105 rfl rfl (Nat.le_of_ble_eq_true rfl) ly0 ra0 ⟨Nat.le_refl _, Nat.le_refl _⟩ h (fun M8 h => ?_)
      refine G_iload_n 3 rfl rfl (ck dc129 (i := 30) rfl) ?_
      exact H_iretI mf129 (ck dc129 (i := 31) rfl) rfl h
theorem c_x_units (K : Nat) (a1 a2 a3 a4 : Int) (M : PM) (Q : Option PV → PM → Prop)
    (h : R32 a1 ∧ (a1 < 0 → Q (some (.inr (.inl (-1)))) M) ∧ (¬ a1 < 0 → (3 ≤ a1 → Q (some (.inr (.inl (-1)))) M) ∧ (¬ 3 ≤ a1 → Call K jBook_hasPart [.inr (.inr 1), .inl a2, .inl a3] P0 P0 M (retI fun r2 M3 => R32 r2 ∧ (¬ r2 = 0 → R64 a4 ∧ (a4 < 0 → Q (some (.inr (.inl (-2)))) M3) ∧ (¬ a4 < 0 → (a4 ≤ 1000000000000 → Call K jBook_unitPlace [.inl a1, .inl a2, .inl a3] P0 P0 M3 (retI fun r6 M7 => (0 ≤ r6 ∧ r6 < 45) ∧ Q (some (.inr (.inl (M7 4 r6)))) (mset M7 4 r6 a4))) ∧ (¬ a4 ≤ 1000000000000 → Q (some (.inr (.inl (-2)))) M3))) ∧ (r2 = 0 → Q (some (.inr (.inl (-1)))) M3))))) : Call (K + 1) jClearingWaves_units [.inr (.inr 0), .inl a1, .inl a2, .inl a3, .inr (.inl a4)] P0 P0 M Q := by
  refine Call.intro (by decide +kernel) (mfx.le mf132 (Nat.le_of_ble_eq_true rfl)) (Nat.le_refl _) rfl ?_
  refine G_iload_n 1 rfl rfl (ck dc132 (i := 0) rfl) ?_
  obtain ⟨o1, h⟩ := h
  refine G_if_lt (tgt := 21) (by decide) o1 (ck dc132 (i := 1) rfl) (fun c => ?_) (fun c => ?_)
  · replace h := h.1 c
    refine H_ldc2 mf132 (v := (-1)) (ck dc132 (i := 11) rfl) kl_ClearingWaves_279 ?_
    exact H_lret mf132 (ck dc132 (i := 12) rfl) rfl h
  · replace h := h.2 c
    refine G_iload_n 1 rfl rfl (ck dc132 (i := 2) rfl) ?_
    refine G_iconst (ck dc132 (i := 3) rfl) ?_
    refine G_icmp_ge (tgt := 21) (by decide) o1 (by decide) (ck dc132 (i := 4) rfl) (fun c => ?_) (fun c => ?_)
    · replace h := h.1 c
      refine H_ldc2 mf132 (v := (-1)) (ck dc132 (i := 11) rfl) kl_ClearingWaves_279 ?_
      exact H_lret mf132 (ck dc132 (i := 12) rfl) rfl h
    · replace h := h.2 c
      refine G_aload_n 0 rfl rfl (ck dc132 (i := 5) rfl) ?_
      refine H_getR mf132 (ck dc132 (i := 6) rfl) fw_ClearingWaves_12 fc10_0 ly0 ra0 rf0_0 (by decide) ?_
      refine G_iload_n 2 rfl rfl (ck dc132 (i := 7) rfl) ?_
      refine G_iload_n 3 rfl rfl (ck dc132 (i := 8) rfl) ?_
      refine H_vZ mf132 (As := [.inl a2, .inl a3]) (st := []) (ck dc132 (i := 9) rfl) lk_ClearingWaves_165 rfl rfl (Nat.le_of_ble_eq_true rfl) ly1 ra1 ⟨Nat.le_refl _, Nat.le_refl _⟩ h (fun r2 M3 h => ?_)
      obtain ⟨o4, h⟩ := h
      refine G_if_ne (tgt := 25) (by decide) o4 (ck dc132 (i := 10) rfl) (fun c => ?_) (fun c => ?_)
      · replace h := h.1 c
        refine G_lload 4 rfl (ck dc132 (i := 13) rfl) ?_
        refine G_lconst (v := 0) rfl (ck dc132 (i := 14) rfl) ?_
        obtain ⟨o5, h⟩ := h
        refine G_lif_lt (tgt := 41) (ck dc132 (i := 16) rfl) (by decide) o5 (by decide) (ck dc132 (i := 15) rfl) (fun c => ?_) (fun c => ?_)
        · replace h := h.1 c
          refine H_ldc2 mf132 (v := (-2)) (ck dc132 (i := 21) rfl) kl_ClearingWaves_283 ?_
          exact H_lret mf132 (ck dc132 (i := 22) rfl) rfl h
        · replace h := h.2 c
          refine G_lload 4 rfl (ck dc132 (i := 17) rfl) ?_
          refine H_ldc2 mf132 (v := 1000000000000) (ck dc132 (i := 18) rfl) kl_ClearingWaves_281 ?_
          refine G_lif_le (tgt := 45) (ck dc132 (i := 20) rfl) (by decide) o5 (by decide) (ck dc132 (i := 19) rfl) (fun c => ?_) (fun c => ?_)
          · replace h := h.1 c
            refine G_iload_n 1 rfl rfl (ck dc132 (i := 23) rfl) ?_
            refine G_iload_n 2 rfl rfl (ck dc132 (i := 24) rfl) ?_
            refine G_iload_n 3 rfl rfl (ck dc132 (i := 25) rfl) ?_
            refine H_sI mf132 (As := [.inl a1, .inl a2, .inl a3]) (st := []) (ck dc132 (i := 26) rfl) lk_ClearingWaves_285 rfl rfl (Nat.le_of_ble_eq_true rfl) ⟨Nat.le_refl _, Nat.le_refl _⟩ h (fun r6 M7 h => ?_)
            refine G_istore (mfx.lt mf132 (Nat.le_of_ble_eq_true rfl)) rfl (ck dc132 (i := 27) rfl) ?_
            refine G_aload_n 1 rfl rfl (ck dc132 (i := 28) rfl) ?_
            refine H_getR mf132 (ck dc132 (i := 29) rfl) fw_ClearingWaves_12 fc10_0 ly0 ra0 rf0_0 (by decide) ?_
            refine H_getR mf132 (ck dc132 (i := 30) rfl) fw_ClearingWaves_288 fc0_5 ly1 ra1 rf1_5 (by decide) ?_
            refine G_iload 0 rfl (ck dc132 (i := 31) rfl) ?_
            obtain ⟨o8, h⟩ := h
            refine H_lald (ck dc132 (i := 32) rfl) ly4 (by decide) ra4 o8 (x := (M7 4 r6)) rfl ?_
            refine G_lstore (mfx.lt mf132 (Nat.le_of_ble_eq_true rfl)) rfl (ck dc132 (i := 33) rfl) ?_
            refine G_aload_n 2 rfl rfl (ck dc132 (i := 34) rfl) ?_
            refine H_getR mf132 (ck dc132 (i := 35) rfl) fw_ClearingWaves_12 fc10_0 ly0 ra0 rf0_0 (by decide) ?_
            refine H_getR mf132 (ck dc132 (i := 36) rfl) fw_ClearingWaves_288 fc0_5 ly1 ra1 rf1_5 (by decide) ?_
            refine G_iload 1 rfl (ck dc132 (i := 37) rfl) ?_
            refine G_lload 6 rfl (ck dc132 (i := 38) rfl) ?_
            refine G_last (ck dc132 (i := 39) rfl) ra4 ly4 (by decide) o8 ?_
            refine G_lload 0 rfl (ck dc132 (i := 40) rfl) ?_
            exact H_lret mf132 (ck dc132 (i := 41) rfl) rfl h
          · replace h := h.2 c
            refine H_ldc2 mf132 (v := (-2)) (ck dc132 (i := 21) rfl) kl_ClearingWaves_283 ?_
            exact H_lret mf132 (ck dc132 (i := 22) rfl) rfl h
      · replace h := h.2 c
        refine H_ldc2 mf132 (v := (-1)) (ck dc132 (i := 11) rfl) kl_ClearingWaves_279 ?_
        exact H_lret mf132 (ck dc132 (i := 12) rfl) rfl h
theorem c_x_unitsOf (K : Nat) (a1 a2 a3 : Int) (M : PM) (Q : Option PV → PM → Prop)
    (h : R32 a1 ∧ (a1 < 0 → Q (some (.inr (.inl (-9223372036854775808)))) M) ∧ (¬ a1 < 0 → (3 ≤ a1 → Q (some (.inr (.inl (-9223372036854775808)))) M) ∧ (¬ 3 ≤ a1 → Call K jBook_hasPart [.inr (.inr 1), .inl a2, .inl a3] P0 P0 M (retI fun r2 M3 => R32 r2 ∧ (¬ r2 = 0 → Call K jBook_unitPlace [.inl a1, .inl a2, .inl a3] P0 P0 M3 (retI fun r5 M6 => (0 ≤ r5 ∧ r5 < 45) ∧ Q (some (.inr (.inl (M6 4 r5)))) M6)) ∧ (r2 = 0 → Q (some (.inr (.inl (-9223372036854775808)))) M3))))) : Call (K + 1) jClearingWaves_unitsOf [.inr (.inr 0), .inl a1, .inl a2, .inl a3] P0 P0 M Q := by
  refine Call.intro (by decide +kernel) (mfx.le mf134 (Nat.le_of_ble_eq_true rfl)) (Nat.le_refl _) rfl ?_
  refine G_iload_n 1 rfl rfl (ck dc134 (i := 0) rfl) ?_
  obtain ⟨o1, h⟩ := h
  refine G_if_lt (tgt := 21) (by decide) o1 (ck dc134 (i := 1) rfl) (fun c => ?_) (fun c => ?_)
  · replace h := h.1 c
    refine H_ldc2 mf134 (v := (-9223372036854775808)) (ck dc134 (i := 11) rfl) kl_ClearingWaves_169 ?_
    exact H_lret mf134 (ck dc134 (i := 12) rfl) rfl h
  · replace h := h.2 c
    refine G_iload_n 1 rfl rfl (ck dc134 (i := 2) rfl) ?_
    refine G_iconst (ck dc134 (i := 3) rfl) ?_
    refine G_icmp_ge (tgt := 21) (by decide) o1 (by decide) (ck dc134 (i := 4) rfl) (fun c => ?_) (fun c => ?_)
    · replace h := h.1 c
      refine H_ldc2 mf134 (v := (-9223372036854775808)) (ck dc134 (i := 11) rfl) kl_ClearingWaves_169 ?_
      exact H_lret mf134 (ck dc134 (i := 12) rfl) rfl h
    · replace h := h.2 c
      refine G_aload_n 0 rfl rfl (ck dc134 (i := 5) rfl) ?_
      refine H_getR mf134 (ck dc134 (i := 6) rfl) fw_ClearingWaves_12 fc10_0 ly0 ra0 rf0_0 (by decide) ?_
      refine G_iload_n 2 rfl rfl (ck dc134 (i := 7) rfl) ?_
      refine G_iload_n 3 rfl rfl (ck dc134 (i := 8) rfl) ?_
      refine H_vZ mf134 (As := [.inl a2, .inl a3]) (st := []) (ck dc134 (i := 9) rfl) lk_ClearingWaves_165 rfl rfl (Nat.le_of_ble_eq_true rfl) ly1 ra1 ⟨Nat.le_refl _, Nat.le_refl _⟩ h (fun r2 M3 h => ?_)
      obtain ⟨o4, h⟩ := h
      refine G_if_ne (tgt := 25) (by decide) o4 (ck dc134 (i := 10) rfl) (fun c => ?_) (fun c => ?_)
      · replace h := h.1 c
        refine G_aload_n 0 rfl rfl (ck dc134 (i := 13) rfl) ?_
        refine H_getR mf134 (ck dc134 (i := 14) rfl) fw_ClearingWaves_12 fc10_0 ly0 ra0 rf0_0 (by decide) ?_
        refine H_getR mf134 (ck dc134 (i := 15) rfl) fw_ClearingWaves_288 fc0_5 ly1 ra1 rf1_5 (by decide) ?_
        refine G_iload_n 1 rfl rfl (ck dc134 (i := 16) rfl) ?_
        refine G_iload_n 2 rfl rfl (ck dc134 (i := 17) rfl) ?_
        refine G_iload_n 3 rfl rfl (ck dc134 (i := 18) rfl) ?_
        refine H_sI mf134 (As := [.inl a1, .inl a2, .inl a3]) (st := [.inr (.inr 4)]) (ck dc134 (i := 19) rfl) lk_ClearingWaves_285 rfl rfl (Nat.le_of_ble_eq_true rfl) ⟨Nat.le_refl _, Nat.le_refl _⟩ h (fun r5 M6 h => ?_)
        obtain ⟨o7, h⟩ := h
        refine H_lald (ck dc134 (i := 20) rfl) ly4 (by decide) ra4 o7 (x := (M6 4 r5)) rfl ?_
        exact H_lret mf134 (ck dc134 (i := 21) rfl) rfl h
      · replace h := h.2 c
        refine H_ldc2 mf134 (v := (-9223372036854775808)) (ck dc134 (i := 11) rfl) kl_ClearingWaves_169 ?_
        exact H_lret mf134 (ck dc134 (i := 12) rfl) rfl h
theorem c_x_fund (K : Nat) (a1 a2 : Int) (M : PM) (Q : Option PV → PM → Prop)
    (h : R32 a1 ∧ (a1 < 0 → Q (some (.inr (.inl (-9223372036854775808)))) M) ∧ (¬ a1 < 0 → (3 ≤ a1 → Q (some (.inr (.inl (-9223372036854775808)))) M) ∧ (¬ 3 ≤ a1 → Call K jClearingWaves_cleared [.inr (.inr 0)] P0 P0 M (retR fun r2 M3 => r2 = 11 ∧ Call K jWorth_reckon [.inr (.inr 42), .inr (.inr 1), .inr (.inr 11), .inl a1] P0 P0 M3 (retI fun r4 M5 => R32 r4 ∧ (¬ r4 = 0 → Call K jRatio_tell [.inr (.inl (M5 42 0)), .inr (.inl (M5 42 1)), .inl a2] P0 P0 M5 (retL fun r7 M8 => Q (some (.inr (.inl r7))) M8)) ∧ (r4 = 0 → Q (some (.inr (.inl (-9223372036854775808)))) M5)))))) : Call (K + 1) jClearingWaves_fund [.inr (.inr 0), .inl a1, .inl a2] P0 P0 M Q := by
  refine Call.intro (by decide +kernel) (mfx.le mf135 (Nat.le_of_ble_eq_true rfl)) (Nat.le_refl _) rfl ?_
  refine G_iload_n 1 rfl rfl (ck dc135 (i := 0) rfl) ?_
  obtain ⟨o1, h⟩ := h
  refine G_if_lt (tgt := 28) (by decide) o1 (ck dc135 (i := 1) rfl) (fun c => ?_) (fun c => ?_)
  · replace h := h.1 c
    refine H_ldc2 mf135 (v := (-9223372036854775808)) (ck dc135 (i := 14) rfl) kl_ClearingWaves_169 ?_
    exact H_lret mf135 (ck dc135 (i := 15) rfl) rfl h
  · replace h := h.2 c
    refine G_iload_n 1 rfl rfl (ck dc135 (i := 2) rfl) ?_
    refine G_iconst (ck dc135 (i := 3) rfl) ?_
    refine G_icmp_ge (tgt := 28) (by decide) o1 (by decide) (ck dc135 (i := 4) rfl) (fun c => ?_) (fun c => ?_)
    · replace h := h.1 c
      refine H_ldc2 mf135 (v := (-9223372036854775808)) (ck dc135 (i := 14) rfl) kl_ClearingWaves_169 ?_
      exact H_lret mf135 (ck dc135 (i := 15) rfl) rfl h
    · replace h := h.2 c
      refine G_aload_n 0 rfl rfl (ck dc135 (i := 5) rfl) ?_
      refine H_getR mf135 (ck dc135 (i := 6) rfl) fw_ClearingWaves_62 fc10_11 ly0 ra0 rf0_11 (by decide) ?_
      refine G_aload_n 0 rfl rfl (ck dc135 (i := 7) rfl) ?_
      refine H_getR mf135 (ck dc135 (i := 8) rfl) fw_ClearingWaves_12 fc10_0 ly0 ra0 rf0_0 (by decide) ?_
      refine G_aload_n 0 rfl rfl (ck dc135 (i := 9) rfl) ?_
      refine H_vR mf135 (As := []) (st := [.inr (.inr 1), .inr (.inr 42)]) (ck dc135 (i := 10) rfl) lk_ClearingWaves_145 rfl rfl (Nat.le_of_ble_eq_true rfl) ly0 ra0 ⟨Nat.le_refl _, Nat.le_refl _⟩ h (fun r2 M3 h => ?_)
      obtain ⟨rfl, h⟩ := h
      refine G_iload_n 1 rfl rfl (ck dc135 (i := 11) rfl) ?_
      refine H_vZ mf135 (As := [.inr (.inr 1), .inr (.inr 11), .inl a1]) (st := []) (ck dc135 (i := 12) rfl) lk_ClearingWaves_292 rfl rfl (Nat.le_of_ble_eq_true rfl) ly42 ra42 ⟨Nat.le_refl _, Nat.le_refl _⟩ h (fun r4 M5 h => ?_)
      obtain ⟨o6, h⟩ := h
      refine G_if_ne (tgt := 32) (by decide) o6 (ck dc135 (i := 13) rfl) (fun c => ?_) (fun c => ?_)
      · replace h := h.1 c
        refine G_aload_n 0 rfl rfl (ck dc135 (i := 16) rfl) ?_
        refine H_getR mf135 (ck dc135 (i := 17) rfl) fw_ClearingWaves_62 fc10_11 ly0 ra0 rf0_11 (by decide) ?_
        refine H_getL mf135 (ck dc135 (i := 18) rfl) fw_ClearingWaves_296 fc9_0 ly42 ra42 (x := (M5 42 0)) rfl ?_
        refine G_aload_n 0 rfl rfl (ck dc135 (i := 19) rfl) ?_
        refine H_getR mf135 (ck dc135 (i := 20) rfl) fw_ClearingWaves_62 fc10_11 ly0 ra0 rf0_11 (by decide) ?_
        refine H_getL mf135 (ck dc135 (i := 21) rfl) fw_ClearingWaves_299 fc9_1 ly42 ra42 (x := (M5 42 1)) rfl ?_
        refine G_iload_n 2 rfl rfl (ck dc135 (i := 22) rfl) ?_
        refine H_sL mf135 (As := [.inr (.inl (M5 42 0)), .inr (.inl (M5 42 1)), .inl a2]) (st := []) (ck dc135 (i := 23) rfl) lk_ClearingWaves_179 rfl rfl (Nat.le_of_ble_eq_true rfl) ⟨Nat.le_refl _, Nat.le_refl _⟩ h (fun r7 M8 h => ?_)
        exact H_lret mf135 (ck dc135 (i := 24) rfl) rfl h
      · replace h := h.2 c
        refine H_ldc2 mf135 (v := (-9223372036854775808)) (ck dc135 (i := 14) rfl) kl_ClearingWaves_169 ?_
        exact H_lret mf135 (ck dc135 (i := 15) rfl) rfl h
theorem c_x_told (K : Nat) (a1 : Int) (M : PM) (Q : Option PV → PM → Prop)
    (h : R32 a1 ∧ (a1 < 0 → Q (some (.inl (-1))) M) ∧ (¬ a1 < 0 → (a1 < 3 → Call K jBook_hasUnits [.inr (.inr 1), .inl a1] P0 P0 M (retI fun r2 M3 => R32 r2 ∧ (¬ r2 = 0 → Call K jClearingWaves_cleared [.inr (.inr 0)] P0 P0 M3 (retR fun r5 M6 => r5 = 11 ∧ Call K jWorth_reckon [.inr (.inr 42), .inr (.inr 1), .inr (.inr 11), .inl a1] P0 P0 M6 (retI fun r7 M8 => R32 r7 ∧ (r7 = 0 → Q (some (.inl (-6))) M8) ∧ (¬ r7 = 0 → Q (some (.inl 1)) M8)))) ∧ (r2 = 0 → Q (some (.inl (-3))) M3))) ∧ (¬ a1 < 3 → Q (some (.inl (-1))) M))) : Call (K + 1) jClearingWaves_told [.inr (.inr 0), .inl a1] P0 P0 M Q := by
  refine Call.intro (by decide +kernel) (mfx.le mf140 (Nat.le_of_ble_eq_true rfl)) (Nat.le_refl _) rfl ?_
  refine G_iload_n 1 rfl rfl (ck dc140 (i := 0) rfl) ?_
  obtain ⟨o1, h⟩ := h
  refine G_if_lt (tgt := 9) (by decide) o1 (ck dc140 (i := 1) rfl) (fun c => ?_) (fun c => ?_)
  · replace h := h.1 c
    refine G_iconst (ck dc140 (i := 5) rfl) ?_
    exact H_iretI mf140 (ck dc140 (i := 6) rfl) rfl h
  · replace h := h.2 c
    refine G_iload_n 1 rfl rfl (ck dc140 (i := 2) rfl) ?_
    refine G_iconst (ck dc140 (i := 3) rfl) ?_
    refine G_icmp_lt (tgt := 11) (by decide) o1 (by decide) (ck dc140 (i := 4) rfl) (fun c => ?_) (fun c => ?_)
    · replace h := h.1 c
      refine G_aload_n 0 rfl rfl (ck dc140 (i := 7) rfl) ?_
      refine H_getR mf140 (ck dc140 (i := 8) rfl) fw_ClearingWaves_12 fc10_0 ly0 ra0 rf0_0 (by decide) ?_
      refine G_iload_n 1 rfl rfl (ck dc140 (i := 9) rfl) ?_
      refine H_vZ mf140 (As := [.inl a1]) (st := []) (ck dc140 (i := 10) rfl) lk_ClearingWaves_301 rfl rfl (Nat.le_of_ble_eq_true rfl) ly1 ra1 ⟨Nat.le_refl _, Nat.le_refl _⟩ h (fun r2 M3 h => ?_)
      obtain ⟨o4, h⟩ := h
      refine G_if_ne (tgt := 25) (by decide) o4 (ck dc140 (i := 11) rfl) (fun c => ?_) (fun c => ?_)
      · replace h := h.1 c
        refine G_aload_n 0 rfl rfl (ck dc140 (i := 14) rfl) ?_
        refine H_getR mf140 (ck dc140 (i := 15) rfl) fw_ClearingWaves_62 fc10_11 ly0 ra0 rf0_11 (by decide) ?_
        refine G_aload_n 0 rfl rfl (ck dc140 (i := 16) rfl) ?_
        refine H_getR mf140 (ck dc140 (i := 17) rfl) fw_ClearingWaves_12 fc10_0 ly0 ra0 rf0_0 (by decide) ?_
        refine G_aload_n 0 rfl rfl (ck dc140 (i := 18) rfl) ?_
        refine H_vR mf140 (As := []) (st := [.inr (.inr 1), .inr (.inr 42)]) (ck dc140 (i := 19) rfl) lk_ClearingWaves_145 rfl rfl (Nat.le_of_ble_eq_true rfl) ly0 ra0 ⟨Nat.le_refl _, Nat.le_refl _⟩ h (fun r5 M6 h => ?_)
        obtain ⟨rfl, h⟩ := h
        refine G_iload_n 1 rfl rfl (ck dc140 (i := 20) rfl) ?_
        refine H_vZ mf140 (As := [.inr (.inr 1), .inr (.inr 11), .inl a1]) (st := []) (ck dc140 (i := 21) rfl) lk_ClearingWaves_292 rfl rfl (Nat.le_of_ble_eq_true rfl) ly42 ra42 ⟨Nat.le_refl _, Nat.le_refl _⟩ h (fun r7 M8 h => ?_)
        obtain ⟨o9, h⟩ := h
        refine G_if_eq (tgt := 48) (by decide) o9 (ck dc140 (i := 22) rfl) (fun c => ?_) (fun c => ?_)
        · replace h := h.1 c
          refine G_bipush (n := (-6)) rfl (ck dc140 (i := 25) rfl) ?_
          exact H_iretI mf140 (ck dc140 (i := 26) rfl) rfl h
        · replace h := h.2 c
          refine G_iconst (ck dc140 (i := 23) rfl) ?_
          refine G_goto (tgt := 50) (by decide) (ck dc140 (i := 24) rfl) ?_
          exact H_iretI mf140 (ck dc140 (i := 26) rfl) rfl h
      · replace h := h.2 c
        refine G_bipush (n := (-3)) rfl (ck dc140 (i := 12) rfl) ?_
        exact H_iretI mf140 (ck dc140 (i := 13) rfl) rfl h
    · replace h := h.2 c
      refine G_iconst (ck dc140 (i := 5) rfl) ?_
      exact H_iretI mf140 (ck dc140 (i := 6) rfl) rfl h
theorem c_x_best (K : Nat) (M : PM) (Q : Option PV → PM → Prop)
    (h : G none (K + 1) jClearingWaves_best 11 [(0, .inr (.inr 0)), (1, .inl (-5)), (2, .inr (.inl 0)), (4, .inr (.inl 1)), (6, .inl 0)] [] P0 P0 M Q) : Call (K + 1) jClearingWaves_best [.inr (.inr 0)] P0 P0 M Q := by
  refine Call.intro (by decide +kernel) (mfx.le mf142 (Nat.le_of_ble_eq_true rfl)) (Nat.le_refl _) rfl ?_
  refine G_bipush (n := (-5)) rfl (ck dc142 (i := 0) rfl) ?_
  refine G_istore_n rfl (mfx.lt mf142 (Nat.le_of_ble_eq_true rfl)) rfl (ck dc142 (i := 1) rfl) ?_
  refine G_lconst (v := 0) rfl (ck dc142 (i := 2) rfl) ?_
  refine G_lstore_n rfl (mfx.lt mf142 (Nat.le_of_ble_eq_true rfl)) rfl (ck dc142 (i := 3) rfl) ?_
  refine G_lconst (v := 1) rfl (ck dc142 (i := 4) rfl) ?_
  refine G_lstore (mfx.lt mf142 (Nat.le_of_ble_eq_true rfl)) rfl (ck dc142 (i := 5) rfl) ?_
  refine G_iconst (ck dc142 (i := 6) rfl) ?_
  refine G_istore (mfx.lt mf142 (Nat.le_of_ble_eq_true rfl)) rfl (ck dc142 (i := 7) rfl) ?_
  exact G_sub [4, 3, 2, 1, 0] rfl h
theorem g_x_best_11 (K : Nat) (l1 l2 l4 l6 : Int) (M : PM) (Q : Option PV → PM → Prop)
    (h : R32 l6 ∧ (3 ≤ l6 → Q (some (.inl l1)) M) ∧ (¬ 3 ≤ l6 → Call K jBook_hasUnits [.inr (.inr 1), .inl l6] P0 P0 M (retI fun r2 M3 => R32 r2 ∧ (r2 = 0 → G none (K + 1) jClearingWaves_best 11 [(0, .inr (.inr 0)), (1, .inl l1), (2, .inr (.inl l2)), (4, .inr (.inl l4)), (6, .inl (l6 + 1))] [] P0 P0 M3 Q) ∧ (¬ r2 = 0 → Call K jClearingWaves_cleared [.inr (.inr 0)] P0 P0 M3 (retR fun r5 M6 => r5 = 11 ∧ Call K jWorth_reckon [.inr (.inr 42), .inr (.inr 1), .inr (.inr 11), .inl l6] P0 P0 M6 (retI fun r7 M8 => R32 r7 ∧ (¬ r7 = 0 → R32 l1 ∧ (l1 < 0 → G none (K + 1) jClearingWaves_best 11 [(0, .inr (.inr 0)), (1, .inl l6), (2, .inr (.inl (M8 42 0))), (4, .inr (.inl (M8 42 1))), (6, .inl (l6 + 1))] [] P0 P0 M8 Q) ∧ (¬ l1 < 0 → Call K jRatio_order [.inr (.inl (M8 42 0)), .inr (.inl (M8 42 1)), .inr (.inl l2), .inr (.inl l4)] P0 P0 M8 (retI fun r11 M12 => R32 r11 ∧ (r11 ≤ 0 → G none (K + 1) jClearingWaves_best 11 [(0, .inr (.inr 0)), (1, .inl l1), (2, .inr (.inl l2)), (4, .inr (.inl l4)), (6, .inl (l6 + 1))] [] P0 P0 M12 Q) ∧ (¬ r11 ≤ 0 → G none (K + 1) jClearingWaves_best 11 [(0, .inr (.inr 0)), (1, .inl l6), (2, .inr (.inl (M12 42 0))), (4, .inr (.inl (M12 42 1))), (6, .inl (l6 + 1))] [] P0 P0 M12 Q)))) ∧ (r7 = 0 → G none (K + 1) jClearingWaves_best 11 [(0, .inr (.inr 0)), (1, .inl l1), (2, .inr (.inl l2)), (4, .inr (.inl l4)), (6, .inl (l6 + 1))] [] P0 P0 M8 Q))))))) : G none (K + 1) jClearingWaves_best 11 [(0, .inr (.inr 0)), (1, .inl l1), (2, .inr (.inl l2)), (4, .inr (.inl l4)), (6, .inl l6)] [] P0 P0 M Q := by
  refine G_iload 4 rfl (ck dc142 (i := 8) rfl) ?_
  refine G_iconst (ck dc142 (i := 9) rfl) ?_
  obtain ⟨o1, h⟩ := h
  refine G_icmp_ge (tgt := 105) (by decide) o1 (by decide) (ck dc142 (i := 10) rfl) (fun c => ?_) (fun c => ?_)
  · replace h := h.1 c
    refine G_iload_n 1 rfl rfl (ck dc142 (i := 50) rfl) ?_
    exact H_iretI mf142 (ck dc142 (i := 51) rfl) rfl h
  · replace h := h.2 c
    refine G_aload_n 0 rfl rfl (ck dc142 (i := 11) rfl) ?_
    refine H_getR mf142 (ck dc142 (i := 12) rfl) fw_ClearingWaves_12 fc10_0 ly0 ra0 rf0_0 (by decide) ?_
    refine G_iload 4 rfl (ck dc142 (i := 13) rfl) ?_
    refine H_vZ mf142 (As := [.inl l6]) (st := []) (ck dc142 (i := 14) rfl) lk_ClearingWaves_301 rfl rfl (Nat.le_of_ble_eq_true rfl) ly1 ra1 ⟨Nat.le_refl _, Nat.le_refl _⟩ h (fun r2 M3 h => ?_)
    obtain ⟨o4, h⟩ := h
    refine G_if_eq (tgt := 99) (by decide) o4 (ck dc142 (i := 15) rfl) (fun c => ?_) (fun c => ?_)
    · replace h := h.1 c
      refine G_iinc 4 rfl (mfx.lt mf142 (Nat.le_of_ble_eq_true rfl)) rfl (ck dc142 (i := 48) rfl) ?_
      refine G_goto (tgt := 11) (by decide) (ck dc142 (i := 49) rfl) ?_
      exact G_sub [1, 2, 3, 4, 0] rfl h
    · replace h := h.2 c
      refine G_aload_n 0 rfl rfl (ck dc142 (i := 16) rfl) ?_
      refine H_getR mf142 (ck dc142 (i := 17) rfl) fw_ClearingWaves_62 fc10_11 ly0 ra0 rf0_11 (by decide) ?_
      refine G_aload_n 0 rfl rfl (ck dc142 (i := 18) rfl) ?_
      refine H_getR mf142 (ck dc142 (i := 19) rfl) fw_ClearingWaves_12 fc10_0 ly0 ra0 rf0_0 (by decide) ?_
      refine G_aload_n 0 rfl rfl (ck dc142 (i := 20) rfl) ?_
      refine H_vR mf142 (As := []) (st := [.inr (.inr 1), .inr (.inr 42)]) (ck dc142 (i := 21) rfl) lk_ClearingWaves_145 rfl rfl (Nat.le_of_ble_eq_true rfl) ly0 ra0 ⟨Nat.le_refl _, Nat.le_refl _⟩ h (fun r5 M6 h => ?_)
      obtain ⟨rfl, h⟩ := h
      refine G_iload 4 rfl (ck dc142 (i := 22) rfl) ?_
      refine H_vZ mf142 (As := [.inr (.inr 1), .inr (.inr 11), .inl l6]) (st := []) (ck dc142 (i := 23) rfl) lk_ClearingWaves_292 rfl rfl (Nat.le_of_ble_eq_true rfl) ly42 ra42 ⟨Nat.le_refl _, Nat.le_refl _⟩ h (fun r7 M8 h => ?_)
      obtain ⟨o9, h⟩ := h
      refine G_if_ne (tgt := 52) (by decide) o9 (ck dc142 (i := 24) rfl) (fun c => ?_) (fun c => ?_)
      · replace h := h.1 c
        refine G_iload_n 1 rfl rfl (ck dc142 (i := 26) rfl) ?_
        obtain ⟨o10, h⟩ := h
        refine G_if_lt (tgt := 79) (by decide) o10 (ck dc142 (i := 27) rfl) (fun c => ?_) (fun c => ?_)
        · replace h := h.1 c
          refine G_iload 4 rfl (ck dc142 (i := 38) rfl) ?_
          refine G_istore_n rfl (mfx.lt mf142 (Nat.le_of_ble_eq_true rfl)) rfl (ck dc142 (i := 39) rfl) ?_
          refine G_aload_n 1 rfl rfl (ck dc142 (i := 40) rfl) ?_
          refine H_getR mf142 (ck dc142 (i := 41) rfl) fw_ClearingWaves_62 fc10_11 ly0 ra0 rf0_11 (by decide) ?_
          refine H_getL mf142 (ck dc142 (i := 42) rfl) fw_ClearingWaves_296 fc9_0 ly42 ra42 (x := (M8 42 0)) rfl ?_
          refine G_lstore_n rfl (mfx.lt mf142 (Nat.le_of_ble_eq_true rfl)) rfl (ck dc142 (i := 43) rfl) ?_
          refine G_aload_n 2 rfl rfl (ck dc142 (i := 44) rfl) ?_
          refine H_getR mf142 (ck dc142 (i := 45) rfl) fw_ClearingWaves_62 fc10_11 ly0 ra0 rf0_11 (by decide) ?_
          refine H_getL mf142 (ck dc142 (i := 46) rfl) fw_ClearingWaves_299 fc9_1 ly42 ra42 (x := (M8 42 1)) rfl ?_
          refine G_lstore (mfx.lt mf142 (Nat.le_of_ble_eq_true rfl)) rfl (ck dc142 (i := 47) rfl) ?_
          refine G_iinc 4 rfl (mfx.lt mf142 (Nat.le_of_ble_eq_true rfl)) rfl (ck dc142 (i := 48) rfl) ?_
          refine G_goto (tgt := 11) (by decide) (ck dc142 (i := 49) rfl) ?_
          exact G_sub [4, 3, 2, 1, 0] rfl h
        · replace h := h.2 c
          refine G_aload_n 0 rfl rfl (ck dc142 (i := 28) rfl) ?_
          refine H_getR mf142 (ck dc142 (i := 29) rfl) fw_ClearingWaves_62 fc10_11 ly0 ra0 rf0_11 (by decide) ?_
          refine H_getL mf142 (ck dc142 (i := 30) rfl) fw_ClearingWaves_296 fc9_0 ly42 ra42 (x := (M8 42 0)) rfl ?_
          refine G_aload_n 0 rfl rfl (ck dc142 (i := 31) rfl) ?_
          refine H_getR mf142 (ck dc142 (i := 32) rfl) fw_ClearingWaves_62 fc10_11 ly0 ra0 rf0_11 (by decide) ?_
          refine H_getL mf142 (ck dc142 (i := 33) rfl) fw_ClearingWaves_299 fc9_1 ly42 ra42 (x := (M8 42 1)) rfl ?_
          refine G_lload_n 2 rfl rfl (ck dc142 (i := 34) rfl) ?_
          refine G_lload 3 rfl (ck dc142 (i := 35) rfl) ?_
          refine H_sI mf142 (As := [.inr (.inl (M8 42 0)), .inr (.inl (M8 42 1)), .inr (.inl l2), .inr (.inl l4)]) (st := []) (ck dc142 (i := 36) rfl) lk_ClearingWaves_304 rfl rfl (Nat.le_of_ble_eq_true rfl) ⟨Nat.le_refl _, Nat.le_refl _⟩ h (fun r11 M12 h => ?_)
          obtain ⟨o13, h⟩ := h
          refine G_if_le (tgt := 99) (by decide) o13 (ck dc142 (i := 37) rfl) (fun c => ?_) (fun c => ?_)
          · replace h := h.1 c
            refine G_iinc 4 rfl (mfx.lt mf142 (Nat.le_of_ble_eq_true rfl)) rfl (ck dc142 (i := 48) rfl) ?_
            refine G_goto (tgt := 11) (by decide) (ck dc142 (i := 49) rfl) ?_
            exact G_sub [1, 2, 3, 4, 0] rfl h
          · replace h := h.2 c
            refine G_iload 4 rfl (ck dc142 (i := 38) rfl) ?_
            refine G_istore_n rfl (mfx.lt mf142 (Nat.le_of_ble_eq_true rfl)) rfl (ck dc142 (i := 39) rfl) ?_
            refine G_aload_n 1 rfl rfl (ck dc142 (i := 40) rfl) ?_
            refine H_getR mf142 (ck dc142 (i := 41) rfl) fw_ClearingWaves_62 fc10_11 ly0 ra0 rf0_11 (by decide) ?_
            refine H_getL mf142 (ck dc142 (i := 42) rfl) fw_ClearingWaves_296 fc9_0 ly42 ra42 (x := (M12 42 0)) rfl ?_
            refine G_lstore_n rfl (mfx.lt mf142 (Nat.le_of_ble_eq_true rfl)) rfl (ck dc142 (i := 43) rfl) ?_
            refine G_aload_n 2 rfl rfl (ck dc142 (i := 44) rfl) ?_
            refine H_getR mf142 (ck dc142 (i := 45) rfl) fw_ClearingWaves_62 fc10_11 ly0 ra0 rf0_11 (by decide) ?_
            refine H_getL mf142 (ck dc142 (i := 46) rfl) fw_ClearingWaves_299 fc9_1 ly42 ra42 (x := (M12 42 1)) rfl ?_
            refine G_lstore (mfx.lt mf142 (Nat.le_of_ble_eq_true rfl)) rfl (ck dc142 (i := 47) rfl) ?_
            refine G_iinc 4 rfl (mfx.lt mf142 (Nat.le_of_ble_eq_true rfl)) rfl (ck dc142 (i := 48) rfl) ?_
            refine G_goto (tgt := 11) (by decide) (ck dc142 (i := 49) rfl) ?_
            exact G_sub [4, 3, 2, 1, 0] rfl h
      · replace h := h.2 c
        refine G_goto (tgt := 99) (by decide) (ck dc142 (i := 25) rfl) ?_
        refine G_iinc 4 rfl (mfx.lt mf142 (Nat.le_of_ble_eq_true rfl)) rfl (ck dc142 (i := 48) rfl) ?_
        refine G_goto (tgt := 11) (by decide) (ck dc142 (i := 49) rfl) ?_
        exact G_sub [1, 2, 3, 4, 0] rfl h
theorem c_x_spellHouse (K : Nat) (a1 a2 : Int) (M : PM) (Q : Option PV → PM → Prop)
    (h : R32 (M 47 0) ∧ ((M 47 0) ≤ 0 → G none (K + 1) jClearingWaves_spellHouse 19 [(0, .inr (.inr 0)), (1, .inl a1), (2, .inl a2)] [] P0 P0 M Q) ∧ (¬ (M 47 0) ≤ 0 → Call K jPaper_add [.inr (.inr 47), .inl 32] P0 P0 M (retV fun M3 => G none (K + 1) jClearingWaves_spellHouse 19 [(0, .inr (.inr 0)), (1, .inl a1), (2, .inl a2)] [] P0 P0 M3 Q))) : Call (K + 1) jClearingWaves_spellHouse [.inr (.inr 0), .inl a1, .inl a2] P0 P0 M Q := by
  refine Call.intro (by decide +kernel) (mfx.le mf144 (Nat.le_of_ble_eq_true rfl)) (Nat.le_refl _) rfl ?_
  refine G_aload_n 0 rfl rfl (ck dc144 (i := 0) rfl) ?_
  refine H_getR mf144 (ck dc144 (i := 1) rfl) fw_ClearingWaves_83 fc10_14 ly0 ra0 rf0_14 (by decide) ?_
  refine H_getI mf144 (ck dc144 (i := 2) rfl) fw_ClearingWaves_308 (Or.inl fc4_0) ly47 ra47 (x := (M 47 0)) rfl ?_
  obtain ⟨o1, h⟩ := h
  refine G_if_le (tgt := 19) (by decide) o1 (ck dc144 (i := 3) rfl) (fun c => ?_) (fun c => ?_)
  · replace h := h.1 c
    exact G_sub [0, 1, 2] rfl h
  · replace h := h.2 c
    refine G_aload_n 0 rfl rfl (ck dc144 (i := 4) rfl) ?_
    refine H_getR mf144 (ck dc144 (i := 5) rfl) fw_ClearingWaves_83 fc10_14 ly0 ra0 rf0_14 (by decide) ?_
    refine G_bipush (n := 32) rfl (ck dc144 (i := 6) rfl) ?_
    refine H_vV mf144 (As := [.inl 32]) (st := []) (ck dc144 (i := 7) rfl) lk_ClearingWaves_379 rfl rfl (Nat.le_of_ble_eq_true rfl) ly47 ra47 ⟨Nat.le_refl _, Nat.le_refl _⟩ h (fun M3 h => ?_)
    exact G_sub [0, 1, 2] rfl h
theorem g_x_spellHouse_19 (K : Nat) (l1 l2 : Int) (M : PM) (Q : Option PV → PM → Prop)
    (h : Call K jPaper_add [.inr (.inr 47), .inl (97 + l1)] P0 P0 M (retV fun M2 => R32 l2 ∧ Call K jPaper_addNumber [.inr (.inr 47), .inr (.inl l2)] P0 P0 M2 (retV fun M5 => Call K jPaper_add [.inr (.inr 47), .inl 58] P0 P0 M5 (retV fun M7 => Call K jClearing_pays [.inr (.inr 11), .inl l1] P0 P0 M7 (retL fun r8 M9 => Call K jClearing_bottom [.inr (.inr 11), .inl (M9 11 0)] P0 P0 M9 (retL fun r10 M11 => Call K jRatio_tell [.inr (.inl r8), .inr (.inl r10), .inl 0] P0 P0 M11 (retL fun r12 M13 => Call K jPaper_addNumber [.inr (.inr 47), .inr (.inl r12)] P0 P0 M13 (retV fun M15 => Call K jRatio_tell [.inr (.inl r8), .inr (.inl r10), .inl 1] P0 P0 M15 (retL fun r16 M17 => R64 r16 ∧ (r16 = 1 → Q none M17) ∧ (¬ r16 = 1 → Call K jPaper_add [.inr (.inr 47), .inl 47] P0 P0 M17 (retV fun M20 => Call K jPaper_addNumber [.inr (.inr 47), .inr (.inl r16)] P0 P0 M20 (retV fun M22 => Q none M22)))))))))))) : G none (K + 1) jClearingWaves_spellHouse 19 [(0, .inr (.inr 0)), (1, .inl l1), (2, .inl l2)] [] P0 P0 M Q := by
  refine G_aload_n 0 rfl rfl (ck dc144 (i := 8) rfl) ?_
  refine H_getR mf144 (ck dc144 (i := 9) rfl) fw_ClearingWaves_83 fc10_14 ly0 ra0 rf0_14 (by decide) ?_
  refine G_bipush (n := 97) rfl (ck dc144 (i := 10) rfl) ?_
  refine G_iload_n 1 rfl rfl (ck dc144 (i := 11) rfl) ?_
  refine G_iadd (ck dc144 (i := 12) rfl) ?_
  refine H_vV mf144 (As := [.inl (97 + l1)]) (st := []) (ck dc144 (i := 13) rfl) lk_ClearingWaves_379 rfl rfl (Nat.le_of_ble_eq_true rfl) ly47 ra47 ⟨Nat.le_refl _, Nat.le_refl _⟩ h (fun M2 h => ?_)
  refine G_aload_n 0 rfl rfl (ck dc144 (i := 14) rfl) ?_
  refine H_getR mf144 (ck dc144 (i := 15) rfl) fw_ClearingWaves_83 fc10_14 ly0 ra0 rf0_14 (by decide) ?_
  refine G_iload_n 2 rfl rfl (ck dc144 (i := 16) rfl) ?_
  obtain ⟨o3, h⟩ := h
  refine G_i2l o3 (ck dc144 (i := 17) rfl) ?_
  refine H_vV mf144 (As := [.inr (.inl l2)]) (st := []) (ck dc144 (i := 18) rfl) lk_ClearingWaves_381 rfl rfl (Nat.le_of_ble_eq_true rfl) ly47 ra47 ⟨Nat.le_refl _, Nat.le_refl _⟩ h (fun M5 h => ?_)
  refine G_aload_n 0 rfl rfl (ck dc144 (i := 19) rfl) ?_
  refine H_getR mf144 (ck dc144 (i := 20) rfl) fw_ClearingWaves_83 fc10_14 ly0 ra0 rf0_14 (by decide) ?_
  refine G_bipush (n := 58) rfl (ck dc144 (i := 21) rfl) ?_
  refine H_vV mf144 (As := [.inl 58]) (st := []) (ck dc144 (i := 22) rfl) lk_ClearingWaves_379 rfl rfl (Nat.le_of_ble_eq_true rfl) ly47 ra47 ⟨Nat.le_refl _, Nat.le_refl _⟩ h (fun M7 h => ?_)
  refine G_aload_n 0 rfl rfl (ck dc144 (i := 23) rfl) ?_
  refine H_getR mf144 (ck dc144 (i := 24) rfl) fw_ClearingWaves_36 fc10_5 ly0 ra0 rf0_5 (by decide) ?_
  refine G_iload_n 1 rfl rfl (ck dc144 (i := 25) rfl) ?_
  refine H_vL mf144 (As := [.inl l1]) (st := []) (ck dc144 (i := 26) rfl) lk_ClearingWaves_385 rfl rfl (Nat.le_of_ble_eq_true rfl) ly11 ra11 ⟨Nat.le_refl _, Nat.le_refl _⟩ h (fun r8 M9 h => ?_)
  refine G_lstore_n rfl (mfx.lt mf144 (Nat.le_of_ble_eq_true rfl)) rfl (ck dc144 (i := 27) rfl) ?_
  refine G_aload_n 1 rfl rfl (ck dc144 (i := 28) rfl) ?_
  refine H_getR mf144 (ck dc144 (i := 29) rfl) fw_ClearingWaves_36 fc10_5 ly0 ra0 rf0_5 (by decide) ?_
  refine G_aload_n 1 rfl rfl (ck dc144 (i := 30) rfl) ?_
  refine H_getR mf144 (ck dc144 (i := 31) rfl) fw_ClearingWaves_36 fc10_5 ly0 ra0 rf0_5 (by decide) ?_
  refine H_getI mf144 (ck dc144 (i := 32) rfl) fw_ClearingWaves_149 (Or.inl fc1_0) ly11 ra11 (x := (M9 11 0)) rfl ?_
  refine H_vL mf144 (As := [.inl (M9 11 0)]) (st := []) (ck dc144 (i := 33) rfl) lk_ClearingWaves_175 rfl rfl (Nat.le_of_ble_eq_true rfl) ly11 ra11 ⟨Nat.le_refl _, Nat.le_refl _⟩ h (fun r10 M11 h => ?_)
  refine G_lstore (mfx.lt mf144 (Nat.le_of_ble_eq_true rfl)) rfl (ck dc144 (i := 34) rfl) ?_
  refine G_aload_n 2 rfl rfl (ck dc144 (i := 35) rfl) ?_
  refine H_getR mf144 (ck dc144 (i := 36) rfl) fw_ClearingWaves_83 fc10_14 ly0 ra0 rf0_14 (by decide) ?_
  refine G_lload_n 1 rfl rfl (ck dc144 (i := 37) rfl) ?_
  refine G_lload 0 rfl (ck dc144 (i := 38) rfl) ?_
  refine G_iconst (ck dc144 (i := 39) rfl) ?_
  refine H_sL mf144 (As := [.inr (.inl r8), .inr (.inl r10), .inl 0]) (st := [.inr (.inr 47)]) (ck dc144 (i := 40) rfl) lk_ClearingWaves_179 rfl rfl (Nat.le_of_ble_eq_true rfl) ⟨Nat.le_refl _, Nat.le_refl _⟩ h (fun r12 M13 h => ?_)
  refine H_vV mf144 (As := [.inr (.inl r12)]) (st := []) (ck dc144 (i := 41) rfl) lk_ClearingWaves_381 rfl rfl (Nat.le_of_ble_eq_true rfl) ly47 ra47 ⟨Nat.le_refl _, Nat.le_refl _⟩ h (fun M15 h => ?_)
  refine G_lload_n 1 rfl rfl (ck dc144 (i := 42) rfl) ?_
  refine G_lload 0 rfl (ck dc144 (i := 43) rfl) ?_
  refine G_iconst (ck dc144 (i := 44) rfl) ?_
  refine H_sL mf144 (As := [.inr (.inl r8), .inr (.inl r10), .inl 1]) (st := []) (ck dc144 (i := 45) rfl) lk_ClearingWaves_179 rfl rfl (Nat.le_of_ble_eq_true rfl) ⟨Nat.le_refl _, Nat.le_refl _⟩ h (fun r16 M17 h => ?_)
  refine G_lstore (mfx.lt mf144 (Nat.le_of_ble_eq_true rfl)) rfl (ck dc144 (i := 46) rfl) ?_
  refine G_lload 0 rfl (ck dc144 (i := 47) rfl) ?_
  refine G_lconst (v := 1) rfl (ck dc144 (i := 48) rfl) ?_
  obtain ⟨o18, h⟩ := h
  refine G_lif_eq (tgt := 121) (ck dc144 (i := 50) rfl) (by decide) o18 (by decide) (ck dc144 (i := 49) rfl) (fun c => ?_) (fun c => ?_)
  · replace h := h.1 c
    exact H_vret mf144 (ck dc144 (i := 59) rfl) rfl h
  · replace h := h.2 c
    refine G_aload_n 3 rfl rfl (ck dc144 (i := 51) rfl) ?_
    refine H_getR mf144 (ck dc144 (i := 52) rfl) fw_ClearingWaves_83 fc10_14 ly0 ra0 rf0_14 (by decide) ?_
    refine G_bipush (n := 47) rfl (ck dc144 (i := 53) rfl) ?_
    refine H_vV mf144 (As := [.inl 47]) (st := []) (ck dc144 (i := 54) rfl) lk_ClearingWaves_379 rfl rfl (Nat.le_of_ble_eq_true rfl) ly47 ra47 ⟨Nat.le_refl _, Nat.le_refl _⟩ h (fun M20 h => ?_)
    refine G_aload_n 3 rfl rfl (ck dc144 (i := 55) rfl) ?_
    refine H_getR mf144 (ck dc144 (i := 56) rfl) fw_ClearingWaves_83 fc10_14 ly0 ra0 rf0_14 (by decide) ?_
    refine G_lload 0 rfl (ck dc144 (i := 57) rfl) ?_
    refine H_vV mf144 (As := [.inr (.inl r16)]) (st := []) (ck dc144 (i := 58) rfl) lk_ClearingWaves_381 rfl rfl (Nat.le_of_ble_eq_true rfl) ly47 ra47 ⟨Nat.le_refl _, Nat.le_refl _⟩ h (fun M22 h => ?_)
    exact H_vret mf144 (ck dc144 (i := 59) rfl) rfl h
theorem c_x_spell (K : Nat) (M : PM) (Q : Option PV → PM → Prop)
    (h : Call K jClearingWaves_cleared [.inr (.inr 0)] P0 P0 M (retR fun r1 M2 => r1 = 11 ∧ G none (K + 1) jClearingWaves_spell 15 [(0, .inr (.inr 0)), (1, .inr (.inr 11)), (2, .inl 1)] [] P0 P0 (mset M2 47 0 0) Q)) : Call (K + 1) jClearingWaves_spell [.inr (.inr 0)] P0 P0 M Q := by
  refine Call.intro (by decide +kernel) (mfx.le mf143 (Nat.le_of_ble_eq_true rfl)) (Nat.le_refl _) rfl ?_
  refine G_aload_n 0 rfl rfl (ck dc143 (i := 0) rfl) ?_
  refine H_vR mf143 (As := []) (st := []) (ck dc143 (i := 1) rfl) lk_ClearingWaves_145 rfl rfl (Nat.le_of_ble_eq_true rfl) ly0 ra0 ⟨Nat.le_refl _, Nat.le_refl _⟩ h (fun r1 M2 h => ?_)
  obtain ⟨rfl, h⟩ := h
  refine G_astore_n rfl (mfx.lt mf143 (Nat.le_of_ble_eq_true rfl)) rfl (ck dc143 (i := 2) rfl) ?_
  refine G_aload_n 1 rfl rfl (ck dc143 (i := 3) rfl) ?_
  refine H_getR mf143 (ck dc143 (i := 4) rfl) fw_ClearingWaves_83 fc10_14 ly0 ra0 rf0_14 (by decide) ?_
  refine G_iconst (ck dc143 (i := 5) rfl) ?_
  refine H_putI mf143 (ck dc143 (i := 6) rfl) fw_ClearingWaves_308 fc4_0 ly47 ra47 (Or.inl rfl) ?_
  refine G_iconst (ck dc143 (i := 7) rfl) ?_
  refine G_istore_n rfl (mfx.lt mf143 (Nat.le_of_ble_eq_true rfl)) rfl (ck dc143 (i := 8) rfl) ?_
  exact G_sub [2, 1, 0] rfl h
theorem g_x_spell_15 (K : Nat) (l2 : Int) (M : PM) (Q : Option PV → PM → Prop)
    (h : R32 l2 ∧ R32 (M 11 0) ∧ ((M 11 0) < l2 → Q (some (.inl (M 47 0))) M) ∧ (¬ (M 11 0) < l2 → G none (K + 1) jClearingWaves_spell 25 [(0, .inr (.inr 0)), (1, .inr (.inr 11)), (2, .inl l2), (3, .inl 0)] [] P0 P0 M Q)) : G none (K + 1) jClearingWaves_spell 15 [(0, .inr (.inr 0)), (1, .inr (.inr 11)), (2, .inl l2)] [] P0 P0 M Q := by
  refine G_iload_n 2 rfl rfl (ck dc143 (i := 9) rfl) ?_
  refine G_aload_n 1 rfl rfl (ck dc143 (i := 10) rfl) ?_
  refine H_getI mf143 (ck dc143 (i := 11) rfl) fw_ClearingWaves_149 (Or.inl fc1_0) ly11 ra11 (x := (M 11 0)) rfl ?_
  obtain ⟨o1, h⟩ := h
  obtain ⟨o2, h⟩ := h
  refine G_icmp_gt (tgt := 64) (by decide) o1 o2 (ck dc143 (i := 12) rfl) (fun c => ?_) (fun c => ?_)
  · replace h := h.1 c
    refine G_aload_n 0 rfl rfl (ck dc143 (i := 34) rfl) ?_
    refine H_getR mf143 (ck dc143 (i := 35) rfl) fw_ClearingWaves_83 fc10_14 ly0 ra0 rf0_14 (by decide) ?_
    refine H_getI mf143 (ck dc143 (i := 36) rfl) fw_ClearingWaves_308 (Or.inl fc4_0) ly47 ra47 (x := (M 47 0)) rfl ?_
    exact H_iretI mf143 (ck dc143 (i := 37) rfl) rfl h
  · replace h := h.2 c
    refine G_iconst (ck dc143 (i := 13) rfl) ?_
    refine G_istore_n rfl (mfx.lt mf143 (Nat.le_of_ble_eq_true rfl)) rfl (ck dc143 (i := 14) rfl) ?_
    exact G_sub [1, 2, 3, 0] rfl h
theorem g_x_spell_25 (K : Nat) (l2 l3 : Int) (M : PM) (Q : Option PV → PM → Prop)
    (h : R32 l3 ∧ R32 (M 1 0) ∧ ((M 1 0) ≤ l3 → G none (K + 1) jClearingWaves_spell 15 [(0, .inr (.inr 0)), (1, .inr (.inr 11)), (2, .inl (l2 + 1))] [] P0 P0 M Q) ∧ (¬ (M 1 0) ≤ l3 → (0 ≤ l3 ∧ l3 < 5) ∧ R32 (M 12 l3) ∧ R32 l2 ∧ (¬ (M 12 l3) = l2 → G none (K + 1) jClearingWaves_spell 25 [(0, .inr (.inr 0)), (1, .inr (.inr 11)), (2, .inl l2), (3, .inl (l3 + 1))] [] P0 P0 M Q) ∧ ((M 12 l3) = l2 → Call K jClearingWaves_spellHouse [.inr (.inr 0), .inl l3, .inl l2] P0 P0 M (retV fun M7 => G none (K + 1) jClearingWaves_spell 25 [(0, .inr (.inr 0)), (1, .inr (.inr 11)), (2, .inl l2), (3, .inl (l3 + 1))] [] P0 P0 M7 Q)))) : G none (K + 1) jClearingWaves_spell 25 [(0, .inr (.inr 0)), (1, .inr (.inr 11)), (2, .inl l2), (3, .inl l3)] [] P0 P0 M Q := by
  refine G_iload_n 3 rfl rfl (ck dc143 (i := 15) rfl) ?_
  refine G_aload_n 0 rfl rfl (ck dc143 (i := 16) rfl) ?_
  refine H_getR mf143 (ck dc143 (i := 17) rfl) fw_ClearingWaves_12 fc10_0 ly0 ra0 rf0_0 (by decide) ?_
  refine H_getI mf143 (ck dc143 (i := 18) rfl) fw_ClearingWaves_207 (Or.inl fc0_0) ly1 ra1 (x := (M 1 0)) rfl ?_
  obtain ⟨o1, h⟩ := h
  obtain ⟨o2, h⟩ := h
  refine G_icmp_ge (tgt := 58) (by decide) o1 o2 (ck dc143 (i := 19) rfl) (fun c => ?_) (fun c => ?_)
  · replace h := h.1 c
    refine G_iinc 2 rfl (mfx.lt mf143 (Nat.le_of_ble_eq_true rfl)) rfl (ck dc143 (i := 32) rfl) ?_
    refine G_goto (tgt := 15) (by decide) (ck dc143 (i := 33) rfl) ?_
    exact G_sub [1, 2, 0] rfl h
  · replace h := h.2 c
    refine G_aload_n 1 rfl rfl (ck dc143 (i := 20) rfl) ?_
    refine H_getR mf143 (ck dc143 (i := 21) rfl) fw_ClearingWaves_152 fc1_2 ly11 ra11 rf11_2 (by decide) ?_
    refine G_iload_n 3 rfl rfl (ck dc143 (i := 22) rfl) ?_
    obtain ⟨o3, h⟩ := h
    refine H_iald (ck dc143 (i := 23) rfl) ly12 (by decide) ra12 o3 (x := (M 12 l3)) rfl ?_
    refine G_iload_n 2 rfl rfl (ck dc143 (i := 24) rfl) ?_
    obtain ⟨o4, h⟩ := h
    obtain ⟨o5, h⟩ := h
    refine G_icmp_ne (tgt := 52) (by decide) o4 o5 (ck dc143 (i := 25) rfl) (fun c => ?_) (fun c => ?_)
    · replace h := h.1 c
      refine G_iinc 3 rfl (mfx.lt mf143 (Nat.le_of_ble_eq_true rfl)) rfl (ck dc143 (i := 30) rfl) ?_
      refine G_goto (tgt := 25) (by decide) (ck dc143 (i := 31) rfl) ?_
      exact G_sub [1, 2, 3, 0] rfl h
    · replace h := h.2 c
      refine G_aload_n 0 rfl rfl (ck dc143 (i := 26) rfl) ?_
      refine G_iload_n 3 rfl rfl (ck dc143 (i := 27) rfl) ?_
      refine G_iload_n 2 rfl rfl (ck dc143 (i := 28) rfl) ?_
      refine H_vV mf143 (As := [.inl l3, .inl l2]) (st := []) (ck dc143 (i := 29) rfl) lk_ClearingWaves_309 rfl rfl (Nat.le_of_ble_eq_true rfl) ly0 ra0 ⟨Nat.le_refl _, Nat.le_refl _⟩ h (fun M7 h => ?_)
      refine G_iinc 3 rfl (mfx.lt mf143 (Nat.le_of_ble_eq_true rfl)) rfl (ck dc143 (i := 30) rfl) ?_
      refine G_goto (tgt := 25) (by decide) (ck dc143 (i := 31) rfl) ?_
      exact G_sub [1, 2, 3, 0] rfl h
theorem c_x_paper (K : Nat) (a1 : Int) (M : PM) (Q : Option PV → PM → Prop)
    (h : R32 a1 ∧ (a1 < 0 → Q (some (.inl (-1))) M) ∧ (¬ a1 < 0 → R32 (M 47 0) ∧ ((M 47 0) ≤ a1 → Q (some (.inl (-1))) M) ∧ (¬ (M 47 0) ≤ a1 → (0 ≤ a1 ∧ a1 < 200) ∧ Q (some (.inl (M 48 a1))) M))) : Call (K + 1) jClearingWaves_paper [.inr (.inr 0), .inl a1] P0 P0 M Q := by
  refine Call.intro (by decide +kernel) (mfx.le mf147 (Nat.le_of_ble_eq_true rfl)) (Nat.le_refl _) rfl ?_
  refine G_iload_n 1 rfl rfl (ck dc147 (i := 0) rfl) ?_
  obtain ⟨o1, h⟩ := h
  refine G_if_lt (tgt := 27) (by decide) o1 (ck dc147 (i := 1) rfl) (fun c => ?_) (fun c => ?_)
  · replace h := h.1 c
    refine G_iconst (ck dc147 (i := 13) rfl) ?_
    exact H_iretI mf147 (ck dc147 (i := 14) rfl) rfl h
  · replace h := h.2 c
    refine G_iload_n 1 rfl rfl (ck dc147 (i := 2) rfl) ?_
    refine G_aload_n 0 rfl rfl (ck dc147 (i := 3) rfl) ?_
    refine H_getR mf147 (ck dc147 (i := 4) rfl) fw_ClearingWaves_83 fc10_14 ly0 ra0 rf0_14 (by decide) ?_
    refine H_getI mf147 (ck dc147 (i := 5) rfl) fw_ClearingWaves_308 (Or.inl fc4_0) ly47 ra47 (x := (M 47 0)) rfl ?_
    obtain ⟨o2, h⟩ := h
    refine G_icmp_ge (tgt := 27) (by decide) o1 o2 (ck dc147 (i := 6) rfl) (fun c => ?_) (fun c => ?_)
    · replace h := h.1 c
      refine G_iconst (ck dc147 (i := 13) rfl) ?_
      exact H_iretI mf147 (ck dc147 (i := 14) rfl) rfl h
    · replace h := h.2 c
      refine G_aload_n 0 rfl rfl (ck dc147 (i := 7) rfl) ?_
      refine H_getR mf147 (ck dc147 (i := 8) rfl) fw_ClearingWaves_83 fc10_14 ly0 ra0 rf0_14 (by decide) ?_
      refine H_getR mf147 (ck dc147 (i := 9) rfl) fw_ClearingWaves_313 fc4_1 ly47 ra47 rf47_1 (by decide) ?_
      refine G_iload_n 1 rfl rfl (ck dc147 (i := 10) rfl) ?_
      obtain ⟨o3, h⟩ := h
      refine H_iald (ck dc147 (i := 11) rfl) ly48 (by decide) ra48 o3 (x := (M 48 a1)) rfl ?_
      refine G_goto (tgt := 28) (by decide) (ck dc147 (i := 12) rfl) ?_
      exact H_iretI mf147 (ck dc147 (i := 14) rfl) rfl h
theorem c_x_countOfHouse (K : Nat) (a1 : Int) (M : PM) (Q : Option PV → PM → Prop)
    (h : R32 a1 ∧ (a1 < 10 → G none (K + 1) jClearingWaves_countOfHouse 33 [(0, .inr (.inr 0)), (1, .inl a1)] [] P0 P0 M Q) ∧ (¬ a1 < 10 → Call K jBook_hasHouse [.inr (.inr 1), .inl (a1 - 10)] P0 P0 M (retI fun r2 M3 => R32 r2 ∧ (r2 = 0 → G none (K + 1) jClearingWaves_countOfHouse 33 [(0, .inr (.inr 0)), (1, .inl a1)] [] P0 P0 M3 Q) ∧ (¬ r2 = 0 → (0 ≤ (a1 - 10) ∧ (a1 - 10) < 5) ∧ Q (some (.inl (M3 2 (a1 - 10)))) M3)))) : Call (K + 1) jClearingWaves_countOfHouse [.inr (.inr 0), .inl a1] P0 P0 M Q := by
  refine Call.intro (by decide +kernel) (mfx.le mf152 (Nat.le_of_ble_eq_true rfl)) (Nat.le_refl _) rfl ?_
  refine G_iload_n 1 rfl rfl (ck dc152 (i := 0) rfl) ?_
  refine G_bipush (n := 10) rfl (ck dc152 (i := 1) rfl) ?_
  obtain ⟨o1, h⟩ := h
  refine G_icmp_lt (tgt := 33) (by decide) o1 (by decide) (ck dc152 (i := 2) rfl) (fun c => ?_) (fun c => ?_)
  · replace h := h.1 c
    exact G_sub [0, 1] rfl h
  · replace h := h.2 c
    refine G_aload_n 0 rfl rfl (ck dc152 (i := 3) rfl) ?_
    refine H_getR mf152 (ck dc152 (i := 4) rfl) fw_ClearingWaves_12 fc10_0 ly0 ra0 rf0_0 (by decide) ?_
    refine G_iload_n 1 rfl rfl (ck dc152 (i := 5) rfl) ?_
    refine G_bipush (n := 10) rfl (ck dc152 (i := 6) rfl) ?_
    refine G_isub (ck dc152 (i := 7) rfl) ?_
    refine H_vZ mf152 (As := [.inl (a1 - 10)]) (st := []) (ck dc152 (i := 8) rfl) lk_ClearingWaves_108 rfl rfl (Nat.le_of_ble_eq_true rfl) ly1 ra1 ⟨Nat.le_refl _, Nat.le_refl _⟩ h (fun r2 M3 h => ?_)
    obtain ⟨o4, h⟩ := h
    refine G_if_eq (tgt := 33) (by decide) o4 (ck dc152 (i := 9) rfl) (fun c => ?_) (fun c => ?_)
    · replace h := h.1 c
      exact G_sub [0, 1] rfl h
    · replace h := h.2 c
      refine G_aload_n 0 rfl rfl (ck dc152 (i := 10) rfl) ?_
      refine H_getR mf152 (ck dc152 (i := 11) rfl) fw_ClearingWaves_12 fc10_0 ly0 ra0 rf0_0 (by decide) ?_
      refine H_getR mf152 (ck dc152 (i := 12) rfl) fw_ClearingWaves_30 fc0_3 ly1 ra1 rf1_3 (by decide) ?_
      refine G_iload_n 1 rfl rfl (ck dc152 (i := 13) rfl) ?_
      refine G_bipush (n := 10) rfl (ck dc152 (i := 14) rfl) ?_
      refine G_isub (ck dc152 (i := 15) rfl) ?_
      obtain ⟨o5, h⟩ := h
      refine H_iald (ck dc152 (i := 16) rfl) ly2 (by decide) ra2 o5 (x := (M3 2 (a1 - 10))) rfl ?_
      exact H_iretI mf152 (ck dc152 (i := 17) rfl) rfl h
theorem g_x_countOfHouse_33 (K : Nat) (l1 : Int) (M : PM) (Q : Option PV → PM → Prop)
    (h : R32 l1 ∧ (l1 < 20 → Q (some (.inl (-1))) M) ∧ (¬ l1 < 20 → R32 (l1 - 20) ∧ Call K jBook_hasHouse [.inr (.inr 1), .inl (Int.tdiv (l1 - 20) 3)] P0 P0 M (retI fun r3 M4 => R32 r3 ∧ (r3 = 0 → Q (some (.inl (-1))) M4) ∧ (¬ r3 = 0 → Call K jBook_dueIn [.inr (.inr 1), .inl (Int.tdiv (l1 - 20) 3), .inl (Int.tmod (l1 - 20) 3)] P0 P0 M4 (retI fun r6 M7 => Q (some (.inl r6)) M7))))) : G none (K + 1) jClearingWaves_countOfHouse 33 [(0, .inr (.inr 0)), (1, .inl l1)] [] P0 P0 M Q := by
  refine G_iload_n 1 rfl rfl (ck dc152 (i := 18) rfl) ?_
  refine G_bipush (n := 20) rfl (ck dc152 (i := 19) rfl) ?_
  obtain ⟨o1, h⟩ := h
  refine G_icmp_lt (tgt := 75) (by decide) o1 (by decide) (ck dc152 (i := 20) rfl) (fun c => ?_) (fun c => ?_)
  · replace h := h.1 c
    refine G_iconst (ck dc152 (i := 44) rfl) ?_
    exact H_iretI mf152 (ck dc152 (i := 45) rfl) rfl h
  · replace h := h.2 c
    refine G_aload_n 0 rfl rfl (ck dc152 (i := 21) rfl) ?_
    refine H_getR mf152 (ck dc152 (i := 22) rfl) fw_ClearingWaves_12 fc10_0 ly0 ra0 rf0_0 (by decide) ?_
    refine G_iload_n 1 rfl rfl (ck dc152 (i := 23) rfl) ?_
    refine G_bipush (n := 20) rfl (ck dc152 (i := 24) rfl) ?_
    refine G_isub (ck dc152 (i := 25) rfl) ?_
    refine G_iconst (ck dc152 (i := 26) rfl) ?_
    obtain ⟨o2, h⟩ := h
    refine G_idiv o2 (by decide) (by decide) (ck dc152 (i := 27) rfl) ?_
    refine H_vZ mf152 (As := [.inl (Int.tdiv (l1 - 20) 3)]) (st := []) (ck dc152 (i := 28) rfl) lk_ClearingWaves_108 rfl rfl (Nat.le_of_ble_eq_true rfl) ly1 ra1 ⟨Nat.le_refl _, Nat.le_refl _⟩ h (fun r3 M4 h => ?_)
    obtain ⟨o5, h⟩ := h
    refine G_if_eq (tgt := 75) (by decide) o5 (ck dc152 (i := 29) rfl) (fun c => ?_) (fun c => ?_)
    · replace h := h.1 c
      refine G_iconst (ck dc152 (i := 44) rfl) ?_
      exact H_iretI mf152 (ck dc152 (i := 45) rfl) rfl h
    · replace h := h.2 c
      refine G_aload_n 0 rfl rfl (ck dc152 (i := 30) rfl) ?_
      refine H_getR mf152 (ck dc152 (i := 31) rfl) fw_ClearingWaves_12 fc10_0 ly0 ra0 rf0_0 (by decide) ?_
      refine G_iload_n 1 rfl rfl (ck dc152 (i := 32) rfl) ?_
      refine G_bipush (n := 20) rfl (ck dc152 (i := 33) rfl) ?_
      refine G_isub (ck dc152 (i := 34) rfl) ?_
      refine G_iconst (ck dc152 (i := 35) rfl) ?_
      refine G_idiv o2 (by decide) (by decide) (ck dc152 (i := 36) rfl) ?_
      refine G_iload_n 1 rfl rfl (ck dc152 (i := 37) rfl) ?_
      refine G_bipush (n := 20) rfl (ck dc152 (i := 38) rfl) ?_
      refine G_isub (ck dc152 (i := 39) rfl) ?_
      refine G_iconst (ck dc152 (i := 40) rfl) ?_
      refine G_irem o2 (by decide) (by decide) (ck dc152 (i := 41) rfl) ?_
      refine H_vI mf152 (As := [.inl (Int.tdiv (l1 - 20) 3), .inl (Int.tmod (l1 - 20) 3)]) (st := []) (ck dc152 (i := 42) rfl) lk_ClearingWaves_388 rfl rfl (Nat.le_of_ble_eq_true rfl) ly1 ra1 ⟨Nat.le_refl _, Nat.le_refl _⟩ h (fun r6 M7 h => ?_)
      exact H_iretI mf152 (ck dc152 (i := 43) rfl) rfl h
theorem c_x_count (K : Nat) (a1 : Int) (M : PM) (Q : Option PV → PM → Prop)
    (h : R32 a1 ∧ ((a1 < 0 ∨ 7 < a1) → Call K jClearingWaves_countOfHouse [.inr (.inr 0), .inl a1] P0 P0 M (retI fun r2 M3 => Q (some (.inl r2)) M3)) ∧ (a1 = 0 → Q (some (.inl (M 1 0))) M) ∧ (a1 = 1 → Q (some (.inl (M 1 1))) M) ∧ (a1 = 2 → Q (some (.inl (M 1 2))) M) ∧ (a1 = 3 → Call K jBook_cashOfAll [.inr (.inr 1)] P0 P0 M (retI fun r4 M5 => Q (some (.inl r4)) M5)) ∧ (a1 = 4 → Call K jBook_dueOfAll [.inr (.inr 1)] P0 P0 M (retI fun r6 M7 => Q (some (.inl r6)) M7)) ∧ (a1 = 5 → Q (some (.inl (M 45 0))) M) ∧ (a1 = 6 → Q (some (.inl (M 47 0))) M) ∧ (a1 = 7 → Call K jBook_openDebts [.inr (.inr 1)] P0 P0 M (retI fun r8 M9 => Q (some (.inl r8)) M9))) : Call (K + 1) jClearingWaves_count [.inr (.inr 0), .inl a1] P0 P0 M Q := by
  refine Call.intro (by decide +kernel) (mfx.le mf148 (Nat.le_of_ble_eq_true rfl)) (Nat.le_refl _) rfl ?_
  refine G_iload_n 1 rfl rfl (ck dc148 (i := 0) rfl) ?_
  obtain ⟨o1, h⟩ := h
  by_cases q : (a1 < 0 ∨ 7 < a1)
  · replace h := h.1 q
    refine G_tsOut (tgt := 112) o1 q (by decide) (ck dc148 (i := 1) rfl) ?_
    refine G_aload_n 0 rfl rfl (ck dc148 (i := 34) rfl) ?_
    refine G_iload_n 1 rfl rfl (ck dc148 (i := 35) rfl) ?_
    refine H_vI mf148 (As := [.inl a1]) (st := []) (ck dc148 (i := 36) rfl) lk_ClearingWaves_325 rfl rfl (Nat.le_of_ble_eq_true rfl) ly0 ra0 ⟨Nat.le_refl _, Nat.le_refl _⟩ h (fun r2 M3 h => ?_)
    exact H_iretI mf148 (ck dc148 (i := 37) rfl) rfl h
  · replace h := h.2
    have q2 : a1 = 0 ∨ a1 = 1 ∨ a1 = 2 ∨ a1 = 3 ∨ a1 = 4 ∨ a1 = 5 ∨ a1 = 6 ∨ a1 = 7 := by omega
    rcases q2 with q2 | q2
    · replace h := h.1 q2
      refine G_tsIn (off := 47) (tgt := 48) o1 (by omega) (by omega) (by rw [q2]; rfl) (by decide) (ck dc148 (i := 1) rfl) ?_
      refine G_aload_n 0 rfl rfl (ck dc148 (i := 2) rfl) ?_
      refine H_getR mf148 (ck dc148 (i := 3) rfl) fw_ClearingWaves_12 fc10_0 ly0 ra0 rf0_0 (by decide) ?_
      refine H_getI mf148 (ck dc148 (i := 4) rfl) fw_ClearingWaves_207 (Or.inl fc0_0) ly1 ra1 (x := (M 1 0)) rfl ?_
      exact H_iretI mf148 (ck dc148 (i := 5) rfl) rfl h
    replace h := h.2
    rcases q2 with q2 | q2
    · replace h := h.1 q2
      refine G_tsIn (off := 55) (tgt := 56) o1 (by omega) (by omega) (by rw [q2]; rfl) (by decide) (ck dc148 (i := 1) rfl) ?_
      refine G_aload_n 0 rfl rfl (ck dc148 (i := 6) rfl) ?_
      refine H_getR mf148 (ck dc148 (i := 7) rfl) fw_ClearingWaves_12 fc10_0 ly0 ra0 rf0_0 (by decide) ?_
      refine H_getI mf148 (ck dc148 (i := 8) rfl) fw_ClearingWaves_124 (Or.inl fc0_1) ly1 ra1 (x := (M 1 1)) rfl ?_
      exact H_iretI mf148 (ck dc148 (i := 9) rfl) rfl h
    replace h := h.2
    rcases q2 with q2 | q2
    · replace h := h.1 q2
      refine G_tsIn (off := 63) (tgt := 64) o1 (by omega) (by omega) (by rw [q2]; rfl) (by decide) (ck dc148 (i := 1) rfl) ?_
      refine G_aload_n 0 rfl rfl (ck dc148 (i := 10) rfl) ?_
      refine H_getR mf148 (ck dc148 (i := 11) rfl) fw_ClearingWaves_12 fc10_0 ly0 ra0 rf0_0 (by decide) ?_
      refine H_getI mf148 (ck dc148 (i := 12) rfl) fw_ClearingWaves_128 (Or.inl fc0_2) ly1 ra1 (x := (M 1 2)) rfl ?_
      exact H_iretI mf148 (ck dc148 (i := 13) rfl) rfl h
    replace h := h.2
    rcases q2 with q2 | q2
    · replace h := h.1 q2
      refine G_tsIn (off := 71) (tgt := 72) o1 (by omega) (by omega) (by rw [q2]; rfl) (by decide) (ck dc148 (i := 1) rfl) ?_
      refine G_aload_n 0 rfl rfl (ck dc148 (i := 14) rfl) ?_
      refine H_getR mf148 (ck dc148 (i := 15) rfl) fw_ClearingWaves_12 fc10_0 ly0 ra0 rf0_0 (by decide) ?_
      refine H_vI mf148 (As := []) (st := []) (ck dc148 (i := 16) rfl) lk_ClearingWaves_316 rfl rfl (Nat.le_of_ble_eq_true rfl) ly1 ra1 ⟨Nat.le_refl _, Nat.le_refl _⟩ h (fun r4 M5 h => ?_)
      exact H_iretI mf148 (ck dc148 (i := 17) rfl) rfl h
    replace h := h.2
    rcases q2 with q2 | q2
    · replace h := h.1 q2
      refine G_tsIn (off := 79) (tgt := 80) o1 (by omega) (by omega) (by rw [q2]; rfl) (by decide) (ck dc148 (i := 1) rfl) ?_
      refine G_aload_n 0 rfl rfl (ck dc148 (i := 18) rfl) ?_
      refine H_getR mf148 (ck dc148 (i := 19) rfl) fw_ClearingWaves_12 fc10_0 ly0 ra0 rf0_0 (by decide) ?_
      refine H_vI mf148 (As := []) (st := []) (ck dc148 (i := 20) rfl) lk_ClearingWaves_319 rfl rfl (Nat.le_of_ble_eq_true rfl) ly1 ra1 ⟨Nat.le_refl _, Nat.le_refl _⟩ h (fun r6 M7 h => ?_)
      exact H_iretI mf148 (ck dc148 (i := 21) rfl) rfl h
    replace h := h.2
    rcases q2 with q2 | q2
    · replace h := h.1 q2
      refine G_tsIn (off := 87) (tgt := 88) o1 (by omega) (by omega) (by rw [q2]; rfl) (by decide) (ck dc148 (i := 1) rfl) ?_
      refine G_aload_n 0 rfl rfl (ck dc148 (i := 22) rfl) ?_
      refine H_getR mf148 (ck dc148 (i := 23) rfl) fw_ClearingWaves_76 fc10_13 ly0 ra0 rf0_13 (by decide) ?_
      refine H_getI mf148 (ck dc148 (i := 24) rfl) fw_ClearingWaves_134 (Or.inl fc7_0) ly45 ra45 (x := (M 45 0)) rfl ?_
      exact H_iretI mf148 (ck dc148 (i := 25) rfl) rfl h
    replace h := h.2
    rcases q2 with q2 | q2
    · replace h := h.1 q2
      refine G_tsIn (off := 95) (tgt := 96) o1 (by omega) (by omega) (by rw [q2]; rfl) (by decide) (ck dc148 (i := 1) rfl) ?_
      refine G_aload_n 0 rfl rfl (ck dc148 (i := 26) rfl) ?_
      refine H_getR mf148 (ck dc148 (i := 27) rfl) fw_ClearingWaves_83 fc10_14 ly0 ra0 rf0_14 (by decide) ?_
      refine H_getI mf148 (ck dc148 (i := 28) rfl) fw_ClearingWaves_308 (Or.inl fc4_0) ly47 ra47 (x := (M 47 0)) rfl ?_
      exact H_iretI mf148 (ck dc148 (i := 29) rfl) rfl h
    replace h := h.2
    · replace h := h q2
      refine G_tsIn (off := 103) (tgt := 104) o1 (by omega) (by omega) (by rw [q2]; rfl) (by decide) (ck dc148 (i := 1) rfl) ?_
      refine G_aload_n 0 rfl rfl (ck dc148 (i := 30) rfl) ?_
      refine H_getR mf148 (ck dc148 (i := 31) rfl) fw_ClearingWaves_12 fc10_0 ly0 ra0 rf0_0 (by decide) ?_
      refine H_vI mf148 (As := []) (st := []) (ck dc148 (i := 32) rfl) lk_ClearingWaves_322 rfl rfl (Nat.le_of_ble_eq_true rfl) ly1 ra1 ⟨Nat.le_refl _, Nat.le_refl _⟩ h (fun r8 M9 h => ?_)
      exact H_iretI mf148 (ck dc148 (i := 33) rfl) rfl h
theorem c_x_row (K : Nat) (a1 a2 : Int) (M : PM) (Q : Option PV → PM → Prop)
    (h : Call K jRows_has [.inr (.inr 49), .inl a1] P0 P0 M (retI fun r1 M2 => R32 r1 ∧ (¬ r1 = 0 → R32 a2 ∧ (a2 ≤ 20 → (0 ≤ a2 → Call K jRows_begin [.inr (.inr 49), .inl a1, .inl a2] P0 P0 M2 (retV fun M6 => Q (some (.inl 1)) M6)) ∧ (¬ 0 ≤ a2 → Q (some (.inl (-14))) M2)) ∧ (¬ a2 ≤ 20 → Q (some (.inl (-2))) M2)) ∧ (r1 = 0 → Q (some (.inl (-1))) M2))) : Call (K + 1) jClearingWaves_row [.inr (.inr 0), .inl a1, .inl a2] P0 P0 M Q := by
  refine Call.intro (by decide +kernel) (mfx.le mf153 (Nat.le_of_ble_eq_true rfl)) (Nat.le_refl _) rfl ?_
  refine G_aload_n 0 rfl rfl (ck dc153 (i := 0) rfl) ?_
  refine H_getR mf153 (ck dc153 (i := 1) rfl) fw_ClearingWaves_90 fc10_15 ly0 ra0 rf0_15 (by decide) ?_
  refine G_iload_n 1 rfl rfl (ck dc153 (i := 2) rfl) ?_
  refine H_vZ mf153 (As := [.inl a1]) (st := []) (ck dc153 (i := 3) rfl) lk_ClearingWaves_254 rfl rfl (Nat.le_of_ble_eq_true rfl) ly49 ra49 ⟨Nat.le_refl _, Nat.le_refl _⟩ h (fun r1 M2 h => ?_)
  obtain ⟨o3, h⟩ := h
  refine G_if_ne (tgt := 13) (by decide) o3 (ck dc153 (i := 4) rfl) (fun c => ?_) (fun c => ?_)
  · replace h := h.1 c
    refine G_iload_n 2 rfl rfl (ck dc153 (i := 7) rfl) ?_
    refine G_bipush (n := 20) rfl (ck dc153 (i := 8) rfl) ?_
    obtain ⟨o4, h⟩ := h
    refine G_icmp_le (tgt := 22) (by decide) o4 (by decide) (ck dc153 (i := 9) rfl) (fun c => ?_) (fun c => ?_)
    · replace h := h.1 c
      refine G_iload_n 2 rfl rfl (ck dc153 (i := 12) rfl) ?_
      refine G_if_ge (tgt := 29) (by decide) o4 (ck dc153 (i := 13) rfl) (fun c => ?_) (fun c => ?_)
      · replace h := h.1 c
        refine G_aload_n 0 rfl rfl (ck dc153 (i := 16) rfl) ?_
        refine H_getR mf153 (ck dc153 (i := 17) rfl) fw_ClearingWaves_90 fc10_15 ly0 ra0 rf0_15 (by decide) ?_
        refine G_iload_n 1 rfl rfl (ck dc153 (i := 18) rfl) ?_
        refine G_iload_n 2 rfl rfl (ck dc153 (i := 19) rfl) ?_
        refine H_vV mf153 (As := [.inl a1, .inl a2]) (st := []) (ck dc153 (i := 20) rfl) lk_ClearingWaves_328 rfl rfl (Nat.le_of_ble_eq_true rfl) ly49 ra49 ⟨Nat.le_refl _, Nat.le_refl _⟩ h (fun M6 h => ?_)
        refine G_iconst (ck dc153 (i := 21) rfl) ?_
        exact H_iretI mf153 (ck dc153 (i := 22) rfl) rfl h
      · replace h := h.2 c
        refine G_bipush (n := (-14)) rfl (ck dc153 (i := 14) rfl) ?_
        exact H_iretI mf153 (ck dc153 (i := 15) rfl) rfl h
    · replace h := h.2 c
      refine G_bipush (n := (-2)) rfl (ck dc153 (i := 10) rfl) ?_
      exact H_iretI mf153 (ck dc153 (i := 11) rfl) rfl h
  · replace h := h.2 c
    refine G_iconst (ck dc153 (i := 5) rfl) ?_
    exact H_iretI mf153 (ck dc153 (i := 6) rfl) rfl h
theorem c_x_set (K : Nat) (a1 a2 a3 : Int) (M : PM) (Q : Option PV → PM → Prop)
    (h : Call K jRows_has [.inr (.inr 49), .inl a1] P0 P0 M (retI fun r1 M2 => R32 r1 ∧ (¬ r1 = 0 → Call K jRows_holds [.inr (.inr 49), .inl a1] P0 P0 M2 (retI fun r4 M5 => R32 r4 ∧ (¬ r4 = 0 → Call K jRows_layAt [.inr (.inr 49), .inl a1, .inl a2, .inl 0, .inr (.inl a3)] P0 P0 M5 (retI fun r7 M8 => R32 r7 ∧ (r7 = 0 → Q (some (.inl (-13))) M8) ∧ (¬ r7 = 0 → Q (some (.inl 1)) M8))) ∧ (r4 = 0 → Q (some (.inl (-11))) M5))) ∧ (r1 = 0 → Q (some (.inl (-1))) M2))) : Call (K + 1) jClearingWaves_set [.inr (.inr 0), .inl a1, .inl a2, .inr (.inl a3)] P0 P0 M Q := by
  refine Call.intro (by decide +kernel) (mfx.le mf155 (Nat.le_of_ble_eq_true rfl)) (Nat.le_refl _) rfl ?_
  refine G_aload_n 0 rfl rfl (ck dc155 (i := 0) rfl) ?_
  refine H_getR mf155 (ck dc155 (i := 1) rfl) fw_ClearingWaves_90 fc10_15 ly0 ra0 rf0_15 (by decide) ?_
  refine G_iload_n 1 rfl rfl (ck dc155 (i := 2) rfl) ?_
  refine H_vZ mf155 (As := [.inl a1]) (st := []) (ck dc155 (i := 3) rfl) lk_ClearingWaves_254 rfl rfl (Nat.le_of_ble_eq_true rfl) ly49 ra49 ⟨Nat.le_refl _, Nat.le_refl _⟩ h (fun r1 M2 h => ?_)
  obtain ⟨o3, h⟩ := h
  refine G_if_ne (tgt := 13) (by decide) o3 (ck dc155 (i := 4) rfl) (fun c => ?_) (fun c => ?_)
  · replace h := h.1 c
    refine G_aload_n 0 rfl rfl (ck dc155 (i := 7) rfl) ?_
    refine H_getR mf155 (ck dc155 (i := 8) rfl) fw_ClearingWaves_90 fc10_15 ly0 ra0 rf0_15 (by decide) ?_
    refine G_iload_n 1 rfl rfl (ck dc155 (i := 9) rfl) ?_
    refine H_vZ mf155 (As := [.inl a1]) (st := []) (ck dc155 (i := 10) rfl) lk_ClearingWaves_257 rfl rfl (Nat.le_of_ble_eq_true rfl) ly49 ra49 ⟨Nat.le_refl _, Nat.le_refl _⟩ h (fun r4 M5 h => ?_)
    obtain ⟨o6, h⟩ := h
    refine G_if_ne (tgt := 27) (by decide) o6 (ck dc155 (i := 11) rfl) (fun c => ?_) (fun c => ?_)
    · replace h := h.1 c
      refine G_aload_n 0 rfl rfl (ck dc155 (i := 14) rfl) ?_
      refine H_getR mf155 (ck dc155 (i := 15) rfl) fw_ClearingWaves_90 fc10_15 ly0 ra0 rf0_15 (by decide) ?_
      refine G_iload_n 1 rfl rfl (ck dc155 (i := 16) rfl) ?_
      refine G_iload_n 2 rfl rfl (ck dc155 (i := 17) rfl) ?_
      refine G_iconst (ck dc155 (i := 18) rfl) ?_
      refine G_lload_n 3 rfl rfl (ck dc155 (i := 19) rfl) ?_
      refine H_vZ mf155 (As := [.inl a1, .inl a2, .inl 0, .inr (.inl a3)]) (st := []) (ck dc155 (i := 20) rfl) lk_ClearingWaves_260 rfl rfl (Nat.le_of_ble_eq_true rfl) ly49 ra49 ⟨Nat.le_refl _, Nat.le_refl _⟩ h (fun r7 M8 h => ?_)
      obtain ⟨o9, h⟩ := h
      refine G_if_eq (tgt := 45) (by decide) o9 (ck dc155 (i := 21) rfl) (fun c => ?_) (fun c => ?_)
      · replace h := h.1 c
        refine G_bipush (n := (-13)) rfl (ck dc155 (i := 24) rfl) ?_
        exact H_iretI mf155 (ck dc155 (i := 25) rfl) rfl h
      · replace h := h.2 c
        refine G_iconst (ck dc155 (i := 22) rfl) ?_
        refine G_goto (tgt := 47) (by decide) (ck dc155 (i := 23) rfl) ?_
        exact H_iretI mf155 (ck dc155 (i := 25) rfl) rfl h
    · replace h := h.2 c
      refine G_bipush (n := (-11)) rfl (ck dc155 (i := 12) rfl) ?_
      exact H_iretI mf155 (ck dc155 (i := 13) rfl) rfl h
  · replace h := h.2 c
    refine G_iconst (ck dc155 (i := 5) rfl) ?_
    exact H_iretI mf155 (ck dc155 (i := 6) rfl) rfl h
theorem c_x_get (K : Nat) (a1 a2 : Int) (M : PM) (Q : Option PV → PM → Prop)
    (h : Call K jRows_hasPlace [.inr (.inr 49), .inl a1, .inl a2] P0 P0 M (retI fun r1 M2 => R32 r1 ∧ (r1 = 0 → Q (some (.inr (.inl (-9223372036854775808)))) M2) ∧ (¬ r1 = 0 → Call K jRows_at [.inr (.inr 49), .inl a1, .inl a2] P0 P0 M2 (retL fun r4 M5 => Q (some (.inr (.inl r4))) M5)))) : Call (K + 1) jClearingWaves_get [.inr (.inr 0), .inl a1, .inl a2] P0 P0 M Q := by
  refine Call.intro (by decide +kernel) (mfx.le mf156 (Nat.le_of_ble_eq_true rfl)) (Nat.le_refl _) rfl ?_
  refine G_aload_n 0 rfl rfl (ck dc156 (i := 0) rfl) ?_
  refine H_getR mf156 (ck dc156 (i := 1) rfl) fw_ClearingWaves_90 fc10_15 ly0 ra0 rf0_15 (by decide) ?_
  refine G_iload_n 1 rfl rfl (ck dc156 (i := 2) rfl) ?_
  refine G_iload_n 2 rfl rfl (ck dc156 (i := 3) rfl) ?_
  refine H_vZ mf156 (As := [.inl a1, .inl a2]) (st := []) (ck dc156 (i := 4) rfl) lk_ClearingWaves_330 rfl rfl (Nat.le_of_ble_eq_true rfl) ly49 ra49 ⟨Nat.le_refl _, Nat.le_refl _⟩ h (fun r1 M2 h => ?_)
  obtain ⟨o3, h⟩ := h
  refine G_if_eq (tgt := 24) (by decide) o3 (ck dc156 (i := 5) rfl) (fun c => ?_) (fun c => ?_)
  · replace h := h.1 c
    refine H_ldc2 mf156 (v := (-9223372036854775808)) (ck dc156 (i := 12) rfl) kl_ClearingWaves_169 ?_
    exact H_lret mf156 (ck dc156 (i := 13) rfl) rfl h
  · replace h := h.2 c
    refine G_aload_n 0 rfl rfl (ck dc156 (i := 6) rfl) ?_
    refine H_getR mf156 (ck dc156 (i := 7) rfl) fw_ClearingWaves_90 fc10_15 ly0 ra0 rf0_15 (by decide) ?_
    refine G_iload_n 1 rfl rfl (ck dc156 (i := 8) rfl) ?_
    refine G_iload_n 2 rfl rfl (ck dc156 (i := 9) rfl) ?_
    refine H_vL mf156 (As := [.inl a1, .inl a2]) (st := []) (ck dc156 (i := 10) rfl) lk_ClearingWaves_333 rfl rfl (Nat.le_of_ble_eq_true rfl) ly49 ra49 ⟨Nat.le_refl _, Nat.le_refl _⟩ h (fun r4 M5 h => ?_)
    refine G_goto (tgt := 27) (by decide) (ck dc156 (i := 11) rfl) ?_
    exact H_lret mf156 (ck dc156 (i := 13) rfl) rfl h
theorem c_x_lay (K : Nat) (a1 a2 : Int) (M : PM) (Q : Option PV → PM → Prop)
    (h : Call K jRows_has [.inr (.inr 49), .inl a1] P0 P0 M (retI fun r1 M2 => R32 r1 ∧ (¬ r1 = 0 → Call K jRows_holds [.inr (.inr 49), .inl a1] P0 P0 M2 (retI fun r4 M5 => R32 r4 ∧ (¬ r4 = 0 → Call K jClearingWaves_cleared [.inr (.inr 0)] P0 P0 M5 (retR fun r7 M8 => r7 = 11 ∧ G none (K + 1) jClearingWaves_lay 49 [(0, .inr (.inr 0)), (1, .inl a1), (2, .inl a2), (3, .inr (.inr 11)), (4, .inl (3 * (M8 1 0))), (5, .inl 1), (6, .inl 0)] [] P0 P0 M8 Q)) ∧ (r4 = 0 → Q (some (.inl (-11))) M5))) ∧ (r1 = 0 → Q (some (.inl (-1))) M2))) : Call (K + 1) jClearingWaves_lay [.inr (.inr 0), .inl a1, .inl a2] P0 P0 M Q := by
  refine Call.intro (by decide +kernel) (mfx.le mf158 (Nat.le_of_ble_eq_true rfl)) (Nat.le_refl _) rfl ?_
  refine G_aload_n 0 rfl rfl (ck dc158 (i := 0) rfl) ?_
  refine H_getR mf158 (ck dc158 (i := 1) rfl) fw_ClearingWaves_90 fc10_15 ly0 ra0 rf0_15 (by decide) ?_
  refine G_iload_n 1 rfl rfl (ck dc158 (i := 2) rfl) ?_
  refine H_vZ mf158 (As := [.inl a1]) (st := []) (ck dc158 (i := 3) rfl) lk_ClearingWaves_254 rfl rfl (Nat.le_of_ble_eq_true rfl) ly49 ra49 ⟨Nat.le_refl _, Nat.le_refl _⟩ h (fun r1 M2 h => ?_)
  obtain ⟨o3, h⟩ := h
  refine G_if_ne (tgt := 13) (by decide) o3 (ck dc158 (i := 4) rfl) (fun c => ?_) (fun c => ?_)
  · replace h := h.1 c
    refine G_aload_n 0 rfl rfl (ck dc158 (i := 7) rfl) ?_
    refine H_getR mf158 (ck dc158 (i := 8) rfl) fw_ClearingWaves_90 fc10_15 ly0 ra0 rf0_15 (by decide) ?_
    refine G_iload_n 1 rfl rfl (ck dc158 (i := 9) rfl) ?_
    refine H_vZ mf158 (As := [.inl a1]) (st := []) (ck dc158 (i := 10) rfl) lk_ClearingWaves_257 rfl rfl (Nat.le_of_ble_eq_true rfl) ly49 ra49 ⟨Nat.le_refl _, Nat.le_refl _⟩ h (fun r4 M5 h => ?_)
    obtain ⟨o6, h⟩ := h
    refine G_if_ne (tgt := 27) (by decide) o6 (ck dc158 (i := 11) rfl) (fun c => ?_) (fun c => ?_)
    · replace h := h.1 c
      refine G_aload_n 0 rfl rfl (ck dc158 (i := 14) rfl) ?_
      refine H_vR mf158 (As := []) (st := []) (ck dc158 (i := 15) rfl) lk_ClearingWaves_145 rfl rfl (Nat.le_of_ble_eq_true rfl) ly0 ra0 ⟨Nat.le_refl _, Nat.le_refl _⟩ h (fun r7 M8 h => ?_)
      obtain ⟨rfl, h⟩ := h
      refine G_astore_n rfl (mfx.lt mf158 (Nat.le_of_ble_eq_true rfl)) rfl (ck dc158 (i := 16) rfl) ?_
      refine G_iconst (ck dc158 (i := 17) rfl) ?_
      refine G_aload_n 1 rfl rfl (ck dc158 (i := 18) rfl) ?_
      refine H_getR mf158 (ck dc158 (i := 19) rfl) fw_ClearingWaves_12 fc10_0 ly0 ra0 rf0_0 (by decide) ?_
      refine H_getI mf158 (ck dc158 (i := 20) rfl) fw_ClearingWaves_207 (Or.inl fc0_0) ly1 ra1 (x := (M8 1 0)) rfl ?_
      refine G_imul (ck dc158 (i := 21) rfl) ?_
      refine G_istore (mfx.lt mf158 (Nat.le_of_ble_eq_true rfl)) rfl (ck dc158 (i := 22) rfl) ?_
      refine G_iconst (ck dc158 (i := 23) rfl) ?_
      refine G_istore (mfx.lt mf158 (Nat.le_of_ble_eq_true rfl)) rfl (ck dc158 (i := 24) rfl) ?_
      refine G_iconst (ck dc158 (i := 25) rfl) ?_
      refine G_istore (mfx.lt mf158 (Nat.le_of_ble_eq_true rfl)) rfl (ck dc158 (i := 26) rfl) ?_
      exact G_sub [4, 5, 6, 3, 2, 1, 0] rfl h
    · replace h := h.2 c
      refine G_bipush (n := (-11)) rfl (ck dc158 (i := 12) rfl) ?_
      exact H_iretI mf158 (ck dc158 (i := 13) rfl) rfl h
  · replace h := h.2 c
    refine G_iconst (ck dc158 (i := 5) rfl) ?_
    exact H_iretI mf158 (ck dc158 (i := 6) rfl) rfl h
theorem g_x_lay_49 (K : Nat) (l1 l2 l4 l5 l6 : Int) (M : PM) (Q : Option PV → PM → Prop)
    (h : R32 l6 ∧ R32 l4 ∧ (l4 ≤ l6 → Call K jClearing_bottom [.inr (.inr 11), .inl (M 11 0)] P0 P0 M (retL fun r3 M4 => Call K jRows_layAt [.inr (.inr 49), .inl l1, .inl l2, .inl l4, .inr (.inl r3)] P0 P0 M4 (retI fun r5 M6 => R32 r5 ∧ (r5 = 0 → Q (some (.inl (-13))) M6) ∧ (¬ r5 = 0 → R32 l5 ∧ (l5 = 0 → Q (some (.inl (-13))) M6) ∧ (¬ l5 = 0 → Q (some (.inl (l4 + 1))) M6))))) ∧ (¬ l4 ≤ l6 → Call K jClearing_top [.inr (.inr 11), .inl (M 11 0), .inl (Int.tdiv l6 3), .inl (Int.tmod l6 3)] P0 P0 M (retL fun r9 M10 => Call K jRows_layAt [.inr (.inr 49), .inl l1, .inl l2, .inl l6, .inr (.inl r9)] P0 P0 M10 (retI fun r11 M12 => R32 r11 ∧ (r11 = 0 → G none (K + 1) jClearingWaves_lay 49 [(0, .inr (.inr 0)), (1, .inl l1), (2, .inl l2), (3, .inr (.inr 11)), (4, .inl l4), (5, .inl 0), (6, .inl (l6 + 1))] [] P0 P0 M12 Q) ∧ (¬ r11 = 0 → R32 l5 ∧ (l5 = 0 → G none (K + 1) jClearingWaves_lay 49 [(0, .inr (.inr 0)), (1, .inl l1), (2, .inl l2), (3, .inr (.inr 11)), (4, .inl l4), (5, .inl 0), (6, .inl (l6 + 1))] [] P0 P0 M12 Q) ∧ (¬ l5 = 0 → G none (K + 1) jClearingWaves_lay 49 [(0, .inr (.inr 0)), (1, .inl l1), (2, .inl l2), (3, .inr (.inr 11)), (4, .inl l4), (5, .inl 1), (6, .inl (l6 + 1))] [] P0 P0 M12 Q)))))) : G none (K + 1) jClearingWaves_lay 49 [(0, .inr (.inr 0)), (1, .inl l1), (2, .inl l2), (3, .inr (.inr 11)), (4, .inl l4), (5, .inl l5), (6, .inl l6)] [] P0 P0 M Q := by
  refine G_iload 6 rfl (ck dc158 (i := 27) rfl) ?_
  refine G_iload 4 rfl (ck dc158 (i := 28) rfl) ?_
  obtain ⟨o1, h⟩ := h
  obtain ⟨o2, h⟩ := h
  refine G_icmp_ge (tgt := 108) (by decide) o1 o2 (ck dc158 (i := 29) rfl) (fun c => ?_) (fun c => ?_)
  · replace h := h.1 c
    refine G_aload_n 0 rfl rfl (ck dc158 (i := 57) rfl) ?_
    refine H_getR mf158 (ck dc158 (i := 58) rfl) fw_ClearingWaves_90 fc10_15 ly0 ra0 rf0_15 (by decide) ?_
    refine G_iload_n 1 rfl rfl (ck dc158 (i := 59) rfl) ?_
    refine G_iload_n 2 rfl rfl (ck dc158 (i := 60) rfl) ?_
    refine G_iload 4 rfl (ck dc158 (i := 61) rfl) ?_
    refine G_aload_n 3 rfl rfl (ck dc158 (i := 62) rfl) ?_
    refine G_aload_n 3 rfl rfl (ck dc158 (i := 63) rfl) ?_
    refine H_getI mf158 (ck dc158 (i := 64) rfl) fw_ClearingWaves_149 (Or.inl fc1_0) ly11 ra11 (x := (M 11 0)) rfl ?_
    refine H_vL mf158 (As := [.inl (M 11 0)]) (st := [.inl l4, .inl l2, .inl l1, .inr (.inr 49)]) (ck dc158 (i := 65) rfl) lk_ClearingWaves_175 rfl rfl (Nat.le_of_ble_eq_true rfl) ly11 ra11 ⟨Nat.le_refl _, Nat.le_refl _⟩ h (fun r3 M4 h => ?_)
    refine H_vZ mf158 (As := [.inl l1, .inl l2, .inl l4, .inr (.inl r3)]) (st := []) (ck dc158 (i := 66) rfl) lk_ClearingWaves_260 rfl rfl (Nat.le_of_ble_eq_true rfl) ly49 ra49 ⟨Nat.le_refl _, Nat.le_refl _⟩ h (fun r5 M6 h => ?_)
    obtain ⟨o7, h⟩ := h
    refine G_if_eq (tgt := 139) (by decide) o7 (ck dc158 (i := 67) rfl) (fun c => ?_) (fun c => ?_)
    · replace h := h.1 c
      refine G_iconst (ck dc158 (i := 72) rfl) ?_
      refine G_istore (mfx.lt mf158 (Nat.le_of_ble_eq_true rfl)) rfl (ck dc158 (i := 73) rfl) ?_
      refine G_iload 0 rfl (ck dc158 (i := 74) rfl) ?_
      refine G_if_eq (tgt := 154) (by decide) (by decide) (ck dc158 (i := 75) rfl) (fun c => ?_) (fun c => absurd c (by decide))
      refine G_bipush (n := (-13)) rfl (ck dc158 (i := 80) rfl) ?_
      exact H_iretI mf158 (ck dc158 (i := 81) rfl) rfl h
    · replace h := h.2 c
      refine G_iload 5 rfl (ck dc158 (i := 68) rfl) ?_
      obtain ⟨o8, h⟩ := h
      refine G_if_eq (tgt := 139) (by decide) o8 (ck dc158 (i := 69) rfl) (fun c => ?_) (fun c => ?_)
      · replace h := h.1 c
        refine G_iconst (ck dc158 (i := 72) rfl) ?_
        refine G_istore (mfx.lt mf158 (Nat.le_of_ble_eq_true rfl)) rfl (ck dc158 (i := 73) rfl) ?_
        refine G_iload 0 rfl (ck dc158 (i := 74) rfl) ?_
        refine G_if_eq (tgt := 154) (by decide) (by decide) (ck dc158 (i := 75) rfl) (fun c => ?_) (fun c => absurd c (by decide))
        refine G_bipush (n := (-13)) rfl (ck dc158 (i := 80) rfl) ?_
        exact H_iretI mf158 (ck dc158 (i := 81) rfl) rfl h
      · replace h := h.2 c
        refine G_iconst (ck dc158 (i := 70) rfl) ?_
        refine G_goto (tgt := 140) (by decide) (ck dc158 (i := 71) rfl) ?_
        refine G_istore (mfx.lt mf158 (Nat.le_of_ble_eq_true rfl)) rfl (ck dc158 (i := 73) rfl) ?_
        refine G_iload 0 rfl (ck dc158 (i := 74) rfl) ?_
        refine G_if_eq (tgt := 154) (by decide) (by decide) (ck dc158 (i := 75) rfl) (fun c => absurd c (by decide)) (fun c => ?_)
        refine G_iload 5 rfl (ck dc158 (i := 76) rfl) ?_
        refine G_iconst (ck dc158 (i := 77) rfl) ?_
        refine G_iadd (ck dc158 (i := 78) rfl) ?_
        refine G_goto (tgt := 156) (by decide) (ck dc158 (i := 79) rfl) ?_
        exact H_iretI mf158 (ck dc158 (i := 81) rfl) rfl h
  · replace h := h.2 c
    refine G_aload_n 3 rfl rfl (ck dc158 (i := 30) rfl) ?_
    refine G_aload_n 3 rfl rfl (ck dc158 (i := 31) rfl) ?_
    refine H_getI mf158 (ck dc158 (i := 32) rfl) fw_ClearingWaves_149 (Or.inl fc1_0) ly11 ra11 (x := (M 11 0)) rfl ?_
    refine G_iload 6 rfl (ck dc158 (i := 33) rfl) ?_
    refine G_iconst (ck dc158 (i := 34) rfl) ?_
    refine G_idiv o1 (by decide) (by decide) (ck dc158 (i := 35) rfl) ?_
    refine G_iload 6 rfl (ck dc158 (i := 36) rfl) ?_
    refine G_iconst (ck dc158 (i := 37) rfl) ?_
    refine G_irem o1 (by decide) (by decide) (ck dc158 (i := 38) rfl) ?_
    refine H_vL mf158 (As := [.inl (M 11 0), .inl (Int.tdiv l6 3), .inl (Int.tmod l6 3)]) (st := []) (ck dc158 (i := 39) rfl) lk_ClearingWaves_171 rfl rfl (Nat.le_of_ble_eq_true rfl) ly11 ra11 ⟨Nat.le_refl _, Nat.le_refl _⟩ h (fun r9 M10 h => ?_)
    refine G_lstore (mfx.lt mf158 (Nat.le_of_ble_eq_true rfl)) rfl (ck dc158 (i := 40) rfl) ?_
    refine G_aload_n 1 rfl rfl (ck dc158 (i := 41) rfl) ?_
    refine H_getR mf158 (ck dc158 (i := 42) rfl) fw_ClearingWaves_90 fc10_15 ly0 ra0 rf0_15 (by decide) ?_
    refine G_iload_n 2 rfl rfl (ck dc158 (i := 43) rfl) ?_
    refine G_iload_n 3 rfl rfl (ck dc158 (i := 44) rfl) ?_
    refine G_iload 7 rfl (ck dc158 (i := 45) rfl) ?_
    refine G_lload 0 rfl (ck dc158 (i := 46) rfl) ?_
    refine H_vZ mf158 (As := [.inl l1, .inl l2, .inl l6, .inr (.inl r9)]) (st := []) (ck dc158 (i := 47) rfl) lk_ClearingWaves_260 rfl rfl (Nat.le_of_ble_eq_true rfl) ly49 ra49 ⟨Nat.le_refl _, Nat.le_refl _⟩ h (fun r11 M12 h => ?_)
    obtain ⟨o13, h⟩ := h
    refine G_if_eq (tgt := 99) (by decide) o13 (ck dc158 (i := 48) rfl) (fun c => ?_) (fun c => ?_)
    · replace h := h.1 c
      refine G_iconst (ck dc158 (i := 53) rfl) ?_
      refine G_istore (mfx.lt mf158 (Nat.le_of_ble_eq_true rfl)) rfl (ck dc158 (i := 54) rfl) ?_
      refine G_iinc 7 rfl (mfx.lt mf158 (Nat.le_of_ble_eq_true rfl)) rfl (ck dc158 (i := 55) rfl) ?_
      refine G_goto (tgt := 49) (by decide) (ck dc158 (i := 56) rfl) ?_
      exact G_sub [3, 4, 5, 6, 7, 1, 0] rfl h
    · replace h := h.2 c
      refine G_iload 6 rfl (ck dc158 (i := 49) rfl) ?_
      obtain ⟨o14, h⟩ := h
      refine G_if_eq (tgt := 99) (by decide) o14 (ck dc158 (i := 50) rfl) (fun c => ?_) (fun c => ?_)
      · replace h := h.1 c
        refine G_iconst (ck dc158 (i := 53) rfl) ?_
        refine G_istore (mfx.lt mf158 (Nat.le_of_ble_eq_true rfl)) rfl (ck dc158 (i := 54) rfl) ?_
        refine G_iinc 7 rfl (mfx.lt mf158 (Nat.le_of_ble_eq_true rfl)) rfl (ck dc158 (i := 55) rfl) ?_
        refine G_goto (tgt := 49) (by decide) (ck dc158 (i := 56) rfl) ?_
        exact G_sub [3, 4, 5, 6, 7, 1, 0] rfl h
      · replace h := h.2 c
        refine G_iconst (ck dc158 (i := 51) rfl) ?_
        refine G_goto (tgt := 100) (by decide) (ck dc158 (i := 52) rfl) ?_
        refine G_istore (mfx.lt mf158 (Nat.le_of_ble_eq_true rfl)) rfl (ck dc158 (i := 54) rfl) ?_
        refine G_iinc 7 rfl (mfx.lt mf158 (Nat.le_of_ble_eq_true rfl)) rfl (ck dc158 (i := 55) rfl) ?_
        refine G_goto (tgt := 49) (by decide) (ck dc158 (i := 56) rfl) ?_
        exact G_sub [3, 4, 5, 6, 7, 1, 0] rfl h
theorem c_x_judge (K : Nat) (a1 a2 : Int) (M : PM) (Q : Option PV → PM → Prop)
    (h : Call K jRows_has [.inr (.inr 49), .inl a1] P0 P0 M (retI fun r1 M2 => R32 r1 ∧ (¬ r1 = 0 → Call K jRows_holds [.inr (.inr 49), .inl a1] P0 P0 M2 (retI fun r4 M5 => R32 r4 ∧ (r4 = 0 → Q (some (.inl (-3))) M5) ∧ (¬ r4 = 0 → R32 a2 ∧ (a2 < 0 → Q (some (.inl (-3))) M5) ∧ (¬ a2 < 0 → Call K jRows_size [.inr (.inr 49), .inl a1] P0 P0 M5 (retI fun r8 M9 => R32 ((r8 - (3 * (M2 1 0))) - 1) ∧ (a2 ≤ ((r8 - (3 * (M2 1 0))) - 1) → Call K jRows_at [.inr (.inr 49), .inl a1, .inl (a2 + (3 * (M2 1 0)))] P0 P0 M9 (retL fun r11 M12 => G none (K + 1) jClearingWaves_judge 78 [(0, .inr (.inr 0)), (1, .inl a1), (2, .inl a2), (3, .inl (3 * (M2 1 0))), (4, .inl 0)] [] P0 P0 (mset M12 43 0 r11) Q)) ∧ (¬ a2 ≤ ((r8 - (3 * (M2 1 0))) - 1) → Q (some (.inl (-3))) M9)))))) ∧ (r1 = 0 → Q (some (.inl (-1))) M2))) : Call (K + 1) jClearingWaves_judge [.inr (.inr 0), .inl a1, .inl a2] P0 P0 M Q := by
  refine Call.intro (by decide +kernel) (mfx.le mf159 (Nat.le_of_ble_eq_true rfl)) (Nat.le_refl _) rfl ?_
  refine G_aload_n 0 rfl rfl (ck dc159 (i := 0) rfl) ?_
  refine H_getR mf159 (ck dc159 (i := 1) rfl) fw_ClearingWaves_90 fc10_15 ly0 ra0 rf0_15 (by decide) ?_
  refine G_iload_n 1 rfl rfl (ck dc159 (i := 2) rfl) ?_
  refine H_vZ mf159 (As := [.inl a1]) (st := []) (ck dc159 (i := 3) rfl) lk_ClearingWaves_254 rfl rfl (Nat.le_of_ble_eq_true rfl) ly49 ra49 ⟨Nat.le_refl _, Nat.le_refl _⟩ h (fun r1 M2 h => ?_)
  obtain ⟨o3, h⟩ := h
  refine G_if_ne (tgt := 13) (by decide) o3 (ck dc159 (i := 4) rfl) (fun c => ?_) (fun c => ?_)
  · replace h := h.1 c
    refine G_iconst (ck dc159 (i := 7) rfl) ?_
    refine G_aload_n 0 rfl rfl (ck dc159 (i := 8) rfl) ?_
    refine H_getR mf159 (ck dc159 (i := 9) rfl) fw_ClearingWaves_12 fc10_0 ly0 ra0 rf0_0 (by decide) ?_
    refine H_getI mf159 (ck dc159 (i := 10) rfl) fw_ClearingWaves_207 (Or.inl fc0_0) ly1 ra1 (x := (M2 1 0)) rfl ?_
    refine G_imul (ck dc159 (i := 11) rfl) ?_
    refine G_istore_n rfl (mfx.lt mf159 (Nat.le_of_ble_eq_true rfl)) rfl (ck dc159 (i := 12) rfl) ?_
    refine G_aload_n 1 rfl rfl (ck dc159 (i := 13) rfl) ?_
    refine H_getR mf159 (ck dc159 (i := 14) rfl) fw_ClearingWaves_90 fc10_15 ly0 ra0 rf0_15 (by decide) ?_
    refine G_iload_n 2 rfl rfl (ck dc159 (i := 15) rfl) ?_
    refine H_vZ mf159 (As := [.inl a1]) (st := []) (ck dc159 (i := 16) rfl) lk_ClearingWaves_257 rfl rfl (Nat.le_of_ble_eq_true rfl) ly49 ra49 ⟨Nat.le_refl _, Nat.le_refl _⟩ h (fun r4 M5 h => ?_)
    obtain ⟨o6, h⟩ := h
    refine G_if_eq (tgt := 54) (by decide) o6 (ck dc159 (i := 17) rfl) (fun c => ?_) (fun c => ?_)
    · replace h := h.1 c
      refine G_bipush (n := (-3)) rfl (ck dc159 (i := 30) rfl) ?_
      exact H_iretI mf159 (ck dc159 (i := 31) rfl) rfl h
    · replace h := h.2 c
      refine G_iload_n 3 rfl rfl (ck dc159 (i := 18) rfl) ?_
      obtain ⟨o7, h⟩ := h
      refine G_if_lt (tgt := 54) (by decide) o7 (ck dc159 (i := 19) rfl) (fun c => ?_) (fun c => ?_)
      · replace h := h.1 c
        refine G_bipush (n := (-3)) rfl (ck dc159 (i := 30) rfl) ?_
        exact H_iretI mf159 (ck dc159 (i := 31) rfl) rfl h
      · replace h := h.2 c
        refine G_iload_n 3 rfl rfl (ck dc159 (i := 20) rfl) ?_
        refine G_aload_n 1 rfl rfl (ck dc159 (i := 21) rfl) ?_
        refine H_getR mf159 (ck dc159 (i := 22) rfl) fw_ClearingWaves_90 fc10_15 ly0 ra0 rf0_15 (by decide) ?_
        refine G_iload_n 2 rfl rfl (ck dc159 (i := 23) rfl) ?_
        refine H_vI mf159 (As := [.inl a1]) (st := [.inl a2]) (ck dc159 (i := 24) rfl) lk_ClearingWaves_336 rfl rfl (Nat.le_of_ble_eq_true rfl) ly49 ra49 ⟨Nat.le_refl _, Nat.le_refl _⟩ h (fun r8 M9 h => ?_)
        refine G_iload_n 0 rfl rfl (ck dc159 (i := 25) rfl) ?_
        refine G_isub (ck dc159 (i := 26) rfl) ?_
        refine G_iconst (ck dc159 (i := 27) rfl) ?_
        refine G_isub (ck dc159 (i := 28) rfl) ?_
        obtain ⟨o10, h⟩ := h
        refine G_icmp_le (tgt := 57) (by decide) o7 o10 (ck dc159 (i := 29) rfl) (fun c => ?_) (fun c => ?_)
        · replace h := h.1 c
          refine G_aload_n 1 rfl rfl (ck dc159 (i := 32) rfl) ?_
          refine H_getR mf159 (ck dc159 (i := 33) rfl) fw_ClearingWaves_69 fc10_12 ly0 ra0 rf0_12 (by decide) ?_
          refine G_aload_n 1 rfl rfl (ck dc159 (i := 34) rfl) ?_
          refine H_getR mf159 (ck dc159 (i := 35) rfl) fw_ClearingWaves_90 fc10_15 ly0 ra0 rf0_15 (by decide) ?_
          refine G_iload_n 2 rfl rfl (ck dc159 (i := 36) rfl) ?_
          refine G_iload_n 3 rfl rfl (ck dc159 (i := 37) rfl) ?_
          refine G_iload_n 0 rfl rfl (ck dc159 (i := 38) rfl) ?_
          refine G_iadd (ck dc159 (i := 39) rfl) ?_
          refine H_vL mf159 (As := [.inl a1, .inl (a2 + (3 * (M2 1 0)))]) (st := [.inr (.inr 43)]) (ck dc159 (i := 40) rfl) lk_ClearingWaves_333 rfl rfl (Nat.le_of_ble_eq_true rfl) ly49 ra49 ⟨Nat.le_refl _, Nat.le_refl _⟩ h (fun r11 M12 h => ?_)
          refine H_putL mf159 (ck dc159 (i := 41) rfl) fw_ClearingWaves_339 fc8_0 ly43 ra43 (Or.inl rfl) ?_
          refine G_iconst (ck dc159 (i := 42) rfl) ?_
          refine G_istore (mfx.lt mf159 (Nat.le_of_ble_eq_true rfl)) rfl (ck dc159 (i := 43) rfl) ?_
          exact G_sub [2, 3, 4, 1, 0] rfl h
        · replace h := h.2 c
          refine G_bipush (n := (-3)) rfl (ck dc159 (i := 30) rfl) ?_
          exact H_iretI mf159 (ck dc159 (i := 31) rfl) rfl h
  · replace h := h.2 c
    refine G_iconst (ck dc159 (i := 5) rfl) ?_
    exact H_iretI mf159 (ck dc159 (i := 6) rfl) rfl h
theorem g_x_judge_78 (K : Nat) (l1 l2 l3 l4 : Int) (M : PM) (Q : Option PV → PM → Prop)
    (h : R32 l4 ∧ R32 l3 ∧ (l3 ≤ l4 → Call K jTold_areFractions [.inr (.inr 43), .inl l3] P0 P0 M (retI fun r3 M4 => R32 r3 ∧ (¬ r3 = 0 → Call K jClearingWaves_cleared [.inr (.inr 0)] P0 P0 M4 (retR fun r6 M7 => r6 = 11 ∧ Call K jTold_areThose [.inr (.inr 43), .inr (.inr 11), .inl l3] P0 P0 M7 (retI fun r8 M9 => R32 r8 ∧ (r8 = 0 → Call K jTold_agree [.inr (.inr 43), .inr (.inr 1)] P0 P0 M9 (retI fun r11 M12 => R32 r11 ∧ (r11 = 0 → Q (some (.inl 0)) M12) ∧ (¬ r11 = 0 → Q (some (.inl 1)) M12))) ∧ (¬ r8 = 0 → Q (some (.inl 2)) M9)))) ∧ (r3 = 0 → Q (some (.inl (-2))) M4))) ∧ (¬ l3 ≤ l4 → Call K jRows_at [.inr (.inr 49), .inl l1, .inl (l2 + l4)] P0 P0 M (retL fun r14 M15 => (0 ≤ l4 ∧ l4 < 15) ∧ G none (K + 1) jClearingWaves_judge 78 [(0, .inr (.inr 0)), (1, .inl l1), (2, .inl l2), (3, .inl l3), (4, .inl (l4 + 1))] [] P0 P0 (mset M15 44 l4 r14) Q))) : G none (K + 1) jClearingWaves_judge 78 [(0, .inr (.inr 0)), (1, .inl l1), (2, .inl l2), (3, .inl l3), (4, .inl l4)] [] P0 P0 M Q := by
  refine G_iload 4 rfl (ck dc159 (i := 44) rfl) ?_
  refine G_iload_n 3 rfl rfl (ck dc159 (i := 45) rfl) ?_
  obtain ⟨o1, h⟩ := h
  obtain ⟨o2, h⟩ := h
  refine G_icmp_ge (tgt := 112) (by decide) o1 o2 (ck dc159 (i := 46) rfl) (fun c => ?_) (fun c => ?_)
  · replace h := h.1 c
    refine G_aload_n 0 rfl rfl (ck dc159 (i := 61) rfl) ?_
    refine H_getR mf159 (ck dc159 (i := 62) rfl) fw_ClearingWaves_69 fc10_12 ly0 ra0 rf0_12 (by decide) ?_
    refine G_iload_n 3 rfl rfl (ck dc159 (i := 63) rfl) ?_
    refine H_vZ mf159 (As := [.inl l3]) (st := []) (ck dc159 (i := 64) rfl) lk_ClearingWaves_345 rfl rfl (Nat.le_of_ble_eq_true rfl) ly43 ra43 ⟨Nat.le_refl _, Nat.le_refl _⟩ h (fun r3 M4 h => ?_)
    obtain ⟨o5, h⟩ := h
    refine G_if_ne (tgt := 126) (by decide) o5 (ck dc159 (i := 65) rfl) (fun c => ?_) (fun c => ?_)
    · replace h := h.1 c
      refine G_aload_n 0 rfl rfl (ck dc159 (i := 68) rfl) ?_
      refine H_getR mf159 (ck dc159 (i := 69) rfl) fw_ClearingWaves_69 fc10_12 ly0 ra0 rf0_12 (by decide) ?_
      refine G_aload_n 0 rfl rfl (ck dc159 (i := 70) rfl) ?_
      refine H_vR mf159 (As := []) (st := [.inr (.inr 43)]) (ck dc159 (i := 71) rfl) lk_ClearingWaves_145 rfl rfl (Nat.le_of_ble_eq_true rfl) ly0 ra0 ⟨Nat.le_refl _, Nat.le_refl _⟩ h (fun r6 M7 h => ?_)
      obtain ⟨rfl, h⟩ := h
      refine G_iload_n 3 rfl rfl (ck dc159 (i := 72) rfl) ?_
      refine H_vZ mf159 (As := [.inr (.inr 11), .inl l3]) (st := []) (ck dc159 (i := 73) rfl) lk_ClearingWaves_348 rfl rfl (Nat.le_of_ble_eq_true rfl) ly43 ra43 ⟨Nat.le_refl _, Nat.le_refl _⟩ h (fun r8 M9 h => ?_)
      obtain ⟨o10, h⟩ := h
      refine G_if_eq (tgt := 143) (by decide) o10 (ck dc159 (i := 74) rfl) (fun c => ?_) (fun c => ?_)
      · replace h := h.1 c
        refine G_aload_n 0 rfl rfl (ck dc159 (i := 77) rfl) ?_
        refine H_getR mf159 (ck dc159 (i := 78) rfl) fw_ClearingWaves_69 fc10_12 ly0 ra0 rf0_12 (by decide) ?_
        refine G_aload_n 0 rfl rfl (ck dc159 (i := 79) rfl) ?_
        refine H_getR mf159 (ck dc159 (i := 80) rfl) fw_ClearingWaves_12 fc10_0 ly0 ra0 rf0_0 (by decide) ?_
        refine H_vZ mf159 (As := [.inr (.inr 1)]) (st := []) (ck dc159 (i := 81) rfl) lk_ClearingWaves_352 rfl rfl (Nat.le_of_ble_eq_true rfl) ly43 ra43 ⟨Nat.le_refl _, Nat.le_refl _⟩ h (fun r11 M12 h => ?_)
        obtain ⟨o13, h⟩ := h
        refine G_if_eq (tgt := 161) (by decide) o13 (ck dc159 (i := 82) rfl) (fun c => ?_) (fun c => ?_)
        · replace h := h.1 c
          refine G_iconst (ck dc159 (i := 85) rfl) ?_
          exact H_iretI mf159 (ck dc159 (i := 86) rfl) rfl h
        · replace h := h.2 c
          refine G_iconst (ck dc159 (i := 83) rfl) ?_
          refine G_goto (tgt := 162) (by decide) (ck dc159 (i := 84) rfl) ?_
          exact H_iretI mf159 (ck dc159 (i := 86) rfl) rfl h
      · replace h := h.2 c
        refine G_iconst (ck dc159 (i := 75) rfl) ?_
        exact H_iretI mf159 (ck dc159 (i := 76) rfl) rfl h
    · replace h := h.2 c
      refine G_bipush (n := (-2)) rfl (ck dc159 (i := 66) rfl) ?_
      exact H_iretI mf159 (ck dc159 (i := 67) rfl) rfl h
  · replace h := h.2 c
    refine G_aload_n 0 rfl rfl (ck dc159 (i := 47) rfl) ?_
    refine H_getR mf159 (ck dc159 (i := 48) rfl) fw_ClearingWaves_69 fc10_12 ly0 ra0 rf0_12 (by decide) ?_
    refine H_getR mf159 (ck dc159 (i := 49) rfl) fw_ClearingWaves_342 fc8_1 ly43 ra43 rf43_1 (by decide) ?_
    refine G_iload 4 rfl (ck dc159 (i := 50) rfl) ?_
    refine G_aload_n 0 rfl rfl (ck dc159 (i := 51) rfl) ?_
    refine H_getR mf159 (ck dc159 (i := 52) rfl) fw_ClearingWaves_90 fc10_15 ly0 ra0 rf0_15 (by decide) ?_
    refine G_iload_n 1 rfl rfl (ck dc159 (i := 53) rfl) ?_
    refine G_iload_n 2 rfl rfl (ck dc159 (i := 54) rfl) ?_
    refine G_iload 4 rfl (ck dc159 (i := 55) rfl) ?_
    refine G_iadd (ck dc159 (i := 56) rfl) ?_
    refine H_vL mf159 (As := [.inl l1, .inl (l2 + l4)]) (st := [.inl l4, .inr (.inr 44)]) (ck dc159 (i := 57) rfl) lk_ClearingWaves_333 rfl rfl (Nat.le_of_ble_eq_true rfl) ly49 ra49 ⟨Nat.le_refl _, Nat.le_refl _⟩ h (fun r14 M15 h => ?_)
    obtain ⟨o16, h⟩ := h
    refine G_last (ck dc159 (i := 58) rfl) ra44 ly44 (by decide) o16 ?_
    refine G_iinc 4 rfl (mfx.lt mf159 (Nat.le_of_ble_eq_true rfl)) rfl (ck dc159 (i := 59) rfl) ?_
    refine G_goto (tgt := 78) (by decide) (ck dc159 (i := 60) rfl) ?_
    exact G_sub [1, 2, 3, 4, 0] rfl h
