theorem c_x_noteChange (K : Nat) (M : PM) (Q : Option PV → PM → Prop)
    (h : Q none (mset (mset M 0 7 1) 0 9 1)) : Call (K + 1) jClearingWaves_noteChange [.inr (.inr 0)] P0 P0 M Q := by
  refine Call.intro (by decide +kernel) (mfx.le mf17 (Nat.le_of_ble_eq_true rfl)) (Nat.le_refl _) rfl ?_
  refine G_aload_n 0 rfl rfl (ck dc17 (i := 0) rfl) ?_
  refine G_iconst (ck dc17 (i := 1) rfl) ?_
  refine H_putZ mf17 (ck dc17 (i := 2) rfl) fw_ClearingWaves_94 fc10_7 ly0 ra0 (Or.inl rfl) (Or.inr rfl) ?_
  refine G_aload_n 0 rfl rfl (ck dc17 (i := 3) rfl) ?_
  refine G_iconst (ck dc17 (i := 4) rfl) ?_
  refine H_putZ mf17 (ck dc17 (i := 5) rfl) fw_ClearingWaves_98 fc10_9 ly0 ra0 (Or.inl rfl) (Or.inr rfl) ?_
  exact H_vret mf17 (ck dc17 (i := 6) rfl) rfl h
theorem c_x_houses (K : Nat) (a1 : Int) (M : PM) (Q : Option PV → PM → Prop)
    (h : R32 a1 ∧ (a1 < 2 → Q (some (.inl (-2))) M) ∧ (¬ a1 < 2 → (a1 ≤ 5 → Call K jBook_begin [.inr (.inr 1), .inl a1] P0 P0 M (retV fun M3 => Call K jClearingWaves_noteChange [.inr (.inr 0)] P0 P0 M3 (retV fun M5 => Q (some (.inl a1)) M5))) ∧ (¬ a1 ≤ 5 → Q (some (.inl (-2))) M))) : Call (K + 1) jClearingWaves_houses [.inr (.inr 0), .inl a1] P0 P0 M Q := by
  refine Call.intro (by decide +kernel) (mfx.le mf16 (Nat.le_of_ble_eq_true rfl)) (Nat.le_refl _) rfl ?_
  refine G_iload_n 1 rfl rfl (ck dc16 (i := 0) rfl) ?_
  refine G_iconst (ck dc16 (i := 1) rfl) ?_
  obtain ⟨o1, h⟩ := h
  refine G_icmp_lt (tgt := 10) (by decide) o1 (by decide) (ck dc16 (i := 2) rfl) (fun c => ?_) (fun c => ?_)
  · replace h := h.1 c
    refine G_bipush (n := (-2)) rfl (ck dc16 (i := 6) rfl) ?_
    exact H_iretI mf16 (ck dc16 (i := 7) rfl) rfl h
  · replace h := h.2 c
    refine G_iload_n 1 rfl rfl (ck dc16 (i := 3) rfl) ?_
    refine G_iconst (ck dc16 (i := 4) rfl) ?_
    refine G_icmp_le (tgt := 13) (by decide) o1 (by decide) (ck dc16 (i := 5) rfl) (fun c => ?_) (fun c => ?_)
    · replace h := h.1 c
      refine G_aload_n 0 rfl rfl (ck dc16 (i := 8) rfl) ?_
      refine H_getR mf16 (ck dc16 (i := 9) rfl) fw_ClearingWaves_12 fc10_0 ly0 ra0 rf0_0 (by decide) ?_
      refine G_iload_n 1 rfl rfl (ck dc16 (i := 10) rfl) ?_
      refine H_vV mf16 (As := [.inl a1]) (st := []) (ck dc16 (i := 11) rfl) lk_ClearingWaves_101 rfl rfl (Nat.le_of_ble_eq_true rfl) ly1 ra1 ⟨Nat.le_refl _, Nat.le_refl _⟩ h (fun M3 h => ?_)
      refine G_aload_n 0 rfl rfl (ck dc16 (i := 12) rfl) ?_
      refine H_vV mf16 (As := []) (st := []) (ck dc16 (i := 13) rfl) lk_ClearingWaves_105 rfl rfl (Nat.le_of_ble_eq_true rfl) ly0 ra0 ⟨Nat.le_refl _, Nat.le_refl _⟩ h (fun M5 h => ?_)
      refine G_iload_n 1 rfl rfl (ck dc16 (i := 14) rfl) ?_
      exact H_iretI mf16 (ck dc16 (i := 15) rfl) rfl h
    · replace h := h.2 c
      refine G_bipush (n := (-2)) rfl (ck dc16 (i := 6) rfl) ?_
      exact H_iretI mf16 (ck dc16 (i := 7) rfl) rfl h
theorem c_x_cash (K : Nat) (a1 a2 : Int) (M : PM) (Q : Option PV → PM → Prop)
    (h : Call K jBook_hasHouse [.inr (.inr 1), .inl a1] P0 P0 M (retI fun r1 M2 => R32 r1 ∧ (¬ r1 = 0 → R32 a2 ∧ (a2 < 0 → Q (some (.inl (-2))) M2) ∧ (¬ a2 < 0 → (a2 ≤ 200 → (0 ≤ a1 ∧ a1 < 5) ∧ Call K jClearingWaves_noteChange [.inr (.inr 0)] P0 P0 (mset M2 2 a1 a2) (retV fun M7 => Q (some (.inl (M2 2 a1))) M7)) ∧ (¬ a2 ≤ 200 → Q (some (.inl (-2))) M2))) ∧ (r1 = 0 → Q (some (.inl (-1))) M2))) : Call (K + 1) jClearingWaves_cash [.inr (.inr 0), .inl a1, .inl a2] P0 P0 M Q := by
  refine Call.intro (by decide +kernel) (mfx.le mf18 (Nat.le_of_ble_eq_true rfl)) (Nat.le_refl _) rfl ?_
  refine G_aload_n 0 rfl rfl (ck dc18 (i := 0) rfl) ?_
  refine H_getR mf18 (ck dc18 (i := 1) rfl) fw_ClearingWaves_12 fc10_0 ly0 ra0 rf0_0 (by decide) ?_
  refine G_iload_n 1 rfl rfl (ck dc18 (i := 2) rfl) ?_
  refine H_vZ mf18 (As := [.inl a1]) (st := []) (ck dc18 (i := 3) rfl) lk_ClearingWaves_108 rfl rfl (Nat.le_of_ble_eq_true rfl) ly1 ra1 ⟨Nat.le_refl _, Nat.le_refl _⟩ h (fun r1 M2 h => ?_)
  obtain ⟨o3, h⟩ := h
  refine G_if_ne (tgt := 13) (by decide) o3 (ck dc18 (i := 4) rfl) (fun c => ?_) (fun c => ?_)
  · replace h := h.1 c
    refine G_iload_n 2 rfl rfl (ck dc18 (i := 7) rfl) ?_
    obtain ⟨o4, h⟩ := h
    refine G_if_lt (tgt := 24) (by decide) o4 (ck dc18 (i := 8) rfl) (fun c => ?_) (fun c => ?_)
    · replace h := h.1 c
      refine G_bipush (n := (-2)) rfl (ck dc18 (i := 12) rfl) ?_
      exact H_iretI mf18 (ck dc18 (i := 13) rfl) rfl h
    · replace h := h.2 c
      refine G_iload_n 2 rfl rfl (ck dc18 (i := 9) rfl) ?_
      refine G_sipush (n := 200) rfl (ck dc18 (i := 10) rfl) ?_
      refine G_icmp_le (tgt := 27) (by decide) o4 (by decide) (ck dc18 (i := 11) rfl) (fun c => ?_) (fun c => ?_)
      · replace h := h.1 c
        refine G_aload_n 0 rfl rfl (ck dc18 (i := 14) rfl) ?_
        refine H_getR mf18 (ck dc18 (i := 15) rfl) fw_ClearingWaves_12 fc10_0 ly0 ra0 rf0_0 (by decide) ?_
        refine H_getR mf18 (ck dc18 (i := 16) rfl) fw_ClearingWaves_30 fc0_3 ly1 ra1 rf1_3 (by decide) ?_
        refine G_iload_n 1 rfl rfl (ck dc18 (i := 17) rfl) ?_
        obtain ⟨o5, h⟩ := h
        refine H_iald (ck dc18 (i := 18) rfl) ly2 (by decide) ra2 o5 (x := (M2 2 a1)) rfl ?_
        refine G_istore_n (L' := [(3, .inl (M2 2 a1)), (0, .inr (.inr 0)), (1, .inl a1), (2, .inl a2)]) rfl (mfx.lt mf18 (Nat.le_of_ble_eq_true rfl)) rfl (ck dc18 (i := 19) rfl) ?_
        refine G_aload_n 1 rfl rfl (ck dc18 (i := 20) rfl) ?_
        refine H_getR mf18 (ck dc18 (i := 21) rfl) fw_ClearingWaves_12 fc10_0 ly0 ra0 rf0_0 (by decide) ?_
        refine H_getR mf18 (ck dc18 (i := 22) rfl) fw_ClearingWaves_30 fc0_3 ly1 ra1 rf1_3 (by decide) ?_
        refine G_iload_n 2 rfl rfl (ck dc18 (i := 23) rfl) ?_
        refine G_iload_n 3 rfl rfl (ck dc18 (i := 24) rfl) ?_
        refine G_iast (ck dc18 (i := 25) rfl) ra2 ly2 (by decide) o5 ?_
        refine G_aload_n 1 rfl rfl (ck dc18 (i := 26) rfl) ?_
        refine H_vV mf18 (As := []) (st := []) (ck dc18 (i := 27) rfl) lk_ClearingWaves_105 rfl rfl (Nat.le_of_ble_eq_true rfl) ly0 ra0 ⟨Nat.le_refl _, Nat.le_refl _⟩ h (fun M7 h => ?_)
        refine G_iload_n 0 rfl rfl (ck dc18 (i := 28) rfl) ?_
        exact H_iretI mf18 (ck dc18 (i := 29) rfl) rfl h
      · replace h := h.2 c
        refine G_bipush (n := (-2)) rfl (ck dc18 (i := 12) rfl) ?_
        exact H_iretI mf18 (ck dc18 (i := 13) rfl) rfl h
  · replace h := h.2 c
    refine G_iconst (ck dc18 (i := 5) rfl) ?_
    exact H_iretI mf18 (ck dc18 (i := 6) rfl) rfl h
set_option maxHeartbeats 20000000 in
theorem c_x_owe (K : Nat) (a1 a2 a3 a4 : Int) (M : PM) (Q : Option PV → PM → Prop)
    (h : Call K jBook_hasDebt [.inr (.inr 1), .inl a1, .inl a2, .inl a3] P0 P0 M (retI fun r1 M2 => R32 r1 ∧ (¬ r1 = 0 → R32 a4 ∧ (a4 < 0 → Q (some (.inl (-2))) M2) ∧ (¬ a4 < 0 → (a4 ≤ 20 → Call K jBook_amount [.inr (.inr 1), .inl a1, .inl a2, .inl a3] P0 P0 M2 (retI fun r5 M6 => Call K jBook_put [.inr (.inr 1), .inl a1, .inl a2, .inl a3, .inl a4] P0 P0 M6 (retV fun M8 => Call K jClearingWaves_noteChange [.inr (.inr 0)] P0 P0 M8 (retV fun M10 => Q (some (.inl r5)) M10)))) ∧ (¬ a4 ≤ 20 → Q (some (.inl (-2))) M2))) ∧ (r1 = 0 → Q (some (.inl (-1))) M2))) : Call (K + 1) jClearingWaves_owe [.inr (.inr 0), .inl a1, .inl a2, .inl a3, .inl a4] P0 P0 M Q := by
  refine Call.intro (by decide +kernel) (mfx.le mf20 (Nat.le_of_ble_eq_true rfl)) (Nat.le_refl _) rfl ?_
  refine G_aload_n 0 rfl rfl (ck dc20 (i := 0) rfl) ?_
  refine H_getR mf20 (ck dc20 (i := 1) rfl) fw_ClearingWaves_12 fc10_0 ly0 ra0 rf0_0 (by decide) ?_
  refine G_iload_n 1 rfl rfl (ck dc20 (i := 2) rfl) ?_
  refine G_iload_n 2 rfl rfl (ck dc20 (i := 3) rfl) ?_
  refine G_iload_n 3 rfl rfl (ck dc20 (i := 4) rfl) ?_
  refine H_vZ mf20 (As := [.inl a1, .inl a2, .inl a3]) (st := []) (ck dc20 (i := 5) rfl) lk_ClearingWaves_112 rfl rfl (Nat.le_of_ble_eq_true rfl) ly1 ra1 ⟨Nat.le_refl _, Nat.le_refl _⟩ h (fun r1 M2 h => ?_)
  obtain ⟨o3, h⟩ := h
  refine G_if_ne (tgt := 15) (by decide) o3 (ck dc20 (i := 6) rfl) (fun c => ?_) (fun c => ?_)
  · replace h := h.1 c
    refine G_iload 4 rfl (ck dc20 (i := 9) rfl) ?_
    obtain ⟨o4, h⟩ := h
    refine G_if_lt (tgt := 27) (by decide) o4 (ck dc20 (i := 10) rfl) (fun c => ?_) (fun c => ?_)
    · replace h := h.1 c
      refine G_bipush (n := (-2)) rfl (ck dc20 (i := 14) rfl) ?_
      exact H_iretI mf20 (ck dc20 (i := 15) rfl) rfl h
    · replace h := h.2 c
      refine G_iload 4 rfl (ck dc20 (i := 11) rfl) ?_
      refine G_bipush (n := 20) rfl (ck dc20 (i := 12) rfl) ?_
      refine G_icmp_le (tgt := 30) (by decide) o4 (by decide) (ck dc20 (i := 13) rfl) (fun c => ?_) (fun c => ?_)
      · replace h := h.1 c
        refine G_aload_n 0 rfl rfl (ck dc20 (i := 16) rfl) ?_
        refine H_getR mf20 (ck dc20 (i := 17) rfl) fw_ClearingWaves_12 fc10_0 ly0 ra0 rf0_0 (by decide) ?_
        refine G_iload_n 1 rfl rfl (ck dc20 (i := 18) rfl) ?_
        refine G_iload_n 2 rfl rfl (ck dc20 (i := 19) rfl) ?_
        refine G_iload_n 3 rfl rfl (ck dc20 (i := 20) rfl) ?_
        refine H_vI mf20 (As := [.inl a1, .inl a2, .inl a3]) (st := []) (ck dc20 (i := 21) rfl) lk_ClearingWaves_116 rfl rfl (Nat.le_of_ble_eq_true rfl) ly1 ra1 ⟨Nat.le_refl _, Nat.le_refl _⟩ h (fun r5 M6 h => ?_)
        refine G_istore (L' := [(5, .inl r5), (0, .inr (.inr 0)), (1, .inl a1), (2, .inl a2), (3, .inl a3), (4, .inl a4)]) (mfx.lt mf20 (Nat.le_of_ble_eq_true rfl)) rfl (ck dc20 (i := 22) rfl) ?_
        refine G_aload_n 1 rfl rfl (ck dc20 (i := 23) rfl) ?_
        refine H_getR mf20 (ck dc20 (i := 24) rfl) fw_ClearingWaves_12 fc10_0 ly0 ra0 rf0_0 (by decide) ?_
        refine G_iload_n 2 rfl rfl (ck dc20 (i := 25) rfl) ?_
        refine G_iload_n 3 rfl rfl (ck dc20 (i := 26) rfl) ?_
        refine G_iload_n 4 rfl rfl (ck dc20 (i := 27) rfl) ?_
        refine G_iload 5 rfl (ck dc20 (i := 28) rfl) ?_
        refine H_vV mf20 (As := [.inl a1, .inl a2, .inl a3, .inl a4]) (st := []) (ck dc20 (i := 29) rfl) lk_ClearingWaves_120 rfl rfl (Nat.le_of_ble_eq_true rfl) ly1 ra1 ⟨Nat.le_refl _, Nat.le_refl _⟩ h (fun M8 h => ?_)
        refine G_aload_n 1 rfl rfl (ck dc20 (i := 30) rfl) ?_
        refine H_vV mf20 (As := []) (st := []) (ck dc20 (i := 31) rfl) lk_ClearingWaves_105 rfl rfl (Nat.le_of_ble_eq_true rfl) ly0 ra0 ⟨Nat.le_refl _, Nat.le_refl _⟩ h (fun M10 h => ?_)
        refine G_iload 0 rfl (ck dc20 (i := 32) rfl) ?_
        exact H_iretI mf20 (ck dc20 (i := 33) rfl) rfl h
      · replace h := h.2 c
        refine G_bipush (n := (-2)) rfl (ck dc20 (i := 14) rfl) ?_
        exact H_iretI mf20 (ck dc20 (i := 15) rfl) rfl h
  · replace h := h.2 c
    refine G_iconst (ck dc20 (i := 7) rfl) ?_
    exact H_iretI mf20 (ck dc20 (i := 8) rfl) rfl h
theorem c_x_owed (K : Nat) (a1 a2 a3 : Int) (M : PM) (Q : Option PV → PM → Prop)
    (h : Call K jBook_hasDebt [.inr (.inr 1), .inl a1, .inl a2, .inl a3] P0 P0 M (retI fun r1 M2 => R32 r1 ∧ (r1 = 0 → Q (some (.inl (-1))) M2) ∧ (¬ r1 = 0 → Call K jBook_amount [.inr (.inr 1), .inl a1, .inl a2, .inl a3] P0 P0 M2 (retI fun r4 M5 => Q (some (.inl r4)) M5)))) : Call (K + 1) jClearingWaves_owed [.inr (.inr 0), .inl a1, .inl a2, .inl a3] P0 P0 M Q := by
  refine Call.intro (by decide +kernel) (mfx.le mf25 (Nat.le_of_ble_eq_true rfl)) (Nat.le_refl _) rfl ?_
  refine G_aload_n 0 rfl rfl (ck dc25 (i := 0) rfl) ?_
  refine H_getR mf25 (ck dc25 (i := 1) rfl) fw_ClearingWaves_12 fc10_0 ly0 ra0 rf0_0 (by decide) ?_
  refine G_iload_n 1 rfl rfl (ck dc25 (i := 2) rfl) ?_
  refine G_iload_n 2 rfl rfl (ck dc25 (i := 3) rfl) ?_
  refine G_iload_n 3 rfl rfl (ck dc25 (i := 4) rfl) ?_
  refine H_vZ mf25 (As := [.inl a1, .inl a2, .inl a3]) (st := []) (ck dc25 (i := 5) rfl) lk_ClearingWaves_112 rfl rfl (Nat.le_of_ble_eq_true rfl) ly1 ra1 ⟨Nat.le_refl _, Nat.le_refl _⟩ h (fun r1 M2 h => ?_)
  obtain ⟨o3, h⟩ := h
  refine G_if_eq (tgt := 26) (by decide) o3 (ck dc25 (i := 6) rfl) (fun c => ?_) (fun c => ?_)
  · replace h := h.1 c
    refine G_iconst (ck dc25 (i := 14) rfl) ?_
    exact H_iretI mf25 (ck dc25 (i := 15) rfl) rfl h
  · replace h := h.2 c
    refine G_aload_n 0 rfl rfl (ck dc25 (i := 7) rfl) ?_
    refine H_getR mf25 (ck dc25 (i := 8) rfl) fw_ClearingWaves_12 fc10_0 ly0 ra0 rf0_0 (by decide) ?_
    refine G_iload_n 1 rfl rfl (ck dc25 (i := 9) rfl) ?_
    refine G_iload_n 2 rfl rfl (ck dc25 (i := 10) rfl) ?_
    refine G_iload_n 3 rfl rfl (ck dc25 (i := 11) rfl) ?_
    refine H_vI mf25 (As := [.inl a1, .inl a2, .inl a3]) (st := []) (ck dc25 (i := 12) rfl) lk_ClearingWaves_116 rfl rfl (Nat.le_of_ble_eq_true rfl) ly1 ra1 ⟨Nat.le_refl _, Nat.le_refl _⟩ h (fun r4 M5 h => ?_)
    refine G_goto (tgt := 27) (by decide) (ck dc25 (i := 13) rfl) ?_
    exact H_iretI mf25 (ck dc25 (i := 15) rfl) rfl h
theorem c_x_costs (K : Nat) (a1 a2 : Int) (M : PM) (Q : Option PV → PM → Prop)
    (h : R32 a1 ∧ (a1 < 0 → Q (some (.inl (-2))) M) ∧ (¬ a1 < 0 → (10 < a1 → Q (some (.inl (-2))) M) ∧ (¬ 10 < a1 → R32 a2 ∧ (a2 < 0 → Q (some (.inl (-2))) M) ∧ (¬ a2 < 0 → (a2 ≤ 10 → Call K jClearingWaves_noteChange [.inr (.inr 0)] P0 P0 (mset (mset M 1 1 a1) 1 2 a2) (retV fun M4 => Q (some (.inl 1)) M4)) ∧ (¬ a2 ≤ 10 → Q (some (.inl (-2))) M))))) : Call (K + 1) jClearingWaves_costs [.inr (.inr 0), .inl a1, .inl a2] P0 P0 M Q := by
  refine Call.intro (by decide +kernel) (mfx.le mf26 (Nat.le_of_ble_eq_true rfl)) (Nat.le_refl _) rfl ?_
  refine G_iload_n 1 rfl rfl (ck dc26 (i := 0) rfl) ?_
  obtain ⟨o1, h⟩ := h
  refine G_if_lt (tgt := 20) (by decide) o1 (ck dc26 (i := 1) rfl) (fun c => ?_) (fun c => ?_)
  · replace h := h.1 c
    refine G_bipush (n := (-2)) rfl (ck dc26 (i := 10) rfl) ?_
    exact H_iretI mf26 (ck dc26 (i := 11) rfl) rfl h
  · replace h := h.2 c
    refine G_iload_n 1 rfl rfl (ck dc26 (i := 2) rfl) ?_
    refine G_bipush (n := 10) rfl (ck dc26 (i := 3) rfl) ?_
    refine G_icmp_gt (tgt := 20) (by decide) o1 (by decide) (ck dc26 (i := 4) rfl) (fun c => ?_) (fun c => ?_)
    · replace h := h.1 c
      refine G_bipush (n := (-2)) rfl (ck dc26 (i := 10) rfl) ?_
      exact H_iretI mf26 (ck dc26 (i := 11) rfl) rfl h
    · replace h := h.2 c
      refine G_iload_n 2 rfl rfl (ck dc26 (i := 5) rfl) ?_
      obtain ⟨o2, h⟩ := h
      refine G_if_lt (tgt := 20) (by decide) o2 (ck dc26 (i := 6) rfl) (fun c => ?_) (fun c => ?_)
      · replace h := h.1 c
        refine G_bipush (n := (-2)) rfl (ck dc26 (i := 10) rfl) ?_
        exact H_iretI mf26 (ck dc26 (i := 11) rfl) rfl h
      · replace h := h.2 c
        refine G_iload_n 2 rfl rfl (ck dc26 (i := 7) rfl) ?_
        refine G_bipush (n := 10) rfl (ck dc26 (i := 8) rfl) ?_
        refine G_icmp_le (tgt := 23) (by decide) o2 (by decide) (ck dc26 (i := 9) rfl) (fun c => ?_) (fun c => ?_)
        · replace h := h.1 c
          refine G_aload_n 0 rfl rfl (ck dc26 (i := 12) rfl) ?_
          refine H_getR mf26 (ck dc26 (i := 13) rfl) fw_ClearingWaves_12 fc10_0 ly0 ra0 rf0_0 (by decide) ?_
          refine G_iload_n 1 rfl rfl (ck dc26 (i := 14) rfl) ?_
          refine H_putI mf26 (ck dc26 (i := 15) rfl) fw_ClearingWaves_124 fc0_1 ly1 ra1 (Or.inl rfl) ?_
          refine G_aload_n 0 rfl rfl (ck dc26 (i := 16) rfl) ?_
          refine H_getR mf26 (ck dc26 (i := 17) rfl) fw_ClearingWaves_12 fc10_0 ly0 ra0 rf0_0 (by decide) ?_
          refine G_iload_n 2 rfl rfl (ck dc26 (i := 18) rfl) ?_
          refine H_putI mf26 (ck dc26 (i := 19) rfl) fw_ClearingWaves_128 fc0_2 ly1 ra1 (Or.inl rfl) ?_
          refine G_aload_n 0 rfl rfl (ck dc26 (i := 20) rfl) ?_
          refine H_vV mf26 (As := []) (st := []) (ck dc26 (i := 21) rfl) lk_ClearingWaves_105 rfl rfl (Nat.le_of_ble_eq_true rfl) ly0 ra0 ⟨Nat.le_refl _, Nat.le_refl _⟩ h (fun M4 h => ?_)
          refine G_iconst (ck dc26 (i := 22) rfl) ?_
          exact H_iretI mf26 (ck dc26 (i := 23) rfl) rfl h
        · replace h := h.2 c
          refine G_bipush (n := (-2)) rfl (ck dc26 (i := 10) rfl) ?_
          exact H_iretI mf26 (ck dc26 (i := 11) rfl) rfl h
set_option maxHeartbeats 20000000 in
theorem c_x_cede (K : Nat) (a1 a2 a3 a4 a5 : Int) (M : PM) (Q : Option PV → PM → Prop)
    (h : Call K jBook_hasDebt [.inr (.inr 1), .inl a1, .inl a2, .inl a4] P0 P0 M (retI fun r1 M2 => R32 r1 ∧ (r1 = 0 → Q (some (.inl (-1))) M2) ∧ (¬ r1 = 0 → Call K jBook_hasDebt [.inr (.inr 1), .inl a1, .inl a3, .inl a4] P0 P0 M2 (retI fun r4 M5 => R32 r4 ∧ (r4 = 0 → Q (some (.inl (-1))) M5) ∧ (¬ r4 = 0 → R32 a2 ∧ R32 a3 ∧ (¬ a2 = a3 → R32 a5 ∧ (1 ≤ a5 → Call K jBook_amount [.inr (.inr 1), .inl a1, .inl a2, .inl a4] P0 P0 M5 (retI fun r10 M11 => R32 r10 ∧ (a5 ≤ r10 → Call K jBook_amount [.inr (.inr 1), .inl a1, .inl a3, .inl a4] P0 P0 M11 (retI fun r13 M14 => R32 (r13 + a5) ∧ ((r13 + a5) ≤ 20 → Call K jBook_put [.inr (.inr 1), .inl a1, .inl a2, .inl a4, .inl (r10 - a5)] P0 P0 M14 (retV fun M17 => Call K jBook_put [.inr (.inr 1), .inl a1, .inl a3, .inl a4, .inl (r13 + a5)] P0 P0 M17 (retV fun M19 => Call K jClearingWaves_noteChange [.inr (.inr 0)] P0 P0 M19 (retV fun M21 => Q (some (.inl 1)) M21)))) ∧ (¬ (r13 + a5) ≤ 20 → Q (some (.inl (-4))) M14))) ∧ (¬ a5 ≤ r10 → Q (some (.inl (-3))) M11))) ∧ (¬ 1 ≤ a5 → Q (some (.inl (-2))) M5)) ∧ (a2 = a3 → Q (some (.inl (-1))) M5)))))) : Call (K + 1) jClearingWaves_cede [.inr (.inr 0), .inl a1, .inl a2, .inl a3, .inl a4, .inl a5] P0 P0 M Q := by
  refine Call.intro (by decide +kernel) (mfx.le mf27 (Nat.le_of_ble_eq_true rfl)) (Nat.le_refl _) rfl ?_
  refine G_aload_n 0 rfl rfl (ck dc27 (i := 0) rfl) ?_
  refine H_getR mf27 (ck dc27 (i := 1) rfl) fw_ClearingWaves_12 fc10_0 ly0 ra0 rf0_0 (by decide) ?_
  refine G_iload_n 1 rfl rfl (ck dc27 (i := 2) rfl) ?_
  refine G_iload_n 2 rfl rfl (ck dc27 (i := 3) rfl) ?_
  refine G_iload 4 rfl (ck dc27 (i := 4) rfl) ?_
  refine H_vZ mf27 (As := [.inl a1, .inl a2, .inl a4]) (st := []) (ck dc27 (i := 5) rfl) lk_ClearingWaves_112 rfl rfl (Nat.le_of_ble_eq_true rfl) ly1 ra1 ⟨Nat.le_refl _, Nat.le_refl _⟩ h (fun r1 M2 h => ?_)
  obtain ⟨o3, h⟩ := h
  refine G_if_eq (tgt := 33) (by decide) o3 (ck dc27 (i := 6) rfl) (fun c => ?_) (fun c => ?_)
  · replace h := h.1 c
    refine G_iconst (ck dc27 (i := 17) rfl) ?_
    exact H_iretI mf27 (ck dc27 (i := 18) rfl) rfl h
  · replace h := h.2 c
    refine G_aload_n 0 rfl rfl (ck dc27 (i := 7) rfl) ?_
    refine H_getR mf27 (ck dc27 (i := 8) rfl) fw_ClearingWaves_12 fc10_0 ly0 ra0 rf0_0 (by decide) ?_
    refine G_iload_n 1 rfl rfl (ck dc27 (i := 9) rfl) ?_
    refine G_iload_n 3 rfl rfl (ck dc27 (i := 10) rfl) ?_
    refine G_iload 4 rfl (ck dc27 (i := 11) rfl) ?_
    refine H_vZ mf27 (As := [.inl a1, .inl a3, .inl a4]) (st := []) (ck dc27 (i := 12) rfl) lk_ClearingWaves_112 rfl rfl (Nat.le_of_ble_eq_true rfl) ly1 ra1 ⟨Nat.le_refl _, Nat.le_refl _⟩ h (fun r4 M5 h => ?_)
    obtain ⟨o6, h⟩ := h
    refine G_if_eq (tgt := 33) (by decide) o6 (ck dc27 (i := 13) rfl) (fun c => ?_) (fun c => ?_)
    · replace h := h.1 c
      refine G_iconst (ck dc27 (i := 17) rfl) ?_
      exact H_iretI mf27 (ck dc27 (i := 18) rfl) rfl h
    · replace h := h.2 c
      refine G_iload_n 2 rfl rfl (ck dc27 (i := 14) rfl) ?_
      refine G_iload_n 3 rfl rfl (ck dc27 (i := 15) rfl) ?_
      obtain ⟨o7, h⟩ := h
      obtain ⟨o8, h⟩ := h
      refine G_icmp_ne (tgt := 35) (by decide) o7 o8 (ck dc27 (i := 16) rfl) (fun c => ?_) (fun c => ?_)
      · replace h := h.1 c
        refine G_iload 5 rfl (ck dc27 (i := 19) rfl) ?_
        refine G_iconst (ck dc27 (i := 20) rfl) ?_
        obtain ⟨o9, h⟩ := h
        refine G_icmp_ge (tgt := 44) (by decide) o9 (by decide) (ck dc27 (i := 21) rfl) (fun c => ?_) (fun c => ?_)
        · replace h := h.1 c
          refine G_aload_n 0 rfl rfl (ck dc27 (i := 24) rfl) ?_
          refine H_getR mf27 (ck dc27 (i := 25) rfl) fw_ClearingWaves_12 fc10_0 ly0 ra0 rf0_0 (by decide) ?_
          refine G_iload_n 1 rfl rfl (ck dc27 (i := 26) rfl) ?_
          refine G_iload_n 2 rfl rfl (ck dc27 (i := 27) rfl) ?_
          refine G_iload 4 rfl (ck dc27 (i := 28) rfl) ?_
          refine H_vI mf27 (As := [.inl a1, .inl a2, .inl a4]) (st := []) (ck dc27 (i := 29) rfl) lk_ClearingWaves_116 rfl rfl (Nat.le_of_ble_eq_true rfl) ly1 ra1 ⟨Nat.le_refl _, Nat.le_refl _⟩ h (fun r10 M11 h => ?_)
          refine G_istore (L' := [(6, .inl r10), (0, .inr (.inr 0)), (1, .inl a1), (2, .inl a2), (3, .inl a3), (4, .inl a4), (5, .inl a5)]) (mfx.lt mf27 (Nat.le_of_ble_eq_true rfl)) rfl (ck dc27 (i := 30) rfl) ?_
          refine G_iload 0 rfl (ck dc27 (i := 31) rfl) ?_
          refine G_iload 6 rfl (ck dc27 (i := 32) rfl) ?_
          obtain ⟨o12, h⟩ := h
          refine G_icmp_ge (tgt := 67) (by decide) o12 o9 (ck dc27 (i := 33) rfl) (fun c => ?_) (fun c => ?_)
          · replace h := h.1 c
            refine G_aload_n 1 rfl rfl (ck dc27 (i := 36) rfl) ?_
            refine H_getR mf27 (ck dc27 (i := 37) rfl) fw_ClearingWaves_12 fc10_0 ly0 ra0 rf0_0 (by decide) ?_
            refine G_iload_n 2 rfl rfl (ck dc27 (i := 38) rfl) ?_
            refine G_iload_n 4 rfl rfl (ck dc27 (i := 39) rfl) ?_
            refine G_iload 5 rfl (ck dc27 (i := 40) rfl) ?_
            refine H_vI mf27 (As := [.inl a1, .inl a3, .inl a4]) (st := []) (ck dc27 (i := 41) rfl) lk_ClearingWaves_116 rfl rfl (Nat.le_of_ble_eq_true rfl) ly1 ra1 ⟨Nat.le_refl _, Nat.le_refl _⟩ h (fun r13 M14 h => ?_)
            refine G_iload 6 rfl (ck dc27 (i := 42) rfl) ?_
            refine G_iadd (ck dc27 (i := 43) rfl) ?_
            refine G_istore (L' := [(7, .inl (r13 + a5)), (6, .inl r10), (0, .inr (.inr 0)), (1, .inl a1), (2, .inl a2), (3, .inl a3), (4, .inl a4), (5, .inl a5)]) (mfx.lt mf27 (Nat.le_of_ble_eq_true rfl)) rfl (ck dc27 (i := 44) rfl) ?_
            refine G_iload 0 rfl (ck dc27 (i := 45) rfl) ?_
            refine G_bipush (n := 20) rfl (ck dc27 (i := 46) rfl) ?_
            obtain ⟨o15, h⟩ := h
            refine G_icmp_le (tgt := 93) (by decide) o15 (by decide) (ck dc27 (i := 47) rfl) (fun c => ?_) (fun c => ?_)
            · replace h := h.1 c
              refine G_aload_n 2 rfl rfl (ck dc27 (i := 50) rfl) ?_
              refine H_getR mf27 (ck dc27 (i := 51) rfl) fw_ClearingWaves_12 fc10_0 ly0 ra0 rf0_0 (by decide) ?_
              refine G_iload_n 3 rfl rfl (ck dc27 (i := 52) rfl) ?_
              refine G_iload_n 4 rfl rfl (ck dc27 (i := 53) rfl) ?_
              refine G_iload 6 rfl (ck dc27 (i := 54) rfl) ?_
              refine G_iload 1 rfl (ck dc27 (i := 55) rfl) ?_
              refine G_iload 7 rfl (ck dc27 (i := 56) rfl) ?_
              refine G_isub (ck dc27 (i := 57) rfl) ?_
              refine H_vV mf27 (As := [.inl a1, .inl a2, .inl a4, .inl (r10 - a5)]) (st := []) (ck dc27 (i := 58) rfl) lk_ClearingWaves_120 rfl rfl (Nat.le_of_ble_eq_true rfl) ly1 ra1 ⟨Nat.le_refl _, Nat.le_refl _⟩ h (fun M17 h => ?_)
              refine G_aload_n 2 rfl rfl (ck dc27 (i := 59) rfl) ?_
              refine H_getR mf27 (ck dc27 (i := 60) rfl) fw_ClearingWaves_12 fc10_0 ly0 ra0 rf0_0 (by decide) ?_
              refine G_iload_n 3 rfl rfl (ck dc27 (i := 61) rfl) ?_
              refine G_iload_n 5 rfl rfl (ck dc27 (i := 62) rfl) ?_
              refine G_iload 6 rfl (ck dc27 (i := 63) rfl) ?_
              refine G_iload 0 rfl (ck dc27 (i := 64) rfl) ?_
              refine H_vV mf27 (As := [.inl a1, .inl a3, .inl a4, .inl (r13 + a5)]) (st := []) (ck dc27 (i := 65) rfl) lk_ClearingWaves_120 rfl rfl (Nat.le_of_ble_eq_true rfl) ly1 ra1 ⟨Nat.le_refl _, Nat.le_refl _⟩ h (fun M19 h => ?_)
              refine G_aload_n 2 rfl rfl (ck dc27 (i := 66) rfl) ?_
              refine H_vV mf27 (As := []) (st := []) (ck dc27 (i := 67) rfl) lk_ClearingWaves_105 rfl rfl (Nat.le_of_ble_eq_true rfl) ly0 ra0 ⟨Nat.le_refl _, Nat.le_refl _⟩ h (fun M21 h => ?_)
              refine G_iconst (ck dc27 (i := 68) rfl) ?_
              exact H_iretI mf27 (ck dc27 (i := 69) rfl) rfl h
            · replace h := h.2 c
              refine G_bipush (n := (-4)) rfl (ck dc27 (i := 48) rfl) ?_
              exact H_iretI mf27 (ck dc27 (i := 49) rfl) rfl h
          · replace h := h.2 c
            refine G_bipush (n := (-3)) rfl (ck dc27 (i := 34) rfl) ?_
            exact H_iretI mf27 (ck dc27 (i := 35) rfl) rfl h
        · replace h := h.2 c
          refine G_bipush (n := (-2)) rfl (ck dc27 (i := 22) rfl) ?_
          exact H_iretI mf27 (ck dc27 (i := 23) rfl) rfl h
      · replace h := h.2 c
        refine G_iconst (ck dc27 (i := 17) rfl) ?_
        exact H_iretI mf27 (ck dc27 (i := 18) rfl) rfl h
set_option maxHeartbeats 20000000 in
theorem c_x_settle (K : Nat) (a1 a2 a3 a4 : Int) (M : PM) (Q : Option PV → PM → Prop)
    (h : Call K jBook_hasDebt [.inr (.inr 1), .inl a1, .inl a2, .inl a3] P0 P0 M (retI fun r1 M2 => R32 r1 ∧ (¬ r1 = 0 → R32 a4 ∧ (1 ≤ a4 → Call K jBook_amount [.inr (.inr 1), .inl a1, .inl a2, .inl a3] P0 P0 M2 (retI fun r5 M6 => R32 r5 ∧ (r5 < a4 → Q (some (.inl (-3))) M6) ∧ (¬ r5 < a4 → (0 ≤ a1 ∧ a1 < 5) ∧ R32 (M6 2 a1) ∧ (a4 ≤ (M6 2 a1) → (0 ≤ a2 ∧ a2 < 5) ∧ R32 ((M6 2 a2) + a4) ∧ (((M6 2 a2) + a4) ≤ 200 → Call K jBook_put [.inr (.inr 1), .inl a1, .inl a2, .inl a3, .inl (r5 - a4)] P0 P0 M6 (retV fun M13 => Call K jClearingWaves_noteChange [.inr (.inr 0)] P0 P0 (mset (mset M13 2 a1 ((M13 2 a1) - a4)) 2 a2 (((mset M13 2 a1 ((M13 2 a1) - a4)) 2 a2) + a4)) (retV fun M15 => Q (some (.inl 1)) M15))) ∧ (¬ ((M6 2 a2) + a4) ≤ 200 → Q (some (.inl (-4))) M6)) ∧ (¬ a4 ≤ (M6 2 a1) → Q (some (.inl (-3))) M6)))) ∧ (¬ 1 ≤ a4 → Q (some (.inl (-2))) M2)) ∧ (r1 = 0 → Q (some (.inl (-1))) M2))) : Call (K + 1) jClearingWaves_settle [.inr (.inr 0), .inl a1, .inl a2, .inl a3, .inl a4] P0 P0 M Q := by
  refine Call.intro (by decide +kernel) (mfx.le mf28 (Nat.le_of_ble_eq_true rfl)) (Nat.le_refl _) rfl ?_
  refine G_aload_n 0 rfl rfl (ck dc28 (i := 0) rfl) ?_
  refine H_getR mf28 (ck dc28 (i := 1) rfl) fw_ClearingWaves_12 fc10_0 ly0 ra0 rf0_0 (by decide) ?_
  refine G_iload_n 1 rfl rfl (ck dc28 (i := 2) rfl) ?_
  refine G_iload_n 2 rfl rfl (ck dc28 (i := 3) rfl) ?_
  refine G_iload_n 3 rfl rfl (ck dc28 (i := 4) rfl) ?_
  refine H_vZ mf28 (As := [.inl a1, .inl a2, .inl a3]) (st := []) (ck dc28 (i := 5) rfl) lk_ClearingWaves_112 rfl rfl (Nat.le_of_ble_eq_true rfl) ly1 ra1 ⟨Nat.le_refl _, Nat.le_refl _⟩ h (fun r1 M2 h => ?_)
  obtain ⟨o3, h⟩ := h
  refine G_if_ne (tgt := 15) (by decide) o3 (ck dc28 (i := 6) rfl) (fun c => ?_) (fun c => ?_)
  · replace h := h.1 c
    refine G_iload 4 rfl (ck dc28 (i := 9) rfl) ?_
    refine G_iconst (ck dc28 (i := 10) rfl) ?_
    obtain ⟨o4, h⟩ := h
    refine G_icmp_ge (tgt := 24) (by decide) o4 (by decide) (ck dc28 (i := 11) rfl) (fun c => ?_) (fun c => ?_)
    · replace h := h.1 c
      refine G_aload_n 0 rfl rfl (ck dc28 (i := 14) rfl) ?_
      refine H_getR mf28 (ck dc28 (i := 15) rfl) fw_ClearingWaves_12 fc10_0 ly0 ra0 rf0_0 (by decide) ?_
      refine G_iload_n 1 rfl rfl (ck dc28 (i := 16) rfl) ?_
      refine G_iload_n 2 rfl rfl (ck dc28 (i := 17) rfl) ?_
      refine G_iload_n 3 rfl rfl (ck dc28 (i := 18) rfl) ?_
      refine H_vI mf28 (As := [.inl a1, .inl a2, .inl a3]) (st := []) (ck dc28 (i := 19) rfl) lk_ClearingWaves_116 rfl rfl (Nat.le_of_ble_eq_true rfl) ly1 ra1 ⟨Nat.le_refl _, Nat.le_refl _⟩ h (fun r5 M6 h => ?_)
      refine G_istore (L' := [(5, .inl r5), (0, .inr (.inr 0)), (1, .inl a1), (2, .inl a2), (3, .inl a3), (4, .inl a4)]) (mfx.lt mf28 (Nat.le_of_ble_eq_true rfl)) rfl (ck dc28 (i := 20) rfl) ?_
      refine G_iload 0 rfl (ck dc28 (i := 21) rfl) ?_
      refine G_iload 5 rfl (ck dc28 (i := 22) rfl) ?_
      obtain ⟨o7, h⟩ := h
      refine G_icmp_lt (tgt := 57) (by decide) o7 o4 (ck dc28 (i := 23) rfl) (fun c => ?_) (fun c => ?_)
      · replace h := h.1 c
        refine G_bipush (n := (-3)) rfl (ck dc28 (i := 31) rfl) ?_
        exact H_iretI mf28 (ck dc28 (i := 32) rfl) rfl h
      · replace h := h.2 c
        refine G_aload_n 1 rfl rfl (ck dc28 (i := 24) rfl) ?_
        refine H_getR mf28 (ck dc28 (i := 25) rfl) fw_ClearingWaves_12 fc10_0 ly0 ra0 rf0_0 (by decide) ?_
        refine H_getR mf28 (ck dc28 (i := 26) rfl) fw_ClearingWaves_30 fc0_3 ly1 ra1 rf1_3 (by decide) ?_
        refine G_iload_n 2 rfl rfl (ck dc28 (i := 27) rfl) ?_
        obtain ⟨o8, h⟩ := h
        refine H_iald (ck dc28 (i := 28) rfl) ly2 (by decide) ra2 o8 (x := (M6 2 a1)) rfl ?_
        refine G_iload 5 rfl (ck dc28 (i := 29) rfl) ?_
        obtain ⟨o9, h⟩ := h
        refine G_icmp_ge (tgt := 60) (by decide) o9 o4 (ck dc28 (i := 30) rfl) (fun c => ?_) (fun c => ?_)
        · replace h := h.1 c
          refine G_aload_n 1 rfl rfl (ck dc28 (i := 33) rfl) ?_
          refine H_getR mf28 (ck dc28 (i := 34) rfl) fw_ClearingWaves_12 fc10_0 ly0 ra0 rf0_0 (by decide) ?_
          refine H_getR mf28 (ck dc28 (i := 35) rfl) fw_ClearingWaves_30 fc0_3 ly1 ra1 rf1_3 (by decide) ?_
          refine G_iload_n 3 rfl rfl (ck dc28 (i := 36) rfl) ?_
          obtain ⟨o10, h⟩ := h
          refine H_iald (ck dc28 (i := 37) rfl) ly2 (by decide) ra2 o10 (x := (M6 2 a2)) rfl ?_
          refine G_iload 5 rfl (ck dc28 (i := 38) rfl) ?_
          refine G_iadd (ck dc28 (i := 39) rfl) ?_
          refine G_sipush (n := 200) rfl (ck dc28 (i := 40) rfl) ?_
          obtain ⟨o11, h⟩ := h
          refine G_icmp_le (tgt := 81) (by decide) o11 (by decide) (ck dc28 (i := 41) rfl) (fun c => ?_) (fun c => ?_)
          · replace h := h.1 c
            refine G_aload_n 1 rfl rfl (ck dc28 (i := 44) rfl) ?_
            refine H_getR mf28 (ck dc28 (i := 45) rfl) fw_ClearingWaves_12 fc10_0 ly0 ra0 rf0_0 (by decide) ?_
            refine G_iload_n 2 rfl rfl (ck dc28 (i := 46) rfl) ?_
            refine G_iload_n 3 rfl rfl (ck dc28 (i := 47) rfl) ?_
            refine G_iload_n 4 rfl rfl (ck dc28 (i := 48) rfl) ?_
            refine G_iload 0 rfl (ck dc28 (i := 49) rfl) ?_
            refine G_iload 5 rfl (ck dc28 (i := 50) rfl) ?_
            refine G_isub (ck dc28 (i := 51) rfl) ?_
            refine H_vV mf28 (As := [.inl a1, .inl a2, .inl a3, .inl (r5 - a4)]) (st := []) (ck dc28 (i := 52) rfl) lk_ClearingWaves_120 rfl rfl (Nat.le_of_ble_eq_true rfl) ly1 ra1 ⟨Nat.le_refl _, Nat.le_refl _⟩ h (fun M13 h => ?_)
            refine G_aload_n 1 rfl rfl (ck dc28 (i := 53) rfl) ?_
            refine H_getR mf28 (ck dc28 (i := 54) rfl) fw_ClearingWaves_12 fc10_0 ly0 ra0 rf0_0 (by decide) ?_
            refine H_getR mf28 (ck dc28 (i := 55) rfl) fw_ClearingWaves_30 fc0_3 ly1 ra1 rf1_3 (by decide) ?_
            refine G_iload_n 2 rfl rfl (ck dc28 (i := 56) rfl) ?_
            refine G_dup2 rfl rfl (ck dc28 (i := 57) rfl) ?_
            refine H_iald (ck dc28 (i := 58) rfl) ly2 (by decide) ra2 o8 (x := (M13 2 a1)) rfl ?_
            refine G_iload 5 rfl (ck dc28 (i := 59) rfl) ?_
            refine G_isub (ck dc28 (i := 60) rfl) ?_
            refine G_iast (ck dc28 (i := 61) rfl) ra2 ly2 (by decide) o8 ?_
            refine G_aload_n 1 rfl rfl (ck dc28 (i := 62) rfl) ?_
            refine H_getR mf28 (ck dc28 (i := 63) rfl) fw_ClearingWaves_12 fc10_0 ly0 ra0 rf0_0 (by decide) ?_
            refine H_getR mf28 (ck dc28 (i := 64) rfl) fw_ClearingWaves_30 fc0_3 ly1 ra1 rf1_3 (by decide) ?_
            refine G_iload_n 3 rfl rfl (ck dc28 (i := 65) rfl) ?_
            refine G_dup2 rfl rfl (ck dc28 (i := 66) rfl) ?_
            refine H_iald (ck dc28 (i := 67) rfl) ly2 (by decide) ra2 o10 (x := ((mset M13 2 a1 ((M13 2 a1) - a4)) 2 a2)) rfl ?_
            refine G_iload 5 rfl (ck dc28 (i := 68) rfl) ?_
            refine G_iadd (ck dc28 (i := 69) rfl) ?_
            refine G_iast (ck dc28 (i := 70) rfl) ra2 ly2 (by decide) o10 ?_
            refine G_aload_n 1 rfl rfl (ck dc28 (i := 71) rfl) ?_
            refine H_vV mf28 (As := []) (st := []) (ck dc28 (i := 72) rfl) lk_ClearingWaves_105 rfl rfl (Nat.le_of_ble_eq_true rfl) ly0 ra0 ⟨Nat.le_refl _, Nat.le_refl _⟩ h (fun M15 h => ?_)
            refine G_iconst (ck dc28 (i := 73) rfl) ?_
            exact H_iretI mf28 (ck dc28 (i := 74) rfl) rfl h
          · replace h := h.2 c
            refine G_bipush (n := (-4)) rfl (ck dc28 (i := 42) rfl) ?_
            exact H_iretI mf28 (ck dc28 (i := 43) rfl) rfl h
        · replace h := h.2 c
          refine G_bipush (n := (-3)) rfl (ck dc28 (i := 31) rfl) ?_
          exact H_iretI mf28 (ck dc28 (i := 32) rfl) rfl h
    · replace h := h.2 c
      refine G_bipush (n := (-2)) rfl (ck dc28 (i := 12) rfl) ?_
      exact H_iretI mf28 (ck dc28 (i := 13) rfl) rfl h
  · replace h := h.2 c
    refine G_iconst (ck dc28 (i := 7) rfl) ?_
    exact H_iretI mf28 (ck dc28 (i := 8) rfl) rfl h
theorem c_x_feed (K : Nat) (a1 : Int) (M : PM) (Q : Option PV → PM → Prop)
    (h : R32 a1 ∧ (a1 < 1 → Q (some (.inl (-2))) M) ∧ (¬ a1 < 1 → (a1 ≤ 127 → Call K jTape_add [.inr (.inr 45), .inl a1] P0 P0 M (retI fun r2 M3 => R32 r2 ∧ (r2 = 0 → Q (some (.inl (-4))) M3) ∧ (¬ r2 = 0 → Q (some (.inl (M3 45 0))) M3))) ∧ (¬ a1 ≤ 127 → Q (some (.inl (-2))) M))) : Call (K + 1) jClearingWaves_feed [.inr (.inr 0), .inl a1] P0 P0 M Q := by
  refine Call.intro (by decide +kernel) (mfx.le mf29 (Nat.le_of_ble_eq_true rfl)) (Nat.le_refl _) rfl ?_
  refine G_iload_n 1 rfl rfl (ck dc29 (i := 0) rfl) ?_
  refine G_iconst (ck dc29 (i := 1) rfl) ?_
  obtain ⟨o1, h⟩ := h
  refine G_icmp_lt (tgt := 11) (by decide) o1 (by decide) (ck dc29 (i := 2) rfl) (fun c => ?_) (fun c => ?_)
  · replace h := h.1 c
    refine G_bipush (n := (-2)) rfl (ck dc29 (i := 6) rfl) ?_
    exact H_iretI mf29 (ck dc29 (i := 7) rfl) rfl h
  · replace h := h.2 c
    refine G_iload_n 1 rfl rfl (ck dc29 (i := 3) rfl) ?_
    refine G_bipush (n := 127) rfl (ck dc29 (i := 4) rfl) ?_
    refine G_icmp_le (tgt := 14) (by decide) o1 (by decide) (ck dc29 (i := 5) rfl) (fun c => ?_) (fun c => ?_)
    · replace h := h.1 c
      refine G_aload_n 0 rfl rfl (ck dc29 (i := 8) rfl) ?_
      refine H_getR mf29 (ck dc29 (i := 9) rfl) fw_ClearingWaves_76 fc10_13 ly0 ra0 rf0_13 (by decide) ?_
      refine G_iload_n 1 rfl rfl (ck dc29 (i := 10) rfl) ?_
      refine H_vZ mf29 (As := [.inl a1]) (st := []) (ck dc29 (i := 11) rfl) lk_ClearingWaves_131 rfl rfl (Nat.le_of_ble_eq_true rfl) ly45 ra45 ⟨Nat.le_refl _, Nat.le_refl _⟩ h (fun r2 M3 h => ?_)
      obtain ⟨o4, h⟩ := h
      refine G_if_eq (tgt := 35) (by decide) o4 (ck dc29 (i := 12) rfl) (fun c => ?_) (fun c => ?_)
      · replace h := h.1 c
        refine G_bipush (n := (-4)) rfl (ck dc29 (i := 17) rfl) ?_
        exact H_iretI mf29 (ck dc29 (i := 18) rfl) rfl h
      · replace h := h.2 c
        refine G_aload_n 0 rfl rfl (ck dc29 (i := 13) rfl) ?_
        refine H_getR mf29 (ck dc29 (i := 14) rfl) fw_ClearingWaves_76 fc10_13 ly0 ra0 rf0_13 (by decide) ?_
        refine H_getI mf29 (ck dc29 (i := 15) rfl) fw_ClearingWaves_134 (Or.inl fc7_0) ly45 ra45 (x := (M3 45 0)) rfl ?_
        refine G_goto (tgt := 37) (by decide) (ck dc29 (i := 16) rfl) ?_
        exact H_iretI mf29 (ck dc29 (i := 18) rfl) rfl h
    · replace h := h.2 c
      refine G_bipush (n := (-2)) rfl (ck dc29 (i := 6) rfl) ?_
      exact H_iretI mf29 (ck dc29 (i := 7) rfl) rfl h
theorem c_x_clear (K : Nat) (M : PM) (Q : Option PV → PM → Prop)
    (h : Call K jTape_empty [.inr (.inr 45)] P0 P0 M (retI fun r1 M2 => Q (some (.inl r1)) M2)) : Call (K + 1) jClearingWaves_clear [.inr (.inr 0)] P0 P0 M Q := by
  refine Call.intro (by decide +kernel) (mfx.le mf31 (Nat.le_of_ble_eq_true rfl)) (Nat.le_refl _) rfl ?_
  refine G_aload_n 0 rfl rfl (ck dc31 (i := 0) rfl) ?_
  refine H_getR mf31 (ck dc31 (i := 1) rfl) fw_ClearingWaves_76 fc10_13 ly0 ra0 rf0_13 (by decide) ?_
  refine H_vI mf31 (As := []) (st := []) (ck dc31 (i := 2) rfl) lk_ClearingWaves_137 rfl rfl (Nat.le_of_ble_eq_true rfl) ly45 ra45 ⟨Nat.le_refl _, Nat.le_refl _⟩ h (fun r1 M2 h => ?_)
  exact H_iretI mf31 (ck dc31 (i := 3) rfl) rfl h
theorem c_x_read (K : Nat) (M : PM) (Q : Option PV → PM → Prop)
    (h : Call K jTape_scan [.inr (.inr 45), .inr (.inr 1), .inl 0] P0 P0 M (retI fun r1 M2 => R32 r1 ∧ (r1 ≤ 0 → Call K jTape_empty [.inr (.inr 45)] P0 P0 M2 (retI fun r4 M5 => Q (some (.inl r1)) M5)) ∧ (¬ r1 ≤ 0 → Call K jTape_scan [.inr (.inr 45), .inr (.inr 1), .inl 1] P0 P0 M2 (retI fun r6 M7 => Call K jClearingWaves_noteChange [.inr (.inr 0)] P0 P0 M7 (retV fun M9 => Call K jTape_empty [.inr (.inr 45)] P0 P0 M9 (retI fun r10 M11 => Q (some (.inl r1)) M11)))))) : Call (K + 1) jClearingWaves_read [.inr (.inr 0)] P0 P0 M Q := by
  refine Call.intro (by decide +kernel) (mfx.le mf33 (Nat.le_of_ble_eq_true rfl)) (Nat.le_refl _) rfl ?_
  refine G_aload_n 0 rfl rfl (ck dc33 (i := 0) rfl) ?_
  refine H_getR mf33 (ck dc33 (i := 1) rfl) fw_ClearingWaves_76 fc10_13 ly0 ra0 rf0_13 (by decide) ?_
  refine G_aload_n 0 rfl rfl (ck dc33 (i := 2) rfl) ?_
  refine H_getR mf33 (ck dc33 (i := 3) rfl) fw_ClearingWaves_12 fc10_0 ly0 ra0 rf0_0 (by decide) ?_
  refine G_iconst (ck dc33 (i := 4) rfl) ?_
  refine H_vI mf33 (As := [.inr (.inr 1), .inl 0]) (st := []) (ck dc33 (i := 5) rfl) lk_ClearingWaves_141 rfl rfl (Nat.le_of_ble_eq_true rfl) ly45 ra45 ⟨Nat.le_refl _, Nat.le_refl _⟩ h (fun r1 M2 h => ?_)
  refine G_istore_n (L' := [(1, .inl r1), (0, .inr (.inr 0))]) rfl (mfx.lt mf33 (Nat.le_of_ble_eq_true rfl)) rfl (ck dc33 (i := 6) rfl) ?_
  refine G_iload_n 0 rfl rfl (ck dc33 (i := 7) rfl) ?_
  obtain ⟨o3, h⟩ := h
  refine G_if_le (tgt := 34) (by decide) o3 (ck dc33 (i := 8) rfl) (fun c => ?_) (fun c => ?_)
  · replace h := h.1 c
    refine G_aload_n 1 rfl rfl (ck dc33 (i := 18) rfl) ?_
    refine H_getR mf33 (ck dc33 (i := 19) rfl) fw_ClearingWaves_76 fc10_13 ly0 ra0 rf0_13 (by decide) ?_
    refine H_vI mf33 (As := []) (st := []) (ck dc33 (i := 20) rfl) lk_ClearingWaves_137 rfl rfl (Nat.le_of_ble_eq_true rfl) ly45 ra45 ⟨Nat.le_refl _, Nat.le_refl _⟩ h (fun r4 M5 h => ?_)
    refine G_pop rfl (ck dc33 (i := 21) rfl) ?_
    refine G_iload_n 0 rfl rfl (ck dc33 (i := 22) rfl) ?_
    exact H_iretI mf33 (ck dc33 (i := 23) rfl) rfl h
  · replace h := h.2 c
    refine G_aload_n 1 rfl rfl (ck dc33 (i := 9) rfl) ?_
    refine H_getR mf33 (ck dc33 (i := 10) rfl) fw_ClearingWaves_76 fc10_13 ly0 ra0 rf0_13 (by decide) ?_
    refine G_aload_n 1 rfl rfl (ck dc33 (i := 11) rfl) ?_
    refine H_getR mf33 (ck dc33 (i := 12) rfl) fw_ClearingWaves_12 fc10_0 ly0 ra0 rf0_0 (by decide) ?_
    refine G_iconst (ck dc33 (i := 13) rfl) ?_
    refine H_vI mf33 (As := [.inr (.inr 1), .inl 1]) (st := []) (ck dc33 (i := 14) rfl) lk_ClearingWaves_141 rfl rfl (Nat.le_of_ble_eq_true rfl) ly45 ra45 ⟨Nat.le_refl _, Nat.le_refl _⟩ h (fun r6 M7 h => ?_)
    refine G_pop rfl (ck dc33 (i := 15) rfl) ?_
    refine G_aload_n 1 rfl rfl (ck dc33 (i := 16) rfl) ?_
    refine H_vV mf33 (As := []) (st := []) (ck dc33 (i := 17) rfl) lk_ClearingWaves_105 rfl rfl (Nat.le_of_ble_eq_true rfl) ly0 ra0 ⟨Nat.le_refl _, Nat.le_refl _⟩ h (fun M9 h => ?_)
    refine G_aload_n 1 rfl rfl (ck dc33 (i := 18) rfl) ?_
    refine H_getR mf33 (ck dc33 (i := 19) rfl) fw_ClearingWaves_76 fc10_13 ly0 ra0 rf0_13 (by decide) ?_
    refine H_vI mf33 (As := []) (st := []) (ck dc33 (i := 20) rfl) lk_ClearingWaves_137 rfl rfl (Nat.le_of_ble_eq_true rfl) ly45 ra45 ⟨Nat.le_refl _, Nat.le_refl _⟩ h (fun r10 M11 h => ?_)
    refine G_pop rfl (ck dc33 (i := 21) rfl) ?_
    refine G_iload_n 0 rfl rfl (ck dc33 (i := 22) rfl) ?_
    exact H_iretI mf33 (ck dc33 (i := 23) rfl) rfl h
theorem c_x_cleared (K : Nat) (M : PM) (Q : Option PV → PM → Prop)
    (h : R32 (M 0 7) ∧ ((M 0 7) = 0 → Q (some (.inr (.inr 11))) M) ∧ (¬ (M 0 7) = 0 → Call K jClearing_run [.inr (.inr 11)] P0 P0 M (retV fun M3 => Q (some (.inr (.inr 11))) (mset M3 0 7 0)))) : Call (K + 1) jClearingWaves_cleared [.inr (.inr 0)] P0 P0 M Q := by
  refine Call.intro (by decide +kernel) (mfx.le mf40 (Nat.le_of_ble_eq_true rfl)) (Nat.le_refl _) rfl ?_
  refine G_aload_n 0 rfl rfl (ck dc40 (i := 0) rfl) ?_
  refine H_getI mf40 (ck dc40 (i := 1) rfl) fw_ClearingWaves_94 (Or.inr fc10_7) ly0 ra0 (x := (M 0 7)) rfl ?_
  obtain ⟨o1, h⟩ := h
  refine G_if_eq (tgt := 19) (by decide) o1 (ck dc40 (i := 2) rfl) (fun c => ?_) (fun c => ?_)
  · replace h := h.1 c
    refine G_aload_n 0 rfl rfl (ck dc40 (i := 9) rfl) ?_
    refine H_getR mf40 (ck dc40 (i := 10) rfl) fw_ClearingWaves_36 fc10_5 ly0 ra0 rf0_5 (by decide) ?_
    exact H_aret mf40 (ck dc40 (i := 11) rfl) rfl (by decide) h
  · replace h := h.2 c
    refine G_aload_n 0 rfl rfl (ck dc40 (i := 3) rfl) ?_
    refine H_getR mf40 (ck dc40 (i := 4) rfl) fw_ClearingWaves_36 fc10_5 ly0 ra0 rf0_5 (by decide) ?_
    refine H_vV mf40 (As := []) (st := []) (ck dc40 (i := 5) rfl) lk_ClearingWaves_264 rfl rfl (Nat.le_of_ble_eq_true rfl) ly11 ra11 ⟨Nat.le_refl _, Nat.le_refl _⟩ h (fun M3 h => ?_)
    refine G_aload_n 0 rfl rfl (ck dc40 (i := 6) rfl) ?_
    refine G_iconst (ck dc40 (i := 7) rfl) ?_
    refine H_putZ mf40 (ck dc40 (i := 8) rfl) fw_ClearingWaves_94 fc10_7 ly0 ra0 (Or.inl rfl) (Or.inl rfl) ?_
    refine G_aload_n 0 rfl rfl (ck dc40 (i := 9) rfl) ?_
    refine H_getR mf40 (ck dc40 (i := 10) rfl) fw_ClearingWaves_36 fc10_5 ly0 ra0 rf0_5 (by decide) ?_
    exact H_aret mf40 (ck dc40 (i := 11) rfl) rfl (by decide) h
theorem c_x_waves (K : Nat) (M : PM) (Q : Option PV → PM → Prop)
    (h : Call K jClearingWaves_cleared [.inr (.inr 0)] P0 P0 M (retR fun r1 M2 => r1 = 11 ∧ Q (some (.inl (M2 11 0))) M2)) : Call (K + 1) jClearingWaves_waves [.inr (.inr 0)] P0 P0 M Q := by
  refine Call.intro (by decide +kernel) (mfx.le mf39 (Nat.le_of_ble_eq_true rfl)) (Nat.le_refl _) rfl ?_
  refine G_aload_n 0 rfl rfl (ck dc39 (i := 0) rfl) ?_
  refine H_vR mf39 (As := []) (st := []) (ck dc39 (i := 1) rfl) lk_ClearingWaves_145 rfl rfl (Nat.le_of_ble_eq_true rfl) ly0 ra0 ⟨Nat.le_refl _, Nat.le_refl _⟩ h (fun r1 M2 h => ?_)
  obtain ⟨rfl, h⟩ := h
  refine H_getI mf39 (ck dc39 (i := 2) rfl) fw_ClearingWaves_149 (Or.inl fc1_0) ly11 ra11 (x := (M2 11 0)) rfl ?_
  exact H_iretI mf39 (ck dc39 (i := 3) rfl) rfl h
theorem c_x_wave (K : Nat) (a1 : Int) (M : PM) (Q : Option PV → PM → Prop)
    (h : Call K jBook_hasHouse [.inr (.inr 1), .inl a1] P0 P0 M (retI fun r1 M2 => R32 r1 ∧ (r1 = 0 → Q (some (.inl (-1))) M2) ∧ (¬ r1 = 0 → Call K jClearingWaves_cleared [.inr (.inr 0)] P0 P0 M2 (retR fun r4 M5 => r4 = 11 ∧ (0 ≤ a1 ∧ a1 < 5) ∧ Q (some (.inl (M5 12 a1))) M5)))) : Call (K + 1) jClearingWaves_wave [.inr (.inr 0), .inl a1] P0 P0 M Q := by
  refine Call.intro (by decide +kernel) (mfx.le mf66 (Nat.le_of_ble_eq_true rfl)) (Nat.le_refl _) rfl ?_
  refine G_aload_n 0 rfl rfl (ck dc66 (i := 0) rfl) ?_
  refine H_getR mf66 (ck dc66 (i := 1) rfl) fw_ClearingWaves_12 fc10_0 ly0 ra0 rf0_0 (by decide) ?_
  refine G_iload_n 1 rfl rfl (ck dc66 (i := 2) rfl) ?_
  refine H_vZ mf66 (As := [.inl a1]) (st := []) (ck dc66 (i := 3) rfl) lk_ClearingWaves_108 rfl rfl (Nat.le_of_ble_eq_true rfl) ly1 ra1 ⟨Nat.le_refl _, Nat.le_refl _⟩ h (fun r1 M2 h => ?_)
  obtain ⟨o3, h⟩ := h
  refine G_if_eq (tgt := 23) (by decide) o3 (ck dc66 (i := 4) rfl) (fun c => ?_) (fun c => ?_)
  · replace h := h.1 c
    refine G_iconst (ck dc66 (i := 11) rfl) ?_
    exact H_iretI mf66 (ck dc66 (i := 12) rfl) rfl h
  · replace h := h.2 c
    refine G_aload_n 0 rfl rfl (ck dc66 (i := 5) rfl) ?_
    refine H_vR mf66 (As := []) (st := []) (ck dc66 (i := 6) rfl) lk_ClearingWaves_145 rfl rfl (Nat.le_of_ble_eq_true rfl) ly0 ra0 ⟨Nat.le_refl _, Nat.le_refl _⟩ h (fun r4 M5 h => ?_)
    obtain ⟨rfl, h⟩ := h
    refine H_getR mf66 (ck dc66 (i := 7) rfl) fw_ClearingWaves_152 fc1_2 ly11 ra11 rf11_2 (by decide) ?_
    refine G_iload_n 1 rfl rfl (ck dc66 (i := 8) rfl) ?_
    obtain ⟨o6, h⟩ := h
    refine H_iald (ck dc66 (i := 9) rfl) ly12 (by decide) ra12 o6 (x := (M5 12 a1)) rfl ?_
    refine G_goto (tgt := 24) (by decide) (ck dc66 (i := 10) rfl) ?_
    exact H_iretI mf66 (ck dc66 (i := 12) rfl) rfl h
theorem c_x_fails (K : Nat) (M : PM) (Q : Option PV → PM → Prop)
    (h : Call K jClearingWaves_cleared [.inr (.inr 0)] P0 P0 M (retR fun r1 M2 => r1 = 11 ∧ Q (some (.inl (M2 11 1))) M2)) : Call (K + 1) jClearingWaves_fails [.inr (.inr 0)] P0 P0 M Q := by
  refine Call.intro (by decide +kernel) (mfx.le mf67 (Nat.le_of_ble_eq_true rfl)) (Nat.le_refl _) rfl ?_
  refine G_aload_n 0 rfl rfl (ck dc67 (i := 0) rfl) ?_
  refine H_vR mf67 (As := []) (st := []) (ck dc67 (i := 1) rfl) lk_ClearingWaves_145 rfl rfl (Nat.le_of_ble_eq_true rfl) ly0 ra0 ⟨Nat.le_refl _, Nat.le_refl _⟩ h (fun r1 M2 h => ?_)
  obtain ⟨rfl, h⟩ := h
  refine H_getI mf67 (ck dc67 (i := 2) rfl) fw_ClearingWaves_155 (Or.inl fc1_1) ly11 ra11 (x := (M2 11 1)) rfl ?_
  exact H_iretI mf67 (ck dc67 (i := 3) rfl) rfl h
theorem c_x_partIn (K : Nat) (a1 a2 a3 a4 : Int) (M : PM) (Q : Option PV → PM → Prop)
    (h : Call K jClearingWaves_cleared [.inr (.inr 0)] P0 P0 M (retR fun r1 M2 => r1 = 11 ∧ Call K jClearing_hasRound [.inr (.inr 11), .inl a1] P0 P0 M2 (retI fun r3 M4 => R32 r3 ∧ (r3 = 0 → Q (some (.inr (.inl (-9223372036854775808)))) M4) ∧ (¬ r3 = 0 → Call K jBook_hasPart [.inr (.inr 1), .inl a2, .inl a3] P0 P0 M4 (retI fun r6 M7 => R32 r6 ∧ (¬ r6 = 0 → Call K jClearing_top [.inr (.inr 11), .inl a1, .inl a2, .inl a3] P0 P0 M7 (retL fun r9 M10 => Call K jClearing_bottom [.inr (.inr 11), .inl a1] P0 P0 M10 (retL fun r11 M12 => Call K jRatio_tell [.inr (.inl r9), .inr (.inl r11), .inl a4] P0 P0 M12 (retL fun r13 M14 => Q (some (.inr (.inl r13))) M14)))) ∧ (r6 = 0 → Q (some (.inr (.inl (-9223372036854775808)))) M7)))))) : Call (K + 1) jClearingWaves_partIn [.inr (.inr 0), .inl a1, .inl a2, .inl a3, .inl a4] P0 P0 M Q := by
  refine Call.intro (by decide +kernel) (mfx.le mf69 (Nat.le_of_ble_eq_true rfl)) (Nat.le_refl _) rfl ?_
  refine G_aload_n 0 rfl rfl (ck dc69 (i := 0) rfl) ?_
  refine H_vR mf69 (As := []) (st := []) (ck dc69 (i := 1) rfl) lk_ClearingWaves_145 rfl rfl (Nat.le_of_ble_eq_true rfl) ly0 ra0 ⟨Nat.le_refl _, Nat.le_refl _⟩ h (fun r1 M2 h => ?_)
  obtain ⟨rfl, h⟩ := h
  refine G_astore (L' := [(5, .inr (.inr 11)), (0, .inr (.inr 0)), (1, .inl a1), (2, .inl a2), (3, .inl a3), (4, .inl a4)]) (mfx.lt mf69 (Nat.le_of_ble_eq_true rfl)) rfl (ck dc69 (i := 2) rfl) ?_
  refine G_aload 0 rfl (ck dc69 (i := 3) rfl) ?_
  refine G_iload_n 2 rfl rfl (ck dc69 (i := 4) rfl) ?_
  refine H_vZ mf69 (As := [.inl a1]) (st := []) (ck dc69 (i := 5) rfl) lk_ClearingWaves_162 rfl rfl (Nat.le_of_ble_eq_true rfl) ly11 ra11 ⟨Nat.le_refl _, Nat.le_refl _⟩ h (fun r3 M4 h => ?_)
  obtain ⟨o5, h⟩ := h
  refine G_if_eq (tgt := 27) (by decide) o5 (ck dc69 (i := 6) rfl) (fun c => ?_) (fun c => ?_)
  · replace h := h.1 c
    refine H_ldc2 mf69 (v := (-9223372036854775808)) (ck dc69 (i := 13) rfl) kl_ClearingWaves_169 ?_
    exact H_lret mf69 (ck dc69 (i := 14) rfl) rfl h
  · replace h := h.2 c
    refine G_aload_n 1 rfl rfl (ck dc69 (i := 7) rfl) ?_
    refine H_getR mf69 (ck dc69 (i := 8) rfl) fw_ClearingWaves_12 fc10_0 ly0 ra0 rf0_0 (by decide) ?_
    refine G_iload_n 3 rfl rfl (ck dc69 (i := 9) rfl) ?_
    refine G_iload_n 4 rfl rfl (ck dc69 (i := 10) rfl) ?_
    refine H_vZ mf69 (As := [.inl a2, .inl a3]) (st := []) (ck dc69 (i := 11) rfl) lk_ClearingWaves_165 rfl rfl (Nat.le_of_ble_eq_true rfl) ly1 ra1 ⟨Nat.le_refl _, Nat.le_refl _⟩ h (fun r6 M7 h => ?_)
    obtain ⟨o8, h⟩ := h
    refine G_if_ne (tgt := 31) (by decide) o8 (ck dc69 (i := 12) rfl) (fun c => ?_) (fun c => ?_)
    · replace h := h.1 c
      refine G_aload 0 rfl (ck dc69 (i := 15) rfl) ?_
      refine G_iload_n 2 rfl rfl (ck dc69 (i := 16) rfl) ?_
      refine G_iload_n 3 rfl rfl (ck dc69 (i := 17) rfl) ?_
      refine G_iload_n 4 rfl rfl (ck dc69 (i := 18) rfl) ?_
      refine H_vL mf69 (As := [.inl a1, .inl a2, .inl a3]) (st := []) (ck dc69 (i := 19) rfl) lk_ClearingWaves_171 rfl rfl (Nat.le_of_ble_eq_true rfl) ly11 ra11 ⟨Nat.le_refl _, Nat.le_refl _⟩ h (fun r9 M10 h => ?_)
      refine G_aload 0 rfl (ck dc69 (i := 20) rfl) ?_
      refine G_iload_n 2 rfl rfl (ck dc69 (i := 21) rfl) ?_
      refine H_vL mf69 (As := [.inl a1]) (st := [.inr (.inl r9)]) (ck dc69 (i := 22) rfl) lk_ClearingWaves_175 rfl rfl (Nat.le_of_ble_eq_true rfl) ly11 ra11 ⟨Nat.le_refl _, Nat.le_refl _⟩ h (fun r11 M12 h => ?_)
      refine G_iload 5 rfl (ck dc69 (i := 23) rfl) ?_
      refine H_sL mf69 (As := [.inr (.inl r9), .inr (.inl r11), .inl a4]) (st := []) (ck dc69 (i := 24) rfl) lk_ClearingWaves_179 rfl rfl (Nat.le_of_ble_eq_true rfl) ⟨Nat.le_refl _, Nat.le_refl _⟩ h (fun r13 M14 h => ?_)
      exact H_lret mf69 (ck dc69 (i := 25) rfl) rfl h
    · replace h := h.2 c
      refine H_ldc2 mf69 (v := (-9223372036854775808)) (ck dc69 (i := 13) rfl) kl_ClearingWaves_169 ?_
      exact H_lret mf69 (ck dc69 (i := 14) rfl) rfl h
theorem c_x_part (K : Nat) (a1 a2 a3 : Int) (M : PM) (Q : Option PV → PM → Prop)
    (h : Call K jClearingWaves_cleared [.inr (.inr 0)] P0 P0 M (retR fun r1 M2 => r1 = 11 ∧ Call K jClearingWaves_partIn [.inr (.inr 0), .inl (M2 11 0), .inl a1, .inl a2, .inl a3] P0 P0 M2 (retL fun r3 M4 => Q (some (.inr (.inl r3))) M4))) : Call (K + 1) jClearingWaves_part [.inr (.inr 0), .inl a1, .inl a2, .inl a3] P0 P0 M Q := by
  refine Call.intro (by decide +kernel) (mfx.le mf68 (Nat.le_of_ble_eq_true rfl)) (Nat.le_refl _) rfl ?_
  refine G_aload_n 0 rfl rfl (ck dc68 (i := 0) rfl) ?_
  refine G_aload_n 0 rfl rfl (ck dc68 (i := 1) rfl) ?_
  refine H_vR mf68 (As := []) (st := [.inr (.inr 0)]) (ck dc68 (i := 2) rfl) lk_ClearingWaves_145 rfl rfl (Nat.le_of_ble_eq_true rfl) ly0 ra0 ⟨Nat.le_refl _, Nat.le_refl _⟩ h (fun r1 M2 h => ?_)
  obtain ⟨rfl, h⟩ := h
  refine H_getI mf68 (ck dc68 (i := 3) rfl) fw_ClearingWaves_149 (Or.inl fc1_0) ly11 ra11 (x := (M2 11 0)) rfl ?_
  refine G_iload_n 1 rfl rfl (ck dc68 (i := 4) rfl) ?_
  refine G_iload_n 2 rfl rfl (ck dc68 (i := 5) rfl) ?_
  refine G_iload_n 3 rfl rfl (ck dc68 (i := 6) rfl) ?_
  refine H_vL mf68 (As := [.inl (M2 11 0), .inl a1, .inl a2, .inl a3]) (st := []) (ck dc68 (i := 7) rfl) lk_ClearingWaves_158 rfl rfl (Nat.le_of_ble_eq_true rfl) ly0 ra0 ⟨Nat.le_refl _, Nat.le_refl _⟩ h (fun r3 M4 h => ?_)
  exact H_lret mf68 (ck dc68 (i := 8) rfl) rfl h
theorem c_x_paid (K : Nat) (a1 a2 a3 a4 : Int) (M : PM) (Q : Option PV → PM → Prop)
    (h : Call K jBook_hasDebt [.inr (.inr 1), .inl a1, .inl a2, .inl a3] P0 P0 M (retI fun r1 M2 => R32 r1 ∧ (¬ r1 = 0 → Call K jClearingWaves_cleared [.inr (.inr 0)] P0 P0 M2 (retR fun r4 M5 => r4 = 11 ∧ Call K jClearing_top [.inr (.inr 11), .inl (M5 11 0), .inl a1, .inl a3] P0 P0 M5 (retL fun r6 M7 => Call K jBook_amount [.inr (.inr 1), .inl a1, .inl a2, .inl a3] P0 P0 M7 (retI fun r8 M9 => R32 r8 ∧ Call K jClearing_bottom [.inr (.inr 11), .inl (M9 11 0)] P0 P0 M9 (retL fun r11 M12 => Call K jRatio_tell [.inr (.inl (r6 * r8)), .inr (.inl r11), .inl a4] P0 P0 M12 (retL fun r13 M14 => Q (some (.inr (.inl r13))) M14)))))) ∧ (r1 = 0 → Q (some (.inr (.inl (-9223372036854775808)))) M2))) : Call (K + 1) jClearingWaves_paid [.inr (.inr 0), .inl a1, .inl a2, .inl a3, .inl a4] P0 P0 M Q := by
  refine Call.intro (by decide +kernel) (mfx.le mf74 (Nat.le_of_ble_eq_true rfl)) (Nat.le_refl _) rfl ?_
  refine G_aload_n 0 rfl rfl (ck dc74 (i := 0) rfl) ?_
  refine H_getR mf74 (ck dc74 (i := 1) rfl) fw_ClearingWaves_12 fc10_0 ly0 ra0 rf0_0 (by decide) ?_
  refine G_iload_n 1 rfl rfl (ck dc74 (i := 2) rfl) ?_
  refine G_iload_n 2 rfl rfl (ck dc74 (i := 3) rfl) ?_
  refine G_iload_n 3 rfl rfl (ck dc74 (i := 4) rfl) ?_
  refine H_vZ mf74 (As := [.inl a1, .inl a2, .inl a3]) (st := []) (ck dc74 (i := 5) rfl) lk_ClearingWaves_112 rfl rfl (Nat.le_of_ble_eq_true rfl) ly1 ra1 ⟨Nat.le_refl _, Nat.le_refl _⟩ h (fun r1 M2 h => ?_)
  obtain ⟨o3, h⟩ := h
  refine G_if_ne (tgt := 17) (by decide) o3 (ck dc74 (i := 6) rfl) (fun c => ?_) (fun c => ?_)
  · replace h := h.1 c
    refine G_aload_n 0 rfl rfl (ck dc74 (i := 9) rfl) ?_
    refine H_vR mf74 (As := []) (st := []) (ck dc74 (i := 10) rfl) lk_ClearingWaves_145 rfl rfl (Nat.le_of_ble_eq_true rfl) ly0 ra0 ⟨Nat.le_refl _, Nat.le_refl _⟩ h (fun r4 M5 h => ?_)
    obtain ⟨rfl, h⟩ := h
    refine G_astore (L' := [(5, .inr (.inr 11)), (0, .inr (.inr 0)), (1, .inl a1), (2, .inl a2), (3, .inl a3), (4, .inl a4)]) (mfx.lt mf74 (Nat.le_of_ble_eq_true rfl)) rfl (ck dc74 (i := 11) rfl) ?_
    refine G_aload 0 rfl (ck dc74 (i := 12) rfl) ?_
    refine G_aload 0 rfl (ck dc74 (i := 13) rfl) ?_
    refine H_getI mf74 (ck dc74 (i := 14) rfl) fw_ClearingWaves_149 (Or.inl fc1_0) ly11 ra11 (x := (M5 11 0)) rfl ?_
    refine G_iload_n 2 rfl rfl (ck dc74 (i := 15) rfl) ?_
    refine G_iload_n 4 rfl rfl (ck dc74 (i := 16) rfl) ?_
    refine H_vL mf74 (As := [.inl (M5 11 0), .inl a1, .inl a3]) (st := []) (ck dc74 (i := 17) rfl) lk_ClearingWaves_171 rfl rfl (Nat.le_of_ble_eq_true rfl) ly11 ra11 ⟨Nat.le_refl _, Nat.le_refl _⟩ h (fun r6 M7 h => ?_)
    refine G_aload_n 1 rfl rfl (ck dc74 (i := 18) rfl) ?_
    refine H_getR mf74 (ck dc74 (i := 19) rfl) fw_ClearingWaves_12 fc10_0 ly0 ra0 rf0_0 (by decide) ?_
    refine G_iload_n 2 rfl rfl (ck dc74 (i := 20) rfl) ?_
    refine G_iload_n 3 rfl rfl (ck dc74 (i := 21) rfl) ?_
    refine G_iload_n 4 rfl rfl (ck dc74 (i := 22) rfl) ?_
    refine H_vI mf74 (As := [.inl a1, .inl a2, .inl a3]) (st := [.inr (.inl r6)]) (ck dc74 (i := 23) rfl) lk_ClearingWaves_116 rfl rfl (Nat.le_of_ble_eq_true rfl) ly1 ra1 ⟨Nat.le_refl _, Nat.le_refl _⟩ h (fun r8 M9 h => ?_)
    obtain ⟨o10, h⟩ := h
    refine G_i2l o10 (ck dc74 (i := 24) rfl) ?_
    refine G_lmul (ck dc74 (i := 25) rfl) ?_
    refine G_lstore (L' := [(6, .inr (.inl (r6 * r8))), (5, .inr (.inr 11)), (0, .inr (.inr 0)), (1, .inl a1), (2, .inl a2), (3, .inl a3), (4, .inl a4)]) (mfx.lt mf74 (Nat.le_of_ble_eq_true rfl)) rfl (ck dc74 (i := 26) rfl) ?_
    refine G_lload 0 rfl (ck dc74 (i := 27) rfl) ?_
    refine G_aload 1 rfl (ck dc74 (i := 28) rfl) ?_
    refine G_aload 1 rfl (ck dc74 (i := 29) rfl) ?_
    refine H_getI mf74 (ck dc74 (i := 30) rfl) fw_ClearingWaves_149 (Or.inl fc1_0) ly11 ra11 (x := (M9 11 0)) rfl ?_
    refine H_vL mf74 (As := [.inl (M9 11 0)]) (st := [.inr (.inl (r6 * r8))]) (ck dc74 (i := 31) rfl) lk_ClearingWaves_175 rfl rfl (Nat.le_of_ble_eq_true rfl) ly11 ra11 ⟨Nat.le_refl _, Nat.le_refl _⟩ h (fun r11 M12 h => ?_)
    refine G_iload 6 rfl (ck dc74 (i := 32) rfl) ?_
    refine H_sL mf74 (As := [.inr (.inl (r6 * r8)), .inr (.inl r11), .inl a4]) (st := []) (ck dc74 (i := 33) rfl) lk_ClearingWaves_179 rfl rfl (Nat.le_of_ble_eq_true rfl) ⟨Nat.le_refl _, Nat.le_refl _⟩ h (fun r13 M14 h => ?_)
    exact H_lret mf74 (ck dc74 (i := 34) rfl) rfl h
  · replace h := h.2 c
    refine H_ldc2 mf74 (v := (-9223372036854775808)) (ck dc74 (i := 7) rfl) kl_ClearingWaves_169 ?_
    exact H_lret mf74 (ck dc74 (i := 8) rfl) rfl h
theorem c_x_gets (K : Nat) (a1 a2 : Int) (M : PM) (Q : Option PV → PM → Prop)
    (h : Call K jBook_hasHouse [.inr (.inr 1), .inl a1] P0 P0 M (retI fun r1 M2 => R32 r1 ∧ (¬ r1 = 0 → Call K jClearingWaves_cleared [.inr (.inr 0)] P0 P0 M2 (retR fun r4 M5 => r4 = 11 ∧ Call K jClearing_income [.inr (.inr 11), .inl (M5 11 0), .inl a1] P0 P0 M5 (retL fun r6 M7 => Call K jClearing_bottom [.inr (.inr 11), .inl (M7 11 0)] P0 P0 M7 (retL fun r8 M9 => Call K jRatio_tell [.inr (.inl r6), .inr (.inl r8), .inl a2] P0 P0 M9 (retL fun r10 M11 => Q (some (.inr (.inl r10))) M11))))) ∧ (r1 = 0 → Q (some (.inr (.inl (-9223372036854775808)))) M2))) : Call (K + 1) jClearingWaves_gets [.inr (.inr 0), .inl a1, .inl a2] P0 P0 M Q := by
  refine Call.intro (by decide +kernel) (mfx.le mf75 (Nat.le_of_ble_eq_true rfl)) (Nat.le_refl _) rfl ?_
  refine G_aload_n 0 rfl rfl (ck dc75 (i := 0) rfl) ?_
  refine H_getR mf75 (ck dc75 (i := 1) rfl) fw_ClearingWaves_12 fc10_0 ly0 ra0 rf0_0 (by decide) ?_
  refine G_iload_n 1 rfl rfl (ck dc75 (i := 2) rfl) ?_
  refine H_vZ mf75 (As := [.inl a1]) (st := []) (ck dc75 (i := 3) rfl) lk_ClearingWaves_108 rfl rfl (Nat.le_of_ble_eq_true rfl) ly1 ra1 ⟨Nat.le_refl _, Nat.le_refl _⟩ h (fun r1 M2 h => ?_)
  obtain ⟨o3, h⟩ := h
  refine G_if_ne (tgt := 15) (by decide) o3 (ck dc75 (i := 4) rfl) (fun c => ?_) (fun c => ?_)
  · replace h := h.1 c
    refine G_aload_n 0 rfl rfl (ck dc75 (i := 7) rfl) ?_
    refine H_vR mf75 (As := []) (st := []) (ck dc75 (i := 8) rfl) lk_ClearingWaves_145 rfl rfl (Nat.le_of_ble_eq_true rfl) ly0 ra0 ⟨Nat.le_refl _, Nat.le_refl _⟩ h (fun r4 M5 h => ?_)
    obtain ⟨rfl, h⟩ := h
    refine G_astore_n (L' := [(3, .inr (.inr 11)), (0, .inr (.inr 0)), (1, .inl a1), (2, .inl a2)]) rfl (mfx.lt mf75 (Nat.le_of_ble_eq_true rfl)) rfl (ck dc75 (i := 9) rfl) ?_
    refine G_aload_n 0 rfl rfl (ck dc75 (i := 10) rfl) ?_
    refine G_aload_n 0 rfl rfl (ck dc75 (i := 11) rfl) ?_
    refine H_getI mf75 (ck dc75 (i := 12) rfl) fw_ClearingWaves_149 (Or.inl fc1_0) ly11 ra11 (x := (M5 11 0)) rfl ?_
    refine G_iload_n 2 rfl rfl (ck dc75 (i := 13) rfl) ?_
    refine H_vL mf75 (As := [.inl (M5 11 0), .inl a1]) (st := []) (ck dc75 (i := 14) rfl) lk_ClearingWaves_185 rfl rfl (Nat.le_of_ble_eq_true rfl) ly11 ra11 ⟨Nat.le_refl _, Nat.le_refl _⟩ h (fun r6 M7 h => ?_)
    refine G_aload_n 0 rfl rfl (ck dc75 (i := 15) rfl) ?_
    refine G_aload_n 0 rfl rfl (ck dc75 (i := 16) rfl) ?_
    refine H_getI mf75 (ck dc75 (i := 17) rfl) fw_ClearingWaves_149 (Or.inl fc1_0) ly11 ra11 (x := (M7 11 0)) rfl ?_
    refine H_vL mf75 (As := [.inl (M7 11 0)]) (st := [.inr (.inl r6)]) (ck dc75 (i := 18) rfl) lk_ClearingWaves_175 rfl rfl (Nat.le_of_ble_eq_true rfl) ly11 ra11 ⟨Nat.le_refl _, Nat.le_refl _⟩ h (fun r8 M9 h => ?_)
    refine G_iload_n 3 rfl rfl (ck dc75 (i := 19) rfl) ?_
    refine H_sL mf75 (As := [.inr (.inl r6), .inr (.inl r8), .inl a2]) (st := []) (ck dc75 (i := 20) rfl) lk_ClearingWaves_179 rfl rfl (Nat.le_of_ble_eq_true rfl) ⟨Nat.le_refl _, Nat.le_refl _⟩ h (fun r10 M11 h => ?_)
    exact H_lret mf75 (ck dc75 (i := 21) rfl) rfl h
  · replace h := h.2 c
    refine H_ldc2 mf75 (v := (-9223372036854775808)) (ck dc75 (i := 5) rfl) kl_ClearingWaves_169 ?_
    exact H_lret mf75 (ck dc75 (i := 6) rfl) rfl h
theorem c_x_worthIn (K : Nat) (a1 a2 a3 : Int) (M : PM) (Q : Option PV → PM → Prop)
    (h : Call K jClearingWaves_cleared [.inr (.inr 0)] P0 P0 M (retR fun r1 M2 => r1 = 11 ∧ Call K jClearing_hasRound [.inr (.inr 11), .inl a1] P0 P0 M2 (retI fun r3 M4 => R32 r3 ∧ (r3 = 0 → Q (some (.inr (.inl (-9223372036854775808)))) M4) ∧ (¬ r3 = 0 → Call K jBook_hasHouse [.inr (.inr 1), .inl a2] P0 P0 M4 (retI fun r6 M7 => R32 r6 ∧ (¬ r6 = 0 → Call K jClearing_wealth [.inr (.inr 11), .inl a1, .inl a2] P0 P0 M7 (retL fun r9 M10 => Call K jClearing_bottom [.inr (.inr 11), .inl a1] P0 P0 M10 (retL fun r11 M12 => Call K jRatio_tell [.inr (.inl r9), .inr (.inl r11), .inl a3] P0 P0 M12 (retL fun r13 M14 => Q (some (.inr (.inl r13))) M14)))) ∧ (r6 = 0 → Q (some (.inr (.inl (-9223372036854775808)))) M7)))))) : Call (K + 1) jClearingWaves_worthIn [.inr (.inr 0), .inl a1, .inl a2, .inl a3] P0 P0 M Q := by
  refine Call.intro (by decide +kernel) (mfx.le mf76 (Nat.le_of_ble_eq_true rfl)) (Nat.le_refl _) rfl ?_
  refine G_aload_n 0 rfl rfl (ck dc76 (i := 0) rfl) ?_
  refine H_vR mf76 (As := []) (st := []) (ck dc76 (i := 1) rfl) lk_ClearingWaves_145 rfl rfl (Nat.le_of_ble_eq_true rfl) ly0 ra0 ⟨Nat.le_refl _, Nat.le_refl _⟩ h (fun r1 M2 h => ?_)
  obtain ⟨rfl, h⟩ := h
  refine G_astore (L' := [(4, .inr (.inr 11)), (0, .inr (.inr 0)), (1, .inl a1), (2, .inl a2), (3, .inl a3)]) (mfx.lt mf76 (Nat.le_of_ble_eq_true rfl)) rfl (ck dc76 (i := 2) rfl) ?_
  refine G_aload 0 rfl (ck dc76 (i := 3) rfl) ?_
  refine G_iload_n 2 rfl rfl (ck dc76 (i := 4) rfl) ?_
  refine H_vZ mf76 (As := [.inl a1]) (st := []) (ck dc76 (i := 5) rfl) lk_ClearingWaves_162 rfl rfl (Nat.le_of_ble_eq_true rfl) ly11 ra11 ⟨Nat.le_refl _, Nat.le_refl _⟩ h (fun r3 M4 h => ?_)
  obtain ⟨o5, h⟩ := h
  refine G_if_eq (tgt := 26) (by decide) o5 (ck dc76 (i := 6) rfl) (fun c => ?_) (fun c => ?_)
  · replace h := h.1 c
    refine H_ldc2 mf76 (v := (-9223372036854775808)) (ck dc76 (i := 12) rfl) kl_ClearingWaves_169 ?_
    exact H_lret mf76 (ck dc76 (i := 13) rfl) rfl h
  · replace h := h.2 c
    refine G_aload_n 1 rfl rfl (ck dc76 (i := 7) rfl) ?_
    refine H_getR mf76 (ck dc76 (i := 8) rfl) fw_ClearingWaves_12 fc10_0 ly0 ra0 rf0_0 (by decide) ?_
    refine G_iload_n 3 rfl rfl (ck dc76 (i := 9) rfl) ?_
    refine H_vZ mf76 (As := [.inl a2]) (st := []) (ck dc76 (i := 10) rfl) lk_ClearingWaves_108 rfl rfl (Nat.le_of_ble_eq_true rfl) ly1 ra1 ⟨Nat.le_refl _, Nat.le_refl _⟩ h (fun r6 M7 h => ?_)
    obtain ⟨o8, h⟩ := h
    refine G_if_ne (tgt := 30) (by decide) o8 (ck dc76 (i := 11) rfl) (fun c => ?_) (fun c => ?_)
    · replace h := h.1 c
      refine G_aload 0 rfl (ck dc76 (i := 14) rfl) ?_
      refine G_iload_n 2 rfl rfl (ck dc76 (i := 15) rfl) ?_
      refine G_iload_n 3 rfl rfl (ck dc76 (i := 16) rfl) ?_
      refine H_vL mf76 (As := [.inl a1, .inl a2]) (st := []) (ck dc76 (i := 17) rfl) lk_ClearingWaves_189 rfl rfl (Nat.le_of_ble_eq_true rfl) ly11 ra11 ⟨Nat.le_refl _, Nat.le_refl _⟩ h (fun r9 M10 h => ?_)
      refine G_aload 0 rfl (ck dc76 (i := 18) rfl) ?_
      refine G_iload_n 2 rfl rfl (ck dc76 (i := 19) rfl) ?_
      refine H_vL mf76 (As := [.inl a1]) (st := [.inr (.inl r9)]) (ck dc76 (i := 20) rfl) lk_ClearingWaves_175 rfl rfl (Nat.le_of_ble_eq_true rfl) ly11 ra11 ⟨Nat.le_refl _, Nat.le_refl _⟩ h (fun r11 M12 h => ?_)
      refine G_iload_n 4 rfl rfl (ck dc76 (i := 21) rfl) ?_
      refine H_sL mf76 (As := [.inr (.inl r9), .inr (.inl r11), .inl a3]) (st := []) (ck dc76 (i := 22) rfl) lk_ClearingWaves_179 rfl rfl (Nat.le_of_ble_eq_true rfl) ⟨Nat.le_refl _, Nat.le_refl _⟩ h (fun r13 M14 h => ?_)
      exact H_lret mf76 (ck dc76 (i := 23) rfl) rfl h
    · replace h := h.2 c
      refine H_ldc2 mf76 (v := (-9223372036854775808)) (ck dc76 (i := 12) rfl) kl_ClearingWaves_169 ?_
      exact H_lret mf76 (ck dc76 (i := 13) rfl) rfl h
theorem c_x_left (K : Nat) (a1 a2 : Int) (M : PM) (Q : Option PV → PM → Prop)
    (h : Call K jBook_hasHouse [.inr (.inr 1), .inl a1] P0 P0 M (retI fun r1 M2 => R32 r1 ∧ (¬ r1 = 0 → Call K jClearingWaves_cleared [.inr (.inr 0)] P0 P0 M2 (retR fun r4 M5 => r4 = 11 ∧ Call K jClearing_remains [.inr (.inr 11), .inl a1] P0 P0 M5 (retL fun r6 M7 => Call K jClearing_bottom [.inr (.inr 11), .inl (M7 11 0)] P0 P0 M7 (retL fun r8 M9 => Call K jRatio_tell [.inr (.inl r6), .inr (.inl r8), .inl a2] P0 P0 M9 (retL fun r10 M11 => Q (some (.inr (.inl r10))) M11))))) ∧ (r1 = 0 → Q (some (.inr (.inl (-9223372036854775808)))) M2))) : Call (K + 1) jClearingWaves_left [.inr (.inr 0), .inl a1, .inl a2] P0 P0 M Q := by
  refine Call.intro (by decide +kernel) (mfx.le mf77 (Nat.le_of_ble_eq_true rfl)) (Nat.le_refl _) rfl ?_
  refine G_aload_n 0 rfl rfl (ck dc77 (i := 0) rfl) ?_
  refine H_getR mf77 (ck dc77 (i := 1) rfl) fw_ClearingWaves_12 fc10_0 ly0 ra0 rf0_0 (by decide) ?_
  refine G_iload_n 1 rfl rfl (ck dc77 (i := 2) rfl) ?_
  refine H_vZ mf77 (As := [.inl a1]) (st := []) (ck dc77 (i := 3) rfl) lk_ClearingWaves_108 rfl rfl (Nat.le_of_ble_eq_true rfl) ly1 ra1 ⟨Nat.le_refl _, Nat.le_refl _⟩ h (fun r1 M2 h => ?_)
  obtain ⟨o3, h⟩ := h
  refine G_if_ne (tgt := 15) (by decide) o3 (ck dc77 (i := 4) rfl) (fun c => ?_) (fun c => ?_)
  · replace h := h.1 c
    refine G_aload_n 0 rfl rfl (ck dc77 (i := 7) rfl) ?_
    refine H_vR mf77 (As := []) (st := []) (ck dc77 (i := 8) rfl) lk_ClearingWaves_145 rfl rfl (Nat.le_of_ble_eq_true rfl) ly0 ra0 ⟨Nat.le_refl _, Nat.le_refl _⟩ h (fun r4 M5 h => ?_)
    obtain ⟨rfl, h⟩ := h
    refine G_astore_n (L' := [(3, .inr (.inr 11)), (0, .inr (.inr 0)), (1, .inl a1), (2, .inl a2)]) rfl (mfx.lt mf77 (Nat.le_of_ble_eq_true rfl)) rfl (ck dc77 (i := 9) rfl) ?_
    refine G_aload_n 0 rfl rfl (ck dc77 (i := 10) rfl) ?_
    refine G_iload_n 2 rfl rfl (ck dc77 (i := 11) rfl) ?_
    refine H_vL mf77 (As := [.inl a1]) (st := []) (ck dc77 (i := 12) rfl) lk_ClearingWaves_192 rfl rfl (Nat.le_of_ble_eq_true rfl) ly11 ra11 ⟨Nat.le_refl _, Nat.le_refl _⟩ h (fun r6 M7 h => ?_)
    refine G_aload_n 0 rfl rfl (ck dc77 (i := 13) rfl) ?_
    refine G_aload_n 0 rfl rfl (ck dc77 (i := 14) rfl) ?_
    refine H_getI mf77 (ck dc77 (i := 15) rfl) fw_ClearingWaves_149 (Or.inl fc1_0) ly11 ra11 (x := (M7 11 0)) rfl ?_
    refine H_vL mf77 (As := [.inl (M7 11 0)]) (st := [.inr (.inl r6)]) (ck dc77 (i := 16) rfl) lk_ClearingWaves_175 rfl rfl (Nat.le_of_ble_eq_true rfl) ly11 ra11 ⟨Nat.le_refl _, Nat.le_refl _⟩ h (fun r8 M9 h => ?_)
    refine G_iload_n 3 rfl rfl (ck dc77 (i := 17) rfl) ?_
    refine H_sL mf77 (As := [.inr (.inl r6), .inr (.inl r8), .inl a2]) (st := []) (ck dc77 (i := 18) rfl) lk_ClearingWaves_179 rfl rfl (Nat.le_of_ble_eq_true rfl) ⟨Nat.le_refl _, Nat.le_refl _⟩ h (fun r10 M11 h => ?_)
    exact H_lret mf77 (ck dc77 (i := 19) rfl) rfl h
  · replace h := h.2 c
    refine H_ldc2 mf77 (v := (-9223372036854775808)) (ck dc77 (i := 5) rfl) kl_ClearingWaves_169 ?_
    exact H_lret mf77 (ck dc77 (i := 6) rfl) rfl h
theorem c_x_lost (K : Nat) (a1 a2 : Int) (M : PM) (Q : Option PV → PM → Prop)
    (h : Call K jBook_hasHouse [.inr (.inr 1), .inl a1] P0 P0 M (retI fun r1 M2 => R32 r1 ∧ (¬ r1 = 0 → Call K jClearingWaves_cleared [.inr (.inr 0)] P0 P0 M2 (retR fun r4 M5 => r4 = 11 ∧ Call K jClearing_wasteTenths [.inr (.inr 11), .inl a1] P0 P0 M5 (retL fun r6 M7 => Call K jClearing_bottom [.inr (.inr 11), .inl (M7 11 0)] P0 P0 M7 (retL fun r8 M9 => Call K jRatio_tell [.inr (.inl r6), .inr (.inl (10 * r8)), .inl a2] P0 P0 M9 (retL fun r10 M11 => Q (some (.inr (.inl r10))) M11))))) ∧ (r1 = 0 → Q (some (.inr (.inl (-9223372036854775808)))) M2))) : Call (K + 1) jClearingWaves_lost [.inr (.inr 0), .inl a1, .inl a2] P0 P0 M Q := by
  refine Call.intro (by decide +kernel) (mfx.le mf79 (Nat.le_of_ble_eq_true rfl)) (Nat.le_refl _) rfl ?_
  refine G_aload_n 0 rfl rfl (ck dc79 (i := 0) rfl) ?_
  refine H_getR mf79 (ck dc79 (i := 1) rfl) fw_ClearingWaves_12 fc10_0 ly0 ra0 rf0_0 (by decide) ?_
  refine G_iload_n 1 rfl rfl (ck dc79 (i := 2) rfl) ?_
  refine H_vZ mf79 (As := [.inl a1]) (st := []) (ck dc79 (i := 3) rfl) lk_ClearingWaves_108 rfl rfl (Nat.le_of_ble_eq_true rfl) ly1 ra1 ⟨Nat.le_refl _, Nat.le_refl _⟩ h (fun r1 M2 h => ?_)
  obtain ⟨o3, h⟩ := h
  refine G_if_ne (tgt := 15) (by decide) o3 (ck dc79 (i := 4) rfl) (fun c => ?_) (fun c => ?_)
  · replace h := h.1 c
    refine G_aload_n 0 rfl rfl (ck dc79 (i := 7) rfl) ?_
    refine H_vR mf79 (As := []) (st := []) (ck dc79 (i := 8) rfl) lk_ClearingWaves_145 rfl rfl (Nat.le_of_ble_eq_true rfl) ly0 ra0 ⟨Nat.le_refl _, Nat.le_refl _⟩ h (fun r4 M5 h => ?_)
    obtain ⟨rfl, h⟩ := h
    refine G_astore_n (L' := [(3, .inr (.inr 11)), (0, .inr (.inr 0)), (1, .inl a1), (2, .inl a2)]) rfl (mfx.lt mf79 (Nat.le_of_ble_eq_true rfl)) rfl (ck dc79 (i := 9) rfl) ?_
    refine G_aload_n 0 rfl rfl (ck dc79 (i := 10) rfl) ?_
    refine G_iload_n 2 rfl rfl (ck dc79 (i := 11) rfl) ?_
    refine H_vL mf79 (As := [.inl a1]) (st := []) (ck dc79 (i := 12) rfl) lk_ClearingWaves_195 rfl rfl (Nat.le_of_ble_eq_true rfl) ly11 ra11 ⟨Nat.le_refl _, Nat.le_refl _⟩ h (fun r6 M7 h => ?_)
    refine H_ldc2 mf79 (v := 10) (ck dc79 (i := 13) rfl) kl_ClearingWaves_198 ?_
    refine G_aload_n 0 rfl rfl (ck dc79 (i := 14) rfl) ?_
    refine G_aload_n 0 rfl rfl (ck dc79 (i := 15) rfl) ?_
    refine H_getI mf79 (ck dc79 (i := 16) rfl) fw_ClearingWaves_149 (Or.inl fc1_0) ly11 ra11 (x := (M7 11 0)) rfl ?_
    refine H_vL mf79 (As := [.inl (M7 11 0)]) (st := [.inr (.inl 10), .inr (.inl r6)]) (ck dc79 (i := 17) rfl) lk_ClearingWaves_175 rfl rfl (Nat.le_of_ble_eq_true rfl) ly11 ra11 ⟨Nat.le_refl _, Nat.le_refl _⟩ h (fun r8 M9 h => ?_)
    refine G_lmul (ck dc79 (i := 18) rfl) ?_
    refine G_iload_n 3 rfl rfl (ck dc79 (i := 19) rfl) ?_
    refine H_sL mf79 (As := [.inr (.inl r6), .inr (.inl (10 * r8)), .inl a2]) (st := []) (ck dc79 (i := 20) rfl) lk_ClearingWaves_179 rfl rfl (Nat.le_of_ble_eq_true rfl) ⟨Nat.le_refl _, Nat.le_refl _⟩ h (fun r10 M11 h => ?_)
    exact H_lret mf79 (ck dc79 (i := 21) rfl) rfl h
  · replace h := h.2 c
    refine H_ldc2 mf79 (v := (-9223372036854775808)) (ck dc79 (i := 5) rfl) kl_ClearingWaves_169 ?_
    exact H_lret mf79 (ck dc79 (i := 6) rfl) rfl h
set_option maxHeartbeats 20000000 in
theorem c_x_lacks (K : Nat) (a1 a2 a3 : Int) (M : PM) (Q : Option PV → PM → Prop)
    (h : Call K jBook_hasHouse [.inr (.inr 1), .inl a1] P0 P0 M (retI fun r1 M2 => R32 r1 ∧ (r1 = 0 → Q (some (.inr (.inl (-9223372036854775808)))) M2) ∧ (¬ r1 = 0 → Call K jBook_hasHouse [.inr (.inr 1), .inl a2] P0 P0 M2 (retI fun r4 M5 => R32 r4 ∧ (r4 = 0 → Q (some (.inr (.inl (-9223372036854775808)))) M5) ∧ (¬ r4 = 0 → R32 a1 ∧ R32 a2 ∧ (¬ a1 = a2 → Call K jClearingWaves_cleared [.inr (.inr 0)] P0 P0 M5 (retR fun r9 M10 => r9 = 11 ∧ Call K jClearing_missing [.inr (.inr 11), .inl (M10 11 0), .inl a1, .inl a2] P0 P0 M10 (retL fun r11 M12 => Call K jClearing_bottom [.inr (.inr 11), .inl (M12 11 0)] P0 P0 M12 (retL fun r13 M14 => Call K jRatio_tell [.inr (.inl r11), .inr (.inl r13), .inl a3] P0 P0 M14 (retL fun r15 M16 => Q (some (.inr (.inl r15))) M16))))) ∧ (a1 = a2 → Q (some (.inr (.inl (-9223372036854775808)))) M5)))))) : Call (K + 1) jClearingWaves_lacks [.inr (.inr 0), .inl a1, .inl a2, .inl a3] P0 P0 M Q := by
  refine Call.intro (by decide +kernel) (mfx.le mf81 (Nat.le_of_ble_eq_true rfl)) (Nat.le_refl _) rfl ?_
  refine G_aload_n 0 rfl rfl (ck dc81 (i := 0) rfl) ?_
  refine H_getR mf81 (ck dc81 (i := 1) rfl) fw_ClearingWaves_12 fc10_0 ly0 ra0 rf0_0 (by decide) ?_
  refine G_iload_n 1 rfl rfl (ck dc81 (i := 2) rfl) ?_
  refine H_vZ mf81 (As := [.inl a1]) (st := []) (ck dc81 (i := 3) rfl) lk_ClearingWaves_108 rfl rfl (Nat.le_of_ble_eq_true rfl) ly1 ra1 ⟨Nat.le_refl _, Nat.le_refl _⟩ h (fun r1 M2 h => ?_)
  obtain ⟨o3, h⟩ := h
  refine G_if_eq (tgt := 27) (by decide) o3 (ck dc81 (i := 4) rfl) (fun c => ?_) (fun c => ?_)
  · replace h := h.1 c
    refine H_ldc2 mf81 (v := (-9223372036854775808)) (ck dc81 (i := 13) rfl) kl_ClearingWaves_169 ?_
    exact H_lret mf81 (ck dc81 (i := 14) rfl) rfl h
  · replace h := h.2 c
    refine G_aload_n 0 rfl rfl (ck dc81 (i := 5) rfl) ?_
    refine H_getR mf81 (ck dc81 (i := 6) rfl) fw_ClearingWaves_12 fc10_0 ly0 ra0 rf0_0 (by decide) ?_
    refine G_iload_n 2 rfl rfl (ck dc81 (i := 7) rfl) ?_
    refine H_vZ mf81 (As := [.inl a2]) (st := []) (ck dc81 (i := 8) rfl) lk_ClearingWaves_108 rfl rfl (Nat.le_of_ble_eq_true rfl) ly1 ra1 ⟨Nat.le_refl _, Nat.le_refl _⟩ h (fun r4 M5 h => ?_)
    obtain ⟨o6, h⟩ := h
    refine G_if_eq (tgt := 27) (by decide) o6 (ck dc81 (i := 9) rfl) (fun c => ?_) (fun c => ?_)
    · replace h := h.1 c
      refine H_ldc2 mf81 (v := (-9223372036854775808)) (ck dc81 (i := 13) rfl) kl_ClearingWaves_169 ?_
      exact H_lret mf81 (ck dc81 (i := 14) rfl) rfl h
    · replace h := h.2 c
      refine G_iload_n 1 rfl rfl (ck dc81 (i := 10) rfl) ?_
      refine G_iload_n 2 rfl rfl (ck dc81 (i := 11) rfl) ?_
      obtain ⟨o7, h⟩ := h
      obtain ⟨o8, h⟩ := h
      refine G_icmp_ne (tgt := 31) (by decide) o7 o8 (ck dc81 (i := 12) rfl) (fun c => ?_) (fun c => ?_)
      · replace h := h.1 c
        refine G_aload_n 0 rfl rfl (ck dc81 (i := 15) rfl) ?_
        refine H_vR mf81 (As := []) (st := []) (ck dc81 (i := 16) rfl) lk_ClearingWaves_145 rfl rfl (Nat.le_of_ble_eq_true rfl) ly0 ra0 ⟨Nat.le_refl _, Nat.le_refl _⟩ h (fun r9 M10 h => ?_)
        obtain ⟨rfl, h⟩ := h
        refine G_astore (L' := [(4, .inr (.inr 11)), (0, .inr (.inr 0)), (1, .inl a1), (2, .inl a2), (3, .inl a3)]) (mfx.lt mf81 (Nat.le_of_ble_eq_true rfl)) rfl (ck dc81 (i := 17) rfl) ?_
        refine G_aload 0 rfl (ck dc81 (i := 18) rfl) ?_
        refine G_aload 0 rfl (ck dc81 (i := 19) rfl) ?_
        refine H_getI mf81 (ck dc81 (i := 20) rfl) fw_ClearingWaves_149 (Or.inl fc1_0) ly11 ra11 (x := (M10 11 0)) rfl ?_
        refine G_iload_n 2 rfl rfl (ck dc81 (i := 21) rfl) ?_
        refine G_iload_n 3 rfl rfl (ck dc81 (i := 22) rfl) ?_
        refine H_vL mf81 (As := [.inl (M10 11 0), .inl a1, .inl a2]) (st := []) (ck dc81 (i := 23) rfl) lk_ClearingWaves_200 rfl rfl (Nat.le_of_ble_eq_true rfl) ly11 ra11 ⟨Nat.le_refl _, Nat.le_refl _⟩ h (fun r11 M12 h => ?_)
        refine G_aload 0 rfl (ck dc81 (i := 24) rfl) ?_
        refine G_aload 0 rfl (ck dc81 (i := 25) rfl) ?_
        refine H_getI mf81 (ck dc81 (i := 26) rfl) fw_ClearingWaves_149 (Or.inl fc1_0) ly11 ra11 (x := (M12 11 0)) rfl ?_
        refine H_vL mf81 (As := [.inl (M12 11 0)]) (st := [.inr (.inl r11)]) (ck dc81 (i := 27) rfl) lk_ClearingWaves_175 rfl rfl (Nat.le_of_ble_eq_true rfl) ly11 ra11 ⟨Nat.le_refl _, Nat.le_refl _⟩ h (fun r13 M14 h => ?_)
        refine G_iload_n 4 rfl rfl (ck dc81 (i := 28) rfl) ?_
        refine H_sL mf81 (As := [.inr (.inl r11), .inr (.inl r13), .inl a3]) (st := []) (ck dc81 (i := 29) rfl) lk_ClearingWaves_179 rfl rfl (Nat.le_of_ble_eq_true rfl) ⟨Nat.le_refl _, Nat.le_refl _⟩ h (fun r15 M16 h => ?_)
        exact H_lret mf81 (ck dc81 (i := 30) rfl) rfl h
      · replace h := h.2 c
        refine H_ldc2 mf81 (v := (-9223372036854775808)) (ck dc81 (i := 13) rfl) kl_ClearingWaves_169 ?_
        exact H_lret mf81 (ck dc81 (i := 14) rfl) rfl h
theorem c_x_all (K : Nat) (a1 a2 : Int) (M : PM) (Q : Option PV → PM → Prop)
    (h : Call K jClearingWaves_cleared [.inr (.inr 0)] P0 P0 M (retR fun r1 M2 => r1 = 11 ∧ Call K jClearing_bottom [.inr (.inr 11), .inl (M2 11 0)] P0 P0 M2 (retL fun r3 M4 => R32 a1 ∧ ((a1 < 0 ∨ 2 < a1) → Q (some (.inr (.inl (-9223372036854775808)))) M4) ∧ (a1 = 0 → Call K jClearing_allPaid [.inr (.inr 11)] P0 P0 M4 (retL fun r6 M7 => Call K jRatio_tell [.inr (.inl r6), .inr (.inl r3), .inl a2] P0 P0 M7 (retL fun r8 M9 => Q (some (.inr (.inl r8))) M9))) ∧ (a1 = 1 → G none (K + 1) jClearingWaves_all 58 [(0, .inr (.inr 0)), (2, .inl a2), (3, .inr (.inr 11)), (4, .inr (.inl r3)), (6, .inr (.inl 0)), (8, .inl 0)] [] P0 P0 M4 Q) ∧ (a1 = 2 → G none (K + 1) jClearingWaves_all 99 [(0, .inr (.inr 0)), (2, .inl a2), (3, .inr (.inr 11)), (4, .inr (.inl r3)), (6, .inr (.inl 0)), (8, .inl 0)] [] P0 P0 M4 Q)))) : Call (K + 1) jClearingWaves_all [.inr (.inr 0), .inl a1, .inl a2] P0 P0 M Q := by
  refine Call.intro (by decide +kernel) (mfx.le mf83 (Nat.le_of_ble_eq_true rfl)) (Nat.le_refl _) rfl ?_
  refine G_aload_n 0 rfl rfl (ck dc83 (i := 0) rfl) ?_
  refine H_vR mf83 (As := []) (st := []) (ck dc83 (i := 1) rfl) lk_ClearingWaves_145 rfl rfl (Nat.le_of_ble_eq_true rfl) ly0 ra0 ⟨Nat.le_refl _, Nat.le_refl _⟩ h (fun r1 M2 h => ?_)
  obtain ⟨rfl, h⟩ := h
  refine G_astore_n (L' := [(3, .inr (.inr 11)), (0, .inr (.inr 0)), (1, .inl a1), (2, .inl a2)]) rfl (mfx.lt mf83 (Nat.le_of_ble_eq_true rfl)) rfl (ck dc83 (i := 2) rfl) ?_
  refine G_aload_n 0 rfl rfl (ck dc83 (i := 3) rfl) ?_
  refine G_aload_n 0 rfl rfl (ck dc83 (i := 4) rfl) ?_
  refine H_getI mf83 (ck dc83 (i := 5) rfl) fw_ClearingWaves_149 (Or.inl fc1_0) ly11 ra11 (x := (M2 11 0)) rfl ?_
  refine H_vL mf83 (As := [.inl (M2 11 0)]) (st := []) (ck dc83 (i := 6) rfl) lk_ClearingWaves_175 rfl rfl (Nat.le_of_ble_eq_true rfl) ly11 ra11 ⟨Nat.le_refl _, Nat.le_refl _⟩ h (fun r3 M4 h => ?_)
  refine G_lstore (L' := [(4, .inr (.inl r3)), (3, .inr (.inr 11)), (0, .inr (.inr 0)), (1, .inl a1), (2, .inl a2)]) (mfx.lt mf83 (Nat.le_of_ble_eq_true rfl)) rfl (ck dc83 (i := 7) rfl) ?_
  refine G_lconst (v := 0) rfl (ck dc83 (i := 8) rfl) ?_
  refine G_lstore (L' := [(6, .inr (.inl 0)), (4, .inr (.inl r3)), (3, .inr (.inr 11)), (0, .inr (.inr 0)), (1, .inl a1), (2, .inl a2)]) (mfx.lt mf83 (Nat.le_of_ble_eq_true rfl)) rfl (ck dc83 (i := 9) rfl) ?_
  refine G_iload_n 4 rfl rfl (ck dc83 (i := 10) rfl) ?_
  obtain ⟨o5, h⟩ := h
  by_cases q : (a1 < 0 ∨ 2 < a1)
  · replace h := h.1 q
    refine G_tsOut (tgt := 141) o5 q (by decide) (ck dc83 (i := 11) rfl) ?_
    refine H_ldc2 mf83 (v := (-9223372036854775808)) (ck dc83 (i := 60) rfl) kl_ClearingWaves_169 ?_
    exact H_lret mf83 (ck dc83 (i := 61) rfl) rfl h
  · replace h := h.2
    have q2 : a1 = 0 ∨ a1 = 1 ∨ a1 = 2 := by omega
    rcases q2 with q2 | q2
    · replace h := h.1 q2
      refine G_tsIn (off := 25) (tgt := 44) o5 (by omega) (by omega) (by rw [q2]; rfl) (by decide) (ck dc83 (i := 11) rfl) ?_
      refine G_aload_n 2 rfl rfl (ck dc83 (i := 12) rfl) ?_
      refine H_vL mf83 (As := []) (st := []) (ck dc83 (i := 13) rfl) lk_ClearingWaves_203 rfl rfl (Nat.le_of_ble_eq_true rfl) ly11 ra11 ⟨Nat.le_refl _, Nat.le_refl _⟩ h (fun r6 M7 h => ?_)
      refine G_lload 1 rfl (ck dc83 (i := 14) rfl) ?_
      refine G_iload_n 5 rfl rfl (ck dc83 (i := 15) rfl) ?_
      refine H_sL mf83 (As := [.inr (.inl r6), .inr (.inl r3), .inl a2]) (st := []) (ck dc83 (i := 16) rfl) lk_ClearingWaves_179 rfl rfl (Nat.le_of_ble_eq_true rfl) ⟨Nat.le_refl _, Nat.le_refl _⟩ h (fun r8 M9 h => ?_)
      exact H_lret mf83 (ck dc83 (i := 17) rfl) rfl h
    replace h := h.2
    rcases q2 with q2 | q2
    · replace h := h.1 q2
      refine G_tsIn (off := 36) (tgt := 55) o5 (by omega) (by omega) (by rw [q2]; rfl) (by decide) (ck dc83 (i := 11) rfl) ?_
      refine G_iconst (ck dc83 (i := 18) rfl) ?_
      refine G_istore (L' := [(8, .inl 0), (6, .inr (.inl 0)), (4, .inr (.inl r3)), (3, .inr (.inr 11)), (0, .inr (.inr 0)), (1, .inl a1), (2, .inl a2)]) (mfx.lt mf83 (Nat.le_of_ble_eq_true rfl)) rfl (ck dc83 (i := 19) rfl) ?_
      exact G_sub [4, 6, 3, 2, 1, 0] rfl h
    replace h := h.2
    · replace h := h q2
      refine G_tsIn (off := 77) (tgt := 96) o5 (by omega) (by omega) (by rw [q2]; rfl) (by decide) (ck dc83 (i := 11) rfl) ?_
      refine G_iconst (ck dc83 (i := 38) rfl) ?_
      refine G_istore (L' := [(8, .inl 0), (6, .inr (.inl 0)), (4, .inr (.inl r3)), (3, .inr (.inr 11)), (0, .inr (.inr 0)), (1, .inl a1), (2, .inl a2)]) (mfx.lt mf83 (Nat.le_of_ble_eq_true rfl)) rfl (ck dc83 (i := 39) rfl) ?_
      exact G_sub [4, 6, 3, 2, 1, 0] rfl h
theorem g_x_all_58 (K : Nat) (l2 l4 l6 l8 : Int) (M : PM) (Q : Option PV → PM → Prop)
    (h : R32 l8 ∧ R32 (M 1 0) ∧ ((M 1 0) ≤ l8 → Call K jRatio_tell [.inr (.inl l6), .inr (.inl l4), .inl l2] P0 P0 M (retL fun r3 M4 => Q (some (.inr (.inl r3))) M4)) ∧ (¬ (M 1 0) ≤ l8 → Call K jClearing_remains [.inr (.inr 11), .inl l8] P0 P0 M (retL fun r5 M6 => G none (K + 1) jClearingWaves_all 58 [(0, .inr (.inr 0)), (2, .inl l2), (3, .inr (.inr 11)), (4, .inr (.inl l4)), (6, .inr (.inl (l6 + r5))), (8, .inl (l8 + 1))] [] P0 P0 M6 Q))) : G none (K + 1) jClearingWaves_all 58 [(0, .inr (.inr 0)), (2, .inl l2), (3, .inr (.inr 11)), (4, .inr (.inl l4)), (6, .inr (.inl l6)), (8, .inl l8)] [] P0 P0 M Q := by
  refine G_iload 5 rfl (ck dc83 (i := 20) rfl) ?_
  refine G_aload_n 0 rfl rfl (ck dc83 (i := 21) rfl) ?_
  refine H_getR mf83 (ck dc83 (i := 22) rfl) fw_ClearingWaves_12 fc10_0 ly0 ra0 rf0_0 (by decide) ?_
  refine H_getI mf83 (ck dc83 (i := 23) rfl) fw_ClearingWaves_207 (Or.inl fc0_0) ly1 ra1 (x := (M 1 0)) rfl ?_
  obtain ⟨o1, h⟩ := h
  obtain ⟨o2, h⟩ := h
  refine G_icmp_ge (tgt := 87) (by decide) o1 o2 (ck dc83 (i := 24) rfl) (fun c => ?_) (fun c => ?_)
  · replace h := h.1 c
    refine G_lload 4 rfl (ck dc83 (i := 33) rfl) ?_
    refine G_lload 3 rfl (ck dc83 (i := 34) rfl) ?_
    refine G_iload_n 1 rfl rfl (ck dc83 (i := 35) rfl) ?_
    refine H_sL mf83 (As := [.inr (.inl l6), .inr (.inl l4), .inl l2]) (st := []) (ck dc83 (i := 36) rfl) lk_ClearingWaves_179 rfl rfl (Nat.le_of_ble_eq_true rfl) ⟨Nat.le_refl _, Nat.le_refl _⟩ h (fun r3 M4 h => ?_)
    exact H_lret mf83 (ck dc83 (i := 37) rfl) rfl h
  · replace h := h.2 c
    refine G_lload 4 rfl (ck dc83 (i := 25) rfl) ?_
    refine G_aload_n 2 rfl rfl (ck dc83 (i := 26) rfl) ?_
    refine G_iload 5 rfl (ck dc83 (i := 27) rfl) ?_
    refine H_vL mf83 (As := [.inl l8]) (st := [.inr (.inl l6)]) (ck dc83 (i := 28) rfl) lk_ClearingWaves_192 rfl rfl (Nat.le_of_ble_eq_true rfl) ly11 ra11 ⟨Nat.le_refl _, Nat.le_refl _⟩ h (fun r5 M6 h => ?_)
    refine G_ladd (ck dc83 (i := 29) rfl) ?_
    refine G_lstore (L' := [(6, .inr (.inl (l6 + r5))), (0, .inr (.inr 0)), (2, .inl l2), (3, .inr (.inr 11)), (4, .inr (.inl l4)), (8, .inl l8)]) (mfx.lt mf83 (Nat.le_of_ble_eq_true rfl)) rfl (ck dc83 (i := 30) rfl) ?_
    refine G_iinc (L' := [(8, .inl (l8 + 1)), (6, .inr (.inl (l6 + r5))), (0, .inr (.inr 0)), (2, .inl l2), (3, .inr (.inr 11)), (4, .inr (.inl l4))]) 5 rfl (mfx.lt mf83 (Nat.le_of_ble_eq_true rfl)) rfl (ck dc83 (i := 31) rfl) ?_
    refine G_goto (tgt := 58) (by decide) (ck dc83 (i := 32) rfl) ?_
    exact G_sub [2, 3, 4, 5, 1, 0] rfl h
theorem g_x_all_99 (K : Nat) (l2 l4 l6 l8 : Int) (M : PM) (Q : Option PV → PM → Prop)
    (h : R32 l8 ∧ R32 (M 1 0) ∧ ((M 1 0) ≤ l8 → Call K jRatio_tell [.inr (.inl l6), .inr (.inl (10 * l4)), .inl l2] P0 P0 M (retL fun r3 M4 => Q (some (.inr (.inl r3))) M4)) ∧ (¬ (M 1 0) ≤ l8 → Call K jClearing_wasteTenths [.inr (.inr 11), .inl l8] P0 P0 M (retL fun r5 M6 => G none (K + 1) jClearingWaves_all 99 [(0, .inr (.inr 0)), (2, .inl l2), (3, .inr (.inr 11)), (4, .inr (.inl l4)), (6, .inr (.inl (l6 + r5))), (8, .inl (l8 + 1))] [] P0 P0 M6 Q))) : G none (K + 1) jClearingWaves_all 99 [(0, .inr (.inr 0)), (2, .inl l2), (3, .inr (.inr 11)), (4, .inr (.inl l4)), (6, .inr (.inl l6)), (8, .inl l8)] [] P0 P0 M Q := by
  refine G_iload 5 rfl (ck dc83 (i := 40) rfl) ?_
  refine G_aload_n 0 rfl rfl (ck dc83 (i := 41) rfl) ?_
  refine H_getR mf83 (ck dc83 (i := 42) rfl) fw_ClearingWaves_12 fc10_0 ly0 ra0 rf0_0 (by decide) ?_
  refine H_getI mf83 (ck dc83 (i := 43) rfl) fw_ClearingWaves_207 (Or.inl fc0_0) ly1 ra1 (x := (M 1 0)) rfl ?_
  obtain ⟨o1, h⟩ := h
  obtain ⟨o2, h⟩ := h
  refine G_icmp_ge (tgt := 128) (by decide) o1 o2 (ck dc83 (i := 44) rfl) (fun c => ?_) (fun c => ?_)
  · replace h := h.1 c
    refine G_lload 4 rfl (ck dc83 (i := 53) rfl) ?_
    refine H_ldc2 mf83 (v := 10) (ck dc83 (i := 54) rfl) kl_ClearingWaves_198 ?_
    refine G_lload 3 rfl (ck dc83 (i := 55) rfl) ?_
    refine G_lmul (ck dc83 (i := 56) rfl) ?_
    refine G_iload_n 1 rfl rfl (ck dc83 (i := 57) rfl) ?_
    refine H_sL mf83 (As := [.inr (.inl l6), .inr (.inl (10 * l4)), .inl l2]) (st := []) (ck dc83 (i := 58) rfl) lk_ClearingWaves_179 rfl rfl (Nat.le_of_ble_eq_true rfl) ⟨Nat.le_refl _, Nat.le_refl _⟩ h (fun r3 M4 h => ?_)
    exact H_lret mf83 (ck dc83 (i := 59) rfl) rfl h
  · replace h := h.2 c
    refine G_lload 4 rfl (ck dc83 (i := 45) rfl) ?_
    refine G_aload_n 2 rfl rfl (ck dc83 (i := 46) rfl) ?_
    refine G_iload 5 rfl (ck dc83 (i := 47) rfl) ?_
    refine H_vL mf83 (As := [.inl l8]) (st := [.inr (.inl l6)]) (ck dc83 (i := 48) rfl) lk_ClearingWaves_195 rfl rfl (Nat.le_of_ble_eq_true rfl) ly11 ra11 ⟨Nat.le_refl _, Nat.le_refl _⟩ h (fun r5 M6 h => ?_)
    refine G_ladd (ck dc83 (i := 49) rfl) ?_
    refine G_lstore (L' := [(6, .inr (.inl (l6 + r5))), (0, .inr (.inr 0)), (2, .inl l2), (3, .inr (.inr 11)), (4, .inr (.inl l4)), (8, .inl l8)]) (mfx.lt mf83 (Nat.le_of_ble_eq_true rfl)) rfl (ck dc83 (i := 50) rfl) ?_
    refine G_iinc (L' := [(8, .inl (l8 + 1)), (6, .inr (.inl (l6 + r5))), (0, .inr (.inr 0)), (2, .inl l2), (3, .inr (.inr 11)), (4, .inr (.inl l4))]) 5 rfl (mfx.lt mf83 (Nat.le_of_ble_eq_true rfl)) rfl (ck dc83 (i := 51) rfl) ?_
    refine G_goto (tgt := 99) (by decide) (ck dc83 (i := 52) rfl) ?_
    exact G_sub [2, 3, 4, 5, 1, 0] rfl h
set_option maxHeartbeats 20000000 in
theorem c_x_chain (K : Nat) (a1 a2 : Int) (M : PM) (Q : Option PV → PM → Prop)
    (h : Call K jBook_hasHouse [.inr (.inr 1), .inl a1] P0 P0 M (retI fun r1 M2 => R32 r1 ∧ (r1 = 0 → Q (some (.inl (-1))) M2) ∧ (¬ r1 = 0 → R32 a2 ∧ (a2 < 0 → Q (some (.inl (-1))) M2) ∧ (¬ a2 < 0 → (a2 < 5 → Call K jClearingWaves_cleared [.inr (.inr 0)] P0 P0 M2 (retR fun r5 M6 => r5 = 11 ∧ (0 ≤ a1 ∧ a1 < 5) ∧ R32 (M6 12 a1) ∧ (¬ (M6 12 a1) = 0 → G none (K + 1) jClearingWaves_chain 45 [(2, .inl a2), (3, .inr (.inr 11)), (4, .inl a1), (5, .inl 0)] [] P0 P0 M6 Q) ∧ ((M6 12 a1) = 0 → Q (some (.inl (-3))) M6))) ∧ (¬ a2 < 5 → Q (some (.inl (-1))) M2))))) : Call (K + 1) jClearingWaves_chain [.inr (.inr 0), .inl a1, .inl a2] P0 P0 M Q := by
  refine Call.intro (by decide +kernel) (mfx.le mf87 (Nat.le_of_ble_eq_true rfl)) (Nat.le_refl _) rfl ?_
  refine G_aload_n 0 rfl rfl (ck dc87 (i := 0) rfl) ?_
  refine H_getR mf87 (ck dc87 (i := 1) rfl) fw_ClearingWaves_12 fc10_0 ly0 ra0 rf0_0 (by decide) ?_
  refine G_iload_n 1 rfl rfl (ck dc87 (i := 2) rfl) ?_
  refine H_vZ mf87 (As := [.inl a1]) (st := []) (ck dc87 (i := 3) rfl) lk_ClearingWaves_108 rfl rfl (Nat.le_of_ble_eq_true rfl) ly1 ra1 ⟨Nat.le_refl _, Nat.le_refl _⟩ h (fun r1 M2 h => ?_)
  obtain ⟨o3, h⟩ := h
  refine G_if_eq (tgt := 20) (by decide) o3 (ck dc87 (i := 4) rfl) (fun c => ?_) (fun c => ?_)
  · replace h := h.1 c
    refine G_iconst (ck dc87 (i := 10) rfl) ?_
    exact H_iretI mf87 (ck dc87 (i := 11) rfl) rfl h
  · replace h := h.2 c
    refine G_iload_n 2 rfl rfl (ck dc87 (i := 5) rfl) ?_
    obtain ⟨o4, h⟩ := h
    refine G_if_lt (tgt := 20) (by decide) o4 (ck dc87 (i := 6) rfl) (fun c => ?_) (fun c => ?_)
    · replace h := h.1 c
      refine G_iconst (ck dc87 (i := 10) rfl) ?_
      exact H_iretI mf87 (ck dc87 (i := 11) rfl) rfl h
    · replace h := h.2 c
      refine G_iload_n 2 rfl rfl (ck dc87 (i := 7) rfl) ?_
      refine G_iconst (ck dc87 (i := 8) rfl) ?_
      refine G_icmp_lt (tgt := 22) (by decide) o4 (by decide) (ck dc87 (i := 9) rfl) (fun c => ?_) (fun c => ?_)
      · replace h := h.1 c
        refine G_aload_n 0 rfl rfl (ck dc87 (i := 12) rfl) ?_
        refine H_vR mf87 (As := []) (st := []) (ck dc87 (i := 13) rfl) lk_ClearingWaves_145 rfl rfl (Nat.le_of_ble_eq_true rfl) ly0 ra0 ⟨Nat.le_refl _, Nat.le_refl _⟩ h (fun r5 M6 h => ?_)
        obtain ⟨rfl, h⟩ := h
        refine G_astore_n (L' := [(3, .inr (.inr 11)), (0, .inr (.inr 0)), (1, .inl a1), (2, .inl a2)]) rfl (mfx.lt mf87 (Nat.le_of_ble_eq_true rfl)) rfl (ck dc87 (i := 14) rfl) ?_
        refine G_aload_n 0 rfl rfl (ck dc87 (i := 15) rfl) ?_
        refine H_getR mf87 (ck dc87 (i := 16) rfl) fw_ClearingWaves_152 fc1_2 ly11 ra11 rf11_2 (by decide) ?_
        refine G_iload_n 2 rfl rfl (ck dc87 (i := 17) rfl) ?_
        obtain ⟨o7, h⟩ := h
        refine H_iald (ck dc87 (i := 18) rfl) ly12 (by decide) ra12 o7 (x := (M6 12 a1)) rfl ?_
        obtain ⟨o8, h⟩ := h
        refine G_if_ne (tgt := 39) (by decide) o8 (ck dc87 (i := 19) rfl) (fun c => ?_) (fun c => ?_)
        · replace h := h.1 c
          refine G_iload_n 2 rfl rfl (ck dc87 (i := 22) rfl) ?_
          refine G_istore (L' := [(4, .inl a1), (3, .inr (.inr 11)), (0, .inr (.inr 0)), (1, .inl a1), (2, .inl a2)]) (mfx.lt mf87 (Nat.le_of_ble_eq_true rfl)) rfl (ck dc87 (i := 23) rfl) ?_
          refine G_iconst (ck dc87 (i := 24) rfl) ?_
          refine G_istore (L' := [(5, .inl 0), (4, .inl a1), (3, .inr (.inr 11)), (0, .inr (.inr 0)), (1, .inl a1), (2, .inl a2)]) (mfx.lt mf87 (Nat.le_of_ble_eq_true rfl)) rfl (ck dc87 (i := 25) rfl) ?_
          exact G_sub [5, 2, 1, 0] rfl h
        · replace h := h.2 c
          refine G_bipush (n := (-3)) rfl (ck dc87 (i := 20) rfl) ?_
          exact H_iretI mf87 (ck dc87 (i := 21) rfl) rfl h
      · replace h := h.2 c
        refine G_iconst (ck dc87 (i := 10) rfl) ?_
        exact H_iretI mf87 (ck dc87 (i := 11) rfl) rfl h
theorem g_x_chain_45 (K : Nat) (l2 l4 l5 : Int) (M : PM) (Q : Option PV → PM → Prop)
    (h : R32 l5 ∧ R32 l2 ∧ (l2 ≤ l5 → R32 l4 ∧ (l4 < 0 → Q (some (.inl (-5))) M) ∧ (¬ l4 < 0 → Q (some (.inl l4)) M)) ∧ (¬ l2 ≤ l5 → R32 l4 ∧ (l4 < 0 → (l4 < 0 → Q (some (.inl (-5))) M) ∧ (¬ l4 < 0 → Q (some (.inl l4)) M)) ∧ (¬ l4 < 0 → Call K jClearing_causeOf [.inr (.inr 11), .inl l4] P0 P0 M (retI fun r5 M6 => G none (K + 1) jClearingWaves_chain 45 [(2, .inl l2), (3, .inr (.inr 11)), (4, .inl r5), (5, .inl (l5 + 1))] [] P0 P0 M6 Q)))) : G none (K + 1) jClearingWaves_chain 45 [(2, .inl l2), (3, .inr (.inr 11)), (4, .inl l4), (5, .inl l5)] [] P0 P0 M Q := by
  refine G_iload 3 rfl (ck dc87 (i := 26) rfl) ?_
  refine G_iload_n 0 rfl rfl (ck dc87 (i := 27) rfl) ?_
  obtain ⟨o1, h⟩ := h
  obtain ⟨o2, h⟩ := h
  refine G_icmp_ge (tgt := 70) (by decide) o1 o2 (ck dc87 (i := 28) rfl) (fun c => ?_) (fun c => ?_)
  · replace h := h.1 c
    refine G_iload 2 rfl (ck dc87 (i := 37) rfl) ?_
    obtain ⟨o3, h⟩ := h
    refine G_if_lt (tgt := 80) (by decide) o3 (ck dc87 (i := 38) rfl) (fun c => ?_) (fun c => ?_)
    · replace h := h.1 c
      refine G_bipush (n := (-5)) rfl (ck dc87 (i := 41) rfl) ?_
      exact H_iretI mf87 (ck dc87 (i := 42) rfl) rfl h
    · replace h := h.2 c
      refine G_iload 2 rfl (ck dc87 (i := 39) rfl) ?_
      refine G_goto (tgt := 82) (by decide) (ck dc87 (i := 40) rfl) ?_
      exact H_iretI mf87 (ck dc87 (i := 42) rfl) rfl h
  · replace h := h.2 c
    refine G_iload 2 rfl (ck dc87 (i := 29) rfl) ?_
    obtain ⟨o4, h⟩ := h
    refine G_if_lt (tgt := 70) (by decide) o4 (ck dc87 (i := 30) rfl) (fun c => ?_) (fun c => ?_)
    · replace h := h.1 c
      refine G_iload 2 rfl (ck dc87 (i := 37) rfl) ?_
      refine G_if_lt (tgt := 80) (by decide) o4 (ck dc87 (i := 38) rfl) (fun c => ?_) (fun c => ?_)
      · replace h := h.1 c
        refine G_bipush (n := (-5)) rfl (ck dc87 (i := 41) rfl) ?_
        exact H_iretI mf87 (ck dc87 (i := 42) rfl) rfl h
      · replace h := h.2 c
        refine G_iload 2 rfl (ck dc87 (i := 39) rfl) ?_
        refine G_goto (tgt := 82) (by decide) (ck dc87 (i := 40) rfl) ?_
        exact H_iretI mf87 (ck dc87 (i := 42) rfl) rfl h
    · replace h := h.2 c
      refine G_aload_n 1 rfl rfl (ck dc87 (i := 31) rfl) ?_
      refine G_iload 2 rfl (ck dc87 (i := 32) rfl) ?_
      refine H_vI mf87 (As := [.inl l4]) (st := []) (ck dc87 (i := 33) rfl) lk_ClearingWaves_214 rfl rfl (Nat.le_of_ble_eq_true rfl) ly11 ra11 ⟨Nat.le_refl _, Nat.le_refl _⟩ h (fun r5 M6 h => ?_)
      refine G_istore (L' := [(4, .inl r5), (2, .inl l2), (3, .inr (.inr 11)), (5, .inl l5)]) (mfx.lt mf87 (Nat.le_of_ble_eq_true rfl)) rfl (ck dc87 (i := 34) rfl) ?_
      refine G_iinc (L' := [(5, .inl (l5 + 1)), (4, .inl r5), (2, .inl l2), (3, .inr (.inr 11))]) 3 rfl (mfx.lt mf87 (Nat.le_of_ble_eq_true rfl)) rfl (ck dc87 (i := 35) rfl) ?_
      refine G_goto (tgt := 45) (by decide) (ck dc87 (i := 36) rfl) ?_
      exact G_sub [2, 3, 1, 0] rfl h
theorem c_x_cause (K : Nat) (a1 : Int) (M : PM) (Q : Option PV → PM → Prop)
    (h : Call K jClearingWaves_chain [.inr (.inr 0), .inl a1, .inl 1] P0 P0 M (retI fun r1 M2 => Q (some (.inl r1)) M2)) : Call (K + 1) jClearingWaves_cause [.inr (.inr 0), .inl a1] P0 P0 M Q := by
  refine Call.intro (by decide +kernel) (mfx.le mf86 (Nat.le_of_ble_eq_true rfl)) (Nat.le_refl _) rfl ?_
  refine G_aload_n 0 rfl rfl (ck dc86 (i := 0) rfl) ?_
  refine G_iload_n 1 rfl rfl (ck dc86 (i := 1) rfl) ?_
  refine G_iconst (ck dc86 (i := 2) rfl) ?_
  refine H_vI mf86 (As := [.inl a1, .inl 1]) (st := []) (ck dc86 (i := 3) rfl) lk_ClearingWaves_210 rfl rfl (Nat.le_of_ble_eq_true rfl) ly0 ra0 ⟨Nat.le_refl _, Nat.le_refl _⟩ h (fun r1 M2 h => ?_)
  exact H_iretI mf86 (ck dc86 (i := 4) rfl) rfl h
theorem c_x_root (K : Nat) (a1 : Int) (M : PM) (Q : Option PV → PM → Prop)
    (h : Call K jBook_hasHouse [.inr (.inr 1), .inl a1] P0 P0 M (retI fun r1 M2 => R32 r1 ∧ (¬ r1 = 0 → Call K jClearingWaves_cleared [.inr (.inr 0)] P0 P0 M2 (retR fun r4 M5 => r4 = 11 ∧ (0 ≤ a1 ∧ a1 < 5) ∧ R32 (M5 12 a1) ∧ (¬ (M5 12 a1) = 0 → G none (K + 1) jClearingWaves_root 35 [(2, .inr (.inr 11)), (3, .inl a1), (4, .inl 0)] [] P0 P0 M5 Q) ∧ ((M5 12 a1) = 0 → Q (some (.inl (-3))) M5))) ∧ (r1 = 0 → Q (some (.inl (-1))) M2))) : Call (K + 1) jClearingWaves_root [.inr (.inr 0), .inl a1] P0 P0 M Q := by
  refine Call.intro (by decide +kernel) (mfx.le mf89 (Nat.le_of_ble_eq_true rfl)) (Nat.le_refl _) rfl ?_
  refine G_aload_n 0 rfl rfl (ck dc89 (i := 0) rfl) ?_
  refine H_getR mf89 (ck dc89 (i := 1) rfl) fw_ClearingWaves_12 fc10_0 ly0 ra0 rf0_0 (by decide) ?_
  refine G_iload_n 1 rfl rfl (ck dc89 (i := 2) rfl) ?_
  refine H_vZ mf89 (As := [.inl a1]) (st := []) (ck dc89 (i := 3) rfl) lk_ClearingWaves_108 rfl rfl (Nat.le_of_ble_eq_true rfl) ly1 ra1 ⟨Nat.le_refl _, Nat.le_refl _⟩ h (fun r1 M2 h => ?_)
  obtain ⟨o3, h⟩ := h
  refine G_if_ne (tgt := 13) (by decide) o3 (ck dc89 (i := 4) rfl) (fun c => ?_) (fun c => ?_)
  · replace h := h.1 c
    refine G_aload_n 0 rfl rfl (ck dc89 (i := 7) rfl) ?_
    refine H_vR mf89 (As := []) (st := []) (ck dc89 (i := 8) rfl) lk_ClearingWaves_145 rfl rfl (Nat.le_of_ble_eq_true rfl) ly0 ra0 ⟨Nat.le_refl _, Nat.le_refl _⟩ h (fun r4 M5 h => ?_)
    obtain ⟨rfl, h⟩ := h
    refine G_astore_n (L' := [(2, .inr (.inr 11)), (0, .inr (.inr 0)), (1, .inl a1)]) rfl (mfx.lt mf89 (Nat.le_of_ble_eq_true rfl)) rfl (ck dc89 (i := 9) rfl) ?_
    refine G_aload_n 0 rfl rfl (ck dc89 (i := 10) rfl) ?_
    refine H_getR mf89 (ck dc89 (i := 11) rfl) fw_ClearingWaves_152 fc1_2 ly11 ra11 rf11_2 (by decide) ?_
    refine G_iload_n 2 rfl rfl (ck dc89 (i := 12) rfl) ?_
    obtain ⟨o6, h⟩ := h
    refine H_iald (ck dc89 (i := 13) rfl) ly12 (by decide) ra12 o6 (x := (M5 12 a1)) rfl ?_
    obtain ⟨o7, h⟩ := h
    refine G_if_ne (tgt := 30) (by decide) o7 (ck dc89 (i := 14) rfl) (fun c => ?_) (fun c => ?_)
    · replace h := h.1 c
      refine G_iload_n 2 rfl rfl (ck dc89 (i := 17) rfl) ?_
      refine G_istore_n (L' := [(3, .inl a1), (2, .inr (.inr 11)), (0, .inr (.inr 0)), (1, .inl a1)]) rfl (mfx.lt mf89 (Nat.le_of_ble_eq_true rfl)) rfl (ck dc89 (i := 18) rfl) ?_
      refine G_iconst (ck dc89 (i := 19) rfl) ?_
      refine G_istore (L' := [(4, .inl 0), (3, .inl a1), (2, .inr (.inr 11)), (0, .inr (.inr 0)), (1, .inl a1)]) (mfx.lt mf89 (Nat.le_of_ble_eq_true rfl)) rfl (ck dc89 (i := 20) rfl) ?_
      exact G_sub [2, 1, 0] rfl h
    · replace h := h.2 c
      refine G_bipush (n := (-3)) rfl (ck dc89 (i := 15) rfl) ?_
      exact H_iretI mf89 (ck dc89 (i := 16) rfl) rfl h
  · replace h := h.2 c
    refine G_iconst (ck dc89 (i := 5) rfl) ?_
    exact H_iretI mf89 (ck dc89 (i := 6) rfl) rfl h
theorem g_x_root_35 (K : Nat) (l3 l4 : Int) (M : PM) (Q : Option PV → PM → Prop)
    (h : R32 l4 ∧ (5 ≤ l4 → Q (some (.inl l3)) M) ∧ (¬ 5 ≤ l4 → Call K jClearing_causeOf [.inr (.inr 11), .inl l3] P0 P0 M (retI fun r2 M3 => R32 r2 ∧ (0 ≤ r2 → G none (K + 1) jClearingWaves_root 35 [(2, .inr (.inr 11)), (3, .inl r2), (4, .inl (l4 + 1))] [] P0 P0 M3 Q) ∧ (¬ 0 ≤ r2 → Q (some (.inl l3)) M3)))) : G none (K + 1) jClearingWaves_root 35 [(2, .inr (.inr 11)), (3, .inl l3), (4, .inl l4)] [] P0 P0 M Q := by
  refine G_iload 2 rfl (ck dc89 (i := 21) rfl) ?_
  refine G_iconst (ck dc89 (i := 22) rfl) ?_
  obtain ⟨o1, h⟩ := h
  refine G_icmp_ge (tgt := 65) (by decide) o1 (by decide) (ck dc89 (i := 23) rfl) (fun c => ?_) (fun c => ?_)
  · replace h := h.1 c
    refine G_iload_n 1 rfl rfl (ck dc89 (i := 35) rfl) ?_
    exact H_iretI mf89 (ck dc89 (i := 36) rfl) rfl h
  · replace h := h.2 c
    refine G_aload_n 0 rfl rfl (ck dc89 (i := 24) rfl) ?_
    refine G_iload_n 1 rfl rfl (ck dc89 (i := 25) rfl) ?_
    refine H_vI mf89 (As := [.inl l3]) (st := []) (ck dc89 (i := 26) rfl) lk_ClearingWaves_214 rfl rfl (Nat.le_of_ble_eq_true rfl) ly11 ra11 ⟨Nat.le_refl _, Nat.le_refl _⟩ h (fun r2 M3 h => ?_)
    refine G_istore (L' := [(5, .inl r2), (2, .inr (.inr 11)), (3, .inl l3), (4, .inl l4)]) (mfx.lt mf89 (Nat.le_of_ble_eq_true rfl)) rfl (ck dc89 (i := 27) rfl) ?_
    refine G_iload 0 rfl (ck dc89 (i := 28) rfl) ?_
    obtain ⟨o4, h⟩ := h
    refine G_if_ge (tgt := 56) (by decide) o4 (ck dc89 (i := 29) rfl) (fun c => ?_) (fun c => ?_)
    · replace h := h.1 c
      refine G_iload 0 rfl (ck dc89 (i := 31) rfl) ?_
      refine G_istore_n (L' := [(3, .inl r2), (5, .inl r2), (2, .inr (.inr 11)), (4, .inl l4)]) rfl (mfx.lt mf89 (Nat.le_of_ble_eq_true rfl)) rfl (ck dc89 (i := 32) rfl) ?_
      refine G_iinc (L' := [(4, .inl (l4 + 1)), (3, .inl r2), (5, .inl r2), (2, .inr (.inr 11))]) 3 rfl (mfx.lt mf89 (Nat.le_of_ble_eq_true rfl)) rfl (ck dc89 (i := 33) rfl) ?_
      refine G_goto (tgt := 35) (by decide) (ck dc89 (i := 34) rfl) ?_
      exact G_sub [3, 1, 0] rfl h
    · replace h := h.2 c
      refine G_goto (tgt := 65) (by decide) (ck dc89 (i := 30) rfl) ?_
      refine G_iload_n 2 rfl rfl (ck dc89 (i := 35) rfl) ?_
      exact H_iretI mf89 (ck dc89 (i := 36) rfl) rfl h
theorem c_x_pulls (K : Nat) (a1 : Int) (M : PM) (Q : Option PV → PM → Prop)
    (h : Call K jBook_hasHouse [.inr (.inr 1), .inl a1] P0 P0 M (retI fun r1 M2 => R32 r1 ∧ (¬ r1 = 0 → Call K jClearingWaves_cleared [.inr (.inr 0)] P0 P0 M2 (retR fun r4 M5 => r4 = 11 ∧ G none (K + 1) jClearingWaves_pulls 23 [(0, .inr (.inr 0)), (1, .inl a1), (2, .inr (.inr 11)), (3, .inl 0), (4, .inl 0)] [] P0 P0 M5 Q)) ∧ (r1 = 0 → Q (some (.inl (-1))) M2))) : Call (K + 1) jClearingWaves_pulls [.inr (.inr 0), .inl a1] P0 P0 M Q := by
  refine Call.intro (by decide +kernel) (mfx.le mf90 (Nat.le_of_ble_eq_true rfl)) (Nat.le_refl _) rfl ?_
  refine G_aload_n 0 rfl rfl (ck dc90 (i := 0) rfl) ?_
  refine H_getR mf90 (ck dc90 (i := 1) rfl) fw_ClearingWaves_12 fc10_0 ly0 ra0 rf0_0 (by decide) ?_
  refine G_iload_n 1 rfl rfl (ck dc90 (i := 2) rfl) ?_
  refine H_vZ mf90 (As := [.inl a1]) (st := []) (ck dc90 (i := 3) rfl) lk_ClearingWaves_108 rfl rfl (Nat.le_of_ble_eq_true rfl) ly1 ra1 ⟨Nat.le_refl _, Nat.le_refl _⟩ h (fun r1 M2 h => ?_)
  obtain ⟨o3, h⟩ := h
  refine G_if_ne (tgt := 13) (by decide) o3 (ck dc90 (i := 4) rfl) (fun c => ?_) (fun c => ?_)
  · replace h := h.1 c
    refine G_aload_n 0 rfl rfl (ck dc90 (i := 7) rfl) ?_
    refine H_vR mf90 (As := []) (st := []) (ck dc90 (i := 8) rfl) lk_ClearingWaves_145 rfl rfl (Nat.le_of_ble_eq_true rfl) ly0 ra0 ⟨Nat.le_refl _, Nat.le_refl _⟩ h (fun r4 M5 h => ?_)
    obtain ⟨rfl, h⟩ := h
    refine G_astore_n (L' := [(2, .inr (.inr 11)), (0, .inr (.inr 0)), (1, .inl a1)]) rfl (mfx.lt mf90 (Nat.le_of_ble_eq_true rfl)) rfl (ck dc90 (i := 9) rfl) ?_
    refine G_iconst (ck dc90 (i := 10) rfl) ?_
    refine G_istore_n (L' := [(3, .inl 0), (2, .inr (.inr 11)), (0, .inr (.inr 0)), (1, .inl a1)]) rfl (mfx.lt mf90 (Nat.le_of_ble_eq_true rfl)) rfl (ck dc90 (i := 11) rfl) ?_
    refine G_iconst (ck dc90 (i := 12) rfl) ?_
    refine G_istore (L' := [(4, .inl 0), (3, .inl 0), (2, .inr (.inr 11)), (0, .inr (.inr 0)), (1, .inl a1)]) (mfx.lt mf90 (Nat.le_of_ble_eq_true rfl)) rfl (ck dc90 (i := 13) rfl) ?_
    exact G_sub [3, 4, 2, 1, 0] rfl h
  · replace h := h.2 c
    refine G_iconst (ck dc90 (i := 5) rfl) ?_
    exact H_iretI mf90 (ck dc90 (i := 6) rfl) rfl h
theorem g_x_pulls_23 (K : Nat) (l1 l3 l4 : Int) (M : PM) (Q : Option PV → PM → Prop)
    (h : R32 l4 ∧ R32 (M 1 0) ∧ ((M 1 0) ≤ l4 → Q (some (.inl l3)) M) ∧ (¬ (M 1 0) ≤ l4 → (0 ≤ l4 ∧ l4 < 5) ∧ R32 (M 12 l4) ∧ (¬ (M 12 l4) = 0 → G none (K + 1) jClearingWaves_pulls 56 [(0, .inr (.inr 0)), (1, .inl l1), (2, .inr (.inr 11)), (3, .inl l3), (4, .inl l4), (5, .inl l4), (6, .inl 0)] [] P0 P0 M Q) ∧ ((M 12 l4) = 0 → G none (K + 1) jClearingWaves_pulls 56 [(0, .inr (.inr 0)), (1, .inl l1), (2, .inr (.inr 11)), (3, .inl l3), (4, .inl l4), (5, .inl (-1)), (6, .inl 0)] [] P0 P0 M Q))) : G none (K + 1) jClearingWaves_pulls 23 [(0, .inr (.inr 0)), (1, .inl l1), (2, .inr (.inr 11)), (3, .inl l3), (4, .inl l4)] [] P0 P0 M Q := by
  refine G_iload 4 rfl (ck dc90 (i := 14) rfl) ?_
  refine G_aload_n 0 rfl rfl (ck dc90 (i := 15) rfl) ?_
  refine H_getR mf90 (ck dc90 (i := 16) rfl) fw_ClearingWaves_12 fc10_0 ly0 ra0 rf0_0 (by decide) ?_
  refine H_getI mf90 (ck dc90 (i := 17) rfl) fw_ClearingWaves_207 (Or.inl fc0_0) ly1 ra1 (x := (M 1 0)) rfl ?_
  obtain ⟨o1, h⟩ := h
  obtain ⟨o2, h⟩ := h
  refine G_icmp_ge (tgt := 102) (by decide) o1 o2 (ck dc90 (i := 18) rfl) (fun c => ?_) (fun c => ?_)
  · replace h := h.1 c
    refine G_iload_n 3 rfl rfl (ck dc90 (i := 50) rfl) ?_
    exact H_iretI mf90 (ck dc90 (i := 51) rfl) rfl h
  · replace h := h.2 c
    refine G_aload_n 2 rfl rfl (ck dc90 (i := 19) rfl) ?_
    refine H_getR mf90 (ck dc90 (i := 20) rfl) fw_ClearingWaves_152 fc1_2 ly11 ra11 rf11_2 (by decide) ?_
    refine G_iload 4 rfl (ck dc90 (i := 21) rfl) ?_
    obtain ⟨o3, h⟩ := h
    refine H_iald (ck dc90 (i := 22) rfl) ly12 (by decide) ra12 o3 (x := (M 12 l4)) rfl ?_
    obtain ⟨o4, h⟩ := h
    refine G_if_ne (tgt := 49) (by decide) o4 (ck dc90 (i := 23) rfl) (fun c => ?_) (fun c => ?_)
    · replace h := h.1 c
      refine G_iload 4 rfl (ck dc90 (i := 26) rfl) ?_
      refine G_istore (L' := [(5, .inl l4), (0, .inr (.inr 0)), (1, .inl l1), (2, .inr (.inr 11)), (3, .inl l3), (4, .inl l4)]) (mfx.lt mf90 (Nat.le_of_ble_eq_true rfl)) rfl (ck dc90 (i := 27) rfl) ?_
      refine G_iconst (ck dc90 (i := 28) rfl) ?_
      refine G_istore (L' := [(6, .inl 0), (5, .inl l4), (0, .inr (.inr 0)), (1, .inl l1), (2, .inr (.inr 11)), (3, .inl l3), (4, .inl l4)]) (mfx.lt mf90 (Nat.le_of_ble_eq_true rfl)) rfl (ck dc90 (i := 29) rfl) ?_
      exact G_sub [2, 3, 4, 5, 6, 1, 0] rfl h
    · replace h := h.2 c
      refine G_iconst (ck dc90 (i := 24) rfl) ?_
      refine G_goto (tgt := 51) (by decide) (ck dc90 (i := 25) rfl) ?_
      refine G_istore (L' := [(5, .inl (-1)), (0, .inr (.inr 0)), (1, .inl l1), (2, .inr (.inr 11)), (3, .inl l3), (4, .inl l4)]) (mfx.lt mf90 (Nat.le_of_ble_eq_true rfl)) rfl (ck dc90 (i := 27) rfl) ?_
      refine G_iconst (ck dc90 (i := 28) rfl) ?_
      refine G_istore (L' := [(6, .inl 0), (5, .inl (-1)), (0, .inr (.inr 0)), (1, .inl l1), (2, .inr (.inr 11)), (3, .inl l3), (4, .inl l4)]) (mfx.lt mf90 (Nat.le_of_ble_eq_true rfl)) rfl (ck dc90 (i := 29) rfl) ?_
      exact G_sub [2, 3, 4, 5, 6, 1, 0] rfl h
set_option maxHeartbeats 20000000 in
theorem g_x_pulls_56 (K : Nat) (l1 l3 l4 l5 l6 : Int) (M : PM) (Q : Option PV → PM → Prop)
    (h : R32 l6 ∧ (5 ≤ l6 → R32 l5 ∧ R32 l1 ∧ (¬ l5 = l1 → G none (K + 1) jClearingWaves_pulls 23 [(0, .inr (.inr 0)), (1, .inl l1), (2, .inr (.inr 11)), (3, .inl l3), (4, .inl (l4 + 1))] [] P0 P0 M Q) ∧ (l5 = l1 → G none (K + 1) jClearingWaves_pulls 23 [(0, .inr (.inr 0)), (1, .inl l1), (2, .inr (.inr 11)), (3, .inl (l3 + 1)), (4, .inl (l4 + 1))] [] P0 P0 M Q)) ∧ (¬ 5 ≤ l6 → R32 l5 ∧ (l5 < 0 → R32 l1 ∧ (¬ l5 = l1 → G none (K + 1) jClearingWaves_pulls 23 [(0, .inr (.inr 0)), (1, .inl l1), (2, .inr (.inr 11)), (3, .inl l3), (4, .inl (l4 + 1))] [] P0 P0 M Q) ∧ (l5 = l1 → G none (K + 1) jClearingWaves_pulls 23 [(0, .inr (.inr 0)), (1, .inl l1), (2, .inr (.inr 11)), (3, .inl (l3 + 1)), (4, .inl (l4 + 1))] [] P0 P0 M Q)) ∧ (¬ l5 < 0 → R32 l1 ∧ (l5 = l1 → (¬ l5 = l1 → G none (K + 1) jClearingWaves_pulls 23 [(0, .inr (.inr 0)), (1, .inl l1), (2, .inr (.inr 11)), (3, .inl l3), (4, .inl (l4 + 1))] [] P0 P0 M Q) ∧ (l5 = l1 → G none (K + 1) jClearingWaves_pulls 23 [(0, .inr (.inr 0)), (1, .inl l1), (2, .inr (.inr 11)), (3, .inl (l3 + 1)), (4, .inl (l4 + 1))] [] P0 P0 M Q)) ∧ (¬ l5 = l1 → Call K jClearing_causeOf [.inr (.inr 11), .inl l5] P0 P0 M (retI fun r7 M8 => G none (K + 1) jClearingWaves_pulls 56 [(0, .inr (.inr 0)), (1, .inl l1), (2, .inr (.inr 11)), (3, .inl l3), (4, .inl l4), (5, .inl r7), (6, .inl (l6 + 1))] [] P0 P0 M8 Q))))) : G none (K + 1) jClearingWaves_pulls 56 [(0, .inr (.inr 0)), (1, .inl l1), (2, .inr (.inr 11)), (3, .inl l3), (4, .inl l4), (5, .inl l5), (6, .inl l6)] [] P0 P0 M Q := by
  refine G_iload 6 rfl (ck dc90 (i := 30) rfl) ?_
  refine G_iconst (ck dc90 (i := 31) rfl) ?_
  obtain ⟨o1, h⟩ := h
  refine G_icmp_ge (tgt := 87) (by decide) o1 (by decide) (ck dc90 (i := 32) rfl) (fun c => ?_) (fun c => ?_)
  · replace h := h.1 c
    refine G_iload 5 rfl (ck dc90 (i := 44) rfl) ?_
    refine G_iload_n 1 rfl rfl (ck dc90 (i := 45) rfl) ?_
    obtain ⟨o2, h⟩ := h
    obtain ⟨o3, h⟩ := h
    refine G_icmp_ne (tgt := 96) (by decide) o2 o3 (ck dc90 (i := 46) rfl) (fun c => ?_) (fun c => ?_)
    · replace h := h.1 c
      refine G_iinc (L' := [(4, .inl (l4 + 1)), (0, .inr (.inr 0)), (1, .inl l1), (2, .inr (.inr 11)), (3, .inl l3), (5, .inl l5), (6, .inl l6)]) 4 rfl (mfx.lt mf90 (Nat.le_of_ble_eq_true rfl)) rfl (ck dc90 (i := 48) rfl) ?_
      refine G_goto (tgt := 23) (by decide) (ck dc90 (i := 49) rfl) ?_
      exact G_sub [1, 2, 3, 4, 0] rfl h
    · replace h := h.2 c
      refine G_iinc (L' := [(3, .inl (l3 + 1)), (0, .inr (.inr 0)), (1, .inl l1), (2, .inr (.inr 11)), (4, .inl l4), (5, .inl l5), (6, .inl l6)]) 3 rfl (mfx.lt mf90 (Nat.le_of_ble_eq_true rfl)) rfl (ck dc90 (i := 47) rfl) ?_
      refine G_iinc (L' := [(4, .inl (l4 + 1)), (3, .inl (l3 + 1)), (0, .inr (.inr 0)), (1, .inl l1), (2, .inr (.inr 11)), (5, .inl l5), (6, .inl l6)]) 4 rfl (mfx.lt mf90 (Nat.le_of_ble_eq_true rfl)) rfl (ck dc90 (i := 48) rfl) ?_
      refine G_goto (tgt := 23) (by decide) (ck dc90 (i := 49) rfl) ?_
      exact G_sub [2, 3, 4, 1, 0] rfl h
  · replace h := h.2 c
    refine G_iload 5 rfl (ck dc90 (i := 33) rfl) ?_
    obtain ⟨o4, h⟩ := h
    refine G_if_lt (tgt := 87) (by decide) o4 (ck dc90 (i := 34) rfl) (fun c => ?_) (fun c => ?_)
    · replace h := h.1 c
      refine G_iload 5 rfl (ck dc90 (i := 44) rfl) ?_
      refine G_iload_n 1 rfl rfl (ck dc90 (i := 45) rfl) ?_
      obtain ⟨o5, h⟩ := h
      refine G_icmp_ne (tgt := 96) (by decide) o4 o5 (ck dc90 (i := 46) rfl) (fun c => ?_) (fun c => ?_)
      · replace h := h.1 c
        refine G_iinc (L' := [(4, .inl (l4 + 1)), (0, .inr (.inr 0)), (1, .inl l1), (2, .inr (.inr 11)), (3, .inl l3), (5, .inl l5), (6, .inl l6)]) 4 rfl (mfx.lt mf90 (Nat.le_of_ble_eq_true rfl)) rfl (ck dc90 (i := 48) rfl) ?_
        refine G_goto (tgt := 23) (by decide) (ck dc90 (i := 49) rfl) ?_
        exact G_sub [1, 2, 3, 4, 0] rfl h
      · replace h := h.2 c
        refine G_iinc (L' := [(3, .inl (l3 + 1)), (0, .inr (.inr 0)), (1, .inl l1), (2, .inr (.inr 11)), (4, .inl l4), (5, .inl l5), (6, .inl l6)]) 3 rfl (mfx.lt mf90 (Nat.le_of_ble_eq_true rfl)) rfl (ck dc90 (i := 47) rfl) ?_
        refine G_iinc (L' := [(4, .inl (l4 + 1)), (3, .inl (l3 + 1)), (0, .inr (.inr 0)), (1, .inl l1), (2, .inr (.inr 11)), (5, .inl l5), (6, .inl l6)]) 4 rfl (mfx.lt mf90 (Nat.le_of_ble_eq_true rfl)) rfl (ck dc90 (i := 48) rfl) ?_
        refine G_goto (tgt := 23) (by decide) (ck dc90 (i := 49) rfl) ?_
        exact G_sub [2, 3, 4, 1, 0] rfl h
    · replace h := h.2 c
      refine G_iload 5 rfl (ck dc90 (i := 35) rfl) ?_
      refine G_iload_n 1 rfl rfl (ck dc90 (i := 36) rfl) ?_
      obtain ⟨o6, h⟩ := h
      refine G_icmp_eq (tgt := 87) (by decide) o4 o6 (ck dc90 (i := 37) rfl) (fun c => ?_) (fun c => ?_)
      · replace h := h.1 c
        refine G_iload 5 rfl (ck dc90 (i := 44) rfl) ?_
        refine G_iload_n 1 rfl rfl (ck dc90 (i := 45) rfl) ?_
        refine G_icmp_ne (tgt := 96) (by decide) o4 o6 (ck dc90 (i := 46) rfl) (fun c => ?_) (fun c => ?_)
        · replace h := h.1 c
          refine G_iinc (L' := [(4, .inl (l4 + 1)), (0, .inr (.inr 0)), (1, .inl l1), (2, .inr (.inr 11)), (3, .inl l3), (5, .inl l5), (6, .inl l6)]) 4 rfl (mfx.lt mf90 (Nat.le_of_ble_eq_true rfl)) rfl (ck dc90 (i := 48) rfl) ?_
          refine G_goto (tgt := 23) (by decide) (ck dc90 (i := 49) rfl) ?_
          exact G_sub [1, 2, 3, 4, 0] rfl h
        · replace h := h.2 c
          refine G_iinc (L' := [(3, .inl (l3 + 1)), (0, .inr (.inr 0)), (1, .inl l1), (2, .inr (.inr 11)), (4, .inl l4), (5, .inl l5), (6, .inl l6)]) 3 rfl (mfx.lt mf90 (Nat.le_of_ble_eq_true rfl)) rfl (ck dc90 (i := 47) rfl) ?_
          refine G_iinc (L' := [(4, .inl (l4 + 1)), (3, .inl (l3 + 1)), (0, .inr (.inr 0)), (1, .inl l1), (2, .inr (.inr 11)), (5, .inl l5), (6, .inl l6)]) 4 rfl (mfx.lt mf90 (Nat.le_of_ble_eq_true rfl)) rfl (ck dc90 (i := 48) rfl) ?_
          refine G_goto (tgt := 23) (by decide) (ck dc90 (i := 49) rfl) ?_
          exact G_sub [2, 3, 4, 1, 0] rfl h
      · replace h := h.2 c
        refine G_aload_n 2 rfl rfl (ck dc90 (i := 38) rfl) ?_
        refine G_iload 5 rfl (ck dc90 (i := 39) rfl) ?_
        refine H_vI mf90 (As := [.inl l5]) (st := []) (ck dc90 (i := 40) rfl) lk_ClearingWaves_214 rfl rfl (Nat.le_of_ble_eq_true rfl) ly11 ra11 ⟨Nat.le_refl _, Nat.le_refl _⟩ h (fun r7 M8 h => ?_)
        refine G_istore (L' := [(5, .inl r7), (0, .inr (.inr 0)), (1, .inl l1), (2, .inr (.inr 11)), (3, .inl l3), (4, .inl l4), (6, .inl l6)]) (mfx.lt mf90 (Nat.le_of_ble_eq_true rfl)) rfl (ck dc90 (i := 41) rfl) ?_
        refine G_iinc (L' := [(6, .inl (l6 + 1)), (5, .inl r7), (0, .inr (.inr 0)), (1, .inl l1), (2, .inr (.inr 11)), (3, .inl l3), (4, .inl l4)]) 6 rfl (mfx.lt mf90 (Nat.le_of_ble_eq_true rfl)) rfl (ck dc90 (i := 42) rfl) ?_
        refine G_goto (tgt := 56) (by decide) (ck dc90 (i := 43) rfl) ?_
        exact G_sub [2, 3, 4, 5, 6, 1, 0] rfl h
theorem c_x_coined (K : Nat) (M : PM) (Q : Option PV → PM → Prop)
    (h : R32 (M 0 9) ∧ ((M 0 9) = 0 → Q (some (.inr (.inr 37))) M) ∧ (¬ (M 0 9) = 0 → Call K jCoins_walk [.inr (.inr 37)] P0 P0 M (retV fun M3 => Q (some (.inr (.inr 37))) (mset M3 0 9 0)))) : Call (K + 1) jClearingWaves_coined [.inr (.inr 0)] P0 P0 M Q := by
  refine Call.intro (by decide +kernel) (mfx.le mf92 (Nat.le_of_ble_eq_true rfl)) (Nat.le_refl _) rfl ?_
  refine G_aload_n 0 rfl rfl (ck dc92 (i := 0) rfl) ?_
  refine H_getI mf92 (ck dc92 (i := 1) rfl) fw_ClearingWaves_98 (Or.inr fc10_9) ly0 ra0 (x := (M 0 9)) rfl ?_
  obtain ⟨o1, h⟩ := h
  refine G_if_eq (tgt := 19) (by decide) o1 (ck dc92 (i := 2) rfl) (fun c => ?_) (fun c => ?_)
  · replace h := h.1 c
    refine G_aload_n 0 rfl rfl (ck dc92 (i := 9) rfl) ?_
    refine H_getR mf92 (ck dc92 (i := 10) rfl) fw_ClearingWaves_48 fc10_8 ly0 ra0 rf0_8 (by decide) ?_
    exact H_aret mf92 (ck dc92 (i := 11) rfl) rfl (by decide) h
  · replace h := h.2 c
    refine G_aload_n 0 rfl rfl (ck dc92 (i := 3) rfl) ?_
    refine H_getR mf92 (ck dc92 (i := 4) rfl) fw_ClearingWaves_48 fc10_8 ly0 ra0 rf0_8 (by decide) ?_
    refine H_vV mf92 (As := []) (st := []) (ck dc92 (i := 5) rfl) lk_ClearingWaves_362 rfl rfl (Nat.le_of_ble_eq_true rfl) ly37 ra37 ⟨Nat.le_refl _, Nat.le_refl _⟩ h (fun M3 h => ?_)
    refine G_aload_n 0 rfl rfl (ck dc92 (i := 6) rfl) ?_
    refine G_iconst (ck dc92 (i := 7) rfl) ?_
    refine H_putZ mf92 (ck dc92 (i := 8) rfl) fw_ClearingWaves_98 fc10_9 ly0 ra0 (Or.inl rfl) (Or.inl rfl) ?_
    refine G_aload_n 0 rfl rfl (ck dc92 (i := 9) rfl) ?_
    refine H_getR mf92 (ck dc92 (i := 10) rfl) fw_ClearingWaves_48 fc10_8 ly0 ra0 rf0_8 (by decide) ?_
    exact H_aret mf92 (ck dc92 (i := 11) rfl) rfl (by decide) h
theorem c_x_coin (K : Nat) (a1 a2 a3 : Int) (M : PM) (Q : Option PV → PM → Prop)
    (h : Call K jBook_hasDebt [.inr (.inr 1), .inl a1, .inl a2, .inl a3] P0 P0 M (retI fun r1 M2 => R32 r1 ∧ (r1 = 0 → Q (some (.inl (-1))) M2) ∧ (¬ r1 = 0 → Call K jClearingWaves_coined [.inr (.inr 0)] P0 P0 M2 (retR fun r4 M5 => r4 = 37 ∧ Call K jCoins_paidCoins [.inr (.inr 37), .inl a1, .inl a2, .inl a3] P0 P0 M5 (retI fun r6 M7 => Q (some (.inl r6)) M7))))) : Call (K + 1) jClearingWaves_coin [.inr (.inr 0), .inl a1, .inl a2, .inl a3] P0 P0 M Q := by
  refine Call.intro (by decide +kernel) (mfx.le mf91 (Nat.le_of_ble_eq_true rfl)) (Nat.le_refl _) rfl ?_
  refine G_aload_n 0 rfl rfl (ck dc91 (i := 0) rfl) ?_
  refine H_getR mf91 (ck dc91 (i := 1) rfl) fw_ClearingWaves_12 fc10_0 ly0 ra0 rf0_0 (by decide) ?_
  refine G_iload_n 1 rfl rfl (ck dc91 (i := 2) rfl) ?_
  refine G_iload_n 2 rfl rfl (ck dc91 (i := 3) rfl) ?_
  refine G_iload_n 3 rfl rfl (ck dc91 (i := 4) rfl) ?_
  refine H_vZ mf91 (As := [.inl a1, .inl a2, .inl a3]) (st := []) (ck dc91 (i := 5) rfl) lk_ClearingWaves_112 rfl rfl (Nat.le_of_ble_eq_true rfl) ly1 ra1 ⟨Nat.le_refl _, Nat.le_refl _⟩ h (fun r1 M2 h => ?_)
  obtain ⟨o3, h⟩ := h
  refine G_if_eq (tgt := 26) (by decide) o3 (ck dc91 (i := 6) rfl) (fun c => ?_) (fun c => ?_)
  · replace h := h.1 c
    refine G_iconst (ck dc91 (i := 14) rfl) ?_
    exact H_iretI mf91 (ck dc91 (i := 15) rfl) rfl h
  · replace h := h.2 c
    refine G_aload_n 0 rfl rfl (ck dc91 (i := 7) rfl) ?_
    refine H_vR mf91 (As := []) (st := []) (ck dc91 (i := 8) rfl) lk_ClearingWaves_218 rfl rfl (Nat.le_of_ble_eq_true rfl) ly0 ra0 ⟨Nat.le_refl _, Nat.le_refl _⟩ h (fun r4 M5 h => ?_)
    obtain ⟨rfl, h⟩ := h
    refine G_iload_n 1 rfl rfl (ck dc91 (i := 9) rfl) ?_
    refine G_iload_n 2 rfl rfl (ck dc91 (i := 10) rfl) ?_
    refine G_iload_n 3 rfl rfl (ck dc91 (i := 11) rfl) ?_
    refine H_vI mf91 (As := [.inl a1, .inl a2, .inl a3]) (st := []) (ck dc91 (i := 12) rfl) lk_ClearingWaves_222 rfl rfl (Nat.le_of_ble_eq_true rfl) ly37 ra37 ⟨Nat.le_refl _, Nat.le_refl _⟩ h (fun r6 M7 h => ?_)
    refine G_goto (tgt := 27) (by decide) (ck dc91 (i := 13) rfl) ?_
    exact H_iretI mf91 (ck dc91 (i := 15) rfl) rfl h
theorem c_x_steps (K : Nat) (M : PM) (Q : Option PV → PM → Prop)
    (h : Call K jClearingWaves_coined [.inr (.inr 0)] P0 P0 M (retR fun r1 M2 => r1 = 37 ∧ Q (some (.inl (M2 37 0))) M2)) : Call (K + 1) jClearingWaves_steps [.inr (.inr 0)] P0 P0 M Q := by
  refine Call.intro (by decide +kernel) (mfx.le mf102 (Nat.le_of_ble_eq_true rfl)) (Nat.le_refl _) rfl ?_
  refine G_aload_n 0 rfl rfl (ck dc102 (i := 0) rfl) ?_
  refine H_vR mf102 (As := []) (st := []) (ck dc102 (i := 1) rfl) lk_ClearingWaves_218 rfl rfl (Nat.le_of_ble_eq_true rfl) ly0 ra0 ⟨Nat.le_refl _, Nat.le_refl _⟩ h (fun r1 M2 h => ?_)
  obtain ⟨rfl, h⟩ := h
  refine H_getI mf102 (ck dc102 (i := 2) rfl) fw_ClearingWaves_225 (Or.inl fc2_0) ly37 ra37 (x := (M2 37 0)) rfl ?_
  exact H_iretI mf102 (ck dc102 (i := 3) rfl) rfl h
theorem c_x_coinFails (K : Nat) (M : PM) (Q : Option PV → PM → Prop)
    (h : Call K jClearingWaves_coined [.inr (.inr 0)] P0 P0 M (retR fun r1 M2 => r1 = 37 ∧ Call K jCoins_shortBits [.inr (.inr 37)] P0 P0 M2 (retI fun r3 M4 => Q (some (.inl r3)) M4))) : Call (K + 1) jClearingWaves_coinFails [.inr (.inr 0)] P0 P0 M Q := by
  refine Call.intro (by decide +kernel) (mfx.le mf103 (Nat.le_of_ble_eq_true rfl)) (Nat.le_refl _) rfl ?_
  refine G_aload_n 0 rfl rfl (ck dc103 (i := 0) rfl) ?_
  refine H_vR mf103 (As := []) (st := []) (ck dc103 (i := 1) rfl) lk_ClearingWaves_218 rfl rfl (Nat.le_of_ble_eq_true rfl) ly0 ra0 ⟨Nat.le_refl _, Nat.le_refl _⟩ h (fun r1 M2 h => ?_)
  obtain ⟨rfl, h⟩ := h
  refine H_vI mf103 (As := []) (st := []) (ck dc103 (i := 2) rfl) lk_ClearingWaves_228 rfl rfl (Nat.le_of_ble_eq_true rfl) ly37 ra37 ⟨Nat.le_refl _, Nat.le_refl _⟩ h (fun r3 M4 h => ?_)
  exact H_iretI mf103 (ck dc103 (i := 3) rfl) rfl h
theorem c_x_gone (K : Nat) (M : PM) (Q : Option PV → PM → Prop)
    (h : Call K jClearingWaves_coined [.inr (.inr 0)] P0 P0 M (retR fun r1 M2 => r1 = 37 ∧ Call K jCoins_waste [.inr (.inr 37)] P0 P0 M2 (retI fun r3 M4 => Q (some (.inl r3)) M4))) : Call (K + 1) jClearingWaves_gone [.inr (.inr 0)] P0 P0 M Q := by
  refine Call.intro (by decide +kernel) (mfx.le mf105 (Nat.le_of_ble_eq_true rfl)) (Nat.le_refl _) rfl ?_
  refine G_aload_n 0 rfl rfl (ck dc105 (i := 0) rfl) ?_
  refine H_vR mf105 (As := []) (st := []) (ck dc105 (i := 1) rfl) lk_ClearingWaves_218 rfl rfl (Nat.le_of_ble_eq_true rfl) ly0 ra0 ⟨Nat.le_refl _, Nat.le_refl _⟩ h (fun r1 M2 h => ?_)
  obtain ⟨rfl, h⟩ := h
  refine H_vI mf105 (As := []) (st := []) (ck dc105 (i := 2) rfl) lk_ClearingWaves_231 rfl rfl (Nat.le_of_ble_eq_true rfl) ly37 ra37 ⟨Nat.le_refl _, Nat.le_refl _⟩ h (fun r3 M4 h => ?_)
  exact H_iretI mf105 (ck dc105 (i := 3) rfl) rfl h
theorem c_clearingwaves_isCoins (K : Nat) (a1 : Int) (M : PM) (Q : Option PV → PM → Prop)
    (h : R32 a1 ∧ (a1 < 0 → Q (some (.inl 0)) M) ∧ (¬ a1 < 0 → (200 < a1 → Q (some (.inl 0)) M) ∧ (¬ 200 < a1 → Q (some (.inl 1)) M))) : Call (K + 1) jClearingWaves_isCoins [.inl a1] P0 P0 M Q := by
  refine Call.intro (by decide +kernel) (mfx.le mf108 (Nat.le_of_ble_eq_true rfl)) (Nat.le_refl _) rfl ?_
  refine G_iload_n 0 rfl rfl (ck dc108 (i := 0) rfl) ?_
  obtain ⟨o1, h⟩ := h
  refine G_if_lt (tgt := 15) (by decide) o1 (ck dc108 (i := 1) rfl) (fun c => ?_) (fun c => ?_)
  · replace h := h.1 c
    refine G_iconst (ck dc108 (i := 7) rfl) ?_
    exact H_iretZ mf108 (ck dc108 (i := 8) rfl) rfl (Or.inl rfl) h
  · replace h := h.2 c
    refine G_iload_n 0 rfl rfl (ck dc108 (i := 2) rfl) ?_
    refine G_sipush (n := 200) rfl (ck dc108 (i := 3) rfl) ?_
    refine G_icmp_gt (tgt := 15) (by decide) o1 (by decide) (ck dc108 (i := 4) rfl) (fun c => ?_) (fun c => ?_)
    · replace h := h.1 c
      refine G_iconst (ck dc108 (i := 7) rfl) ?_
      exact H_iretZ mf108 (ck dc108 (i := 8) rfl) rfl (Or.inl rfl) h
    · replace h := h.2 c
      refine G_iconst (ck dc108 (i := 5) rfl) ?_
      refine G_goto (tgt := 16) (by decide) (ck dc108 (i := 6) rfl) ?_
      exact H_iretZ mf108 (ck dc108 (i := 8) rfl) rfl (Or.inr rfl) h
theorem c_x_loadPurse (K : Nat) (M : PM) (Q : Option PV → PM → Prop)
    (h : Q none (mcpy M 2 9 5)) : Call (K + 1) jClearingWaves_loadPurse [.inr (.inr 0)] P0 P0 M Q := by
  refine Call.intro (by decide +kernel) (mfx.le mf110 (Nat.le_of_ble_eq_true rfl)) (Nat.le_refl _) rfl ?_
  refine G_aload_n 0 rfl rfl (ck dc110 (i := 0) rfl) ?_
  refine H_getR mf110 (ck dc110 (i := 1) rfl) fw_ClearingWaves_12 fc10_0 ly0 ra0 rf0_0 (by decide) ?_
  refine H_getR mf110 (ck dc110 (i := 2) rfl) fw_ClearingWaves_30 fc0_3 ly1 ra1 rf1_3 (by decide) ?_
  refine G_iconst (ck dc110 (i := 3) rfl) ?_
  refine G_aload_n 0 rfl rfl (ck dc110 (i := 4) rfl) ?_
  refine H_getR mf110 (ck dc110 (i := 5) rfl) fw_ClearingWaves_21 fc10_3 ly0 ra0 rf0_3 (by decide) ?_
  refine G_iconst (ck dc110 (i := 6) rfl) ?_
  refine G_iconst (ck dc110 (i := 7) rfl) ?_
  refine H_cpyi mf110 (n := 5) (ck dc110 (i := 8) rfl) la_ClearingWaves_365 (by decide) ly2 ly9 ra2 ra9 (by decide) (by decide) (by decide) (Nat.le_of_ble_eq_true rfl) ?_
  exact H_vret mf110 (ck dc110 (i := 9) rfl) rfl h
theorem c_x_failsWith (K : Nat) (a1 a2 : Int) (M : PM) (Q : Option PV → PM → Prop)
    (h : Call K jClearingWaves_loadPurse [.inr (.inr 0)] P0 P0 M (retV fun M2 => (0 ≤ a1 ∧ a1 < 5) ∧ R32 ((M2 9 a1) + a2) ∧ Call K jClearing_run [.inr (.inr 24)] P0 P0 (mset M2 9 a1 (mx2 0 ((M2 9 a1) + a2))) (retV fun M6 => Q (some (.inl (M6 24 1))) M6))) : Call (K + 1) jClearingWaves_failsWith [.inr (.inr 0), .inl a1, .inl a2] P0 P0 M Q := by
  refine Call.intro (by decide +kernel) (mfx.le mf109 (Nat.le_of_ble_eq_true rfl)) (Nat.le_refl _) rfl ?_
  refine G_aload_n 0 rfl rfl (ck dc109 (i := 0) rfl) ?_
  refine H_vV mf109 (As := []) (st := []) (ck dc109 (i := 1) rfl) lk_ClearingWaves_240 rfl rfl (Nat.le_of_ble_eq_true rfl) ly0 ra0 ⟨Nat.le_refl _, Nat.le_refl _⟩ h (fun M2 h => ?_)
  refine G_aload_n 0 rfl rfl (ck dc109 (i := 2) rfl) ?_
  refine H_getR mf109 (ck dc109 (i := 3) rfl) fw_ClearingWaves_21 fc10_3 ly0 ra0 rf0_3 (by decide) ?_
  refine G_iload_n 1 rfl rfl (ck dc109 (i := 4) rfl) ?_
  refine G_iconst (ck dc109 (i := 5) rfl) ?_
  refine G_aload_n 0 rfl rfl (ck dc109 (i := 6) rfl) ?_
  refine H_getR mf109 (ck dc109 (i := 7) rfl) fw_ClearingWaves_21 fc10_3 ly0 ra0 rf0_3 (by decide) ?_
  refine G_iload_n 1 rfl rfl (ck dc109 (i := 8) rfl) ?_
  obtain ⟨o3, h⟩ := h
  refine H_iald (ck dc109 (i := 9) rfl) ly9 (by decide) ra9 o3 (x := (M2 9 a1)) rfl ?_
  refine G_iload_n 2 rfl rfl (ck dc109 (i := 10) rfl) ?_
  refine G_iadd (ck dc109 (i := 11) rfl) ?_
  obtain ⟨o4, h⟩ := h
  refine H_mmax mf109 (ck dc109 (i := 12) rfl) lm_ClearingWaves_371 (Nat.le_refl _) (Nat.le_of_ble_eq_true rfl) (by decide) o4 ?_
  refine G_iast (ck dc109 (i := 13) rfl) ra9 ly9 (by decide) o3 ?_
  refine G_aload_n 0 rfl rfl (ck dc109 (i := 14) rfl) ?_
  refine H_getR mf109 (ck dc109 (i := 15) rfl) fw_ClearingWaves_40 fc10_6 ly0 ra0 rf0_6 (by decide) ?_
  refine H_vV mf109 (As := []) (st := []) (ck dc109 (i := 16) rfl) lk_ClearingWaves_264 rfl rfl (Nat.le_of_ble_eq_true rfl) ly24 ra24 ⟨Nat.le_refl _, Nat.le_refl _⟩ h (fun M6 h => ?_)
  refine G_aload_n 0 rfl rfl (ck dc109 (i := 17) rfl) ?_
  refine H_getR mf109 (ck dc109 (i := 18) rfl) fw_ClearingWaves_40 fc10_6 ly0 ra0 rf0_6 (by decide) ?_
  refine H_getI mf109 (ck dc109 (i := 19) rfl) fw_ClearingWaves_155 (Or.inl fc1_1) ly24 ra24 (x := (M6 24 1)) rfl ?_
  exact H_iretI mf109 (ck dc109 (i := 20) rfl) rfl h
theorem c_x_saved (K : Nat) (a1 a2 : Int) (M : PM) (Q : Option PV → PM → Prop)
    (h : Call K jBook_hasHouse [.inr (.inr 1), .inl a2] P0 P0 M (retI fun r1 M2 => R32 r1 ∧ (¬ r1 = 0 → Call K jClearingWaves_isCoins [.inl a1] P0 P0 M2 (retI fun r4 M5 => R32 r4 ∧ (r4 = 0 → Q (some (.inl (-2))) M5) ∧ (¬ r4 = 0 → Call K jClearingWaves_failsWith [.inr (.inr 0), .inl a2, .inl a1] P0 P0 M5 (retI fun r7 M8 => Q (some (.inl r7)) M8)))) ∧ (r1 = 0 → Q (some (.inl (-1))) M2))) : Call (K + 1) jClearingWaves_saved [.inr (.inr 0), .inl a1, .inl a2] P0 P0 M Q := by
  refine Call.intro (by decide +kernel) (mfx.le mf107 (Nat.le_of_ble_eq_true rfl)) (Nat.le_refl _) rfl ?_
  refine G_aload_n 0 rfl rfl (ck dc107 (i := 0) rfl) ?_
  refine H_getR mf107 (ck dc107 (i := 1) rfl) fw_ClearingWaves_12 fc10_0 ly0 ra0 rf0_0 (by decide) ?_
  refine G_iload_n 2 rfl rfl (ck dc107 (i := 2) rfl) ?_
  refine H_vZ mf107 (As := [.inl a2]) (st := []) (ck dc107 (i := 3) rfl) lk_ClearingWaves_108 rfl rfl (Nat.le_of_ble_eq_true rfl) ly1 ra1 ⟨Nat.le_refl _, Nat.le_refl _⟩ h (fun r1 M2 h => ?_)
  obtain ⟨o3, h⟩ := h
  refine G_if_ne (tgt := 13) (by decide) o3 (ck dc107 (i := 4) rfl) (fun c => ?_) (fun c => ?_)
  · replace h := h.1 c
    refine G_iload_n 1 rfl rfl (ck dc107 (i := 7) rfl) ?_
    refine H_sZ mf107 (As := [.inl a1]) (st := []) (ck dc107 (i := 8) rfl) lk_ClearingWaves_234 rfl rfl (Nat.le_of_ble_eq_true rfl) ⟨Nat.le_refl _, Nat.le_refl _⟩ h (fun r4 M5 h => ?_)
    obtain ⟨o6, h⟩ := h
    refine G_if_eq (tgt := 29) (by decide) o6 (ck dc107 (i := 9) rfl) (fun c => ?_) (fun c => ?_)
    · replace h := h.1 c
      refine G_bipush (n := (-2)) rfl (ck dc107 (i := 15) rfl) ?_
      exact H_iretI mf107 (ck dc107 (i := 16) rfl) rfl h
    · replace h := h.2 c
      refine G_aload_n 0 rfl rfl (ck dc107 (i := 10) rfl) ?_
      refine G_iload_n 2 rfl rfl (ck dc107 (i := 11) rfl) ?_
      refine G_iload_n 1 rfl rfl (ck dc107 (i := 12) rfl) ?_
      refine H_vI mf107 (As := [.inl a2, .inl a1]) (st := []) (ck dc107 (i := 13) rfl) lk_ClearingWaves_237 rfl rfl (Nat.le_of_ble_eq_true rfl) ly0 ra0 ⟨Nat.le_refl _, Nat.le_refl _⟩ h (fun r7 M8 h => ?_)
      refine G_goto (tgt := 31) (by decide) (ck dc107 (i := 14) rfl) ?_
      exact H_iretI mf107 (ck dc107 (i := 16) rfl) rfl h
  · replace h := h.2 c
    refine G_iconst (ck dc107 (i := 5) rfl) ?_
    exact H_iretI mf107 (ck dc107 (i := 6) rfl) rfl h
