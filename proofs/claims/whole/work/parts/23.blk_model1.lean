theorem c_m_solves (K : Nat) (M : PM) (Q : Option PV → PM → Prop)
    (h : G none (K + 1) jModel_solves 2 [(0, .inr (.inr 52)), (1, .inl 0)] [] P0 P0 M Q) : Call (K + 1) jModel_solves [.inr (.inr 52)] P0 P0 M Q := by
  refine Call.intro (by decide +kernel) (mfx.le mf205 (Nat.le_of_ble_eq_true rfl)) (Nat.le_refl _) rfl ?_
  refine G_iconst (ck dc205 (i := 0) rfl) ?_
  refine G_istore_n (L' := [(1, .inl 0), (0, .inr (.inr 52))]) rfl (mfx.lt mf205 (Nat.le_of_ble_eq_true rfl)) rfl (ck dc205 (i := 1) rfl) ?_
  exact G_sub [1, 0] rfl h
theorem g_m_solves_2 (K : Nat) (l1 : Int) (M : PM) (Q : Option PV → PM → Prop)
    (h : R32 l1 ∧ R32 (M 52 17) ∧ ((M 52 17) ≤ l1 → Call K jModel_determinant [.inr (.inr 52), .inl 0, .inl ((bShl 1 (M 52 17)) - 1), .inl (-1)] P0 P0 M (retL fun r3 M4 => G none (K + 1) jModel_solves 138 [(0, .inr (.inr 52)), (1, .inl ((bShl 1 (M 52 17)) - 1)), (2, .inl 0)] [] P0 P0 (mset M4 52 21 r3) Q)) ∧ (¬ (M 52 17) ≤ l1 → (0 ≤ l1 ∧ l1 < 5) ∧ Call K jModel_beyond [.inr (.inr 52), .inl (M 63 l1)] P0 P0 M (retL fun r6 M7 => G none (K + 1) jModel_solves 30 [(0, .inr (.inr 52)), (1, .inl l1), (2, .inl (M 63 l1)), (3, .inl 0)] [] P0 P0 (mset M7 65 l1 r6) Q))) : G none (K + 1) jModel_solves 2 [(0, .inr (.inr 52)), (1, .inl l1)] [] P0 P0 M Q := by
  refine G_iload_n 1 rfl rfl (ck dc205 (i := 2) rfl) ?_
  refine G_aload_n 0 rfl rfl (ck dc205 (i := 3) rfl) ?_
  refine H_getI mf205 (ck dc205 (i := 4) rfl) fw_Model_158 (Or.inl fc11_17) ly52 ra52 (x := (M 52 17)) rfl ?_
  obtain ⟨o1, h⟩ := h
  obtain ⟨o2, h⟩ := h
  refine G_icmp_ge (tgt := 116) (by decide) o1 o2 (ck dc205 (i := 5) rfl) (fun c => ?_) (fun c => ?_)
  · replace h := h.1 c
    refine G_iconst (ck dc205 (i := 71) rfl) ?_
    refine G_aload_n 0 rfl rfl (ck dc205 (i := 72) rfl) ?_
    refine H_getI mf205 (ck dc205 (i := 73) rfl) fw_Model_158 (Or.inl fc11_17) ly52 ra52 (x := (M 52 17)) rfl ?_
    refine G_ishl (ck dc205 (i := 74) rfl) ?_
    refine G_iconst (ck dc205 (i := 75) rfl) ?_
    refine G_isub (ck dc205 (i := 76) rfl) ?_
    refine G_istore_n (L' := [(1, .inl ((bShl 1 (M 52 17)) - 1)), (0, .inr (.inr 52))]) rfl (mfx.lt mf205 (Nat.le_of_ble_eq_true rfl)) rfl (ck dc205 (i := 77) rfl) ?_
    refine G_aload_n 1 rfl rfl (ck dc205 (i := 78) rfl) ?_
    refine G_aload_n 1 rfl rfl (ck dc205 (i := 79) rfl) ?_
    refine G_iconst (ck dc205 (i := 80) rfl) ?_
    refine G_iload_n 0 rfl rfl (ck dc205 (i := 81) rfl) ?_
    refine G_iconst (ck dc205 (i := 82) rfl) ?_
    refine H_vL mf205 (As := [.inl 0, .inl ((bShl 1 (M 52 17)) - 1), .inl (-1)]) (st := [.inr (.inr 52)]) (ck dc205 (i := 83) rfl) lk_Model_164 rfl rfl (Nat.le_of_ble_eq_true rfl) ly52 ra52 ⟨Nat.le_refl _, Nat.le_refl _⟩ h (fun r3 M4 h => ?_)
    refine H_putL mf205 (ck dc205 (i := 84) rfl) fw_Model_172 fc11_21 ly52 ra52 (Or.inl rfl) ?_
    refine G_iconst (ck dc205 (i := 85) rfl) ?_
    refine G_istore_n (L' := [(2, .inl 0), (1, .inl ((bShl 1 (M 52 17)) - 1)), (0, .inr (.inr 52))]) rfl (mfx.lt mf205 (Nat.le_of_ble_eq_true rfl)) rfl (ck dc205 (i := 86) rfl) ?_
    exact G_sub [2, 1, 0] rfl h
  · replace h := h.2 c
    refine G_aload_n 0 rfl rfl (ck dc205 (i := 6) rfl) ?_
    refine H_getR mf205 (ck dc205 (i := 7) rfl) fw_Model_53 fc11_16 ly52 ra52 rf52_16 (by decide) ?_
    refine G_iload_n 1 rfl rfl (ck dc205 (i := 8) rfl) ?_
    obtain ⟨o5, h⟩ := h
    refine H_iald (ck dc205 (i := 9) rfl) ly63 (by decide) ra63 o5 (x := (M 63 l1)) rfl ?_
    refine G_istore_n (L' := [(2, .inl (M 63 l1)), (0, .inr (.inr 52)), (1, .inl l1)]) rfl (mfx.lt mf205 (Nat.le_of_ble_eq_true rfl)) rfl (ck dc205 (i := 10) rfl) ?_
    refine G_aload_n 1 rfl rfl (ck dc205 (i := 11) rfl) ?_
    refine H_getR mf205 (ck dc205 (i := 12) rfl) fw_Model_59 fc11_19 ly52 ra52 rf52_19 (by decide) ?_
    refine G_iload_n 2 rfl rfl (ck dc205 (i := 13) rfl) ?_
    refine G_aload_n 1 rfl rfl (ck dc205 (i := 14) rfl) ?_
    refine G_iload_n 0 rfl rfl (ck dc205 (i := 15) rfl) ?_
    refine H_vL mf205 (As := [.inl (M 63 l1)]) (st := [.inl l1, .inr (.inr 65)]) (ck dc205 (i := 16) rfl) lk_Model_168 rfl rfl (Nat.le_of_ble_eq_true rfl) ly52 ra52 ⟨Nat.le_refl _, Nat.le_refl _⟩ h (fun r6 M7 h => ?_)
    refine G_last (ck dc205 (i := 17) rfl) ra65 ly65 (by decide) o5 ?_
    refine G_iconst (ck dc205 (i := 18) rfl) ?_
    refine G_istore_n (L' := [(3, .inl 0), (2, .inl (M 63 l1)), (0, .inr (.inr 52)), (1, .inl l1)]) rfl (mfx.lt mf205 (Nat.le_of_ble_eq_true rfl)) rfl (ck dc205 (i := 19) rfl) ?_
    exact G_sub [2, 3, 1, 0] rfl h
set_option maxHeartbeats 20000000 in
theorem g_m_solves_30 (K : Nat) (l1 l2 l3 : Int) (M : PM) (Q : Option PV → PM → Prop)
    (h : R32 l3 ∧ R32 (M 52 17) ∧ ((M 52 17) ≤ l3 → G none (K + 1) jModel_solves 2 [(0, .inr (.inr 52)), (1, .inl (l1 + 1))] [] P0 P0 M Q) ∧ (¬ (M 52 17) ≤ l3 → (0 ≤ l3 ∧ l3 < 5) ∧ R32 l1 ∧ (¬ l1 = l3 → R32 (M 55 2) ∧ (0 ≤ (M 63 l3) ∧ (M 63 l3) < 5) ∧ Call K jModel_owes [.inr (.inr 52), .inl (M 63 l3), .inl l2, .inl (M 62 (M 63 l3))] P0 P0 M (retI fun r7 M8 => R32 r7 ∧ (0 ≤ ((5 * l1) + l3) ∧ ((5 * l1) + l3) < 25) ∧ G none (K + 1) jModel_solves 30 [(0, .inr (.inr 52)), (1, .inl l1), (2, .inl l2), (3, .inl (l3 + 1))] [] P0 P0 (mset M8 64 ((5 * l1) + l3) ((-(M 55 2)) * r7)) Q)) ∧ (l1 = l3 → (0 ≤ l2 ∧ l2 < 5) ∧ Call K jModel_due [.inr (.inr 52), .inl l2, .inl (M 62 l2)] P0 P0 M (retI fun r12 M13 => R32 r12 ∧ (0 ≤ ((5 * l1) + l3) ∧ ((5 * l1) + l3) < 25) ∧ G none (K + 1) jModel_solves 30 [(0, .inr (.inr 52)), (1, .inl l1), (2, .inl l2), (3, .inl (l3 + 1))] [] P0 P0 (mset M13 64 ((5 * l1) + l3) (10 * r12)) Q)))) : G none (K + 1) jModel_solves 30 [(0, .inr (.inr 52)), (1, .inl l1), (2, .inl l2), (3, .inl l3)] [] P0 P0 M Q := by
  refine G_iload_n 3 rfl rfl (ck dc205 (i := 20) rfl) ?_
  refine G_aload_n 0 rfl rfl (ck dc205 (i := 21) rfl) ?_
  refine H_getI mf205 (ck dc205 (i := 22) rfl) fw_Model_158 (Or.inl fc11_17) ly52 ra52 (x := (M 52 17)) rfl ?_
  obtain ⟨o1, h⟩ := h
  obtain ⟨o2, h⟩ := h
  refine G_icmp_ge (tgt := 110) (by decide) o1 o2 (ck dc205 (i := 23) rfl) (fun c => ?_) (fun c => ?_)
  · replace h := h.1 c
    refine G_iinc (L' := [(1, .inl (l1 + 1)), (0, .inr (.inr 52)), (2, .inl l2), (3, .inl l3)]) 1 rfl (mfx.lt mf205 (Nat.le_of_ble_eq_true rfl)) rfl (ck dc205 (i := 69) rfl) ?_
    refine G_goto (tgt := 2) (by decide) (ck dc205 (i := 70) rfl) ?_
    exact G_sub [1, 0] rfl h
  · replace h := h.2 c
    refine G_aload_n 0 rfl rfl (ck dc205 (i := 24) rfl) ?_
    refine H_getR mf205 (ck dc205 (i := 25) rfl) fw_Model_53 fc11_16 ly52 ra52 rf52_16 (by decide) ?_
    refine G_iload_n 3 rfl rfl (ck dc205 (i := 26) rfl) ?_
    obtain ⟨o3, h⟩ := h
    refine H_iald (ck dc205 (i := 27) rfl) ly63 (by decide) ra63 o3 (x := (M 63 l3)) rfl ?_
    refine G_istore (L' := [(4, .inl (M 63 l3)), (0, .inr (.inr 52)), (1, .inl l1), (2, .inl l2), (3, .inl l3)]) (mfx.lt mf205 (Nat.le_of_ble_eq_true rfl)) rfl (ck dc205 (i := 28) rfl) ?_
    refine G_aload_n 1 rfl rfl (ck dc205 (i := 29) rfl) ?_
    refine H_getR mf205 (ck dc205 (i := 30) rfl) fw_Model_56 fc11_18 ly52 ra52 rf52_18 (by decide) ?_
    refine G_iconst (ck dc205 (i := 31) rfl) ?_
    refine G_iload_n 2 rfl rfl (ck dc205 (i := 32) rfl) ?_
    refine G_imul (ck dc205 (i := 33) rfl) ?_
    refine G_iload_n 4 rfl rfl (ck dc205 (i := 34) rfl) ?_
    refine G_iadd (ck dc205 (i := 35) rfl) ?_
    refine G_iload_n 2 rfl rfl (ck dc205 (i := 36) rfl) ?_
    refine G_iload_n 4 rfl rfl (ck dc205 (i := 37) rfl) ?_
    obtain ⟨o4, h⟩ := h
    refine G_icmp_ne (tgt := 79) (by decide) o4 o1 (ck dc205 (i := 38) rfl) (fun c => ?_) (fun c => ?_)
    · replace h := h.1 c
      refine G_aload_n 1 rfl rfl (ck dc205 (i := 50) rfl) ?_
      refine H_getR mf205 (ck dc205 (i := 51) rfl) fw_Model_5 fc11_3 ly52 ra52 rf52_3 (by decide) ?_
      refine G_iconst (ck dc205 (i := 52) rfl) ?_
      refine H_iald (ck dc205 (i := 53) rfl) ly55 (by decide) ra55 (by decide) (x := (M 55 2)) rfl ?_
      obtain ⟨o5, h⟩ := h
      refine G_i2l o5 (ck dc205 (i := 54) rfl) ?_
      refine G_lneg (ck dc205 (i := 55) rfl) ?_
      refine G_aload_n 1 rfl rfl (ck dc205 (i := 56) rfl) ?_
      refine G_iload 0 rfl (ck dc205 (i := 57) rfl) ?_
      refine G_iload_n 3 rfl rfl (ck dc205 (i := 58) rfl) ?_
      refine G_aload_n 1 rfl rfl (ck dc205 (i := 59) rfl) ?_
      refine H_getR mf205 (ck dc205 (i := 60) rfl) fw_Model_50 fc11_15 ly52 ra52 rf52_15 (by decide) ?_
      refine G_iload 0 rfl (ck dc205 (i := 61) rfl) ?_
      obtain ⟨o6, h⟩ := h
      refine H_iald (ck dc205 (i := 62) rfl) ly62 (by decide) ra62 o6 (x := (M 62 (M 63 l3))) rfl ?_
      refine H_vI mf205 (As := [.inl (M 63 l3), .inl l2, .inl (M 62 (M 63 l3))]) (st := [.inr (.inl (-(M 55 2))), .inl ((5 * l1) + l3), .inr (.inr 64)]) (ck dc205 (i := 63) rfl) lk_Model_103 rfl rfl (Nat.le_of_ble_eq_true rfl) ly52 ra52 ⟨Nat.le_refl _, Nat.le_refl _⟩ h (fun r7 M8 h => ?_)
      obtain ⟨o9, h⟩ := h
      refine G_i2l o9 (ck dc205 (i := 64) rfl) ?_
      refine G_lmul (ck dc205 (i := 65) rfl) ?_
      obtain ⟨o10, h⟩ := h
      refine G_last (ck dc205 (i := 66) rfl) ra64 ly64 (by decide) o10 ?_
      refine G_iinc (L' := [(3, .inl (l3 + 1)), (4, .inl (M 63 l3)), (0, .inr (.inr 52)), (1, .inl l1), (2, .inl l2)]) 4 rfl (mfx.lt mf205 (Nat.le_of_ble_eq_true rfl)) rfl (ck dc205 (i := 67) rfl) ?_
      refine G_goto (tgt := 30) (by decide) (ck dc205 (i := 68) rfl) ?_
      exact G_sub [2, 3, 4, 0] rfl h
    · replace h := h.2 c
      refine H_ldc2 mf205 (v := 10) (ck dc205 (i := 39) rfl) kl_Model_90 ?_
      refine G_aload_n 1 rfl rfl (ck dc205 (i := 40) rfl) ?_
      refine G_iload_n 3 rfl rfl (ck dc205 (i := 41) rfl) ?_
      refine G_aload_n 1 rfl rfl (ck dc205 (i := 42) rfl) ?_
      refine H_getR mf205 (ck dc205 (i := 43) rfl) fw_Model_50 fc11_15 ly52 ra52 rf52_15 (by decide) ?_
      refine G_iload_n 3 rfl rfl (ck dc205 (i := 44) rfl) ?_
      obtain ⟨o11, h⟩ := h
      refine H_iald (ck dc205 (i := 45) rfl) ly62 (by decide) ra62 o11 (x := (M 62 l2)) rfl ?_
      refine H_vI mf205 (As := [.inl l2, .inl (M 62 l2)]) (st := [.inr (.inl 10), .inl ((5 * l1) + l3), .inr (.inr 64)]) (ck dc205 (i := 46) rfl) lk_Model_106 rfl rfl (Nat.le_of_ble_eq_true rfl) ly52 ra52 ⟨Nat.le_refl _, Nat.le_refl _⟩ h (fun r12 M13 h => ?_)
      obtain ⟨o14, h⟩ := h
      refine G_i2l o14 (ck dc205 (i := 47) rfl) ?_
      refine G_lmul (ck dc205 (i := 48) rfl) ?_
      refine G_goto (tgt := 103) (by decide) (ck dc205 (i := 49) rfl) ?_
      obtain ⟨o15, h⟩ := h
      refine G_last (ck dc205 (i := 66) rfl) ra64 ly64 (by decide) o15 ?_
      refine G_iinc (L' := [(3, .inl (l3 + 1)), (4, .inl (M 63 l3)), (0, .inr (.inr 52)), (1, .inl l1), (2, .inl l2)]) 4 rfl (mfx.lt mf205 (Nat.le_of_ble_eq_true rfl)) rfl (ck dc205 (i := 67) rfl) ?_
      refine G_goto (tgt := 30) (by decide) (ck dc205 (i := 68) rfl) ?_
      exact G_sub [2, 3, 4, 0] rfl h
theorem g_m_solves_138 (K : Nat) (l1 l2 : Int) (M : PM) (Q : Option PV → PM → Prop)
    (h : R32 l2 ∧ R32 (M 52 17) ∧ ((M 52 17) ≤ l2 → Q none M) ∧ (¬ (M 52 17) ≤ l2 → (0 ≤ l2 ∧ l2 < 5) ∧ Call K jModel_determinant [.inr (.inr 52), .inl 0, .inl l1, .inl l2] P0 P0 M (retL fun r4 M5 => (0 ≤ (M 63 l2) ∧ (M 63 l2) < 5) ∧ G none (K + 1) jModel_solves 138 [(0, .inr (.inr 52)), (1, .inl l1), (2, .inl (l2 + 1))] [] P0 P0 (mset M5 66 (M 63 l2) r4) Q))) : G none (K + 1) jModel_solves 138 [(0, .inr (.inr 52)), (1, .inl l1), (2, .inl l2)] [] P0 P0 M Q := by
  refine G_iload_n 2 rfl rfl (ck dc205 (i := 87) rfl) ?_
  refine G_aload_n 0 rfl rfl (ck dc205 (i := 88) rfl) ?_
  refine H_getI mf205 (ck dc205 (i := 89) rfl) fw_Model_158 (Or.inl fc11_17) ly52 ra52 (x := (M 52 17)) rfl ?_
  obtain ⟨o1, h⟩ := h
  obtain ⟨o2, h⟩ := h
  refine G_icmp_ge (tgt := 170) (by decide) o1 o2 (ck dc205 (i := 90) rfl) (fun c => ?_) (fun c => ?_)
  · replace h := h.1 c
    exact H_vret mf205 (ck dc205 (i := 105) rfl) rfl h
  · replace h := h.2 c
    refine G_aload_n 0 rfl rfl (ck dc205 (i := 91) rfl) ?_
    refine H_getR mf205 (ck dc205 (i := 92) rfl) fw_Model_62 fc11_20 ly52 ra52 rf52_20 (by decide) ?_
    refine G_aload_n 0 rfl rfl (ck dc205 (i := 93) rfl) ?_
    refine H_getR mf205 (ck dc205 (i := 94) rfl) fw_Model_53 fc11_16 ly52 ra52 rf52_16 (by decide) ?_
    refine G_iload_n 2 rfl rfl (ck dc205 (i := 95) rfl) ?_
    obtain ⟨o3, h⟩ := h
    refine H_iald (ck dc205 (i := 96) rfl) ly63 (by decide) ra63 o3 (x := (M 63 l2)) rfl ?_
    refine G_aload_n 0 rfl rfl (ck dc205 (i := 97) rfl) ?_
    refine G_iconst (ck dc205 (i := 98) rfl) ?_
    refine G_iload_n 1 rfl rfl (ck dc205 (i := 99) rfl) ?_
    refine G_iload_n 2 rfl rfl (ck dc205 (i := 100) rfl) ?_
    refine H_vL mf205 (As := [.inl 0, .inl l1, .inl l2]) (st := [.inl (M 63 l2), .inr (.inr 66)]) (ck dc205 (i := 101) rfl) lk_Model_164 rfl rfl (Nat.le_of_ble_eq_true rfl) ly52 ra52 ⟨Nat.le_refl _, Nat.le_refl _⟩ h (fun r4 M5 h => ?_)
    obtain ⟨o6, h⟩ := h
    refine G_last (ck dc205 (i := 102) rfl) ra66 ly66 (by decide) o6 ?_
    refine G_iinc (L' := [(2, .inl (l2 + 1)), (0, .inr (.inr 52)), (1, .inl l1)]) 2 rfl (mfx.lt mf205 (Nat.le_of_ble_eq_true rfl)) rfl (ck dc205 (i := 103) rfl) ?_
    refine G_goto (tgt := 138) (by decide) (ck dc205 (i := 104) rfl) ?_
    exact G_sub [1, 2, 0] rfl h
theorem c_m_opens (K : Nat) (M : PM) (Q : Option PV → PM → Prop)
    (h : G none (K + 1) jModel_opens 12 [(0, .inr (.inr 52)), (1, .inl (-1))] [] P0 P0 (mset (mset M 52 17 0) 52 21 1) Q) : Call (K + 1) jModel_opens [.inr (.inr 52)] P0 P0 M Q := by
  refine Call.intro (by decide +kernel) (mfx.le mf199 (Nat.le_of_ble_eq_true rfl)) (Nat.le_refl _) rfl ?_
  refine G_aload_n 0 rfl rfl (ck dc199 (i := 0) rfl) ?_
  refine G_iconst (ck dc199 (i := 1) rfl) ?_
  refine H_putI mf199 (ck dc199 (i := 2) rfl) fw_Model_158 fc11_17 ly52 ra52 (Or.inl rfl) ?_
  refine G_aload_n 0 rfl rfl (ck dc199 (i := 3) rfl) ?_
  refine G_lconst (v := 1) rfl (ck dc199 (i := 4) rfl) ?_
  refine H_putL mf199 (ck dc199 (i := 5) rfl) fw_Model_172 fc11_21 ly52 ra52 (Or.inl rfl) ?_
  refine G_iconst (ck dc199 (i := 6) rfl) ?_
  refine G_istore_n (L' := [(1, .inl (-1)), (0, .inr (.inr 52))]) rfl (mfx.lt mf199 (Nat.le_of_ble_eq_true rfl)) rfl (ck dc199 (i := 7) rfl) ?_
  exact G_sub [1, 0] rfl h
theorem g_m_opens_12 (K : Nat) (l1 : Int) (M : PM) (Q : Option PV → PM → Prop)
    (h : R32 (M 52 17) ∧ R32 l1 ∧ ((M 52 17) ≤ l1 → Q none M) ∧ (¬ (M 52 17) ≤ l1 → G none (K + 1) jModel_opens 29 [(0, .inr (.inr 52)), (1, .inl (M 52 17)), (2, .inl 0), (3, .inl 0)] [] P0 P0 M Q)) : G none (K + 1) jModel_opens 12 [(0, .inr (.inr 52)), (1, .inl l1)] [] P0 P0 M Q := by
  refine G_aload_n 0 rfl rfl (ck dc199 (i := 8) rfl) ?_
  refine H_getI mf199 (ck dc199 (i := 9) rfl) fw_Model_158 (Or.inl fc11_17) ly52 ra52 (x := (M 52 17)) rfl ?_
  refine G_iload_n 1 rfl rfl (ck dc199 (i := 10) rfl) ?_
  obtain ⟨o1, h⟩ := h
  obtain ⟨o2, h⟩ := h
  refine G_icmp_le (tgt := 147) (by decide) o1 o2 (ck dc199 (i := 11) rfl) (fun c => ?_) (fun c => ?_)
  · replace h := h.1 c
    exact H_vret mf199 (ck dc199 (i := 85) rfl) rfl h
  · replace h := h.2 c
    refine G_aload_n 0 rfl rfl (ck dc199 (i := 12) rfl) ?_
    refine H_getI mf199 (ck dc199 (i := 13) rfl) fw_Model_158 (Or.inl fc11_17) ly52 ra52 (x := (M 52 17)) rfl ?_
    refine G_istore_n (L' := [(1, .inl (M 52 17)), (0, .inr (.inr 52))]) rfl (mfx.lt mf199 (Nat.le_of_ble_eq_true rfl)) rfl (ck dc199 (i := 14) rfl) ?_
    refine G_iconst (ck dc199 (i := 15) rfl) ?_
    refine G_istore_n (L' := [(2, .inl 0), (1, .inl (M 52 17)), (0, .inr (.inr 52))]) rfl (mfx.lt mf199 (Nat.le_of_ble_eq_true rfl)) rfl (ck dc199 (i := 16) rfl) ?_
    refine G_iconst (ck dc199 (i := 17) rfl) ?_
    refine G_istore_n (L' := [(3, .inl 0), (2, .inl 0), (1, .inl (M 52 17)), (0, .inr (.inr 52))]) rfl (mfx.lt mf199 (Nat.le_of_ble_eq_true rfl)) rfl (ck dc199 (i := 18) rfl) ?_
    exact G_sub [3, 2, 1, 0] rfl h
set_option maxHeartbeats 20000000 in
theorem g_m_opens_29 (K : Nat) (l1 l2 l3 : Int) (M : PM) (Q : Option PV → PM → Prop)
    (h : R32 l3 ∧ R32 (M 55 0) ∧ ((M 55 0) ≤ l3 → G none (K + 1) jModel_opens 96 [(0, .inr (.inr 52)), (1, .inl l1), (2, .inl l2), (3, .inl 0)] [] P0 P0 M Q) ∧ (¬ (M 55 0) ≤ l3 → Call K jModel_isIn [.inl (M 52 13), .inl l3] P0 P0 M (retI fun r3 M4 => R32 r3 ∧ (r3 = 0 → G none (K + 1) jModel_opens 29 [(0, .inr (.inr 52)), (1, .inl l1), (2, .inl (bOr l2 0)), (3, .inl (l3 + 1))] [] P0 P0 M4 Q) ∧ (¬ r3 = 0 → (0 ≤ l3 ∧ l3 < 5) ∧ R32 (M4 62 l3) ∧ (3 ≤ (M4 62 l3) → G none (K + 1) jModel_opens 29 [(0, .inr (.inr 52)), (1, .inl l1), (2, .inl (bOr l2 0)), (3, .inl (l3 + 1))] [] P0 P0 M4 Q) ∧ (¬ 3 ≤ (M4 62 l3) → Call K jModel_isOpen [.inr (.inr 52), .inl l3] P0 P0 M4 (retI fun r8 M9 => R32 r8 ∧ (¬ r8 = 0 → G none (K + 1) jModel_opens 29 [(0, .inr (.inr 52)), (1, .inl l1), (2, .inl (bOr l2 0)), (3, .inl (l3 + 1))] [] P0 P0 M9 Q) ∧ (r8 = 0 → Call K jModel_beyondAll [.inr (.inr 52), .inl l3] P0 P0 M9 (retL fun r11 M12 => R64 r11 ∧ (r11 ≤ 0 → G none (K + 1) jModel_opens 29 [(0, .inr (.inr 52)), (1, .inl l1), (2, .inl (bOr l2 0)), (3, .inl (l3 + 1))] [] P0 P0 M12 Q) ∧ (¬ r11 ≤ 0 → G none (K + 1) jModel_opens 29 [(0, .inr (.inr 52)), (1, .inl l1), (2, .inl (bOr l2 (bShl 1 l3))), (3, .inl (l3 + 1))] [] P0 P0 M12 Q))))))))) : G none (K + 1) jModel_opens 29 [(0, .inr (.inr 52)), (1, .inl l1), (2, .inl l2), (3, .inl l3)] [] P0 P0 M Q := by
  refine G_iload_n 3 rfl rfl (ck dc199 (i := 19) rfl) ?_
  refine G_aload_n 0 rfl rfl (ck dc199 (i := 20) rfl) ?_
  refine H_getR mf199 (ck dc199 (i := 21) rfl) fw_Model_5 fc11_3 ly52 ra52 rf52_3 (by decide) ?_
  refine G_iconst (ck dc199 (i := 22) rfl) ?_
  refine H_iald (ck dc199 (i := 23) rfl) ly55 (by decide) ra55 (by decide) (x := (M 55 0)) rfl ?_
  obtain ⟨o1, h⟩ := h
  obtain ⟨o2, h⟩ := h
  refine G_icmp_ge (tgt := 94) (by decide) o1 o2 (ck dc199 (i := 24) rfl) (fun c => ?_) (fun c => ?_)
  · replace h := h.1 c
    refine G_iconst (ck dc199 (i := 56) rfl) ?_
    refine G_istore_n (L' := [(3, .inl 0), (0, .inr (.inr 52)), (1, .inl l1), (2, .inl l2)]) rfl (mfx.lt mf199 (Nat.le_of_ble_eq_true rfl)) rfl (ck dc199 (i := 57) rfl) ?_
    exact G_sub [1, 2, 3, 0] rfl h
  · replace h := h.2 c
    refine G_iload_n 2 rfl rfl (ck dc199 (i := 25) rfl) ?_
    refine G_aload_n 0 rfl rfl (ck dc199 (i := 26) rfl) ?_
    refine H_getI mf199 (ck dc199 (i := 27) rfl) fw_Model_176 (Or.inl fc11_13) ly52 ra52 (x := (M 52 13)) rfl ?_
    refine G_iload_n 3 rfl rfl (ck dc199 (i := 28) rfl) ?_
    refine H_sZ mf199 (As := [.inl (M 52 13), .inl l3]) (st := [.inl l2]) (ck dc199 (i := 29) rfl) lk_Model_161 rfl rfl (Nat.le_of_ble_eq_true rfl) ⟨Nat.le_refl _, Nat.le_refl _⟩ h (fun r3 M4 h => ?_)
    obtain ⟨o5, h⟩ := h
    refine G_if_eq (tgt := 85) (by decide) o5 (ck dc199 (i := 30) rfl) (fun c => ?_) (fun c => ?_)
    · replace h := h.1 c
      refine G_iconst (ck dc199 (i := 51) rfl) ?_
      refine G_ior (ck dc199 (i := 52) rfl) ?_
      refine G_istore_n (L' := [(2, .inl (bOr l2 0)), (0, .inr (.inr 52)), (1, .inl l1), (3, .inl l3)]) rfl (mfx.lt mf199 (Nat.le_of_ble_eq_true rfl)) rfl (ck dc199 (i := 53) rfl) ?_
      refine G_iinc (L' := [(3, .inl (l3 + 1)), (2, .inl (bOr l2 0)), (0, .inr (.inr 52)), (1, .inl l1)]) 3 rfl (mfx.lt mf199 (Nat.le_of_ble_eq_true rfl)) rfl (ck dc199 (i := 54) rfl) ?_
      refine G_goto (tgt := 29) (by decide) (ck dc199 (i := 55) rfl) ?_
      exact G_sub [2, 3, 1, 0] rfl h
    · replace h := h.2 c
      refine G_aload_n 0 rfl rfl (ck dc199 (i := 31) rfl) ?_
      refine H_getR mf199 (ck dc199 (i := 32) rfl) fw_Model_50 fc11_15 ly52 ra52 rf52_15 (by decide) ?_
      refine G_iload_n 3 rfl rfl (ck dc199 (i := 33) rfl) ?_
      obtain ⟨o6, h⟩ := h
      refine H_iald (ck dc199 (i := 34) rfl) ly62 (by decide) ra62 o6 (x := (M4 62 l3)) rfl ?_
      refine G_iconst (ck dc199 (i := 35) rfl) ?_
      obtain ⟨o7, h⟩ := h
      refine G_icmp_ge (tgt := 85) (by decide) o7 (by decide) (ck dc199 (i := 36) rfl) (fun c => ?_) (fun c => ?_)
      · replace h := h.1 c
        refine G_iconst (ck dc199 (i := 51) rfl) ?_
        refine G_ior (ck dc199 (i := 52) rfl) ?_
        refine G_istore_n (L' := [(2, .inl (bOr l2 0)), (0, .inr (.inr 52)), (1, .inl l1), (3, .inl l3)]) rfl (mfx.lt mf199 (Nat.le_of_ble_eq_true rfl)) rfl (ck dc199 (i := 53) rfl) ?_
        refine G_iinc (L' := [(3, .inl (l3 + 1)), (2, .inl (bOr l2 0)), (0, .inr (.inr 52)), (1, .inl l1)]) 3 rfl (mfx.lt mf199 (Nat.le_of_ble_eq_true rfl)) rfl (ck dc199 (i := 54) rfl) ?_
        refine G_goto (tgt := 29) (by decide) (ck dc199 (i := 55) rfl) ?_
        exact G_sub [2, 3, 1, 0] rfl h
      · replace h := h.2 c
        refine G_aload_n 0 rfl rfl (ck dc199 (i := 37) rfl) ?_
        refine G_iload_n 3 rfl rfl (ck dc199 (i := 38) rfl) ?_
        refine H_vZ mf199 (As := [.inl l3]) (st := [.inl l2]) (ck dc199 (i := 39) rfl) lk_Model_179 rfl rfl (Nat.le_of_ble_eq_true rfl) ly52 ra52 ⟨Nat.le_refl _, Nat.le_refl _⟩ h (fun r8 M9 h => ?_)
        obtain ⟨o10, h⟩ := h
        refine G_if_ne (tgt := 85) (by decide) o10 (ck dc199 (i := 40) rfl) (fun c => ?_) (fun c => ?_)
        · replace h := h.1 c
          refine G_iconst (ck dc199 (i := 51) rfl) ?_
          refine G_ior (ck dc199 (i := 52) rfl) ?_
          refine G_istore_n (L' := [(2, .inl (bOr l2 0)), (0, .inr (.inr 52)), (1, .inl l1), (3, .inl l3)]) rfl (mfx.lt mf199 (Nat.le_of_ble_eq_true rfl)) rfl (ck dc199 (i := 53) rfl) ?_
          refine G_iinc (L' := [(3, .inl (l3 + 1)), (2, .inl (bOr l2 0)), (0, .inr (.inr 52)), (1, .inl l1)]) 3 rfl (mfx.lt mf199 (Nat.le_of_ble_eq_true rfl)) rfl (ck dc199 (i := 54) rfl) ?_
          refine G_goto (tgt := 29) (by decide) (ck dc199 (i := 55) rfl) ?_
          exact G_sub [2, 3, 1, 0] rfl h
        · replace h := h.2 c
          refine G_aload_n 0 rfl rfl (ck dc199 (i := 41) rfl) ?_
          refine G_iload_n 3 rfl rfl (ck dc199 (i := 42) rfl) ?_
          refine H_vL mf199 (As := [.inl l3]) (st := [.inl l2]) (ck dc199 (i := 43) rfl) lk_Model_182 rfl rfl (Nat.le_of_ble_eq_true rfl) ly52 ra52 ⟨Nat.le_refl _, Nat.le_refl _⟩ h (fun r11 M12 h => ?_)
          refine G_lconst (v := 0) rfl (ck dc199 (i := 44) rfl) ?_
          obtain ⟨o13, h⟩ := h
          refine G_lif_le (tgt := 85) (ck dc199 (i := 46) rfl) (by decide) o13 (by decide) (ck dc199 (i := 45) rfl) (fun c => ?_) (fun c => ?_)
          · replace h := h.1 c
            refine G_iconst (ck dc199 (i := 51) rfl) ?_
            refine G_ior (ck dc199 (i := 52) rfl) ?_
            refine G_istore_n (L' := [(2, .inl (bOr l2 0)), (0, .inr (.inr 52)), (1, .inl l1), (3, .inl l3)]) rfl (mfx.lt mf199 (Nat.le_of_ble_eq_true rfl)) rfl (ck dc199 (i := 53) rfl) ?_
            refine G_iinc (L' := [(3, .inl (l3 + 1)), (2, .inl (bOr l2 0)), (0, .inr (.inr 52)), (1, .inl l1)]) 3 rfl (mfx.lt mf199 (Nat.le_of_ble_eq_true rfl)) rfl (ck dc199 (i := 54) rfl) ?_
            refine G_goto (tgt := 29) (by decide) (ck dc199 (i := 55) rfl) ?_
            exact G_sub [2, 3, 1, 0] rfl h
          · replace h := h.2 c
            refine G_iconst (ck dc199 (i := 47) rfl) ?_
            refine G_iload_n 3 rfl rfl (ck dc199 (i := 48) rfl) ?_
            refine G_ishl (ck dc199 (i := 49) rfl) ?_
            refine G_goto (tgt := 86) (by decide) (ck dc199 (i := 50) rfl) ?_
            refine G_ior (ck dc199 (i := 52) rfl) ?_
            refine G_istore_n (L' := [(2, .inl (bOr l2 (bShl 1 l3))), (0, .inr (.inr 52)), (1, .inl l1), (3, .inl l3)]) rfl (mfx.lt mf199 (Nat.le_of_ble_eq_true rfl)) rfl (ck dc199 (i := 53) rfl) ?_
            refine G_iinc (L' := [(3, .inl (l3 + 1)), (2, .inl (bOr l2 (bShl 1 l3))), (0, .inr (.inr 52)), (1, .inl l1)]) 3 rfl (mfx.lt mf199 (Nat.le_of_ble_eq_true rfl)) rfl (ck dc199 (i := 54) rfl) ?_
            refine G_goto (tgt := 29) (by decide) (ck dc199 (i := 55) rfl) ?_
            exact G_sub [2, 3, 1, 0] rfl h
theorem g_m_opens_96 (K : Nat) (l1 l2 l3 : Int) (M : PM) (Q : Option PV → PM → Prop)
    (h : R32 l3 ∧ R32 (M 55 0) ∧ ((M 55 0) ≤ l3 → Call K jModel_solves [.inr (.inr 52)] P0 P0 M (retV fun M4 => G none (K + 1) jModel_opens 12 [(0, .inr (.inr 52)), (1, .inl l1)] [] P0 P0 M4 Q)) ∧ (¬ (M 55 0) ≤ l3 → Call K jModel_isIn [.inl l2, .inl l3] P0 P0 M (retI fun r5 M6 => R32 r5 ∧ (r5 = 0 → G none (K + 1) jModel_opens 96 [(0, .inr (.inr 52)), (1, .inl l1), (2, .inl l2), (3, .inl (l3 + 1))] [] P0 P0 M6 Q) ∧ (¬ r5 = 0 → (0 ≤ (M6 52 17) ∧ (M6 52 17) < 5) ∧ G none (K + 1) jModel_opens 96 [(0, .inr (.inr 52)), (1, .inl l1), (2, .inl l2), (3, .inl (l3 + 1))] [] P0 P0 (mset (mset M6 63 (M6 52 17) l3) 52 17 ((M6 52 17) + 1)) Q)))) : G none (K + 1) jModel_opens 96 [(0, .inr (.inr 52)), (1, .inl l1), (2, .inl l2), (3, .inl l3)] [] P0 P0 M Q := by
  refine G_iload_n 3 rfl rfl (ck dc199 (i := 58) rfl) ?_
  refine G_aload_n 0 rfl rfl (ck dc199 (i := 59) rfl) ?_
  refine H_getR mf199 (ck dc199 (i := 60) rfl) fw_Model_5 fc11_3 ly52 ra52 rf52_3 (by decide) ?_
  refine G_iconst (ck dc199 (i := 61) rfl) ?_
  refine H_iald (ck dc199 (i := 62) rfl) ly55 (by decide) ra55 (by decide) (x := (M 55 0)) rfl ?_
  obtain ⟨o1, h⟩ := h
  obtain ⟨o2, h⟩ := h
  refine G_icmp_ge (tgt := 140) (by decide) o1 o2 (ck dc199 (i := 63) rfl) (fun c => ?_) (fun c => ?_)
  · replace h := h.1 c
    refine G_aload_n 0 rfl rfl (ck dc199 (i := 82) rfl) ?_
    refine H_vV mf199 (As := []) (st := []) (ck dc199 (i := 83) rfl) lk_Model_185 rfl rfl (Nat.le_of_ble_eq_true rfl) ly52 ra52 ⟨Nat.le_refl _, Nat.le_refl _⟩ h (fun M4 h => ?_)
    refine G_goto (tgt := 12) (by decide) (ck dc199 (i := 84) rfl) ?_
    exact G_sub [0, 1] rfl h
  · replace h := h.2 c
    refine G_iload_n 2 rfl rfl (ck dc199 (i := 64) rfl) ?_
    refine G_iload_n 3 rfl rfl (ck dc199 (i := 65) rfl) ?_
    refine H_sZ mf199 (As := [.inl l2, .inl l3]) (st := []) (ck dc199 (i := 66) rfl) lk_Model_161 rfl rfl (Nat.le_of_ble_eq_true rfl) ⟨Nat.le_refl _, Nat.le_refl _⟩ h (fun r5 M6 h => ?_)
    obtain ⟨o7, h⟩ := h
    refine G_if_eq (tgt := 134) (by decide) o7 (ck dc199 (i := 67) rfl) (fun c => ?_) (fun c => ?_)
    · replace h := h.1 c
      refine G_iinc (L' := [(3, .inl (l3 + 1)), (0, .inr (.inr 52)), (1, .inl l1), (2, .inl l2)]) 3 rfl (mfx.lt mf199 (Nat.le_of_ble_eq_true rfl)) rfl (ck dc199 (i := 80) rfl) ?_
      refine G_goto (tgt := 96) (by decide) (ck dc199 (i := 81) rfl) ?_
      exact G_sub [1, 2, 3, 0] rfl h
    · replace h := h.2 c
      refine G_aload_n 0 rfl rfl (ck dc199 (i := 68) rfl) ?_
      refine H_getR mf199 (ck dc199 (i := 69) rfl) fw_Model_53 fc11_16 ly52 ra52 rf52_16 (by decide) ?_
      refine G_aload_n 0 rfl rfl (ck dc199 (i := 70) rfl) ?_
      refine H_getI mf199 (ck dc199 (i := 71) rfl) fw_Model_158 (Or.inl fc11_17) ly52 ra52 (x := (M6 52 17)) rfl ?_
      refine G_iload_n 3 rfl rfl (ck dc199 (i := 72) rfl) ?_
      obtain ⟨o8, h⟩ := h
      refine G_iast (ck dc199 (i := 73) rfl) ra63 ly63 (by decide) o8 ?_
      refine G_aload_n 0 rfl rfl (ck dc199 (i := 74) rfl) ?_
      refine G_dup rfl (ck dc199 (i := 75) rfl) ?_
      refine H_getI mf199 (ck dc199 (i := 76) rfl) fw_Model_158 (Or.inl fc11_17) ly52 ra52 (x := (M6 52 17)) (by simp [mset, mcpy, mclr]) ?_
      refine G_iconst (ck dc199 (i := 77) rfl) ?_
      refine G_iadd (ck dc199 (i := 78) rfl) ?_
      refine H_putI mf199 (ck dc199 (i := 79) rfl) fw_Model_158 fc11_17 ly52 ra52 (Or.inl rfl) ?_
      refine G_iinc (L' := [(3, .inl (l3 + 1)), (0, .inr (.inr 52)), (1, .inl l1), (2, .inl l2)]) 3 rfl (mfx.lt mf199 (Nat.le_of_ble_eq_true rfl)) rfl (ck dc199 (i := 80) rfl) ?_
      refine G_goto (tgt := 96) (by decide) (ck dc199 (i := 81) rfl) ?_
      exact G_sub [1, 2, 3, 0] rfl h
theorem c_m_endsEarlier (K : Nat) (M : PM) (Q : Option PV → PM → Prop)
    (h : G none (K + 1) jModel_endsEarlier 4 [(0, .inr (.inr 52)), (1, .inl 0), (2, .inl 0)] [] P0 P0 M Q) : Call (K + 1) jModel_endsEarlier [.inr (.inr 52)] P0 P0 M Q := by
  refine Call.intro (by decide +kernel) (mfx.le mf207 (Nat.le_of_ble_eq_true rfl)) (Nat.le_refl _) rfl ?_
  refine G_iconst (ck dc207 (i := 0) rfl) ?_
  refine G_istore_n (L' := [(1, .inl 0), (0, .inr (.inr 52))]) rfl (mfx.lt mf207 (Nat.le_of_ble_eq_true rfl)) rfl (ck dc207 (i := 1) rfl) ?_
  refine G_iconst (ck dc207 (i := 2) rfl) ?_
  refine G_istore_n (L' := [(2, .inl 0), (1, .inl 0), (0, .inr (.inr 52))]) rfl (mfx.lt mf207 (Nat.le_of_ble_eq_true rfl)) rfl (ck dc207 (i := 3) rfl) ?_
  exact G_sub [2, 1, 0] rfl h
set_option maxHeartbeats 20000000 in
theorem g_m_endsEarlier_4 (K : Nat) (l1 l2 : Int) (M : PM) (Q : Option PV → PM → Prop)
    (h : R32 l2 ∧ R32 (M 55 0) ∧ ((M 55 0) ≤ l2 → G none (K + 1) jModel_endsEarlier 61 [(0, .inr (.inr 52)), (1, .inl l1), (2, .inl 0)] [] P0 P0 M Q) ∧ (¬ (M 55 0) ≤ l2 → Call K jModel_isIn [.inl (M 52 13), .inl l2] P0 P0 M (retI fun r3 M4 => R32 r3 ∧ (r3 = 0 → G none (K + 1) jModel_endsEarlier 4 [(0, .inr (.inr 52)), (1, .inl (bOr l1 0)), (2, .inl (l2 + 1))] [] P0 P0 M4 Q) ∧ (¬ r3 = 0 → Call K jModel_isOpen [.inr (.inr 52), .inl l2] P0 P0 M4 (retI fun r6 M7 => R32 r6 ∧ (¬ r6 = 0 → G none (K + 1) jModel_endsEarlier 4 [(0, .inr (.inr 52)), (1, .inl (bOr l1 0)), (2, .inl (l2 + 1))] [] P0 P0 M7 Q) ∧ (r6 = 0 → Call K jModel_beyondAll [.inr (.inr 52), .inl l2] P0 P0 M7 (retL fun r9 M10 => R64 r9 ∧ (0 ≤ r9 → G none (K + 1) jModel_endsEarlier 4 [(0, .inr (.inr 52)), (1, .inl (bOr l1 0)), (2, .inl (l2 + 1))] [] P0 P0 M10 Q) ∧ (¬ 0 ≤ r9 → G none (K + 1) jModel_endsEarlier 4 [(0, .inr (.inr 52)), (1, .inl (bOr l1 (bShl 1 l2))), (2, .inl (l2 + 1))] [] P0 P0 M10 Q)))))))) : G none (K + 1) jModel_endsEarlier 4 [(0, .inr (.inr 52)), (1, .inl l1), (2, .inl l2)] [] P0 P0 M Q := by
  refine G_iload_n 2 rfl rfl (ck dc207 (i := 4) rfl) ?_
  refine G_aload_n 0 rfl rfl (ck dc207 (i := 5) rfl) ?_
  refine H_getR mf207 (ck dc207 (i := 6) rfl) fw_Model_5 fc11_3 ly52 ra52 rf52_3 (by decide) ?_
  refine G_iconst (ck dc207 (i := 7) rfl) ?_
  refine H_iald (ck dc207 (i := 8) rfl) ly55 (by decide) ra55 (by decide) (x := (M 55 0)) rfl ?_
  obtain ⟨o1, h⟩ := h
  obtain ⟨o2, h⟩ := h
  refine G_icmp_ge (tgt := 59) (by decide) o1 o2 (ck dc207 (i := 9) rfl) (fun c => ?_) (fun c => ?_)
  · replace h := h.1 c
    refine G_iconst (ck dc207 (i := 35) rfl) ?_
    refine G_istore_n (L' := [(2, .inl 0), (0, .inr (.inr 52)), (1, .inl l1)]) rfl (mfx.lt mf207 (Nat.le_of_ble_eq_true rfl)) rfl (ck dc207 (i := 36) rfl) ?_
    exact G_sub [1, 2, 0] rfl h
  · replace h := h.2 c
    refine G_iload_n 1 rfl rfl (ck dc207 (i := 10) rfl) ?_
    refine G_aload_n 0 rfl rfl (ck dc207 (i := 11) rfl) ?_
    refine H_getI mf207 (ck dc207 (i := 12) rfl) fw_Model_176 (Or.inl fc11_13) ly52 ra52 (x := (M 52 13)) rfl ?_
    refine G_iload_n 2 rfl rfl (ck dc207 (i := 13) rfl) ?_
    refine H_sZ mf207 (As := [.inl (M 52 13), .inl l2]) (st := [.inl l1]) (ck dc207 (i := 14) rfl) lk_Model_161 rfl rfl (Nat.le_of_ble_eq_true rfl) ⟨Nat.le_refl _, Nat.le_refl _⟩ h (fun r3 M4 h => ?_)
    obtain ⟨o5, h⟩ := h
    refine G_if_eq (tgt := 50) (by decide) o5 (ck dc207 (i := 15) rfl) (fun c => ?_) (fun c => ?_)
    · replace h := h.1 c
      refine G_iconst (ck dc207 (i := 30) rfl) ?_
      refine G_ior (ck dc207 (i := 31) rfl) ?_
      refine G_istore_n (L' := [(1, .inl (bOr l1 0)), (0, .inr (.inr 52)), (2, .inl l2)]) rfl (mfx.lt mf207 (Nat.le_of_ble_eq_true rfl)) rfl (ck dc207 (i := 32) rfl) ?_
      refine G_iinc (L' := [(2, .inl (l2 + 1)), (1, .inl (bOr l1 0)), (0, .inr (.inr 52))]) 2 rfl (mfx.lt mf207 (Nat.le_of_ble_eq_true rfl)) rfl (ck dc207 (i := 33) rfl) ?_
      refine G_goto (tgt := 4) (by decide) (ck dc207 (i := 34) rfl) ?_
      exact G_sub [2, 1, 0] rfl h
    · replace h := h.2 c
      refine G_aload_n 0 rfl rfl (ck dc207 (i := 16) rfl) ?_
      refine G_iload_n 2 rfl rfl (ck dc207 (i := 17) rfl) ?_
      refine H_vZ mf207 (As := [.inl l2]) (st := [.inl l1]) (ck dc207 (i := 18) rfl) lk_Model_179 rfl rfl (Nat.le_of_ble_eq_true rfl) ly52 ra52 ⟨Nat.le_refl _, Nat.le_refl _⟩ h (fun r6 M7 h => ?_)
      obtain ⟨o8, h⟩ := h
      refine G_if_ne (tgt := 50) (by decide) o8 (ck dc207 (i := 19) rfl) (fun c => ?_) (fun c => ?_)
      · replace h := h.1 c
        refine G_iconst (ck dc207 (i := 30) rfl) ?_
        refine G_ior (ck dc207 (i := 31) rfl) ?_
        refine G_istore_n (L' := [(1, .inl (bOr l1 0)), (0, .inr (.inr 52)), (2, .inl l2)]) rfl (mfx.lt mf207 (Nat.le_of_ble_eq_true rfl)) rfl (ck dc207 (i := 32) rfl) ?_
        refine G_iinc (L' := [(2, .inl (l2 + 1)), (1, .inl (bOr l1 0)), (0, .inr (.inr 52))]) 2 rfl (mfx.lt mf207 (Nat.le_of_ble_eq_true rfl)) rfl (ck dc207 (i := 33) rfl) ?_
        refine G_goto (tgt := 4) (by decide) (ck dc207 (i := 34) rfl) ?_
        exact G_sub [2, 1, 0] rfl h
      · replace h := h.2 c
        refine G_aload_n 0 rfl rfl (ck dc207 (i := 20) rfl) ?_
        refine G_iload_n 2 rfl rfl (ck dc207 (i := 21) rfl) ?_
        refine H_vL mf207 (As := [.inl l2]) (st := [.inl l1]) (ck dc207 (i := 22) rfl) lk_Model_182 rfl rfl (Nat.le_of_ble_eq_true rfl) ly52 ra52 ⟨Nat.le_refl _, Nat.le_refl _⟩ h (fun r9 M10 h => ?_)
        refine G_lconst (v := 0) rfl (ck dc207 (i := 23) rfl) ?_
        obtain ⟨o11, h⟩ := h
        refine G_lif_ge (tgt := 50) (ck dc207 (i := 25) rfl) (by decide) o11 (by decide) (ck dc207 (i := 24) rfl) (fun c => ?_) (fun c => ?_)
        · replace h := h.1 c
          refine G_iconst (ck dc207 (i := 30) rfl) ?_
          refine G_ior (ck dc207 (i := 31) rfl) ?_
          refine G_istore_n (L' := [(1, .inl (bOr l1 0)), (0, .inr (.inr 52)), (2, .inl l2)]) rfl (mfx.lt mf207 (Nat.le_of_ble_eq_true rfl)) rfl (ck dc207 (i := 32) rfl) ?_
          refine G_iinc (L' := [(2, .inl (l2 + 1)), (1, .inl (bOr l1 0)), (0, .inr (.inr 52))]) 2 rfl (mfx.lt mf207 (Nat.le_of_ble_eq_true rfl)) rfl (ck dc207 (i := 33) rfl) ?_
          refine G_goto (tgt := 4) (by decide) (ck dc207 (i := 34) rfl) ?_
          exact G_sub [2, 1, 0] rfl h
        · replace h := h.2 c
          refine G_iconst (ck dc207 (i := 26) rfl) ?_
          refine G_iload_n 2 rfl rfl (ck dc207 (i := 27) rfl) ?_
          refine G_ishl (ck dc207 (i := 28) rfl) ?_
          refine G_goto (tgt := 51) (by decide) (ck dc207 (i := 29) rfl) ?_
          refine G_ior (ck dc207 (i := 31) rfl) ?_
          refine G_istore_n (L' := [(1, .inl (bOr l1 (bShl 1 l2))), (0, .inr (.inr 52)), (2, .inl l2)]) rfl (mfx.lt mf207 (Nat.le_of_ble_eq_true rfl)) rfl (ck dc207 (i := 32) rfl) ?_
          refine G_iinc (L' := [(2, .inl (l2 + 1)), (1, .inl (bOr l1 (bShl 1 l2))), (0, .inr (.inr 52))]) 2 rfl (mfx.lt mf207 (Nat.le_of_ble_eq_true rfl)) rfl (ck dc207 (i := 33) rfl) ?_
          refine G_goto (tgt := 4) (by decide) (ck dc207 (i := 34) rfl) ?_
          exact G_sub [2, 1, 0] rfl h
theorem g_m_endsEarlier_61 (K : Nat) (l1 l2 : Int) (M : PM) (Q : Option PV → PM → Prop)
    (h : R32 l2 ∧ R32 (M 55 0) ∧ ((M 55 0) ≤ l2 → R32 l1 ∧ (l1 = 0 → Q (some (.inl 0)) M) ∧ (¬ l1 = 0 → Q (some (.inl 1)) M)) ∧ (¬ (M 55 0) ≤ l2 → Call K jModel_isIn [.inl l1, .inl l2] P0 P0 M (retI fun r4 M5 => R32 r4 ∧ (r4 = 0 → G none (K + 1) jModel_endsEarlier 61 [(0, .inr (.inr 52)), (1, .inl l1), (2, .inl (l2 + 1))] [] P0 P0 M5 Q) ∧ (¬ r4 = 0 → (0 ≤ l2 ∧ l2 < 5) ∧ G none (K + 1) jModel_endsEarlier 89 [(0, .inr (.inr 52)), (1, .inl l1), (2, .inl l2)] [] P0 P0 (mset M5 62 l2 ((M5 62 l2) - 1)) Q)))) : G none (K + 1) jModel_endsEarlier 61 [(0, .inr (.inr 52)), (1, .inl l1), (2, .inl l2)] [] P0 P0 M Q := by
  refine G_iload_n 2 rfl rfl (ck dc207 (i := 37) rfl) ?_
  refine G_aload_n 0 rfl rfl (ck dc207 (i := 38) rfl) ?_
  refine H_getR mf207 (ck dc207 (i := 39) rfl) fw_Model_5 fc11_3 ly52 ra52 rf52_3 (by decide) ?_
  refine G_iconst (ck dc207 (i := 40) rfl) ?_
  refine H_iald (ck dc207 (i := 41) rfl) ly55 (by decide) ra55 (by decide) (x := (M 55 0)) rfl ?_
  obtain ⟨o1, h⟩ := h
  obtain ⟨o2, h⟩ := h
  refine G_icmp_ge (tgt := 122) (by decide) o1 o2 (ck dc207 (i := 42) rfl) (fun c => ?_) (fun c => ?_)
  · replace h := h.1 c
    refine G_iload_n 1 rfl rfl (ck dc207 (i := 74) rfl) ?_
    obtain ⟨o3, h⟩ := h
    refine G_if_eq (tgt := 130) (by decide) o3 (ck dc207 (i := 75) rfl) (fun c => ?_) (fun c => ?_)
    · replace h := h.1 c
      refine G_iconst (ck dc207 (i := 78) rfl) ?_
      exact H_iretZ mf207 (ck dc207 (i := 79) rfl) rfl (Or.inl rfl) h
    · replace h := h.2 c
      refine G_iconst (ck dc207 (i := 76) rfl) ?_
      refine G_goto (tgt := 131) (by decide) (ck dc207 (i := 77) rfl) ?_
      exact H_iretZ mf207 (ck dc207 (i := 79) rfl) rfl (Or.inr rfl) h
  · replace h := h.2 c
    refine G_iload_n 1 rfl rfl (ck dc207 (i := 43) rfl) ?_
    refine G_iload_n 2 rfl rfl (ck dc207 (i := 44) rfl) ?_
    refine H_sZ mf207 (As := [.inl l1, .inl l2]) (st := []) (ck dc207 (i := 45) rfl) lk_Model_161 rfl rfl (Nat.le_of_ble_eq_true rfl) ⟨Nat.le_refl _, Nat.le_refl _⟩ h (fun r4 M5 h => ?_)
    obtain ⟨o6, h⟩ := h
    refine G_if_eq (tgt := 116) (by decide) o6 (ck dc207 (i := 46) rfl) (fun c => ?_) (fun c => ?_)
    · replace h := h.1 c
      refine G_iinc (L' := [(2, .inl (l2 + 1)), (0, .inr (.inr 52)), (1, .inl l1)]) 2 rfl (mfx.lt mf207 (Nat.le_of_ble_eq_true rfl)) rfl (ck dc207 (i := 72) rfl) ?_
      refine G_goto (tgt := 61) (by decide) (ck dc207 (i := 73) rfl) ?_
      exact G_sub [1, 2, 0] rfl h
    · replace h := h.2 c
      refine G_aload_n 0 rfl rfl (ck dc207 (i := 47) rfl) ?_
      refine H_getR mf207 (ck dc207 (i := 48) rfl) fw_Model_50 fc11_15 ly52 ra52 rf52_15 (by decide) ?_
      refine G_iload_n 2 rfl rfl (ck dc207 (i := 49) rfl) ?_
      refine G_dup2 rfl rfl (ck dc207 (i := 50) rfl) ?_
      obtain ⟨o7, h⟩ := h
      refine H_iald (ck dc207 (i := 51) rfl) ly62 (by decide) ra62 o7 (x := (M5 62 l2)) rfl ?_
      refine G_iconst (ck dc207 (i := 52) rfl) ?_
      refine G_isub (ck dc207 (i := 53) rfl) ?_
      refine G_iast (ck dc207 (i := 54) rfl) ra62 ly62 (by decide) o7 ?_
      exact G_sub [0, 1, 2] rfl h
theorem g_m_endsEarlier_89 (K : Nat) (l1 l2 : Int) (M : PM) (Q : Option PV → PM → Prop)
    (h : (0 ≤ l2 ∧ l2 < 5) ∧ Call K jModel_due [.inr (.inr 52), .inl l2, .inl (M 62 l2)] P0 P0 M (retI fun r2 M3 => R32 r2 ∧ (¬ r2 = 0 → G none (K + 1) jModel_endsEarlier 61 [(0, .inr (.inr 52)), (1, .inl l1), (2, .inl (l2 + 1))] [] P0 P0 M3 Q) ∧ (r2 = 0 → G none (K + 1) jModel_endsEarlier 89 [(0, .inr (.inr 52)), (1, .inl l1), (2, .inl l2)] [] P0 P0 (mset M3 62 l2 ((M3 62 l2) - 1)) Q))) : G none (K + 1) jModel_endsEarlier 89 [(0, .inr (.inr 52)), (1, .inl l1), (2, .inl l2)] [] P0 P0 M Q := by
  refine G_aload_n 0 rfl rfl (ck dc207 (i := 55) rfl) ?_
  refine G_iload_n 2 rfl rfl (ck dc207 (i := 56) rfl) ?_
  refine G_aload_n 0 rfl rfl (ck dc207 (i := 57) rfl) ?_
  refine H_getR mf207 (ck dc207 (i := 58) rfl) fw_Model_50 fc11_15 ly52 ra52 rf52_15 (by decide) ?_
  refine G_iload_n 2 rfl rfl (ck dc207 (i := 59) rfl) ?_
  obtain ⟨o1, h⟩ := h
  refine H_iald (ck dc207 (i := 60) rfl) ly62 (by decide) ra62 o1 (x := (M 62 l2)) rfl ?_
  refine H_vI mf207 (As := [.inl l2, .inl (M 62 l2)]) (st := []) (ck dc207 (i := 61) rfl) lk_Model_106 rfl rfl (Nat.le_of_ble_eq_true rfl) ly52 ra52 ⟨Nat.le_refl _, Nat.le_refl _⟩ h (fun r2 M3 h => ?_)
  obtain ⟨o4, h⟩ := h
  refine G_if_ne (tgt := 116) (by decide) o4 (ck dc207 (i := 62) rfl) (fun c => ?_) (fun c => ?_)
  · replace h := h.1 c
    refine G_iinc (L' := [(2, .inl (l2 + 1)), (0, .inr (.inr 52)), (1, .inl l1)]) 2 rfl (mfx.lt mf207 (Nat.le_of_ble_eq_true rfl)) rfl (ck dc207 (i := 72) rfl) ?_
    refine G_goto (tgt := 61) (by decide) (ck dc207 (i := 73) rfl) ?_
    exact G_sub [1, 2, 0] rfl h
  · replace h := h.2 c
    refine G_aload_n 0 rfl rfl (ck dc207 (i := 63) rfl) ?_
    refine H_getR mf207 (ck dc207 (i := 64) rfl) fw_Model_50 fc11_15 ly52 ra52 rf52_15 (by decide) ?_
    refine G_iload_n 2 rfl rfl (ck dc207 (i := 65) rfl) ?_
    refine G_dup2 rfl rfl (ck dc207 (i := 66) rfl) ?_
    refine H_iald (ck dc207 (i := 67) rfl) ly62 (by decide) ra62 o1 (x := (M3 62 l2)) rfl ?_
    refine G_iconst (ck dc207 (i := 68) rfl) ?_
    refine G_isub (ck dc207 (i := 69) rfl) ?_
    refine G_iast (ck dc207 (i := 70) rfl) ra62 ly62 (by decide) o1 ?_
    refine G_goto (tgt := 89) (by decide) (ck dc207 (i := 71) rfl) ?_
    exact G_sub [0, 1, 2] rfl h
theorem c_model_divisor (K : Nat) (a1 a2 : Int) (M : PM) (Q : Option PV → PM → Prop)
    (h : G none (K + 1) jModel_divisor 6 [(4, .inr (.inl a1)), (6, .inr (.inl a2))] [] P0 P0 M Q) : Call (K + 1) jModel_divisor [.inr (.inl a1), .inr (.inl a2)] P0 P0 M Q := by
  refine Call.intro (by decide +kernel) (mfx.le mf208 (Nat.le_of_ble_eq_true rfl)) (Nat.le_refl _) rfl ?_
  refine G_lload_n 0 rfl rfl (ck dc208 (i := 0) rfl) ?_
  refine G_lstore (L' := [(4, .inr (.inl a1)), (0, .inr (.inl a1)), (2, .inr (.inl a2))]) (mfx.lt mf208 (Nat.le_of_ble_eq_true rfl)) rfl (ck dc208 (i := 1) rfl) ?_
  refine G_lload_n 2 rfl rfl (ck dc208 (i := 2) rfl) ?_
  refine G_lstore (L' := [(6, .inr (.inl a2)), (4, .inr (.inl a1)), (0, .inr (.inl a1)), (2, .inr (.inl a2))]) (mfx.lt mf208 (Nat.le_of_ble_eq_true rfl)) rfl (ck dc208 (i := 3) rfl) ?_
  exact G_sub [1, 0] rfl h
theorem g_model_divisor_6 (K : Nat) (l4 l6 : Int) (M : PM) (Q : Option PV → PM → Prop)
    (h : R64 l6 ∧ (l6 = 0 → Q (some (.inr (.inl l4))) M) ∧ (¬ l6 = 0 → R64 l4 ∧ l6 ≠ 0 ∧ G none (K + 1) jModel_divisor 6 [(4, .inr (.inl l6)), (6, .inr (.inl (Int.tmod l4 l6)))] [] P0 P0 M Q)) : G none (K + 1) jModel_divisor 6 [(4, .inr (.inl l4)), (6, .inr (.inl l6))] [] P0 P0 M Q := by
  refine G_lload 1 rfl (ck dc208 (i := 4) rfl) ?_
  refine G_lconst (v := 0) rfl (ck dc208 (i := 5) rfl) ?_
  obtain ⟨o1, h⟩ := h
  refine G_lif_eq (tgt := 31) (ck dc208 (i := 7) rfl) (by decide) o1 (by decide) (ck dc208 (i := 6) rfl) (fun c => ?_) (fun c => ?_)
  · replace h := h.1 c
    refine G_lload 0 rfl (ck dc208 (i := 17) rfl) ?_
    exact H_lret mf208 (ck dc208 (i := 18) rfl) rfl h
  · replace h := h.2 c
    refine G_lload 0 rfl (ck dc208 (i := 8) rfl) ?_
    refine G_lload 1 rfl (ck dc208 (i := 9) rfl) ?_
    obtain ⟨o2, h⟩ := h
    obtain ⟨o3, h⟩ := h
    refine G_lrem o2 o1 o3 (ck dc208 (i := 10) rfl) ?_
    refine G_lstore (L' := [(8, .inr (.inl (Int.tmod l4 l6))), (4, .inr (.inl l4)), (6, .inr (.inl l6))]) (mfx.lt mf208 (Nat.le_of_ble_eq_true rfl)) rfl (ck dc208 (i := 11) rfl) ?_
    refine G_lload 2 rfl (ck dc208 (i := 12) rfl) ?_
    refine G_lstore (L' := [(4, .inr (.inl l6)), (8, .inr (.inl (Int.tmod l4 l6))), (6, .inr (.inl l6))]) (mfx.lt mf208 (Nat.le_of_ble_eq_true rfl)) rfl (ck dc208 (i := 13) rfl) ?_
    refine G_lload 1 rfl (ck dc208 (i := 14) rfl) ?_
    refine G_lstore (L' := [(6, .inr (.inl (Int.tmod l4 l6))), (4, .inr (.inl l6)), (8, .inr (.inl (Int.tmod l4 l6)))]) (mfx.lt mf208 (Nat.le_of_ble_eq_true rfl)) rfl (ck dc208 (i := 15) rfl) ?_
    refine G_goto (tgt := 6) (by decide) (ck dc208 (i := 16) rfl) ?_
    exact G_sub [1, 0] rfl h
theorem c_m_agrees (K : Nat) (a1 : Int) (M : PM) (Q : Option PV → PM → Prop)
    (h : G none (K + 1) jModel_agrees 2 [(0, .inr (.inr 52)), (1, .inl a1), (2, .inl 0)] [] P0 P0 M Q) : Call (K + 1) jModel_agrees [.inr (.inr 52), .inl a1] P0 P0 M Q := by
  refine Call.intro (by decide +kernel) (mfx.le mf198 (Nat.le_of_ble_eq_true rfl)) (Nat.le_refl _) rfl ?_
  refine G_iconst (ck dc198 (i := 0) rfl) ?_
  refine G_istore_n (L' := [(2, .inl 0), (0, .inr (.inr 52)), (1, .inl a1)]) rfl (mfx.lt mf198 (Nat.le_of_ble_eq_true rfl)) rfl (ck dc198 (i := 1) rfl) ?_
  exact G_sub [1, 2, 0] rfl h
theorem g_m_agrees_2 (K : Nat) (l1 l2 : Int) (M : PM) (Q : Option PV → PM → Prop)
    (h : R32 l2 ∧ (5 ≤ l2 → G none (K + 1) jModel_agrees 20 [(0, .inr (.inr 52)), (1, .inl l1)] [] P0 P0 M Q) ∧ (¬ 5 ≤ l2 → (0 ≤ l2 ∧ l2 < 5) ∧ G none (K + 1) jModel_agrees 2 [(0, .inr (.inr 52)), (1, .inl l1), (2, .inl (l2 + 1))] [] P0 P0 (mset M 62 l2 3) Q)) : G none (K + 1) jModel_agrees 2 [(0, .inr (.inr 52)), (1, .inl l1), (2, .inl l2)] [] P0 P0 M Q := by
  refine G_iload_n 2 rfl rfl (ck dc198 (i := 2) rfl) ?_
  refine G_iconst (ck dc198 (i := 3) rfl) ?_
  obtain ⟨o1, h⟩ := h
  refine G_icmp_ge (tgt := 20) (by decide) o1 (by decide) (ck dc198 (i := 4) rfl) (fun c => ?_) (fun c => ?_)
  · replace h := h.1 c
    exact G_sub [0, 1] rfl h
  · replace h := h.2 c
    refine G_aload_n 0 rfl rfl (ck dc198 (i := 5) rfl) ?_
    refine H_getR mf198 (ck dc198 (i := 6) rfl) fw_Model_50 fc11_15 ly52 ra52 rf52_15 (by decide) ?_
    refine G_iload_n 2 rfl rfl (ck dc198 (i := 7) rfl) ?_
    refine G_iconst (ck dc198 (i := 8) rfl) ?_
    obtain ⟨o2, h⟩ := h
    refine G_iast (ck dc198 (i := 9) rfl) ra62 ly62 (by decide) o2 ?_
    refine G_iinc (L' := [(2, .inl (l2 + 1)), (0, .inr (.inr 52)), (1, .inl l1)]) 2 rfl (mfx.lt mf198 (Nat.le_of_ble_eq_true rfl)) rfl (ck dc198 (i := 10) rfl) ?_
    refine G_goto (tgt := 2) (by decide) (ck dc198 (i := 11) rfl) ?_
    exact G_sub [1, 2, 0] rfl h
theorem g_m_agrees_20 (K : Nat) (l1 : Int) (M : PM) (Q : Option PV → PM → Prop)
    (h : Call K jModel_opens [.inr (.inr 52)] P0 P0 M (retV fun M2 => Call K jModel_endsEarlier [.inr (.inr 52)] P0 P0 M2 (retI fun r3 M4 => R32 r3 ∧ (¬ r3 = 0 → G none (K + 1) jModel_agrees 20 [(0, .inr (.inr 52)), (1, .inl l1)] [] P0 P0 M4 Q) ∧ (r3 = 0 → G none (K + 1) jModel_agrees 39 [(0, .inr (.inr 52)), (1, .inl l1), (2, .inr (.inl (M4 52 21))), (4, .inl 0)] [] P0 P0 M4 Q)))) : G none (K + 1) jModel_agrees 20 [(0, .inr (.inr 52)), (1, .inl l1)] [] P0 P0 M Q := by
  refine G_aload_n 0 rfl rfl (ck dc198 (i := 12) rfl) ?_
  refine H_vV mf198 (As := []) (st := []) (ck dc198 (i := 13) rfl) lk_Model_188 rfl rfl (Nat.le_of_ble_eq_true rfl) ly52 ra52 ⟨Nat.le_refl _, Nat.le_refl _⟩ h (fun M2 h => ?_)
  refine G_aload_n 0 rfl rfl (ck dc198 (i := 14) rfl) ?_
  refine H_vZ mf198 (As := []) (st := []) (ck dc198 (i := 15) rfl) lk_Model_191 rfl rfl (Nat.le_of_ble_eq_true rfl) ly52 ra52 ⟨Nat.le_refl _, Nat.le_refl _⟩ h (fun r3 M4 h => ?_)
  obtain ⟨o5, h⟩ := h
  refine G_if_ne (tgt := 20) (by decide) o5 (ck dc198 (i := 16) rfl) (fun c => ?_) (fun c => ?_)
  · replace h := h.1 c
    exact G_sub [0, 1] rfl h
  · replace h := h.2 c
    refine G_aload_n 0 rfl rfl (ck dc198 (i := 17) rfl) ?_
    refine H_getL mf198 (ck dc198 (i := 18) rfl) fw_Model_172 fc11_21 ly52 ra52 (x := (M4 52 21)) rfl ?_
    refine G_lstore_n (L' := [(2, .inr (.inl (M4 52 21))), (0, .inr (.inr 52)), (1, .inl l1)]) rfl (mfx.lt mf198 (Nat.le_of_ble_eq_true rfl)) rfl (ck dc198 (i := 19) rfl) ?_
    refine G_iconst (ck dc198 (i := 20) rfl) ?_
    refine G_istore (L' := [(4, .inl 0), (2, .inr (.inl (M4 52 21))), (0, .inr (.inr 52)), (1, .inl l1)]) (mfx.lt mf198 (Nat.le_of_ble_eq_true rfl)) rfl (ck dc198 (i := 21) rfl) ?_
    exact G_sub [2, 3, 1, 0] rfl h
set_option maxHeartbeats 20000000 in
theorem g_m_agrees_39 (K : Nat) (l1 l2 l4 : Int) (M : PM) (Q : Option PV → PM → Prop)
    (h : R32 l4 ∧ (15 ≤ l4 → R64 (M 52 21) ∧ R64 l2 ∧ l2 ≠ 0 ∧ (0 ≤ l1 ∧ l1 < 6) ∧ G none (K + 1) jModel_agrees 182 [(0, .inr (.inr 52)), (1, .inl l1), (2, .inr (.inl l2)), (4, .inl 0)] [] P0 P0 (mset M 59 l1 (Int.tdiv (M 52 21) l2)) Q) ∧ (¬ 15 ≤ l4 → (0 ≤ (Int.tdiv l4 3) ∧ (Int.tdiv l4 3) < 5) ∧ R32 (Int.tmod l4 3) ∧ R32 (M 62 (Int.tdiv l4 3)) ∧ ((Int.tmod l4 3) < (M 62 (Int.tdiv l4 3)) → G none (K + 1) jModel_agrees 81 [(0, .inr (.inr 52)), (1, .inl l1), (2, .inr (.inl l2)), (4, .inl l4), (5, .inl (Int.tdiv l4 3)), (6, .inl (Int.tmod l4 3))] [] P0 P0 M Q) ∧ (¬ (Int.tmod l4 3) < (M 62 (Int.tdiv l4 3)) → Call K jModel_due [.inr (.inr 52), .inl (Int.tdiv l4 3), .inl (Int.tmod l4 3)] P0 P0 M (retI fun r9 M10 => R32 r9 ∧ (¬ r9 = 0 → R32 (M10 62 (Int.tdiv l4 3)) ∧ (¬ (Int.tmod l4 3) = (M10 62 (Int.tdiv l4 3)) → (0 ≤ ((15 * l1) + l4) ∧ ((15 * l1) + l4) < 90) ∧ Call K jModel_divisor [.inr (.inl l2), .inr (.inl 0)] P0 P0 (mset M10 58 ((15 * l1) + l4) 0) (retL fun r14 M15 => G none (K + 1) jModel_agrees 39 [(0, .inr (.inr 52)), (1, .inl l1), (2, .inr (.inl r14)), (4, .inl (l4 + 1))] [] P0 P0 M15 Q)) ∧ ((Int.tmod l4 3) = (M10 62 (Int.tdiv l4 3)) → Call K jModel_isOpen [.inr (.inr 52), .inl (Int.tdiv l4 3)] P0 P0 M10 (retI fun r16 M17 => R32 r16 ∧ (r16 = 0 → (0 ≤ ((15 * l1) + l4) ∧ ((15 * l1) + l4) < 90) ∧ Call K jModel_divisor [.inr (.inl l2), .inr (.inl 0)] P0 P0 (mset M17 58 ((15 * l1) + l4) 0) (retL fun r20 M21 => G none (K + 1) jModel_agrees 39 [(0, .inr (.inr 52)), (1, .inl l1), (2, .inr (.inl r20)), (4, .inl (l4 + 1))] [] P0 P0 M21 Q)) ∧ (¬ r16 = 0 → (0 ≤ ((15 * l1) + l4) ∧ ((15 * l1) + l4) < 90) ∧ Call K jModel_divisor [.inr (.inl l2), .inr (.inl (M17 66 (Int.tdiv l4 3)))] P0 P0 (mset M17 58 ((15 * l1) + l4) (M17 66 (Int.tdiv l4 3))) (retL fun r23 M24 => G none (K + 1) jModel_agrees 39 [(0, .inr (.inr 52)), (1, .inl l1), (2, .inr (.inl r23)), (4, .inl (l4 + 1))] [] P0 P0 M24 Q))))) ∧ (r9 = 0 → G none (K + 1) jModel_agrees 81 [(0, .inr (.inr 52)), (1, .inl l1), (2, .inr (.inl l2)), (4, .inl l4), (5, .inl (Int.tdiv l4 3)), (6, .inl (Int.tmod l4 3))] [] P0 P0 M10 Q))))) : G none (K + 1) jModel_agrees 39 [(0, .inr (.inr 52)), (1, .inl l1), (2, .inr (.inl l2)), (4, .inl l4)] [] P0 P0 M Q := by
  refine G_iload 3 rfl (ck dc198 (i := 22) rfl) ?_
  refine G_bipush (n := 15) rfl (ck dc198 (i := 23) rfl) ?_
  obtain ⟨o1, h⟩ := h
  refine G_icmp_ge (tgt := 167) (by decide) o1 (by decide) (ck dc198 (i := 24) rfl) (fun c => ?_) (fun c => ?_)
  · replace h := h.1 c
    refine G_aload_n 0 rfl rfl (ck dc198 (i := 90) rfl) ?_
    refine H_getR mf198 (ck dc198 (i := 91) rfl) fw_Model_41 fc11_11 ly52 ra52 rf52_11 (by decide) ?_
    refine G_iload_n 1 rfl rfl (ck dc198 (i := 92) rfl) ?_
    refine G_aload_n 0 rfl rfl (ck dc198 (i := 93) rfl) ?_
    refine H_getL mf198 (ck dc198 (i := 94) rfl) fw_Model_172 fc11_21 ly52 ra52 (x := (M 52 21)) rfl ?_
    refine G_lload_n 2 rfl rfl (ck dc198 (i := 95) rfl) ?_
    obtain ⟨o2, h⟩ := h
    obtain ⟨o3, h⟩ := h
    obtain ⟨o4, h⟩ := h
    refine G_ldiv o2 o3 o4 (ck dc198 (i := 96) rfl) ?_
    obtain ⟨o5, h⟩ := h
    refine G_last (ck dc198 (i := 97) rfl) ra59 ly59 (by decide) o5 ?_
    refine G_iconst (ck dc198 (i := 98) rfl) ?_
    refine G_istore (L' := [(4, .inl 0), (0, .inr (.inr 52)), (1, .inl l1), (2, .inr (.inl l2))]) (mfx.lt mf198 (Nat.le_of_ble_eq_true rfl)) rfl (ck dc198 (i := 99) rfl) ?_
    exact G_sub [1, 2, 3, 0] rfl h
  · replace h := h.2 c
    refine G_iload 3 rfl (ck dc198 (i := 25) rfl) ?_
    refine G_iconst (ck dc198 (i := 26) rfl) ?_
    refine G_idiv o1 (by decide) (by decide) (ck dc198 (i := 27) rfl) ?_
    refine G_istore (L' := [(5, .inl (Int.tdiv l4 3)), (0, .inr (.inr 52)), (1, .inl l1), (2, .inr (.inl l2)), (4, .inl l4)]) (mfx.lt mf198 (Nat.le_of_ble_eq_true rfl)) rfl (ck dc198 (i := 28) rfl) ?_
    refine G_iload 4 rfl (ck dc198 (i := 29) rfl) ?_
    refine G_iconst (ck dc198 (i := 30) rfl) ?_
    refine G_irem o1 (by decide) (by decide) (ck dc198 (i := 31) rfl) ?_
    refine G_istore (L' := [(6, .inl (Int.tmod l4 3)), (5, .inl (Int.tdiv l4 3)), (0, .inr (.inr 52)), (1, .inl l1), (2, .inr (.inl l2)), (4, .inl l4)]) (mfx.lt mf198 (Nat.le_of_ble_eq_true rfl)) rfl (ck dc198 (i := 32) rfl) ?_
    refine G_iload 0 rfl (ck dc198 (i := 33) rfl) ?_
    refine G_aload_n 2 rfl rfl (ck dc198 (i := 34) rfl) ?_
    refine H_getR mf198 (ck dc198 (i := 35) rfl) fw_Model_50 fc11_15 ly52 ra52 rf52_15 (by decide) ?_
    refine G_iload 1 rfl (ck dc198 (i := 36) rfl) ?_
    obtain ⟨o6, h⟩ := h
    refine H_iald (ck dc198 (i := 37) rfl) ly62 (by decide) ra62 o6 (x := (M 62 (Int.tdiv l4 3))) rfl ?_
    obtain ⟨o7, h⟩ := h
    obtain ⟨o8, h⟩ := h
    refine G_icmp_lt (tgt := 81) (by decide) o7 o8 (ck dc198 (i := 38) rfl) (fun c => ?_) (fun c => ?_)
    · replace h := h.1 c
      exact G_sub [2, 3, 4, 5, 1, 0] rfl h
    · replace h := h.2 c
      refine G_aload_n 2 rfl rfl (ck dc198 (i := 39) rfl) ?_
      refine G_iload 1 rfl (ck dc198 (i := 40) rfl) ?_
      refine G_iload 0 rfl (ck dc198 (i := 41) rfl) ?_
      refine H_vI mf198 (As := [.inl (Int.tdiv l4 3), .inl (Int.tmod l4 3)]) (st := []) (ck dc198 (i := 42) rfl) lk_Model_106 rfl rfl (Nat.le_of_ble_eq_true rfl) ly52 ra52 ⟨Nat.le_refl _, Nat.le_refl _⟩ h (fun r9 M10 h => ?_)
      obtain ⟨o11, h⟩ := h
      refine G_if_ne (tgt := 85) (by decide) o11 (ck dc198 (i := 43) rfl) (fun c => ?_) (fun c => ?_)
      · replace h := h.1 c
        refine G_iconst (ck dc198 (i := 46) rfl) ?_
        refine G_istore (L' := [(7, .inl 0), (6, .inl (Int.tmod l4 3)), (5, .inl (Int.tdiv l4 3)), (0, .inr (.inr 52)), (1, .inl l1), (2, .inr (.inl l2)), (4, .inl l4)]) (mfx.lt mf198 (Nat.le_of_ble_eq_true rfl)) rfl (ck dc198 (i := 47) rfl) ?_
        refine G_aload_n 3 rfl rfl (ck dc198 (i := 48) rfl) ?_
        refine H_getR mf198 (ck dc198 (i := 49) rfl) fw_Model_38 fc11_10 ly52 ra52 rf52_10 (by decide) ?_
        refine G_bipush (n := 15) rfl (ck dc198 (i := 50) rfl) ?_
        refine G_iload_n 4 rfl rfl (ck dc198 (i := 51) rfl) ?_
        refine G_imul (ck dc198 (i := 52) rfl) ?_
        refine G_iload 6 rfl (ck dc198 (i := 53) rfl) ?_
        refine G_iadd (ck dc198 (i := 54) rfl) ?_
        refine G_iload 0 rfl (ck dc198 (i := 55) rfl) ?_
        refine G_if_eq (tgt := 111) (by decide) (by decide) (ck dc198 (i := 56) rfl) (fun c => ?_) (fun c => absurd c (by decide))
        refine G_iload 1 rfl (ck dc198 (i := 60) rfl) ?_
        refine G_aload_n 3 rfl rfl (ck dc198 (i := 61) rfl) ?_
        refine H_getR mf198 (ck dc198 (i := 62) rfl) fw_Model_50 fc11_15 ly52 ra52 rf52_15 (by decide) ?_
        refine G_iload 2 rfl (ck dc198 (i := 63) rfl) ?_
        refine H_iald (ck dc198 (i := 64) rfl) ly62 (by decide) ra62 o6 (x := (M10 62 (Int.tdiv l4 3))) rfl ?_
        obtain ⟨o12, h⟩ := h
        refine G_icmp_ne (tgt := 142) (by decide) o7 o12 (ck dc198 (i := 65) rfl) (fun c => ?_) (fun c => ?_)
        · replace h := h.1 c
          refine G_lconst (v := 0) rfl (ck dc198 (i := 75) rfl) ?_
          obtain ⟨o13, h⟩ := h
          refine G_last (ck dc198 (i := 76) rfl) ra58 ly58 (by decide) o13 ?_
          refine G_lload_n 5 rfl rfl (ck dc198 (i := 77) rfl) ?_
          refine G_aload_n 3 rfl rfl (ck dc198 (i := 78) rfl) ?_
          refine H_getR mf198 (ck dc198 (i := 79) rfl) fw_Model_38 fc11_10 ly52 ra52 rf52_10 (by decide) ?_
          refine G_bipush (n := 15) rfl (ck dc198 (i := 80) rfl) ?_
          refine G_iload_n 4 rfl rfl (ck dc198 (i := 81) rfl) ?_
          refine G_imul (ck dc198 (i := 82) rfl) ?_
          refine G_iload 6 rfl (ck dc198 (i := 83) rfl) ?_
          refine G_iadd (ck dc198 (i := 84) rfl) ?_
          refine H_lald (ck dc198 (i := 85) rfl) ly58 (by decide) ra58 o13 (x := 0) (by simp [mset, mcpy]) ?_
          refine H_sL mf198 (As := [.inr (.inl l2), .inr (.inl 0)]) (st := []) (ck dc198 (i := 86) rfl) lk_Model_195 rfl rfl (Nat.le_of_ble_eq_true rfl) ⟨Nat.le_refl _, Nat.le_refl _⟩ h (fun r14 M15 h => ?_)
          refine G_lstore_n (L' := [(2, .inr (.inl r14)), (7, .inl 0), (6, .inl (Int.tmod l4 3)), (5, .inl (Int.tdiv l4 3)), (0, .inr (.inr 52)), (1, .inl l1), (4, .inl l4)]) rfl (mfx.lt mf198 (Nat.le_of_ble_eq_true rfl)) rfl (ck dc198 (i := 87) rfl) ?_
          refine G_iinc (L' := [(4, .inl (l4 + 1)), (2, .inr (.inl r14)), (7, .inl 0), (6, .inl (Int.tmod l4 3)), (5, .inl (Int.tdiv l4 3)), (0, .inr (.inr 52)), (1, .inl l1)]) 6 rfl (mfx.lt mf198 (Nat.le_of_ble_eq_true rfl)) rfl (ck dc198 (i := 88) rfl) ?_
          refine G_goto (tgt := 39) (by decide) (ck dc198 (i := 89) rfl) ?_
          exact G_sub [5, 6, 1, 0] rfl h
        · replace h := h.2 c
          refine G_aload_n 3 rfl rfl (ck dc198 (i := 66) rfl) ?_
          refine G_iload 2 rfl (ck dc198 (i := 67) rfl) ?_
          refine H_vZ mf198 (As := [.inl (Int.tdiv l4 3)]) (st := [.inl ((15 * l1) + l4), .inr (.inr 58)]) (ck dc198 (i := 68) rfl) lk_Model_179 rfl rfl (Nat.le_of_ble_eq_true rfl) ly52 ra52 ⟨Nat.le_refl _, Nat.le_refl _⟩ h (fun r16 M17 h => ?_)
          obtain ⟨o18, h⟩ := h
          refine G_if_eq (tgt := 142) (by decide) o18 (ck dc198 (i := 69) rfl) (fun c => ?_) (fun c => ?_)
          · replace h := h.1 c
            refine G_lconst (v := 0) rfl (ck dc198 (i := 75) rfl) ?_
            obtain ⟨o19, h⟩ := h
            refine G_last (ck dc198 (i := 76) rfl) ra58 ly58 (by decide) o19 ?_
            refine G_lload_n 5 rfl rfl (ck dc198 (i := 77) rfl) ?_
            refine G_aload_n 3 rfl rfl (ck dc198 (i := 78) rfl) ?_
            refine H_getR mf198 (ck dc198 (i := 79) rfl) fw_Model_38 fc11_10 ly52 ra52 rf52_10 (by decide) ?_
            refine G_bipush (n := 15) rfl (ck dc198 (i := 80) rfl) ?_
            refine G_iload_n 4 rfl rfl (ck dc198 (i := 81) rfl) ?_
            refine G_imul (ck dc198 (i := 82) rfl) ?_
            refine G_iload 6 rfl (ck dc198 (i := 83) rfl) ?_
            refine G_iadd (ck dc198 (i := 84) rfl) ?_
            refine H_lald (ck dc198 (i := 85) rfl) ly58 (by decide) ra58 o19 (x := 0) (by simp [mset, mcpy]) ?_
            refine H_sL mf198 (As := [.inr (.inl l2), .inr (.inl 0)]) (st := []) (ck dc198 (i := 86) rfl) lk_Model_195 rfl rfl (Nat.le_of_ble_eq_true rfl) ⟨Nat.le_refl _, Nat.le_refl _⟩ h (fun r20 M21 h => ?_)
            refine G_lstore_n (L' := [(2, .inr (.inl r20)), (7, .inl 0), (6, .inl (Int.tmod l4 3)), (5, .inl (Int.tdiv l4 3)), (0, .inr (.inr 52)), (1, .inl l1), (4, .inl l4)]) rfl (mfx.lt mf198 (Nat.le_of_ble_eq_true rfl)) rfl (ck dc198 (i := 87) rfl) ?_
            refine G_iinc (L' := [(4, .inl (l4 + 1)), (2, .inr (.inl r20)), (7, .inl 0), (6, .inl (Int.tmod l4 3)), (5, .inl (Int.tdiv l4 3)), (0, .inr (.inr 52)), (1, .inl l1)]) 6 rfl (mfx.lt mf198 (Nat.le_of_ble_eq_true rfl)) rfl (ck dc198 (i := 88) rfl) ?_
            refine G_goto (tgt := 39) (by decide) (ck dc198 (i := 89) rfl) ?_
            exact G_sub [5, 6, 1, 0] rfl h
          · replace h := h.2 c
            refine G_aload_n 3 rfl rfl (ck dc198 (i := 70) rfl) ?_
            refine H_getR mf198 (ck dc198 (i := 71) rfl) fw_Model_62 fc11_20 ly52 ra52 rf52_20 (by decide) ?_
            refine G_iload 2 rfl (ck dc198 (i := 72) rfl) ?_
            refine H_lald (ck dc198 (i := 73) rfl) ly66 (by decide) ra66 o6 (x := (M17 66 (Int.tdiv l4 3))) rfl ?_
            refine G_goto (tgt := 143) (by decide) (ck dc198 (i := 74) rfl) ?_
            obtain ⟨o22, h⟩ := h
            refine G_last (ck dc198 (i := 76) rfl) ra58 ly58 (by decide) o22 ?_
            refine G_lload_n 5 rfl rfl (ck dc198 (i := 77) rfl) ?_
            refine G_aload_n 3 rfl rfl (ck dc198 (i := 78) rfl) ?_
            refine H_getR mf198 (ck dc198 (i := 79) rfl) fw_Model_38 fc11_10 ly52 ra52 rf52_10 (by decide) ?_
            refine G_bipush (n := 15) rfl (ck dc198 (i := 80) rfl) ?_
            refine G_iload_n 4 rfl rfl (ck dc198 (i := 81) rfl) ?_
            refine G_imul (ck dc198 (i := 82) rfl) ?_
            refine G_iload 6 rfl (ck dc198 (i := 83) rfl) ?_
            refine G_iadd (ck dc198 (i := 84) rfl) ?_
            refine H_lald (ck dc198 (i := 85) rfl) ly58 (by decide) ra58 o22 (x := (M17 66 (Int.tdiv l4 3))) (by simp [mset, mcpy]) ?_
            refine H_sL mf198 (As := [.inr (.inl l2), .inr (.inl (M17 66 (Int.tdiv l4 3)))]) (st := []) (ck dc198 (i := 86) rfl) lk_Model_195 rfl rfl (Nat.le_of_ble_eq_true rfl) ⟨Nat.le_refl _, Nat.le_refl _⟩ h (fun r23 M24 h => ?_)
            refine G_lstore_n (L' := [(2, .inr (.inl r23)), (7, .inl 0), (6, .inl (Int.tmod l4 3)), (5, .inl (Int.tdiv l4 3)), (0, .inr (.inr 52)), (1, .inl l1), (4, .inl l4)]) rfl (mfx.lt mf198 (Nat.le_of_ble_eq_true rfl)) rfl (ck dc198 (i := 87) rfl) ?_
            refine G_iinc (L' := [(4, .inl (l4 + 1)), (2, .inr (.inl r23)), (7, .inl 0), (6, .inl (Int.tmod l4 3)), (5, .inl (Int.tdiv l4 3)), (0, .inr (.inr 52)), (1, .inl l1)]) 6 rfl (mfx.lt mf198 (Nat.le_of_ble_eq_true rfl)) rfl (ck dc198 (i := 88) rfl) ?_
            refine G_goto (tgt := 39) (by decide) (ck dc198 (i := 89) rfl) ?_
            exact G_sub [5, 6, 1, 0] rfl h
      · replace h := h.2 c
        exact G_sub [2, 3, 4, 5, 1, 0] rfl h
theorem g_m_agrees_81 (K : Nat) (l1 l2 l4 l5 l6 : Int) (M : PM) (Q : Option PV → PM → Prop)
    (h : (0 ≤ ((15 * l1) + l4) ∧ ((15 * l1) + l4) < 90) ∧ Call K jModel_divisor [.inr (.inl l2), .inr (.inl (M 52 21))] P0 P0 (mset M 58 ((15 * l1) + l4) (M 52 21)) (retL fun r2 M3 => G none (K + 1) jModel_agrees 39 [(0, .inr (.inr 52)), (1, .inl l1), (2, .inr (.inl r2)), (4, .inl (l4 + 1))] [] P0 P0 M3 Q)) : G none (K + 1) jModel_agrees 81 [(0, .inr (.inr 52)), (1, .inl l1), (2, .inr (.inl l2)), (4, .inl l4), (5, .inl l5), (6, .inl l6)] [] P0 P0 M Q := by
  refine G_iconst (ck dc198 (i := 44) rfl) ?_
  refine G_goto (tgt := 86) (by decide) (ck dc198 (i := 45) rfl) ?_
  refine G_istore (L' := [(7, .inl 1), (0, .inr (.inr 52)), (1, .inl l1), (2, .inr (.inl l2)), (4, .inl l4), (5, .inl l5), (6, .inl l6)]) (mfx.lt mf198 (Nat.le_of_ble_eq_true rfl)) rfl (ck dc198 (i := 47) rfl) ?_
  refine G_aload_n 1 rfl rfl (ck dc198 (i := 48) rfl) ?_
  refine H_getR mf198 (ck dc198 (i := 49) rfl) fw_Model_38 fc11_10 ly52 ra52 rf52_10 (by decide) ?_
  refine G_bipush (n := 15) rfl (ck dc198 (i := 50) rfl) ?_
  refine G_iload_n 2 rfl rfl (ck dc198 (i := 51) rfl) ?_
  refine G_imul (ck dc198 (i := 52) rfl) ?_
  refine G_iload 4 rfl (ck dc198 (i := 53) rfl) ?_
  refine G_iadd (ck dc198 (i := 54) rfl) ?_
  refine G_iload 0 rfl (ck dc198 (i := 55) rfl) ?_
  refine G_if_eq (tgt := 111) (by decide) (by decide) (ck dc198 (i := 56) rfl) (fun c => absurd c (by decide)) (fun c => ?_)
  refine G_aload_n 1 rfl rfl (ck dc198 (i := 57) rfl) ?_
  refine H_getL mf198 (ck dc198 (i := 58) rfl) fw_Model_172 fc11_21 ly52 ra52 (x := (M 52 21)) rfl ?_
  refine G_goto (tgt := 143) (by decide) (ck dc198 (i := 59) rfl) ?_
  obtain ⟨o1, h⟩ := h
  refine G_last (ck dc198 (i := 76) rfl) ra58 ly58 (by decide) o1 ?_
  refine G_lload_n 3 rfl rfl (ck dc198 (i := 77) rfl) ?_
  refine G_aload_n 1 rfl rfl (ck dc198 (i := 78) rfl) ?_
  refine H_getR mf198 (ck dc198 (i := 79) rfl) fw_Model_38 fc11_10 ly52 ra52 rf52_10 (by decide) ?_
  refine G_bipush (n := 15) rfl (ck dc198 (i := 80) rfl) ?_
  refine G_iload_n 2 rfl rfl (ck dc198 (i := 81) rfl) ?_
  refine G_imul (ck dc198 (i := 82) rfl) ?_
  refine G_iload 4 rfl (ck dc198 (i := 83) rfl) ?_
  refine G_iadd (ck dc198 (i := 84) rfl) ?_
  refine H_lald (ck dc198 (i := 85) rfl) ly58 (by decide) ra58 o1 (x := (M 52 21)) (by simp [mset, mcpy]) ?_
  refine H_sL mf198 (As := [.inr (.inl l2), .inr (.inl (M 52 21))]) (st := []) (ck dc198 (i := 86) rfl) lk_Model_195 rfl rfl (Nat.le_of_ble_eq_true rfl) ⟨Nat.le_refl _, Nat.le_refl _⟩ h (fun r2 M3 h => ?_)
  refine G_lstore_n (L' := [(2, .inr (.inl r2)), (7, .inl 1), (0, .inr (.inr 52)), (1, .inl l1), (4, .inl l4), (5, .inl l5), (6, .inl l6)]) rfl (mfx.lt mf198 (Nat.le_of_ble_eq_true rfl)) rfl (ck dc198 (i := 87) rfl) ?_
  refine G_iinc (L' := [(4, .inl (l4 + 1)), (2, .inr (.inl r2)), (7, .inl 1), (0, .inr (.inr 52)), (1, .inl l1), (5, .inl l5), (6, .inl l6)]) 4 rfl (mfx.lt mf198 (Nat.le_of_ble_eq_true rfl)) rfl (ck dc198 (i := 88) rfl) ?_
  refine G_goto (tgt := 39) (by decide) (ck dc198 (i := 89) rfl) ?_
  exact G_sub [3, 4, 1, 0] rfl h
theorem g_m_agrees_182 (K : Nat) (l1 l2 l4 : Int) (M : PM) (Q : Option PV → PM → Prop)
    (h : R32 l4 ∧ (15 ≤ l4 → Q none M) ∧ (¬ 15 ≤ l4 → (0 ≤ ((15 * l1) + l4) ∧ ((15 * l1) + l4) < 90) ∧ R64 (M 58 ((15 * l1) + l4)) ∧ R64 l2 ∧ l2 ≠ 0 ∧ G none (K + 1) jModel_agrees 182 [(0, .inr (.inr 52)), (1, .inl l1), (2, .inr (.inl l2)), (4, .inl (l4 + 1))] [] P0 P0 (mset M 58 ((15 * l1) + l4) (Int.tdiv (M 58 ((15 * l1) + l4)) l2)) Q)) : G none (K + 1) jModel_agrees 182 [(0, .inr (.inr 52)), (1, .inl l1), (2, .inr (.inl l2)), (4, .inl l4)] [] P0 P0 M Q := by
  refine G_iload 3 rfl (ck dc198 (i := 100) rfl) ?_
  refine G_bipush (n := 15) rfl (ck dc198 (i := 101) rfl) ?_
  obtain ⟨o1, h⟩ := h
  refine G_icmp_ge (tgt := 211) (by decide) o1 (by decide) (ck dc198 (i := 102) rfl) (fun c => ?_) (fun c => ?_)
  · replace h := h.1 c
    exact H_vret mf198 (ck dc198 (i := 117) rfl) rfl h
  · replace h := h.2 c
    refine G_aload_n 0 rfl rfl (ck dc198 (i := 103) rfl) ?_
    refine H_getR mf198 (ck dc198 (i := 104) rfl) fw_Model_38 fc11_10 ly52 ra52 rf52_10 (by decide) ?_
    refine G_bipush (n := 15) rfl (ck dc198 (i := 105) rfl) ?_
    refine G_iload_n 1 rfl rfl (ck dc198 (i := 106) rfl) ?_
    refine G_imul (ck dc198 (i := 107) rfl) ?_
    refine G_iload 3 rfl (ck dc198 (i := 108) rfl) ?_
    refine G_iadd (ck dc198 (i := 109) rfl) ?_
    refine G_dup2 rfl rfl (ck dc198 (i := 110) rfl) ?_
    obtain ⟨o2, h⟩ := h
    refine H_lald (ck dc198 (i := 111) rfl) ly58 (by decide) ra58 o2 (x := (M 58 ((15 * l1) + l4))) rfl ?_
    refine G_lload_n 2 rfl rfl (ck dc198 (i := 112) rfl) ?_
    obtain ⟨o3, h⟩ := h
    obtain ⟨o4, h⟩ := h
    obtain ⟨o5, h⟩ := h
    refine G_ldiv o3 o4 o5 (ck dc198 (i := 113) rfl) ?_
    refine G_last (ck dc198 (i := 114) rfl) ra58 ly58 (by decide) o2 ?_
    refine G_iinc (L' := [(4, .inl (l4 + 1)), (0, .inr (.inr 52)), (1, .inl l1), (2, .inr (.inl l2))]) 3 rfl (mfx.lt mf198 (Nat.le_of_ble_eq_true rfl)) rfl (ck dc198 (i := 115) rfl) ?_
    refine G_goto (tgt := 182) (by decide) (ck dc198 (i := 116) rfl) ?_
    exact G_sub [1, 2, 3, 0] rfl h
theorem c_m_partAt (K : Nat) (a1 a2 a3 : Int) (M : PM) (Q : Option PV → PM → Prop)
    (h : (0 ≤ (((15 * a1) + (3 * a2)) + a3) ∧ (((15 * a1) + (3 * a2)) + a3) < 90) ∧ Q (some (.inr (.inl (M 58 (((15 * a1) + (3 * a2)) + a3))))) M) : Call (K + 1) jModel_partAt [.inr (.inr 52), .inl a1, .inl a2, .inl a3] P0 P0 M Q := by
  refine Call.intro (by decide +kernel) (mfx.le mf212 (Nat.le_of_ble_eq_true rfl)) (Nat.le_refl _) rfl ?_
  refine G_aload_n 0 rfl rfl (ck dc212 (i := 0) rfl) ?_
  refine H_getR mf212 (ck dc212 (i := 1) rfl) fw_Model_38 fc11_10 ly52 ra52 rf52_10 (by decide) ?_
  refine G_bipush (n := 15) rfl (ck dc212 (i := 2) rfl) ?_
  refine G_iload_n 1 rfl rfl (ck dc212 (i := 3) rfl) ?_
  refine G_imul (ck dc212 (i := 4) rfl) ?_
  refine G_iconst (ck dc212 (i := 5) rfl) ?_
  refine G_iload_n 2 rfl rfl (ck dc212 (i := 6) rfl) ?_
  refine G_imul (ck dc212 (i := 7) rfl) ?_
  refine G_iadd (ck dc212 (i := 8) rfl) ?_
  refine G_iload_n 3 rfl rfl (ck dc212 (i := 9) rfl) ?_
  refine G_iadd (ck dc212 (i := 10) rfl) ?_
  obtain ⟨o1, h⟩ := h
  refine H_lald (ck dc212 (i := 11) rfl) ly58 (by decide) ra58 o1 (x := (M 58 (((15 * a1) + (3 * a2)) + a3))) rfl ?_
  exact H_lret mf212 (ck dc212 (i := 12) rfl) rfl h
theorem c_m_getsIn (K : Nat) (a1 a2 : Int) (M : PM) (Q : Option PV → PM → Prop)
    (h : G none (K + 1) jModel_getsIn 5 [(0, .inr (.inr 52)), (1, .inl a1), (2, .inl a2), (3, .inr (.inl 0)), (5, .inl 0)] [] P0 P0 M Q) : Call (K + 1) jModel_getsIn [.inr (.inr 52), .inl a1, .inl a2] P0 P0 M Q := by
  refine Call.intro (by decide +kernel) (mfx.le mf211 (Nat.le_of_ble_eq_true rfl)) (Nat.le_refl _) rfl ?_
  refine G_lconst (v := 0) rfl (ck dc211 (i := 0) rfl) ?_
  refine G_lstore_n (L' := [(3, .inr (.inl 0)), (0, .inr (.inr 52)), (1, .inl a1), (2, .inl a2)]) rfl (mfx.lt mf211 (Nat.le_of_ble_eq_true rfl)) rfl (ck dc211 (i := 1) rfl) ?_
  refine G_iconst (ck dc211 (i := 2) rfl) ?_
  refine G_istore (L' := [(5, .inl 0), (3, .inr (.inl 0)), (0, .inr (.inr 52)), (1, .inl a1), (2, .inl a2)]) (mfx.lt mf211 (Nat.le_of_ble_eq_true rfl)) rfl (ck dc211 (i := 3) rfl) ?_
  exact G_sub [2, 3, 4, 1, 0] rfl h
theorem g_m_getsIn_5 (K : Nat) (l1 l2 l3 l5 : Int) (M : PM) (Q : Option PV → PM → Prop)
    (h : R32 l5 ∧ R32 (M 55 0) ∧ ((M 55 0) ≤ l5 → Q (some (.inr (.inl l3))) M) ∧ (¬ (M 55 0) ≤ l5 → G none (K + 1) jModel_getsIn 19 [(0, .inr (.inr 52)), (1, .inl l1), (2, .inl l2), (3, .inr (.inl l3)), (5, .inl l5), (6, .inl 0)] [] P0 P0 M Q)) : G none (K + 1) jModel_getsIn 5 [(0, .inr (.inr 52)), (1, .inl l1), (2, .inl l2), (3, .inr (.inl l3)), (5, .inl l5)] [] P0 P0 M Q := by
  refine G_iload 4 rfl (ck dc211 (i := 4) rfl) ?_
  refine G_aload_n 0 rfl rfl (ck dc211 (i := 5) rfl) ?_
  refine H_getR mf211 (ck dc211 (i := 6) rfl) fw_Model_5 fc11_3 ly52 ra52 rf52_3 (by decide) ?_
  refine G_iconst (ck dc211 (i := 7) rfl) ?_
  refine H_iald (ck dc211 (i := 8) rfl) ly55 (by decide) ra55 (by decide) (x := (M 55 0)) rfl ?_
  obtain ⟨o1, h⟩ := h
  obtain ⟨o2, h⟩ := h
  refine G_icmp_ge (tgt := 60) (by decide) o1 o2 (ck dc211 (i := 9) rfl) (fun c => ?_) (fun c => ?_)
  · replace h := h.1 c
    refine G_lload_n 3 rfl rfl (ck dc211 (i := 34) rfl) ?_
    exact H_lret mf211 (ck dc211 (i := 35) rfl) rfl h
  · replace h := h.2 c
    refine G_iconst (ck dc211 (i := 10) rfl) ?_
    refine G_istore (L' := [(6, .inl 0), (0, .inr (.inr 52)), (1, .inl l1), (2, .inl l2), (3, .inr (.inl l3)), (5, .inl l5)]) (mfx.lt mf211 (Nat.le_of_ble_eq_true rfl)) rfl (ck dc211 (i := 11) rfl) ?_
    exact G_sub [1, 2, 3, 4, 5, 0] rfl h
theorem g_m_getsIn_19 (K : Nat) (l1 l2 l3 l5 l6 : Int) (M : PM) (Q : Option PV → PM → Prop)
    (h : R32 l6 ∧ (3 ≤ l6 → G none (K + 1) jModel_getsIn 5 [(0, .inr (.inr 52)), (1, .inl l1), (2, .inl l2), (3, .inr (.inl l3)), (5, .inl (l5 + 1))] [] P0 P0 M Q) ∧ (¬ 3 ≤ l6 → Call K jModel_owes [.inr (.inr 52), .inl l5, .inl l2, .inl l6] P0 P0 M (retI fun r2 M3 => R32 r2 ∧ Call K jModel_partAt [.inr (.inr 52), .inl l1, .inl l5, .inl l6] P0 P0 M3 (retL fun r5 M6 => G none (K + 1) jModel_getsIn 19 [(0, .inr (.inr 52)), (1, .inl l1), (2, .inl l2), (3, .inr (.inl (l3 + (r2 * r5)))), (5, .inl l5), (6, .inl (l6 + 1))] [] P0 P0 M6 Q)))) : G none (K + 1) jModel_getsIn 19 [(0, .inr (.inr 52)), (1, .inl l1), (2, .inl l2), (3, .inr (.inl l3)), (5, .inl l5), (6, .inl l6)] [] P0 P0 M Q := by
  refine G_iload 5 rfl (ck dc211 (i := 12) rfl) ?_
  refine G_iconst (ck dc211 (i := 13) rfl) ?_
  obtain ⟨o1, h⟩ := h
  refine G_icmp_ge (tgt := 54) (by decide) o1 (by decide) (ck dc211 (i := 14) rfl) (fun c => ?_) (fun c => ?_)
  · replace h := h.1 c
    refine G_iinc (L' := [(5, .inl (l5 + 1)), (0, .inr (.inr 52)), (1, .inl l1), (2, .inl l2), (3, .inr (.inl l3)), (6, .inl l6)]) 4 rfl (mfx.lt mf211 (Nat.le_of_ble_eq_true rfl)) rfl (ck dc211 (i := 32) rfl) ?_
    refine G_goto (tgt := 5) (by decide) (ck dc211 (i := 33) rfl) ?_
    exact G_sub [1, 2, 3, 4, 0] rfl h
  · replace h := h.2 c
    refine G_lload_n 3 rfl rfl (ck dc211 (i := 15) rfl) ?_
    refine G_aload_n 0 rfl rfl (ck dc211 (i := 16) rfl) ?_
    refine G_iload 4 rfl (ck dc211 (i := 17) rfl) ?_
    refine G_iload_n 2 rfl rfl (ck dc211 (i := 18) rfl) ?_
    refine G_iload 5 rfl (ck dc211 (i := 19) rfl) ?_
    refine H_vI mf211 (As := [.inl l5, .inl l2, .inl l6]) (st := [.inr (.inl l3)]) (ck dc211 (i := 20) rfl) lk_Model_103 rfl rfl (Nat.le_of_ble_eq_true rfl) ly52 ra52 ⟨Nat.le_refl _, Nat.le_refl _⟩ h (fun r2 M3 h => ?_)
    obtain ⟨o4, h⟩ := h
    refine G_i2l o4 (ck dc211 (i := 21) rfl) ?_
    refine G_aload_n 0 rfl rfl (ck dc211 (i := 22) rfl) ?_
    refine G_iload_n 1 rfl rfl (ck dc211 (i := 23) rfl) ?_
    refine G_iload 4 rfl (ck dc211 (i := 24) rfl) ?_
    refine G_iload 5 rfl (ck dc211 (i := 25) rfl) ?_
    refine H_vL mf211 (As := [.inl l1, .inl l5, .inl l6]) (st := [.inr (.inl r2), .inr (.inl l3)]) (ck dc211 (i := 26) rfl) lk_Model_199 rfl rfl (Nat.le_of_ble_eq_true rfl) ly52 ra52 ⟨Nat.le_refl _, Nat.le_refl _⟩ h (fun r5 M6 h => ?_)
    refine G_lmul (ck dc211 (i := 27) rfl) ?_
    refine G_ladd (ck dc211 (i := 28) rfl) ?_
    refine G_lstore_n (L' := [(3, .inr (.inl (l3 + (r2 * r5)))), (0, .inr (.inr 52)), (1, .inl l1), (2, .inl l2), (5, .inl l5), (6, .inl l6)]) rfl (mfx.lt mf211 (Nat.le_of_ble_eq_true rfl)) rfl (ck dc211 (i := 29) rfl) ?_
    refine G_iinc (L' := [(6, .inl (l6 + 1)), (3, .inr (.inl (l3 + (r2 * r5)))), (0, .inr (.inr 52)), (1, .inl l1), (2, .inl l2), (5, .inl l5)]) 5 rfl (mfx.lt mf211 (Nat.le_of_ble_eq_true rfl)) rfl (ck dc211 (i := 30) rfl) ?_
    refine G_goto (tgt := 19) (by decide) (ck dc211 (i := 31) rfl) ?_
    exact G_sub [2, 3, 4, 1, 5, 0] rfl h
theorem c_m_worth (K : Nat) (a1 a2 : Int) (M : PM) (Q : Option PV → PM → Prop)
    (h : (0 ≤ a2 ∧ a2 < 5) ∧ R32 (M 61 a2) ∧ (0 ≤ a1 ∧ a1 < 6) ∧ Call K jModel_getsIn [.inr (.inr 52), .inl a1, .inl a2] P0 P0 M (retL fun r4 M5 => Q (some (.inr (.inl (((M 61 a2) * (M 59 a1)) + r4)))) M5)) : Call (K + 1) jModel_worth [.inr (.inr 52), .inl a1, .inl a2] P0 P0 M Q := by
  refine Call.intro (by decide +kernel) (mfx.le mf210 (Nat.le_of_ble_eq_true rfl)) (Nat.le_refl _) rfl ?_
  refine G_aload_n 0 rfl rfl (ck dc210 (i := 0) rfl) ?_
  refine H_getR mf210 (ck dc210 (i := 1) rfl) fw_Model_47 fc11_14 ly52 ra52 rf52_14 (by decide) ?_
  refine G_iload_n 2 rfl rfl (ck dc210 (i := 2) rfl) ?_
  obtain ⟨o1, h⟩ := h
  refine H_iald (ck dc210 (i := 3) rfl) ly61 (by decide) ra61 o1 (x := (M 61 a2)) rfl ?_
  obtain ⟨o2, h⟩ := h
  refine G_i2l o2 (ck dc210 (i := 4) rfl) ?_
  refine G_aload_n 0 rfl rfl (ck dc210 (i := 5) rfl) ?_
  refine H_getR mf210 (ck dc210 (i := 6) rfl) fw_Model_41 fc11_11 ly52 ra52 rf52_11 (by decide) ?_
  refine G_iload_n 1 rfl rfl (ck dc210 (i := 7) rfl) ?_
  obtain ⟨o3, h⟩ := h
  refine H_lald (ck dc210 (i := 8) rfl) ly59 (by decide) ra59 o3 (x := (M 59 a1)) rfl ?_
  refine G_lmul (ck dc210 (i := 9) rfl) ?_
  refine G_aload_n 0 rfl rfl (ck dc210 (i := 10) rfl) ?_
  refine G_iload_n 1 rfl rfl (ck dc210 (i := 11) rfl) ?_
  refine G_iload_n 2 rfl rfl (ck dc210 (i := 12) rfl) ?_
  refine H_vL mf210 (As := [.inl a1, .inl a2]) (st := [.inr (.inl ((M 61 a2) * (M 59 a1)))]) (ck dc210 (i := 13) rfl) lk_Model_202 rfl rfl (Nat.le_of_ble_eq_true rfl) ly52 ra52 ⟨Nat.le_refl _, Nat.le_refl _⟩ h (fun r4 M5 h => ?_)
  refine G_ladd (ck dc210 (i := 14) rfl) ?_
  exact H_lret mf210 (ck dc210 (i := 15) rfl) rfl h
theorem c_m_dueInAll (K : Nat) (a1 : Int) (M : PM) (Q : Option PV → PM → Prop)
    (h : Call K jModel_due [.inr (.inr 52), .inl a1, .inl 0] P0 P0 M (retI fun r1 M2 => Call K jModel_due [.inr (.inr 52), .inl a1, .inl 1] P0 P0 M2 (retI fun r3 M4 => Call K jModel_due [.inr (.inr 52), .inl a1, .inl 2] P0 P0 M4 (retI fun r5 M6 => Q (some (.inl ((r1 + r3) + r5))) M6)))) : Call (K + 1) jModel_dueInAll [.inr (.inr 52), .inl a1] P0 P0 M Q := by
  refine Call.intro (by decide +kernel) (mfx.le mf213 (Nat.le_of_ble_eq_true rfl)) (Nat.le_refl _) rfl ?_
  refine G_aload_n 0 rfl rfl (ck dc213 (i := 0) rfl) ?_
  refine G_iload_n 1 rfl rfl (ck dc213 (i := 1) rfl) ?_
  refine G_iconst (ck dc213 (i := 2) rfl) ?_
  refine H_vI mf213 (As := [.inl a1, .inl 0]) (st := []) (ck dc213 (i := 3) rfl) lk_Model_106 rfl rfl (Nat.le_of_ble_eq_true rfl) ly52 ra52 ⟨Nat.le_refl _, Nat.le_refl _⟩ h (fun r1 M2 h => ?_)
  refine G_aload_n 0 rfl rfl (ck dc213 (i := 4) rfl) ?_
  refine G_iload_n 1 rfl rfl (ck dc213 (i := 5) rfl) ?_
  refine G_iconst (ck dc213 (i := 6) rfl) ?_
  refine H_vI mf213 (As := [.inl a1, .inl 1]) (st := [.inl r1]) (ck dc213 (i := 7) rfl) lk_Model_106 rfl rfl (Nat.le_of_ble_eq_true rfl) ly52 ra52 ⟨Nat.le_refl _, Nat.le_refl _⟩ h (fun r3 M4 h => ?_)
  refine G_iadd (ck dc213 (i := 8) rfl) ?_
  refine G_aload_n 0 rfl rfl (ck dc213 (i := 9) rfl) ?_
  refine G_iload_n 1 rfl rfl (ck dc213 (i := 10) rfl) ?_
  refine G_iconst (ck dc213 (i := 11) rfl) ?_
  refine H_vI mf213 (As := [.inl a1, .inl 2]) (st := [.inl (r1 + r3)]) (ck dc213 (i := 12) rfl) lk_Model_106 rfl rfl (Nat.le_of_ble_eq_true rfl) ly52 ra52 ⟨Nat.le_refl _, Nat.le_refl _⟩ h (fun r5 M6 h => ?_)
  refine G_iadd (ck dc213 (i := 13) rfl) ?_
  exact H_iretI mf213 (ck dc213 (i := 14) rfl) rfl h
theorem c_m_failsMore (K : Nat) (M : PM) (Q : Option PV → PM → Prop)
    (h : G none (K + 1) jModel_failsMore 4 [(0, .inr (.inr 52)), (1, .inl 0), (2, .inl 0)] [] P0 P0 M Q) : Call (K + 1) jModel_failsMore [.inr (.inr 52)] P0 P0 M Q := by
  refine Call.intro (by decide +kernel) (mfx.le mf209 (Nat.le_of_ble_eq_true rfl)) (Nat.le_refl _) rfl ?_
  refine G_iconst (ck dc209 (i := 0) rfl) ?_
  refine G_istore_n (L' := [(1, .inl 0), (0, .inr (.inr 52))]) rfl (mfx.lt mf209 (Nat.le_of_ble_eq_true rfl)) rfl (ck dc209 (i := 1) rfl) ?_
  refine G_iconst (ck dc209 (i := 2) rfl) ?_
  refine G_istore_n (L' := [(2, .inl 0), (1, .inl 0), (0, .inr (.inr 52))]) rfl (mfx.lt mf209 (Nat.le_of_ble_eq_true rfl)) rfl (ck dc209 (i := 3) rfl) ?_
  exact G_sub [2, 1, 0] rfl h
set_option maxHeartbeats 20000000 in
theorem g_m_failsMore_4 (K : Nat) (l1 l2 : Int) (M : PM) (Q : Option PV → PM → Prop)
    (h : R32 l2 ∧ R32 (M 55 0) ∧ ((M 55 0) ≤ l2 → Q (some (.inl l1)) M) ∧ (¬ (M 55 0) ≤ l2 → Call K jModel_isIn [.inl (M 52 13), .inl l2] P0 P0 M (retI fun r3 M4 => R32 r3 ∧ (¬ r3 = 0 → G none (K + 1) jModel_failsMore 4 [(0, .inr (.inr 52)), (1, .inl l1), (2, .inl (l2 + 1))] [] P0 P0 M4 Q) ∧ (r3 = 0 → Call K jModel_worth [.inr (.inr 52), .inl (M4 52 9), .inl l2] P0 P0 M4 (retL fun r6 M7 => Call K jModel_dueInAll [.inr (.inr 52), .inl l2] P0 P0 M7 (retI fun r8 M9 => R32 r8 ∧ (0 ≤ (M9 52 9) ∧ (M9 52 9) < 6) ∧ R64 r6 ∧ R64 (r8 * (M9 59 (M9 52 9))) ∧ ((r8 * (M9 59 (M9 52 9))) ≤ r6 → G none (K + 1) jModel_failsMore 4 [(0, .inr (.inr 52)), (1, .inl l1), (2, .inl (l2 + 1))] [] P0 P0 M9 Q) ∧ (¬ (r8 * (M9 59 (M9 52 9))) ≤ r6 → (0 ≤ l2 ∧ l2 < 5) ∧ G none (K + 1) jModel_failsMore 4 [(0, .inr (.inr 52)), (1, .inl (bOr l1 (bShl 1 l2))), (2, .inl (l2 + 1))] [] P0 P0 (mset M9 60 l2 ((M9 52 9) + 1)) Q))))))) : G none (K + 1) jModel_failsMore 4 [(0, .inr (.inr 52)), (1, .inl l1), (2, .inl l2)] [] P0 P0 M Q := by
  refine G_iload_n 2 rfl rfl (ck dc209 (i := 4) rfl) ?_
  refine G_aload_n 0 rfl rfl (ck dc209 (i := 5) rfl) ?_
  refine H_getR mf209 (ck dc209 (i := 6) rfl) fw_Model_5 fc11_3 ly52 ra52 rf52_3 (by decide) ?_
  refine G_iconst (ck dc209 (i := 7) rfl) ?_
  refine H_iald (ck dc209 (i := 8) rfl) ly55 (by decide) ra55 (by decide) (x := (M 55 0)) rfl ?_
  obtain ⟨o1, h⟩ := h
  obtain ⟨o2, h⟩ := h
  refine G_icmp_ge (tgt := 78) (by decide) o1 o2 (ck dc209 (i := 9) rfl) (fun c => ?_) (fun c => ?_)
  · replace h := h.1 c
    refine G_iload_n 1 rfl rfl (ck dc209 (i := 48) rfl) ?_
    exact H_iretI mf209 (ck dc209 (i := 49) rfl) rfl h
  · replace h := h.2 c
    refine G_aload_n 0 rfl rfl (ck dc209 (i := 10) rfl) ?_
    refine H_getI mf209 (ck dc209 (i := 11) rfl) fw_Model_176 (Or.inl fc11_13) ly52 ra52 (x := (M 52 13)) rfl ?_
    refine G_iload_n 2 rfl rfl (ck dc209 (i := 12) rfl) ?_
    refine H_sZ mf209 (As := [.inl (M 52 13), .inl l2]) (st := []) (ck dc209 (i := 13) rfl) lk_Model_161 rfl rfl (Nat.le_of_ble_eq_true rfl) ⟨Nat.le_refl _, Nat.le_refl _⟩ h (fun r3 M4 h => ?_)
    obtain ⟨o5, h⟩ := h
    refine G_if_ne (tgt := 72) (by decide) o5 (ck dc209 (i := 14) rfl) (fun c => ?_) (fun c => ?_)
    · replace h := h.1 c
      refine G_iinc (L' := [(2, .inl (l2 + 1)), (0, .inr (.inr 52)), (1, .inl l1)]) 2 rfl (mfx.lt mf209 (Nat.le_of_ble_eq_true rfl)) rfl (ck dc209 (i := 46) rfl) ?_
      refine G_goto (tgt := 4) (by decide) (ck dc209 (i := 47) rfl) ?_
      exact G_sub [1, 2, 0] rfl h
    · replace h := h.2 c
      refine G_aload_n 0 rfl rfl (ck dc209 (i := 15) rfl) ?_
      refine G_aload_n 0 rfl rfl (ck dc209 (i := 16) rfl) ?_
      refine H_getI mf209 (ck dc209 (i := 17) rfl) fw_Model_206 (Or.inl fc11_9) ly52 ra52 (x := (M4 52 9)) rfl ?_
      refine G_iload_n 2 rfl rfl (ck dc209 (i := 18) rfl) ?_
      refine H_vL mf209 (As := [.inl (M4 52 9), .inl l2]) (st := []) (ck dc209 (i := 19) rfl) lk_Model_215 rfl rfl (Nat.le_of_ble_eq_true rfl) ly52 ra52 ⟨Nat.le_refl _, Nat.le_refl _⟩ h (fun r6 M7 h => ?_)
      refine G_aload_n 0 rfl rfl (ck dc209 (i := 20) rfl) ?_
      refine G_iload_n 2 rfl rfl (ck dc209 (i := 21) rfl) ?_
      refine H_vI mf209 (As := [.inl l2]) (st := [.inr (.inl r6)]) (ck dc209 (i := 22) rfl) lk_Model_218 rfl rfl (Nat.le_of_ble_eq_true rfl) ly52 ra52 ⟨Nat.le_refl _, Nat.le_refl _⟩ h (fun r8 M9 h => ?_)
      obtain ⟨o10, h⟩ := h
      refine G_i2l o10 (ck dc209 (i := 23) rfl) ?_
      refine G_aload_n 0 rfl rfl (ck dc209 (i := 24) rfl) ?_
      refine H_getR mf209 (ck dc209 (i := 25) rfl) fw_Model_41 fc11_11 ly52 ra52 rf52_11 (by decide) ?_
      refine G_aload_n 0 rfl rfl (ck dc209 (i := 26) rfl) ?_
      refine H_getI mf209 (ck dc209 (i := 27) rfl) fw_Model_206 (Or.inl fc11_9) ly52 ra52 (x := (M9 52 9)) rfl ?_
      obtain ⟨o11, h⟩ := h
      refine H_lald (ck dc209 (i := 28) rfl) ly59 (by decide) ra59 o11 (x := (M9 59 (M9 52 9))) rfl ?_
      refine G_lmul (ck dc209 (i := 29) rfl) ?_
      obtain ⟨o12, h⟩ := h
      obtain ⟨o13, h⟩ := h
      refine G_lif_ge (tgt := 72) (ck dc209 (i := 31) rfl) (by decide) o12 o13 (ck dc209 (i := 30) rfl) (fun c => ?_) (fun c => ?_)
      · replace h := h.1 c
        refine G_iinc (L' := [(2, .inl (l2 + 1)), (0, .inr (.inr 52)), (1, .inl l1)]) 2 rfl (mfx.lt mf209 (Nat.le_of_ble_eq_true rfl)) rfl (ck dc209 (i := 46) rfl) ?_
        refine G_goto (tgt := 4) (by decide) (ck dc209 (i := 47) rfl) ?_
        exact G_sub [1, 2, 0] rfl h
      · replace h := h.2 c
        refine G_iload_n 1 rfl rfl (ck dc209 (i := 32) rfl) ?_
        refine G_iconst (ck dc209 (i := 33) rfl) ?_
        refine G_iload_n 2 rfl rfl (ck dc209 (i := 34) rfl) ?_
        refine G_ishl (ck dc209 (i := 35) rfl) ?_
        refine G_ior (ck dc209 (i := 36) rfl) ?_
        refine G_istore_n (L' := [(1, .inl (bOr l1 (bShl 1 l2))), (0, .inr (.inr 52)), (2, .inl l2)]) rfl (mfx.lt mf209 (Nat.le_of_ble_eq_true rfl)) rfl (ck dc209 (i := 37) rfl) ?_
        refine G_aload_n 1 rfl rfl (ck dc209 (i := 38) rfl) ?_
        refine H_getR mf209 (ck dc209 (i := 39) rfl) fw_Model_44 fc11_12 ly52 ra52 rf52_12 (by decide) ?_
        refine G_iload_n 2 rfl rfl (ck dc209 (i := 40) rfl) ?_
        refine G_aload_n 1 rfl rfl (ck dc209 (i := 41) rfl) ?_
        refine H_getI mf209 (ck dc209 (i := 42) rfl) fw_Model_206 (Or.inl fc11_9) ly52 ra52 (x := (M9 52 9)) rfl ?_
        refine G_iconst (ck dc209 (i := 43) rfl) ?_
        refine G_iadd (ck dc209 (i := 44) rfl) ?_
        obtain ⟨o14, h⟩ := h
        refine G_iast (ck dc209 (i := 45) rfl) ra60 ly60 (by decide) o14 ?_
        refine G_iinc (L' := [(2, .inl (l2 + 1)), (1, .inl (bOr l1 (bShl 1 l2))), (0, .inr (.inr 52))]) 2 rfl (mfx.lt mf209 (Nat.le_of_ble_eq_true rfl)) rfl (ck dc209 (i := 46) rfl) ?_
        refine G_goto (tgt := 4) (by decide) (ck dc209 (i := 47) rfl) ?_
        exact G_sub [2, 1, 0] rfl h
theorem c_m_goesRound (K : Nat) (M : PM) (Q : Option PV → PM → Prop)
    (h : G none (K + 1) jModel_goesRound 12 [(0, .inr (.inr 52)), (1, .inl 0)] [] P0 P0 (mset (mset M 52 13 0) 52 9 0) Q) : Call (K + 1) jModel_goesRound [.inr (.inr 52)] P0 P0 M Q := by
  refine Call.intro (by decide +kernel) (mfx.le mf197 (Nat.le_of_ble_eq_true rfl)) (Nat.le_refl _) rfl ?_
  refine G_aload_n 0 rfl rfl (ck dc197 (i := 0) rfl) ?_
  refine G_iconst (ck dc197 (i := 1) rfl) ?_
  refine H_putI mf197 (ck dc197 (i := 2) rfl) fw_Model_176 fc11_13 ly52 ra52 (Or.inl rfl) ?_
  refine G_aload_n 0 rfl rfl (ck dc197 (i := 3) rfl) ?_
  refine G_iconst (ck dc197 (i := 4) rfl) ?_
  refine H_putI mf197 (ck dc197 (i := 5) rfl) fw_Model_206 fc11_9 ly52 ra52 (Or.inl rfl) ?_
  refine G_iconst (ck dc197 (i := 6) rfl) ?_
  refine G_istore_n (L' := [(1, .inl 0), (0, .inr (.inr 52))]) rfl (mfx.lt mf197 (Nat.le_of_ble_eq_true rfl)) rfl (ck dc197 (i := 7) rfl) ?_
  exact G_sub [1, 0] rfl h
theorem g_m_goesRound_12 (K : Nat) (l1 : Int) (M : PM) (Q : Option PV → PM → Prop)
    (h : R32 l1 ∧ (5 ≤ l1 → Call K jModel_agrees [.inr (.inr 52), .inl 0] P0 P0 M (retV fun M3 => Call K jModel_failsMore [.inr (.inr 52)] P0 P0 M3 (retI fun r4 M5 => G none (K + 1) jModel_goesRound 40 [(0, .inr (.inr 52)), (1, .inl r4)] [] P0 P0 M5 Q))) ∧ (¬ 5 ≤ l1 → (0 ≤ l1 ∧ l1 < 5) ∧ G none (K + 1) jModel_goesRound 12 [(0, .inr (.inr 52)), (1, .inl (l1 + 1))] [] P0 P0 (mset M 60 l1 0) Q)) : G none (K + 1) jModel_goesRound 12 [(0, .inr (.inr 52)), (1, .inl l1)] [] P0 P0 M Q := by
  refine G_iload_n 1 rfl rfl (ck dc197 (i := 8) rfl) ?_
  refine G_iconst (ck dc197 (i := 9) rfl) ?_
  obtain ⟨o1, h⟩ := h
  refine G_icmp_ge (tgt := 30) (by decide) o1 (by decide) (ck dc197 (i := 10) rfl) (fun c => ?_) (fun c => ?_)
  · replace h := h.1 c
    refine G_aload_n 0 rfl rfl (ck dc197 (i := 18) rfl) ?_
    refine G_iconst (ck dc197 (i := 19) rfl) ?_
    refine H_vV mf197 (As := [.inl 0]) (st := []) (ck dc197 (i := 20) rfl) lk_Model_209 rfl rfl (Nat.le_of_ble_eq_true rfl) ly52 ra52 ⟨Nat.le_refl _, Nat.le_refl _⟩ h (fun M3 h => ?_)
    refine G_aload_n 0 rfl rfl (ck dc197 (i := 21) rfl) ?_
    refine H_vI mf197 (As := []) (st := []) (ck dc197 (i := 22) rfl) lk_Model_212 rfl rfl (Nat.le_of_ble_eq_true rfl) ly52 ra52 ⟨Nat.le_refl _, Nat.le_refl _⟩ h (fun r4 M5 h => ?_)
    refine G_istore_n (L' := [(1, .inl r4), (0, .inr (.inr 52))]) rfl (mfx.lt mf197 (Nat.le_of_ble_eq_true rfl)) rfl (ck dc197 (i := 23) rfl) ?_
    exact G_sub [1, 0] rfl h
  · replace h := h.2 c
    refine G_aload_n 0 rfl rfl (ck dc197 (i := 11) rfl) ?_
    refine H_getR mf197 (ck dc197 (i := 12) rfl) fw_Model_44 fc11_12 ly52 ra52 rf52_12 (by decide) ?_
    refine G_iload_n 1 rfl rfl (ck dc197 (i := 13) rfl) ?_
    refine G_iconst (ck dc197 (i := 14) rfl) ?_
    obtain ⟨o6, h⟩ := h
    refine G_iast (ck dc197 (i := 15) rfl) ra60 ly60 (by decide) o6 ?_
    refine G_iinc (L' := [(1, .inl (l1 + 1)), (0, .inr (.inr 52))]) 1 rfl (mfx.lt mf197 (Nat.le_of_ble_eq_true rfl)) rfl (ck dc197 (i := 16) rfl) ?_
    refine G_goto (tgt := 12) (by decide) (ck dc197 (i := 17) rfl) ?_
    exact G_sub [1, 0] rfl h
theorem g_m_goesRound_40 (K : Nat) (l1 : Int) (M : PM) (Q : Option PV → PM → Prop)
    (h : R32 l1 ∧ (l1 = 0 → Q none M) ∧ (¬ l1 = 0 → Call K jModel_agrees [.inr (.inr 52), .inl ((M 52 9) + 1)] P0 P0 (mset (mset M 52 13 (bOr (M 52 13) l1)) 52 9 ((M 52 9) + 1)) (retV fun M3 => Call K jModel_failsMore [.inr (.inr 52)] P0 P0 M3 (retI fun r4 M5 => G none (K + 1) jModel_goesRound 40 [(0, .inr (.inr 52)), (1, .inl r4)] [] P0 P0 M5 Q)))) : G none (K + 1) jModel_goesRound 40 [(0, .inr (.inr 52)), (1, .inl l1)] [] P0 P0 M Q := by
  refine G_iload_n 1 rfl rfl (ck dc197 (i := 24) rfl) ?_
  obtain ⟨o1, h⟩ := h
  refine G_if_eq (tgt := 80) (by decide) o1 (ck dc197 (i := 25) rfl) (fun c => ?_) (fun c => ?_)
  · replace h := h.1 c
    exact H_vret mf197 (ck dc197 (i := 46) rfl) rfl h
  · replace h := h.2 c
    refine G_aload_n 0 rfl rfl (ck dc197 (i := 26) rfl) ?_
    refine G_dup rfl (ck dc197 (i := 27) rfl) ?_
    refine H_getI mf197 (ck dc197 (i := 28) rfl) fw_Model_176 (Or.inl fc11_13) ly52 ra52 (x := (M 52 13)) rfl ?_
    refine G_iload_n 1 rfl rfl (ck dc197 (i := 29) rfl) ?_
    refine G_ior (ck dc197 (i := 30) rfl) ?_
    refine H_putI mf197 (ck dc197 (i := 31) rfl) fw_Model_176 fc11_13 ly52 ra52 (Or.inl rfl) ?_
    refine G_aload_n 0 rfl rfl (ck dc197 (i := 32) rfl) ?_
    refine G_dup rfl (ck dc197 (i := 33) rfl) ?_
    refine H_getI mf197 (ck dc197 (i := 34) rfl) fw_Model_206 (Or.inl fc11_9) ly52 ra52 (x := (M 52 9)) (by simp [mset, mcpy, mclr]) ?_
    refine G_iconst (ck dc197 (i := 35) rfl) ?_
    refine G_iadd (ck dc197 (i := 36) rfl) ?_
    refine H_putI mf197 (ck dc197 (i := 37) rfl) fw_Model_206 fc11_9 ly52 ra52 (Or.inl rfl) ?_
    refine G_aload_n 0 rfl rfl (ck dc197 (i := 38) rfl) ?_
    refine G_aload_n 0 rfl rfl (ck dc197 (i := 39) rfl) ?_
    refine H_getI mf197 (ck dc197 (i := 40) rfl) fw_Model_206 (Or.inl fc11_9) ly52 ra52 (x := ((M 52 9) + 1)) (by simp [mset, mcpy]) ?_
    refine H_vV mf197 (As := [.inl ((M 52 9) + 1)]) (st := []) (ck dc197 (i := 41) rfl) lk_Model_209 rfl rfl (Nat.le_of_ble_eq_true rfl) ly52 ra52 ⟨Nat.le_refl _, Nat.le_refl _⟩ h (fun M3 h => ?_)
    refine G_aload_n 0 rfl rfl (ck dc197 (i := 42) rfl) ?_
    refine H_vI mf197 (As := []) (st := []) (ck dc197 (i := 43) rfl) lk_Model_212 rfl rfl (Nat.le_of_ble_eq_true rfl) ly52 ra52 ⟨Nat.le_refl _, Nat.le_refl _⟩ h (fun r4 M5 h => ?_)
    refine G_istore_n (L' := [(1, .inl r4), (0, .inr (.inr 52))]) rfl (mfx.lt mf197 (Nat.le_of_ble_eq_true rfl)) rfl (ck dc197 (i := 44) rfl) ?_
    refine G_goto (tgt := 40) (by decide) (ck dc197 (i := 45) rfl) ?_
    exact G_sub [1, 0] rfl h
theorem c_m_clears (K : Nat) (M : PM) (Q : Option PV → PM → Prop)
    (h : R32 (M 52 4) ∧ (¬ (M 52 4) = 0 → Q none M) ∧ ((M 52 4) = 0 → Call K jModel_supposesCash [.inr (.inr 52)] P0 P0 M (retV fun M3 => Call K jModel_goesRound [.inr (.inr 52)] P0 P0 M3 (retV fun M5 => Q none (mset M5 52 4 1))))) : Call (K + 1) jModel_clears [.inr (.inr 52)] P0 P0 M Q := by
  refine Call.intro (by decide +kernel) (mfx.le mf195 (Nat.le_of_ble_eq_true rfl)) (Nat.le_refl _) rfl ?_
  refine G_aload_n 0 rfl rfl (ck dc195 (i := 0) rfl) ?_
  refine H_getI mf195 (ck dc195 (i := 1) rfl) fw_Model_95 (Or.inr fc11_4) ly52 ra52 (x := (M 52 4)) rfl ?_
  obtain ⟨o1, h⟩ := h
  refine G_if_ne (tgt := 20) (by decide) o1 (ck dc195 (i := 2) rfl) (fun c => ?_) (fun c => ?_)
  · replace h := h.1 c
    exact H_vret mf195 (ck dc195 (i := 10) rfl) rfl h
  · replace h := h.2 c
    refine G_aload_n 0 rfl rfl (ck dc195 (i := 3) rfl) ?_
    refine H_vV mf195 (As := []) (st := []) (ck dc195 (i := 4) rfl) lk_Model_221 rfl rfl (Nat.le_of_ble_eq_true rfl) ly52 ra52 ⟨Nat.le_refl _, Nat.le_refl _⟩ h (fun M3 h => ?_)
    refine G_aload_n 0 rfl rfl (ck dc195 (i := 5) rfl) ?_
    refine H_vV mf195 (As := []) (st := []) (ck dc195 (i := 6) rfl) lk_Model_224 rfl rfl (Nat.le_of_ble_eq_true rfl) ly52 ra52 ⟨Nat.le_refl _, Nat.le_refl _⟩ h (fun M5 h => ?_)
    refine G_aload_n 0 rfl rfl (ck dc195 (i := 7) rfl) ?_
    refine G_iconst (ck dc195 (i := 8) rfl) ?_
    refine H_putZ mf195 (ck dc195 (i := 9) rfl) fw_Model_95 fc11_4 ly52 ra52 (Or.inl rfl) (Or.inr rfl) ?_
    exact H_vret mf195 (ck dc195 (i := 10) rfl) rfl h
theorem c_m_waves (K : Nat) (M : PM) (Q : Option PV → PM → Prop)
    (h : Call K jModel_clears [.inr (.inr 52)] P0 P0 M (retV fun M2 => Q (some (.inl (M2 52 9))) M2)) : Call (K + 1) jModel_waves [.inr (.inr 52)] P0 P0 M Q := by
  refine Call.intro (by decide +kernel) (mfx.le mf194 (Nat.le_of_ble_eq_true rfl)) (Nat.le_refl _) rfl ?_
  refine G_aload_n 0 rfl rfl (ck dc194 (i := 0) rfl) ?_
  refine H_vV mf194 (As := []) (st := []) (ck dc194 (i := 1) rfl) lk_Model_230 rfl rfl (Nat.le_of_ble_eq_true rfl) ly52 ra52 ⟨Nat.le_refl _, Nat.le_refl _⟩ h (fun M2 h => ?_)
  refine G_aload_n 0 rfl rfl (ck dc194 (i := 2) rfl) ?_
  refine H_getI mf194 (ck dc194 (i := 3) rfl) fw_Model_206 (Or.inl fc11_9) ly52 ra52 (x := (M2 52 9)) rfl ?_
  exact H_iretI mf194 (ck dc194 (i := 4) rfl) rfl h
theorem c_m_wave (K : Nat) (a1 : Int) (M : PM) (Q : Option PV → PM → Prop)
    (h : Call K jModel_isHouse [.inr (.inr 52), .inl a1] P0 P0 M (retI fun r1 M2 => R32 r1 ∧ (¬ r1 = 0 → Call K jModel_clears [.inr (.inr 52)] P0 P0 M2 (retV fun M5 => (0 ≤ a1 ∧ a1 < 5) ∧ Q (some (.inl (M5 60 a1))) M5)) ∧ (r1 = 0 → Q (some (.inl (-1))) M2))) : Call (K + 1) jModel_wave [.inr (.inr 52), .inl a1] P0 P0 M Q := by
  refine Call.intro (by decide +kernel) (mfx.le mf214 (Nat.le_of_ble_eq_true rfl)) (Nat.le_refl _) rfl ?_
  refine G_aload_n 0 rfl rfl (ck dc214 (i := 0) rfl) ?_
  refine G_iload_n 1 rfl rfl (ck dc214 (i := 1) rfl) ?_
  refine H_vZ mf214 (As := [.inl a1]) (st := []) (ck dc214 (i := 2) rfl) lk_Model_13 rfl rfl (Nat.le_of_ble_eq_true rfl) ly52 ra52 ⟨Nat.le_refl _, Nat.le_refl _⟩ h (fun r1 M2 h => ?_)
  obtain ⟨o3, h⟩ := h
  refine G_if_ne (tgt := 10) (by decide) o3 (ck dc214 (i := 3) rfl) (fun c => ?_) (fun c => ?_)
  · replace h := h.1 c
    refine G_aload_n 0 rfl rfl (ck dc214 (i := 6) rfl) ?_
    refine H_vV mf214 (As := []) (st := []) (ck dc214 (i := 7) rfl) lk_Model_230 rfl rfl (Nat.le_of_ble_eq_true rfl) ly52 ra52 ⟨Nat.le_refl _, Nat.le_refl _⟩ h (fun M5 h => ?_)
    refine G_aload_n 0 rfl rfl (ck dc214 (i := 8) rfl) ?_
    refine H_getR mf214 (ck dc214 (i := 9) rfl) fw_Model_44 fc11_12 ly52 ra52 rf52_12 (by decide) ?_
    refine G_iload_n 1 rfl rfl (ck dc214 (i := 10) rfl) ?_
    obtain ⟨o6, h⟩ := h
    refine H_iald (ck dc214 (i := 11) rfl) ly60 (by decide) ra60 o6 (x := (M5 60 a1)) rfl ?_
    exact H_iretI mf214 (ck dc214 (i := 12) rfl) rfl h
  · replace h := h.2 c
    refine G_iconst (ck dc214 (i := 4) rfl) ?_
    exact H_iretI mf214 (ck dc214 (i := 5) rfl) rfl h
theorem c_m_fails (K : Nat) (M : PM) (Q : Option PV → PM → Prop)
    (h : Call K jModel_clears [.inr (.inr 52)] P0 P0 M (retV fun M2 => Q (some (.inl (M2 52 13))) M2)) : Call (K + 1) jModel_fails [.inr (.inr 52)] P0 P0 M Q := by
  refine Call.intro (by decide +kernel) (mfx.le mf215 (Nat.le_of_ble_eq_true rfl)) (Nat.le_refl _) rfl ?_
  refine G_aload_n 0 rfl rfl (ck dc215 (i := 0) rfl) ?_
  refine H_vV mf215 (As := []) (st := []) (ck dc215 (i := 1) rfl) lk_Model_230 rfl rfl (Nat.le_of_ble_eq_true rfl) ly52 ra52 ⟨Nat.le_refl _, Nat.le_refl _⟩ h (fun M2 h => ?_)
  refine G_aload_n 0 rfl rfl (ck dc215 (i := 2) rfl) ?_
  refine H_getI mf215 (ck dc215 (i := 3) rfl) fw_Model_176 (Or.inl fc11_13) ly52 ra52 (x := (M2 52 13)) rfl ?_
  exact H_iretI mf215 (ck dc215 (i := 4) rfl) rfl h
theorem c_model_isSide (K : Nat) (a1 : Int) (M : PM) (Q : Option PV → PM → Prop)
    (h : R32 a1 ∧ (a1 = 0 → Q (some (.inl 1)) M) ∧ (¬ a1 = 0 → (¬ a1 = 1 → Q (some (.inl 0)) M) ∧ (a1 = 1 → Q (some (.inl 1)) M))) : Call (K + 1) jModel_isSide [.inl a1] P0 P0 M Q := by
  refine Call.intro (by decide +kernel) (mfx.le mf218 (Nat.le_of_ble_eq_true rfl)) (Nat.le_refl _) rfl ?_
  refine G_iload_n 0 rfl rfl (ck dc218 (i := 0) rfl) ?_
  obtain ⟨o1, h⟩ := h
  refine G_if_eq (tgt := 9) (by decide) o1 (ck dc218 (i := 1) rfl) (fun c => ?_) (fun c => ?_)
  · replace h := h.1 c
    refine G_iconst (ck dc218 (i := 5) rfl) ?_
    refine G_goto (tgt := 14) (by decide) (ck dc218 (i := 6) rfl) ?_
    exact H_iretZ mf218 (ck dc218 (i := 8) rfl) rfl (Or.inr rfl) h
  · replace h := h.2 c
    refine G_iload_n 0 rfl rfl (ck dc218 (i := 2) rfl) ?_
    refine G_iconst (ck dc218 (i := 3) rfl) ?_
    refine G_icmp_ne (tgt := 13) (by decide) o1 (by decide) (ck dc218 (i := 4) rfl) (fun c => ?_) (fun c => ?_)
    · replace h := h.1 c
      refine G_iconst (ck dc218 (i := 7) rfl) ?_
      exact H_iretZ mf218 (ck dc218 (i := 8) rfl) rfl (Or.inl rfl) h
    · replace h := h.2 c
      refine G_iconst (ck dc218 (i := 5) rfl) ?_
      refine G_goto (tgt := 14) (by decide) (ck dc218 (i := 6) rfl) ?_
      exact H_iretZ mf218 (ck dc218 (i := 8) rfl) rfl (Or.inr rfl) h
theorem c_model_lowest (K : Nat) (a1 a2 a3 : Int) (M : PM) (Q : Option PV → PM → Prop)
    (h : Call K jModel_divisor [.inr (.inl a2), .inr (.inl a1)] P0 P0 M (retL fun r1 M2 => R32 a3 ∧ (¬ a3 = 0 → R64 a2 ∧ R64 r1 ∧ r1 ≠ 0 ∧ Q (some (.inr (.inl (Int.tdiv a2 r1)))) M2) ∧ (a3 = 0 → R64 a1 ∧ R64 r1 ∧ r1 ≠ 0 ∧ Q (some (.inr (.inl (Int.tdiv a1 r1)))) M2))) : Call (K + 1) jModel_lowest [.inr (.inl a1), .inr (.inl a2), .inl a3] P0 P0 M Q := by
  refine Call.intro (by decide +kernel) (mfx.le mf219 (Nat.le_of_ble_eq_true rfl)) (Nat.le_refl _) rfl ?_
  refine G_lload_n 1 rfl rfl (ck dc219 (i := 0) rfl) ?_
  refine G_lload_n 0 rfl rfl (ck dc219 (i := 1) rfl) ?_
  refine H_sL mf219 (As := [.inr (.inl a2), .inr (.inl a1)]) (st := []) (ck dc219 (i := 2) rfl) lk_Model_195 rfl rfl (Nat.le_of_ble_eq_true rfl) ⟨Nat.le_refl _, Nat.le_refl _⟩ h (fun r1 M2 h => ?_)
  refine G_lstore (L' := [(5, .inr (.inl r1)), (0, .inr (.inl a1)), (2, .inr (.inl a2)), (4, .inl a3)]) (mfx.lt mf219 (Nat.le_of_ble_eq_true rfl)) rfl (ck dc219 (i := 3) rfl) ?_
  refine G_iload 3 rfl (ck dc219 (i := 4) rfl) ?_
  obtain ⟨o3, h⟩ := h
  refine G_if_ne (tgt := 19) (by decide) o3 (ck dc219 (i := 5) rfl) (fun c => ?_) (fun c => ?_)
  · replace h := h.1 c
    refine G_lload_n 2 rfl rfl (ck dc219 (i := 10) rfl) ?_
    refine G_lload 0 rfl (ck dc219 (i := 11) rfl) ?_
    obtain ⟨o4, h⟩ := h
    obtain ⟨o5, h⟩ := h
    obtain ⟨o6, h⟩ := h
    refine G_ldiv o4 o5 o6 (ck dc219 (i := 12) rfl) ?_
    exact H_lret mf219 (ck dc219 (i := 13) rfl) rfl h
  · replace h := h.2 c
    refine G_lload_n 1 rfl rfl (ck dc219 (i := 6) rfl) ?_
    refine G_lload 0 rfl (ck dc219 (i := 7) rfl) ?_
    obtain ⟨o7, h⟩ := h
    obtain ⟨o8, h⟩ := h
    obtain ⟨o9, h⟩ := h
    refine G_ldiv o7 o8 o9 (ck dc219 (i := 8) rfl) ?_
    refine G_goto (tgt := 23) (by decide) (ck dc219 (i := 9) rfl) ?_
    exact H_lret mf219 (ck dc219 (i := 13) rfl) rfl h
set_option maxHeartbeats 20000000 in
theorem c_m_partIn (K : Nat) (a1 a2 a3 a4 : Int) (M : PM) (Q : Option PV → PM → Prop)
    (h : Call K jModel_clears [.inr (.inr 52)] P0 P0 M (retV fun M2 => R32 a1 ∧ R32 (M2 52 9) ∧ Call K jModel_within [.inr (.inl a1), .inr (.inl 0), .inr (.inl (M2 52 9))] P0 P0 M2 (retI fun r5 M6 => R32 r5 ∧ (r5 = 0 → Q (some (.inr (.inl (-9223372036854775808)))) M6) ∧ (¬ r5 = 0 → Call K jModel_isHouse [.inr (.inr 52), .inl a2] P0 P0 M6 (retI fun r8 M9 => R32 r8 ∧ (r8 = 0 → Q (some (.inr (.inl (-9223372036854775808)))) M9) ∧ (¬ r8 = 0 → Call K jModel_isClass [.inl a3] P0 P0 M9 (retI fun r11 M12 => R32 r11 ∧ (r11 = 0 → Q (some (.inr (.inl (-9223372036854775808)))) M12) ∧ (¬ r11 = 0 → Call K jModel_isSide [.inl a4] P0 P0 M12 (retI fun r14 M15 => R32 r14 ∧ (¬ r14 = 0 → Call K jModel_partAt [.inr (.inr 52), .inl a1, .inl a2, .inl a3] P0 P0 M15 (retL fun r17 M18 => (0 ≤ a1 ∧ a1 < 6) ∧ Call K jModel_lowest [.inr (.inl r17), .inr (.inl (M18 59 a1)), .inl a4] P0 P0 M18 (retL fun r20 M21 => Q (some (.inr (.inl r20))) M21))) ∧ (r14 = 0 → Q (some (.inr (.inl (-9223372036854775808)))) M15)))))))))) : Call (K + 1) jModel_partIn [.inr (.inr 52), .inl a1, .inl a2, .inl a3, .inl a4] P0 P0 M Q := by
  refine Call.intro (by decide +kernel) (mfx.le mf217 (Nat.le_of_ble_eq_true rfl)) (Nat.le_refl _) rfl ?_
  refine G_aload_n 0 rfl rfl (ck dc217 (i := 0) rfl) ?_
  refine H_vV mf217 (As := []) (st := []) (ck dc217 (i := 1) rfl) lk_Model_230 rfl rfl (Nat.le_of_ble_eq_true rfl) ly52 ra52 ⟨Nat.le_refl _, Nat.le_refl _⟩ h (fun M2 h => ?_)
  refine G_iload_n 1 rfl rfl (ck dc217 (i := 2) rfl) ?_
  obtain ⟨o3, h⟩ := h
  refine G_i2l o3 (ck dc217 (i := 3) rfl) ?_
  refine G_lconst (v := 0) rfl (ck dc217 (i := 4) rfl) ?_
  refine G_aload_n 0 rfl rfl (ck dc217 (i := 5) rfl) ?_
  refine H_getI mf217 (ck dc217 (i := 6) rfl) fw_Model_206 (Or.inl fc11_9) ly52 ra52 (x := (M2 52 9)) rfl ?_
  obtain ⟨o4, h⟩ := h
  refine G_i2l o4 (ck dc217 (i := 7) rfl) ?_
  refine H_sZ mf217 (As := [.inr (.inl a1), .inr (.inl 0), .inr (.inl (M2 52 9))]) (st := []) (ck dc217 (i := 8) rfl) lk_Model_9 rfl rfl (Nat.le_of_ble_eq_true rfl) ⟨Nat.le_refl _, Nat.le_refl _⟩ h (fun r5 M6 h => ?_)
  obtain ⟨o7, h⟩ := h
  refine G_if_eq (tgt := 41) (by decide) o7 (ck dc217 (i := 9) rfl) (fun c => ?_) (fun c => ?_)
  · replace h := h.1 c
    refine H_ldc2 mf217 (v := (-9223372036854775808)) (ck dc217 (i := 20) rfl) kl_Model_240 ?_
    exact H_lret mf217 (ck dc217 (i := 21) rfl) rfl h
  · replace h := h.2 c
    refine G_aload_n 0 rfl rfl (ck dc217 (i := 10) rfl) ?_
    refine G_iload_n 2 rfl rfl (ck dc217 (i := 11) rfl) ?_
    refine H_vZ mf217 (As := [.inl a2]) (st := []) (ck dc217 (i := 12) rfl) lk_Model_13 rfl rfl (Nat.le_of_ble_eq_true rfl) ly52 ra52 ⟨Nat.le_refl _, Nat.le_refl _⟩ h (fun r8 M9 h => ?_)
    obtain ⟨o10, h⟩ := h
    refine G_if_eq (tgt := 41) (by decide) o10 (ck dc217 (i := 13) rfl) (fun c => ?_) (fun c => ?_)
    · replace h := h.1 c
      refine H_ldc2 mf217 (v := (-9223372036854775808)) (ck dc217 (i := 20) rfl) kl_Model_240 ?_
      exact H_lret mf217 (ck dc217 (i := 21) rfl) rfl h
    · replace h := h.2 c
      refine G_iload_n 3 rfl rfl (ck dc217 (i := 14) rfl) ?_
      refine H_sZ mf217 (As := [.inl a3]) (st := []) (ck dc217 (i := 15) rfl) lk_Model_121 rfl rfl (Nat.le_of_ble_eq_true rfl) ⟨Nat.le_refl _, Nat.le_refl _⟩ h (fun r11 M12 h => ?_)
      obtain ⟨o13, h⟩ := h
      refine G_if_eq (tgt := 41) (by decide) o13 (ck dc217 (i := 16) rfl) (fun c => ?_) (fun c => ?_)
      · replace h := h.1 c
        refine H_ldc2 mf217 (v := (-9223372036854775808)) (ck dc217 (i := 20) rfl) kl_Model_240 ?_
        exact H_lret mf217 (ck dc217 (i := 21) rfl) rfl h
      · replace h := h.2 c
        refine G_iload 4 rfl (ck dc217 (i := 17) rfl) ?_
        refine H_sZ mf217 (As := [.inl a4]) (st := []) (ck dc217 (i := 18) rfl) lk_Model_237 rfl rfl (Nat.le_of_ble_eq_true rfl) ⟨Nat.le_refl _, Nat.le_refl _⟩ h (fun r14 M15 h => ?_)
        obtain ⟨o16, h⟩ := h
        refine G_if_ne (tgt := 45) (by decide) o16 (ck dc217 (i := 19) rfl) (fun c => ?_) (fun c => ?_)
        · replace h := h.1 c
          refine G_aload_n 0 rfl rfl (ck dc217 (i := 22) rfl) ?_
          refine G_iload_n 1 rfl rfl (ck dc217 (i := 23) rfl) ?_
          refine G_iload_n 2 rfl rfl (ck dc217 (i := 24) rfl) ?_
          refine G_iload_n 3 rfl rfl (ck dc217 (i := 25) rfl) ?_
          refine H_vL mf217 (As := [.inl a1, .inl a2, .inl a3]) (st := []) (ck dc217 (i := 26) rfl) lk_Model_199 rfl rfl (Nat.le_of_ble_eq_true rfl) ly52 ra52 ⟨Nat.le_refl _, Nat.le_refl _⟩ h (fun r17 M18 h => ?_)
          refine G_aload_n 0 rfl rfl (ck dc217 (i := 27) rfl) ?_
          refine H_getR mf217 (ck dc217 (i := 28) rfl) fw_Model_41 fc11_11 ly52 ra52 rf52_11 (by decide) ?_
          refine G_iload_n 1 rfl rfl (ck dc217 (i := 29) rfl) ?_
          obtain ⟨o19, h⟩ := h
          refine H_lald (ck dc217 (i := 30) rfl) ly59 (by decide) ra59 o19 (x := (M18 59 a1)) rfl ?_
          refine G_iload 4 rfl (ck dc217 (i := 31) rfl) ?_
          refine H_sL mf217 (As := [.inr (.inl r17), .inr (.inl (M18 59 a1)), .inl a4]) (st := []) (ck dc217 (i := 32) rfl) lk_Model_242 rfl rfl (Nat.le_of_ble_eq_true rfl) ⟨Nat.le_refl _, Nat.le_refl _⟩ h (fun r20 M21 h => ?_)
          exact H_lret mf217 (ck dc217 (i := 33) rfl) rfl h
        · replace h := h.2 c
          refine H_ldc2 mf217 (v := (-9223372036854775808)) (ck dc217 (i := 20) rfl) kl_Model_240 ?_
          exact H_lret mf217 (ck dc217 (i := 21) rfl) rfl h
theorem c_m_part (K : Nat) (a1 a2 a3 : Int) (M : PM) (Q : Option PV → PM → Prop)
    (h : Call K jModel_clears [.inr (.inr 52)] P0 P0 M (retV fun M2 => Call K jModel_partIn [.inr (.inr 52), .inl (M2 52 9), .inl a1, .inl a2, .inl a3] P0 P0 M2 (retL fun r3 M4 => Q (some (.inr (.inl r3))) M4))) : Call (K + 1) jModel_part [.inr (.inr 52), .inl a1, .inl a2, .inl a3] P0 P0 M Q := by
  refine Call.intro (by decide +kernel) (mfx.le mf216 (Nat.le_of_ble_eq_true rfl)) (Nat.le_refl _) rfl ?_
  refine G_aload_n 0 rfl rfl (ck dc216 (i := 0) rfl) ?_
  refine H_vV mf216 (As := []) (st := []) (ck dc216 (i := 1) rfl) lk_Model_230 rfl rfl (Nat.le_of_ble_eq_true rfl) ly52 ra52 ⟨Nat.le_refl _, Nat.le_refl _⟩ h (fun M2 h => ?_)
  refine G_aload_n 0 rfl rfl (ck dc216 (i := 2) rfl) ?_
  refine G_aload_n 0 rfl rfl (ck dc216 (i := 3) rfl) ?_
  refine H_getI mf216 (ck dc216 (i := 4) rfl) fw_Model_206 (Or.inl fc11_9) ly52 ra52 (x := (M2 52 9)) rfl ?_
  refine G_iload_n 1 rfl rfl (ck dc216 (i := 5) rfl) ?_
  refine G_iload_n 2 rfl rfl (ck dc216 (i := 6) rfl) ?_
  refine G_iload_n 3 rfl rfl (ck dc216 (i := 7) rfl) ?_
  refine H_vL mf216 (As := [.inl (M2 52 9), .inl a1, .inl a2, .inl a3]) (st := []) (ck dc216 (i := 8) rfl) lk_Model_233 rfl rfl (Nat.le_of_ble_eq_true rfl) ly52 ra52 ⟨Nat.le_refl _, Nat.le_refl _⟩ h (fun r3 M4 h => ?_)
  exact H_lret mf216 (ck dc216 (i := 9) rfl) rfl h
set_option maxHeartbeats 20000000 in
theorem c_m_paid (K : Nat) (a1 a2 a3 a4 : Int) (M : PM) (Q : Option PV → PM → Prop)
    (h : Call K jModel_arePair [.inr (.inr 52), .inl a1, .inl a2] P0 P0 M (retI fun r1 M2 => R32 r1 ∧ (r1 = 0 → Q (some (.inr (.inl (-9223372036854775808)))) M2) ∧ (¬ r1 = 0 → Call K jModel_isClass [.inl a3] P0 P0 M2 (retI fun r4 M5 => R32 r4 ∧ (r4 = 0 → Q (some (.inr (.inl (-9223372036854775808)))) M5) ∧ (¬ r4 = 0 → Call K jModel_isSide [.inl a4] P0 P0 M5 (retI fun r7 M8 => R32 r7 ∧ (¬ r7 = 0 → Call K jModel_clears [.inr (.inr 52)] P0 P0 M8 (retV fun M11 => Call K jModel_owes [.inr (.inr 52), .inl a1, .inl a2, .inl a3] P0 P0 M11 (retI fun r12 M13 => R32 r12 ∧ Call K jModel_partAt [.inr (.inr 52), .inl (M13 52 9), .inl a1, .inl a3] P0 P0 M13 (retL fun r15 M16 => (0 ≤ (M16 52 9) ∧ (M16 52 9) < 6) ∧ Call K jModel_lowest [.inr (.inl (r12 * r15)), .inr (.inl (M16 59 (M16 52 9))), .inl a4] P0 P0 M16 (retL fun r18 M19 => Q (some (.inr (.inl r18))) M19))))) ∧ (r7 = 0 → Q (some (.inr (.inl (-9223372036854775808)))) M8))))))) : Call (K + 1) jModel_paid [.inr (.inr 52), .inl a1, .inl a2, .inl a3, .inl a4] P0 P0 M Q := by
  refine Call.intro (by decide +kernel) (mfx.le mf220 (Nat.le_of_ble_eq_true rfl)) (Nat.le_refl _) rfl ?_
  refine G_aload_n 0 rfl rfl (ck dc220 (i := 0) rfl) ?_
  refine G_iload_n 1 rfl rfl (ck dc220 (i := 1) rfl) ?_
  refine G_iload_n 2 rfl rfl (ck dc220 (i := 2) rfl) ?_
  refine H_vZ mf220 (As := [.inl a1, .inl a2]) (st := []) (ck dc220 (i := 3) rfl) lk_Model_117 rfl rfl (Nat.le_of_ble_eq_true rfl) ly52 ra52 ⟨Nat.le_refl _, Nat.le_refl _⟩ h (fun r1 M2 h => ?_)
  obtain ⟨o3, h⟩ := h
  refine G_if_eq (tgt := 24) (by decide) o3 (ck dc220 (i := 4) rfl) (fun c => ?_) (fun c => ?_)
  · replace h := h.1 c
    refine H_ldc2 mf220 (v := (-9223372036854775808)) (ck dc220 (i := 11) rfl) kl_Model_240 ?_
    exact H_lret mf220 (ck dc220 (i := 12) rfl) rfl h
  · replace h := h.2 c
    refine G_iload_n 3 rfl rfl (ck dc220 (i := 5) rfl) ?_
    refine H_sZ mf220 (As := [.inl a3]) (st := []) (ck dc220 (i := 6) rfl) lk_Model_121 rfl rfl (Nat.le_of_ble_eq_true rfl) ⟨Nat.le_refl _, Nat.le_refl _⟩ h (fun r4 M5 h => ?_)
    obtain ⟨o6, h⟩ := h
    refine G_if_eq (tgt := 24) (by decide) o6 (ck dc220 (i := 7) rfl) (fun c => ?_) (fun c => ?_)
    · replace h := h.1 c
      refine H_ldc2 mf220 (v := (-9223372036854775808)) (ck dc220 (i := 11) rfl) kl_Model_240 ?_
      exact H_lret mf220 (ck dc220 (i := 12) rfl) rfl h
    · replace h := h.2 c
      refine G_iload 4 rfl (ck dc220 (i := 8) rfl) ?_
      refine H_sZ mf220 (As := [.inl a4]) (st := []) (ck dc220 (i := 9) rfl) lk_Model_237 rfl rfl (Nat.le_of_ble_eq_true rfl) ⟨Nat.le_refl _, Nat.le_refl _⟩ h (fun r7 M8 h => ?_)
      obtain ⟨o9, h⟩ := h
      refine G_if_ne (tgt := 28) (by decide) o9 (ck dc220 (i := 10) rfl) (fun c => ?_) (fun c => ?_)
      · replace h := h.1 c
        refine G_aload_n 0 rfl rfl (ck dc220 (i := 13) rfl) ?_
        refine H_vV mf220 (As := []) (st := []) (ck dc220 (i := 14) rfl) lk_Model_230 rfl rfl (Nat.le_of_ble_eq_true rfl) ly52 ra52 ⟨Nat.le_refl _, Nat.le_refl _⟩ h (fun M11 h => ?_)
        refine G_aload_n 0 rfl rfl (ck dc220 (i := 15) rfl) ?_
        refine G_iload_n 1 rfl rfl (ck dc220 (i := 16) rfl) ?_
        refine G_iload_n 2 rfl rfl (ck dc220 (i := 17) rfl) ?_
        refine G_iload_n 3 rfl rfl (ck dc220 (i := 18) rfl) ?_
        refine H_vI mf220 (As := [.inl a1, .inl a2, .inl a3]) (st := []) (ck dc220 (i := 19) rfl) lk_Model_103 rfl rfl (Nat.le_of_ble_eq_true rfl) ly52 ra52 ⟨Nat.le_refl _, Nat.le_refl _⟩ h (fun r12 M13 h => ?_)
        obtain ⟨o14, h⟩ := h
        refine G_i2l o14 (ck dc220 (i := 20) rfl) ?_
        refine G_aload_n 0 rfl rfl (ck dc220 (i := 21) rfl) ?_
        refine G_aload_n 0 rfl rfl (ck dc220 (i := 22) rfl) ?_
        refine H_getI mf220 (ck dc220 (i := 23) rfl) fw_Model_206 (Or.inl fc11_9) ly52 ra52 (x := (M13 52 9)) rfl ?_
        refine G_iload_n 1 rfl rfl (ck dc220 (i := 24) rfl) ?_
        refine G_iload_n 3 rfl rfl (ck dc220 (i := 25) rfl) ?_
        refine H_vL mf220 (As := [.inl (M13 52 9), .inl a1, .inl a3]) (st := [.inr (.inl r12)]) (ck dc220 (i := 26) rfl) lk_Model_199 rfl rfl (Nat.le_of_ble_eq_true rfl) ly52 ra52 ⟨Nat.le_refl _, Nat.le_refl _⟩ h (fun r15 M16 h => ?_)
        refine G_lmul (ck dc220 (i := 27) rfl) ?_
        refine G_aload_n 0 rfl rfl (ck dc220 (i := 28) rfl) ?_
        refine H_getR mf220 (ck dc220 (i := 29) rfl) fw_Model_41 fc11_11 ly52 ra52 rf52_11 (by decide) ?_
        refine G_aload_n 0 rfl rfl (ck dc220 (i := 30) rfl) ?_
        refine H_getI mf220 (ck dc220 (i := 31) rfl) fw_Model_206 (Or.inl fc11_9) ly52 ra52 (x := (M16 52 9)) rfl ?_
        obtain ⟨o17, h⟩ := h
        refine H_lald (ck dc220 (i := 32) rfl) ly59 (by decide) ra59 o17 (x := (M16 59 (M16 52 9))) rfl ?_
        refine G_iload 4 rfl (ck dc220 (i := 33) rfl) ?_
        refine H_sL mf220 (As := [.inr (.inl (r12 * r15)), .inr (.inl (M16 59 (M16 52 9))), .inl a4]) (st := []) (ck dc220 (i := 34) rfl) lk_Model_242 rfl rfl (Nat.le_of_ble_eq_true rfl) ⟨Nat.le_refl _, Nat.le_refl _⟩ h (fun r18 M19 h => ?_)
        exact H_lret mf220 (ck dc220 (i := 35) rfl) rfl h
      · replace h := h.2 c
        refine H_ldc2 mf220 (v := (-9223372036854775808)) (ck dc220 (i := 11) rfl) kl_Model_240 ?_
        exact H_lret mf220 (ck dc220 (i := 12) rfl) rfl h
theorem c_m_gets (K : Nat) (a1 a2 : Int) (M : PM) (Q : Option PV → PM → Prop)
    (h : Call K jModel_isHouse [.inr (.inr 52), .inl a1] P0 P0 M (retI fun r1 M2 => R32 r1 ∧ (r1 = 0 → Q (some (.inr (.inl (-9223372036854775808)))) M2) ∧ (¬ r1 = 0 → Call K jModel_isSide [.inl a2] P0 P0 M2 (retI fun r4 M5 => R32 r4 ∧ (¬ r4 = 0 → Call K jModel_clears [.inr (.inr 52)] P0 P0 M5 (retV fun M8 => Call K jModel_getsIn [.inr (.inr 52), .inl (M8 52 9), .inl a1] P0 P0 M8 (retL fun r9 M10 => (0 ≤ (M10 52 9) ∧ (M10 52 9) < 6) ∧ Call K jModel_lowest [.inr (.inl r9), .inr (.inl (M10 59 (M10 52 9))), .inl a2] P0 P0 M10 (retL fun r12 M13 => Q (some (.inr (.inl r12))) M13)))) ∧ (r4 = 0 → Q (some (.inr (.inl (-9223372036854775808)))) M5))))) : Call (K + 1) jModel_gets [.inr (.inr 52), .inl a1, .inl a2] P0 P0 M Q := by
  refine Call.intro (by decide +kernel) (mfx.le mf221 (Nat.le_of_ble_eq_true rfl)) (Nat.le_refl _) rfl ?_
  refine G_aload_n 0 rfl rfl (ck dc221 (i := 0) rfl) ?_
  refine G_iload_n 1 rfl rfl (ck dc221 (i := 1) rfl) ?_
  refine H_vZ mf221 (As := [.inl a1]) (st := []) (ck dc221 (i := 2) rfl) lk_Model_13 rfl rfl (Nat.le_of_ble_eq_true rfl) ly52 ra52 ⟨Nat.le_refl _, Nat.le_refl _⟩ h (fun r1 M2 h => ?_)
  obtain ⟨o3, h⟩ := h
  refine G_if_eq (tgt := 15) (by decide) o3 (ck dc221 (i := 3) rfl) (fun c => ?_) (fun c => ?_)
  · replace h := h.1 c
    refine H_ldc2 mf221 (v := (-9223372036854775808)) (ck dc221 (i := 7) rfl) kl_Model_240 ?_
    exact H_lret mf221 (ck dc221 (i := 8) rfl) rfl h
  · replace h := h.2 c
    refine G_iload_n 2 rfl rfl (ck dc221 (i := 4) rfl) ?_
    refine H_sZ mf221 (As := [.inl a2]) (st := []) (ck dc221 (i := 5) rfl) lk_Model_237 rfl rfl (Nat.le_of_ble_eq_true rfl) ⟨Nat.le_refl _, Nat.le_refl _⟩ h (fun r4 M5 h => ?_)
    obtain ⟨o6, h⟩ := h
    refine G_if_ne (tgt := 19) (by decide) o6 (ck dc221 (i := 6) rfl) (fun c => ?_) (fun c => ?_)
    · replace h := h.1 c
      refine G_aload_n 0 rfl rfl (ck dc221 (i := 9) rfl) ?_
      refine H_vV mf221 (As := []) (st := []) (ck dc221 (i := 10) rfl) lk_Model_230 rfl rfl (Nat.le_of_ble_eq_true rfl) ly52 ra52 ⟨Nat.le_refl _, Nat.le_refl _⟩ h (fun M8 h => ?_)
      refine G_aload_n 0 rfl rfl (ck dc221 (i := 11) rfl) ?_
      refine G_aload_n 0 rfl rfl (ck dc221 (i := 12) rfl) ?_
      refine H_getI mf221 (ck dc221 (i := 13) rfl) fw_Model_206 (Or.inl fc11_9) ly52 ra52 (x := (M8 52 9)) rfl ?_
      refine G_iload_n 1 rfl rfl (ck dc221 (i := 14) rfl) ?_
      refine H_vL mf221 (As := [.inl (M8 52 9), .inl a1]) (st := []) (ck dc221 (i := 15) rfl) lk_Model_202 rfl rfl (Nat.le_of_ble_eq_true rfl) ly52 ra52 ⟨Nat.le_refl _, Nat.le_refl _⟩ h (fun r9 M10 h => ?_)
      refine G_aload_n 0 rfl rfl (ck dc221 (i := 16) rfl) ?_
      refine H_getR mf221 (ck dc221 (i := 17) rfl) fw_Model_41 fc11_11 ly52 ra52 rf52_11 (by decide) ?_
      refine G_aload_n 0 rfl rfl (ck dc221 (i := 18) rfl) ?_
      refine H_getI mf221 (ck dc221 (i := 19) rfl) fw_Model_206 (Or.inl fc11_9) ly52 ra52 (x := (M10 52 9)) rfl ?_
      obtain ⟨o11, h⟩ := h
      refine H_lald (ck dc221 (i := 20) rfl) ly59 (by decide) ra59 o11 (x := (M10 59 (M10 52 9))) rfl ?_
      refine G_iload_n 2 rfl rfl (ck dc221 (i := 21) rfl) ?_
      refine H_sL mf221 (As := [.inr (.inl r9), .inr (.inl (M10 59 (M10 52 9))), .inl a2]) (st := []) (ck dc221 (i := 22) rfl) lk_Model_242 rfl rfl (Nat.le_of_ble_eq_true rfl) ⟨Nat.le_refl _, Nat.le_refl _⟩ h (fun r12 M13 h => ?_)
      exact H_lret mf221 (ck dc221 (i := 23) rfl) rfl h
    · replace h := h.2 c
      refine H_ldc2 mf221 (v := (-9223372036854775808)) (ck dc221 (i := 7) rfl) kl_Model_240 ?_
      exact H_lret mf221 (ck dc221 (i := 8) rfl) rfl h
set_option maxHeartbeats 20000000 in
theorem c_m_worthIn (K : Nat) (a1 a2 a3 : Int) (M : PM) (Q : Option PV → PM → Prop)
    (h : Call K jModel_clears [.inr (.inr 52)] P0 P0 M (retV fun M2 => R32 a1 ∧ R32 (M2 52 9) ∧ Call K jModel_within [.inr (.inl a1), .inr (.inl 0), .inr (.inl (M2 52 9))] P0 P0 M2 (retI fun r5 M6 => R32 r5 ∧ (r5 = 0 → Q (some (.inr (.inl (-9223372036854775808)))) M6) ∧ (¬ r5 = 0 → Call K jModel_isHouse [.inr (.inr 52), .inl a2] P0 P0 M6 (retI fun r8 M9 => R32 r8 ∧ (r8 = 0 → Q (some (.inr (.inl (-9223372036854775808)))) M9) ∧ (¬ r8 = 0 → Call K jModel_isSide [.inl a3] P0 P0 M9 (retI fun r11 M12 => R32 r11 ∧ (¬ r11 = 0 → Call K jModel_worth [.inr (.inr 52), .inl a1, .inl a2] P0 P0 M12 (retL fun r14 M15 => (0 ≤ a1 ∧ a1 < 6) ∧ Call K jModel_lowest [.inr (.inl r14), .inr (.inl (M15 59 a1)), .inl a3] P0 P0 M15 (retL fun r17 M18 => Q (some (.inr (.inl r17))) M18))) ∧ (r11 = 0 → Q (some (.inr (.inl (-9223372036854775808)))) M12)))))))) : Call (K + 1) jModel_worthIn [.inr (.inr 52), .inl a1, .inl a2, .inl a3] P0 P0 M Q := by
  refine Call.intro (by decide +kernel) (mfx.le mf222 (Nat.le_of_ble_eq_true rfl)) (Nat.le_refl _) rfl ?_
  refine G_aload_n 0 rfl rfl (ck dc222 (i := 0) rfl) ?_
  refine H_vV mf222 (As := []) (st := []) (ck dc222 (i := 1) rfl) lk_Model_230 rfl rfl (Nat.le_of_ble_eq_true rfl) ly52 ra52 ⟨Nat.le_refl _, Nat.le_refl _⟩ h (fun M2 h => ?_)
  refine G_iload_n 1 rfl rfl (ck dc222 (i := 2) rfl) ?_
  obtain ⟨o3, h⟩ := h
  refine G_i2l o3 (ck dc222 (i := 3) rfl) ?_
  refine G_lconst (v := 0) rfl (ck dc222 (i := 4) rfl) ?_
  refine G_aload_n 0 rfl rfl (ck dc222 (i := 5) rfl) ?_
  refine H_getI mf222 (ck dc222 (i := 6) rfl) fw_Model_206 (Or.inl fc11_9) ly52 ra52 (x := (M2 52 9)) rfl ?_
  obtain ⟨o4, h⟩ := h
  refine G_i2l o4 (ck dc222 (i := 7) rfl) ?_
  refine H_sZ mf222 (As := [.inr (.inl a1), .inr (.inl 0), .inr (.inl (M2 52 9))]) (st := []) (ck dc222 (i := 8) rfl) lk_Model_9 rfl rfl (Nat.le_of_ble_eq_true rfl) ⟨Nat.le_refl _, Nat.le_refl _⟩ h (fun r5 M6 h => ?_)
  obtain ⟨o7, h⟩ := h
  refine G_if_eq (tgt := 33) (by decide) o7 (ck dc222 (i := 9) rfl) (fun c => ?_) (fun c => ?_)
  · replace h := h.1 c
    refine H_ldc2 mf222 (v := (-9223372036854775808)) (ck dc222 (i := 17) rfl) kl_Model_240 ?_
    exact H_lret mf222 (ck dc222 (i := 18) rfl) rfl h
  · replace h := h.2 c
    refine G_aload_n 0 rfl rfl (ck dc222 (i := 10) rfl) ?_
    refine G_iload_n 2 rfl rfl (ck dc222 (i := 11) rfl) ?_
    refine H_vZ mf222 (As := [.inl a2]) (st := []) (ck dc222 (i := 12) rfl) lk_Model_13 rfl rfl (Nat.le_of_ble_eq_true rfl) ly52 ra52 ⟨Nat.le_refl _, Nat.le_refl _⟩ h (fun r8 M9 h => ?_)
    obtain ⟨o10, h⟩ := h
    refine G_if_eq (tgt := 33) (by decide) o10 (ck dc222 (i := 13) rfl) (fun c => ?_) (fun c => ?_)
    · replace h := h.1 c
      refine H_ldc2 mf222 (v := (-9223372036854775808)) (ck dc222 (i := 17) rfl) kl_Model_240 ?_
      exact H_lret mf222 (ck dc222 (i := 18) rfl) rfl h
    · replace h := h.2 c
      refine G_iload_n 3 rfl rfl (ck dc222 (i := 14) rfl) ?_
      refine H_sZ mf222 (As := [.inl a3]) (st := []) (ck dc222 (i := 15) rfl) lk_Model_237 rfl rfl (Nat.le_of_ble_eq_true rfl) ⟨Nat.le_refl _, Nat.le_refl _⟩ h (fun r11 M12 h => ?_)
      obtain ⟨o13, h⟩ := h
      refine G_if_ne (tgt := 37) (by decide) o13 (ck dc222 (i := 16) rfl) (fun c => ?_) (fun c => ?_)
      · replace h := h.1 c
        refine G_aload_n 0 rfl rfl (ck dc222 (i := 19) rfl) ?_
        refine G_iload_n 1 rfl rfl (ck dc222 (i := 20) rfl) ?_
        refine G_iload_n 2 rfl rfl (ck dc222 (i := 21) rfl) ?_
        refine H_vL mf222 (As := [.inl a1, .inl a2]) (st := []) (ck dc222 (i := 22) rfl) lk_Model_215 rfl rfl (Nat.le_of_ble_eq_true rfl) ly52 ra52 ⟨Nat.le_refl _, Nat.le_refl _⟩ h (fun r14 M15 h => ?_)
        refine G_aload_n 0 rfl rfl (ck dc222 (i := 23) rfl) ?_
        refine H_getR mf222 (ck dc222 (i := 24) rfl) fw_Model_41 fc11_11 ly52 ra52 rf52_11 (by decide) ?_
        refine G_iload_n 1 rfl rfl (ck dc222 (i := 25) rfl) ?_
        obtain ⟨o16, h⟩ := h
        refine H_lald (ck dc222 (i := 26) rfl) ly59 (by decide) ra59 o16 (x := (M15 59 a1)) rfl ?_
        refine G_iload_n 3 rfl rfl (ck dc222 (i := 27) rfl) ?_
        refine H_sL mf222 (As := [.inr (.inl r14), .inr (.inl (M15 59 a1)), .inl a3]) (st := []) (ck dc222 (i := 28) rfl) lk_Model_242 rfl rfl (Nat.le_of_ble_eq_true rfl) ⟨Nat.le_refl _, Nat.le_refl _⟩ h (fun r17 M18 h => ?_)
        exact H_lret mf222 (ck dc222 (i := 29) rfl) rfl h
      · replace h := h.2 c
        refine H_ldc2 mf222 (v := (-9223372036854775808)) (ck dc222 (i := 17) rfl) kl_Model_240 ?_
        exact H_lret mf222 (ck dc222 (i := 18) rfl) rfl h
theorem c_m_leftOf (K : Nat) (a1 : Int) (M : PM) (Q : Option PV → PM → Prop)
    (h : Call K jModel_isIn [.inl (M 52 13), .inl a1] P0 P0 M (retI fun r1 M2 => R32 r1 ∧ (r1 = 0 → Call K jModel_worth [.inr (.inr 52), .inl (M2 52 9), .inl a1] P0 P0 M2 (retL fun r4 M5 => Call K jModel_dueInAll [.inr (.inr 52), .inl a1] P0 P0 M5 (retI fun r6 M7 => R32 r6 ∧ (0 ≤ (M7 52 9) ∧ (M7 52 9) < 6) ∧ Q (some (.inr (.inl (r4 - (r6 * (M7 59 (M7 52 9))))))) M7))) ∧ (¬ r1 = 0 → Q (some (.inr (.inl 0))) M2))) : Call (K + 1) jModel_leftOf [.inr (.inr 52), .inl a1] P0 P0 M Q := by
  refine Call.intro (by decide +kernel) (mfx.le mf224 (Nat.le_of_ble_eq_true rfl)) (Nat.le_refl _) rfl ?_
  refine G_aload_n 0 rfl rfl (ck dc224 (i := 0) rfl) ?_
  refine H_getI mf224 (ck dc224 (i := 1) rfl) fw_Model_176 (Or.inl fc11_13) ly52 ra52 (x := (M 52 13)) rfl ?_
  refine G_iload_n 1 rfl rfl (ck dc224 (i := 2) rfl) ?_
  refine H_sZ mf224 (As := [.inl (M 52 13), .inl a1]) (st := []) (ck dc224 (i := 3) rfl) lk_Model_161 rfl rfl (Nat.le_of_ble_eq_true rfl) ⟨Nat.le_refl _, Nat.le_refl _⟩ h (fun r1 M2 h => ?_)
  obtain ⟨o3, h⟩ := h
  refine G_if_eq (tgt := 15) (by decide) o3 (ck dc224 (i := 4) rfl) (fun c => ?_) (fun c => ?_)
  · replace h := h.1 c
    refine G_aload_n 0 rfl rfl (ck dc224 (i := 7) rfl) ?_
    refine G_aload_n 0 rfl rfl (ck dc224 (i := 8) rfl) ?_
    refine H_getI mf224 (ck dc224 (i := 9) rfl) fw_Model_206 (Or.inl fc11_9) ly52 ra52 (x := (M2 52 9)) rfl ?_
    refine G_iload_n 1 rfl rfl (ck dc224 (i := 10) rfl) ?_
    refine H_vL mf224 (As := [.inl (M2 52 9), .inl a1]) (st := []) (ck dc224 (i := 11) rfl) lk_Model_215 rfl rfl (Nat.le_of_ble_eq_true rfl) ly52 ra52 ⟨Nat.le_refl _, Nat.le_refl _⟩ h (fun r4 M5 h => ?_)
    refine G_aload_n 0 rfl rfl (ck dc224 (i := 12) rfl) ?_
    refine G_iload_n 1 rfl rfl (ck dc224 (i := 13) rfl) ?_
    refine H_vI mf224 (As := [.inl a1]) (st := [.inr (.inl r4)]) (ck dc224 (i := 14) rfl) lk_Model_218 rfl rfl (Nat.le_of_ble_eq_true rfl) ly52 ra52 ⟨Nat.le_refl _, Nat.le_refl _⟩ h (fun r6 M7 h => ?_)
    obtain ⟨o8, h⟩ := h
    refine G_i2l o8 (ck dc224 (i := 15) rfl) ?_
    refine G_aload_n 0 rfl rfl (ck dc224 (i := 16) rfl) ?_
    refine H_getR mf224 (ck dc224 (i := 17) rfl) fw_Model_41 fc11_11 ly52 ra52 rf52_11 (by decide) ?_
    refine G_aload_n 0 rfl rfl (ck dc224 (i := 18) rfl) ?_
    refine H_getI mf224 (ck dc224 (i := 19) rfl) fw_Model_206 (Or.inl fc11_9) ly52 ra52 (x := (M7 52 9)) rfl ?_
    obtain ⟨o9, h⟩ := h
    refine H_lald (ck dc224 (i := 20) rfl) ly59 (by decide) ra59 o9 (x := (M7 59 (M7 52 9))) rfl ?_
    refine G_lmul (ck dc224 (i := 21) rfl) ?_
    refine G_lsub (ck dc224 (i := 22) rfl) ?_
    exact H_lret mf224 (ck dc224 (i := 23) rfl) rfl h
  · replace h := h.2 c
    refine G_lconst (v := 0) rfl (ck dc224 (i := 5) rfl) ?_
    refine G_goto (tgt := 41) (by decide) (ck dc224 (i := 6) rfl) ?_
    exact H_lret mf224 (ck dc224 (i := 23) rfl) rfl h
theorem c_m_left (K : Nat) (a1 a2 : Int) (M : PM) (Q : Option PV → PM → Prop)
    (h : Call K jModel_isHouse [.inr (.inr 52), .inl a1] P0 P0 M (retI fun r1 M2 => R32 r1 ∧ (r1 = 0 → Q (some (.inr (.inl (-9223372036854775808)))) M2) ∧ (¬ r1 = 0 → Call K jModel_isSide [.inl a2] P0 P0 M2 (retI fun r4 M5 => R32 r4 ∧ (¬ r4 = 0 → Call K jModel_clears [.inr (.inr 52)] P0 P0 M5 (retV fun M8 => Call K jModel_leftOf [.inr (.inr 52), .inl a1] P0 P0 M8 (retL fun r9 M10 => (0 ≤ (M10 52 9) ∧ (M10 52 9) < 6) ∧ Call K jModel_lowest [.inr (.inl r9), .inr (.inl (M10 59 (M10 52 9))), .inl a2] P0 P0 M10 (retL fun r12 M13 => Q (some (.inr (.inl r12))) M13)))) ∧ (r4 = 0 → Q (some (.inr (.inl (-9223372036854775808)))) M5))))) : Call (K + 1) jModel_left [.inr (.inr 52), .inl a1, .inl a2] P0 P0 M Q := by
  refine Call.intro (by decide +kernel) (mfx.le mf223 (Nat.le_of_ble_eq_true rfl)) (Nat.le_refl _) rfl ?_
  refine G_aload_n 0 rfl rfl (ck dc223 (i := 0) rfl) ?_
  refine G_iload_n 1 rfl rfl (ck dc223 (i := 1) rfl) ?_
  refine H_vZ mf223 (As := [.inl a1]) (st := []) (ck dc223 (i := 2) rfl) lk_Model_13 rfl rfl (Nat.le_of_ble_eq_true rfl) ly52 ra52 ⟨Nat.le_refl _, Nat.le_refl _⟩ h (fun r1 M2 h => ?_)
  obtain ⟨o3, h⟩ := h
  refine G_if_eq (tgt := 15) (by decide) o3 (ck dc223 (i := 3) rfl) (fun c => ?_) (fun c => ?_)
  · replace h := h.1 c
    refine H_ldc2 mf223 (v := (-9223372036854775808)) (ck dc223 (i := 7) rfl) kl_Model_240 ?_
    exact H_lret mf223 (ck dc223 (i := 8) rfl) rfl h
  · replace h := h.2 c
    refine G_iload_n 2 rfl rfl (ck dc223 (i := 4) rfl) ?_
    refine H_sZ mf223 (As := [.inl a2]) (st := []) (ck dc223 (i := 5) rfl) lk_Model_237 rfl rfl (Nat.le_of_ble_eq_true rfl) ⟨Nat.le_refl _, Nat.le_refl _⟩ h (fun r4 M5 h => ?_)
    obtain ⟨o6, h⟩ := h
    refine G_if_ne (tgt := 19) (by decide) o6 (ck dc223 (i := 6) rfl) (fun c => ?_) (fun c => ?_)
    · replace h := h.1 c
      refine G_aload_n 0 rfl rfl (ck dc223 (i := 9) rfl) ?_
      refine H_vV mf223 (As := []) (st := []) (ck dc223 (i := 10) rfl) lk_Model_230 rfl rfl (Nat.le_of_ble_eq_true rfl) ly52 ra52 ⟨Nat.le_refl _, Nat.le_refl _⟩ h (fun M8 h => ?_)
      refine G_aload_n 0 rfl rfl (ck dc223 (i := 11) rfl) ?_
      refine G_iload_n 1 rfl rfl (ck dc223 (i := 12) rfl) ?_
      refine H_vL mf223 (As := [.inl a1]) (st := []) (ck dc223 (i := 13) rfl) lk_Model_246 rfl rfl (Nat.le_of_ble_eq_true rfl) ly52 ra52 ⟨Nat.le_refl _, Nat.le_refl _⟩ h (fun r9 M10 h => ?_)
      refine G_aload_n 0 rfl rfl (ck dc223 (i := 14) rfl) ?_
      refine H_getR mf223 (ck dc223 (i := 15) rfl) fw_Model_41 fc11_11 ly52 ra52 rf52_11 (by decide) ?_
      refine G_aload_n 0 rfl rfl (ck dc223 (i := 16) rfl) ?_
      refine H_getI mf223 (ck dc223 (i := 17) rfl) fw_Model_206 (Or.inl fc11_9) ly52 ra52 (x := (M10 52 9)) rfl ?_
      obtain ⟨o11, h⟩ := h
      refine H_lald (ck dc223 (i := 18) rfl) ly59 (by decide) ra59 o11 (x := (M10 59 (M10 52 9))) rfl ?_
      refine G_iload_n 2 rfl rfl (ck dc223 (i := 19) rfl) ?_
      refine H_sL mf223 (As := [.inr (.inl r9), .inr (.inl (M10 59 (M10 52 9))), .inl a2]) (st := []) (ck dc223 (i := 20) rfl) lk_Model_242 rfl rfl (Nat.le_of_ble_eq_true rfl) ⟨Nat.le_refl _, Nat.le_refl _⟩ h (fun r12 M13 h => ?_)
      exact H_lret mf223 (ck dc223 (i := 21) rfl) rfl h
    · replace h := h.2 c
      refine H_ldc2 mf223 (v := (-9223372036854775808)) (ck dc223 (i := 7) rfl) kl_Model_240 ?_
      exact H_lret mf223 (ck dc223 (i := 8) rfl) rfl h
