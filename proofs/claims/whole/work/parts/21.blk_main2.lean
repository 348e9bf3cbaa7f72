theorem c_x_spellHouse (K : Nat) (a1 a2 : Int) (M : PM) (Q : Option PV → PM → Prop)
    (h : R32 (M 47 0) ∧ ((M 47 0) ≤ 0 → G none (K + 1) jClearingWaves_spellHouse 19 [(0, .inr (.inr 0)), (1, .inl a1), (2, .inl a2)] [] P0 P0 M Q) ∧ (¬ (M 47 0) ≤ 0 → Call K jPaper_add [.inr (.inr 47), .inl 32] P0 P0 M (retV fun M3 => G none (K + 1) jClearingWaves_spellHouse 19 [(0, .inr (.inr 0)), (1, .inl a1), (2, .inl a2)] [] P0 P0 M3 Q))) : Call (K + 1) jClearingWaves_spellHouse [.inr (.inr 0), .inl a1, .inl a2] P0 P0 M Q := by
  refine Call.intro (by decide +kernel) (mfx.le mf144 (Nat.le_of_ble_eq_true rfl)) (Nat.le_refl _) rfl ?_
  refine G_aload_n 0 rfl rfl (ck dc144 (i := 0) rfl) ?_
  refine H_getR mf144 (ck dc144 (i := 1) rfl) fw_ClearingWaves_83 fc10_14 ly0 ra0 rf0_14 (by decide) ?_
  refine H_getI mf144 (ck dc144 (i := 2) rfl) fw_ClearingWaves_308 (Or.inl fc4_0) ly47 ra47 (x := (M 47 0)) rfl ?_
  obtain ⟨o1, h⟩ := h
  refine G_if_le (tgt := 19) (by decide) o1 (ck dc144 (i := 3) rfl) (fun c => ?_) (fun c => ?_)
  · replace h := h.1 c
    exact G_sub [0, 1, 2] rfl h
  · replace h := h.2 c
    refine G_aload_n 0 rfl rfl (ck dc144 (i := 4) rfl) ?_
    refine H_getR mf144 (ck dc144 (i := 5) rfl) fw_ClearingWaves_83 fc10_14 ly0 ra0 rf0_14 (by decide) ?_
    refine G_bipush (n := 32) rfl (ck dc144 (i := 6) rfl) ?_
    refine H_vV mf144 (As := [.inl 32]) (st := []) (ck dc144 (i := 7) rfl) lk_ClearingWaves_379 rfl rfl (Nat.le_of_ble_eq_true rfl) ly47 ra47 ⟨Nat.le_refl _, Nat.le_refl _⟩ h (fun M3 h => ?_)
    exact G_sub [0, 1, 2] rfl h
set_option maxHeartbeats 20000000 in
theorem g_x_spellHouse_19 (K : Nat) (l1 l2 : Int) (M : PM) (Q : Option PV → PM → Prop)
    (h : Call K jPaper_add [.inr (.inr 47), .inl (97 + l1)] P0 P0 M (retV fun M2 => R32 l2 ∧ Call K jPaper_addNumber [.inr (.inr 47), .inr (.inl l2)] P0 P0 M2 (retV fun M5 => Call K jPaper_add [.inr (.inr 47), .inl 58] P0 P0 M5 (retV fun M7 => Call K jClearing_pays [.inr (.inr 11), .inl l1] P0 P0 M7 (retL fun r8 M9 => Call K jClearing_bottom [.inr (.inr 11), .inl (M9 11 0)] P0 P0 M9 (retL fun r10 M11 => Call K jRatio_tell [.inr (.inl r8), .inr (.inl r10), .inl 0] P0 P0 M11 (retL fun r12 M13 => Call K jPaper_addNumber [.inr (.inr 47), .inr (.inl r12)] P0 P0 M13 (retV fun M15 => Call K jRatio_tell [.inr (.inl r8), .inr (.inl r10), .inl 1] P0 P0 M15 (retL fun r16 M17 => R64 r16 ∧ (r16 = 1 → Q none M17) ∧ (¬ r16 = 1 → Call K jPaper_add [.inr (.inr 47), .inl 47] P0 P0 M17 (retV fun M20 => Call K jPaper_addNumber [.inr (.inr 47), .inr (.inl r16)] P0 P0 M20 (retV fun M22 => Q none M22)))))))))))) : G none (K + 1) jClearingWaves_spellHouse 19 [(0, .inr (.inr 0)), (1, .inl l1), (2, .inl l2)] [] P0 P0 M Q := by
  refine G_aload_n 0 rfl rfl (ck dc144 (i := 8) rfl) ?_
  refine H_getR mf144 (ck dc144 (i := 9) rfl) fw_ClearingWaves_83 fc10_14 ly0 ra0 rf0_14 (by decide) ?_
  refine G_bipush (n := 97) rfl (ck dc144 (i := 10) rfl) ?_
  refine G_iload_n 1 rfl rfl (ck dc144 (i := 11) rfl) ?_
  refine G_iadd (ck dc144 (i := 12) rfl) ?_
  refine H_vV mf144 (As := [.inl (97 + l1)]) (st := []) (ck dc144 (i := 13) rfl) lk_ClearingWaves_379 rfl rfl (Nat.le_of_ble_eq_true rfl) ly47 ra47 ⟨Nat.le_refl _, Nat.le_refl _⟩ h (fun M2 h => ?_)
  refine G_aload_n 0 rfl rfl (ck dc144 (i := 14) rfl) ?_
  refine H_getR mf144 (ck dc144 (i := 15) rfl) fw_ClearingWaves_83 fc10_14 ly0 ra0 rf0_14 (by decide) ?_
  refine G_iload_n 2 rfl rfl (ck dc144 (i := 16) rfl) ?_
  obtain ⟨o3, h⟩ := h
  refine G_i2l o3 (ck dc144 (i := 17) rfl) ?_
  refine H_vV mf144 (As := [.inr (.inl l2)]) (st := []) (ck dc144 (i := 18) rfl) lk_ClearingWaves_381 rfl rfl (Nat.le_of_ble_eq_true rfl) ly47 ra47 ⟨Nat.le_refl _, Nat.le_refl _⟩ h (fun M5 h => ?_)
  refine G_aload_n 0 rfl rfl (ck dc144 (i := 19) rfl) ?_
  refine H_getR mf144 (ck dc144 (i := 20) rfl) fw_ClearingWaves_83 fc10_14 ly0 ra0 rf0_14 (by decide) ?_
  refine G_bipush (n := 58) rfl (ck dc144 (i := 21) rfl) ?_
  refine H_vV mf144 (As := [.inl 58]) (st := []) (ck dc144 (i := 22) rfl) lk_ClearingWaves_379 rfl rfl (Nat.le_of_ble_eq_true rfl) ly47 ra47 ⟨Nat.le_refl _, Nat.le_refl _⟩ h (fun M7 h => ?_)
  refine G_aload_n 0 rfl rfl (ck dc144 (i := 23) rfl) ?_
  refine H_getR mf144 (ck dc144 (i := 24) rfl) fw_ClearingWaves_36 fc10_5 ly0 ra0 rf0_5 (by decide) ?_
  refine G_iload_n 1 rfl rfl (ck dc144 (i := 25) rfl) ?_
  refine H_vL mf144 (As := [.inl l1]) (st := []) (ck dc144 (i := 26) rfl) lk_ClearingWaves_385 rfl rfl (Nat.le_of_ble_eq_true rfl) ly11 ra11 ⟨Nat.le_refl _, Nat.le_refl _⟩ h (fun r8 M9 h => ?_)
  refine G_lstore_n (L' := [(3, .inr (.inl r8)), (0, .inr (.inr 0)), (1, .inl l1), (2, .inl l2)]) rfl (mfx.lt mf144 (Nat.le_of_ble_eq_true rfl)) rfl (ck dc144 (i := 27) rfl) ?_
  refine G_aload_n 1 rfl rfl (ck dc144 (i := 28) rfl) ?_
  refine H_getR mf144 (ck dc144 (i := 29) rfl) fw_ClearingWaves_36 fc10_5 ly0 ra0 rf0_5 (by decide) ?_
  refine G_aload_n 1 rfl rfl (ck dc144 (i := 30) rfl) ?_
  refine H_getR mf144 (ck dc144 (i := 31) rfl) fw_ClearingWaves_36 fc10_5 ly0 ra0 rf0_5 (by decide) ?_
  refine H_getI mf144 (ck dc144 (i := 32) rfl) fw_ClearingWaves_149 (Or.inl fc1_0) ly11 ra11 (x := (M9 11 0)) rfl ?_
  refine H_vL mf144 (As := [.inl (M9 11 0)]) (st := []) (ck dc144 (i := 33) rfl) lk_ClearingWaves_175 rfl rfl (Nat.le_of_ble_eq_true rfl) ly11 ra11 ⟨Nat.le_refl _, Nat.le_refl _⟩ h (fun r10 M11 h => ?_)
  refine G_lstore (L' := [(5, .inr (.inl r10)), (3, .inr (.inl r8)), (0, .inr (.inr 0)), (1, .inl l1), (2, .inl l2)]) (mfx.lt mf144 (Nat.le_of_ble_eq_true rfl)) rfl (ck dc144 (i := 34) rfl) ?_
  refine G_aload_n 2 rfl rfl (ck dc144 (i := 35) rfl) ?_
  refine H_getR mf144 (ck dc144 (i := 36) rfl) fw_ClearingWaves_83 fc10_14 ly0 ra0 rf0_14 (by decide) ?_
  refine G_lload_n 1 rfl rfl (ck dc144 (i := 37) rfl) ?_
  refine G_lload 0 rfl (ck dc144 (i := 38) rfl) ?_
  refine G_iconst (ck dc144 (i := 39) rfl) ?_
  refine H_sL mf144 (As := [.inr (.inl r8), .inr (.inl r10), .inl 0]) (st := [.inr (.inr 47)]) (ck dc144 (i := 40) rfl) lk_ClearingWaves_179 rfl rfl (Nat.le_of_ble_eq_true rfl) ⟨Nat.le_refl _, Nat.le_refl _⟩ h (fun r12 M13 h => ?_)
  refine H_vV mf144 (As := [.inr (.inl r12)]) (st := []) (ck dc144 (i := 41) rfl) lk_ClearingWaves_381 rfl rfl (Nat.le_of_ble_eq_true rfl) ly47 ra47 ⟨Nat.le_refl _, Nat.le_refl _⟩ h (fun M15 h => ?_)
  refine G_lload_n 1 rfl rfl (ck dc144 (i := 42) rfl) ?_
  refine G_lload 0 rfl (ck dc144 (i := 43) rfl) ?_
  refine G_iconst (ck dc144 (i := 44) rfl) ?_
  refine H_sL mf144 (As := [.inr (.inl r8), .inr (.inl r10), .inl 1]) (st := []) (ck dc144 (i := 45) rfl) lk_ClearingWaves_179 rfl rfl (Nat.le_of_ble_eq_true rfl) ⟨Nat.le_refl _, Nat.le_refl _⟩ h (fun r16 M17 h => ?_)
  refine G_lstore (L' := [(7, .inr (.inl r16)), (5, .inr (.inl r10)), (3, .inr (.inl r8)), (0, .inr (.inr 0)), (1, .inl l1), (2, .inl l2)]) (mfx.lt mf144 (Nat.le_of_ble_eq_true rfl)) rfl (ck dc144 (i := 46) rfl) ?_
  refine G_lload 0 rfl (ck dc144 (i := 47) rfl) ?_
  refine G_lconst (v := 1) rfl (ck dc144 (i := 48) rfl) ?_
  obtain ⟨o18, h⟩ := h
  refine G_lif_eq (tgt := 121) (ck dc144 (i := 50) rfl) (by decide) o18 (by decide) (ck dc144 (i := 49) rfl) (fun c => ?_) (fun c => ?_)
  · replace h := h.1 c
    exact H_vret mf144 (ck dc144 (i := 59) rfl) rfl h
  · replace h := h.2 c
    refine G_aload_n 3 rfl rfl (ck dc144 (i := 51) rfl) ?_
    refine H_getR mf144 (ck dc144 (i := 52) rfl) fw_ClearingWaves_83 fc10_14 ly0 ra0 rf0_14 (by decide) ?_
    refine G_bipush (n := 47) rfl (ck dc144 (i := 53) rfl) ?_
    refine H_vV mf144 (As := [.inl 47]) (st := []) (ck dc144 (i := 54) rfl) lk_ClearingWaves_379 rfl rfl (Nat.le_of_ble_eq_true rfl) ly47 ra47 ⟨Nat.le_refl _, Nat.le_refl _⟩ h (fun M20 h => ?_)
    refine G_aload_n 3 rfl rfl (ck dc144 (i := 55) rfl) ?_
    refine H_getR mf144 (ck dc144 (i := 56) rfl) fw_ClearingWaves_83 fc10_14 ly0 ra0 rf0_14 (by decide) ?_
    refine G_lload 0 rfl (ck dc144 (i := 57) rfl) ?_
    refine H_vV mf144 (As := [.inr (.inl r16)]) (st := []) (ck dc144 (i := 58) rfl) lk_ClearingWaves_381 rfl rfl (Nat.le_of_ble_eq_true rfl) ly47 ra47 ⟨Nat.le_refl _, Nat.le_refl _⟩ h (fun M22 h => ?_)
    exact H_vret mf144 (ck dc144 (i := 59) rfl) rfl h
theorem c_x_spell (K : Nat) (M : PM) (Q : Option PV → PM → Prop)
    (h : Call K jClearingWaves_cleared [.inr (.inr 0)] P0 P0 M (retR fun r1 M2 => r1 = 11 ∧ G none (K + 1) jClearingWaves_spell 15 [(0, .inr (.inr 0)), (1, .inr (.inr 11)), (2, .inl 1)] [] P0 P0 (mset M2 47 0 0) Q)) : Call (K + 1) jClearingWaves_spell [.inr (.inr 0)] P0 P0 M Q := by
  refine Call.intro (by decide +kernel) (mfx.le mf143 (Nat.le_of_ble_eq_true rfl)) (Nat.le_refl _) rfl ?_
  refine G_aload_n 0 rfl rfl (ck dc143 (i := 0) rfl) ?_
  refine H_vR mf143 (As := []) (st := []) (ck dc143 (i := 1) rfl) lk_ClearingWaves_145 rfl rfl (Nat.le_of_ble_eq_true rfl) ly0 ra0 ⟨Nat.le_refl _, Nat.le_refl _⟩ h (fun r1 M2 h => ?_)
  obtain ⟨rfl, h⟩ := h
  refine G_astore_n (L' := [(1, .inr (.inr 11)), (0, .inr (.inr 0))]) rfl (mfx.lt mf143 (Nat.le_of_ble_eq_true rfl)) rfl (ck dc143 (i := 2) rfl) ?_
  refine G_aload_n 1 rfl rfl (ck dc143 (i := 3) rfl) ?_
  refine H_getR mf143 (ck dc143 (i := 4) rfl) fw_ClearingWaves_83 fc10_14 ly0 ra0 rf0_14 (by decide) ?_
  refine G_iconst (ck dc143 (i := 5) rfl) ?_
  refine H_putI mf143 (ck dc143 (i := 6) rfl) fw_ClearingWaves_308 fc4_0 ly47 ra47 (Or.inl rfl) ?_
  refine G_iconst (ck dc143 (i := 7) rfl) ?_
  refine G_istore_n (L' := [(2, .inl 1), (1, .inr (.inr 11)), (0, .inr (.inr 0))]) rfl (mfx.lt mf143 (Nat.le_of_ble_eq_true rfl)) rfl (ck dc143 (i := 8) rfl) ?_
  exact G_sub [2, 1, 0] rfl h
theorem g_x_spell_15 (K : Nat) (l2 : Int) (M : PM) (Q : Option PV → PM → Prop)
    (h : R32 l2 ∧ R32 (M 11 0) ∧ ((M 11 0) < l2 → Q (some (.inl (M 47 0))) M) ∧ (¬ (M 11 0) < l2 → G none (K + 1) jClearingWaves_spell 25 [(0, .inr (.inr 0)), (1, .inr (.inr 11)), (2, .inl l2), (3, .inl 0)] [] P0 P0 M Q)) : G none (K + 1) jClearingWaves_spell 15 [(0, .inr (.inr 0)), (1, .inr (.inr 11)), (2, .inl l2)] [] P0 P0 M Q := by
  refine G_iload_n 2 rfl rfl (ck dc143 (i := 9) rfl) ?_
  refine G_aload_n 1 rfl rfl (ck dc143 (i := 10) rfl) ?_
  refine H_getI mf143 (ck dc143 (i := 11) rfl) fw_ClearingWaves_149 (Or.inl fc1_0) ly11 ra11 (x := (M 11 0)) rfl ?_
  obtain ⟨o1, h⟩ := h
  obtain ⟨o2, h⟩ := h
  refine G_icmp_gt (tgt := 64) (by decide) o1 o2 (ck dc143 (i := 12) rfl) (fun c => ?_) (fun c => ?_)
  · replace h := h.1 c
    refine G_aload_n 0 rfl rfl (ck dc143 (i := 34) rfl) ?_
    refine H_getR mf143 (ck dc143 (i := 35) rfl) fw_ClearingWaves_83 fc10_14 ly0 ra0 rf0_14 (by decide) ?_
    refine H_getI mf143 (ck dc143 (i := 36) rfl) fw_ClearingWaves_308 (Or.inl fc4_0) ly47 ra47 (x := (M 47 0)) rfl ?_
    exact H_iretI mf143 (ck dc143 (i := 37) rfl) rfl h
  · replace h := h.2 c
    refine G_iconst (ck dc143 (i := 13) rfl) ?_
    refine G_istore_n (L' := [(3, .inl 0), (0, .inr (.inr 0)), (1, .inr (.inr 11)), (2, .inl l2)]) rfl (mfx.lt mf143 (Nat.le_of_ble_eq_true rfl)) rfl (ck dc143 (i := 14) rfl) ?_
    exact G_sub [1, 2, 3, 0] rfl h
theorem g_x_spell_25 (K : Nat) (l2 l3 : Int) (M : PM) (Q : Option PV → PM → Prop)
    (h : R32 l3 ∧ R32 (M 1 0) ∧ ((M 1 0) ≤ l3 → G none (K + 1) jClearingWaves_spell 15 [(0, .inr (.inr 0)), (1, .inr (.inr 11)), (2, .inl (l2 + 1))] [] P0 P0 M Q) ∧ (¬ (M 1 0) ≤ l3 → (0 ≤ l3 ∧ l3 < 5) ∧ R32 (M 12 l3) ∧ R32 l2 ∧ (¬ (M 12 l3) = l2 → G none (K + 1) jClearingWaves_spell 25 [(0, .inr (.inr 0)), (1, .inr (.inr 11)), (2, .inl l2), (3, .inl (l3 + 1))] [] P0 P0 M Q) ∧ ((M 12 l3) = l2 → Call K jClearingWaves_spellHouse [.inr (.inr 0), .inl l3, .inl l2] P0 P0 M (retV fun M7 => G none (K + 1) jClearingWaves_spell 25 [(0, .inr (.inr 0)), (1, .inr (.inr 11)), (2, .inl l2), (3, .inl (l3 + 1))] [] P0 P0 M7 Q)))) : G none (K + 1) jClearingWaves_spell 25 [(0, .inr (.inr 0)), (1, .inr (.inr 11)), (2, .inl l2), (3, .inl l3)] [] P0 P0 M Q := by
  refine G_iload_n 3 rfl rfl (ck dc143 (i := 15) rfl) ?_
  refine G_aload_n 0 rfl rfl (ck dc143 (i := 16) rfl) ?_
  refine H_getR mf143 (ck dc143 (i := 17) rfl) fw_ClearingWaves_12 fc10_0 ly0 ra0 rf0_0 (by decide) ?_
  refine H_getI mf143 (ck dc143 (i := 18) rfl) fw_ClearingWaves_207 (Or.inl fc0_0) ly1 ra1 (x := (M 1 0)) rfl ?_
  obtain ⟨o1, h⟩ := h
  obtain ⟨o2, h⟩ := h
  refine G_icmp_ge (tgt := 58) (by decide) o1 o2 (ck dc143 (i := 19) rfl) (fun c => ?_) (fun c => ?_)
  · replace h := h.1 c
    refine G_iinc (L' := [(2, .inl (l2 + 1)), (0, .inr (.inr 0)), (1, .inr (.inr 11)), (3, .inl l3)]) 2 rfl (mfx.lt mf143 (Nat.le_of_ble_eq_true rfl)) rfl (ck dc143 (i := 32) rfl) ?_
    refine G_goto (tgt := 15) (by decide) (ck dc143 (i := 33) rfl) ?_
    exact G_sub [1, 2, 0] rfl h
  · replace h := h.2 c
    refine G_aload_n 1 rfl rfl (ck dc143 (i := 20) rfl) ?_
    refine H_getR mf143 (ck dc143 (i := 21) rfl) fw_ClearingWaves_152 fc1_2 ly11 ra11 rf11_2 (by decide) ?_
    refine G_iload_n 3 rfl rfl (ck dc143 (i := 22) rfl) ?_
    obtain ⟨o3, h⟩ := h
    refine H_iald (ck dc143 (i := 23) rfl) ly12 (by decide) ra12 o3 (x := (M 12 l3)) rfl ?_
    refine G_iload_n 2 rfl rfl (ck dc143 (i := 24) rfl) ?_
    obtain ⟨o4, h⟩ := h
    obtain ⟨o5, h⟩ := h
    refine G_icmp_ne (tgt := 52) (by decide) o4 o5 (ck dc143 (i := 25) rfl) (fun c => ?_) (fun c => ?_)
    · replace h := h.1 c
      refine G_iinc (L' := [(3, .inl (l3 + 1)), (0, .inr (.inr 0)), (1, .inr (.inr 11)), (2, .inl l2)]) 3 rfl (mfx.lt mf143 (Nat.le_of_ble_eq_true rfl)) rfl (ck dc143 (i := 30) rfl) ?_
      refine G_goto (tgt := 25) (by decide) (ck dc143 (i := 31) rfl) ?_
      exact G_sub [1, 2, 3, 0] rfl h
    · replace h := h.2 c
      refine G_aload_n 0 rfl rfl (ck dc143 (i := 26) rfl) ?_
      refine G_iload_n 3 rfl rfl (ck dc143 (i := 27) rfl) ?_
      refine G_iload_n 2 rfl rfl (ck dc143 (i := 28) rfl) ?_
      refine H_vV mf143 (As := [.inl l3, .inl l2]) (st := []) (ck dc143 (i := 29) rfl) lk_ClearingWaves_309 rfl rfl (Nat.le_of_ble_eq_true rfl) ly0 ra0 ⟨Nat.le_refl _, Nat.le_refl _⟩ h (fun M7 h => ?_)
      refine G_iinc (L' := [(3, .inl (l3 + 1)), (0, .inr (.inr 0)), (1, .inr (.inr 11)), (2, .inl l2)]) 3 rfl (mfx.lt mf143 (Nat.le_of_ble_eq_true rfl)) rfl (ck dc143 (i := 30) rfl) ?_
      refine G_goto (tgt := 25) (by decide) (ck dc143 (i := 31) rfl) ?_
      exact G_sub [1, 2, 3, 0] rfl h
theorem c_x_paper (K : Nat) (a1 : Int) (M : PM) (Q : Option PV → PM → Prop)
    (h : R32 a1 ∧ (a1 < 0 → Q (some (.inl (-1))) M) ∧ (¬ a1 < 0 → R32 (M 47 0) ∧ ((M 47 0) ≤ a1 → Q (some (.inl (-1))) M) ∧ (¬ (M 47 0) ≤ a1 → (0 ≤ a1 ∧ a1 < 200) ∧ Q (some (.inl (M 48 a1))) M))) : Call (K + 1) jClearingWaves_paper [.inr (.inr 0), .inl a1] P0 P0 M Q := by
  refine Call.intro (by decide +kernel) (mfx.le mf147 (Nat.le_of_ble_eq_true rfl)) (Nat.le_refl _) rfl ?_
  refine G_iload_n 1 rfl rfl (ck dc147 (i := 0) rfl) ?_
  obtain ⟨o1, h⟩ := h
  refine G_if_lt (tgt := 27) (by decide) o1 (ck dc147 (i := 1) rfl) (fun c => ?_) (fun c => ?_)
  · replace h := h.1 c
    refine G_iconst (ck dc147 (i := 13) rfl) ?_
    exact H_iretI mf147 (ck dc147 (i := 14) rfl) rfl h
  · replace h := h.2 c
    refine G_iload_n 1 rfl rfl (ck dc147 (i := 2) rfl) ?_
    refine G_aload_n 0 rfl rfl (ck dc147 (i := 3) rfl) ?_
    refine H_getR mf147 (ck dc147 (i := 4) rfl) fw_ClearingWaves_83 fc10_14 ly0 ra0 rf0_14 (by decide) ?_
    refine H_getI mf147 (ck dc147 (i := 5) rfl) fw_ClearingWaves_308 (Or.inl fc4_0) ly47 ra47 (x := (M 47 0)) rfl ?_
    obtain ⟨o2, h⟩ := h
    refine G_icmp_ge (tgt := 27) (by decide) o1 o2 (ck dc147 (i := 6) rfl) (fun c => ?_) (fun c => ?_)
    · replace h := h.1 c
      refine G_iconst (ck dc147 (i := 13) rfl) ?_
      exact H_iretI mf147 (ck dc147 (i := 14) rfl) rfl h
    · replace h := h.2 c
      refine G_aload_n 0 rfl rfl (ck dc147 (i := 7) rfl) ?_
      refine H_getR mf147 (ck dc147 (i := 8) rfl) fw_ClearingWaves_83 fc10_14 ly0 ra0 rf0_14 (by decide) ?_
      refine H_getR mf147 (ck dc147 (i := 9) rfl) fw_ClearingWaves_313 fc4_1 ly47 ra47 rf47_1 (by decide) ?_
      refine G_iload_n 1 rfl rfl (ck dc147 (i := 10) rfl) ?_
      obtain ⟨o3, h⟩ := h
      refine H_iald (ck dc147 (i := 11) rfl) ly48 (by decide) ra48 o3 (x := (M 48 a1)) rfl ?_
      refine G_goto (tgt := 28) (by decide) (ck dc147 (i := 12) rfl) ?_
      exact H_iretI mf147 (ck dc147 (i := 14) rfl) rfl h
theorem c_x_countOfHouse (K : Nat) (a1 : Int) (M : PM) (Q : Option PV → PM → Prop)
    (h : R32 a1 ∧ (a1 < 10 → G none (K + 1) jClearingWaves_countOfHouse 33 [(0, .inr (.inr 0)), (1, .inl a1)] [] P0 P0 M Q) ∧ (¬ a1 < 10 → Call K jBook_hasHouse [.inr (.inr 1), .inl (a1 - 10)] P0 P0 M (retI fun r2 M3 => R32 r2 ∧ (r2 = 0 → G none (K + 1) jClearingWaves_countOfHouse 33 [(0, .inr (.inr 0)), (1, .inl a1)] [] P0 P0 M3 Q) ∧ (¬ r2 = 0 → (0 ≤ (a1 - 10) ∧ (a1 - 10) < 5) ∧ Q (some (.inl (M3 2 (a1 - 10)))) M3)))) : Call (K + 1) jClearingWaves_countOfHouse [.inr (.inr 0), .inl a1] P0 P0 M Q := by
  refine Call.intro (by decide +kernel) (mfx.le mf152 (Nat.le_of_ble_eq_true rfl)) (Nat.le_refl _) rfl ?_
  refine G_iload_n 1 rfl rfl (ck dc152 (i := 0) rfl) ?_
  refine G_bipush (n := 10) rfl (ck dc152 (i := 1) rfl) ?_
  obtain ⟨o1, h⟩ := h
  refine G_icmp_lt (tgt := 33) (by decide) o1 (by decide) (ck dc152 (i := 2) rfl) (fun c => ?_) (fun c => ?_)
  · replace h := h.1 c
    exact G_sub [0, 1] rfl h
  · replace h := h.2 c
    refine G_aload_n 0 rfl rfl (ck dc152 (i := 3) rfl) ?_
    refine H_getR mf152 (ck dc152 (i := 4) rfl) fw_ClearingWaves_12 fc10_0 ly0 ra0 rf0_0 (by decide) ?_
    refine G_iload_n 1 rfl rfl (ck dc152 (i := 5) rfl) ?_
    refine G_bipush (n := 10) rfl (ck dc152 (i := 6) rfl) ?_
    refine G_isub (ck dc152 (i := 7) rfl) ?_
    refine H_vZ mf152 (As := [.inl (a1 - 10)]) (st := []) (ck dc152 (i := 8) rfl) lk_ClearingWaves_108 rfl rfl (Nat.le_of_ble_eq_true rfl) ly1 ra1 ⟨Nat.le_refl _, Nat.le_refl _⟩ h (fun r2 M3 h => ?_)
    obtain ⟨o4, h⟩ := h
    refine G_if_eq (tgt := 33) (by decide) o4 (ck dc152 (i := 9) rfl) (fun c => ?_) (fun c => ?_)
    · replace h := h.1 c
      exact G_sub [0, 1] rfl h
    · replace h := h.2 c
      refine G_aload_n 0 rfl rfl (ck dc152 (i := 10) rfl) ?_
      refine H_getR mf152 (ck dc152 (i := 11) rfl) fw_ClearingWaves_12 fc10_0 ly0 ra0 rf0_0 (by decide) ?_
      refine H_getR mf152 (ck dc152 (i := 12) rfl) fw_ClearingWaves_30 fc0_3 ly1 ra1 rf1_3 (by decide) ?_
      refine G_iload_n 1 rfl rfl (ck dc152 (i := 13) rfl) ?_
      refine G_bipush (n := 10) rfl (ck dc152 (i := 14) rfl) ?_
      refine G_isub (ck dc152 (i := 15) rfl) ?_
      obtain ⟨o5, h⟩ := h
      refine H_iald (ck dc152 (i := 16) rfl) ly2 (by decide) ra2 o5 (x := (M3 2 (a1 - 10))) rfl ?_
      exact H_iretI mf152 (ck dc152 (i := 17) rfl) rfl h
theorem g_x_countOfHouse_33 (K : Nat) (l1 : Int) (M : PM) (Q : Option PV → PM → Prop)
    (h : R32 l1 ∧ (l1 < 20 → Q (some (.inl (-1))) M) ∧ (¬ l1 < 20 → R32 (l1 - 20) ∧ Call K jBook_hasHouse [.inr (.inr 1), .inl (Int.tdiv (l1 - 20) 3)] P0 P0 M (retI fun r3 M4 => R32 r3 ∧ (r3 = 0 → Q (some (.inl (-1))) M4) ∧ (¬ r3 = 0 → Call K jBook_dueIn [.inr (.inr 1), .inl (Int.tdiv (l1 - 20) 3), .inl (Int.tmod (l1 - 20) 3)] P0 P0 M4 (retI fun r6 M7 => Q (some (.inl r6)) M7))))) : G none (K + 1) jClearingWaves_countOfHouse 33 [(0, .inr (.inr 0)), (1, .inl l1)] [] P0 P0 M Q := by
  refine G_iload_n 1 rfl rfl (ck dc152 (i := 18) rfl) ?_
  refine G_bipush (n := 20) rfl (ck dc152 (i := 19) rfl) ?_
  obtain ⟨o1, h⟩ := h
  refine G_icmp_lt (tgt := 75) (by decide) o1 (by decide) (ck dc152 (i := 20) rfl) (fun c => ?_) (fun c => ?_)
  · replace h := h.1 c
    refine G_iconst (ck dc152 (i := 44) rfl) ?_
    exact H_iretI mf152 (ck dc152 (i := 45) rfl) rfl h
  · replace h := h.2 c
    refine G_aload_n 0 rfl rfl (ck dc152 (i := 21) rfl) ?_
    refine H_getR mf152 (ck dc152 (i := 22) rfl) fw_ClearingWaves_12 fc10_0 ly0 ra0 rf0_0 (by decide) ?_
    refine G_iload_n 1 rfl rfl (ck dc152 (i := 23) rfl) ?_
    refine G_bipush (n := 20) rfl (ck dc152 (i := 24) rfl) ?_
    refine G_isub (ck dc152 (i := 25) rfl) ?_
    refine G_iconst (ck dc152 (i := 26) rfl) ?_
    obtain ⟨o2, h⟩ := h
    refine G_idiv o2 (by decide) (by decide) (ck dc152 (i := 27) rfl) ?_
    refine H_vZ mf152 (As := [.inl (Int.tdiv (l1 - 20) 3)]) (st := []) (ck dc152 (i := 28) rfl) lk_ClearingWaves_108 rfl rfl (Nat.le_of_ble_eq_true rfl) ly1 ra1 ⟨Nat.le_refl _, Nat.le_refl _⟩ h (fun r3 M4 h => ?_)
    obtain ⟨o5, h⟩ := h
    refine G_if_eq (tgt := 75) (by decide) o5 (ck dc152 (i := 29) rfl) (fun c => ?_) (fun c => ?_)
    · replace h := h.1 c
      refine G_iconst (ck dc152 (i := 44) rfl) ?_
      exact H_iretI mf152 (ck dc152 (i := 45) rfl) rfl h
    · replace h := h.2 c
      refine G_aload_n 0 rfl rfl (ck dc152 (i := 30) rfl) ?_
      refine H_getR mf152 (ck dc152 (i := 31) rfl) fw_ClearingWaves_12 fc10_0 ly0 ra0 rf0_0 (by decide) ?_
      refine G_iload_n 1 rfl rfl (ck dc152 (i := 32) rfl) ?_
      refine G_bipush (n := 20) rfl (ck dc152 (i := 33) rfl) ?_
      refine G_isub (ck dc152 (i := 34) rfl) ?_
      refine G_iconst (ck dc152 (i := 35) rfl) ?_
      refine G_idiv o2 (by decide) (by decide) (ck dc152 (i := 36) rfl) ?_
      refine G_iload_n 1 rfl rfl (ck dc152 (i := 37) rfl) ?_
      refine G_bipush (n := 20) rfl (ck dc152 (i := 38) rfl) ?_
      refine G_isub (ck dc152 (i := 39) rfl) ?_
      refine G_iconst (ck dc152 (i := 40) rfl) ?_
      refine G_irem o2 (by decide) (by decide) (ck dc152 (i := 41) rfl) ?_
      refine H_vI mf152 (As := [.inl (Int.tdiv (l1 - 20) 3), .inl (Int.tmod (l1 - 20) 3)]) (st := []) (ck dc152 (i := 42) rfl) lk_ClearingWaves_388 rfl rfl (Nat.le_of_ble_eq_true rfl) ly1 ra1 ⟨Nat.le_refl _, Nat.le_refl _⟩ h (fun r6 M7 h => ?_)
      exact H_iretI mf152 (ck dc152 (i := 43) rfl) rfl h
set_option maxHeartbeats 20000000 in
theorem c_x_count (K : Nat) (a1 : Int) (M : PM) (Q : Option PV → PM → Prop)
    (h : R32 a1 ∧ ((a1 < 0 ∨ 7 < a1) → Call K jClearingWaves_countOfHouse [.inr (.inr 0), .inl a1] P0 P0 M (retI fun r2 M3 => Q (some (.inl r2)) M3)) ∧ (a1 = 0 → Q (some (.inl (M 1 0))) M) ∧ (a1 = 1 → Q (some (.inl (M 1 1))) M) ∧ (a1 = 2 → Q (some (.inl (M 1 2))) M) ∧ (a1 = 3 → Call K jBook_cashOfAll [.inr (.inr 1)] P0 P0 M (retI fun r4 M5 => Q (some (.inl r4)) M5)) ∧ (a1 = 4 → Call K jBook_dueOfAll [.inr (.inr 1)] P0 P0 M (retI fun r6 M7 => Q (some (.inl r6)) M7)) ∧ (a1 = 5 → Q (some (.inl (M 45 0))) M) ∧ (a1 = 6 → Q (some (.inl (M 47 0))) M) ∧ (a1 = 7 → Call K jBook_openDebts [.inr (.inr 1)] P0 P0 M (retI fun r8 M9 => Q (some (.inl r8)) M9))) : Call (K + 1) jClearingWaves_count [.inr (.inr 0), .inl a1] P0 P0 M Q := by
  refine Call.intro (by decide +kernel) (mfx.le mf148 (Nat.le_of_ble_eq_true rfl)) (Nat.le_refl _) rfl ?_
  refine G_iload_n 1 rfl rfl (ck dc148 (i := 0) rfl) ?_
  obtain ⟨o1, h⟩ := h
  by_cases q : (a1 < 0 ∨ 7 < a1)
  · replace h := h.1 q
    refine G_tsOut (tgt := 112) o1 q (by decide) (ck dc148 (i := 1) rfl) ?_
    refine G_aload_n 0 rfl rfl (ck dc148 (i := 34) rfl) ?_
    refine G_iload_n 1 rfl rfl (ck dc148 (i := 35) rfl) ?_
    refine H_vI mf148 (As := [.inl a1]) (st := []) (ck dc148 (i := 36) rfl) lk_ClearingWaves_325 rfl rfl (Nat.le_of_ble_eq_true rfl) ly0 ra0 ⟨Nat.le_refl _, Nat.le_refl _⟩ h (fun r2 M3 h => ?_)
    exact H_iretI mf148 (ck dc148 (i := 37) rfl) rfl h
  · replace h := h.2
    have q2 : a1 = 0 ∨ a1 = 1 ∨ a1 = 2 ∨ a1 = 3 ∨ a1 = 4 ∨ a1 = 5 ∨ a1 = 6 ∨ a1 = 7 := by omega
    rcases q2 with q2 | q2
    · replace h := h.1 q2
      refine G_tsIn (off := 47) (tgt := 48) o1 (by omega) (by omega) (by rw [q2]; rfl) (by decide) (ck dc148 (i := 1) rfl) ?_
      refine G_aload_n 0 rfl rfl (ck dc148 (i := 2) rfl) ?_
      refine H_getR mf148 (ck dc148 (i := 3) rfl) fw_ClearingWaves_12 fc10_0 ly0 ra0 rf0_0 (by decide) ?_
      refine H_getI mf148 (ck dc148 (i := 4) rfl) fw_ClearingWaves_207 (Or.inl fc0_0) ly1 ra1 (x := (M 1 0)) rfl ?_
      exact H_iretI mf148 (ck dc148 (i := 5) rfl) rfl h
    replace h := h.2
    rcases q2 with q2 | q2
    · replace h := h.1 q2
      refine G_tsIn (off := 55) (tgt := 56) o1 (by omega) (by omega) (by rw [q2]; rfl) (by decide) (ck dc148 (i := 1) rfl) ?_
      refine G_aload_n 0 rfl rfl (ck dc148 (i := 6) rfl) ?_
      refine H_getR mf148 (ck dc148 (i := 7) rfl) fw_ClearingWaves_12 fc10_0 ly0 ra0 rf0_0 (by decide) ?_
      refine H_getI mf148 (ck dc148 (i := 8) rfl) fw_ClearingWaves_124 (Or.inl fc0_1) ly1 ra1 (x := (M 1 1)) rfl ?_
      exact H_iretI mf148 (ck dc148 (i := 9) rfl) rfl h
    replace h := h.2
    rcases q2 with q2 | q2
    · replace h := h.1 q2
      refine G_tsIn (off := 63) (tgt := 64) o1 (by omega) (by omega) (by rw [q2]; rfl) (by decide) (ck dc148 (i := 1) rfl) ?_
      refine G_aload_n 0 rfl rfl (ck dc148 (i := 10) rfl) ?_
      refine H_getR mf148 (ck dc148 (i := 11) rfl) fw_ClearingWaves_12 fc10_0 ly0 ra0 rf0_0 (by decide) ?_
      refine H_getI mf148 (ck dc148 (i := 12) rfl) fw_ClearingWaves_128 (Or.inl fc0_2) ly1 ra1 (x := (M 1 2)) rfl ?_
      exact H_iretI mf148 (ck dc148 (i := 13) rfl) rfl h
    replace h := h.2
    rcases q2 with q2 | q2
    · replace h := h.1 q2
      refine G_tsIn (off := 71) (tgt := 72) o1 (by omega) (by omega) (by rw [q2]; rfl) (by decide) (ck dc148 (i := 1) rfl) ?_
      refine G_aload_n 0 rfl rfl (ck dc148 (i := 14) rfl) ?_
      refine H_getR mf148 (ck dc148 (i := 15) rfl) fw_ClearingWaves_12 fc10_0 ly0 ra0 rf0_0 (by decide) ?_
      refine H_vI mf148 (As := []) (st := []) (ck dc148 (i := 16) rfl) lk_ClearingWaves_316 rfl rfl (Nat.le_of_ble_eq_true rfl) ly1 ra1 ⟨Nat.le_refl _, Nat.le_refl _⟩ h (fun r4 M5 h => ?_)
      exact H_iretI mf148 (ck dc148 (i := 17) rfl) rfl h
    replace h := h.2
    rcases q2 with q2 | q2
    · replace h := h.1 q2
      refine G_tsIn (off := 79) (tgt := 80) o1 (by omega) (by omega) (by rw [q2]; rfl) (by decide) (ck dc148 (i := 1) rfl) ?_
      refine G_aload_n 0 rfl rfl (ck dc148 (i := 18) rfl) ?_
      refine H_getR mf148 (ck dc148 (i := 19) rfl) fw_ClearingWaves_12 fc10_0 ly0 ra0 rf0_0 (by decide) ?_
      refine H_vI mf148 (As := []) (st := []) (ck dc148 (i := 20) rfl) lk_ClearingWaves_319 rfl rfl (Nat.le_of_ble_eq_true rfl) ly1 ra1 ⟨Nat.le_refl _, Nat.le_refl _⟩ h (fun r6 M7 h => ?_)
      exact H_iretI mf148 (ck dc148 (i := 21) rfl) rfl h
    replace h := h.2
    rcases q2 with q2 | q2
    · replace h := h.1 q2
      refine G_tsIn (off := 87) (tgt := 88) o1 (by omega) (by omega) (by rw [q2]; rfl) (by decide) (ck dc148 (i := 1) rfl) ?_
      refine G_aload_n 0 rfl rfl (ck dc148 (i := 22) rfl) ?_
      refine H_getR mf148 (ck dc148 (i := 23) rfl) fw_ClearingWaves_76 fc10_13 ly0 ra0 rf0_13 (by decide) ?_
      refine H_getI mf148 (ck dc148 (i := 24) rfl) fw_ClearingWaves_134 (Or.inl fc7_0) ly45 ra45 (x := (M 45 0)) rfl ?_
      exact H_iretI mf148 (ck dc148 (i := 25) rfl) rfl h
    replace h := h.2
    rcases q2 with q2 | q2
    · replace h := h.1 q2
      refine G_tsIn (off := 95) (tgt := 96) o1 (by omega) (by omega) (by rw [q2]; rfl) (by decide) (ck dc148 (i := 1) rfl) ?_
      refine G_aload_n 0 rfl rfl (ck dc148 (i := 26) rfl) ?_
      refine H_getR mf148 (ck dc148 (i := 27) rfl) fw_ClearingWaves_83 fc10_14 ly0 ra0 rf0_14 (by decide) ?_
      refine H_getI mf148 (ck dc148 (i := 28) rfl) fw_ClearingWaves_308 (Or.inl fc4_0) ly47 ra47 (x := (M 47 0)) rfl ?_
      exact H_iretI mf148 (ck dc148 (i := 29) rfl) rfl h
    replace h := h.2
    · replace h := h q2
      refine G_tsIn (off := 103) (tgt := 104) o1 (by omega) (by omega) (by rw [q2]; rfl) (by decide) (ck dc148 (i := 1) rfl) ?_
      refine G_aload_n 0 rfl rfl (ck dc148 (i := 30) rfl) ?_
      refine H_getR mf148 (ck dc148 (i := 31) rfl) fw_ClearingWaves_12 fc10_0 ly0 ra0 rf0_0 (by decide) ?_
      refine H_vI mf148 (As := []) (st := []) (ck dc148 (i := 32) rfl) lk_ClearingWaves_322 rfl rfl (Nat.le_of_ble_eq_true rfl) ly1 ra1 ⟨Nat.le_refl _, Nat.le_refl _⟩ h (fun r8 M9 h => ?_)
      exact H_iretI mf148 (ck dc148 (i := 33) rfl) rfl h
theorem c_x_row (K : Nat) (a1 a2 : Int) (M : PM) (Q : Option PV → PM → Prop)
    (h : Call K jRows_has [.inr (.inr 49), .inl a1] P0 P0 M (retI fun r1 M2 => R32 r1 ∧ (¬ r1 = 0 → R32 a2 ∧ (a2 ≤ 20 → (0 ≤ a2 → Call K jRows_begin [.inr (.inr 49), .inl a1, .inl a2] P0 P0 M2 (retV fun M6 => Q (some (.inl 1)) M6)) ∧ (¬ 0 ≤ a2 → Q (some (.inl (-14))) M2)) ∧ (¬ a2 ≤ 20 → Q (some (.inl (-2))) M2)) ∧ (r1 = 0 → Q (some (.inl (-1))) M2))) : Call (K + 1) jClearingWaves_row [.inr (.inr 0), .inl a1, .inl a2] P0 P0 M Q := by
  refine Call.intro (by decide +kernel) (mfx.le mf153 (Nat.le_of_ble_eq_true rfl)) (Nat.le_refl _) rfl ?_
  refine G_aload_n 0 rfl rfl (ck dc153 (i := 0) rfl) ?_
  refine H_getR mf153 (ck dc153 (i := 1) rfl) fw_ClearingWaves_90 fc10_15 ly0 ra0 rf0_15 (by decide) ?_
  refine G_iload_n 1 rfl rfl (ck dc153 (i := 2) rfl) ?_
  refine H_vZ mf153 (As := [.inl a1]) (st := []) (ck dc153 (i := 3) rfl) lk_ClearingWaves_254 rfl rfl (Nat.le_of_ble_eq_true rfl) ly49 ra49 ⟨Nat.le_refl _, Nat.le_refl _⟩ h (fun r1 M2 h => ?_)
  obtain ⟨o3, h⟩ := h
  refine G_if_ne (tgt := 13) (by decide) o3 (ck dc153 (i := 4) rfl) (fun c => ?_) (fun c => ?_)
  · replace h := h.1 c
    refine G_iload_n 2 rfl rfl (ck dc153 (i := 7) rfl) ?_
    refine G_bipush (n := 20) rfl (ck dc153 (i := 8) rfl) ?_
    obtain ⟨o4, h⟩ := h
    refine G_icmp_le (tgt := 22) (by decide) o4 (by decide) (ck dc153 (i := 9) rfl) (fun c => ?_) (fun c => ?_)
    · replace h := h.1 c
      refine G_iload_n 2 rfl rfl (ck dc153 (i := 12) rfl) ?_
      refine G_if_ge (tgt := 29) (by decide) o4 (ck dc153 (i := 13) rfl) (fun c => ?_) (fun c => ?_)
      · replace h := h.1 c
        refine G_aload_n 0 rfl rfl (ck dc153 (i := 16) rfl) ?_
        refine H_getR mf153 (ck dc153 (i := 17) rfl) fw_ClearingWaves_90 fc10_15 ly0 ra0 rf0_15 (by decide) ?_
        refine G_iload_n 1 rfl rfl (ck dc153 (i := 18) rfl) ?_
        refine G_iload_n 2 rfl rfl (ck dc153 (i := 19) rfl) ?_
        refine H_vV mf153 (As := [.inl a1, .inl a2]) (st := []) (ck dc153 (i := 20) rfl) lk_ClearingWaves_328 rfl rfl (Nat.le_of_ble_eq_true rfl) ly49 ra49 ⟨Nat.le_refl _, Nat.le_refl _⟩ h (fun M6 h => ?_)
        refine G_iconst (ck dc153 (i := 21) rfl) ?_
        exact H_iretI mf153 (ck dc153 (i := 22) rfl) rfl h
      · replace h := h.2 c
        refine G_bipush (n := (-14)) rfl (ck dc153 (i := 14) rfl) ?_
        exact H_iretI mf153 (ck dc153 (i := 15) rfl) rfl h
    · replace h := h.2 c
      refine G_bipush (n := (-2)) rfl (ck dc153 (i := 10) rfl) ?_
      exact H_iretI mf153 (ck dc153 (i := 11) rfl) rfl h
  · replace h := h.2 c
    refine G_iconst (ck dc153 (i := 5) rfl) ?_
    exact H_iretI mf153 (ck dc153 (i := 6) rfl) rfl h
theorem c_x_set (K : Nat) (a1 a2 a3 : Int) (M : PM) (Q : Option PV → PM → Prop)
    (h : Call K jRows_has [.inr (.inr 49), .inl a1] P0 P0 M (retI fun r1 M2 => R32 r1 ∧ (¬ r1 = 0 → Call K jRows_holds [.inr (.inr 49), .inl a1] P0 P0 M2 (retI fun r4 M5 => R32 r4 ∧ (¬ r4 = 0 → Call K jRows_layAt [.inr (.inr 49), .inl a1, .inl a2, .inl 0, .inr (.inl a3)] P0 P0 M5 (retI fun r7 M8 => R32 r7 ∧ (r7 = 0 → Q (some (.inl (-13))) M8) ∧ (¬ r7 = 0 → Q (some (.inl 1)) M8))) ∧ (r4 = 0 → Q (some (.inl (-11))) M5))) ∧ (r1 = 0 → Q (some (.inl (-1))) M2))) : Call (K + 1) jClearingWaves_set [.inr (.inr 0), .inl a1, .inl a2, .inr (.inl a3)] P0 P0 M Q := by
  refine Call.intro (by decide +kernel) (mfx.le mf155 (Nat.le_of_ble_eq_true rfl)) (Nat.le_refl _) rfl ?_
  refine G_aload_n 0 rfl rfl (ck dc155 (i := 0) rfl) ?_
  refine H_getR mf155 (ck dc155 (i := 1) rfl) fw_ClearingWaves_90 fc10_15 ly0 ra0 rf0_15 (by decide) ?_
  refine G_iload_n 1 rfl rfl (ck dc155 (i := 2) rfl) ?_
  refine H_vZ mf155 (As := [.inl a1]) (st := []) (ck dc155 (i := 3) rfl) lk_ClearingWaves_254 rfl rfl (Nat.le_of_ble_eq_true rfl) ly49 ra49 ⟨Nat.le_refl _, Nat.le_refl _⟩ h (fun r1 M2 h => ?_)
  obtain ⟨o3, h⟩ := h
  refine G_if_ne (tgt := 13) (by decide) o3 (ck dc155 (i := 4) rfl) (fun c => ?_) (fun c => ?_)
  · replace h := h.1 c
    refine G_aload_n 0 rfl rfl (ck dc155 (i := 7) rfl) ?_
    refine H_getR mf155 (ck dc155 (i := 8) rfl) fw_ClearingWaves_90 fc10_15 ly0 ra0 rf0_15 (by decide) ?_
    refine G_iload_n 1 rfl rfl (ck dc155 (i := 9) rfl) ?_
    refine H_vZ mf155 (As := [.inl a1]) (st := []) (ck dc155 (i := 10) rfl) lk_ClearingWaves_257 rfl rfl (Nat.le_of_ble_eq_true rfl) ly49 ra49 ⟨Nat.le_refl _, Nat.le_refl _⟩ h (fun r4 M5 h => ?_)
    obtain ⟨o6, h⟩ := h
    refine G_if_ne (tgt := 27) (by decide) o6 (ck dc155 (i := 11) rfl) (fun c => ?_) (fun c => ?_)
    · replace h := h.1 c
      refine G_aload_n 0 rfl rfl (ck dc155 (i := 14) rfl) ?_
      refine H_getR mf155 (ck dc155 (i := 15) rfl) fw_ClearingWaves_90 fc10_15 ly0 ra0 rf0_15 (by decide) ?_
      refine G_iload_n 1 rfl rfl (ck dc155 (i := 16) rfl) ?_
      refine G_iload_n 2 rfl rfl (ck dc155 (i := 17) rfl) ?_
      refine G_iconst (ck dc155 (i := 18) rfl) ?_
      refine G_lload_n 3 rfl rfl (ck dc155 (i := 19) rfl) ?_
      refine H_vZ mf155 (As := [.inl a1, .inl a2, .inl 0, .inr (.inl a3)]) (st := []) (ck dc155 (i := 20) rfl) lk_ClearingWaves_260 rfl rfl (Nat.le_of_ble_eq_true rfl) ly49 ra49 ⟨Nat.le_refl _, Nat.le_refl _⟩ h (fun r7 M8 h => ?_)
      obtain ⟨o9, h⟩ := h
      refine G_if_eq (tgt := 45) (by decide) o9 (ck dc155 (i := 21) rfl) (fun c => ?_) (fun c => ?_)
      · replace h := h.1 c
        refine G_bipush (n := (-13)) rfl (ck dc155 (i := 24) rfl) ?_
        exact H_iretI mf155 (ck dc155 (i := 25) rfl) rfl h
      · replace h := h.2 c
        refine G_iconst (ck dc155 (i := 22) rfl) ?_
        refine G_goto (tgt := 47) (by decide) (ck dc155 (i := 23) rfl) ?_
        exact H_iretI mf155 (ck dc155 (i := 25) rfl) rfl h
    · replace h := h.2 c
      refine G_bipush (n := (-11)) rfl (ck dc155 (i := 12) rfl) ?_
      exact H_iretI mf155 (ck dc155 (i := 13) rfl) rfl h
  · replace h := h.2 c
    refine G_iconst (ck dc155 (i := 5) rfl) ?_
    exact H_iretI mf155 (ck dc155 (i := 6) rfl) rfl h
theorem c_x_get (K : Nat) (a1 a2 : Int) (M : PM) (Q : Option PV → PM → Prop)
    (h : Call K jRows_hasPlace [.inr (.inr 49), .inl a1, .inl a2] P0 P0 M (retI fun r1 M2 => R32 r1 ∧ (r1 = 0 → Q (some (.inr (.inl (-9223372036854775808)))) M2) ∧ (¬ r1 = 0 → Call K jRows_at [.inr (.inr 49), .inl a1, .inl a2] P0 P0 M2 (retL fun r4 M5 => Q (some (.inr (.inl r4))) M5)))) : Call (K + 1) jClearingWaves_get [.inr (.inr 0), .inl a1, .inl a2] P0 P0 M Q := by
  refine Call.intro (by decide +kernel) (mfx.le mf156 (Nat.le_of_ble_eq_true rfl)) (Nat.le_refl _) rfl ?_
  refine G_aload_n 0 rfl rfl (ck dc156 (i := 0) rfl) ?_
  refine H_getR mf156 (ck dc156 (i := 1) rfl) fw_ClearingWaves_90 fc10_15 ly0 ra0 rf0_15 (by decide) ?_
  refine G_iload_n 1 rfl rfl (ck dc156 (i := 2) rfl) ?_
  refine G_iload_n 2 rfl rfl (ck dc156 (i := 3) rfl) ?_
  refine H_vZ mf156 (As := [.inl a1, .inl a2]) (st := []) (ck dc156 (i := 4) rfl) lk_ClearingWaves_330 rfl rfl (Nat.le_of_ble_eq_true rfl) ly49 ra49 ⟨Nat.le_refl _, Nat.le_refl _⟩ h (fun r1 M2 h => ?_)
  obtain ⟨o3, h⟩ := h
  refine G_if_eq (tgt := 24) (by decide) o3 (ck dc156 (i := 5) rfl) (fun c => ?_) (fun c => ?_)
  · replace h := h.1 c
    refine H_ldc2 mf156 (v := (-9223372036854775808)) (ck dc156 (i := 12) rfl) kl_ClearingWaves_169 ?_
    exact H_lret mf156 (ck dc156 (i := 13) rfl) rfl h
  · replace h := h.2 c
    refine G_aload_n 0 rfl rfl (ck dc156 (i := 6) rfl) ?_
    refine H_getR mf156 (ck dc156 (i := 7) rfl) fw_ClearingWaves_90 fc10_15 ly0 ra0 rf0_15 (by decide) ?_
    refine G_iload_n 1 rfl rfl (ck dc156 (i := 8) rfl) ?_
    refine G_iload_n 2 rfl rfl (ck dc156 (i := 9) rfl) ?_
    refine H_vL mf156 (As := [.inl a1, .inl a2]) (st := []) (ck dc156 (i := 10) rfl) lk_ClearingWaves_333 rfl rfl (Nat.le_of_ble_eq_true rfl) ly49 ra49 ⟨Nat.le_refl _, Nat.le_refl _⟩ h (fun r4 M5 h => ?_)
    refine G_goto (tgt := 27) (by decide) (ck dc156 (i := 11) rfl) ?_
    exact H_lret mf156 (ck dc156 (i := 13) rfl) rfl h
theorem c_x_lay (K : Nat) (a1 a2 : Int) (M : PM) (Q : Option PV → PM → Prop)
    (h : Call K jRows_has [.inr (.inr 49), .inl a1] P0 P0 M (retI fun r1 M2 => R32 r1 ∧ (¬ r1 = 0 → Call K jRows_holds [.inr (.inr 49), .inl a1] P0 P0 M2 (retI fun r4 M5 => R32 r4 ∧ (¬ r4 = 0 → Call K jClearingWaves_cleared [.inr (.inr 0)] P0 P0 M5 (retR fun r7 M8 => r7 = 11 ∧ G none (K + 1) jClearingWaves_lay 49 [(0, .inr (.inr 0)), (1, .inl a1), (2, .inl a2), (3, .inr (.inr 11)), (4, .inl (3 * (M8 1 0))), (5, .inl 1), (6, .inl 0)] [] P0 P0 M8 Q)) ∧ (r4 = 0 → Q (some (.inl (-11))) M5))) ∧ (r1 = 0 → Q (some (.inl (-1))) M2))) : Call (K + 1) jClearingWaves_lay [.inr (.inr 0), .inl a1, .inl a2] P0 P0 M Q := by
  refine Call.intro (by decide +kernel) (mfx.le mf158 (Nat.le_of_ble_eq_true rfl)) (Nat.le_refl _) rfl ?_
  refine G_aload_n 0 rfl rfl (ck dc158 (i := 0) rfl) ?_
  refine H_getR mf158 (ck dc158 (i := 1) rfl) fw_ClearingWaves_90 fc10_15 ly0 ra0 rf0_15 (by decide) ?_
  refine G_iload_n 1 rfl rfl (ck dc158 (i := 2) rfl) ?_
  refine H_vZ mf158 (As := [.inl a1]) (st := []) (ck dc158 (i := 3) rfl) lk_ClearingWaves_254 rfl rfl (Nat.le_of_ble_eq_true rfl) ly49 ra49 ⟨Nat.le_refl _, Nat.le_refl _⟩ h (fun r1 M2 h => ?_)
  obtain ⟨o3, h⟩ := h
  refine G_if_ne (tgt := 13) (by decide) o3 (ck dc158 (i := 4) rfl) (fun c => ?_) (fun c => ?_)
  · replace h := h.1 c
    refine G_aload_n 0 rfl rfl (ck dc158 (i := 7) rfl) ?_
    refine H_getR mf158 (ck dc158 (i := 8) rfl) fw_ClearingWaves_90 fc10_15 ly0 ra0 rf0_15 (by decide) ?_
    refine G_iload_n 1 rfl rfl (ck dc158 (i := 9) rfl) ?_
    refine H_vZ mf158 (As := [.inl a1]) (st := []) (ck dc158 (i := 10) rfl) lk_ClearingWaves_257 rfl rfl (Nat.le_of_ble_eq_true rfl) ly49 ra49 ⟨Nat.le_refl _, Nat.le_refl _⟩ h (fun r4 M5 h => ?_)
    obtain ⟨o6, h⟩ := h
    refine G_if_ne (tgt := 27) (by decide) o6 (ck dc158 (i := 11) rfl) (fun c => ?_) (fun c => ?_)
    · replace h := h.1 c
      refine G_aload_n 0 rfl rfl (ck dc158 (i := 14) rfl) ?_
      refine H_vR mf158 (As := []) (st := []) (ck dc158 (i := 15) rfl) lk_ClearingWaves_145 rfl rfl (Nat.le_of_ble_eq_true rfl) ly0 ra0 ⟨Nat.le_refl _, Nat.le_refl _⟩ h (fun r7 M8 h => ?_)
      obtain ⟨rfl, h⟩ := h
      refine G_astore_n (L' := [(3, .inr (.inr 11)), (0, .inr (.inr 0)), (1, .inl a1), (2, .inl a2)]) rfl (mfx.lt mf158 (Nat.le_of_ble_eq_true rfl)) rfl (ck dc158 (i := 16) rfl) ?_
      refine G_iconst (ck dc158 (i := 17) rfl) ?_
      refine G_aload_n 1 rfl rfl (ck dc158 (i := 18) rfl) ?_
      refine H_getR mf158 (ck dc158 (i := 19) rfl) fw_ClearingWaves_12 fc10_0 ly0 ra0 rf0_0 (by decide) ?_
      refine H_getI mf158 (ck dc158 (i := 20) rfl) fw_ClearingWaves_207 (Or.inl fc0_0) ly1 ra1 (x := (M8 1 0)) rfl ?_
      refine G_imul (ck dc158 (i := 21) rfl) ?_
      refine G_istore (L' := [(4, .inl (3 * (M8 1 0))), (3, .inr (.inr 11)), (0, .inr (.inr 0)), (1, .inl a1), (2, .inl a2)]) (mfx.lt mf158 (Nat.le_of_ble_eq_true rfl)) rfl (ck dc158 (i := 22) rfl) ?_
      refine G_iconst (ck dc158 (i := 23) rfl) ?_
      refine G_istore (L' := [(5, .inl 1), (4, .inl (3 * (M8 1 0))), (3, .inr (.inr 11)), (0, .inr (.inr 0)), (1, .inl a1), (2, .inl a2)]) (mfx.lt mf158 (Nat.le_of_ble_eq_true rfl)) rfl (ck dc158 (i := 24) rfl) ?_
      refine G_iconst (ck dc158 (i := 25) rfl) ?_
      refine G_istore (L' := [(6, .inl 0), (5, .inl 1), (4, .inl (3 * (M8 1 0))), (3, .inr (.inr 11)), (0, .inr (.inr 0)), (1, .inl a1), (2, .inl a2)]) (mfx.lt mf158 (Nat.le_of_ble_eq_true rfl)) rfl (ck dc158 (i := 26) rfl) ?_
      exact G_sub [4, 5, 6, 3, 2, 1, 0] rfl h
    · replace h := h.2 c
      refine G_bipush (n := (-11)) rfl (ck dc158 (i := 12) rfl) ?_
      exact H_iretI mf158 (ck dc158 (i := 13) rfl) rfl h
  · replace h := h.2 c
    refine G_iconst (ck dc158 (i := 5) rfl) ?_
    exact H_iretI mf158 (ck dc158 (i := 6) rfl) rfl h
set_option maxHeartbeats 20000000 in
theorem g_x_lay_49 (K : Nat) (l1 l2 l4 l5 l6 : Int) (M : PM) (Q : Option PV → PM → Prop)
    (h : R32 l6 ∧ R32 l4 ∧ (l4 ≤ l6 → Call K jClearing_bottom [.inr (.inr 11), .inl (M 11 0)] P0 P0 M (retL fun r3 M4 => Call K jRows_layAt [.inr (.inr 49), .inl l1, .inl l2, .inl l4, .inr (.inl r3)] P0 P0 M4 (retI fun r5 M6 => R32 r5 ∧ (r5 = 0 → Q (some (.inl (-13))) M6) ∧ (¬ r5 = 0 → R32 l5 ∧ (l5 = 0 → Q (some (.inl (-13))) M6) ∧ (¬ l5 = 0 → Q (some (.inl (l4 + 1))) M6))))) ∧ (¬ l4 ≤ l6 → Call K jClearing_top [.inr (.inr 11), .inl (M 11 0), .inl (Int.tdiv l6 3), .inl (Int.tmod l6 3)] P0 P0 M (retL fun r9 M10 => Call K jRows_layAt [.inr (.inr 49), .inl l1, .inl l2, .inl l6, .inr (.inl r9)] P0 P0 M10 (retI fun r11 M12 => R32 r11 ∧ (r11 = 0 → G none (K + 1) jClearingWaves_lay 49 [(0, .inr (.inr 0)), (1, .inl l1), (2, .inl l2), (3, .inr (.inr 11)), (4, .inl l4), (5, .inl 0), (6, .inl (l6 + 1))] [] P0 P0 M12 Q) ∧ (¬ r11 = 0 → R32 l5 ∧ (l5 = 0 → G none (K + 1) jClearingWaves_lay 49 [(0, .inr (.inr 0)), (1, .inl l1), (2, .inl l2), (3, .inr (.inr 11)), (4, .inl l4), (5, .inl 0), (6, .inl (l6 + 1))] [] P0 P0 M12 Q) ∧ (¬ l5 = 0 → G none (K + 1) jClearingWaves_lay 49 [(0, .inr (.inr 0)), (1, .inl l1), (2, .inl l2), (3, .inr (.inr 11)), (4, .inl l4), (5, .inl 1), (6, .inl (l6 + 1))] [] P0 P0 M12 Q)))))) : G none (K + 1) jClearingWaves_lay 49 [(0, .inr (.inr 0)), (1, .inl l1), (2, .inl l2), (3, .inr (.inr 11)), (4, .inl l4), (5, .inl l5), (6, .inl l6)] [] P0 P0 M Q := by
  refine G_iload 6 rfl (ck dc158 (i := 27) rfl) ?_
  refine G_iload 4 rfl (ck dc158 (i := 28) rfl) ?_
  obtain ⟨o1, h⟩ := h
  obtain ⟨o2, h⟩ := h
  refine G_icmp_ge (tgt := 108) (by decide) o1 o2 (ck dc158 (i := 29) rfl) (fun c => ?_) (fun c => ?_)
  · replace h := h.1 c
    refine G_aload_n 0 rfl rfl (ck dc158 (i := 57) rfl) ?_
    refine H_getR mf158 (ck dc158 (i := 58) rfl) fw_ClearingWaves_90 fc10_15 ly0 ra0 rf0_15 (by decide) ?_
    refine G_iload_n 1 rfl rfl (ck dc158 (i := 59) rfl) ?_
    refine G_iload_n 2 rfl rfl (ck dc158 (i := 60) rfl) ?_
    refine G_iload 4 rfl (ck dc158 (i := 61) rfl) ?_
    refine G_aload_n 3 rfl rfl (ck dc158 (i := 62) rfl) ?_
    refine G_aload_n 3 rfl rfl (ck dc158 (i := 63) rfl) ?_
    refine H_getI mf158 (ck dc158 (i := 64) rfl) fw_ClearingWaves_149 (Or.inl fc1_0) ly11 ra11 (x := (M 11 0)) rfl ?_
    refine H_vL mf158 (As := [.inl (M 11 0)]) (st := [.inl l4, .inl l2, .inl l1, .inr (.inr 49)]) (ck dc158 (i := 65) rfl) lk_ClearingWaves_175 rfl rfl (Nat.le_of_ble_eq_true rfl) ly11 ra11 ⟨Nat.le_refl _, Nat.le_refl _⟩ h (fun r3 M4 h => ?_)
    refine H_vZ mf158 (As := [.inl l1, .inl l2, .inl l4, .inr (.inl r3)]) (st := []) (ck dc158 (i := 66) rfl) lk_ClearingWaves_260 rfl rfl (Nat.le_of_ble_eq_true rfl) ly49 ra49 ⟨Nat.le_refl _, Nat.le_refl _⟩ h (fun r5 M6 h => ?_)
    obtain ⟨o7, h⟩ := h
    refine G_if_eq (tgt := 139) (by decide) o7 (ck dc158 (i := 67) rfl) (fun c => ?_) (fun c => ?_)
    · replace h := h.1 c
      refine G_iconst (ck dc158 (i := 72) rfl) ?_
      refine G_istore (L' := [(5, .inl 0), (0, .inr (.inr 0)), (1, .inl l1), (2, .inl l2), (3, .inr (.inr 11)), (4, .inl l4), (6, .inl l6)]) (mfx.lt mf158 (Nat.le_of_ble_eq_true rfl)) rfl (ck dc158 (i := 73) rfl) ?_
      refine G_iload 0 rfl (ck dc158 (i := 74) rfl) ?_
      refine G_if_eq (tgt := 154) (by decide) (by decide) (ck dc158 (i := 75) rfl) (fun c => ?_) (fun c => absurd c (by decide))
      refine G_bipush (n := (-13)) rfl (ck dc158 (i := 80) rfl) ?_
      exact H_iretI mf158 (ck dc158 (i := 81) rfl) rfl h
    · replace h := h.2 c
      refine G_iload 5 rfl (ck dc158 (i := 68) rfl) ?_
      obtain ⟨o8, h⟩ := h
      refine G_if_eq (tgt := 139) (by decide) o8 (ck dc158 (i := 69) rfl) (fun c => ?_) (fun c => ?_)
      · replace h := h.1 c
        refine G_iconst (ck dc158 (i := 72) rfl) ?_
        refine G_istore (L' := [(5, .inl 0), (0, .inr (.inr 0)), (1, .inl l1), (2, .inl l2), (3, .inr (.inr 11)), (4, .inl l4), (6, .inl l6)]) (mfx.lt mf158 (Nat.le_of_ble_eq_true rfl)) rfl (ck dc158 (i := 73) rfl) ?_
        refine G_iload 0 rfl (ck dc158 (i := 74) rfl) ?_
        refine G_if_eq (tgt := 154) (by decide) (by decide) (ck dc158 (i := 75) rfl) (fun c => ?_) (fun c => absurd c (by decide))
        refine G_bipush (n := (-13)) rfl (ck dc158 (i := 80) rfl) ?_
        exact H_iretI mf158 (ck dc158 (i := 81) rfl) rfl h
      · replace h := h.2 c
        refine G_iconst (ck dc158 (i := 70) rfl) ?_
        refine G_goto (tgt := 140) (by decide) (ck dc158 (i := 71) rfl) ?_
        refine G_istore (L' := [(5, .inl 1), (0, .inr (.inr 0)), (1, .inl l1), (2, .inl l2), (3, .inr (.inr 11)), (4, .inl l4), (6, .inl l6)]) (mfx.lt mf158 (Nat.le_of_ble_eq_true rfl)) rfl (ck dc158 (i := 73) rfl) ?_
        refine G_iload 0 rfl (ck dc158 (i := 74) rfl) ?_
        refine G_if_eq (tgt := 154) (by decide) (by decide) (ck dc158 (i := 75) rfl) (fun c => absurd c (by decide)) (fun c => ?_)
        refine G_iload 5 rfl (ck dc158 (i := 76) rfl) ?_
        refine G_iconst (ck dc158 (i := 77) rfl) ?_
        refine G_iadd (ck dc158 (i := 78) rfl) ?_
        refine G_goto (tgt := 156) (by decide) (ck dc158 (i := 79) rfl) ?_
        exact H_iretI mf158 (ck dc158 (i := 81) rfl) rfl h
  · replace h := h.2 c
    refine G_aload_n 3 rfl rfl (ck dc158 (i := 30) rfl) ?_
    refine G_aload_n 3 rfl rfl (ck dc158 (i := 31) rfl) ?_
    refine H_getI mf158 (ck dc158 (i := 32) rfl) fw_ClearingWaves_149 (Or.inl fc1_0) ly11 ra11 (x := (M 11 0)) rfl ?_
    refine G_iload 6 rfl (ck dc158 (i := 33) rfl) ?_
    refine G_iconst (ck dc158 (i := 34) rfl) ?_
    refine G_idiv o1 (by decide) (by decide) (ck dc158 (i := 35) rfl) ?_
    refine G_iload 6 rfl (ck dc158 (i := 36) rfl) ?_
    refine G_iconst (ck dc158 (i := 37) rfl) ?_
    refine G_irem o1 (by decide) (by decide) (ck dc158 (i := 38) rfl) ?_
    refine H_vL mf158 (As := [.inl (M 11 0), .inl (Int.tdiv l6 3), .inl (Int.tmod l6 3)]) (st := []) (ck dc158 (i := 39) rfl) lk_ClearingWaves_171 rfl rfl (Nat.le_of_ble_eq_true rfl) ly11 ra11 ⟨Nat.le_refl _, Nat.le_refl _⟩ h (fun r9 M10 h => ?_)
    refine G_lstore (L' := [(7, .inr (.inl r9)), (0, .inr (.inr 0)), (1, .inl l1), (2, .inl l2), (3, .inr (.inr 11)), (4, .inl l4), (5, .inl l5), (6, .inl l6)]) (mfx.lt mf158 (Nat.le_of_ble_eq_true rfl)) rfl (ck dc158 (i := 40) rfl) ?_
    refine G_aload_n 1 rfl rfl (ck dc158 (i := 41) rfl) ?_
    refine H_getR mf158 (ck dc158 (i := 42) rfl) fw_ClearingWaves_90 fc10_15 ly0 ra0 rf0_15 (by decide) ?_
    refine G_iload_n 2 rfl rfl (ck dc158 (i := 43) rfl) ?_
    refine G_iload_n 3 rfl rfl (ck dc158 (i := 44) rfl) ?_
    refine G_iload 7 rfl (ck dc158 (i := 45) rfl) ?_
    refine G_lload 0 rfl (ck dc158 (i := 46) rfl) ?_
    refine H_vZ mf158 (As := [.inl l1, .inl l2, .inl l6, .inr (.inl r9)]) (st := []) (ck dc158 (i := 47) rfl) lk_ClearingWaves_260 rfl rfl (Nat.le_of_ble_eq_true rfl) ly49 ra49 ⟨Nat.le_refl _, Nat.le_refl _⟩ h (fun r11 M12 h => ?_)
    obtain ⟨o13, h⟩ := h
    refine G_if_eq (tgt := 99) (by decide) o13 (ck dc158 (i := 48) rfl) (fun c => ?_) (fun c => ?_)
    · replace h := h.1 c
      refine G_iconst (ck dc158 (i := 53) rfl) ?_
      refine G_istore (L' := [(5, .inl 0), (7, .inr (.inl r9)), (0, .inr (.inr 0)), (1, .inl l1), (2, .inl l2), (3, .inr (.inr 11)), (4, .inl l4), (6, .inl l6)]) (mfx.lt mf158 (Nat.le_of_ble_eq_true rfl)) rfl (ck dc158 (i := 54) rfl) ?_
      refine G_iinc (L' := [(6, .inl (l6 + 1)), (5, .inl 0), (7, .inr (.inl r9)), (0, .inr (.inr 0)), (1, .inl l1), (2, .inl l2), (3, .inr (.inr 11)), (4, .inl l4)]) 7 rfl (mfx.lt mf158 (Nat.le_of_ble_eq_true rfl)) rfl (ck dc158 (i := 55) rfl) ?_
      refine G_goto (tgt := 49) (by decide) (ck dc158 (i := 56) rfl) ?_
      exact G_sub [3, 4, 5, 6, 7, 1, 0] rfl h
    · replace h := h.2 c
      refine G_iload 6 rfl (ck dc158 (i := 49) rfl) ?_
      obtain ⟨o14, h⟩ := h
      refine G_if_eq (tgt := 99) (by decide) o14 (ck dc158 (i := 50) rfl) (fun c => ?_) (fun c => ?_)
      · replace h := h.1 c
        refine G_iconst (ck dc158 (i := 53) rfl) ?_
        refine G_istore (L' := [(5, .inl 0), (7, .inr (.inl r9)), (0, .inr (.inr 0)), (1, .inl l1), (2, .inl l2), (3, .inr (.inr 11)), (4, .inl l4), (6, .inl l6)]) (mfx.lt mf158 (Nat.le_of_ble_eq_true rfl)) rfl (ck dc158 (i := 54) rfl) ?_
        refine G_iinc (L' := [(6, .inl (l6 + 1)), (5, .inl 0), (7, .inr (.inl r9)), (0, .inr (.inr 0)), (1, .inl l1), (2, .inl l2), (3, .inr (.inr 11)), (4, .inl l4)]) 7 rfl (mfx.lt mf158 (Nat.le_of_ble_eq_true rfl)) rfl (ck dc158 (i := 55) rfl) ?_
        refine G_goto (tgt := 49) (by decide) (ck dc158 (i := 56) rfl) ?_
        exact G_sub [3, 4, 5, 6, 7, 1, 0] rfl h
      · replace h := h.2 c
        refine G_iconst (ck dc158 (i := 51) rfl) ?_
        refine G_goto (tgt := 100) (by decide) (ck dc158 (i := 52) rfl) ?_
        refine G_istore (L' := [(5, .inl 1), (7, .inr (.inl r9)), (0, .inr (.inr 0)), (1, .inl l1), (2, .inl l2), (3, .inr (.inr 11)), (4, .inl l4), (6, .inl l6)]) (mfx.lt mf158 (Nat.le_of_ble_eq_true rfl)) rfl (ck dc158 (i := 54) rfl) ?_
        refine G_iinc (L' := [(6, .inl (l6 + 1)), (5, .inl 1), (7, .inr (.inl r9)), (0, .inr (.inr 0)), (1, .inl l1), (2, .inl l2), (3, .inr (.inr 11)), (4, .inl l4)]) 7 rfl (mfx.lt mf158 (Nat.le_of_ble_eq_true rfl)) rfl (ck dc158 (i := 55) rfl) ?_
        refine G_goto (tgt := 49) (by decide) (ck dc158 (i := 56) rfl) ?_
        exact G_sub [3, 4, 5, 6, 7, 1, 0] rfl h
set_option maxHeartbeats 20000000 in
theorem c_x_judge (K : Nat) (a1 a2 : Int) (M : PM) (Q : Option PV → PM → Prop)
    (h : Call K jRows_has [.inr (.inr 49), .inl a1] P0 P0 M (retI fun r1 M2 => R32 r1 ∧ (¬ r1 = 0 → Call K jRows_holds [.inr (.inr 49), .inl a1] P0 P0 M2 (retI fun r4 M5 => R32 r4 ∧ (r4 = 0 → Q (some (.inl (-3))) M5) ∧ (¬ r4 = 0 → R32 a2 ∧ (a2 < 0 → Q (some (.inl (-3))) M5) ∧ (¬ a2 < 0 → Call K jRows_size [.inr (.inr 49), .inl a1] P0 P0 M5 (retI fun r8 M9 => R32 ((r8 - (3 * (M2 1 0))) - 1) ∧ (a2 ≤ ((r8 - (3 * (M2 1 0))) - 1) → Call K jRows_at [.inr (.inr 49), .inl a1, .inl (a2 + (3 * (M2 1 0)))] P0 P0 M9 (retL fun r11 M12 => G none (K + 1) jClearingWaves_judge 78 [(0, .inr (.inr 0)), (1, .inl a1), (2, .inl a2), (3, .inl (3 * (M2 1 0))), (4, .inl 0)] [] P0 P0 (mset M12 43 0 r11) Q)) ∧ (¬ a2 ≤ ((r8 - (3 * (M2 1 0))) - 1) → Q (some (.inl (-3))) M9)))))) ∧ (r1 = 0 → Q (some (.inl (-1))) M2))) : Call (K + 1) jClearingWaves_judge [.inr (.inr 0), .inl a1, .inl a2] P0 P0 M Q := by
  refine Call.intro (by decide +kernel) (mfx.le mf159 (Nat.le_of_ble_eq_true rfl)) (Nat.le_refl _) rfl ?_
  refine G_aload_n 0 rfl rfl (ck dc159 (i := 0) rfl) ?_
  refine H_getR mf159 (ck dc159 (i := 1) rfl) fw_ClearingWaves_90 fc10_15 ly0 ra0 rf0_15 (by decide) ?_
  refine G_iload_n 1 rfl rfl (ck dc159 (i := 2) rfl) ?_
  refine H_vZ mf159 (As := [.inl a1]) (st := []) (ck dc159 (i := 3) rfl) lk_ClearingWaves_254 rfl rfl (Nat.le_of_ble_eq_true rfl) ly49 ra49 ⟨Nat.le_refl _, Nat.le_refl _⟩ h (fun r1 M2 h => ?_)
  obtain ⟨o3, h⟩ := h
  refine G_if_ne (tgt := 13) (by decide) o3 (ck dc159 (i := 4) rfl) (fun c => ?_) (fun c => ?_)
  · replace h := h.1 c
    refine G_iconst (ck dc159 (i := 7) rfl) ?_
    refine G_aload_n 0 rfl rfl (ck dc159 (i := 8) rfl) ?_
    refine H_getR mf159 (ck dc159 (i := 9) rfl) fw_ClearingWaves_12 fc10_0 ly0 ra0 rf0_0 (by decide) ?_
    refine H_getI mf159 (ck dc159 (i := 10) rfl) fw_ClearingWaves_207 (Or.inl fc0_0) ly1 ra1 (x := (M2 1 0)) rfl ?_
    refine G_imul (ck dc159 (i := 11) rfl) ?_
    refine G_istore_n (L' := [(3, .inl (3 * (M2 1 0))), (0, .inr (.inr 0)), (1, .inl a1), (2, .inl a2)]) rfl (mfx.lt mf159 (Nat.le_of_ble_eq_true rfl)) rfl (ck dc159 (i := 12) rfl) ?_
    refine G_aload_n 1 rfl rfl (ck dc159 (i := 13) rfl) ?_
    refine H_getR mf159 (ck dc159 (i := 14) rfl) fw_ClearingWaves_90 fc10_15 ly0 ra0 rf0_15 (by decide) ?_
    refine G_iload_n 2 rfl rfl (ck dc159 (i := 15) rfl) ?_
    refine H_vZ mf159 (As := [.inl a1]) (st := []) (ck dc159 (i := 16) rfl) lk_ClearingWaves_257 rfl rfl (Nat.le_of_ble_eq_true rfl) ly49 ra49 ⟨Nat.le_refl _, Nat.le_refl _⟩ h (fun r4 M5 h => ?_)
    obtain ⟨o6, h⟩ := h
    refine G_if_eq (tgt := 54) (by decide) o6 (ck dc159 (i := 17) rfl) (fun c => ?_) (fun c => ?_)
    · replace h := h.1 c
      refine G_bipush (n := (-3)) rfl (ck dc159 (i := 30) rfl) ?_
      exact H_iretI mf159 (ck dc159 (i := 31) rfl) rfl h
    · replace h := h.2 c
      refine G_iload_n 3 rfl rfl (ck dc159 (i := 18) rfl) ?_
      obtain ⟨o7, h⟩ := h
      refine G_if_lt (tgt := 54) (by decide) o7 (ck dc159 (i := 19) rfl) (fun c => ?_) (fun c => ?_)
      · replace h := h.1 c
        refine G_bipush (n := (-3)) rfl (ck dc159 (i := 30) rfl) ?_
        exact H_iretI mf159 (ck dc159 (i := 31) rfl) rfl h
      · replace h := h.2 c
        refine G_iload_n 3 rfl rfl (ck dc159 (i := 20) rfl) ?_
        refine G_aload_n 1 rfl rfl (ck dc159 (i := 21) rfl) ?_
        refine H_getR mf159 (ck dc159 (i := 22) rfl) fw_ClearingWaves_90 fc10_15 ly0 ra0 rf0_15 (by decide) ?_
        refine G_iload_n 2 rfl rfl (ck dc159 (i := 23) rfl) ?_
        refine H_vI mf159 (As := [.inl a1]) (st := [.inl a2]) (ck dc159 (i := 24) rfl) lk_ClearingWaves_336 rfl rfl (Nat.le_of_ble_eq_true rfl) ly49 ra49 ⟨Nat.le_refl _, Nat.le_refl _⟩ h (fun r8 M9 h => ?_)
        refine G_iload_n 0 rfl rfl (ck dc159 (i := 25) rfl) ?_
        refine G_isub (ck dc159 (i := 26) rfl) ?_
        refine G_iconst (ck dc159 (i := 27) rfl) ?_
        refine G_isub (ck dc159 (i := 28) rfl) ?_
        obtain ⟨o10, h⟩ := h
        refine G_icmp_le (tgt := 57) (by decide) o7 o10 (ck dc159 (i := 29) rfl) (fun c => ?_) (fun c => ?_)
        · replace h := h.1 c
          refine G_aload_n 1 rfl rfl (ck dc159 (i := 32) rfl) ?_
          refine H_getR mf159 (ck dc159 (i := 33) rfl) fw_ClearingWaves_69 fc10_12 ly0 ra0 rf0_12 (by decide) ?_
          refine G_aload_n 1 rfl rfl (ck dc159 (i := 34) rfl) ?_
          refine H_getR mf159 (ck dc159 (i := 35) rfl) fw_ClearingWaves_90 fc10_15 ly0 ra0 rf0_15 (by decide) ?_
          refine G_iload_n 2 rfl rfl (ck dc159 (i := 36) rfl) ?_
          refine G_iload_n 3 rfl rfl (ck dc159 (i := 37) rfl) ?_
          refine G_iload_n 0 rfl rfl (ck dc159 (i := 38) rfl) ?_
          refine G_iadd (ck dc159 (i := 39) rfl) ?_
          refine H_vL mf159 (As := [.inl a1, .inl (a2 + (3 * (M2 1 0)))]) (st := [.inr (.inr 43)]) (ck dc159 (i := 40) rfl) lk_ClearingWaves_333 rfl rfl (Nat.le_of_ble_eq_true rfl) ly49 ra49 ⟨Nat.le_refl _, Nat.le_refl _⟩ h (fun r11 M12 h => ?_)
          refine H_putL mf159 (ck dc159 (i := 41) rfl) fw_ClearingWaves_339 fc8_0 ly43 ra43 (Or.inl rfl) ?_
          refine G_iconst (ck dc159 (i := 42) rfl) ?_
          refine G_istore (L' := [(4, .inl 0), (3, .inl (3 * (M2 1 0))), (0, .inr (.inr 0)), (1, .inl a1), (2, .inl a2)]) (mfx.lt mf159 (Nat.le_of_ble_eq_true rfl)) rfl (ck dc159 (i := 43) rfl) ?_
          exact G_sub [2, 3, 4, 1, 0] rfl h
        · replace h := h.2 c
          refine G_bipush (n := (-3)) rfl (ck dc159 (i := 30) rfl) ?_
          exact H_iretI mf159 (ck dc159 (i := 31) rfl) rfl h
  · replace h := h.2 c
    refine G_iconst (ck dc159 (i := 5) rfl) ?_
    exact H_iretI mf159 (ck dc159 (i := 6) rfl) rfl h
set_option maxHeartbeats 20000000 in
theorem g_x_judge_78 (K : Nat) (l1 l2 l3 l4 : Int) (M : PM) (Q : Option PV → PM → Prop)
    (h : R32 l4 ∧ R32 l3 ∧ (l3 ≤ l4 → Call K jTold_areFractions [.inr (.inr 43), .inl l3] P0 P0 M (retI fun r3 M4 => R32 r3 ∧ (¬ r3 = 0 → Call K jClearingWaves_cleared [.inr (.inr 0)] P0 P0 M4 (retR fun r6 M7 => r6 = 11 ∧ Call K jTold_areThose [.inr (.inr 43), .inr (.inr 11), .inl l3] P0 P0 M7 (retI fun r8 M9 => R32 r8 ∧ (r8 = 0 → Call K jTold_agree [.inr (.inr 43), .inr (.inr 1)] P0 P0 M9 (retI fun r11 M12 => R32 r11 ∧ (r11 = 0 → Q (some (.inl 0)) M12) ∧ (¬ r11 = 0 → Q (some (.inl 1)) M12))) ∧ (¬ r8 = 0 → Q (some (.inl 2)) M9)))) ∧ (r3 = 0 → Q (some (.inl (-2))) M4))) ∧ (¬ l3 ≤ l4 → Call K jRows_at [.inr (.inr 49), .inl l1, .inl (l2 + l4)] P0 P0 M (retL fun r14 M15 => (0 ≤ l4 ∧ l4 < 15) ∧ G none (K + 1) jClearingWaves_judge 78 [(0, .inr (.inr 0)), (1, .inl l1), (2, .inl l2), (3, .inl l3), (4, .inl (l4 + 1))] [] P0 P0 (mset M15 44 l4 r14) Q))) : G none (K + 1) jClearingWaves_judge 78 [(0, .inr (.inr 0)), (1, .inl l1), (2, .inl l2), (3, .inl l3), (4, .inl l4)] [] P0 P0 M Q := by
  refine G_iload 4 rfl (ck dc159 (i := 44) rfl) ?_
  refine G_iload_n 3 rfl rfl (ck dc159 (i := 45) rfl) ?_
  obtain ⟨o1, h⟩ := h
  obtain ⟨o2, h⟩ := h
  refine G_icmp_ge (tgt := 112) (by decide) o1 o2 (ck dc159 (i := 46) rfl) (fun c => ?_) (fun c => ?_)
  · replace h := h.1 c
    refine G_aload_n 0 rfl rfl (ck dc159 (i := 61) rfl) ?_
    refine H_getR mf159 (ck dc159 (i := 62) rfl) fw_ClearingWaves_69 fc10_12 ly0 ra0 rf0_12 (by decide) ?_
    refine G_iload_n 3 rfl rfl (ck dc159 (i := 63) rfl) ?_
    refine H_vZ mf159 (As := [.inl l3]) (st := []) (ck dc159 (i := 64) rfl) lk_ClearingWaves_345 rfl rfl (Nat.le_of_ble_eq_true rfl) ly43 ra43 ⟨Nat.le_refl _, Nat.le_refl _⟩ h (fun r3 M4 h => ?_)
    obtain ⟨o5, h⟩ := h
    refine G_if_ne (tgt := 126) (by decide) o5 (ck dc159 (i := 65) rfl) (fun c => ?_) (fun c => ?_)
    · replace h := h.1 c
      refine G_aload_n 0 rfl rfl (ck dc159 (i := 68) rfl) ?_
      refine H_getR mf159 (ck dc159 (i := 69) rfl) fw_ClearingWaves_69 fc10_12 ly0 ra0 rf0_12 (by decide) ?_
      refine G_aload_n 0 rfl rfl (ck dc159 (i := 70) rfl) ?_
      refine H_vR mf159 (As := []) (st := [.inr (.inr 43)]) (ck dc159 (i := 71) rfl) lk_ClearingWaves_145 rfl rfl (Nat.le_of_ble_eq_true rfl) ly0 ra0 ⟨Nat.le_refl _, Nat.le_refl _⟩ h (fun r6 M7 h => ?_)
      obtain ⟨rfl, h⟩ := h
      refine G_iload_n 3 rfl rfl (ck dc159 (i := 72) rfl) ?_
      refine H_vZ mf159 (As := [.inr (.inr 11), .inl l3]) (st := []) (ck dc159 (i := 73) rfl) lk_ClearingWaves_348 rfl rfl (Nat.le_of_ble_eq_true rfl) ly43 ra43 ⟨Nat.le_refl _, Nat.le_refl _⟩ h (fun r8 M9 h => ?_)
      obtain ⟨o10, h⟩ := h
      refine G_if_eq (tgt := 143) (by decide) o10 (ck dc159 (i := 74) rfl) (fun c => ?_) (fun c => ?_)
      · replace h := h.1 c
        refine G_aload_n 0 rfl rfl (ck dc159 (i := 77) rfl) ?_
        refine H_getR mf159 (ck dc159 (i := 78) rfl) fw_ClearingWaves_69 fc10_12 ly0 ra0 rf0_12 (by decide) ?_
        refine G_aload_n 0 rfl rfl (ck dc159 (i := 79) rfl) ?_
        refine H_getR mf159 (ck dc159 (i := 80) rfl) fw_ClearingWaves_12 fc10_0 ly0 ra0 rf0_0 (by decide) ?_
        refine H_vZ mf159 (As := [.inr (.inr 1)]) (st := []) (ck dc159 (i := 81) rfl) lk_ClearingWaves_352 rfl rfl (Nat.le_of_ble_eq_true rfl) ly43 ra43 ⟨Nat.le_refl _, Nat.le_refl _⟩ h (fun r11 M12 h => ?_)
        obtain ⟨o13, h⟩ := h
        refine G_if_eq (tgt := 161) (by decide) o13 (ck dc159 (i := 82) rfl) (fun c => ?_) (fun c => ?_)
        · replace h := h.1 c
          refine G_iconst (ck dc159 (i := 85) rfl) ?_
          exact H_iretI mf159 (ck dc159 (i := 86) rfl) rfl h
        · replace h := h.2 c
          refine G_iconst (ck dc159 (i := 83) rfl) ?_
          refine G_goto (tgt := 162) (by decide) (ck dc159 (i := 84) rfl) ?_
          exact H_iretI mf159 (ck dc159 (i := 86) rfl) rfl h
      · replace h := h.2 c
        refine G_iconst (ck dc159 (i := 75) rfl) ?_
        exact H_iretI mf159 (ck dc159 (i := 76) rfl) rfl h
    · replace h := h.2 c
      refine G_bipush (n := (-2)) rfl (ck dc159 (i := 66) rfl) ?_
      exact H_iretI mf159 (ck dc159 (i := 67) rfl) rfl h
  · replace h := h.2 c
    refine G_aload_n 0 rfl rfl (ck dc159 (i := 47) rfl) ?_
    refine H_getR mf159 (ck dc159 (i := 48) rfl) fw_ClearingWaves_69 fc10_12 ly0 ra0 rf0_12 (by decide) ?_
    refine H_getR mf159 (ck dc159 (i := 49) rfl) fw_ClearingWaves_342 fc8_1 ly43 ra43 rf43_1 (by decide) ?_
    refine G_iload 4 rfl (ck dc159 (i := 50) rfl) ?_
    refine G_aload_n 0 rfl rfl (ck dc159 (i := 51) rfl) ?_
    refine H_getR mf159 (ck dc159 (i := 52) rfl) fw_ClearingWaves_90 fc10_15 ly0 ra0 rf0_15 (by decide) ?_
    refine G_iload_n 1 rfl rfl (ck dc159 (i := 53) rfl) ?_
    refine G_iload_n 2 rfl rfl (ck dc159 (i := 54) rfl) ?_
    refine G_iload 4 rfl (ck dc159 (i := 55) rfl) ?_
    refine G_iadd (ck dc159 (i := 56) rfl) ?_
    refine H_vL mf159 (As := [.inl l1, .inl (l2 + l4)]) (st := [.inl l4, .inr (.inr 44)]) (ck dc159 (i := 57) rfl) lk_ClearingWaves_333 rfl rfl (Nat.le_of_ble_eq_true rfl) ly49 ra49 ⟨Nat.le_refl _, Nat.le_refl _⟩ h (fun r14 M15 h => ?_)
    obtain ⟨o16, h⟩ := h
    refine G_last (ck dc159 (i := 58) rfl) ra44 ly44 (by decide) o16 ?_
    refine G_iinc (L' := [(4, .inl (l4 + 1)), (0, .inr (.inr 0)), (1, .inl l1), (2, .inl l2), (3, .inl l3)]) 4 rfl (mfx.lt mf159 (Nat.le_of_ble_eq_true rfl)) rfl (ck dc159 (i := 59) rfl) ?_
    refine G_goto (tgt := 78) (by decide) (ck dc159 (i := 60) rfl) ?_
    exact G_sub [1, 2, 3, 4, 0] rfl h
theorem c_x_image (K : Nat) (M : PM) (Q : Option PV → PM → Prop)
    (h : Call K jBook_copy [.inr (.inr 5), .inr (.inr 1)] P0 P0 M (retV fun M2 => Q (some (.inl (M2 5 0))) (mset M2 0 2 1))) : Call (K + 1) jClearingWaves_image [.inr (.inr 0)] P0 P0 M Q := by
  refine Call.intro (by decide +kernel) (mfx.le mf167 (Nat.le_of_ble_eq_true rfl)) (Nat.le_refl _) rfl ?_
  refine G_aload_n 0 rfl rfl (ck dc167 (i := 0) rfl) ?_
  refine H_getR mf167 (ck dc167 (i := 1) rfl) fw_ClearingWaves_18 fc10_1 ly0 ra0 rf0_1 (by decide) ?_
  refine G_aload_n 0 rfl rfl (ck dc167 (i := 2) rfl) ?_
  refine H_getR mf167 (ck dc167 (i := 3) rfl) fw_ClearingWaves_12 fc10_0 ly0 ra0 rf0_0 (by decide) ?_
  refine H_vV mf167 (As := [.inr (.inr 1)]) (st := []) (ck dc167 (i := 4) rfl) lk_ClearingWaves_356 rfl rfl (Nat.le_of_ble_eq_true rfl) ly5 ra5 ⟨Nat.le_refl _, Nat.le_refl _⟩ h (fun M2 h => ?_)
  refine G_aload_n 0 rfl rfl (ck dc167 (i := 5) rfl) ?_
  refine G_iconst (ck dc167 (i := 6) rfl) ?_
  refine H_putZ mf167 (ck dc167 (i := 7) rfl) fw_ClearingWaves_359 fc10_2 ly0 ra0 (Or.inl rfl) (Or.inr rfl) ?_
  refine G_aload_n 0 rfl rfl (ck dc167 (i := 8) rfl) ?_
  refine H_getR mf167 (ck dc167 (i := 9) rfl) fw_ClearingWaves_18 fc10_1 ly0 ra0 rf0_1 (by decide) ?_
  refine H_getI mf167 (ck dc167 (i := 10) rfl) fw_ClearingWaves_207 (Or.inl fc0_0) ly5 ra5 (x := (M2 5 0)) (by simp [mset, mcpy, mclr]) ?_
  exact H_iretI mf167 (ck dc167 (i := 11) rfl) rfl h
theorem c_x_undo (K : Nat) (M : PM) (Q : Option PV → PM → Prop)
    (h : R32 (M 0 2) ∧ (¬ (M 0 2) = 0 → Call K jBook_copy [.inr (.inr 1), .inr (.inr 5)] P0 P0 M (retV fun M3 => Call K jClearingWaves_noteChange [.inr (.inr 0)] P0 P0 M3 (retV fun M5 => Q (some (.inl (M5 1 0))) M5))) ∧ ((M 0 2) = 0 → Q (some (.inl (-3))) M)) : Call (K + 1) jClearingWaves_undo [.inr (.inr 0)] P0 P0 M Q := by
  refine Call.intro (by decide +kernel) (mfx.le mf169 (Nat.le_of_ble_eq_true rfl)) (Nat.le_refl _) rfl ?_
  refine G_aload_n 0 rfl rfl (ck dc169 (i := 0) rfl) ?_
  refine H_getI mf169 (ck dc169 (i := 1) rfl) fw_ClearingWaves_359 (Or.inr fc10_2) ly0 ra0 (x := (M 0 2)) rfl ?_
  obtain ⟨o1, h⟩ := h
  refine G_if_ne (tgt := 10) (by decide) o1 (ck dc169 (i := 2) rfl) (fun c => ?_) (fun c => ?_)
  · replace h := h.1 c
    refine G_aload_n 0 rfl rfl (ck dc169 (i := 5) rfl) ?_
    refine H_getR mf169 (ck dc169 (i := 6) rfl) fw_ClearingWaves_12 fc10_0 ly0 ra0 rf0_0 (by decide) ?_
    refine G_aload_n 0 rfl rfl (ck dc169 (i := 7) rfl) ?_
    refine H_getR mf169 (ck dc169 (i := 8) rfl) fw_ClearingWaves_18 fc10_1 ly0 ra0 rf0_1 (by decide) ?_
    refine H_vV mf169 (As := [.inr (.inr 5)]) (st := []) (ck dc169 (i := 9) rfl) lk_ClearingWaves_356 rfl rfl (Nat.le_of_ble_eq_true rfl) ly1 ra1 ⟨Nat.le_refl _, Nat.le_refl _⟩ h (fun M3 h => ?_)
    refine G_aload_n 0 rfl rfl (ck dc169 (i := 10) rfl) ?_
    refine H_vV mf169 (As := []) (st := []) (ck dc169 (i := 11) rfl) lk_ClearingWaves_105 rfl rfl (Nat.le_of_ble_eq_true rfl) ly0 ra0 ⟨Nat.le_refl _, Nat.le_refl _⟩ h (fun M5 h => ?_)
    refine G_aload_n 0 rfl rfl (ck dc169 (i := 12) rfl) ?_
    refine H_getR mf169 (ck dc169 (i := 13) rfl) fw_ClearingWaves_12 fc10_0 ly0 ra0 rf0_0 (by decide) ?_
    refine H_getI mf169 (ck dc169 (i := 14) rfl) fw_ClearingWaves_207 (Or.inl fc0_0) ly1 ra1 (x := (M5 1 0)) rfl ?_
    exact H_iretI mf169 (ck dc169 (i := 15) rfl) rfl h
  · replace h := h.2 c
    refine G_bipush (n := (-3)) rfl (ck dc169 (i := 3) rfl) ?_
    exact H_iretI mf169 (ck dc169 (i := 4) rfl) rfl h
