set_option maxHeartbeats 20000000 in
theorem c_m_adds (K : Nat) (a1 a2 : Int) (M : PM) (Q : Option PV → PM → Prop)
    (h : (0 ≤ (M 52 9) ∧ (M 52 9) < 6) ∧ Call K jModel_lowest [.inr (.inl a2), .inr (.inl (M 59 (M 52 9))), .inl 0] P0 P0 M (retL fun r2 M3 => (0 ≤ (M3 52 9) ∧ (M3 52 9) < 6) ∧ Call K jModel_lowest [.inr (.inl a2), .inr (.inl (M3 59 (M3 52 9))), .inl 1] P0 P0 M3 (retL fun r5 M6 => Call K jModel_times [.inr (.inr 52), .inr (.inl (M6 52 28)), .inr (.inl r5)] P0 P0 M6 (retL fun r7 M8 => Call K jModel_times [.inr (.inr 52), .inr (.inl a1), .inr (.inl r2)] P0 P0 M8 (retL fun r9 M10 => Call K jModel_times [.inr (.inr 52), .inr (.inl r9), .inr (.inl (M10 52 29))] P0 P0 M10 (retL fun r11 M12 => R32 (M12 52 30) ∧ (¬ (M12 52 30) = 0 → Call K jModel_times [.inr (.inr 52), .inr (.inl (M12 52 29)), .inr (.inl r5)] P0 P0 (mset M12 52 30 1) (retL fun r14 M15 => R32 (M15 52 30) ∧ (¬ (M15 52 30) = 0 → Q none M15) ∧ ((M15 52 30) = 0 → Call K jModel_lowest [.inr (.inl (r7 + r11)), .inr (.inl r14), .inl 0] P0 P0 M15 (retL fun r17 M18 => Call K jModel_lowest [.inr (.inl (r7 + r11)), .inr (.inl r14), .inl 1] P0 P0 (mset M18 52 28 r17) (retL fun r19 M20 => Q none (mset M20 52 29 r19)))))) ∧ ((M12 52 30) = 0 → R64 r11 ∧ R64 (9223372036854775807 - r7) ∧ (r11 ≤ (9223372036854775807 - r7) → Call K jModel_times [.inr (.inr 52), .inr (.inl (M12 52 29)), .inr (.inl r5)] P0 P0 (mset M12 52 30 0) (retL fun r23 M24 => R32 (M24 52 30) ∧ (¬ (M24 52 30) = 0 → Q none M24) ∧ ((M24 52 30) = 0 → Call K jModel_lowest [.inr (.inl (r7 + r11)), .inr (.inl r23), .inl 0] P0 P0 M24 (retL fun r26 M27 => Call K jModel_lowest [.inr (.inl (r7 + r11)), .inr (.inl r23), .inl 1] P0 P0 (mset M27 52 28 r26) (retL fun r28 M29 => Q none (mset M29 52 29 r28)))))) ∧ (¬ r11 ≤ (9223372036854775807 - r7) → Call K jModel_times [.inr (.inr 52), .inr (.inl (M12 52 29)), .inr (.inl r5)] P0 P0 (mset M12 52 30 1) (retL fun r30 M31 => R32 (M31 52 30) ∧ (¬ (M31 52 30) = 0 → Q none M31) ∧ ((M31 52 30) = 0 → Call K jModel_lowest [.inr (.inl (r7 + r11)), .inr (.inl r30), .inl 0] P0 P0 M31 (retL fun r33 M34 => Call K jModel_lowest [.inr (.inl (r7 + r11)), .inr (.inl r30), .inl 1] P0 P0 (mset M34 52 28 r33) (retL fun r35 M36 => Q none (mset M36 52 29 r35))))))))))))) : Call (K + 1) jModel_adds [.inr (.inr 52), .inr (.inl a1), .inr (.inl a2)] P0 P0 M Q := by
  refine Call.intro (by decide +kernel) (mfx.le mf274 (Nat.le_of_ble_eq_true rfl)) (Nat.le_refl _) rfl ?_
  refine G_lload_n 2 rfl rfl (ck dc274 (i := 0) rfl) ?_
  refine G_aload_n 0 rfl rfl (ck dc274 (i := 1) rfl) ?_
  refine H_getR mf274 (ck dc274 (i := 2) rfl) fw_Model_41 fc11_11 ly52 ra52 rf52_11 (by decide) ?_
  refine G_aload_n 0 rfl rfl (ck dc274 (i := 3) rfl) ?_
  refine H_getI mf274 (ck dc274 (i := 4) rfl) fw_Model_206 (Or.inl fc11_9) ly52 ra52 (x := (M 52 9)) rfl ?_
  obtain ⟨o1, h⟩ := h
  refine H_lald (ck dc274 (i := 5) rfl) ly59 (by decide) ra59 o1 (x := (M 59 (M 52 9))) rfl ?_
  refine G_iconst (ck dc274 (i := 6) rfl) ?_
  refine H_sL mf274 (As := [.inr (.inl a2), .inr (.inl (M 59 (M 52 9))), .inl 0]) (st := []) (ck dc274 (i := 7) rfl) lk_Model_242 rfl rfl (Nat.le_of_ble_eq_true rfl) ⟨Nat.le_refl _, Nat.le_refl _⟩ h (fun r2 M3 h => ?_)
  refine G_lstore (L' := [(5, .inr (.inl r2)), (0, .inr (.inr 52)), (1, .inr (.inl a1)), (3, .inr (.inl a2))]) (mfx.lt mf274 (Nat.le_of_ble_eq_true rfl)) rfl (ck dc274 (i := 8) rfl) ?_
  refine G_lload_n 3 rfl rfl (ck dc274 (i := 9) rfl) ?_
  refine G_aload_n 1 rfl rfl (ck dc274 (i := 10) rfl) ?_
  refine H_getR mf274 (ck dc274 (i := 11) rfl) fw_Model_41 fc11_11 ly52 ra52 rf52_11 (by decide) ?_
  refine G_aload_n 1 rfl rfl (ck dc274 (i := 12) rfl) ?_
  refine H_getI mf274 (ck dc274 (i := 13) rfl) fw_Model_206 (Or.inl fc11_9) ly52 ra52 (x := (M3 52 9)) rfl ?_
  obtain ⟨o4, h⟩ := h
  refine H_lald (ck dc274 (i := 14) rfl) ly59 (by decide) ra59 o4 (x := (M3 59 (M3 52 9))) rfl ?_
  refine G_iconst (ck dc274 (i := 15) rfl) ?_
  refine H_sL mf274 (As := [.inr (.inl a2), .inr (.inl (M3 59 (M3 52 9))), .inl 1]) (st := []) (ck dc274 (i := 16) rfl) lk_Model_242 rfl rfl (Nat.le_of_ble_eq_true rfl) ⟨Nat.le_refl _, Nat.le_refl _⟩ h (fun r5 M6 h => ?_)
  refine G_lstore (L' := [(7, .inr (.inl r5)), (5, .inr (.inl r2)), (0, .inr (.inr 52)), (1, .inr (.inl a1)), (3, .inr (.inl a2))]) (mfx.lt mf274 (Nat.le_of_ble_eq_true rfl)) rfl (ck dc274 (i := 17) rfl) ?_
  refine G_aload_n 2 rfl rfl (ck dc274 (i := 18) rfl) ?_
  refine G_aload_n 2 rfl rfl (ck dc274 (i := 19) rfl) ?_
  refine H_getL mf274 (ck dc274 (i := 20) rfl) fw_Model_358 fc11_28 ly52 ra52 (x := (M6 52 28)) rfl ?_
  refine G_lload 0 rfl (ck dc274 (i := 21) rfl) ?_
  refine H_vL mf274 (As := [.inr (.inl (M6 52 28)), .inr (.inl r5)]) (st := []) (ck dc274 (i := 22) rfl) lk_Model_368 rfl rfl (Nat.le_of_ble_eq_true rfl) ly52 ra52 ⟨Nat.le_refl _, Nat.le_refl _⟩ h (fun r7 M8 h => ?_)
  refine G_lstore (L' := [(9, .inr (.inl r7)), (7, .inr (.inl r5)), (5, .inr (.inl r2)), (0, .inr (.inr 52)), (1, .inr (.inl a1)), (3, .inr (.inl a2))]) (mfx.lt mf274 (Nat.le_of_ble_eq_true rfl)) rfl (ck dc274 (i := 23) rfl) ?_
  refine G_aload_n 3 rfl rfl (ck dc274 (i := 24) rfl) ?_
  refine G_aload_n 3 rfl rfl (ck dc274 (i := 25) rfl) ?_
  refine G_lload_n 4 rfl rfl (ck dc274 (i := 26) rfl) ?_
  refine G_lload 2 rfl (ck dc274 (i := 27) rfl) ?_
  refine H_vL mf274 (As := [.inr (.inl a1), .inr (.inl r2)]) (st := [.inr (.inr 52)]) (ck dc274 (i := 28) rfl) lk_Model_368 rfl rfl (Nat.le_of_ble_eq_true rfl) ly52 ra52 ⟨Nat.le_refl _, Nat.le_refl _⟩ h (fun r9 M10 h => ?_)
  refine G_aload_n 3 rfl rfl (ck dc274 (i := 29) rfl) ?_
  refine H_getL mf274 (ck dc274 (i := 30) rfl) fw_Model_361 fc11_29 ly52 ra52 (x := (M10 52 29)) rfl ?_
  refine H_vL mf274 (As := [.inr (.inl r9), .inr (.inl (M10 52 29))]) (st := []) (ck dc274 (i := 31) rfl) lk_Model_368 rfl rfl (Nat.le_of_ble_eq_true rfl) ly52 ra52 ⟨Nat.le_refl _, Nat.le_refl _⟩ h (fun r11 M12 h => ?_)
  refine G_lstore (L' := [(11, .inr (.inl r11)), (9, .inr (.inl r7)), (7, .inr (.inl r5)), (5, .inr (.inl r2)), (0, .inr (.inr 52)), (1, .inr (.inl a1)), (3, .inr (.inl a2))]) (mfx.lt mf274 (Nat.le_of_ble_eq_true rfl)) rfl (ck dc274 (i := 32) rfl) ?_
  refine G_aload_n 4 rfl rfl (ck dc274 (i := 33) rfl) ?_
  refine G_aload_n 4 rfl rfl (ck dc274 (i := 34) rfl) ?_
  refine H_getI mf274 (ck dc274 (i := 35) rfl) fw_Model_353 (Or.inr fc11_30) ly52 ra52 (x := (M12 52 30)) rfl ?_
  obtain ⟨o13, h⟩ := h
  refine G_if_ne (tgt := 81) (by decide) o13 (ck dc274 (i := 36) rfl) (fun c => ?_) (fun c => ?_)
  · replace h := h.1 c
    refine G_iconst (ck dc274 (i := 43) rfl) ?_
    refine G_goto (tgt := 86) (by decide) (ck dc274 (i := 44) rfl) ?_
    refine H_putZ mf274 (ck dc274 (i := 46) rfl) fw_Model_353 fc11_30 ly52 ra52 (Or.inl rfl) (Or.inr rfl) ?_
    refine G_aload_n 4 rfl rfl (ck dc274 (i := 47) rfl) ?_
    refine G_aload_n 4 rfl rfl (ck dc274 (i := 48) rfl) ?_
    refine H_getL mf274 (ck dc274 (i := 49) rfl) fw_Model_361 fc11_29 ly52 ra52 (x := (M12 52 29)) (by simp [mset, mcpy, mclr]) ?_
    refine G_lload 2 rfl (ck dc274 (i := 50) rfl) ?_
    refine H_vL mf274 (As := [.inr (.inl (M12 52 29)), .inr (.inl r5)]) (st := []) (ck dc274 (i := 51) rfl) lk_Model_368 rfl rfl (Nat.le_of_ble_eq_true rfl) ly52 ra52 ⟨Nat.le_refl _, Nat.le_refl _⟩ h (fun r14 M15 h => ?_)
    refine G_lstore (L' := [(13, .inr (.inl r14)), (11, .inr (.inl r11)), (9, .inr (.inl r7)), (7, .inr (.inl r5)), (5, .inr (.inl r2)), (0, .inr (.inr 52)), (1, .inr (.inl a1)), (3, .inr (.inl a2))]) (mfx.lt mf274 (Nat.le_of_ble_eq_true rfl)) rfl (ck dc274 (i := 52) rfl) ?_
    refine G_aload_n 5 rfl rfl (ck dc274 (i := 53) rfl) ?_
    refine H_getI mf274 (ck dc274 (i := 54) rfl) fw_Model_353 (Or.inr fc11_30) ly52 ra52 (x := (M15 52 30)) rfl ?_
    obtain ⟨o16, h⟩ := h
    refine G_if_ne (tgt := 138) (by decide) o16 (ck dc274 (i := 55) rfl) (fun c => ?_) (fun c => ?_)
    · replace h := h.1 c
      exact H_vret mf274 (ck dc274 (i := 72) rfl) rfl h
    · replace h := h.2 c
      refine G_aload_n 5 rfl rfl (ck dc274 (i := 56) rfl) ?_
      refine G_lload 2 rfl (ck dc274 (i := 57) rfl) ?_
      refine G_lload 1 rfl (ck dc274 (i := 58) rfl) ?_
      refine G_ladd (ck dc274 (i := 59) rfl) ?_
      refine G_lload 0 rfl (ck dc274 (i := 60) rfl) ?_
      refine G_iconst (ck dc274 (i := 61) rfl) ?_
      refine H_sL mf274 (As := [.inr (.inl (r7 + r11)), .inr (.inl r14), .inl 0]) (st := [.inr (.inr 52)]) (ck dc274 (i := 62) rfl) lk_Model_242 rfl rfl (Nat.le_of_ble_eq_true rfl) ⟨Nat.le_refl _, Nat.le_refl _⟩ h (fun r17 M18 h => ?_)
      refine H_putL mf274 (ck dc274 (i := 63) rfl) fw_Model_358 fc11_28 ly52 ra52 (Or.inl rfl) ?_
      refine G_aload_n 5 rfl rfl (ck dc274 (i := 64) rfl) ?_
      refine G_lload 2 rfl (ck dc274 (i := 65) rfl) ?_
      refine G_lload 1 rfl (ck dc274 (i := 66) rfl) ?_
      refine G_ladd (ck dc274 (i := 67) rfl) ?_
      refine G_lload 0 rfl (ck dc274 (i := 68) rfl) ?_
      refine G_iconst (ck dc274 (i := 69) rfl) ?_
      refine H_sL mf274 (As := [.inr (.inl (r7 + r11)), .inr (.inl r14), .inl 1]) (st := [.inr (.inr 52)]) (ck dc274 (i := 70) rfl) lk_Model_242 rfl rfl (Nat.le_of_ble_eq_true rfl) ⟨Nat.le_refl _, Nat.le_refl _⟩ h (fun r19 M20 h => ?_)
      refine H_putL mf274 (ck dc274 (i := 71) rfl) fw_Model_361 fc11_29 ly52 ra52 (Or.inl rfl) ?_
      exact H_vret mf274 (ck dc274 (i := 72) rfl) rfl h
  · replace h := h.2 c
    refine G_lload 0 rfl (ck dc274 (i := 37) rfl) ?_
    refine H_ldc2 mf274 (v := 9223372036854775807) (ck dc274 (i := 38) rfl) kl_Model_356 ?_
    refine G_lload 1 rfl (ck dc274 (i := 39) rfl) ?_
    refine G_lsub (ck dc274 (i := 40) rfl) ?_
    obtain ⟨o21, h⟩ := h
    obtain ⟨o22, h⟩ := h
    refine G_lif_le (tgt := 85) (ck dc274 (i := 42) rfl) (by decide) o21 o22 (ck dc274 (i := 41) rfl) (fun c => ?_) (fun c => ?_)
    · replace h := h.1 c
      refine G_iconst (ck dc274 (i := 45) rfl) ?_
      refine H_putZ mf274 (ck dc274 (i := 46) rfl) fw_Model_353 fc11_30 ly52 ra52 (Or.inl rfl) (Or.inl rfl) ?_
      refine G_aload_n 4 rfl rfl (ck dc274 (i := 47) rfl) ?_
      refine G_aload_n 4 rfl rfl (ck dc274 (i := 48) rfl) ?_
      refine H_getL mf274 (ck dc274 (i := 49) rfl) fw_Model_361 fc11_29 ly52 ra52 (x := (M12 52 29)) (by simp [mset, mcpy, mclr]) ?_
      refine G_lload 2 rfl (ck dc274 (i := 50) rfl) ?_
      refine H_vL mf274 (As := [.inr (.inl (M12 52 29)), .inr (.inl r5)]) (st := []) (ck dc274 (i := 51) rfl) lk_Model_368 rfl rfl (Nat.le_of_ble_eq_true rfl) ly52 ra52 ⟨Nat.le_refl _, Nat.le_refl _⟩ h (fun r23 M24 h => ?_)
      refine G_lstore (L' := [(13, .inr (.inl r23)), (11, .inr (.inl r11)), (9, .inr (.inl r7)), (7, .inr (.inl r5)), (5, .inr (.inl r2)), (0, .inr (.inr 52)), (1, .inr (.inl a1)), (3, .inr (.inl a2))]) (mfx.lt mf274 (Nat.le_of_ble_eq_true rfl)) rfl (ck dc274 (i := 52) rfl) ?_
      refine G_aload_n 5 rfl rfl (ck dc274 (i := 53) rfl) ?_
      refine H_getI mf274 (ck dc274 (i := 54) rfl) fw_Model_353 (Or.inr fc11_30) ly52 ra52 (x := (M24 52 30)) rfl ?_
      obtain ⟨o25, h⟩ := h
      refine G_if_ne (tgt := 138) (by decide) o25 (ck dc274 (i := 55) rfl) (fun c => ?_) (fun c => ?_)
      · replace h := h.1 c
        exact H_vret mf274 (ck dc274 (i := 72) rfl) rfl h
      · replace h := h.2 c
        refine G_aload_n 5 rfl rfl (ck dc274 (i := 56) rfl) ?_
        refine G_lload 2 rfl (ck dc274 (i := 57) rfl) ?_
        refine G_lload 1 rfl (ck dc274 (i := 58) rfl) ?_
        refine G_ladd (ck dc274 (i := 59) rfl) ?_
        refine G_lload 0 rfl (ck dc274 (i := 60) rfl) ?_
        refine G_iconst (ck dc274 (i := 61) rfl) ?_
        refine H_sL mf274 (As := [.inr (.inl (r7 + r11)), .inr (.inl r23), .inl 0]) (st := [.inr (.inr 52)]) (ck dc274 (i := 62) rfl) lk_Model_242 rfl rfl (Nat.le_of_ble_eq_true rfl) ⟨Nat.le_refl _, Nat.le_refl _⟩ h (fun r26 M27 h => ?_)
        refine H_putL mf274 (ck dc274 (i := 63) rfl) fw_Model_358 fc11_28 ly52 ra52 (Or.inl rfl) ?_
        refine G_aload_n 5 rfl rfl (ck dc274 (i := 64) rfl) ?_
        refine G_lload 2 rfl (ck dc274 (i := 65) rfl) ?_
        refine G_lload 1 rfl (ck dc274 (i := 66) rfl) ?_
        refine G_ladd (ck dc274 (i := 67) rfl) ?_
        refine G_lload 0 rfl (ck dc274 (i := 68) rfl) ?_
        refine G_iconst (ck dc274 (i := 69) rfl) ?_
        refine H_sL mf274 (As := [.inr (.inl (r7 + r11)), .inr (.inl r23), .inl 1]) (st := [.inr (.inr 52)]) (ck dc274 (i := 70) rfl) lk_Model_242 rfl rfl (Nat.le_of_ble_eq_true rfl) ⟨Nat.le_refl _, Nat.le_refl _⟩ h (fun r28 M29 h => ?_)
        refine H_putL mf274 (ck dc274 (i := 71) rfl) fw_Model_361 fc11_29 ly52 ra52 (Or.inl rfl) ?_
        exact H_vret mf274 (ck dc274 (i := 72) rfl) rfl h
    · replace h := h.2 c
      refine G_iconst (ck dc274 (i := 43) rfl) ?_
      refine G_goto (tgt := 86) (by decide) (ck dc274 (i := 44) rfl) ?_
      refine H_putZ mf274 (ck dc274 (i := 46) rfl) fw_Model_353 fc11_30 ly52 ra52 (Or.inl rfl) (Or.inr rfl) ?_
      refine G_aload_n 4 rfl rfl (ck dc274 (i := 47) rfl) ?_
      refine G_aload_n 4 rfl rfl (ck dc274 (i := 48) rfl) ?_
      refine H_getL mf274 (ck dc274 (i := 49) rfl) fw_Model_361 fc11_29 ly52 ra52 (x := (M12 52 29)) (by simp [mset, mcpy, mclr]) ?_
      refine G_lload 2 rfl (ck dc274 (i := 50) rfl) ?_
      refine H_vL mf274 (As := [.inr (.inl (M12 52 29)), .inr (.inl r5)]) (st := []) (ck dc274 (i := 51) rfl) lk_Model_368 rfl rfl (Nat.le_of_ble_eq_true rfl) ly52 ra52 ⟨Nat.le_refl _, Nat.le_refl _⟩ h (fun r30 M31 h => ?_)
      refine G_lstore (L' := [(13, .inr (.inl r30)), (11, .inr (.inl r11)), (9, .inr (.inl r7)), (7, .inr (.inl r5)), (5, .inr (.inl r2)), (0, .inr (.inr 52)), (1, .inr (.inl a1)), (3, .inr (.inl a2))]) (mfx.lt mf274 (Nat.le_of_ble_eq_true rfl)) rfl (ck dc274 (i := 52) rfl) ?_
      refine G_aload_n 5 rfl rfl (ck dc274 (i := 53) rfl) ?_
      refine H_getI mf274 (ck dc274 (i := 54) rfl) fw_Model_353 (Or.inr fc11_30) ly52 ra52 (x := (M31 52 30)) rfl ?_
      obtain ⟨o32, h⟩ := h
      refine G_if_ne (tgt := 138) (by decide) o32 (ck dc274 (i := 55) rfl) (fun c => ?_) (fun c => ?_)
      · replace h := h.1 c
        exact H_vret mf274 (ck dc274 (i := 72) rfl) rfl h
      · replace h := h.2 c
        refine G_aload_n 5 rfl rfl (ck dc274 (i := 56) rfl) ?_
        refine G_lload 2 rfl (ck dc274 (i := 57) rfl) ?_
        refine G_lload 1 rfl (ck dc274 (i := 58) rfl) ?_
        refine G_ladd (ck dc274 (i := 59) rfl) ?_
        refine G_lload 0 rfl (ck dc274 (i := 60) rfl) ?_
        refine G_iconst (ck dc274 (i := 61) rfl) ?_
        refine H_sL mf274 (As := [.inr (.inl (r7 + r11)), .inr (.inl r30), .inl 0]) (st := [.inr (.inr 52)]) (ck dc274 (i := 62) rfl) lk_Model_242 rfl rfl (Nat.le_of_ble_eq_true rfl) ⟨Nat.le_refl _, Nat.le_refl _⟩ h (fun r33 M34 h => ?_)
        refine H_putL mf274 (ck dc274 (i := 63) rfl) fw_Model_358 fc11_28 ly52 ra52 (Or.inl rfl) ?_
        refine G_aload_n 5 rfl rfl (ck dc274 (i := 64) rfl) ?_
        refine G_lload 2 rfl (ck dc274 (i := 65) rfl) ?_
        refine G_lload 1 rfl (ck dc274 (i := 66) rfl) ?_
        refine G_ladd (ck dc274 (i := 67) rfl) ?_
        refine G_lload 0 rfl (ck dc274 (i := 68) rfl) ?_
        refine G_iconst (ck dc274 (i := 69) rfl) ?_
        refine H_sL mf274 (As := [.inr (.inl (r7 + r11)), .inr (.inl r30), .inl 1]) (st := [.inr (.inr 52)]) (ck dc274 (i := 70) rfl) lk_Model_242 rfl rfl (Nat.le_of_ble_eq_true rfl) ⟨Nat.le_refl _, Nat.le_refl _⟩ h (fun r35 M36 h => ?_)
        refine H_putL mf274 (ck dc274 (i := 71) rfl) fw_Model_361 fc11_29 ly52 ra52 (Or.inl rfl) ?_
        exact H_vret mf274 (ck dc274 (i := 72) rfl) rfl h
theorem c_m_looksAt (K : Nat) (a1 : Int) (M : PM) (Q : Option PV → PM → Prop)
    (h : Call K jModel_clears [.inr (.inr 52)] P0 P0 M (retV fun M2 => G none (K + 1) jModel_looksAt 21 [(0, .inr (.inr 52)), (1, .inl a1), (2, .inl 0)] [] P0 P0 (mset (mset (mset M2 52 28 0) 52 29 1) 52 30 0) Q)) : Call (K + 1) jModel_looksAt [.inr (.inr 52), .inl a1] P0 P0 M Q := by
  refine Call.intro (by decide +kernel) (mfx.le mf273 (Nat.le_of_ble_eq_true rfl)) (Nat.le_refl _) rfl ?_
  refine G_aload_n 0 rfl rfl (ck dc273 (i := 0) rfl) ?_
  refine H_vV mf273 (As := []) (st := []) (ck dc273 (i := 1) rfl) lk_Model_230 rfl rfl (Nat.le_of_ble_eq_true rfl) ly52 ra52 ⟨Nat.le_refl _, Nat.le_refl _⟩ h (fun M2 h => ?_)
  refine G_aload_n 0 rfl rfl (ck dc273 (i := 2) rfl) ?_
  refine G_lconst (v := 0) rfl (ck dc273 (i := 3) rfl) ?_
  refine H_putL mf273 (ck dc273 (i := 4) rfl) fw_Model_358 fc11_28 ly52 ra52 (Or.inl rfl) ?_
  refine G_aload_n 0 rfl rfl (ck dc273 (i := 5) rfl) ?_
  refine G_lconst (v := 1) rfl (ck dc273 (i := 6) rfl) ?_
  refine H_putL mf273 (ck dc273 (i := 7) rfl) fw_Model_361 fc11_29 ly52 ra52 (Or.inl rfl) ?_
  refine G_aload_n 0 rfl rfl (ck dc273 (i := 8) rfl) ?_
  refine G_iconst (ck dc273 (i := 9) rfl) ?_
  refine H_putZ mf273 (ck dc273 (i := 10) rfl) fw_Model_353 fc11_30 ly52 ra52 (Or.inl rfl) (Or.inl rfl) ?_
  refine G_iconst (ck dc273 (i := 11) rfl) ?_
  refine G_istore_n (L' := [(2, .inl 0), (0, .inr (.inr 52)), (1, .inl a1)]) rfl (mfx.lt mf273 (Nat.le_of_ble_eq_true rfl)) rfl (ck dc273 (i := 12) rfl) ?_
  exact G_sub [1, 2, 0] rfl h
set_option maxHeartbeats 20000000 in
theorem g_m_looksAt_21 (K : Nat) (l1 l2 : Int) (M : PM) (Q : Option PV → PM → Prop)
    (h : R32 l2 ∧ (15 ≤ l2 → Q none M) ∧ (¬ 15 ≤ l2 → R32 (M 52 30) ∧ (¬ (M 52 30) = 0 → Q none M) ∧ ((M 52 30) = 0 → (0 ≤ ((83 + (15 * l1)) + l2) ∧ ((83 + (15 * l1)) + l2) < 128) ∧ R64 (M 53 ((83 + (15 * l1)) + l2)) ∧ ((M 53 ((83 + (15 * l1)) + l2)) ≤ 0 → G none (K + 1) jModel_looksAt 21 [(0, .inr (.inr 52)), (1, .inl l1), (2, .inl (l2 + 1))] [] P0 P0 M Q) ∧ (¬ (M 53 ((83 + (15 * l1)) + l2)) ≤ 0 → Call K jModel_partAt [.inr (.inr 52), .inl (M 52 9), .inl (Int.tdiv l2 3), .inl (Int.tmod l2 3)] P0 P0 M (retL fun r5 M6 => Call K jModel_adds [.inr (.inr 52), .inr (.inl (M 53 ((83 + (15 * l1)) + l2))), .inr (.inl r5)] P0 P0 M6 (retV fun M8 => G none (K + 1) jModel_looksAt 21 [(0, .inr (.inr 52)), (1, .inl l1), (2, .inl (l2 + 1))] [] P0 P0 M8 Q)))))) : G none (K + 1) jModel_looksAt 21 [(0, .inr (.inr 52)), (1, .inl l1), (2, .inl l2)] [] P0 P0 M Q := by
  refine G_iload_n 2 rfl rfl (ck dc273 (i := 13) rfl) ?_
  refine G_bipush (n := 15) rfl (ck dc273 (i := 14) rfl) ?_
  obtain ⟨o1, h⟩ := h
  refine G_icmp_ge (tgt := 80) (by decide) o1 (by decide) (ck dc273 (i := 15) rfl) (fun c => ?_) (fun c => ?_)
  · replace h := h.1 c
    exact H_vret mf273 (ck dc273 (i := 49) rfl) rfl h
  · replace h := h.2 c
    refine G_aload_n 0 rfl rfl (ck dc273 (i := 16) rfl) ?_
    refine H_getI mf273 (ck dc273 (i := 17) rfl) fw_Model_353 (Or.inr fc11_30) ly52 ra52 (x := (M 52 30)) rfl ?_
    obtain ⟨o2, h⟩ := h
    refine G_if_ne (tgt := 80) (by decide) o2 (ck dc273 (i := 18) rfl) (fun c => ?_) (fun c => ?_)
    · replace h := h.1 c
      exact H_vret mf273 (ck dc273 (i := 49) rfl) rfl h
    · replace h := h.2 c
      refine G_aload_n 0 rfl rfl (ck dc273 (i := 19) rfl) ?_
      refine H_getR mf273 (ck dc273 (i := 20) rfl) fw_Model_25 fc11_0 ly52 ra52 rf52_0 (by decide) ?_
      refine G_bipush (n := 83) rfl (ck dc273 (i := 21) rfl) ?_
      refine G_bipush (n := 15) rfl (ck dc273 (i := 22) rfl) ?_
      refine G_iload_n 1 rfl rfl (ck dc273 (i := 23) rfl) ?_
      refine G_imul (ck dc273 (i := 24) rfl) ?_
      refine G_iadd (ck dc273 (i := 25) rfl) ?_
      refine G_iload_n 2 rfl rfl (ck dc273 (i := 26) rfl) ?_
      refine G_iadd (ck dc273 (i := 27) rfl) ?_
      obtain ⟨o3, h⟩ := h
      refine H_lald (ck dc273 (i := 28) rfl) ly53 (by decide) ra53 o3 (x := (M 53 ((83 + (15 * l1)) + l2))) rfl ?_
      refine G_lstore_n (L' := [(3, .inr (.inl (M 53 ((83 + (15 * l1)) + l2)))), (0, .inr (.inr 52)), (1, .inl l1), (2, .inl l2)]) rfl (mfx.lt mf273 (Nat.le_of_ble_eq_true rfl)) rfl (ck dc273 (i := 29) rfl) ?_
      refine G_lload_n 0 rfl rfl (ck dc273 (i := 30) rfl) ?_
      refine G_lconst (v := 0) rfl (ck dc273 (i := 31) rfl) ?_
      obtain ⟨o4, h⟩ := h
      refine G_lif_le (tgt := 74) (ck dc273 (i := 33) rfl) (by decide) o4 (by decide) (ck dc273 (i := 32) rfl) (fun c => ?_) (fun c => ?_)
      · replace h := h.1 c
        refine G_iinc (L' := [(2, .inl (l2 + 1)), (3, .inr (.inl (M 53 ((83 + (15 * l1)) + l2)))), (0, .inr (.inr 52)), (1, .inl l1)]) 3 rfl (mfx.lt mf273 (Nat.le_of_ble_eq_true rfl)) rfl (ck dc273 (i := 47) rfl) ?_
        refine G_goto (tgt := 21) (by decide) (ck dc273 (i := 48) rfl) ?_
        exact G_sub [2, 3, 0] rfl h
      · replace h := h.2 c
        refine G_aload_n 1 rfl rfl (ck dc273 (i := 34) rfl) ?_
        refine G_lload_n 0 rfl rfl (ck dc273 (i := 35) rfl) ?_
        refine G_aload_n 1 rfl rfl (ck dc273 (i := 36) rfl) ?_
        refine G_aload_n 1 rfl rfl (ck dc273 (i := 37) rfl) ?_
        refine H_getI mf273 (ck dc273 (i := 38) rfl) fw_Model_206 (Or.inl fc11_9) ly52 ra52 (x := (M 52 9)) rfl ?_
        refine G_iload_n 3 rfl rfl (ck dc273 (i := 39) rfl) ?_
        refine G_iconst (ck dc273 (i := 40) rfl) ?_
        refine G_idiv o1 (by decide) (by decide) (ck dc273 (i := 41) rfl) ?_
        refine G_iload_n 3 rfl rfl (ck dc273 (i := 42) rfl) ?_
        refine G_iconst (ck dc273 (i := 43) rfl) ?_
        refine G_irem o1 (by decide) (by decide) (ck dc273 (i := 44) rfl) ?_
        refine H_vL mf273 (As := [.inl (M 52 9), .inl (Int.tdiv l2 3), .inl (Int.tmod l2 3)]) (st := [.inr (.inl (M 53 ((83 + (15 * l1)) + l2))), .inr (.inr 52)]) (ck dc273 (i := 45) rfl) lk_Model_199 rfl rfl (Nat.le_of_ble_eq_true rfl) ly52 ra52 ⟨Nat.le_refl _, Nat.le_refl _⟩ h (fun r5 M6 h => ?_)
        refine H_vV mf273 (As := [.inr (.inl (M 53 ((83 + (15 * l1)) + l2))), .inr (.inl r5)]) (st := []) (ck dc273 (i := 46) rfl) lk_Model_364 rfl rfl (Nat.le_of_ble_eq_true rfl) ly52 ra52 ⟨Nat.le_refl _, Nat.le_refl _⟩ h (fun M8 h => ?_)
        refine G_iinc (L' := [(2, .inl (l2 + 1)), (3, .inr (.inl (M 53 ((83 + (15 * l1)) + l2)))), (0, .inr (.inr 52)), (1, .inl l1)]) 3 rfl (mfx.lt mf273 (Nat.le_of_ble_eq_true rfl)) rfl (ck dc273 (i := 47) rfl) ?_
        refine G_goto (tgt := 21) (by decide) (ck dc273 (i := 48) rfl) ?_
        exact G_sub [2, 3, 0] rfl h
theorem c_m_fund (K : Nat) (a1 a2 : Int) (M : PM) (Q : Option PV → PM → Prop)
    (h : Call K jModel_isFund [.inl a1] P0 P0 M (retI fun r1 M2 => R32 r1 ∧ (r1 = 0 → Q (some (.inr (.inl (-9223372036854775808)))) M2) ∧ (¬ r1 = 0 → Call K jModel_isSide [.inl a2] P0 P0 M2 (retI fun r4 M5 => R32 r4 ∧ (¬ r4 = 0 → Call K jModel_looksAt [.inr (.inr 52), .inl a1] P0 P0 M5 (retV fun M8 => R32 (M8 52 30) ∧ ((M8 52 30) = 0 → R32 a2 ∧ (¬ a2 = 0 → Q (some (.inr (.inl (M8 52 29)))) M8) ∧ (a2 = 0 → Q (some (.inr (.inl (M8 52 28)))) M8)) ∧ (¬ (M8 52 30) = 0 → Q (some (.inr (.inl (-9223372036854775808)))) M8))) ∧ (r4 = 0 → Q (some (.inr (.inl (-9223372036854775808)))) M5))))) : Call (K + 1) jModel_fund [.inr (.inr 52), .inl a1, .inl a2] P0 P0 M Q := by
  refine Call.intro (by decide +kernel) (mfx.le mf272 (Nat.le_of_ble_eq_true rfl)) (Nat.le_refl _) rfl ?_
  refine G_iload_n 1 rfl rfl (ck dc272 (i := 0) rfl) ?_
  refine H_sZ mf272 (As := [.inl a1]) (st := []) (ck dc272 (i := 1) rfl) lk_Model_341 rfl rfl (Nat.le_of_ble_eq_true rfl) ⟨Nat.le_refl _, Nat.le_refl _⟩ h (fun r1 M2 h => ?_)
  obtain ⟨o3, h⟩ := h
  refine G_if_eq (tgt := 14) (by decide) o3 (ck dc272 (i := 2) rfl) (fun c => ?_) (fun c => ?_)
  · replace h := h.1 c
    refine H_ldc2 mf272 (v := (-9223372036854775808)) (ck dc272 (i := 6) rfl) kl_Model_240 ?_
    exact H_lret mf272 (ck dc272 (i := 7) rfl) rfl h
  · replace h := h.2 c
    refine G_iload_n 2 rfl rfl (ck dc272 (i := 3) rfl) ?_
    refine H_sZ mf272 (As := [.inl a2]) (st := []) (ck dc272 (i := 4) rfl) lk_Model_237 rfl rfl (Nat.le_of_ble_eq_true rfl) ⟨Nat.le_refl _, Nat.le_refl _⟩ h (fun r4 M5 h => ?_)
    obtain ⟨o6, h⟩ := h
    refine G_if_ne (tgt := 18) (by decide) o6 (ck dc272 (i := 5) rfl) (fun c => ?_) (fun c => ?_)
    · replace h := h.1 c
      refine G_aload_n 0 rfl rfl (ck dc272 (i := 8) rfl) ?_
      refine G_iload_n 1 rfl rfl (ck dc272 (i := 9) rfl) ?_
      refine H_vV mf272 (As := [.inl a1]) (st := []) (ck dc272 (i := 10) rfl) lk_Model_371 rfl rfl (Nat.le_of_ble_eq_true rfl) ly52 ra52 ⟨Nat.le_refl _, Nat.le_refl _⟩ h (fun M8 h => ?_)
      refine G_aload_n 0 rfl rfl (ck dc272 (i := 11) rfl) ?_
      refine H_getI mf272 (ck dc272 (i := 12) rfl) fw_Model_353 (Or.inr fc11_30) ly52 ra52 (x := (M8 52 30)) rfl ?_
      obtain ⟨o9, h⟩ := h
      refine G_if_eq (tgt := 36) (by decide) o9 (ck dc272 (i := 13) rfl) (fun c => ?_) (fun c => ?_)
      · replace h := h.1 c
        refine G_iload_n 2 rfl rfl (ck dc272 (i := 16) rfl) ?_
        obtain ⟨o10, h⟩ := h
        refine G_if_ne (tgt := 47) (by decide) o10 (ck dc272 (i := 17) rfl) (fun c => ?_) (fun c => ?_)
        · replace h := h.1 c
          refine G_aload_n 0 rfl rfl (ck dc272 (i := 21) rfl) ?_
          refine H_getL mf272 (ck dc272 (i := 22) rfl) fw_Model_361 fc11_29 ly52 ra52 (x := (M8 52 29)) rfl ?_
          exact H_lret mf272 (ck dc272 (i := 23) rfl) rfl h
        · replace h := h.2 c
          refine G_aload_n 0 rfl rfl (ck dc272 (i := 18) rfl) ?_
          refine H_getL mf272 (ck dc272 (i := 19) rfl) fw_Model_358 fc11_28 ly52 ra52 (x := (M8 52 28)) rfl ?_
          refine G_goto (tgt := 51) (by decide) (ck dc272 (i := 20) rfl) ?_
          exact H_lret mf272 (ck dc272 (i := 23) rfl) rfl h
      · replace h := h.2 c
        refine H_ldc2 mf272 (v := (-9223372036854775808)) (ck dc272 (i := 14) rfl) kl_Model_240 ?_
        refine G_goto (tgt := 51) (by decide) (ck dc272 (i := 15) rfl) ?_
        exact H_lret mf272 (ck dc272 (i := 23) rfl) rfl h
    · replace h := h.2 c
      refine H_ldc2 mf272 (v := (-9223372036854775808)) (ck dc272 (i := 6) rfl) kl_Model_240 ?_
      exact H_lret mf272 (ck dc272 (i := 7) rfl) rfl h
theorem c_m_hasUnits (K : Nat) (a1 : Int) (M : PM) (Q : Option PV → PM → Prop)
    (h : G none (K + 1) jModel_hasUnits 4 [(0, .inr (.inr 52)), (1, .inl a1), (2, .inl 0), (3, .inl 0)] [] P0 P0 M Q) : Call (K + 1) jModel_hasUnits [.inr (.inr 52), .inl a1] P0 P0 M Q := by
  refine Call.intro (by decide +kernel) (mfx.le mf277 (Nat.le_of_ble_eq_true rfl)) (Nat.le_refl _) rfl ?_
  refine G_iconst (ck dc277 (i := 0) rfl) ?_
  refine G_istore_n (L' := [(2, .inl 0), (0, .inr (.inr 52)), (1, .inl a1)]) rfl (mfx.lt mf277 (Nat.le_of_ble_eq_true rfl)) rfl (ck dc277 (i := 1) rfl) ?_
  refine G_iconst (ck dc277 (i := 2) rfl) ?_
  refine G_istore_n (L' := [(3, .inl 0), (2, .inl 0), (0, .inr (.inr 52)), (1, .inl a1)]) rfl (mfx.lt mf277 (Nat.le_of_ble_eq_true rfl)) rfl (ck dc277 (i := 3) rfl) ?_
  exact G_sub [2, 3, 1, 0] rfl h
set_option maxHeartbeats 20000000 in
theorem g_m_hasUnits_4 (K : Nat) (l1 l2 l3 : Int) (M : PM) (Q : Option PV → PM → Prop)
    (h : R32 l3 ∧ (15 ≤ l3 → (l2 = 0 ∨ l2 = 1) ∧ Q (some (.inl l2)) M) ∧ (¬ 15 ≤ l3 → R32 l2 ∧ (¬ l2 = 0 → G none (K + 1) jModel_hasUnits 4 [(0, .inr (.inr 52)), (1, .inl l1), (2, .inl 1), (3, .inl (l3 + 1))] [] P0 P0 M Q) ∧ (l2 = 0 → (0 ≤ ((83 + (15 * l1)) + l3) ∧ ((83 + (15 * l1)) + l3) < 128) ∧ R64 (M 53 ((83 + (15 * l1)) + l3)) ∧ ((M 53 ((83 + (15 * l1)) + l3)) ≤ 0 → G none (K + 1) jModel_hasUnits 4 [(0, .inr (.inr 52)), (1, .inl l1), (2, .inl 0), (3, .inl (l3 + 1))] [] P0 P0 M Q) ∧ (¬ (M 53 ((83 + (15 * l1)) + l3)) ≤ 0 → G none (K + 1) jModel_hasUnits 4 [(0, .inr (.inr 52)), (1, .inl l1), (2, .inl 1), (3, .inl (l3 + 1))] [] P0 P0 M Q)))) : G none (K + 1) jModel_hasUnits 4 [(0, .inr (.inr 52)), (1, .inl l1), (2, .inl l2), (3, .inl l3)] [] P0 P0 M Q := by
  refine G_iload_n 3 rfl rfl (ck dc277 (i := 4) rfl) ?_
  refine G_bipush (n := 15) rfl (ck dc277 (i := 5) rfl) ?_
  obtain ⟨o1, h⟩ := h
  refine G_icmp_ge (tgt := 45) (by decide) o1 (by decide) (ck dc277 (i := 6) rfl) (fun c => ?_) (fun c => ?_)
  · replace h := h.1 c
    refine G_iload_n 2 rfl rfl (ck dc277 (i := 28) rfl) ?_
    obtain ⟨o2, h⟩ := h
    exact H_iretZ mf277 (ck dc277 (i := 29) rfl) rfl o2 h
  · replace h := h.2 c
    refine G_iload_n 2 rfl rfl (ck dc277 (i := 7) rfl) ?_
    obtain ⟨o3, h⟩ := h
    refine G_if_ne (tgt := 33) (by decide) o3 (ck dc277 (i := 8) rfl) (fun c => ?_) (fun c => ?_)
    · replace h := h.1 c
      refine G_iconst (ck dc277 (i := 22) rfl) ?_
      refine G_goto (tgt := 38) (by decide) (ck dc277 (i := 23) rfl) ?_
      refine G_istore_n (L' := [(2, .inl 1), (0, .inr (.inr 52)), (1, .inl l1), (3, .inl l3)]) rfl (mfx.lt mf277 (Nat.le_of_ble_eq_true rfl)) rfl (ck dc277 (i := 25) rfl) ?_
      refine G_iinc (L' := [(3, .inl (l3 + 1)), (2, .inl 1), (0, .inr (.inr 52)), (1, .inl l1)]) 3 rfl (mfx.lt mf277 (Nat.le_of_ble_eq_true rfl)) rfl (ck dc277 (i := 26) rfl) ?_
      refine G_goto (tgt := 4) (by decide) (ck dc277 (i := 27) rfl) ?_
      exact G_sub [2, 3, 1, 0] rfl h
    · replace h := h.2 c
      refine G_aload_n 0 rfl rfl (ck dc277 (i := 9) rfl) ?_
      refine H_getR mf277 (ck dc277 (i := 10) rfl) fw_Model_25 fc11_0 ly52 ra52 rf52_0 (by decide) ?_
      refine G_bipush (n := 83) rfl (ck dc277 (i := 11) rfl) ?_
      refine G_bipush (n := 15) rfl (ck dc277 (i := 12) rfl) ?_
      refine G_iload_n 1 rfl rfl (ck dc277 (i := 13) rfl) ?_
      refine G_imul (ck dc277 (i := 14) rfl) ?_
      refine G_iadd (ck dc277 (i := 15) rfl) ?_
      refine G_iload_n 3 rfl rfl (ck dc277 (i := 16) rfl) ?_
      refine G_iadd (ck dc277 (i := 17) rfl) ?_
      obtain ⟨o4, h⟩ := h
      refine H_lald (ck dc277 (i := 18) rfl) ly53 (by decide) ra53 o4 (x := (M 53 ((83 + (15 * l1)) + l3))) rfl ?_
      refine G_lconst (v := 0) rfl (ck dc277 (i := 19) rfl) ?_
      obtain ⟨o5, h⟩ := h
      refine G_lif_le (tgt := 37) (ck dc277 (i := 21) rfl) (by decide) o5 (by decide) (ck dc277 (i := 20) rfl) (fun c => ?_) (fun c => ?_)
      · replace h := h.1 c
        refine G_iconst (ck dc277 (i := 24) rfl) ?_
        refine G_istore_n (L' := [(2, .inl 0), (0, .inr (.inr 52)), (1, .inl l1), (3, .inl l3)]) rfl (mfx.lt mf277 (Nat.le_of_ble_eq_true rfl)) rfl (ck dc277 (i := 25) rfl) ?_
        refine G_iinc (L' := [(3, .inl (l3 + 1)), (2, .inl 0), (0, .inr (.inr 52)), (1, .inl l1)]) 3 rfl (mfx.lt mf277 (Nat.le_of_ble_eq_true rfl)) rfl (ck dc277 (i := 26) rfl) ?_
        refine G_goto (tgt := 4) (by decide) (ck dc277 (i := 27) rfl) ?_
        exact G_sub [2, 3, 1, 0] rfl h
      · replace h := h.2 c
        refine G_iconst (ck dc277 (i := 22) rfl) ?_
        refine G_goto (tgt := 38) (by decide) (ck dc277 (i := 23) rfl) ?_
        refine G_istore_n (L' := [(2, .inl 1), (0, .inr (.inr 52)), (1, .inl l1), (3, .inl l3)]) rfl (mfx.lt mf277 (Nat.le_of_ble_eq_true rfl)) rfl (ck dc277 (i := 25) rfl) ?_
        refine G_iinc (L' := [(3, .inl (l3 + 1)), (2, .inl 1), (0, .inr (.inr 52)), (1, .inl l1)]) 3 rfl (mfx.lt mf277 (Nat.le_of_ble_eq_true rfl)) rfl (ck dc277 (i := 26) rfl) ?_
        refine G_goto (tgt := 4) (by decide) (ck dc277 (i := 27) rfl) ?_
        exact G_sub [2, 3, 1, 0] rfl h
theorem c_m_told (K : Nat) (a1 : Int) (M : PM) (Q : Option PV → PM → Prop)
    (h : Call K jModel_isFund [.inl a1] P0 P0 M (retI fun r1 M2 => R32 r1 ∧ (¬ r1 = 0 → Call K jModel_hasUnits [.inr (.inr 52), .inl a1] P0 P0 M2 (retI fun r4 M5 => R32 r4 ∧ (¬ r4 = 0 → Call K jModel_looksAt [.inr (.inr 52), .inl a1] P0 P0 M5 (retV fun M8 => R32 (M8 52 30) ∧ ((M8 52 30) = 0 → Q (some (.inl 1)) M8) ∧ (¬ (M8 52 30) = 0 → Q (some (.inl (-6))) M8))) ∧ (r4 = 0 → Q (some (.inl (-3))) M5))) ∧ (r1 = 0 → Q (some (.inl (-1))) M2))) : Call (K + 1) jModel_told [.inr (.inr 52), .inl a1] P0 P0 M Q := by
  refine Call.intro (by decide +kernel) (mfx.le mf276 (Nat.le_of_ble_eq_true rfl)) (Nat.le_refl _) rfl ?_
  refine G_iload_n 1 rfl rfl (ck dc276 (i := 0) rfl) ?_
  refine H_sZ mf276 (As := [.inl a1]) (st := []) (ck dc276 (i := 1) rfl) lk_Model_341 rfl rfl (Nat.le_of_ble_eq_true rfl) ⟨Nat.le_refl _, Nat.le_refl _⟩ h (fun r1 M2 h => ?_)
  obtain ⟨o3, h⟩ := h
  refine G_if_ne (tgt := 9) (by decide) o3 (ck dc276 (i := 2) rfl) (fun c => ?_) (fun c => ?_)
  · replace h := h.1 c
    refine G_aload_n 0 rfl rfl (ck dc276 (i := 5) rfl) ?_
    refine G_iload_n 1 rfl rfl (ck dc276 (i := 6) rfl) ?_
    refine H_vZ mf276 (As := [.inl a1]) (st := []) (ck dc276 (i := 7) rfl) lk_Model_374 rfl rfl (Nat.le_of_ble_eq_true rfl) ly52 ra52 ⟨Nat.le_refl _, Nat.le_refl _⟩ h (fun r4 M5 h => ?_)
    obtain ⟨o6, h⟩ := h
    refine G_if_ne (tgt := 20) (by decide) o6 (ck dc276 (i := 8) rfl) (fun c => ?_) (fun c => ?_)
    · replace h := h.1 c
      refine G_aload_n 0 rfl rfl (ck dc276 (i := 11) rfl) ?_
      refine G_iload_n 1 rfl rfl (ck dc276 (i := 12) rfl) ?_
      refine H_vV mf276 (As := [.inl a1]) (st := []) (ck dc276 (i := 13) rfl) lk_Model_371 rfl rfl (Nat.le_of_ble_eq_true rfl) ly52 ra52 ⟨Nat.le_refl _, Nat.le_refl _⟩ h (fun M8 h => ?_)
      refine G_aload_n 0 rfl rfl (ck dc276 (i := 14) rfl) ?_
      refine H_getI mf276 (ck dc276 (i := 15) rfl) fw_Model_353 (Or.inr fc11_30) ly52 ra52 (x := (M8 52 30)) rfl ?_
      obtain ⟨o9, h⟩ := h
      refine G_if_eq (tgt := 37) (by decide) o9 (ck dc276 (i := 16) rfl) (fun c => ?_) (fun c => ?_)
      · replace h := h.1 c
        refine G_iconst (ck dc276 (i := 19) rfl) ?_
        exact H_iretI mf276 (ck dc276 (i := 20) rfl) rfl h
      · replace h := h.2 c
        refine G_bipush (n := (-6)) rfl (ck dc276 (i := 17) rfl) ?_
        refine G_goto (tgt := 38) (by decide) (ck dc276 (i := 18) rfl) ?_
        exact H_iretI mf276 (ck dc276 (i := 20) rfl) rfl h
    · replace h := h.2 c
      refine G_bipush (n := (-3)) rfl (ck dc276 (i := 9) rfl) ?_
      exact H_iretI mf276 (ck dc276 (i := 10) rfl) rfl h
  · replace h := h.2 c
    refine G_iconst (ck dc276 (i := 3) rfl) ?_
    exact H_iretI mf276 (ck dc276 (i := 4) rfl) rfl h
theorem c_m_best (K : Nat) (M : PM) (Q : Option PV → PM → Prop)
    (h : G none (K + 1) jModel_best 11 [(0, .inr (.inr 52)), (1, .inl (-5)), (2, .inr (.inl 0)), (4, .inr (.inl 1)), (6, .inl 0)] [] P0 P0 M Q) : Call (K + 1) jModel_best [.inr (.inr 52)] P0 P0 M Q := by
  refine Call.intro (by decide +kernel) (mfx.le mf278 (Nat.le_of_ble_eq_true rfl)) (Nat.le_refl _) rfl ?_
  refine G_bipush (n := (-5)) rfl (ck dc278 (i := 0) rfl) ?_
  refine G_istore_n (L' := [(1, .inl (-5)), (0, .inr (.inr 52))]) rfl (mfx.lt mf278 (Nat.le_of_ble_eq_true rfl)) rfl (ck dc278 (i := 1) rfl) ?_
  refine G_lconst (v := 0) rfl (ck dc278 (i := 2) rfl) ?_
  refine G_lstore_n (L' := [(2, .inr (.inl 0)), (1, .inl (-5)), (0, .inr (.inr 52))]) rfl (mfx.lt mf278 (Nat.le_of_ble_eq_true rfl)) rfl (ck dc278 (i := 3) rfl) ?_
  refine G_lconst (v := 1) rfl (ck dc278 (i := 4) rfl) ?_
  refine G_lstore (L' := [(4, .inr (.inl 1)), (2, .inr (.inl 0)), (1, .inl (-5)), (0, .inr (.inr 52))]) (mfx.lt mf278 (Nat.le_of_ble_eq_true rfl)) rfl (ck dc278 (i := 5) rfl) ?_
  refine G_iconst (ck dc278 (i := 6) rfl) ?_
  refine G_istore (L' := [(6, .inl 0), (4, .inr (.inl 1)), (2, .inr (.inl 0)), (1, .inl (-5)), (0, .inr (.inr 52))]) (mfx.lt mf278 (Nat.le_of_ble_eq_true rfl)) rfl (ck dc278 (i := 7) rfl) ?_
  exact G_sub [4, 3, 2, 1, 0] rfl h
set_option maxHeartbeats 20000000 in
theorem g_m_best_11 (K : Nat) (l1 l2 l4 l6 : Int) (M : PM) (Q : Option PV → PM → Prop)
    (h : R32 l6 ∧ (3 ≤ l6 → Q (some (.inl l1)) M) ∧ (¬ 3 ≤ l6 → Call K jModel_looksAt [.inr (.inr 52), .inl l6] P0 P0 M (retV fun M3 => Call K jModel_hasUnits [.inr (.inr 52), .inl l6] P0 P0 M3 (retI fun r4 M5 => R32 r4 ∧ (r4 = 0 → G none (K + 1) jModel_best 11 [(0, .inr (.inr 52)), (1, .inl l1), (2, .inr (.inl l2)), (4, .inr (.inl l4)), (6, .inl (l6 + 1))] [] P0 P0 M5 Q) ∧ (¬ r4 = 0 → R32 (M5 52 30) ∧ (¬ (M5 52 30) = 0 → G none (K + 1) jModel_best 11 [(0, .inr (.inr 52)), (1, .inl l1), (2, .inr (.inl l2)), (4, .inr (.inl l4)), (6, .inl (l6 + 1))] [] P0 P0 M5 Q) ∧ ((M5 52 30) = 0 → R32 l1 ∧ (l1 < 0 → G none (K + 1) jModel_best 11 [(0, .inr (.inr 52)), (1, .inl l6), (2, .inr (.inl (M5 52 28))), (4, .inr (.inl (M5 52 29))), (6, .inl (l6 + 1))] [] P0 P0 M5 Q) ∧ (¬ l1 < 0 → Call K jModel_compared [.inr (.inl (M5 52 28)), .inr (.inl (M5 52 29)), .inr (.inl l2), .inr (.inl l4)] P0 P0 M5 (retI fun r9 M10 => R32 r9 ∧ (r9 ≤ 0 → G none (K + 1) jModel_best 11 [(0, .inr (.inr 52)), (1, .inl l1), (2, .inr (.inl l2)), (4, .inr (.inl l4)), (6, .inl (l6 + 1))] [] P0 P0 M10 Q) ∧ (¬ r9 ≤ 0 → G none (K + 1) jModel_best 11 [(0, .inr (.inr 52)), (1, .inl l6), (2, .inr (.inl (M10 52 28))), (4, .inr (.inl (M10 52 29))), (6, .inl (l6 + 1))] [] P0 P0 M10 Q))))))))) : G none (K + 1) jModel_best 11 [(0, .inr (.inr 52)), (1, .inl l1), (2, .inr (.inl l2)), (4, .inr (.inl l4)), (6, .inl l6)] [] P0 P0 M Q := by
  refine G_iload 4 rfl (ck dc278 (i := 8) rfl) ?_
  refine G_iconst (ck dc278 (i := 9) rfl) ?_
  obtain ⟨o1, h⟩ := h
  refine G_icmp_ge (tgt := 80) (by decide) o1 (by decide) (ck dc278 (i := 10) rfl) (fun c => ?_) (fun c => ?_)
  · replace h := h.1 c
    refine G_iload_n 1 rfl rfl (ck dc278 (i := 41) rfl) ?_
    exact H_iretI mf278 (ck dc278 (i := 42) rfl) rfl h
  · replace h := h.2 c
    refine G_aload_n 0 rfl rfl (ck dc278 (i := 11) rfl) ?_
    refine G_iload 4 rfl (ck dc278 (i := 12) rfl) ?_
    refine H_vV mf278 (As := [.inl l6]) (st := []) (ck dc278 (i := 13) rfl) lk_Model_371 rfl rfl (Nat.le_of_ble_eq_true rfl) ly52 ra52 ⟨Nat.le_refl _, Nat.le_refl _⟩ h (fun M3 h => ?_)
    refine G_aload_n 0 rfl rfl (ck dc278 (i := 14) rfl) ?_
    refine G_iload 4 rfl (ck dc278 (i := 15) rfl) ?_
    refine H_vZ mf278 (As := [.inl l6]) (st := []) (ck dc278 (i := 16) rfl) lk_Model_374 rfl rfl (Nat.le_of_ble_eq_true rfl) ly52 ra52 ⟨Nat.le_refl _, Nat.le_refl _⟩ h (fun r4 M5 h => ?_)
    obtain ⟨o6, h⟩ := h
    refine G_if_eq (tgt := 74) (by decide) o6 (ck dc278 (i := 17) rfl) (fun c => ?_) (fun c => ?_)
    · replace h := h.1 c
      refine G_iinc (L' := [(6, .inl (l6 + 1)), (0, .inr (.inr 52)), (1, .inl l1), (2, .inr (.inl l2)), (4, .inr (.inl l4))]) 4 rfl (mfx.lt mf278 (Nat.le_of_ble_eq_true rfl)) rfl (ck dc278 (i := 39) rfl) ?_
      refine G_goto (tgt := 11) (by decide) (ck dc278 (i := 40) rfl) ?_
      exact G_sub [1, 2, 3, 4, 0] rfl h
    · replace h := h.2 c
      refine G_aload_n 0 rfl rfl (ck dc278 (i := 18) rfl) ?_
      refine H_getI mf278 (ck dc278 (i := 19) rfl) fw_Model_353 (Or.inr fc11_30) ly52 ra52 (x := (M5 52 30)) rfl ?_
      obtain ⟨o7, h⟩ := h
      refine G_if_ne (tgt := 74) (by decide) o7 (ck dc278 (i := 20) rfl) (fun c => ?_) (fun c => ?_)
      · replace h := h.1 c
        refine G_iinc (L' := [(6, .inl (l6 + 1)), (0, .inr (.inr 52)), (1, .inl l1), (2, .inr (.inl l2)), (4, .inr (.inl l4))]) 4 rfl (mfx.lt mf278 (Nat.le_of_ble_eq_true rfl)) rfl (ck dc278 (i := 39) rfl) ?_
        refine G_goto (tgt := 11) (by decide) (ck dc278 (i := 40) rfl) ?_
        exact G_sub [1, 2, 3, 4, 0] rfl h
      · replace h := h.2 c
        refine G_iload_n 1 rfl rfl (ck dc278 (i := 21) rfl) ?_
        obtain ⟨o8, h⟩ := h
        refine G_if_lt (tgt := 60) (by decide) o8 (ck dc278 (i := 22) rfl) (fun c => ?_) (fun c => ?_)
        · replace h := h.1 c
          refine G_iload 4 rfl (ck dc278 (i := 31) rfl) ?_
          refine G_istore_n (L' := [(1, .inl l6), (0, .inr (.inr 52)), (2, .inr (.inl l2)), (4, .inr (.inl l4)), (6, .inl l6)]) rfl (mfx.lt mf278 (Nat.le_of_ble_eq_true rfl)) rfl (ck dc278 (i := 32) rfl) ?_
          refine G_aload_n 1 rfl rfl (ck dc278 (i := 33) rfl) ?_
          refine H_getL mf278 (ck dc278 (i := 34) rfl) fw_Model_358 fc11_28 ly52 ra52 (x := (M5 52 28)) rfl ?_
          refine G_lstore_n (L' := [(2, .inr (.inl (M5 52 28))), (1, .inl l6), (0, .inr (.inr 52)), (4, .inr (.inl l4)), (6, .inl l6)]) rfl (mfx.lt mf278 (Nat.le_of_ble_eq_true rfl)) rfl (ck dc278 (i := 35) rfl) ?_
          refine G_aload_n 2 rfl rfl (ck dc278 (i := 36) rfl) ?_
          refine H_getL mf278 (ck dc278 (i := 37) rfl) fw_Model_361 fc11_29 ly52 ra52 (x := (M5 52 29)) rfl ?_
          refine G_lstore (L' := [(4, .inr (.inl (M5 52 29))), (2, .inr (.inl (M5 52 28))), (1, .inl l6), (0, .inr (.inr 52)), (6, .inl l6)]) (mfx.lt mf278 (Nat.le_of_ble_eq_true rfl)) rfl (ck dc278 (i := 38) rfl) ?_
          refine G_iinc (L' := [(6, .inl (l6 + 1)), (4, .inr (.inl (M5 52 29))), (2, .inr (.inl (M5 52 28))), (1, .inl l6), (0, .inr (.inr 52))]) 4 rfl (mfx.lt mf278 (Nat.le_of_ble_eq_true rfl)) rfl (ck dc278 (i := 39) rfl) ?_
          refine G_goto (tgt := 11) (by decide) (ck dc278 (i := 40) rfl) ?_
          exact G_sub [4, 3, 2, 1, 0] rfl h
        · replace h := h.2 c
          refine G_aload_n 0 rfl rfl (ck dc278 (i := 23) rfl) ?_
          refine H_getL mf278 (ck dc278 (i := 24) rfl) fw_Model_358 fc11_28 ly52 ra52 (x := (M5 52 28)) rfl ?_
          refine G_aload_n 0 rfl rfl (ck dc278 (i := 25) rfl) ?_
          refine H_getL mf278 (ck dc278 (i := 26) rfl) fw_Model_361 fc11_29 ly52 ra52 (x := (M5 52 29)) rfl ?_
          refine G_lload_n 2 rfl rfl (ck dc278 (i := 27) rfl) ?_
          refine G_lload 3 rfl (ck dc278 (i := 28) rfl) ?_
          refine H_sI mf278 (As := [.inr (.inl (M5 52 28)), .inr (.inl (M5 52 29)), .inr (.inl l2), .inr (.inl l4)]) (st := []) (ck dc278 (i := 29) rfl) lk_Model_308 rfl rfl (Nat.le_of_ble_eq_true rfl) ⟨Nat.le_refl _, Nat.le_refl _⟩ h (fun r9 M10 h => ?_)
          obtain ⟨o11, h⟩ := h
          refine G_if_le (tgt := 74) (by decide) o11 (ck dc278 (i := 30) rfl) (fun c => ?_) (fun c => ?_)
          · replace h := h.1 c
            refine G_iinc (L' := [(6, .inl (l6 + 1)), (0, .inr (.inr 52)), (1, .inl l1), (2, .inr (.inl l2)), (4, .inr (.inl l4))]) 4 rfl (mfx.lt mf278 (Nat.le_of_ble_eq_true rfl)) rfl (ck dc278 (i := 39) rfl) ?_
            refine G_goto (tgt := 11) (by decide) (ck dc278 (i := 40) rfl) ?_
            exact G_sub [1, 2, 3, 4, 0] rfl h
          · replace h := h.2 c
            refine G_iload 4 rfl (ck dc278 (i := 31) rfl) ?_
            refine G_istore_n (L' := [(1, .inl l6), (0, .inr (.inr 52)), (2, .inr (.inl l2)), (4, .inr (.inl l4)), (6, .inl l6)]) rfl (mfx.lt mf278 (Nat.le_of_ble_eq_true rfl)) rfl (ck dc278 (i := 32) rfl) ?_
            refine G_aload_n 1 rfl rfl (ck dc278 (i := 33) rfl) ?_
            refine H_getL mf278 (ck dc278 (i := 34) rfl) fw_Model_358 fc11_28 ly52 ra52 (x := (M10 52 28)) rfl ?_
            refine G_lstore_n (L' := [(2, .inr (.inl (M10 52 28))), (1, .inl l6), (0, .inr (.inr 52)), (4, .inr (.inl l4)), (6, .inl l6)]) rfl (mfx.lt mf278 (Nat.le_of_ble_eq_true rfl)) rfl (ck dc278 (i := 35) rfl) ?_
            refine G_aload_n 2 rfl rfl (ck dc278 (i := 36) rfl) ?_
            refine H_getL mf278 (ck dc278 (i := 37) rfl) fw_Model_361 fc11_29 ly52 ra52 (x := (M10 52 29)) rfl ?_
            refine G_lstore (L' := [(4, .inr (.inl (M10 52 29))), (2, .inr (.inl (M10 52 28))), (1, .inl l6), (0, .inr (.inr 52)), (6, .inl l6)]) (mfx.lt mf278 (Nat.le_of_ble_eq_true rfl)) rfl (ck dc278 (i := 38) rfl) ?_
            refine G_iinc (L' := [(6, .inl (l6 + 1)), (4, .inr (.inl (M10 52 29))), (2, .inr (.inl (M10 52 28))), (1, .inl l6), (0, .inr (.inr 52))]) 4 rfl (mfx.lt mf278 (Nat.le_of_ble_eq_true rfl)) rfl (ck dc278 (i := 39) rfl) ?_
            refine G_goto (tgt := 11) (by decide) (ck dc278 (i := 40) rfl) ?_
            exact G_sub [4, 3, 2, 1, 0] rfl h
theorem c_m_writes (K : Nat) (a1 : Int) (M : PM) (Q : Option PV → PM → Prop)
    (h : (0 ≤ (M 52 32) ∧ (M 52 32) < 320) ∧ Q none (mset (mset M 71 (M 52 32) a1) 52 32 ((M 52 32) + 1))) : Call (K + 1) jModel_writes [.inr (.inr 52), .inl a1] P0 P0 M Q := by
  refine Call.intro (by decide +kernel) (mfx.le mf281 (Nat.le_of_ble_eq_true rfl)) (Nat.le_refl _) rfl ?_
  refine G_aload_n 0 rfl rfl (ck dc281 (i := 0) rfl) ?_
  refine H_getR mf281 (ck dc281 (i := 1) rfl) fw_Model_77 fc11_31 ly52 ra52 rf52_31 (by decide) ?_
  refine G_aload_n 0 rfl rfl (ck dc281 (i := 2) rfl) ?_
  refine H_getI mf281 (ck dc281 (i := 3) rfl) fw_Model_377 (Or.inl fc11_32) ly52 ra52 (x := (M 52 32)) rfl ?_
  refine G_iload_n 1 rfl rfl (ck dc281 (i := 4) rfl) ?_
  obtain ⟨o1, h⟩ := h
  refine G_iast (ck dc281 (i := 5) rfl) ra71 ly71 (by decide) o1 ?_
  refine G_aload_n 0 rfl rfl (ck dc281 (i := 6) rfl) ?_
  refine G_dup rfl (ck dc281 (i := 7) rfl) ?_
  refine H_getI mf281 (ck dc281 (i := 8) rfl) fw_Model_377 (Or.inl fc11_32) ly52 ra52 (x := (M 52 32)) (by simp [mset, mcpy, mclr]) ?_
  refine G_iconst (ck dc281 (i := 9) rfl) ?_
  refine G_iadd (ck dc281 (i := 10) rfl) ?_
  refine H_putI mf281 (ck dc281 (i := 11) rfl) fw_Model_377 fc11_32 ly52 ra52 (Or.inl rfl) ?_
  exact H_vret mf281 (ck dc281 (i := 12) rfl) rfl h
theorem c_m_paysAll (K : Nat) (a1 : Int) (M : PM) (Q : Option PV → PM → Prop)
    (h : G none (K + 1) jModel_paysAll 5 [(0, .inr (.inr 52)), (1, .inl a1), (2, .inr (.inl 0)), (4, .inl 0)] [] P0 P0 M Q) : Call (K + 1) jModel_paysAll [.inr (.inr 52), .inl a1] P0 P0 M Q := by
  refine Call.intro (by decide +kernel) (mfx.le mf282 (Nat.le_of_ble_eq_true rfl)) (Nat.le_refl _) rfl ?_
  refine G_lconst (v := 0) rfl (ck dc282 (i := 0) rfl) ?_
  refine G_lstore_n (L' := [(2, .inr (.inl 0)), (0, .inr (.inr 52)), (1, .inl a1)]) rfl (mfx.lt mf282 (Nat.le_of_ble_eq_true rfl)) rfl (ck dc282 (i := 1) rfl) ?_
  refine G_iconst (ck dc282 (i := 2) rfl) ?_
  refine G_istore (L' := [(4, .inl 0), (2, .inr (.inl 0)), (0, .inr (.inr 52)), (1, .inl a1)]) (mfx.lt mf282 (Nat.le_of_ble_eq_true rfl)) rfl (ck dc282 (i := 3) rfl) ?_
  exact G_sub [2, 3, 1, 0] rfl h
theorem g_m_paysAll_5 (K : Nat) (l1 l2 l4 : Int) (M : PM) (Q : Option PV → PM → Prop)
    (h : R32 l4 ∧ (3 ≤ l4 → Q (some (.inr (.inl l2))) M) ∧ (¬ 3 ≤ l4 → Call K jModel_due [.inr (.inr 52), .inl l1, .inl l4] P0 P0 M (retI fun r2 M3 => R32 r2 ∧ Call K jModel_partAt [.inr (.inr 52), .inl (M3 52 9), .inl l1, .inl l4] P0 P0 M3 (retL fun r5 M6 => G none (K + 1) jModel_paysAll 5 [(0, .inr (.inr 52)), (1, .inl l1), (2, .inr (.inl (l2 + (r2 * r5)))), (4, .inl (l4 + 1))] [] P0 P0 M6 Q)))) : G none (K + 1) jModel_paysAll 5 [(0, .inr (.inr 52)), (1, .inl l1), (2, .inr (.inl l2)), (4, .inl l4)] [] P0 P0 M Q := by
  refine G_iload 3 rfl (ck dc282 (i := 4) rfl) ?_
  refine G_iconst (ck dc282 (i := 5) rfl) ?_
  obtain ⟨o1, h⟩ := h
  refine G_icmp_ge (tgt := 40) (by decide) o1 (by decide) (ck dc282 (i := 6) rfl) (fun c => ?_) (fun c => ?_)
  · replace h := h.1 c
    refine G_lload_n 2 rfl rfl (ck dc282 (i := 24) rfl) ?_
    exact H_lret mf282 (ck dc282 (i := 25) rfl) rfl h
  · replace h := h.2 c
    refine G_lload_n 2 rfl rfl (ck dc282 (i := 7) rfl) ?_
    refine G_aload_n 0 rfl rfl (ck dc282 (i := 8) rfl) ?_
    refine G_iload_n 1 rfl rfl (ck dc282 (i := 9) rfl) ?_
    refine G_iload 3 rfl (ck dc282 (i := 10) rfl) ?_
    refine H_vI mf282 (As := [.inl l1, .inl l4]) (st := [.inr (.inl l2)]) (ck dc282 (i := 11) rfl) lk_Model_106 rfl rfl (Nat.le_of_ble_eq_true rfl) ly52 ra52 ⟨Nat.le_refl _, Nat.le_refl _⟩ h (fun r2 M3 h => ?_)
    obtain ⟨o4, h⟩ := h
    refine G_i2l o4 (ck dc282 (i := 12) rfl) ?_
    refine G_aload_n 0 rfl rfl (ck dc282 (i := 13) rfl) ?_
    refine G_aload_n 0 rfl rfl (ck dc282 (i := 14) rfl) ?_
    refine H_getI mf282 (ck dc282 (i := 15) rfl) fw_Model_206 (Or.inl fc11_9) ly52 ra52 (x := (M3 52 9)) rfl ?_
    refine G_iload_n 1 rfl rfl (ck dc282 (i := 16) rfl) ?_
    refine G_iload 3 rfl (ck dc282 (i := 17) rfl) ?_
    refine H_vL mf282 (As := [.inl (M3 52 9), .inl l1, .inl l4]) (st := [.inr (.inl r2), .inr (.inl l2)]) (ck dc282 (i := 18) rfl) lk_Model_199 rfl rfl (Nat.le_of_ble_eq_true rfl) ly52 ra52 ⟨Nat.le_refl _, Nat.le_refl _⟩ h (fun r5 M6 h => ?_)
    refine G_lmul (ck dc282 (i := 19) rfl) ?_
    refine G_ladd (ck dc282 (i := 20) rfl) ?_
    refine G_lstore_n (L' := [(2, .inr (.inl (l2 + (r2 * r5)))), (0, .inr (.inr 52)), (1, .inl l1), (4, .inl l4)]) rfl (mfx.lt mf282 (Nat.le_of_ble_eq_true rfl)) rfl (ck dc282 (i := 21) rfl) ?_
    refine G_iinc (L' := [(4, .inl (l4 + 1)), (2, .inr (.inl (l2 + (r2 * r5)))), (0, .inr (.inr 52)), (1, .inl l1)]) 3 rfl (mfx.lt mf282 (Nat.le_of_ble_eq_true rfl)) rfl (ck dc282 (i := 22) rfl) ?_
    refine G_goto (tgt := 5) (by decide) (ck dc282 (i := 23) rfl) ?_
    exact G_sub [2, 3, 1, 0] rfl h
theorem c_m_writesNumber (K : Nat) (a1 : Int) (M : PM) (Q : Option PV → PM → Prop)
    (h : R64 a1 ∧ (a1 ≤ 9 → Call K jModel_writes [.inr (.inr 52), .inl (48 + (Int.tmod a1 10))] P0 P0 M (retV fun M3 => Q none M3)) ∧ (¬ a1 ≤ 9 → Call K jModel_writesNumber [.inr (.inr 52), .inr (.inl (Int.tdiv a1 10))] P0 P0 M (retV fun M5 => Call K jModel_writes [.inr (.inr 52), .inl (48 + (Int.tmod a1 10))] P0 P0 M5 (retV fun M7 => Q none M7)))) : Call (K + 1) jModel_writesNumber [.inr (.inr 52), .inr (.inl a1)] P0 P0 M Q := by
  refine Call.intro (by decide +kernel) (mfx.le mf283 (Nat.le_of_ble_eq_true rfl)) (Nat.le_refl _) rfl ?_
  refine G_lload_n 1 rfl rfl (ck dc283 (i := 0) rfl) ?_
  refine H_ldc2 mf283 (v := 9) (ck dc283 (i := 1) rfl) kl_Model_380 ?_
  obtain ⟨o1, h⟩ := h
  refine G_lif_le (tgt := 17) (ck dc283 (i := 3) rfl) (by decide) o1 (by decide) (ck dc283 (i := 2) rfl) (fun c => ?_) (fun c => ?_)
  · replace h := h.1 c
    refine G_aload_n 0 rfl rfl (ck dc283 (i := 9) rfl) ?_
    refine G_bipush (n := 48) rfl (ck dc283 (i := 10) rfl) ?_
    refine G_lload_n 1 rfl rfl (ck dc283 (i := 11) rfl) ?_
    refine H_ldc2 mf283 (v := 10) (ck dc283 (i := 12) rfl) kl_Model_90 ?_
    refine G_lrem o1 (by decide) (by decide) (ck dc283 (i := 13) rfl) ?_
    refine G_l2i (ck dc283 (i := 14) rfl) ?_
    refine G_iadd (ck dc283 (i := 15) rfl) ?_
    refine H_vV mf283 (As := [.inl (48 + (Int.tmod a1 10))]) (st := []) (ck dc283 (i := 16) rfl) lk_Model_386 rfl rfl (Nat.le_of_ble_eq_true rfl) ly52 ra52 ⟨Nat.le_refl _, Nat.le_refl _⟩ h (fun M3 h => ?_)
    exact H_vret mf283 (ck dc283 (i := 17) rfl) rfl h
  · replace h := h.2 c
    refine G_aload_n 0 rfl rfl (ck dc283 (i := 4) rfl) ?_
    refine G_lload_n 1 rfl rfl (ck dc283 (i := 5) rfl) ?_
    refine H_ldc2 mf283 (v := 10) (ck dc283 (i := 6) rfl) kl_Model_90 ?_
    refine G_ldiv o1 (by decide) (by decide) (ck dc283 (i := 7) rfl) ?_
    refine H_vV mf283 (As := [.inr (.inl (Int.tdiv a1 10))]) (st := []) (ck dc283 (i := 8) rfl) lk_Model_382 rfl rfl (Nat.le_of_ble_eq_true rfl) ly52 ra52 ⟨Nat.le_refl _, Nat.le_refl _⟩ h (fun M5 h => ?_)
    refine G_aload_n 0 rfl rfl (ck dc283 (i := 9) rfl) ?_
    refine G_bipush (n := 48) rfl (ck dc283 (i := 10) rfl) ?_
    refine G_lload_n 1 rfl rfl (ck dc283 (i := 11) rfl) ?_
    refine H_ldc2 mf283 (v := 10) (ck dc283 (i := 12) rfl) kl_Model_90 ?_
    refine G_lrem o1 (by decide) (by decide) (ck dc283 (i := 13) rfl) ?_
    refine G_l2i (ck dc283 (i := 14) rfl) ?_
    refine G_iadd (ck dc283 (i := 15) rfl) ?_
    refine H_vV mf283 (As := [.inl (48 + (Int.tmod a1 10))]) (st := []) (ck dc283 (i := 16) rfl) lk_Model_386 rfl rfl (Nat.le_of_ble_eq_true rfl) ly52 ra52 ⟨Nat.le_refl _, Nat.le_refl _⟩ h (fun M7 h => ?_)
    exact H_vret mf283 (ck dc283 (i := 17) rfl) rfl h
theorem c_m_spells (K : Nat) (a1 : Int) (M : PM) (Q : Option PV → PM → Prop)
    (h : R32 (M 52 32) ∧ ((M 52 32) ≤ 0 → G none (K + 1) jModel_spells 13 [(0, .inr (.inr 52)), (1, .inl a1)] [] P0 P0 M Q) ∧ (¬ (M 52 32) ≤ 0 → Call K jModel_writes [.inr (.inr 52), .inl 32] P0 P0 M (retV fun M3 => G none (K + 1) jModel_spells 13 [(0, .inr (.inr 52)), (1, .inl a1)] [] P0 P0 M3 Q))) : Call (K + 1) jModel_spells [.inr (.inr 52), .inl a1] P0 P0 M Q := by
  refine Call.intro (by decide +kernel) (mfx.le mf280 (Nat.le_of_ble_eq_true rfl)) (Nat.le_refl _) rfl ?_
  refine G_aload_n 0 rfl rfl (ck dc280 (i := 0) rfl) ?_
  refine H_getI mf280 (ck dc280 (i := 1) rfl) fw_Model_377 (Or.inl fc11_32) ly52 ra52 (x := (M 52 32)) rfl ?_
  obtain ⟨o1, h⟩ := h
  refine G_if_le (tgt := 13) (by decide) o1 (ck dc280 (i := 2) rfl) (fun c => ?_) (fun c => ?_)
  · replace h := h.1 c
    exact G_sub [0, 1] rfl h
  · replace h := h.2 c
    refine G_aload_n 0 rfl rfl (ck dc280 (i := 3) rfl) ?_
    refine G_bipush (n := 32) rfl (ck dc280 (i := 4) rfl) ?_
    refine H_vV mf280 (As := [.inl 32]) (st := []) (ck dc280 (i := 5) rfl) lk_Model_386 rfl rfl (Nat.le_of_ble_eq_true rfl) ly52 ra52 ⟨Nat.le_refl _, Nat.le_refl _⟩ h (fun M3 h => ?_)
    exact G_sub [0, 1] rfl h
set_option maxHeartbeats 20000000 in
theorem g_m_spells_13 (K : Nat) (l1 : Int) (M : PM) (Q : Option PV → PM → Prop)
    (h : Call K jModel_writes [.inr (.inr 52), .inl (97 + l1)] P0 P0 M (retV fun M2 => (0 ≤ l1 ∧ l1 < 5) ∧ Call K jModel_writes [.inr (.inr 52), .inl (48 + (M2 60 l1))] P0 P0 M2 (retV fun M5 => Call K jModel_writes [.inr (.inr 52), .inl 58] P0 P0 M5 (retV fun M7 => Call K jModel_paysAll [.inr (.inr 52), .inl l1] P0 P0 M7 (retL fun r8 M9 => (0 ≤ (M9 52 9) ∧ (M9 52 9) < 6) ∧ Call K jModel_lowest [.inr (.inl r8), .inr (.inl (M9 59 (M9 52 9))), .inl 0] P0 P0 M9 (retL fun r11 M12 => Call K jModel_writesNumber [.inr (.inr 52), .inr (.inl r11)] P0 P0 M12 (retV fun M14 => (0 ≤ (M14 52 9) ∧ (M14 52 9) < 6) ∧ Call K jModel_lowest [.inr (.inl r8), .inr (.inl (M14 59 (M14 52 9))), .inl 1] P0 P0 M14 (retL fun r16 M17 => R64 r16 ∧ (r16 ≤ 1 → Q none M17) ∧ (¬ r16 ≤ 1 → Call K jModel_writes [.inr (.inr 52), .inl 47] P0 P0 M17 (retV fun M20 => Call K jModel_writesNumber [.inr (.inr 52), .inr (.inl r16)] P0 P0 M20 (retV fun M22 => Q none M22))))))))))) : G none (K + 1) jModel_spells 13 [(0, .inr (.inr 52)), (1, .inl l1)] [] P0 P0 M Q := by
  refine G_aload_n 0 rfl rfl (ck dc280 (i := 6) rfl) ?_
  refine G_bipush (n := 97) rfl (ck dc280 (i := 7) rfl) ?_
  refine G_iload_n 1 rfl rfl (ck dc280 (i := 8) rfl) ?_
  refine G_iadd (ck dc280 (i := 9) rfl) ?_
  refine H_vV mf280 (As := [.inl (97 + l1)]) (st := []) (ck dc280 (i := 10) rfl) lk_Model_386 rfl rfl (Nat.le_of_ble_eq_true rfl) ly52 ra52 ⟨Nat.le_refl _, Nat.le_refl _⟩ h (fun M2 h => ?_)
  refine G_aload_n 0 rfl rfl (ck dc280 (i := 11) rfl) ?_
  refine G_bipush (n := 48) rfl (ck dc280 (i := 12) rfl) ?_
  refine G_aload_n 0 rfl rfl (ck dc280 (i := 13) rfl) ?_
  refine H_getR mf280 (ck dc280 (i := 14) rfl) fw_Model_44 fc11_12 ly52 ra52 rf52_12 (by decide) ?_
  refine G_iload_n 1 rfl rfl (ck dc280 (i := 15) rfl) ?_
  obtain ⟨o3, h⟩ := h
  refine H_iald (ck dc280 (i := 16) rfl) ly60 (by decide) ra60 o3 (x := (M2 60 l1)) rfl ?_
  refine G_iadd (ck dc280 (i := 17) rfl) ?_
  refine H_vV mf280 (As := [.inl (48 + (M2 60 l1))]) (st := []) (ck dc280 (i := 18) rfl) lk_Model_386 rfl rfl (Nat.le_of_ble_eq_true rfl) ly52 ra52 ⟨Nat.le_refl _, Nat.le_refl _⟩ h (fun M5 h => ?_)
  refine G_aload_n 0 rfl rfl (ck dc280 (i := 19) rfl) ?_
  refine G_bipush (n := 58) rfl (ck dc280 (i := 20) rfl) ?_
  refine H_vV mf280 (As := [.inl 58]) (st := []) (ck dc280 (i := 21) rfl) lk_Model_386 rfl rfl (Nat.le_of_ble_eq_true rfl) ly52 ra52 ⟨Nat.le_refl _, Nat.le_refl _⟩ h (fun M7 h => ?_)
  refine G_aload_n 0 rfl rfl (ck dc280 (i := 22) rfl) ?_
  refine G_iload_n 1 rfl rfl (ck dc280 (i := 23) rfl) ?_
  refine H_vL mf280 (As := [.inl l1]) (st := []) (ck dc280 (i := 24) rfl) lk_Model_392 rfl rfl (Nat.le_of_ble_eq_true rfl) ly52 ra52 ⟨Nat.le_refl _, Nat.le_refl _⟩ h (fun r8 M9 h => ?_)
  refine G_lstore_n (L' := [(2, .inr (.inl r8)), (0, .inr (.inr 52)), (1, .inl l1)]) rfl (mfx.lt mf280 (Nat.le_of_ble_eq_true rfl)) rfl (ck dc280 (i := 25) rfl) ?_
  refine G_aload_n 1 rfl rfl (ck dc280 (i := 26) rfl) ?_
  refine G_lload_n 0 rfl rfl (ck dc280 (i := 27) rfl) ?_
  refine G_aload_n 1 rfl rfl (ck dc280 (i := 28) rfl) ?_
  refine H_getR mf280 (ck dc280 (i := 29) rfl) fw_Model_41 fc11_11 ly52 ra52 rf52_11 (by decide) ?_
  refine G_aload_n 1 rfl rfl (ck dc280 (i := 30) rfl) ?_
  refine H_getI mf280 (ck dc280 (i := 31) rfl) fw_Model_206 (Or.inl fc11_9) ly52 ra52 (x := (M9 52 9)) rfl ?_
  obtain ⟨o10, h⟩ := h
  refine H_lald (ck dc280 (i := 32) rfl) ly59 (by decide) ra59 o10 (x := (M9 59 (M9 52 9))) rfl ?_
  refine G_iconst (ck dc280 (i := 33) rfl) ?_
  refine H_sL mf280 (As := [.inr (.inl r8), .inr (.inl (M9 59 (M9 52 9))), .inl 0]) (st := [.inr (.inr 52)]) (ck dc280 (i := 34) rfl) lk_Model_242 rfl rfl (Nat.le_of_ble_eq_true rfl) ⟨Nat.le_refl _, Nat.le_refl _⟩ h (fun r11 M12 h => ?_)
  refine H_vV mf280 (As := [.inr (.inl r11)]) (st := []) (ck dc280 (i := 35) rfl) lk_Model_382 rfl rfl (Nat.le_of_ble_eq_true rfl) ly52 ra52 ⟨Nat.le_refl _, Nat.le_refl _⟩ h (fun M14 h => ?_)
  refine G_lload_n 0 rfl rfl (ck dc280 (i := 36) rfl) ?_
  refine G_aload_n 1 rfl rfl (ck dc280 (i := 37) rfl) ?_
  refine H_getR mf280 (ck dc280 (i := 38) rfl) fw_Model_41 fc11_11 ly52 ra52 rf52_11 (by decide) ?_
  refine G_aload_n 1 rfl rfl (ck dc280 (i := 39) rfl) ?_
  refine H_getI mf280 (ck dc280 (i := 40) rfl) fw_Model_206 (Or.inl fc11_9) ly52 ra52 (x := (M14 52 9)) rfl ?_
  obtain ⟨o15, h⟩ := h
  refine H_lald (ck dc280 (i := 41) rfl) ly59 (by decide) ra59 o15 (x := (M14 59 (M14 52 9))) rfl ?_
  refine G_iconst (ck dc280 (i := 42) rfl) ?_
  refine H_sL mf280 (As := [.inr (.inl r8), .inr (.inl (M14 59 (M14 52 9))), .inl 1]) (st := []) (ck dc280 (i := 43) rfl) lk_Model_242 rfl rfl (Nat.le_of_ble_eq_true rfl) ⟨Nat.le_refl _, Nat.le_refl _⟩ h (fun r16 M17 h => ?_)
  refine G_lstore (L' := [(4, .inr (.inl r16)), (2, .inr (.inl r8)), (0, .inr (.inr 52)), (1, .inl l1)]) (mfx.lt mf280 (Nat.le_of_ble_eq_true rfl)) rfl (ck dc280 (i := 44) rfl) ?_
  refine G_lload 0 rfl (ck dc280 (i := 45) rfl) ?_
  refine G_lconst (v := 1) rfl (ck dc280 (i := 46) rfl) ?_
  obtain ⟨o18, h⟩ := h
  refine G_lif_le (tgt := 99) (ck dc280 (i := 48) rfl) (by decide) o18 (by decide) (ck dc280 (i := 47) rfl) (fun c => ?_) (fun c => ?_)
  · replace h := h.1 c
    exact H_vret mf280 (ck dc280 (i := 55) rfl) rfl h
  · replace h := h.2 c
    refine G_aload_n 2 rfl rfl (ck dc280 (i := 49) rfl) ?_
    refine G_bipush (n := 47) rfl (ck dc280 (i := 50) rfl) ?_
    refine H_vV mf280 (As := [.inl 47]) (st := []) (ck dc280 (i := 51) rfl) lk_Model_386 rfl rfl (Nat.le_of_ble_eq_true rfl) ly52 ra52 ⟨Nat.le_refl _, Nat.le_refl _⟩ h (fun M20 h => ?_)
    refine G_aload_n 2 rfl rfl (ck dc280 (i := 52) rfl) ?_
    refine G_lload 0 rfl (ck dc280 (i := 53) rfl) ?_
    refine H_vV mf280 (As := [.inr (.inl r16)]) (st := []) (ck dc280 (i := 54) rfl) lk_Model_382 rfl rfl (Nat.le_of_ble_eq_true rfl) ly52 ra52 ⟨Nat.le_refl _, Nat.le_refl _⟩ h (fun M22 h => ?_)
    exact H_vret mf280 (ck dc280 (i := 55) rfl) rfl h
theorem c_m_spell (K : Nat) (M : PM) (Q : Option PV → PM → Prop)
    (h : Call K jModel_clears [.inr (.inr 52)] P0 P0 M (retV fun M2 => G none (K + 1) jModel_spell 11 [(0, .inr (.inr 52)), (1, .inl 1)] [] P0 P0 (mset M2 52 32 0) Q)) : Call (K + 1) jModel_spell [.inr (.inr 52)] P0 P0 M Q := by
  refine Call.intro (by decide +kernel) (mfx.le mf279 (Nat.le_of_ble_eq_true rfl)) (Nat.le_refl _) rfl ?_
  refine G_aload_n 0 rfl rfl (ck dc279 (i := 0) rfl) ?_
  refine H_vV mf279 (As := []) (st := []) (ck dc279 (i := 1) rfl) lk_Model_230 rfl rfl (Nat.le_of_ble_eq_true rfl) ly52 ra52 ⟨Nat.le_refl _, Nat.le_refl _⟩ h (fun M2 h => ?_)
  refine G_aload_n 0 rfl rfl (ck dc279 (i := 2) rfl) ?_
  refine G_iconst (ck dc279 (i := 3) rfl) ?_
  refine H_putI mf279 (ck dc279 (i := 4) rfl) fw_Model_377 fc11_32 ly52 ra52 (Or.inl rfl) ?_
  refine G_iconst (ck dc279 (i := 5) rfl) ?_
  refine G_istore_n (L' := [(1, .inl 1), (0, .inr (.inr 52))]) rfl (mfx.lt mf279 (Nat.le_of_ble_eq_true rfl)) rfl (ck dc279 (i := 6) rfl) ?_
  exact G_sub [1, 0] rfl h
theorem g_m_spell_11 (K : Nat) (l1 : Int) (M : PM) (Q : Option PV → PM → Prop)
    (h : R32 l1 ∧ R32 (M 52 9) ∧ ((M 52 9) < l1 → Q (some (.inl (M 52 32))) M) ∧ (¬ (M 52 9) < l1 → G none (K + 1) jModel_spell 21 [(0, .inr (.inr 52)), (1, .inl l1), (2, .inl 0)] [] P0 P0 M Q)) : G none (K + 1) jModel_spell 11 [(0, .inr (.inr 52)), (1, .inl l1)] [] P0 P0 M Q := by
  refine G_iload_n 1 rfl rfl (ck dc279 (i := 7) rfl) ?_
  refine G_aload_n 0 rfl rfl (ck dc279 (i := 8) rfl) ?_
  refine H_getI mf279 (ck dc279 (i := 9) rfl) fw_Model_206 (Or.inl fc11_9) ly52 ra52 (x := (M 52 9)) rfl ?_
  obtain ⟨o1, h⟩ := h
  obtain ⟨o2, h⟩ := h
  refine G_icmp_gt (tgt := 58) (by decide) o1 o2 (ck dc279 (i := 10) rfl) (fun c => ?_) (fun c => ?_)
  · replace h := h.1 c
    refine G_aload_n 0 rfl rfl (ck dc279 (i := 32) rfl) ?_
    refine H_getI mf279 (ck dc279 (i := 33) rfl) fw_Model_377 (Or.inl fc11_32) ly52 ra52 (x := (M 52 32)) rfl ?_
    exact H_iretI mf279 (ck dc279 (i := 34) rfl) rfl h
  · replace h := h.2 c
    refine G_iconst (ck dc279 (i := 11) rfl) ?_
    refine G_istore_n (L' := [(2, .inl 0), (0, .inr (.inr 52)), (1, .inl l1)]) rfl (mfx.lt mf279 (Nat.le_of_ble_eq_true rfl)) rfl (ck dc279 (i := 12) rfl) ?_
    exact G_sub [1, 2, 0] rfl h
theorem g_m_spell_21 (K : Nat) (l1 l2 : Int) (M : PM) (Q : Option PV → PM → Prop)
    (h : R32 l2 ∧ R32 (M 55 0) ∧ ((M 55 0) ≤ l2 → G none (K + 1) jModel_spell 11 [(0, .inr (.inr 52)), (1, .inl (l1 + 1))] [] P0 P0 M Q) ∧ (¬ (M 55 0) ≤ l2 → (0 ≤ l2 ∧ l2 < 5) ∧ R32 (M 60 l2) ∧ R32 l1 ∧ (¬ (M 60 l2) = l1 → G none (K + 1) jModel_spell 21 [(0, .inr (.inr 52)), (1, .inl l1), (2, .inl (l2 + 1))] [] P0 P0 M Q) ∧ ((M 60 l2) = l1 → Call K jModel_spells [.inr (.inr 52), .inl l2] P0 P0 M (retV fun M7 => G none (K + 1) jModel_spell 21 [(0, .inr (.inr 52)), (1, .inl l1), (2, .inl (l2 + 1))] [] P0 P0 M7 Q)))) : G none (K + 1) jModel_spell 21 [(0, .inr (.inr 52)), (1, .inl l1), (2, .inl l2)] [] P0 P0 M Q := by
  refine G_iload_n 2 rfl rfl (ck dc279 (i := 13) rfl) ?_
  refine G_aload_n 0 rfl rfl (ck dc279 (i := 14) rfl) ?_
  refine H_getR mf279 (ck dc279 (i := 15) rfl) fw_Model_5 fc11_3 ly52 ra52 rf52_3 (by decide) ?_
  refine G_iconst (ck dc279 (i := 16) rfl) ?_
  refine H_iald (ck dc279 (i := 17) rfl) ly55 (by decide) ra55 (by decide) (x := (M 55 0)) rfl ?_
  obtain ⟨o1, h⟩ := h
  obtain ⟨o2, h⟩ := h
  refine G_icmp_ge (tgt := 52) (by decide) o1 o2 (ck dc279 (i := 18) rfl) (fun c => ?_) (fun c => ?_)
  · replace h := h.1 c
    refine G_iinc (L' := [(1, .inl (l1 + 1)), (0, .inr (.inr 52)), (2, .inl l2)]) 1 rfl (mfx.lt mf279 (Nat.le_of_ble_eq_true rfl)) rfl (ck dc279 (i := 30) rfl) ?_
    refine G_goto (tgt := 11) (by decide) (ck dc279 (i := 31) rfl) ?_
    exact G_sub [1, 0] rfl h
  · replace h := h.2 c
    refine G_aload_n 0 rfl rfl (ck dc279 (i := 19) rfl) ?_
    refine H_getR mf279 (ck dc279 (i := 20) rfl) fw_Model_44 fc11_12 ly52 ra52 rf52_12 (by decide) ?_
    refine G_iload_n 2 rfl rfl (ck dc279 (i := 21) rfl) ?_
    obtain ⟨o3, h⟩ := h
    refine H_iald (ck dc279 (i := 22) rfl) ly60 (by decide) ra60 o3 (x := (M 60 l2)) rfl ?_
    refine G_iload_n 1 rfl rfl (ck dc279 (i := 23) rfl) ?_
    obtain ⟨o4, h⟩ := h
    obtain ⟨o5, h⟩ := h
    refine G_icmp_ne (tgt := 46) (by decide) o4 o5 (ck dc279 (i := 24) rfl) (fun c => ?_) (fun c => ?_)
    · replace h := h.1 c
      refine G_iinc (L' := [(2, .inl (l2 + 1)), (0, .inr (.inr 52)), (1, .inl l1)]) 2 rfl (mfx.lt mf279 (Nat.le_of_ble_eq_true rfl)) rfl (ck dc279 (i := 28) rfl) ?_
      refine G_goto (tgt := 21) (by decide) (ck dc279 (i := 29) rfl) ?_
      exact G_sub [1, 2, 0] rfl h
    · replace h := h.2 c
      refine G_aload_n 0 rfl rfl (ck dc279 (i := 25) rfl) ?_
      refine G_iload_n 2 rfl rfl (ck dc279 (i := 26) rfl) ?_
      refine H_vV mf279 (As := [.inl l2]) (st := []) (ck dc279 (i := 27) rfl) lk_Model_389 rfl rfl (Nat.le_of_ble_eq_true rfl) ly52 ra52 ⟨Nat.le_refl _, Nat.le_refl _⟩ h (fun M7 h => ?_)
      refine G_iinc (L' := [(2, .inl (l2 + 1)), (0, .inr (.inr 52)), (1, .inl l1)]) 2 rfl (mfx.lt mf279 (Nat.le_of_ble_eq_true rfl)) rfl (ck dc279 (i := 28) rfl) ?_
      refine G_goto (tgt := 21) (by decide) (ck dc279 (i := 29) rfl) ?_
      exact G_sub [1, 2, 0] rfl h
theorem c_m_paper (K : Nat) (a1 : Int) (M : PM) (Q : Option PV → PM → Prop)
    (h : R32 a1 ∧ R32 ((M 52 32) - 1) ∧ Call K jModel_within [.inr (.inl a1), .inr (.inl 0), .inr (.inl ((M 52 32) - 1))] P0 P0 M (retI fun r3 M4 => R32 r3 ∧ (r3 = 0 → Q (some (.inl (-1))) M4) ∧ (¬ r3 = 0 → (0 ≤ a1 ∧ a1 < 320) ∧ Q (some (.inl (M4 71 a1))) M4))) : Call (K + 1) jModel_paper [.inr (.inr 52), .inl a1] P0 P0 M Q := by
  refine Call.intro (by decide +kernel) (mfx.le mf284 (Nat.le_of_ble_eq_true rfl)) (Nat.le_refl _) rfl ?_
  refine G_iload_n 1 rfl rfl (ck dc284 (i := 0) rfl) ?_
  obtain ⟨o1, h⟩ := h
  refine G_i2l o1 (ck dc284 (i := 1) rfl) ?_
  refine G_lconst (v := 0) rfl (ck dc284 (i := 2) rfl) ?_
  refine G_aload_n 0 rfl rfl (ck dc284 (i := 3) rfl) ?_
  refine H_getI mf284 (ck dc284 (i := 4) rfl) fw_Model_377 (Or.inl fc11_32) ly52 ra52 (x := (M 52 32)) rfl ?_
  refine G_iconst (ck dc284 (i := 5) rfl) ?_
  refine G_isub (ck dc284 (i := 6) rfl) ?_
  obtain ⟨o2, h⟩ := h
  refine G_i2l o2 (ck dc284 (i := 7) rfl) ?_
  refine H_sZ mf284 (As := [.inr (.inl a1), .inr (.inl 0), .inr (.inl ((M 52 32) - 1))]) (st := []) (ck dc284 (i := 8) rfl) lk_Model_9 rfl rfl (Nat.le_of_ble_eq_true rfl) ⟨Nat.le_refl _, Nat.le_refl _⟩ h (fun r3 M4 h => ?_)
  obtain ⟨o5, h⟩ := h
  refine G_if_eq (tgt := 25) (by decide) o5 (ck dc284 (i := 9) rfl) (fun c => ?_) (fun c => ?_)
  · replace h := h.1 c
    refine G_iconst (ck dc284 (i := 15) rfl) ?_
    exact H_iretI mf284 (ck dc284 (i := 16) rfl) rfl h
  · replace h := h.2 c
    refine G_aload_n 0 rfl rfl (ck dc284 (i := 10) rfl) ?_
    refine H_getR mf284 (ck dc284 (i := 11) rfl) fw_Model_77 fc11_31 ly52 ra52 rf52_31 (by decide) ?_
    refine G_iload_n 1 rfl rfl (ck dc284 (i := 12) rfl) ?_
    obtain ⟨o6, h⟩ := h
    refine H_iald (ck dc284 (i := 13) rfl) ly71 (by decide) ra71 o6 (x := (M4 71 a1)) rfl ?_
    refine G_goto (tgt := 26) (by decide) (ck dc284 (i := 14) rfl) ?_
    exact H_iretI mf284 (ck dc284 (i := 16) rfl) rfl h
theorem c_m_cashOfAll (K : Nat) (M : PM) (Q : Option PV → PM → Prop)
    (h : G none (K + 1) jModel_cashOfAll 4 [(0, .inr (.inr 52)), (1, .inl 0), (2, .inl 0)] [] P0 P0 M Q) : Call (K + 1) jModel_cashOfAll [.inr (.inr 52)] P0 P0 M Q := by
  refine Call.intro (by decide +kernel) (mfx.le mf286 (Nat.le_of_ble_eq_true rfl)) (Nat.le_refl _) rfl ?_
  refine G_iconst (ck dc286 (i := 0) rfl) ?_
  refine G_istore_n (L' := [(1, .inl 0), (0, .inr (.inr 52))]) rfl (mfx.lt mf286 (Nat.le_of_ble_eq_true rfl)) rfl (ck dc286 (i := 1) rfl) ?_
  refine G_iconst (ck dc286 (i := 2) rfl) ?_
  refine G_istore_n (L' := [(2, .inl 0), (1, .inl 0), (0, .inr (.inr 52))]) rfl (mfx.lt mf286 (Nat.le_of_ble_eq_true rfl)) rfl (ck dc286 (i := 3) rfl) ?_
  exact G_sub [2, 1, 0] rfl h
theorem g_m_cashOfAll_4 (K : Nat) (l1 l2 : Int) (M : PM) (Q : Option PV → PM → Prop)
    (h : R32 l2 ∧ (5 ≤ l2 → Q (some (.inl l1)) M) ∧ (¬ 5 ≤ l2 → (0 ≤ (3 + l2) ∧ (3 + l2) < 83) ∧ G none (K + 1) jModel_cashOfAll 4 [(0, .inr (.inr 52)), (1, .inl (l1 + (M 55 (3 + l2)))), (2, .inl (l2 + 1))] [] P0 P0 M Q)) : G none (K + 1) jModel_cashOfAll 4 [(0, .inr (.inr 52)), (1, .inl l1), (2, .inl l2)] [] P0 P0 M Q := by
  refine G_iload_n 2 rfl rfl (ck dc286 (i := 4) rfl) ?_
  refine G_iconst (ck dc286 (i := 5) rfl) ?_
  obtain ⟨o1, h⟩ := h
  refine G_icmp_ge (tgt := 26) (by decide) o1 (by decide) (ck dc286 (i := 6) rfl) (fun c => ?_) (fun c => ?_)
  · replace h := h.1 c
    refine G_iload_n 1 rfl rfl (ck dc286 (i := 18) rfl) ?_
    exact H_iretI mf286 (ck dc286 (i := 19) rfl) rfl h
  · replace h := h.2 c
    refine G_iload_n 1 rfl rfl (ck dc286 (i := 7) rfl) ?_
    refine G_aload_n 0 rfl rfl (ck dc286 (i := 8) rfl) ?_
    refine H_getR mf286 (ck dc286 (i := 9) rfl) fw_Model_5 fc11_3 ly52 ra52 rf52_3 (by decide) ?_
    refine G_iconst (ck dc286 (i := 10) rfl) ?_
    refine G_iload_n 2 rfl rfl (ck dc286 (i := 11) rfl) ?_
    refine G_iadd (ck dc286 (i := 12) rfl) ?_
    obtain ⟨o2, h⟩ := h
    refine H_iald (ck dc286 (i := 13) rfl) ly55 (by decide) ra55 o2 (x := (M 55 (3 + l2))) rfl ?_
    refine G_iadd (ck dc286 (i := 14) rfl) ?_
    refine G_istore_n (L' := [(1, .inl (l1 + (M 55 (3 + l2)))), (0, .inr (.inr 52)), (2, .inl l2)]) rfl (mfx.lt mf286 (Nat.le_of_ble_eq_true rfl)) rfl (ck dc286 (i := 15) rfl) ?_
    refine G_iinc (L' := [(2, .inl (l2 + 1)), (1, .inl (l1 + (M 55 (3 + l2)))), (0, .inr (.inr 52))]) 2 rfl (mfx.lt mf286 (Nat.le_of_ble_eq_true rfl)) rfl (ck dc286 (i := 16) rfl) ?_
    refine G_goto (tgt := 4) (by decide) (ck dc286 (i := 17) rfl) ?_
    exact G_sub [2, 1, 0] rfl h
theorem c_m_owedOfAll (K : Nat) (a1 : Int) (M : PM) (Q : Option PV → PM → Prop)
    (h : G none (K + 1) jModel_owedOfAll 5 [(0, .inr (.inr 52)), (1, .inl a1), (2, .inl 0), (3, .inl 8)] [] P0 P0 M Q) : Call (K + 1) jModel_owedOfAll [.inr (.inr 52), .inl a1] P0 P0 M Q := by
  refine Call.intro (by decide +kernel) (mfx.le mf287 (Nat.le_of_ble_eq_true rfl)) (Nat.le_refl _) rfl ?_
  refine G_iconst (ck dc287 (i := 0) rfl) ?_
  refine G_istore_n (L' := [(2, .inl 0), (0, .inr (.inr 52)), (1, .inl a1)]) rfl (mfx.lt mf287 (Nat.le_of_ble_eq_true rfl)) rfl (ck dc287 (i := 1) rfl) ?_
  refine G_bipush (n := 8) rfl (ck dc287 (i := 2) rfl) ?_
  refine G_istore_n (L' := [(3, .inl 8), (2, .inl 0), (0, .inr (.inr 52)), (1, .inl a1)]) rfl (mfx.lt mf287 (Nat.le_of_ble_eq_true rfl)) rfl (ck dc287 (i := 3) rfl) ?_
  exact G_sub [2, 3, 1, 0] rfl h
theorem g_m_owedOfAll_5 (K : Nat) (l1 l2 l3 : Int) (M : PM) (Q : Option PV → PM → Prop)
    (h : R32 l3 ∧ (83 ≤ l3 → Q (some (.inl l2)) M) ∧ (¬ 83 ≤ l3 → R32 l1 ∧ (l1 = 0 → (0 ≤ l3 ∧ l3 < 83) ∧ G none (K + 1) jModel_owedOfAll 5 [(0, .inr (.inr 52)), (1, .inl l1), (2, .inl (l2 + (M 55 l3))), (3, .inl (l3 + 1))] [] P0 P0 M Q) ∧ (¬ l1 = 0 → (0 ≤ l3 ∧ l3 < 83) ∧ R32 (M 55 l3) ∧ G none (K + 1) jModel_owedOfAll 5 [(0, .inr (.inr 52)), (1, .inl l1), (2, .inl (l2 + (mn2 1 (M 55 l3)))), (3, .inl (l3 + 1))] [] P0 P0 M Q))) : G none (K + 1) jModel_owedOfAll 5 [(0, .inr (.inr 52)), (1, .inl l1), (2, .inl l2), (3, .inl l3)] [] P0 P0 M Q := by
  refine G_iload_n 3 rfl rfl (ck dc287 (i := 4) rfl) ?_
  refine G_bipush (n := 83) rfl (ck dc287 (i := 5) rfl) ?_
  obtain ⟨o1, h⟩ := h
  refine G_icmp_ge (tgt := 43) (by decide) o1 (by decide) (ck dc287 (i := 6) rfl) (fun c => ?_) (fun c => ?_)
  · replace h := h.1 c
    refine G_iload_n 2 rfl rfl (ck dc287 (i := 25) rfl) ?_
    exact H_iretI mf287 (ck dc287 (i := 26) rfl) rfl h
  · replace h := h.2 c
    refine G_iload_n 2 rfl rfl (ck dc287 (i := 7) rfl) ?_
    refine G_iload_n 1 rfl rfl (ck dc287 (i := 8) rfl) ?_
    obtain ⟨o2, h⟩ := h
    refine G_if_eq (tgt := 29) (by decide) o2 (ck dc287 (i := 9) rfl) (fun c => ?_) (fun c => ?_)
    · replace h := h.1 c
      refine G_aload_n 0 rfl rfl (ck dc287 (i := 17) rfl) ?_
      refine H_getR mf287 (ck dc287 (i := 18) rfl) fw_Model_5 fc11_3 ly52 ra52 rf52_3 (by decide) ?_
      refine G_iload_n 3 rfl rfl (ck dc287 (i := 19) rfl) ?_
      obtain ⟨o3, h⟩ := h
      refine H_iald (ck dc287 (i := 20) rfl) ly55 (by decide) ra55 o3 (x := (M 55 l3)) rfl ?_
      refine G_iadd (ck dc287 (i := 21) rfl) ?_
      refine G_istore_n (L' := [(2, .inl (l2 + (M 55 l3))), (0, .inr (.inr 52)), (1, .inl l1), (3, .inl l3)]) rfl (mfx.lt mf287 (Nat.le_of_ble_eq_true rfl)) rfl (ck dc287 (i := 22) rfl) ?_
      refine G_iinc (L' := [(3, .inl (l3 + 1)), (2, .inl (l2 + (M 55 l3))), (0, .inr (.inr 52)), (1, .inl l1)]) 3 rfl (mfx.lt mf287 (Nat.le_of_ble_eq_true rfl)) rfl (ck dc287 (i := 23) rfl) ?_
      refine G_goto (tgt := 5) (by decide) (ck dc287 (i := 24) rfl) ?_
      exact G_sub [2, 3, 1, 0] rfl h
    · replace h := h.2 c
      refine G_iconst (ck dc287 (i := 10) rfl) ?_
      refine G_aload_n 0 rfl rfl (ck dc287 (i := 11) rfl) ?_
      refine H_getR mf287 (ck dc287 (i := 12) rfl) fw_Model_5 fc11_3 ly52 ra52 rf52_3 (by decide) ?_
      refine G_iload_n 3 rfl rfl (ck dc287 (i := 13) rfl) ?_
      obtain ⟨o4, h⟩ := h
      refine H_iald (ck dc287 (i := 14) rfl) ly55 (by decide) ra55 o4 (x := (M 55 l3)) rfl ?_
      obtain ⟨o5, h⟩ := h
      refine H_mmin mf287 (ck dc287 (i := 15) rfl) lm_Model_146 (Nat.le_refl _) (Nat.le_of_ble_eq_true rfl) (by decide) o5 ?_
      refine G_goto (tgt := 35) (by decide) (ck dc287 (i := 16) rfl) ?_
      refine G_iadd (ck dc287 (i := 21) rfl) ?_
      refine G_istore_n (L' := [(2, .inl (l2 + (mn2 1 (M 55 l3)))), (0, .inr (.inr 52)), (1, .inl l1), (3, .inl l3)]) rfl (mfx.lt mf287 (Nat.le_of_ble_eq_true rfl)) rfl (ck dc287 (i := 22) rfl) ?_
      refine G_iinc (L' := [(3, .inl (l3 + 1)), (2, .inl (l2 + (mn2 1 (M 55 l3)))), (0, .inr (.inr 52)), (1, .inl l1)]) 3 rfl (mfx.lt mf287 (Nat.le_of_ble_eq_true rfl)) rfl (ck dc287 (i := 23) rfl) ?_
      refine G_goto (tgt := 5) (by decide) (ck dc287 (i := 24) rfl) ?_
      exact G_sub [2, 3, 1, 0] rfl h
set_option maxHeartbeats 20000000 in
theorem c_m_count (K : Nat) (a1 : Int) (M : PM) (Q : Option PV → PM → Prop)
    (h : R32 a1 ∧ Call K jModel_within [.inr (.inl a1), .inr (.inl 10), .inr (.inl 14)] P0 P0 M (retI fun r2 M3 => R32 r2 ∧ (r2 = 0 → Call K jModel_within [.inr (.inl a1), .inr (.inl 20), .inr (.inl 34)] P0 P0 M3 (retI fun r5 M6 => R32 r5 ∧ (r5 = 0 → ((a1 < 0 ∨ 7 < a1) → Q (some (.inl (-1))) M6) ∧ (a1 = 0 → Q (some (.inl (M6 55 0))) M6) ∧ (a1 = 1 → Q (some (.inl (M6 55 1))) M6) ∧ (a1 = 2 → Q (some (.inl (M6 55 2))) M6) ∧ (a1 = 3 → Call K jModel_cashOfAll [.inr (.inr 52)] P0 P0 M6 (retI fun r8 M9 => Q (some (.inl r8)) M9)) ∧ (a1 = 4 → Call K jModel_owedOfAll [.inr (.inr 52), .inl 0] P0 P0 M6 (retI fun r10 M11 => Q (some (.inl r10)) M11)) ∧ (a1 = 5 → Q (some (.inl (M6 52 6))) M6) ∧ (a1 = 6 → Q (some (.inl (M6 52 32))) M6) ∧ (a1 = 7 → Call K jModel_owedOfAll [.inr (.inr 52), .inl 1] P0 P0 M6 (retI fun r12 M13 => Q (some (.inl r12)) M13))) ∧ (¬ r5 = 0 → R32 (a1 - 20) ∧ Call K jModel_isHouse [.inr (.inr 52), .inl (Int.tdiv (a1 - 20) 3)] P0 P0 M6 (retI fun r15 M16 => R32 r15 ∧ (r15 = 0 → Q (some (.inl (-1))) M16) ∧ (¬ r15 = 0 → Call K jModel_due [.inr (.inr 52), .inl (Int.tdiv (a1 - 20) 3), .inl (Int.tmod (a1 - 20) 3)] P0 P0 M16 (retI fun r18 M19 => Q (some (.inl r18)) M19)))))) ∧ (¬ r2 = 0 → Call K jModel_isHouse [.inr (.inr 52), .inl (a1 - 10)] P0 P0 M3 (retI fun r20 M21 => R32 r20 ∧ (r20 = 0 → Q (some (.inl (-1))) M21) ∧ (¬ r20 = 0 → (0 ≤ ((3 + a1) - 10) ∧ ((3 + a1) - 10) < 83) ∧ Q (some (.inl (M21 55 ((3 + a1) - 10)))) M21))))) : Call (K + 1) jModel_count [.inr (.inr 52), .inl a1] P0 P0 M Q := by
  refine Call.intro (by decide +kernel) (mfx.le mf285 (Nat.le_of_ble_eq_true rfl)) (Nat.le_refl _) rfl ?_
  refine G_iload_n 1 rfl rfl (ck dc285 (i := 0) rfl) ?_
  obtain ⟨o1, h⟩ := h
  refine G_i2l o1 (ck dc285 (i := 1) rfl) ?_
  refine H_ldc2 mf285 (v := 10) (ck dc285 (i := 2) rfl) kl_Model_90 ?_
  refine H_ldc2 mf285 (v := 14) (ck dc285 (i := 3) rfl) kl_Model_395 ?_
  refine H_sZ mf285 (As := [.inr (.inl a1), .inr (.inl 10), .inr (.inl 14)]) (st := []) (ck dc285 (i := 4) rfl) lk_Model_9 rfl rfl (Nat.le_of_ble_eq_true rfl) ⟨Nat.le_refl _, Nat.le_refl _⟩ h (fun r2 M3 h => ?_)
  obtain ⟨o4, h⟩ := h
  refine G_if_eq (tgt := 41) (by decide) o4 (ck dc285 (i := 5) rfl) (fun c => ?_) (fun c => ?_)
  · replace h := h.1 c
    refine G_iload_n 1 rfl rfl (ck dc285 (i := 23) rfl) ?_
    refine G_i2l o1 (ck dc285 (i := 24) rfl) ?_
    refine H_ldc2 mf285 (v := 20) (ck dc285 (i := 25) rfl) kl_Model_124 ?_
    refine H_ldc2 mf285 (v := 34) (ck dc285 (i := 26) rfl) kl_Model_397 ?_
    refine H_sZ mf285 (As := [.inr (.inl a1), .inr (.inl 20), .inr (.inl 34)]) (st := []) (ck dc285 (i := 27) rfl) lk_Model_9 rfl rfl (Nat.le_of_ble_eq_true rfl) ⟨Nat.le_refl _, Nat.le_refl _⟩ h (fun r5 M6 h => ?_)
    obtain ⟨o7, h⟩ := h
    refine G_if_eq (tgt := 86) (by decide) o7 (ck dc285 (i := 28) rfl) (fun c => ?_) (fun c => ?_)
    · replace h := h.1 c
      refine G_iload_n 1 rfl rfl (ck dc285 (i := 50) rfl) ?_
      by_cases q : (a1 < 0 ∨ 7 < a1)
      · replace h := h.1 q
        refine G_tsOut (tgt := 180) o1 q (by decide) (ck dc285 (i := 51) rfl) ?_
        refine G_iconst (ck dc285 (i := 84) rfl) ?_
        exact H_iretI mf285 (ck dc285 (i := 85) rfl) rfl h
      · replace h := h.2
        have q2 : a1 = 0 ∨ a1 = 1 ∨ a1 = 2 ∨ a1 = 3 ∨ a1 = 4 ∨ a1 = 5 ∨ a1 = 6 ∨ a1 = 7 := by omega
        rcases q2 with q2 | q2
        · replace h := h.1 q2
          refine G_tsIn (off := 45) (tgt := 132) o1 (by omega) (by omega) (by rw [q2]; rfl) (by decide) (ck dc285 (i := 51) rfl) ?_
          refine G_aload_n 0 rfl rfl (ck dc285 (i := 52) rfl) ?_
          refine H_getR mf285 (ck dc285 (i := 53) rfl) fw_Model_5 fc11_3 ly52 ra52 rf52_3 (by decide) ?_
          refine G_iconst (ck dc285 (i := 54) rfl) ?_
          refine H_iald (ck dc285 (i := 55) rfl) ly55 (by decide) ra55 (by decide) (x := (M6 55 0)) rfl ?_
          exact H_iretI mf285 (ck dc285 (i := 56) rfl) rfl h
        replace h := h.2
        rcases q2 with q2 | q2
        · replace h := h.1 q2
          refine G_tsIn (off := 52) (tgt := 139) o1 (by omega) (by omega) (by rw [q2]; rfl) (by decide) (ck dc285 (i := 51) rfl) ?_
          refine G_aload_n 0 rfl rfl (ck dc285 (i := 57) rfl) ?_
          refine H_getR mf285 (ck dc285 (i := 58) rfl) fw_Model_5 fc11_3 ly52 ra52 rf52_3 (by decide) ?_
          refine G_iconst (ck dc285 (i := 59) rfl) ?_
          refine H_iald (ck dc285 (i := 60) rfl) ly55 (by decide) ra55 (by decide) (x := (M6 55 1)) rfl ?_
          exact H_iretI mf285 (ck dc285 (i := 61) rfl) rfl h
        replace h := h.2
        rcases q2 with q2 | q2
        · replace h := h.1 q2
          refine G_tsIn (off := 59) (tgt := 146) o1 (by omega) (by omega) (by rw [q2]; rfl) (by decide) (ck dc285 (i := 51) rfl) ?_
          refine G_aload_n 0 rfl rfl (ck dc285 (i := 62) rfl) ?_
          refine H_getR mf285 (ck dc285 (i := 63) rfl) fw_Model_5 fc11_3 ly52 ra52 rf52_3 (by decide) ?_
          refine G_iconst (ck dc285 (i := 64) rfl) ?_
          refine H_iald (ck dc285 (i := 65) rfl) ly55 (by decide) ra55 (by decide) (x := (M6 55 2)) rfl ?_
          exact H_iretI mf285 (ck dc285 (i := 66) rfl) rfl h
        replace h := h.2
        rcases q2 with q2 | q2
        · replace h := h.1 q2
          refine G_tsIn (off := 66) (tgt := 153) o1 (by omega) (by omega) (by rw [q2]; rfl) (by decide) (ck dc285 (i := 51) rfl) ?_
          refine G_aload_n 0 rfl rfl (ck dc285 (i := 67) rfl) ?_
          refine H_vI mf285 (As := []) (st := []) (ck dc285 (i := 68) rfl) lk_Model_399 rfl rfl (Nat.le_of_ble_eq_true rfl) ly52 ra52 ⟨Nat.le_refl _, Nat.le_refl _⟩ h (fun r8 M9 h => ?_)
          exact H_iretI mf285 (ck dc285 (i := 69) rfl) rfl h
        replace h := h.2
        rcases q2 with q2 | q2
        · replace h := h.1 q2
          refine G_tsIn (off := 71) (tgt := 158) o1 (by omega) (by omega) (by rw [q2]; rfl) (by decide) (ck dc285 (i := 51) rfl) ?_
          refine G_aload_n 0 rfl rfl (ck dc285 (i := 70) rfl) ?_
          refine G_iconst (ck dc285 (i := 71) rfl) ?_
          refine H_vI mf285 (As := [.inl 0]) (st := []) (ck dc285 (i := 72) rfl) lk_Model_402 rfl rfl (Nat.le_of_ble_eq_true rfl) ly52 ra52 ⟨Nat.le_refl _, Nat.le_refl _⟩ h (fun r10 M11 h => ?_)
          exact H_iretI mf285 (ck dc285 (i := 73) rfl) rfl h
        replace h := h.2
        rcases q2 with q2 | q2
        · replace h := h.1 q2
          refine G_tsIn (off := 77) (tgt := 164) o1 (by omega) (by omega) (by rw [q2]; rfl) (by decide) (ck dc285 (i := 51) rfl) ?_
          refine G_aload_n 0 rfl rfl (ck dc285 (i := 74) rfl) ?_
          refine H_getI mf285 (ck dc285 (i := 75) rfl) fw_Model_128 (Or.inl fc11_6) ly52 ra52 (x := (M6 52 6)) rfl ?_
          exact H_iretI mf285 (ck dc285 (i := 76) rfl) rfl h
        replace h := h.2
        rcases q2 with q2 | q2
        · replace h := h.1 q2
          refine G_tsIn (off := 82) (tgt := 169) o1 (by omega) (by omega) (by rw [q2]; rfl) (by decide) (ck dc285 (i := 51) rfl) ?_
          refine G_aload_n 0 rfl rfl (ck dc285 (i := 77) rfl) ?_
          refine H_getI mf285 (ck dc285 (i := 78) rfl) fw_Model_377 (Or.inl fc11_32) ly52 ra52 (x := (M6 52 32)) rfl ?_
          exact H_iretI mf285 (ck dc285 (i := 79) rfl) rfl h
        replace h := h.2
        · replace h := h q2
          refine G_tsIn (off := 87) (tgt := 174) o1 (by omega) (by omega) (by rw [q2]; rfl) (by decide) (ck dc285 (i := 51) rfl) ?_
          refine G_aload_n 0 rfl rfl (ck dc285 (i := 80) rfl) ?_
          refine G_iconst (ck dc285 (i := 81) rfl) ?_
          refine H_vI mf285 (As := [.inl 1]) (st := []) (ck dc285 (i := 82) rfl) lk_Model_402 rfl rfl (Nat.le_of_ble_eq_true rfl) ly52 ra52 ⟨Nat.le_refl _, Nat.le_refl _⟩ h (fun r12 M13 h => ?_)
          exact H_iretI mf285 (ck dc285 (i := 83) rfl) rfl h
    · replace h := h.2 c
      refine G_iload_n 1 rfl rfl (ck dc285 (i := 29) rfl) ?_
      refine G_bipush (n := 20) rfl (ck dc285 (i := 30) rfl) ?_
      refine G_isub (ck dc285 (i := 31) rfl) ?_
      refine G_iconst (ck dc285 (i := 32) rfl) ?_
      obtain ⟨o14, h⟩ := h
      refine G_idiv o14 (by decide) (by decide) (ck dc285 (i := 33) rfl) ?_
      refine G_istore_n (L' := [(2, .inl (Int.tdiv (a1 - 20) 3)), (0, .inr (.inr 52)), (1, .inl a1)]) rfl (mfx.lt mf285 (Nat.le_of_ble_eq_true rfl)) rfl (ck dc285 (i := 34) rfl) ?_
      refine G_aload_n 1 rfl rfl (ck dc285 (i := 35) rfl) ?_
      refine G_iload_n 0 rfl rfl (ck dc285 (i := 36) rfl) ?_
      refine H_vZ mf285 (As := [.inl (Int.tdiv (a1 - 20) 3)]) (st := []) (ck dc285 (i := 37) rfl) lk_Model_13 rfl rfl (Nat.le_of_ble_eq_true rfl) ly52 ra52 ⟨Nat.le_refl _, Nat.le_refl _⟩ h (fun r15 M16 h => ?_)
      obtain ⟨o17, h⟩ := h
      refine G_if_eq (tgt := 84) (by decide) o17 (ck dc285 (i := 38) rfl) (fun c => ?_) (fun c => ?_)
      · replace h := h.1 c
        refine G_iconst (ck dc285 (i := 48) rfl) ?_
        exact H_iretI mf285 (ck dc285 (i := 49) rfl) rfl h
      · replace h := h.2 c
        refine G_aload_n 1 rfl rfl (ck dc285 (i := 39) rfl) ?_
        refine G_iload_n 0 rfl rfl (ck dc285 (i := 40) rfl) ?_
        refine G_iload_n 2 rfl rfl (ck dc285 (i := 41) rfl) ?_
        refine G_bipush (n := 20) rfl (ck dc285 (i := 42) rfl) ?_
        refine G_isub (ck dc285 (i := 43) rfl) ?_
        refine G_iconst (ck dc285 (i := 44) rfl) ?_
        refine G_irem o14 (by decide) (by decide) (ck dc285 (i := 45) rfl) ?_
        refine H_vI mf285 (As := [.inl (Int.tdiv (a1 - 20) 3), .inl (Int.tmod (a1 - 20) 3)]) (st := []) (ck dc285 (i := 46) rfl) lk_Model_106 rfl rfl (Nat.le_of_ble_eq_true rfl) ly52 ra52 ⟨Nat.le_refl _, Nat.le_refl _⟩ h (fun r18 M19 h => ?_)
        refine G_goto (tgt := 85) (by decide) (ck dc285 (i := 47) rfl) ?_
        exact H_iretI mf285 (ck dc285 (i := 49) rfl) rfl h
  · replace h := h.2 c
    refine G_aload_n 0 rfl rfl (ck dc285 (i := 6) rfl) ?_
    refine G_iload_n 1 rfl rfl (ck dc285 (i := 7) rfl) ?_
    refine G_bipush (n := 10) rfl (ck dc285 (i := 8) rfl) ?_
    refine G_isub (ck dc285 (i := 9) rfl) ?_
    refine H_vZ mf285 (As := [.inl (a1 - 10)]) (st := []) (ck dc285 (i := 10) rfl) lk_Model_13 rfl rfl (Nat.le_of_ble_eq_true rfl) ly52 ra52 ⟨Nat.le_refl _, Nat.le_refl _⟩ h (fun r20 M21 h => ?_)
    obtain ⟨o22, h⟩ := h
    refine G_if_eq (tgt := 39) (by decide) o22 (ck dc285 (i := 11) rfl) (fun c => ?_) (fun c => ?_)
    · replace h := h.1 c
      refine G_iconst (ck dc285 (i := 21) rfl) ?_
      exact H_iretI mf285 (ck dc285 (i := 22) rfl) rfl h
    · replace h := h.2 c
      refine G_aload_n 0 rfl rfl (ck dc285 (i := 12) rfl) ?_
      refine H_getR mf285 (ck dc285 (i := 13) rfl) fw_Model_5 fc11_3 ly52 ra52 rf52_3 (by decide) ?_
      refine G_iconst (ck dc285 (i := 14) rfl) ?_
      refine G_iload_n 1 rfl rfl (ck dc285 (i := 15) rfl) ?_
      refine G_iadd (ck dc285 (i := 16) rfl) ?_
      refine G_bipush (n := 10) rfl (ck dc285 (i := 17) rfl) ?_
      refine G_isub (ck dc285 (i := 18) rfl) ?_
      obtain ⟨o23, h⟩ := h
      refine H_iald (ck dc285 (i := 19) rfl) ly55 (by decide) ra55 o23 (x := (M21 55 ((3 + a1) - 10))) rfl ?_
      refine G_goto (tgt := 40) (by decide) (ck dc285 (i := 20) rfl) ?_
      exact H_iretI mf285 (ck dc285 (i := 22) rfl) rfl h
theorem c_m_row (K : Nat) (a1 a2 : Int) (M : PM) (Q : Option PV → PM → Prop)
    (h : Call K jModel_isRow [.inl a1] P0 P0 M (retI fun r1 M2 => R32 r1 ∧ (¬ r1 = 0 → R32 a2 ∧ (a2 ≤ 20 → (0 ≤ a2 → (0 ≤ a1 ∧ a1 < 4) ∧ G none (K + 1) jModel_row 34 [(0, .inr (.inr 52)), (1, .inl a1), (2, .inl a2), (3, .inl 0)] [] P0 P0 (mset M2 73 a1 a2) Q) ∧ (¬ 0 ≤ a2 → Q (some (.inl (-14))) M2)) ∧ (¬ a2 ≤ 20 → Q (some (.inl (-2))) M2)) ∧ (r1 = 0 → Q (some (.inl (-1))) M2))) : Call (K + 1) jModel_row [.inr (.inr 52), .inl a1, .inl a2] P0 P0 M Q := by
  refine Call.intro (by decide +kernel) (mfx.le mf288 (Nat.le_of_ble_eq_true rfl)) (Nat.le_refl _) rfl ?_
  refine G_iload_n 1 rfl rfl (ck dc288 (i := 0) rfl) ?_
  refine H_sZ mf288 (As := [.inl a1]) (st := []) (ck dc288 (i := 1) rfl) lk_Model_318 rfl rfl (Nat.le_of_ble_eq_true rfl) ⟨Nat.le_refl _, Nat.le_refl _⟩ h (fun r1 M2 h => ?_)
  obtain ⟨o3, h⟩ := h
  refine G_if_ne (tgt := 9) (by decide) o3 (ck dc288 (i := 2) rfl) (fun c => ?_) (fun c => ?_)
  · replace h := h.1 c
    refine G_iload_n 2 rfl rfl (ck dc288 (i := 5) rfl) ?_
    refine G_bipush (n := 20) rfl (ck dc288 (i := 6) rfl) ?_
    obtain ⟨o4, h⟩ := h
    refine G_icmp_le (tgt := 18) (by decide) o4 (by decide) (ck dc288 (i := 7) rfl) (fun c => ?_) (fun c => ?_)
    · replace h := h.1 c
      refine G_iload_n 2 rfl rfl (ck dc288 (i := 10) rfl) ?_
      refine G_if_ge (tgt := 25) (by decide) o4 (ck dc288 (i := 11) rfl) (fun c => ?_) (fun c => ?_)
      · replace h := h.1 c
        refine G_aload_n 0 rfl rfl (ck dc288 (i := 14) rfl) ?_
        refine H_getR mf288 (ck dc288 (i := 15) rfl) fw_Model_83 fc11_34 ly52 ra52 rf52_34 (by decide) ?_
        refine G_iload_n 1 rfl rfl (ck dc288 (i := 16) rfl) ?_
        refine G_iload_n 2 rfl rfl (ck dc288 (i := 17) rfl) ?_
        obtain ⟨o5, h⟩ := h
        refine G_iast (ck dc288 (i := 18) rfl) ra73 ly73 (by decide) o5 ?_
        refine G_iconst (ck dc288 (i := 19) rfl) ?_
        refine G_istore_n (L' := [(3, .inl 0), (0, .inr (.inr 52)), (1, .inl a1), (2, .inl a2)]) rfl (mfx.lt mf288 (Nat.le_of_ble_eq_true rfl)) rfl (ck dc288 (i := 20) rfl) ?_
        exact G_sub [1, 2, 3, 0] rfl h
      · replace h := h.2 c
        refine G_bipush (n := (-14)) rfl (ck dc288 (i := 12) rfl) ?_
        exact H_iretI mf288 (ck dc288 (i := 13) rfl) rfl h
    · replace h := h.2 c
      refine G_bipush (n := (-2)) rfl (ck dc288 (i := 8) rfl) ?_
      exact H_iretI mf288 (ck dc288 (i := 9) rfl) rfl h
  · replace h := h.2 c
    refine G_iconst (ck dc288 (i := 3) rfl) ?_
    exact H_iretI mf288 (ck dc288 (i := 4) rfl) rfl h
theorem g_m_row_34 (K : Nat) (l1 l2 l3 : Int) (M : PM) (Q : Option PV → PM → Prop)
    (h : R32 l3 ∧ R32 l2 ∧ (l2 ≤ l3 → Q (some (.inl 1)) M) ∧ (¬ l2 ≤ l3 → (0 ≤ ((20 * l1) + l3) ∧ ((20 * l1) + l3) < 80) ∧ G none (K + 1) jModel_row 34 [(0, .inr (.inr 52)), (1, .inl l1), (2, .inl l2), (3, .inl (l3 + 1))] [] P0 P0 (mset M 72 ((20 * l1) + l3) 0) Q)) : G none (K + 1) jModel_row 34 [(0, .inr (.inr 52)), (1, .inl l1), (2, .inl l2), (3, .inl l3)] [] P0 P0 M Q := by
  refine G_iload_n 3 rfl rfl (ck dc288 (i := 21) rfl) ?_
  refine G_iload_n 2 rfl rfl (ck dc288 (i := 22) rfl) ?_
  obtain ⟨o1, h⟩ := h
  obtain ⟨o2, h⟩ := h
  refine G_icmp_ge (tgt := 57) (by decide) o1 o2 (ck dc288 (i := 23) rfl) (fun c => ?_) (fun c => ?_)
  · replace h := h.1 c
    refine G_iconst (ck dc288 (i := 35) rfl) ?_
    exact H_iretI mf288 (ck dc288 (i := 36) rfl) rfl h
  · replace h := h.2 c
    refine G_aload_n 0 rfl rfl (ck dc288 (i := 24) rfl) ?_
    refine H_getR mf288 (ck dc288 (i := 25) rfl) fw_Model_80 fc11_33 ly52 ra52 rf52_33 (by decide) ?_
    refine G_bipush (n := 20) rfl (ck dc288 (i := 26) rfl) ?_
    refine G_iload_n 1 rfl rfl (ck dc288 (i := 27) rfl) ?_
    refine G_imul (ck dc288 (i := 28) rfl) ?_
    refine G_iload_n 3 rfl rfl (ck dc288 (i := 29) rfl) ?_
    refine G_iadd (ck dc288 (i := 30) rfl) ?_
    refine G_lconst (v := 0) rfl (ck dc288 (i := 31) rfl) ?_
    obtain ⟨o3, h⟩ := h
    refine G_last (ck dc288 (i := 32) rfl) ra72 ly72 (by decide) o3 ?_
    refine G_iinc (L' := [(3, .inl (l3 + 1)), (0, .inr (.inr 52)), (1, .inl l1), (2, .inl l2)]) 3 rfl (mfx.lt mf288 (Nat.le_of_ble_eq_true rfl)) rfl (ck dc288 (i := 33) rfl) ?_
    refine G_goto (tgt := 34) (by decide) (ck dc288 (i := 34) rfl) ?_
    exact G_sub [1, 2, 3, 0] rfl h
theorem c_m_set (K : Nat) (a1 a2 a3 : Int) (M : PM) (Q : Option PV → PM → Prop)
    (h : Call K jModel_isRow [.inl a1] P0 P0 M (retI fun r1 M2 => R32 r1 ∧ (¬ r1 = 0 → (0 ≤ a1 ∧ a1 < 4) ∧ R32 (M2 73 a1) ∧ (¬ (M2 73 a1) = (-1) → Call K jModel_hasPlace [.inr (.inr 52), .inl a1, .inl a2, .inl 0] P0 P0 M2 (retI fun r6 M7 => R32 r6 ∧ (¬ r6 = 0 → (0 ≤ ((20 * a1) + a2) ∧ ((20 * a1) + a2) < 80) ∧ Q (some (.inl 1)) (mset M7 72 ((20 * a1) + a2) a3)) ∧ (r6 = 0 → Q (some (.inl (-13))) M7))) ∧ ((M2 73 a1) = (-1) → Q (some (.inl (-11))) M2)) ∧ (r1 = 0 → Q (some (.inl (-1))) M2))) : Call (K + 1) jModel_set [.inr (.inr 52), .inl a1, .inl a2, .inr (.inl a3)] P0 P0 M Q := by
  refine Call.intro (by decide +kernel) (mfx.le mf289 (Nat.le_of_ble_eq_true rfl)) (Nat.le_refl _) rfl ?_
  refine G_iload_n 1 rfl rfl (ck dc289 (i := 0) rfl) ?_
  refine H_sZ mf289 (As := [.inl a1]) (st := []) (ck dc289 (i := 1) rfl) lk_Model_318 rfl rfl (Nat.le_of_ble_eq_true rfl) ⟨Nat.le_refl _, Nat.le_refl _⟩ h (fun r1 M2 h => ?_)
  obtain ⟨o3, h⟩ := h
  refine G_if_ne (tgt := 9) (by decide) o3 (ck dc289 (i := 2) rfl) (fun c => ?_) (fun c => ?_)
  · replace h := h.1 c
    refine G_aload_n 0 rfl rfl (ck dc289 (i := 5) rfl) ?_
    refine H_getR mf289 (ck dc289 (i := 6) rfl) fw_Model_83 fc11_34 ly52 ra52 rf52_34 (by decide) ?_
    refine G_iload_n 1 rfl rfl (ck dc289 (i := 7) rfl) ?_
    obtain ⟨o4, h⟩ := h
    refine H_iald (ck dc289 (i := 8) rfl) ly73 (by decide) ra73 o4 (x := (M2 73 a1)) rfl ?_
    refine G_iconst (ck dc289 (i := 9) rfl) ?_
    obtain ⟨o5, h⟩ := h
    refine G_icmp_ne (tgt := 22) (by decide) o5 (by decide) (ck dc289 (i := 10) rfl) (fun c => ?_) (fun c => ?_)
    · replace h := h.1 c
      refine G_aload_n 0 rfl rfl (ck dc289 (i := 13) rfl) ?_
      refine G_iload_n 1 rfl rfl (ck dc289 (i := 14) rfl) ?_
      refine G_iload_n 2 rfl rfl (ck dc289 (i := 15) rfl) ?_
      refine G_iconst (ck dc289 (i := 16) rfl) ?_
      refine H_vZ mf289 (As := [.inl a1, .inl a2, .inl 0]) (st := []) (ck dc289 (i := 17) rfl) lk_Model_325 rfl rfl (Nat.le_of_ble_eq_true rfl) ly52 ra52 ⟨Nat.le_refl _, Nat.le_refl _⟩ h (fun r6 M7 h => ?_)
      obtain ⟨o8, h⟩ := h
      refine G_if_ne (tgt := 35) (by decide) o8 (ck dc289 (i := 18) rfl) (fun c => ?_) (fun c => ?_)
      · replace h := h.1 c
        refine G_aload_n 0 rfl rfl (ck dc289 (i := 21) rfl) ?_
        refine H_getR mf289 (ck dc289 (i := 22) rfl) fw_Model_80 fc11_33 ly52 ra52 rf52_33 (by decide) ?_
        refine G_bipush (n := 20) rfl (ck dc289 (i := 23) rfl) ?_
        refine G_iload_n 1 rfl rfl (ck dc289 (i := 24) rfl) ?_
        refine G_imul (ck dc289 (i := 25) rfl) ?_
        refine G_iload_n 2 rfl rfl (ck dc289 (i := 26) rfl) ?_
        refine G_iadd (ck dc289 (i := 27) rfl) ?_
        refine G_lload_n 3 rfl rfl (ck dc289 (i := 28) rfl) ?_
        obtain ⟨o9, h⟩ := h
        refine G_last (ck dc289 (i := 29) rfl) ra72 ly72 (by decide) o9 ?_
        refine G_iconst (ck dc289 (i := 30) rfl) ?_
        exact H_iretI mf289 (ck dc289 (i := 31) rfl) rfl h
      · replace h := h.2 c
        refine G_bipush (n := (-13)) rfl (ck dc289 (i := 19) rfl) ?_
        exact H_iretI mf289 (ck dc289 (i := 20) rfl) rfl h
    · replace h := h.2 c
      refine G_bipush (n := (-11)) rfl (ck dc289 (i := 11) rfl) ?_
      exact H_iretI mf289 (ck dc289 (i := 12) rfl) rfl h
  · replace h := h.2 c
    refine G_iconst (ck dc289 (i := 3) rfl) ?_
    exact H_iretI mf289 (ck dc289 (i := 4) rfl) rfl h
theorem c_m_get (K : Nat) (a1 a2 : Int) (M : PM) (Q : Option PV → PM → Prop)
    (h : Call K jModel_isRow [.inl a1] P0 P0 M (retI fun r1 M2 => R32 r1 ∧ (r1 = 0 → Q (some (.inr (.inl (-9223372036854775808)))) M2) ∧ (¬ r1 = 0 → Call K jModel_hasPlace [.inr (.inr 52), .inl a1, .inl a2, .inl 0] P0 P0 M2 (retI fun r4 M5 => R32 r4 ∧ (r4 = 0 → Q (some (.inr (.inl (-9223372036854775808)))) M5) ∧ (¬ r4 = 0 → (0 ≤ ((20 * a1) + a2) ∧ ((20 * a1) + a2) < 80) ∧ Q (some (.inr (.inl (M5 72 ((20 * a1) + a2))))) M5))))) : Call (K + 1) jModel_get [.inr (.inr 52), .inl a1, .inl a2] P0 P0 M Q := by
  refine Call.intro (by decide +kernel) (mfx.le mf290 (Nat.le_of_ble_eq_true rfl)) (Nat.le_refl _) rfl ?_
  refine G_iload_n 1 rfl rfl (ck dc290 (i := 0) rfl) ?_
  refine H_sZ mf290 (As := [.inl a1]) (st := []) (ck dc290 (i := 1) rfl) lk_Model_318 rfl rfl (Nat.le_of_ble_eq_true rfl) ⟨Nat.le_refl _, Nat.le_refl _⟩ h (fun r1 M2 h => ?_)
  obtain ⟨o3, h⟩ := h
  refine G_if_eq (tgt := 31) (by decide) o3 (ck dc290 (i := 2) rfl) (fun c => ?_) (fun c => ?_)
  · replace h := h.1 c
    refine H_ldc2 mf290 (v := (-9223372036854775808)) (ck dc290 (i := 18) rfl) kl_Model_240 ?_
    exact H_lret mf290 (ck dc290 (i := 19) rfl) rfl h
  · replace h := h.2 c
    refine G_aload_n 0 rfl rfl (ck dc290 (i := 3) rfl) ?_
    refine G_iload_n 1 rfl rfl (ck dc290 (i := 4) rfl) ?_
    refine G_iload_n 2 rfl rfl (ck dc290 (i := 5) rfl) ?_
    refine G_iconst (ck dc290 (i := 6) rfl) ?_
    refine H_vZ mf290 (As := [.inl a1, .inl a2, .inl 0]) (st := []) (ck dc290 (i := 7) rfl) lk_Model_325 rfl rfl (Nat.le_of_ble_eq_true rfl) ly52 ra52 ⟨Nat.le_refl _, Nat.le_refl _⟩ h (fun r4 M5 h => ?_)
    obtain ⟨o6, h⟩ := h
    refine G_if_eq (tgt := 31) (by decide) o6 (ck dc290 (i := 8) rfl) (fun c => ?_) (fun c => ?_)
    · replace h := h.1 c
      refine H_ldc2 mf290 (v := (-9223372036854775808)) (ck dc290 (i := 18) rfl) kl_Model_240 ?_
      exact H_lret mf290 (ck dc290 (i := 19) rfl) rfl h
    · replace h := h.2 c
      refine G_aload_n 0 rfl rfl (ck dc290 (i := 9) rfl) ?_
      refine H_getR mf290 (ck dc290 (i := 10) rfl) fw_Model_80 fc11_33 ly52 ra52 rf52_33 (by decide) ?_
      refine G_bipush (n := 20) rfl (ck dc290 (i := 11) rfl) ?_
      refine G_iload_n 1 rfl rfl (ck dc290 (i := 12) rfl) ?_
      refine G_imul (ck dc290 (i := 13) rfl) ?_
      refine G_iload_n 2 rfl rfl (ck dc290 (i := 14) rfl) ?_
      refine G_iadd (ck dc290 (i := 15) rfl) ?_
      obtain ⟨o7, h⟩ := h
      refine H_lald (ck dc290 (i := 16) rfl) ly72 (by decide) ra72 o7 (x := (M5 72 ((20 * a1) + a2))) rfl ?_
      refine G_goto (tgt := 34) (by decide) (ck dc290 (i := 17) rfl) ?_
      exact H_lret mf290 (ck dc290 (i := 19) rfl) rfl h
theorem c_m_lay (K : Nat) (a1 a2 : Int) (M : PM) (Q : Option PV → PM → Prop)
    (h : Call K jModel_isRow [.inl a1] P0 P0 M (retI fun r1 M2 => R32 r1 ∧ (¬ r1 = 0 → (0 ≤ a1 ∧ a1 < 4) ∧ R32 (M2 73 a1) ∧ (¬ (M2 73 a1) = (-1) → Call K jModel_clears [.inr (.inr 52)] P0 P0 M2 (retV fun M7 => G none (K + 1) jModel_lay 40 [(0, .inr (.inr 52)), (1, .inl a1), (2, .inl a2), (3, .inl ((3 * (M7 55 0)) + 1)), (4, .inl 0)] [] P0 P0 M7 Q)) ∧ ((M2 73 a1) = (-1) → Q (some (.inl (-11))) M2)) ∧ (r1 = 0 → Q (some (.inl (-1))) M2))) : Call (K + 1) jModel_lay [.inr (.inr 52), .inl a1, .inl a2] P0 P0 M Q := by
  refine Call.intro (by decide +kernel) (mfx.le mf291 (Nat.le_of_ble_eq_true rfl)) (Nat.le_refl _) rfl ?_
  refine G_iload_n 1 rfl rfl (ck dc291 (i := 0) rfl) ?_
  refine H_sZ mf291 (As := [.inl a1]) (st := []) (ck dc291 (i := 1) rfl) lk_Model_318 rfl rfl (Nat.le_of_ble_eq_true rfl) ⟨Nat.le_refl _, Nat.le_refl _⟩ h (fun r1 M2 h => ?_)
  obtain ⟨o3, h⟩ := h
  refine G_if_ne (tgt := 9) (by decide) o3 (ck dc291 (i := 2) rfl) (fun c => ?_) (fun c => ?_)
  · replace h := h.1 c
    refine G_aload_n 0 rfl rfl (ck dc291 (i := 5) rfl) ?_
    refine H_getR mf291 (ck dc291 (i := 6) rfl) fw_Model_83 fc11_34 ly52 ra52 rf52_34 (by decide) ?_
    refine G_iload_n 1 rfl rfl (ck dc291 (i := 7) rfl) ?_
    obtain ⟨o4, h⟩ := h
    refine H_iald (ck dc291 (i := 8) rfl) ly73 (by decide) ra73 o4 (x := (M2 73 a1)) rfl ?_
    refine G_iconst (ck dc291 (i := 9) rfl) ?_
    obtain ⟨o5, h⟩ := h
    refine G_icmp_ne (tgt := 22) (by decide) o5 (by decide) (ck dc291 (i := 10) rfl) (fun c => ?_) (fun c => ?_)
    · replace h := h.1 c
      refine G_aload_n 0 rfl rfl (ck dc291 (i := 13) rfl) ?_
      refine H_vV mf291 (As := []) (st := []) (ck dc291 (i := 14) rfl) lk_Model_230 rfl rfl (Nat.le_of_ble_eq_true rfl) ly52 ra52 ⟨Nat.le_refl _, Nat.le_refl _⟩ h (fun M7 h => ?_)
      refine G_iconst (ck dc291 (i := 15) rfl) ?_
      refine G_aload_n 0 rfl rfl (ck dc291 (i := 16) rfl) ?_
      refine H_getR mf291 (ck dc291 (i := 17) rfl) fw_Model_5 fc11_3 ly52 ra52 rf52_3 (by decide) ?_
      refine G_iconst (ck dc291 (i := 18) rfl) ?_
      refine H_iald (ck dc291 (i := 19) rfl) ly55 (by decide) ra55 (by decide) (x := (M7 55 0)) rfl ?_
      refine G_imul (ck dc291 (i := 20) rfl) ?_
      refine G_iconst (ck dc291 (i := 21) rfl) ?_
      refine G_iadd (ck dc291 (i := 22) rfl) ?_
      refine G_istore_n (L' := [(3, .inl ((3 * (M7 55 0)) + 1)), (0, .inr (.inr 52)), (1, .inl a1), (2, .inl a2)]) rfl (mfx.lt mf291 (Nat.le_of_ble_eq_true rfl)) rfl (ck dc291 (i := 23) rfl) ?_
      refine G_iconst (ck dc291 (i := 24) rfl) ?_
      refine G_istore (L' := [(4, .inl 0), (3, .inl ((3 * (M7 55 0)) + 1)), (0, .inr (.inr 52)), (1, .inl a1), (2, .inl a2)]) (mfx.lt mf291 (Nat.le_of_ble_eq_true rfl)) rfl (ck dc291 (i := 25) rfl) ?_
      exact G_sub [2, 3, 4, 1, 0] rfl h
    · replace h := h.2 c
      refine G_bipush (n := (-11)) rfl (ck dc291 (i := 11) rfl) ?_
      exact H_iretI mf291 (ck dc291 (i := 12) rfl) rfl h
  · replace h := h.2 c
    refine G_iconst (ck dc291 (i := 3) rfl) ?_
    exact H_iretI mf291 (ck dc291 (i := 4) rfl) rfl h
set_option maxHeartbeats 20000000 in
theorem g_m_lay_40 (K : Nat) (l1 l2 l3 l4 : Int) (M : PM) (Q : Option PV → PM → Prop)
    (h : R32 l4 ∧ R32 l3 ∧ (l3 ≤ l4 → (¬ l4 = l3 → Q (some (.inl (-13))) M) ∧ (l4 = l3 → Q (some (.inl l3)) M)) ∧ (¬ l3 ≤ l4 → Call K jModel_hasPlace [.inr (.inr 52), .inl l1, .inl l2, .inl l4] P0 P0 M (retI fun r3 M4 => R32 r3 ∧ (r3 = 0 → (¬ l4 = l3 → Q (some (.inl (-13))) M4) ∧ (l4 = l3 → Q (some (.inl l3)) M4)) ∧ (¬ r3 = 0 → R32 (l3 - 1) ∧ ((l3 - 1) ≤ l4 → (0 ≤ (M4 52 9) ∧ (M4 52 9) < 6) ∧ (0 ≤ (((20 * l1) + l2) + l4) ∧ (((20 * l1) + l2) + l4) < 80) ∧ G none (K + 1) jModel_lay 40 [(0, .inr (.inr 52)), (1, .inl l1), (2, .inl l2), (3, .inl l3), (4, .inl (l4 + 1))] [] P0 P0 (mset M4 72 (((20 * l1) + l2) + l4) (M4 59 (M4 52 9))) Q) ∧ (¬ (l3 - 1) ≤ l4 → (0 ≤ ((15 * (M4 52 9)) + l4) ∧ ((15 * (M4 52 9)) + l4) < 90) ∧ (0 ≤ (((20 * l1) + l2) + l4) ∧ (((20 * l1) + l2) + l4) < 80) ∧ G none (K + 1) jModel_lay 40 [(0, .inr (.inr 52)), (1, .inl l1), (2, .inl l2), (3, .inl l3), (4, .inl (l4 + 1))] [] P0 P0 (mset M4 72 (((20 * l1) + l2) + l4) (M4 58 ((15 * (M4 52 9)) + l4))) Q))))) : G none (K + 1) jModel_lay 40 [(0, .inr (.inr 52)), (1, .inl l1), (2, .inl l2), (3, .inl l3), (4, .inl l4)] [] P0 P0 M Q := by
  refine G_iload 4 rfl (ck dc291 (i := 26) rfl) ?_
  refine G_iload_n 3 rfl rfl (ck dc291 (i := 27) rfl) ?_
  obtain ⟨o1, h⟩ := h
  obtain ⟨o2, h⟩ := h
  refine G_icmp_ge (tgt := 112) (by decide) o1 o2 (ck dc291 (i := 28) rfl) (fun c => ?_) (fun c => ?_)
  · replace h := h.1 c
    refine G_iload 4 rfl (ck dc291 (i := 67) rfl) ?_
    refine G_iload_n 3 rfl rfl (ck dc291 (i := 68) rfl) ?_
    refine G_icmp_ne (tgt := 122) (by decide) o1 o2 (ck dc291 (i := 69) rfl) (fun c => ?_) (fun c => ?_)
    · replace h := h.1 c
      refine G_bipush (n := (-13)) rfl (ck dc291 (i := 72) rfl) ?_
      exact H_iretI mf291 (ck dc291 (i := 73) rfl) rfl h
    · replace h := h.2 c
      refine G_iload_n 3 rfl rfl (ck dc291 (i := 70) rfl) ?_
      refine G_goto (tgt := 124) (by decide) (ck dc291 (i := 71) rfl) ?_
      exact H_iretI mf291 (ck dc291 (i := 73) rfl) rfl h
  · replace h := h.2 c
    refine G_aload_n 0 rfl rfl (ck dc291 (i := 29) rfl) ?_
    refine G_iload_n 1 rfl rfl (ck dc291 (i := 30) rfl) ?_
    refine G_iload_n 2 rfl rfl (ck dc291 (i := 31) rfl) ?_
    refine G_iload 4 rfl (ck dc291 (i := 32) rfl) ?_
    refine H_vZ mf291 (As := [.inl l1, .inl l2, .inl l4]) (st := []) (ck dc291 (i := 33) rfl) lk_Model_325 rfl rfl (Nat.le_of_ble_eq_true rfl) ly52 ra52 ⟨Nat.le_refl _, Nat.le_refl _⟩ h (fun r3 M4 h => ?_)
    obtain ⟨o5, h⟩ := h
    refine G_if_eq (tgt := 112) (by decide) o5 (ck dc291 (i := 34) rfl) (fun c => ?_) (fun c => ?_)
    · replace h := h.1 c
      refine G_iload 4 rfl (ck dc291 (i := 67) rfl) ?_
      refine G_iload_n 3 rfl rfl (ck dc291 (i := 68) rfl) ?_
      refine G_icmp_ne (tgt := 122) (by decide) o1 o2 (ck dc291 (i := 69) rfl) (fun c => ?_) (fun c => ?_)
      · replace h := h.1 c
        refine G_bipush (n := (-13)) rfl (ck dc291 (i := 72) rfl) ?_
        exact H_iretI mf291 (ck dc291 (i := 73) rfl) rfl h
      · replace h := h.2 c
        refine G_iload_n 3 rfl rfl (ck dc291 (i := 70) rfl) ?_
        refine G_goto (tgt := 124) (by decide) (ck dc291 (i := 71) rfl) ?_
        exact H_iretI mf291 (ck dc291 (i := 73) rfl) rfl h
    · replace h := h.2 c
      refine G_aload_n 0 rfl rfl (ck dc291 (i := 35) rfl) ?_
      refine H_getR mf291 (ck dc291 (i := 36) rfl) fw_Model_80 fc11_33 ly52 ra52 rf52_33 (by decide) ?_
      refine G_bipush (n := 20) rfl (ck dc291 (i := 37) rfl) ?_
      refine G_iload_n 1 rfl rfl (ck dc291 (i := 38) rfl) ?_
      refine G_imul (ck dc291 (i := 39) rfl) ?_
      refine G_iload_n 2 rfl rfl (ck dc291 (i := 40) rfl) ?_
      refine G_iadd (ck dc291 (i := 41) rfl) ?_
      refine G_iload 4 rfl (ck dc291 (i := 42) rfl) ?_
      refine G_iadd (ck dc291 (i := 43) rfl) ?_
      refine G_iload 4 rfl (ck dc291 (i := 44) rfl) ?_
      refine G_iload_n 3 rfl rfl (ck dc291 (i := 45) rfl) ?_
      refine G_iconst (ck dc291 (i := 46) rfl) ?_
      refine G_isub (ck dc291 (i := 47) rfl) ?_
      obtain ⟨o6, h⟩ := h
      refine G_icmp_ge (tgt := 96) (by decide) o1 o6 (ck dc291 (i := 48) rfl) (fun c => ?_) (fun c => ?_)
      · replace h := h.1 c
        refine G_aload_n 0 rfl rfl (ck dc291 (i := 59) rfl) ?_
        refine H_getR mf291 (ck dc291 (i := 60) rfl) fw_Model_41 fc11_11 ly52 ra52 rf52_11 (by decide) ?_
        refine G_aload_n 0 rfl rfl (ck dc291 (i := 61) rfl) ?_
        refine H_getI mf291 (ck dc291 (i := 62) rfl) fw_Model_206 (Or.inl fc11_9) ly52 ra52 (x := (M4 52 9)) rfl ?_
        obtain ⟨o7, h⟩ := h
        refine H_lald (ck dc291 (i := 63) rfl) ly59 (by decide) ra59 o7 (x := (M4 59 (M4 52 9))) rfl ?_
        obtain ⟨o8, h⟩ := h
        refine G_last (ck dc291 (i := 64) rfl) ra72 ly72 (by decide) o8 ?_
        refine G_iinc (L' := [(4, .inl (l4 + 1)), (0, .inr (.inr 52)), (1, .inl l1), (2, .inl l2), (3, .inl l3)]) 4 rfl (mfx.lt mf291 (Nat.le_of_ble_eq_true rfl)) rfl (ck dc291 (i := 65) rfl) ?_
        refine G_goto (tgt := 40) (by decide) (ck dc291 (i := 66) rfl) ?_
        exact G_sub [1, 2, 3, 4, 0] rfl h
      · replace h := h.2 c
        refine G_aload_n 0 rfl rfl (ck dc291 (i := 49) rfl) ?_
        refine H_getR mf291 (ck dc291 (i := 50) rfl) fw_Model_38 fc11_10 ly52 ra52 rf52_10 (by decide) ?_
        refine G_bipush (n := 15) rfl (ck dc291 (i := 51) rfl) ?_
        refine G_aload_n 0 rfl rfl (ck dc291 (i := 52) rfl) ?_
        refine H_getI mf291 (ck dc291 (i := 53) rfl) fw_Model_206 (Or.inl fc11_9) ly52 ra52 (x := (M4 52 9)) rfl ?_
        refine G_imul (ck dc291 (i := 54) rfl) ?_
        refine G_iload 4 rfl (ck dc291 (i := 55) rfl) ?_
        refine G_iadd (ck dc291 (i := 56) rfl) ?_
        obtain ⟨o9, h⟩ := h
        refine H_lald (ck dc291 (i := 57) rfl) ly58 (by decide) ra58 o9 (x := (M4 58 ((15 * (M4 52 9)) + l4))) rfl ?_
        refine G_goto (tgt := 105) (by decide) (ck dc291 (i := 58) rfl) ?_
        obtain ⟨o10, h⟩ := h
        refine G_last (ck dc291 (i := 64) rfl) ra72 ly72 (by decide) o10 ?_
        refine G_iinc (L' := [(4, .inl (l4 + 1)), (0, .inr (.inr 52)), (1, .inl l1), (2, .inl l2), (3, .inl l3)]) 4 rfl (mfx.lt mf291 (Nat.le_of_ble_eq_true rfl)) rfl (ck dc291 (i := 65) rfl) ?_
        refine G_goto (tgt := 40) (by decide) (ck dc291 (i := 66) rfl) ?_
        exact G_sub [1, 2, 3, 4, 0] rfl h
theorem c_m_isOfClearing (K : Nat) (a1 : Int) (M : PM) (Q : Option PV → PM → Prop)
    (h : Call K jModel_clears [.inr (.inr 52)] P0 P0 M (retV fun M2 => (0 ≤ (a1 + (3 * (M2 55 0))) ∧ (a1 + (3 * (M2 55 0))) < 80) ∧ G none (K + 1) jModel_isOfClearing 23 [(0, .inr (.inr 52)), (1, .inl a1), (2, .inr (.inl (M2 72 (a1 + (3 * (M2 55 0)))))), (4, .inl 0)] [] P0 P0 M2 Q)) : Call (K + 1) jModel_isOfClearing [.inr (.inr 52), .inl a1] P0 P0 M Q := by
  refine Call.intro (by decide +kernel) (mfx.le mf294 (Nat.le_of_ble_eq_true rfl)) (Nat.le_refl _) rfl ?_
  refine G_aload_n 0 rfl rfl (ck dc294 (i := 0) rfl) ?_
  refine H_vV mf294 (As := []) (st := []) (ck dc294 (i := 1) rfl) lk_Model_230 rfl rfl (Nat.le_of_ble_eq_true rfl) ly52 ra52 ⟨Nat.le_refl _, Nat.le_refl _⟩ h (fun M2 h => ?_)
  refine G_aload_n 0 rfl rfl (ck dc294 (i := 2) rfl) ?_
  refine H_getR mf294 (ck dc294 (i := 3) rfl) fw_Model_80 fc11_33 ly52 ra52 rf52_33 (by decide) ?_
  refine G_iload_n 1 rfl rfl (ck dc294 (i := 4) rfl) ?_
  refine G_iconst (ck dc294 (i := 5) rfl) ?_
  refine G_aload_n 0 rfl rfl (ck dc294 (i := 6) rfl) ?_
  refine H_getR mf294 (ck dc294 (i := 7) rfl) fw_Model_5 fc11_3 ly52 ra52 rf52_3 (by decide) ?_
  refine G_iconst (ck dc294 (i := 8) rfl) ?_
  refine H_iald (ck dc294 (i := 9) rfl) ly55 (by decide) ra55 (by decide) (x := (M2 55 0)) rfl ?_
  refine G_imul (ck dc294 (i := 10) rfl) ?_
  refine G_iadd (ck dc294 (i := 11) rfl) ?_
  obtain ⟨o3, h⟩ := h
  refine H_lald (ck dc294 (i := 12) rfl) ly72 (by decide) ra72 o3 (x := (M2 72 (a1 + (3 * (M2 55 0))))) rfl ?_
  refine G_lstore_n (L' := [(2, .inr (.inl (M2 72 (a1 + (3 * (M2 55 0)))))), (0, .inr (.inr 52)), (1, .inl a1)]) rfl (mfx.lt mf294 (Nat.le_of_ble_eq_true rfl)) rfl (ck dc294 (i := 13) rfl) ?_
  refine G_iconst (ck dc294 (i := 14) rfl) ?_
  refine G_istore (L' := [(4, .inl 0), (2, .inr (.inl (M2 72 (a1 + (3 * (M2 55 0)))))), (0, .inr (.inr 52)), (1, .inl a1)]) (mfx.lt mf294 (Nat.le_of_ble_eq_true rfl)) rfl (ck dc294 (i := 15) rfl) ?_
  exact G_sub [2, 3, 1, 0] rfl h
set_option maxHeartbeats 20000000 in
theorem g_m_isOfClearing_23 (K : Nat) (l1 l2 l4 : Int) (M : PM) (Q : Option PV → PM → Prop)
    (h : R32 l4 ∧ R32 (3 * (M 55 0)) ∧ ((3 * (M 55 0)) ≤ l4 → Q (some (.inl 1)) M) ∧ (¬ (3 * (M 55 0)) ≤ l4 → (0 ≤ (l1 + l4) ∧ (l1 + l4) < 80) ∧ (0 ≤ ((15 * (M 52 9)) + l4) ∧ ((15 * (M 52 9)) + l4) < 90) ∧ (0 ≤ (M 52 9) ∧ (M 52 9) < 6) ∧ Call K jModel_compared [.inr (.inl (M 72 (l1 + l4))), .inr (.inl l2), .inr (.inl (M 58 ((15 * (M 52 9)) + l4))), .inr (.inl (M 59 (M 52 9)))] P0 P0 M (retI fun r6 M7 => R32 r6 ∧ (r6 = 0 → G none (K + 1) jModel_isOfClearing 23 [(0, .inr (.inr 52)), (1, .inl l1), (2, .inr (.inl l2)), (4, .inl (l4 + 1))] [] P0 P0 M7 Q) ∧ (¬ r6 = 0 → Q (some (.inl 0)) M7)))) : G none (K + 1) jModel_isOfClearing 23 [(0, .inr (.inr 52)), (1, .inl l1), (2, .inr (.inl l2)), (4, .inl l4)] [] P0 P0 M Q := by
  refine G_iload 3 rfl (ck dc294 (i := 16) rfl) ?_
  refine G_iconst (ck dc294 (i := 17) rfl) ?_
  refine G_aload_n 0 rfl rfl (ck dc294 (i := 18) rfl) ?_
  refine H_getR mf294 (ck dc294 (i := 19) rfl) fw_Model_5 fc11_3 ly52 ra52 rf52_3 (by decide) ?_
  refine G_iconst (ck dc294 (i := 20) rfl) ?_
  refine H_iald (ck dc294 (i := 21) rfl) ly55 (by decide) ra55 (by decide) (x := (M 55 0)) rfl ?_
  refine G_imul (ck dc294 (i := 22) rfl) ?_
  obtain ⟨o1, h⟩ := h
  obtain ⟨o2, h⟩ := h
  refine G_icmp_ge (tgt := 84) (by decide) o1 o2 (ck dc294 (i := 23) rfl) (fun c => ?_) (fun c => ?_)
  · replace h := h.1 c
    refine G_iconst (ck dc294 (i := 51) rfl) ?_
    exact H_iretZ mf294 (ck dc294 (i := 52) rfl) rfl (Or.inr rfl) h
  · replace h := h.2 c
    refine G_aload_n 0 rfl rfl (ck dc294 (i := 24) rfl) ?_
    refine H_getR mf294 (ck dc294 (i := 25) rfl) fw_Model_80 fc11_33 ly52 ra52 rf52_33 (by decide) ?_
    refine G_iload_n 1 rfl rfl (ck dc294 (i := 26) rfl) ?_
    refine G_iload 3 rfl (ck dc294 (i := 27) rfl) ?_
    refine G_iadd (ck dc294 (i := 28) rfl) ?_
    obtain ⟨o3, h⟩ := h
    refine H_lald (ck dc294 (i := 29) rfl) ly72 (by decide) ra72 o3 (x := (M 72 (l1 + l4))) rfl ?_
    refine G_lload_n 2 rfl rfl (ck dc294 (i := 30) rfl) ?_
    refine G_aload_n 0 rfl rfl (ck dc294 (i := 31) rfl) ?_
    refine H_getR mf294 (ck dc294 (i := 32) rfl) fw_Model_38 fc11_10 ly52 ra52 rf52_10 (by decide) ?_
    refine G_bipush (n := 15) rfl (ck dc294 (i := 33) rfl) ?_
    refine G_aload_n 0 rfl rfl (ck dc294 (i := 34) rfl) ?_
    refine H_getI mf294 (ck dc294 (i := 35) rfl) fw_Model_206 (Or.inl fc11_9) ly52 ra52 (x := (M 52 9)) rfl ?_
    refine G_imul (ck dc294 (i := 36) rfl) ?_
    refine G_iload 3 rfl (ck dc294 (i := 37) rfl) ?_
    refine G_iadd (ck dc294 (i := 38) rfl) ?_
    obtain ⟨o4, h⟩ := h
    refine H_lald (ck dc294 (i := 39) rfl) ly58 (by decide) ra58 o4 (x := (M 58 ((15 * (M 52 9)) + l4))) rfl ?_
    refine G_aload_n 0 rfl rfl (ck dc294 (i := 40) rfl) ?_
    refine H_getR mf294 (ck dc294 (i := 41) rfl) fw_Model_41 fc11_11 ly52 ra52 rf52_11 (by decide) ?_
    refine G_aload_n 0 rfl rfl (ck dc294 (i := 42) rfl) ?_
    refine H_getI mf294 (ck dc294 (i := 43) rfl) fw_Model_206 (Or.inl fc11_9) ly52 ra52 (x := (M 52 9)) rfl ?_
    obtain ⟨o5, h⟩ := h
    refine H_lald (ck dc294 (i := 44) rfl) ly59 (by decide) ra59 o5 (x := (M 59 (M 52 9))) rfl ?_
    refine H_sI mf294 (As := [.inr (.inl (M 72 (l1 + l4))), .inr (.inl l2), .inr (.inl (M 58 ((15 * (M 52 9)) + l4))), .inr (.inl (M 59 (M 52 9)))]) (st := []) (ck dc294 (i := 45) rfl) lk_Model_308 rfl rfl (Nat.le_of_ble_eq_true rfl) ⟨Nat.le_refl _, Nat.le_refl _⟩ h (fun r6 M7 h => ?_)
    obtain ⟨o8, h⟩ := h
    refine G_if_eq (tgt := 78) (by decide) o8 (ck dc294 (i := 46) rfl) (fun c => ?_) (fun c => ?_)
    · replace h := h.1 c
      refine G_iinc (L' := [(4, .inl (l4 + 1)), (0, .inr (.inr 52)), (1, .inl l1), (2, .inr (.inl l2))]) 3 rfl (mfx.lt mf294 (Nat.le_of_ble_eq_true rfl)) rfl (ck dc294 (i := 49) rfl) ?_
      refine G_goto (tgt := 23) (by decide) (ck dc294 (i := 50) rfl) ?_
      exact G_sub [1, 2, 3, 0] rfl h
    · replace h := h.2 c
      refine G_iconst (ck dc294 (i := 47) rfl) ?_
      exact H_iretZ mf294 (ck dc294 (i := 48) rfl) rfl (Or.inl rfl) h
theorem c_m_paysSo (K : Nat) (a1 a2 : Int) (M : PM) (Q : Option PV → PM → Prop)
    (h : (0 ≤ (a1 + (3 * (M 55 0))) ∧ (a1 + (3 * (M 55 0))) < 80) ∧ G none (K + 1) jModel_paysSo 22 [(0, .inr (.inr 52)), (1, .inl a1), (2, .inl a2), (3, .inr (.inl (M 72 (a1 + (3 * (M 55 0)))))), (5, .inr (.inl 0)), (7, .inl 0)] [] P0 P0 M Q) : Call (K + 1) jModel_paysSo [.inr (.inr 52), .inl a1, .inl a2] P0 P0 M Q := by
  refine Call.intro (by decide +kernel) (mfx.le mf293 (Nat.le_of_ble_eq_true rfl)) (Nat.le_refl _) rfl ?_
  refine G_aload_n 0 rfl rfl (ck dc293 (i := 0) rfl) ?_
  refine H_getR mf293 (ck dc293 (i := 1) rfl) fw_Model_80 fc11_33 ly52 ra52 rf52_33 (by decide) ?_
  refine G_iload_n 1 rfl rfl (ck dc293 (i := 2) rfl) ?_
  refine G_iconst (ck dc293 (i := 3) rfl) ?_
  refine G_aload_n 0 rfl rfl (ck dc293 (i := 4) rfl) ?_
  refine H_getR mf293 (ck dc293 (i := 5) rfl) fw_Model_5 fc11_3 ly52 ra52 rf52_3 (by decide) ?_
  refine G_iconst (ck dc293 (i := 6) rfl) ?_
  refine H_iald (ck dc293 (i := 7) rfl) ly55 (by decide) ra55 (by decide) (x := (M 55 0)) rfl ?_
  refine G_imul (ck dc293 (i := 8) rfl) ?_
  refine G_iadd (ck dc293 (i := 9) rfl) ?_
  obtain ⟨o1, h⟩ := h
  refine H_lald (ck dc293 (i := 10) rfl) ly72 (by decide) ra72 o1 (x := (M 72 (a1 + (3 * (M 55 0))))) rfl ?_
  refine G_lstore_n (L' := [(3, .inr (.inl (M 72 (a1 + (3 * (M 55 0)))))), (0, .inr (.inr 52)), (1, .inl a1), (2, .inl a2)]) rfl (mfx.lt mf293 (Nat.le_of_ble_eq_true rfl)) rfl (ck dc293 (i := 11) rfl) ?_
  refine G_lconst (v := 0) rfl (ck dc293 (i := 12) rfl) ?_
  refine G_lstore (L' := [(5, .inr (.inl 0)), (3, .inr (.inl (M 72 (a1 + (3 * (M 55 0)))))), (0, .inr (.inr 52)), (1, .inl a1), (2, .inl a2)]) (mfx.lt mf293 (Nat.le_of_ble_eq_true rfl)) rfl (ck dc293 (i := 13) rfl) ?_
  refine G_iconst (ck dc293 (i := 14) rfl) ?_
  refine G_istore (L' := [(7, .inl 0), (5, .inr (.inl 0)), (3, .inr (.inl (M 72 (a1 + (3 * (M 55 0)))))), (0, .inr (.inr 52)), (1, .inl a1), (2, .inl a2)]) (mfx.lt mf293 (Nat.le_of_ble_eq_true rfl)) rfl (ck dc293 (i := 15) rfl) ?_
  exact G_sub [3, 4, 5, 2, 1, 0] rfl h
set_option maxHeartbeats 20000000 in
theorem g_m_paysSo_22 (K : Nat) (l1 l2 l3 l5 l7 : Int) (M : PM) (Q : Option PV → PM → Prop)
    (h : R32 l7 ∧ R32 (M 55 0) ∧ ((M 55 0) ≤ l7 → (0 ≤ (3 + l2) ∧ (3 + l2) < 83) ∧ R32 (M 55 (3 + l2)) ∧ Call K jModel_dueInAll [.inr (.inr 52), .inl l2] P0 P0 M (retI fun r5 M6 => R32 r5 ∧ R64 (((M 55 (3 + l2)) * l3) + l5) ∧ R64 (r5 * l3) ∧ ((r5 * l3) ≤ (((M 55 (3 + l2)) * l3) + l5) → Call K jModel_dueInAll [.inr (.inr 52), .inl l2] P0 P0 M6 (retI fun r10 M11 => R32 r10 ∧ G none (K + 1) jModel_paysSo 171 [(0, .inr (.inr 52)), (1, .inl l1), (2, .inl l2), (3, .inr (.inl l3)), (8, .inr (.inl ((10 * r10) * l3))), (10, .inl 0)] [] P0 P0 M11 Q)) ∧ (¬ (r5 * l3) ≤ (((M 55 (3 + l2)) * l3) + l5) → R32 ((M6 55 1) * (M6 55 (3 + l2))) ∧ R32 (M6 55 2) ∧ G none (K + 1) jModel_paysSo 171 [(0, .inr (.inr 52)), (1, .inl l1), (2, .inl l2), (3, .inr (.inl l3)), (8, .inr (.inl ((((M6 55 1) * (M6 55 (3 + l2))) * l3) + ((M6 55 2) * l5)))), (10, .inl 0)] [] P0 P0 M6 Q))) ∧ (¬ (M 55 0) ≤ l7 → G none (K + 1) jModel_paysSo 36 [(0, .inr (.inr 52)), (1, .inl l1), (2, .inl l2), (3, .inr (.inl l3)), (5, .inr (.inl l5)), (7, .inl l7), (8, .inl 0)] [] P0 P0 M Q)) : G none (K + 1) jModel_paysSo 22 [(0, .inr (.inr 52)), (1, .inl l1), (2, .inl l2), (3, .inr (.inl l3)), (5, .inr (.inl l5)), (7, .inl l7)] [] P0 P0 M Q := by
  refine G_iload 5 rfl (ck dc293 (i := 16) rfl) ?_
  refine G_aload_n 0 rfl rfl (ck dc293 (i := 17) rfl) ?_
  refine H_getR mf293 (ck dc293 (i := 18) rfl) fw_Model_5 fc11_3 ly52 ra52 rf52_3 (by decide) ?_
  refine G_iconst (ck dc293 (i := 19) rfl) ?_
  refine H_iald (ck dc293 (i := 20) rfl) ly55 (by decide) ra55 (by decide) (x := (M 55 0)) rfl ?_
  obtain ⟨o1, h⟩ := h
  obtain ⟨o2, h⟩ := h
  refine G_icmp_ge (tgt := 84) (by decide) o1 o2 (ck dc293 (i := 21) rfl) (fun c => ?_) (fun c => ?_)
  · replace h := h.1 c
    refine G_aload_n 0 rfl rfl (ck dc293 (i := 51) rfl) ?_
    refine H_getR mf293 (ck dc293 (i := 52) rfl) fw_Model_5 fc11_3 ly52 ra52 rf52_3 (by decide) ?_
    refine G_iconst (ck dc293 (i := 53) rfl) ?_
    refine G_iload_n 2 rfl rfl (ck dc293 (i := 54) rfl) ?_
    refine G_iadd (ck dc293 (i := 55) rfl) ?_
    obtain ⟨o3, h⟩ := h
    refine H_iald (ck dc293 (i := 56) rfl) ly55 (by decide) ra55 o3 (x := (M 55 (3 + l2))) rfl ?_
    obtain ⟨o4, h⟩ := h
    refine G_i2l o4 (ck dc293 (i := 57) rfl) ?_
    refine G_lload_n 3 rfl rfl (ck dc293 (i := 58) rfl) ?_
    refine G_lmul (ck dc293 (i := 59) rfl) ?_
    refine G_lload 4 rfl (ck dc293 (i := 60) rfl) ?_
    refine G_ladd (ck dc293 (i := 61) rfl) ?_
    refine G_aload_n 0 rfl rfl (ck dc293 (i := 62) rfl) ?_
    refine G_iload_n 2 rfl rfl (ck dc293 (i := 63) rfl) ?_
    refine H_vI mf293 (As := [.inl l2]) (st := [.inr (.inl (((M 55 (3 + l2)) * l3) + l5))]) (ck dc293 (i := 64) rfl) lk_Model_218 rfl rfl (Nat.le_of_ble_eq_true rfl) ly52 ra52 ⟨Nat.le_refl _, Nat.le_refl _⟩ h (fun r5 M6 h => ?_)
    obtain ⟨o7, h⟩ := h
    refine G_i2l o7 (ck dc293 (i := 65) rfl) ?_
    refine G_lload_n 3 rfl rfl (ck dc293 (i := 66) rfl) ?_
    refine G_lmul (ck dc293 (i := 67) rfl) ?_
    obtain ⟨o8, h⟩ := h
    obtain ⟨o9, h⟩ := h
    refine G_lif_ge (tgt := 114) (ck dc293 (i := 69) rfl) (by decide) o8 o9 (ck dc293 (i := 68) rfl) (fun c => ?_) (fun c => ?_)
    · replace h := h.1 c
      refine G_iconst (ck dc293 (i := 72) rfl) ?_
      refine G_istore (L' := [(7, .inl 0), (0, .inr (.inr 52)), (1, .inl l1), (2, .inl l2), (3, .inr (.inl l3)), (5, .inr (.inl l5))]) (mfx.lt mf293 (Nat.le_of_ble_eq_true rfl)) rfl (ck dc293 (i := 73) rfl) ?_
      refine G_iload 0 rfl (ck dc293 (i := 74) rfl) ?_
      refine G_if_eq (tgt := 154) (by decide) (by decide) (ck dc293 (i := 75) rfl) (fun c => ?_) (fun c => absurd c (by decide))
      refine H_ldc2 mf293 (v := 10) (ck dc293 (i := 99) rfl) kl_Model_90 ?_
      refine G_aload_n 1 rfl rfl (ck dc293 (i := 100) rfl) ?_
      refine G_iload_n 3 rfl rfl (ck dc293 (i := 101) rfl) ?_
      refine H_vI mf293 (As := [.inl l2]) (st := [.inr (.inl 10)]) (ck dc293 (i := 102) rfl) lk_Model_218 rfl rfl (Nat.le_of_ble_eq_true rfl) ly52 ra52 ⟨Nat.le_refl _, Nat.le_refl _⟩ h (fun r10 M11 h => ?_)
      obtain ⟨o12, h⟩ := h
      refine G_i2l o12 (ck dc293 (i := 103) rfl) ?_
      refine G_lmul (ck dc293 (i := 104) rfl) ?_
      refine G_lload_n 4 rfl rfl (ck dc293 (i := 105) rfl) ?_
      refine G_lmul (ck dc293 (i := 106) rfl) ?_
      refine G_lstore (L' := [(8, .inr (.inl ((10 * r10) * l3))), (7, .inl 0), (0, .inr (.inr 52)), (1, .inl l1), (2, .inl l2), (3, .inr (.inl l3)), (5, .inr (.inl l5))]) (mfx.lt mf293 (Nat.le_of_ble_eq_true rfl)) rfl (ck dc293 (i := 107) rfl) ?_
      refine G_iconst (ck dc293 (i := 108) rfl) ?_
      refine G_istore (L' := [(10, .inl 0), (8, .inr (.inl ((10 * r10) * l3))), (7, .inl 0), (0, .inr (.inr 52)), (1, .inl l1), (2, .inl l2), (3, .inr (.inl l3)), (5, .inr (.inl l5))]) (mfx.lt mf293 (Nat.le_of_ble_eq_true rfl)) rfl (ck dc293 (i := 109) rfl) ?_
      exact G_sub [3, 4, 5, 6, 1, 0] rfl h
    · replace h := h.2 c
      refine G_iconst (ck dc293 (i := 70) rfl) ?_
      refine G_goto (tgt := 115) (by decide) (ck dc293 (i := 71) rfl) ?_
      refine G_istore (L' := [(7, .inl 1), (0, .inr (.inr 52)), (1, .inl l1), (2, .inl l2), (3, .inr (.inl l3)), (5, .inr (.inl l5))]) (mfx.lt mf293 (Nat.le_of_ble_eq_true rfl)) rfl (ck dc293 (i := 73) rfl) ?_
      refine G_iload 0 rfl (ck dc293 (i := 74) rfl) ?_
      refine G_if_eq (tgt := 154) (by decide) (by decide) (ck dc293 (i := 75) rfl) (fun c => absurd c (by decide)) (fun c => ?_)
      refine G_aload_n 1 rfl rfl (ck dc293 (i := 76) rfl) ?_
      refine H_getR mf293 (ck dc293 (i := 77) rfl) fw_Model_5 fc11_3 ly52 ra52 rf52_3 (by decide) ?_
      refine G_iconst (ck dc293 (i := 78) rfl) ?_
      refine H_iald (ck dc293 (i := 79) rfl) ly55 (by decide) ra55 (by decide) (x := (M6 55 1)) rfl ?_
      refine G_aload_n 1 rfl rfl (ck dc293 (i := 80) rfl) ?_
      refine H_getR mf293 (ck dc293 (i := 81) rfl) fw_Model_5 fc11_3 ly52 ra52 rf52_3 (by decide) ?_
      refine G_iconst (ck dc293 (i := 82) rfl) ?_
      refine G_iload_n 3 rfl rfl (ck dc293 (i := 83) rfl) ?_
      refine G_iadd (ck dc293 (i := 84) rfl) ?_
      refine H_iald (ck dc293 (i := 85) rfl) ly55 (by decide) ra55 o3 (x := (M6 55 (3 + l2))) rfl ?_
      refine G_imul (ck dc293 (i := 86) rfl) ?_
      obtain ⟨o13, h⟩ := h
      refine G_i2l o13 (ck dc293 (i := 87) rfl) ?_
      refine G_lload_n 4 rfl rfl (ck dc293 (i := 88) rfl) ?_
      refine G_lmul (ck dc293 (i := 89) rfl) ?_
      refine G_aload_n 1 rfl rfl (ck dc293 (i := 90) rfl) ?_
      refine H_getR mf293 (ck dc293 (i := 91) rfl) fw_Model_5 fc11_3 ly52 ra52 rf52_3 (by decide) ?_
      refine G_iconst (ck dc293 (i := 92) rfl) ?_
      refine H_iald (ck dc293 (i := 93) rfl) ly55 (by decide) ra55 (by decide) (x := (M6 55 2)) rfl ?_
      obtain ⟨o14, h⟩ := h
      refine G_i2l o14 (ck dc293 (i := 94) rfl) ?_
      refine G_lload 5 rfl (ck dc293 (i := 95) rfl) ?_
      refine G_lmul (ck dc293 (i := 96) rfl) ?_
      refine G_ladd (ck dc293 (i := 97) rfl) ?_
      refine G_goto (tgt := 166) (by decide) (ck dc293 (i := 98) rfl) ?_
      refine G_lstore (L' := [(8, .inr (.inl ((((M6 55 1) * (M6 55 (3 + l2))) * l3) + ((M6 55 2) * l5)))), (7, .inl 1), (0, .inr (.inr 52)), (1, .inl l1), (2, .inl l2), (3, .inr (.inl l3)), (5, .inr (.inl l5))]) (mfx.lt mf293 (Nat.le_of_ble_eq_true rfl)) rfl (ck dc293 (i := 107) rfl) ?_
      refine G_iconst (ck dc293 (i := 108) rfl) ?_
      refine G_istore (L' := [(10, .inl 0), (8, .inr (.inl ((((M6 55 1) * (M6 55 (3 + l2))) * l3) + ((M6 55 2) * l5)))), (7, .inl 1), (0, .inr (.inr 52)), (1, .inl l1), (2, .inl l2), (3, .inr (.inl l3)), (5, .inr (.inl l5))]) (mfx.lt mf293 (Nat.le_of_ble_eq_true rfl)) rfl (ck dc293 (i := 109) rfl) ?_
      exact G_sub [3, 4, 5, 6, 1, 0] rfl h
  · replace h := h.2 c
    refine G_iconst (ck dc293 (i := 22) rfl) ?_
    refine G_istore (L' := [(8, .inl 0), (0, .inr (.inr 52)), (1, .inl l1), (2, .inl l2), (3, .inr (.inl l3)), (5, .inr (.inl l5)), (7, .inl l7)]) (mfx.lt mf293 (Nat.le_of_ble_eq_true rfl)) rfl (ck dc293 (i := 23) rfl) ?_
    exact G_sub [1, 2, 3, 4, 5, 6, 0] rfl h
theorem g_m_paysSo_36 (K : Nat) (l1 l2 l3 l5 l7 l8 : Int) (M : PM) (Q : Option PV → PM → Prop)
    (h : R32 l8 ∧ (3 ≤ l8 → G none (K + 1) jModel_paysSo 22 [(0, .inr (.inr 52)), (1, .inl l1), (2, .inl l2), (3, .inr (.inl l3)), (5, .inr (.inl l5)), (7, .inl (l7 + 1))] [] P0 P0 M Q) ∧ (¬ 3 ≤ l8 → Call K jModel_owes [.inr (.inr 52), .inl l7, .inl l2, .inl l8] P0 P0 M (retI fun r2 M3 => R32 r2 ∧ (0 ≤ ((l1 + (3 * l7)) + l8) ∧ ((l1 + (3 * l7)) + l8) < 80) ∧ G none (K + 1) jModel_paysSo 36 [(0, .inr (.inr 52)), (1, .inl l1), (2, .inl l2), (3, .inr (.inl l3)), (5, .inr (.inl (l5 + (r2 * (M3 72 ((l1 + (3 * l7)) + l8)))))), (7, .inl l7), (8, .inl (l8 + 1))] [] P0 P0 M3 Q))) : G none (K + 1) jModel_paysSo 36 [(0, .inr (.inr 52)), (1, .inl l1), (2, .inl l2), (3, .inr (.inl l3)), (5, .inr (.inl l5)), (7, .inl l7), (8, .inl l8)] [] P0 P0 M Q := by
  refine G_iload 6 rfl (ck dc293 (i := 24) rfl) ?_
  refine G_iconst (ck dc293 (i := 25) rfl) ?_
  obtain ⟨o1, h⟩ := h
  refine G_icmp_ge (tgt := 78) (by decide) o1 (by decide) (ck dc293 (i := 26) rfl) (fun c => ?_) (fun c => ?_)
  · replace h := h.1 c
    refine G_iinc (L' := [(7, .inl (l7 + 1)), (0, .inr (.inr 52)), (1, .inl l1), (2, .inl l2), (3, .inr (.inl l3)), (5, .inr (.inl l5)), (8, .inl l8)]) 5 rfl (mfx.lt mf293 (Nat.le_of_ble_eq_true rfl)) rfl (ck dc293 (i := 49) rfl) ?_
    refine G_goto (tgt := 22) (by decide) (ck dc293 (i := 50) rfl) ?_
    exact G_sub [1, 2, 3, 4, 5, 0] rfl h
  · replace h := h.2 c
    refine G_lload 4 rfl (ck dc293 (i := 27) rfl) ?_
    refine G_aload_n 0 rfl rfl (ck dc293 (i := 28) rfl) ?_
    refine G_iload 5 rfl (ck dc293 (i := 29) rfl) ?_
    refine G_iload_n 2 rfl rfl (ck dc293 (i := 30) rfl) ?_
    refine G_iload 6 rfl (ck dc293 (i := 31) rfl) ?_
    refine H_vI mf293 (As := [.inl l7, .inl l2, .inl l8]) (st := [.inr (.inl l5)]) (ck dc293 (i := 32) rfl) lk_Model_103 rfl rfl (Nat.le_of_ble_eq_true rfl) ly52 ra52 ⟨Nat.le_refl _, Nat.le_refl _⟩ h (fun r2 M3 h => ?_)
    obtain ⟨o4, h⟩ := h
    refine G_i2l o4 (ck dc293 (i := 33) rfl) ?_
    refine G_aload_n 0 rfl rfl (ck dc293 (i := 34) rfl) ?_
    refine H_getR mf293 (ck dc293 (i := 35) rfl) fw_Model_80 fc11_33 ly52 ra52 rf52_33 (by decide) ?_
    refine G_iload_n 1 rfl rfl (ck dc293 (i := 36) rfl) ?_
    refine G_iconst (ck dc293 (i := 37) rfl) ?_
    refine G_iload 5 rfl (ck dc293 (i := 38) rfl) ?_
    refine G_imul (ck dc293 (i := 39) rfl) ?_
    refine G_iadd (ck dc293 (i := 40) rfl) ?_
    refine G_iload 6 rfl (ck dc293 (i := 41) rfl) ?_
    refine G_iadd (ck dc293 (i := 42) rfl) ?_
    obtain ⟨o5, h⟩ := h
    refine H_lald (ck dc293 (i := 43) rfl) ly72 (by decide) ra72 o5 (x := (M3 72 ((l1 + (3 * l7)) + l8))) rfl ?_
    refine G_lmul (ck dc293 (i := 44) rfl) ?_
    refine G_ladd (ck dc293 (i := 45) rfl) ?_
    refine G_lstore (L' := [(5, .inr (.inl (l5 + (r2 * (M3 72 ((l1 + (3 * l7)) + l8)))))), (0, .inr (.inr 52)), (1, .inl l1), (2, .inl l2), (3, .inr (.inl l3)), (7, .inl l7), (8, .inl l8)]) (mfx.lt mf293 (Nat.le_of_ble_eq_true rfl)) rfl (ck dc293 (i := 46) rfl) ?_
    refine G_iinc (L' := [(8, .inl (l8 + 1)), (5, .inr (.inl (l5 + (r2 * (M3 72 ((l1 + (3 * l7)) + l8)))))), (0, .inr (.inr 52)), (1, .inl l1), (2, .inl l2), (3, .inr (.inl l3)), (7, .inl l7)]) 6 rfl (mfx.lt mf293 (Nat.le_of_ble_eq_true rfl)) rfl (ck dc293 (i := 47) rfl) ?_
    refine G_goto (tgt := 36) (by decide) (ck dc293 (i := 48) rfl) ?_
    exact G_sub [2, 3, 4, 5, 1, 6, 0] rfl h
