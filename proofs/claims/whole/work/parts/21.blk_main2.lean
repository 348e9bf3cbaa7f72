theorem c_x_image (K : Nat) (M : PM) (Q : Option PV → PM → Prop)
    (h : Call K jBook_copy [.inr (.inr 5), .inr (.inr 1)] P0 P0 M (retV fun M2 => Q (some (.inl (M2 5 0))) (mset M2 0 2 1))) : Call (K + 1) jClearingWaves_image [.inr (.inr 0)] P0 P0 M Q := by
  refine Call.intro (by decide +kernel) (mfx.le mf167 (Nat.le_of_ble_eq_true rfl)) (Nat.le_refl _) rfl ?_
  refine G_aload_n 0 rfl rfl (ck dc167 (i := 0) rfl) ?_
  refine H_getR mf167 (ck dc167 (i := 1) rfl) fw_ClearingWaves_18 fc10_1 ly0 ra0 rf0_1 (by decide) ?_
  refine G_aload_n 0 rfl rfl (ck dc167 (i := 2) rfl) ?_
  refine H_getR mf167 (ck dc167 (i := 3) rfl) fw_ClearingWaves_12 fc10_0 ly0 ra0 rf0_0 (by decide) ?_
  refine H_vV mf167 (As := [.inr (.inr 1)]) (st := []) (ck dc167 (i := 4) rfl) lk_ClearingWaves_356 rfl rfl (Nat.le_of_ble_eq_true rfl) ly5 ra5 ⟨Nat.le_refl _, Nat.le_refl _⟩ h (fun M2 h => ?_)
  refine G_aload_n 0 rfl rfl (ck dc167 (i := 5) rfl) ?_
  refine G_iconst (ck dc167 (i := 6) rfl) ?_
  refine H_putZ mf167 (ck dc167 (i := 7) rfl) fw_ClearingWaves_359 fc10_2 ly0 ra0 (Or.inl rfl) (Or.inr rfl) ?_
  refine G_aload_n 0 rfl rfl (ck dc167 (i := 8) rfl) ?_
  refine H_getR mf167 (ck dc167 (i := 9) rfl) fw_ClearingWaves_18 fc10_1 ly0 ra0 rf0_1 (by decide) ?_
  refine H_getI mf167 (ck dc167 (i := 10) rfl) fw_ClearingWaves_207 (Or.inl fc0_0) ly5 ra5 (x := (M2 5 0)) (by simp [mset, mcpy, mclr]) ?_
  exact H_iretI mf167 (ck dc167 (i := 11) rfl) rfl h
theorem c_x_undo (K : Nat) (M : PM) (Q : Option PV → PM → Prop)
    (h : R32 (M 0 2) ∧ (¬ (M 0 2) = 0 → Call K jBook_copy [.inr (.inr 1), .inr (.inr 5)] P0 P0 M (retV fun M3 => Call K jClearingWaves_noteChange [.inr (.inr 0)] P0 P0 M3 (retV fun M5 => Q (some (.inl (M5 1 0))) M5))) ∧ ((M 0 2) = 0 → Q (some (.inl (-3))) M)) : Call (K + 1) jClearingWaves_undo [.inr (.inr 0)] P0 P0 M Q := by
  refine Call.intro (by decide +kernel) (mfx.le mf169 (Nat.le_of_ble_eq_true rfl)) (Nat.le_refl _) rfl ?_
  refine G_aload_n 0 rfl rfl (ck dc169 (i := 0) rfl) ?_
  refine H_getI mf169 (ck dc169 (i := 1) rfl) fw_ClearingWaves_359 (Or.inr fc10_2) ly0 ra0 (x := (M 0 2)) rfl ?_
  obtain ⟨o1, h⟩ := h
  refine G_if_ne (tgt := 10) (by decide) o1 (ck dc169 (i := 2) rfl) (fun c => ?_) (fun c => ?_)
  · replace h := h.1 c
    refine G_aload_n 0 rfl rfl (ck dc169 (i := 5) rfl) ?_
    refine H_getR mf169 (ck dc169 (i := 6) rfl) fw_ClearingWaves_12 fc10_0 ly0 ra0 rf0_0 (by decide) ?_
    refine G_aload_n 0 rfl rfl (ck dc169 (i := 7) rfl) ?_
    refine H_getR mf169 (ck dc169 (i := 8) rfl) fw_ClearingWaves_18 fc10_1 ly0 ra0 rf0_1 (by decide) ?_
    refine H_vV mf169 (As := [.inr (.inr 5)]) (st := []) (ck dc169 (i := 9) rfl) lk_ClearingWaves_356 rfl rfl (Nat.le_of_ble_eq_true rfl) ly1 ra1 ⟨Nat.le_refl _, Nat.le_refl _⟩ h (fun M3 h => ?_)
    refine G_aload_n 0 rfl rfl (ck dc169 (i := 10) rfl) ?_
    refine H_vV mf169 (As := []) (st := []) (ck dc169 (i := 11) rfl) lk_ClearingWaves_105 rfl rfl (Nat.le_of_ble_eq_true rfl) ly0 ra0 ⟨Nat.le_refl _, Nat.le_refl _⟩ h (fun M5 h => ?_)
    refine G_aload_n 0 rfl rfl (ck dc169 (i := 12) rfl) ?_
    refine H_getR mf169 (ck dc169 (i := 13) rfl) fw_ClearingWaves_12 fc10_0 ly0 ra0 rf0_0 (by decide) ?_
    refine H_getI mf169 (ck dc169 (i := 14) rfl) fw_ClearingWaves_207 (Or.inl fc0_0) ly1 ra1 (x := (M5 1 0)) rfl ?_
    exact H_iretI mf169 (ck dc169 (i := 15) rfl) rfl h
  · replace h := h.2 c
    refine G_bipush (n := (-3)) rfl (ck dc169 (i := 3) rfl) ?_
    exact H_iretI mf169 (ck dc169 (i := 4) rfl) rfl h
