theorem c_x_struck (K : Nat) (a1 a2 : Int) (M : PM) (Q : Option PV → PM → Prop)
    (h : Call K jBook_hasHouse [.inr (.inr 1), .inl a2] P0 P0 M (retI fun r1 M2 => R32 r1 ∧ (¬ r1 = 0 → Call K jClearingWaves_isCoins [.inl a1] P0 P0 M2 (retI fun r4 M5 => R32 r4 ∧ (r4 = 0 → Q (some (.inl (-2))) M5) ∧ (¬ r4 = 0 → Call K jClearingWaves_failsWith [.inr (.inr 0), .inl a2, .inl (-a1)] P0 P0 M5 (retI fun r7 M8 => Q (some (.inl r7)) M8)))) ∧ (r1 = 0 → Q (some (.inl (-1))) M2))) : Call (K + 1) jClearingWaves_struck [.inr (.inr 0), .inl a1, .inl a2] P0 P0 M Q := by
  refine Call.intro (by decide +kernel) (mfx.le mf111 (Nat.le_of_ble_eq_true rfl)) (Nat.le_refl _) rfl ?_
  refine G_aload_n 0 rfl rfl (ck dc111 (i := 0) rfl) ?_
  refine H_getR mf111 (ck dc111 (i := 1) rfl) fw_ClearingWaves_12 fc10_0 ly0 ra0 rf0_0 (by decide) ?_
  refine G_iload_n 2 rfl rfl (ck dc111 (i := 2) rfl) ?_
  refine H_vZ mf111 (As := [.inl a2]) (st := []) (ck dc111 (i := 3) rfl) lk_ClearingWaves_108 rfl rfl (Nat.le_of_ble_eq_true rfl) ly1 ra1 ⟨Nat.le_refl _, Nat.le_refl _⟩ h (fun r1 M2 h => ?_)
  obtain ⟨o3, h⟩ := h
  refine G_if_ne (tgt := 13) (by decide) o3 (ck dc111 (i := 4) rfl) (fun c => ?_) (fun c => ?_)
  · replace h := h.1 c
    refine G_iload_n 1 rfl rfl (ck dc111 (i := 7) rfl) ?_
    refine H_sZ mf111 (As := [.inl a1]) (st := []) (ck dc111 (i := 8) rfl) lk_ClearingWaves_234 rfl rfl (Nat.le_of_ble_eq_true rfl) ⟨Nat.le_refl _, Nat.le_refl _⟩ h (fun r4 M5 h => ?_)
    obtain ⟨o6, h⟩ := h
    refine G_if_eq (tgt := 30) (by decide) o6 (ck dc111 (i := 9) rfl) (fun c => ?_) (fun c => ?_)
    · replace h := h.1 c
      refine G_bipush (n := (-2)) rfl (ck dc111 (i := 16) rfl) ?_
      exact H_iretI mf111 (ck dc111 (i := 17) rfl) rfl h
    · replace h := h.2 c
      refine G_aload_n 0 rfl rfl (ck dc111 (i := 10) rfl) ?_
      refine G_iload_n 2 rfl rfl (ck dc111 (i := 11) rfl) ?_
      refine G_iload_n 1 rfl rfl (ck dc111 (i := 12) rfl) ?_
      refine G_ineg (ck dc111 (i := 13) rfl) ?_
      refine H_vI mf111 (As := [.inl a2, .inl (-a1)]) (st := []) (ck dc111 (i := 14) rfl) lk_ClearingWaves_237 rfl rfl (Nat.le_of_ble_eq_true rfl) ly0 ra0 ⟨Nat.le_refl _, Nat.le_refl _⟩ h (fun r7 M8 h => ?_)
      refine G_goto (tgt := 32) (by decide) (ck dc111 (i := 15) rfl) ?_
      exact H_iretI mf111 (ck dc111 (i := 17) rfl) rfl h
  · replace h := h.2 c
    refine G_iconst (ck dc111 (i := 5) rfl) ?_
    exact H_iretI mf111 (ck dc111 (i := 6) rfl) rfl h
theorem c_x_mostSaved (K : Nat) (a1 a2 : Int) (M : PM) (Q : Option PV → PM → Prop)
    (h : G none (K + 1) jClearingWaves_mostSaved 14 [(0, .inr (.inr 0)), (1, .inl a1), (2, .inl a2), (3, .inl (-1)), (4, .inl 0), (5, .inr (.inl 0)), (7, .inr (.inl 1)), (9, .inl 0)] [] P0 P0 M Q) : Call (K + 1) jClearingWaves_mostSaved [.inr (.inr 0), .inl a1, .inl a2] P0 P0 M Q := by
  refine Call.intro (by decide +kernel) (mfx.le mf113 (Nat.le_of_ble_eq_true rfl)) (Nat.le_refl _) rfl ?_
  refine G_iconst (ck dc113 (i := 0) rfl) ?_
  refine G_istore_n (L' := [(3, .inl (-1)), (0, .inr (.inr 0)), (1, .inl a1), (2, .inl a2)]) rfl (mfx.lt mf113 (Nat.le_of_ble_eq_true rfl)) rfl (ck dc113 (i := 1) rfl) ?_
  refine G_iconst (ck dc113 (i := 2) rfl) ?_
  refine G_istore (L' := [(4, .inl 0), (3, .inl (-1)), (0, .inr (.inr 0)), (1, .inl a1), (2, .inl a2)]) (mfx.lt mf113 (Nat.le_of_ble_eq_true rfl)) rfl (ck dc113 (i := 3) rfl) ?_
  refine G_lconst (v := 0) rfl (ck dc113 (i := 4) rfl) ?_
  refine G_lstore (L' := [(5, .inr (.inl 0)), (4, .inl 0), (3, .inl (-1)), (0, .inr (.inr 0)), (1, .inl a1), (2, .inl a2)]) (mfx.lt mf113 (Nat.le_of_ble_eq_true rfl)) rfl (ck dc113 (i := 5) rfl) ?_
  refine G_lconst (v := 1) rfl (ck dc113 (i := 6) rfl) ?_
  refine G_lstore (L' := [(7, .inr (.inl 1)), (5, .inr (.inl 0)), (4, .inl 0), (3, .inl (-1)), (0, .inr (.inr 0)), (1, .inl a1), (2, .inl a2)]) (mfx.lt mf113 (Nat.le_of_ble_eq_true rfl)) rfl (ck dc113 (i := 7) rfl) ?_
  refine G_iconst (ck dc113 (i := 8) rfl) ?_
  refine G_istore (L' := [(9, .inl 0), (7, .inr (.inl 1)), (5, .inr (.inl 0)), (4, .inl 0), (3, .inl (-1)), (0, .inr (.inr 0)), (1, .inl a1), (2, .inl a2)]) (mfx.lt mf113 (Nat.le_of_ble_eq_true rfl)) rfl (ck dc113 (i := 9) rfl) ?_
  exact G_sub [5, 6, 7, 4, 3, 2, 1, 0] rfl h
set_option maxHeartbeats 20000000 in
theorem g_x_mostSaved_14 (K : Nat) (l1 l2 l3 l4 l5 l7 l9 : Int) (M : PM) (Q : Option PV → PM → Prop)
    (h : R32 l9 ∧ R32 (M 1 0) ∧ ((M 1 0) ≤ l9 → R32 l3 ∧ Q (some (.inl (mx2 l3 0))) M) ∧ (¬ (M 1 0) ≤ l9 → (0 ≤ l9 ∧ l9 < 5) ∧ Call K jClearing_run [.inr (.inr 24)] P0 P0 (mset M 9 l9 ((M 9 l9) + l1)) (retV fun M6 => Call K jJInteger_bitCount [.inl (M6 24 1)] P0 P0 (mset M6 9 l9 ((M6 9 l9) - l1)) (retI fun r7 M8 => Call K jClearing_allPaid [.inr (.inr 24)] P0 P0 M8 (retL fun r9 M10 => Call K jClearing_bottom [.inr (.inr 24), .inl (M10 24 0)] P0 P0 M10 (retL fun r11 M12 => Call K jJInteger_compare [.inl l4, .inl r7] P0 P0 M12 (retI fun r13 M14 => Call K jRatio_order [.inr (.inl r9), .inr (.inl r11), .inr (.inl l5), .inr (.inl l7)] P0 P0 M14 (retI fun r15 M16 => R32 l2 ∧ (¬ l2 = 0 → (¬ l2 = 0 → R32 l3 ∧ (l3 < 0 → G none (K + 1) jClearingWaves_mostSaved 14 [(0, .inr (.inr 0)), (1, .inl l1), (2, .inl l2), (3, .inl l9), (4, .inl r7), (5, .inr (.inl r9)), (7, .inr (.inl r11)), (9, .inl (l9 + 1))] [] P0 P0 M16 Q) ∧ (¬ l3 < 0 → R32 r15 ∧ (0 < r15 → G none (K + 1) jClearingWaves_mostSaved 14 [(0, .inr (.inr 0)), (1, .inl l1), (2, .inl l2), (3, .inl l9), (4, .inl r7), (5, .inr (.inl r9)), (7, .inr (.inl r11)), (9, .inl (l9 + 1))] [] P0 P0 M16 Q) ∧ (¬ 0 < r15 → (¬ r15 = 0 → G none (K + 1) jClearingWaves_mostSaved 14 [(0, .inr (.inr 0)), (1, .inl l1), (2, .inl l2), (3, .inl l3), (4, .inl l4), (5, .inr (.inl l5)), (7, .inr (.inl l7)), (9, .inl (l9 + 1))] [] P0 P0 M16 Q) ∧ (r15 = 0 → R32 r13 ∧ (r13 ≤ 0 → G none (K + 1) jClearingWaves_mostSaved 14 [(0, .inr (.inr 0)), (1, .inl l1), (2, .inl l2), (3, .inl l3), (4, .inl l4), (5, .inr (.inl l5)), (7, .inr (.inl l7)), (9, .inl (l9 + 1))] [] P0 P0 M16 Q) ∧ (¬ r13 ≤ 0 → G none (K + 1) jClearingWaves_mostSaved 14 [(0, .inr (.inr 0)), (1, .inl l1), (2, .inl l2), (3, .inl l9), (4, .inl r7), (5, .inr (.inl r9)), (7, .inr (.inl r11)), (9, .inl (l9 + 1))] [] P0 P0 M16 Q))))) ∧ (l2 = 0 → R32 l3 ∧ (l3 < 0 → G none (K + 1) jClearingWaves_mostSaved 14 [(0, .inr (.inr 0)), (1, .inl l1), (2, .inl l2), (3, .inl l9), (4, .inl r7), (5, .inr (.inl r9)), (7, .inr (.inl r11)), (9, .inl (l9 + 1))] [] P0 P0 M16 Q) ∧ (¬ l3 < 0 → R32 r15 ∧ (0 < r15 → G none (K + 1) jClearingWaves_mostSaved 14 [(0, .inr (.inr 0)), (1, .inl l1), (2, .inl l2), (3, .inl l9), (4, .inl r7), (5, .inr (.inl r9)), (7, .inr (.inl r11)), (9, .inl (l9 + 1))] [] P0 P0 M16 Q) ∧ (¬ 0 < r15 → (¬ r15 = 0 → G none (K + 1) jClearingWaves_mostSaved 14 [(0, .inr (.inr 0)), (1, .inl l1), (2, .inl l2), (3, .inl l3), (4, .inl l4), (5, .inr (.inl l5)), (7, .inr (.inl l7)), (9, .inl (l9 + 1))] [] P0 P0 M16 Q) ∧ (r15 = 0 → (r15 ≤ 0 → G none (K + 1) jClearingWaves_mostSaved 14 [(0, .inr (.inr 0)), (1, .inl l1), (2, .inl l2), (3, .inl l3), (4, .inl l4), (5, .inr (.inl l5)), (7, .inr (.inl l7)), (9, .inl (l9 + 1))] [] P0 P0 M16 Q) ∧ (¬ r15 ≤ 0 → G none (K + 1) jClearingWaves_mostSaved 14 [(0, .inr (.inr 0)), (1, .inl l1), (2, .inl l2), (3, .inl l9), (4, .inl r7), (5, .inr (.inl r9)), (7, .inr (.inl r11)), (9, .inl (l9 + 1))] [] P0 P0 M16 Q)))))) ∧ (l2 = 0 → (¬ l2 = 0 → R32 l3 ∧ (l3 < 0 → G none (K + 1) jClearingWaves_mostSaved 14 [(0, .inr (.inr 0)), (1, .inl l1), (2, .inl l2), (3, .inl l9), (4, .inl r7), (5, .inr (.inl r9)), (7, .inr (.inl r11)), (9, .inl (l9 + 1))] [] P0 P0 M16 Q) ∧ (¬ l3 < 0 → R32 r13 ∧ (0 < r13 → G none (K + 1) jClearingWaves_mostSaved 14 [(0, .inr (.inr 0)), (1, .inl l1), (2, .inl l2), (3, .inl l9), (4, .inl r7), (5, .inr (.inl r9)), (7, .inr (.inl r11)), (9, .inl (l9 + 1))] [] P0 P0 M16 Q) ∧ (¬ 0 < r13 → (¬ r13 = 0 → G none (K + 1) jClearingWaves_mostSaved 14 [(0, .inr (.inr 0)), (1, .inl l1), (2, .inl l2), (3, .inl l3), (4, .inl l4), (5, .inr (.inl l5)), (7, .inr (.inl l7)), (9, .inl (l9 + 1))] [] P0 P0 M16 Q) ∧ (r13 = 0 → (r13 ≤ 0 → G none (K + 1) jClearingWaves_mostSaved 14 [(0, .inr (.inr 0)), (1, .inl l1), (2, .inl l2), (3, .inl l3), (4, .inl l4), (5, .inr (.inl l5)), (7, .inr (.inl l7)), (9, .inl (l9 + 1))] [] P0 P0 M16 Q) ∧ (¬ r13 ≤ 0 → G none (K + 1) jClearingWaves_mostSaved 14 [(0, .inr (.inr 0)), (1, .inl l1), (2, .inl l2), (3, .inl l9), (4, .inl r7), (5, .inr (.inl r9)), (7, .inr (.inl r11)), (9, .inl (l9 + 1))] [] P0 P0 M16 Q))))) ∧ (l2 = 0 → R32 l3 ∧ (l3 < 0 → G none (K + 1) jClearingWaves_mostSaved 14 [(0, .inr (.inr 0)), (1, .inl l1), (2, .inl l2), (3, .inl l9), (4, .inl r7), (5, .inr (.inl r9)), (7, .inr (.inl r11)), (9, .inl (l9 + 1))] [] P0 P0 M16 Q) ∧ (¬ l3 < 0 → R32 r13 ∧ (0 < r13 → G none (K + 1) jClearingWaves_mostSaved 14 [(0, .inr (.inr 0)), (1, .inl l1), (2, .inl l2), (3, .inl l9), (4, .inl r7), (5, .inr (.inl r9)), (7, .inr (.inl r11)), (9, .inl (l9 + 1))] [] P0 P0 M16 Q) ∧ (¬ 0 < r13 → (¬ r13 = 0 → G none (K + 1) jClearingWaves_mostSaved 14 [(0, .inr (.inr 0)), (1, .inl l1), (2, .inl l2), (3, .inl l3), (4, .inl l4), (5, .inr (.inl l5)), (7, .inr (.inl l7)), (9, .inl (l9 + 1))] [] P0 P0 M16 Q) ∧ (r13 = 0 → R32 r15 ∧ (r15 ≤ 0 → G none (K + 1) jClearingWaves_mostSaved 14 [(0, .inr (.inr 0)), (1, .inl l1), (2, .inl l2), (3, .inl l3), (4, .inl l4), (5, .inr (.inl l5)), (7, .inr (.inl l7)), (9, .inl (l9 + 1))] [] P0 P0 M16 Q) ∧ (¬ r15 ≤ 0 → G none (K + 1) jClearingWaves_mostSaved 14 [(0, .inr (.inr 0)), (1, .inl l1), (2, .inl l2), (3, .inl l9), (4, .inl r7), (5, .inr (.inl r9)), (7, .inr (.inl r11)), (9, .inl (l9 + 1))] [] P0 P0 M16 Q)))))))))))))) : G none (K + 1) jClearingWaves_mostSaved 14 [(0, .inr (.inr 0)), (1, .inl l1), (2, .inl l2), (3, .inl l3), (4, .inl l4), (5, .inr (.inl l5)), (7, .inr (.inl l7)), (9, .inl l9)] [] P0 P0 M Q := by
  refine G_iload 7 rfl (ck dc113 (i := 10) rfl) ?_
  refine G_aload_n 0 rfl rfl (ck dc113 (i := 11) rfl) ?_
  refine H_getR mf113 (ck dc113 (i := 12) rfl) fw_ClearingWaves_12 fc10_0 ly0 ra0 rf0_0 (by decide) ?_
  refine H_getI mf113 (ck dc113 (i := 13) rfl) fw_ClearingWaves_207 (Or.inl fc0_0) ly1 ra1 (x := (M 1 0)) rfl ?_
  obtain ⟨o1, h⟩ := h
  obtain ⟨o2, h⟩ := h
  refine G_icmp_ge (tgt := 180) (by decide) o1 o2 (ck dc113 (i := 14) rfl) (fun c => ?_) (fun c => ?_)
  · replace h := h.1 c
    refine G_iload_n 3 rfl rfl (ck dc113 (i := 90) rfl) ?_
    refine G_iconst (ck dc113 (i := 91) rfl) ?_
    obtain ⟨o3, h⟩ := h
    refine H_mmax mf113 (ck dc113 (i := 92) rfl) lm_ClearingWaves_371 (Nat.le_refl _) (Nat.le_of_ble_eq_true rfl) o3 (by decide) ?_
    exact H_iretI mf113 (ck dc113 (i := 93) rfl) rfl h
  · replace h := h.2 c
    refine G_aload_n 0 rfl rfl (ck dc113 (i := 15) rfl) ?_
    refine H_getR mf113 (ck dc113 (i := 16) rfl) fw_ClearingWaves_21 fc10_3 ly0 ra0 rf0_3 (by decide) ?_
    refine G_iload 7 rfl (ck dc113 (i := 17) rfl) ?_
    refine G_dup2 rfl rfl (ck dc113 (i := 18) rfl) ?_
    obtain ⟨o4, h⟩ := h
    refine H_iald (ck dc113 (i := 19) rfl) ly9 (by decide) ra9 o4 (x := (M 9 l9)) rfl ?_
    refine G_iload_n 1 rfl rfl (ck dc113 (i := 20) rfl) ?_
    refine G_iadd (ck dc113 (i := 21) rfl) ?_
    refine G_iast (ck dc113 (i := 22) rfl) ra9 ly9 (by decide) o4 ?_
    refine G_aload_n 0 rfl rfl (ck dc113 (i := 23) rfl) ?_
    refine H_getR mf113 (ck dc113 (i := 24) rfl) fw_ClearingWaves_40 fc10_6 ly0 ra0 rf0_6 (by decide) ?_
    refine H_vV mf113 (As := []) (st := []) (ck dc113 (i := 25) rfl) lk_ClearingWaves_264 rfl rfl (Nat.le_of_ble_eq_true rfl) ly24 ra24 ⟨Nat.le_refl _, Nat.le_refl _⟩ h (fun M6 h => ?_)
    refine G_aload_n 0 rfl rfl (ck dc113 (i := 26) rfl) ?_
    refine H_getR mf113 (ck dc113 (i := 27) rfl) fw_ClearingWaves_21 fc10_3 ly0 ra0 rf0_3 (by decide) ?_
    refine G_iload 7 rfl (ck dc113 (i := 28) rfl) ?_
    refine G_dup2 rfl rfl (ck dc113 (i := 29) rfl) ?_
    refine H_iald (ck dc113 (i := 30) rfl) ly9 (by decide) ra9 o4 (x := (M6 9 l9)) rfl ?_
    refine G_iload_n 1 rfl rfl (ck dc113 (i := 31) rfl) ?_
    refine G_isub (ck dc113 (i := 32) rfl) ?_
    refine G_iast (ck dc113 (i := 33) rfl) ra9 ly9 (by decide) o4 ?_
    refine G_aload_n 0 rfl rfl (ck dc113 (i := 34) rfl) ?_
    refine H_getR mf113 (ck dc113 (i := 35) rfl) fw_ClearingWaves_40 fc10_6 ly0 ra0 rf0_6 (by decide) ?_
    refine H_getI mf113 (ck dc113 (i := 36) rfl) fw_ClearingWaves_155 (Or.inl fc1_1) ly24 ra24 (x := (M6 24 1)) (by simp [mset, mcpy, mclr]) ?_
    refine H_sI mf113 (As := [.inl (M6 24 1)]) (st := []) (ck dc113 (i := 37) rfl) lk_ClearingWaves_249 rfl rfl (Nat.le_of_ble_eq_true rfl) ⟨Nat.le_refl _, Nat.le_refl _⟩ h (fun r7 M8 h => ?_)
    refine G_istore (L' := [(10, .inl r7), (0, .inr (.inr 0)), (1, .inl l1), (2, .inl l2), (3, .inl l3), (4, .inl l4), (5, .inr (.inl l5)), (7, .inr (.inl l7)), (9, .inl l9)]) (mfx.lt mf113 (Nat.le_of_ble_eq_true rfl)) rfl (ck dc113 (i := 38) rfl) ?_
    refine G_aload_n 1 rfl rfl (ck dc113 (i := 39) rfl) ?_
    refine H_getR mf113 (ck dc113 (i := 40) rfl) fw_ClearingWaves_40 fc10_6 ly0 ra0 rf0_6 (by decide) ?_
    refine H_vL mf113 (As := []) (st := []) (ck dc113 (i := 41) rfl) lk_ClearingWaves_203 rfl rfl (Nat.le_of_ble_eq_true rfl) ly24 ra24 ⟨Nat.le_refl _, Nat.le_refl _⟩ h (fun r9 M10 h => ?_)
    refine G_lstore (L' := [(11, .inr (.inl r9)), (10, .inl r7), (0, .inr (.inr 0)), (1, .inl l1), (2, .inl l2), (3, .inl l3), (4, .inl l4), (5, .inr (.inl l5)), (7, .inr (.inl l7)), (9, .inl l9)]) (mfx.lt mf113 (Nat.le_of_ble_eq_true rfl)) rfl (ck dc113 (i := 42) rfl) ?_
    refine G_aload_n 2 rfl rfl (ck dc113 (i := 43) rfl) ?_
    refine H_getR mf113 (ck dc113 (i := 44) rfl) fw_ClearingWaves_40 fc10_6 ly0 ra0 rf0_6 (by decide) ?_
    refine G_aload_n 2 rfl rfl (ck dc113 (i := 45) rfl) ?_
    refine H_getR mf113 (ck dc113 (i := 46) rfl) fw_ClearingWaves_40 fc10_6 ly0 ra0 rf0_6 (by decide) ?_
    refine H_getI mf113 (ck dc113 (i := 47) rfl) fw_ClearingWaves_149 (Or.inl fc1_0) ly24 ra24 (x := (M10 24 0)) rfl ?_
    refine H_vL mf113 (As := [.inl (M10 24 0)]) (st := []) (ck dc113 (i := 48) rfl) lk_ClearingWaves_175 rfl rfl (Nat.le_of_ble_eq_true rfl) ly24 ra24 ⟨Nat.le_refl _, Nat.le_refl _⟩ h (fun r11 M12 h => ?_)
    refine G_lstore (L' := [(13, .inr (.inl r11)), (11, .inr (.inl r9)), (10, .inl r7), (0, .inr (.inr 0)), (1, .inl l1), (2, .inl l2), (3, .inl l3), (4, .inl l4), (5, .inr (.inl l5)), (7, .inr (.inl l7)), (9, .inl l9)]) (mfx.lt mf113 (Nat.le_of_ble_eq_true rfl)) rfl (ck dc113 (i := 49) rfl) ?_
    refine G_iload 7 rfl (ck dc113 (i := 50) rfl) ?_
    refine G_iload 2 rfl (ck dc113 (i := 51) rfl) ?_
    refine H_sI mf113 (As := [.inl l4, .inl r7]) (st := []) (ck dc113 (i := 52) rfl) lk_ClearingWaves_376 rfl rfl (Nat.le_of_ble_eq_true rfl) ⟨Nat.le_refl _, Nat.le_refl _⟩ h (fun r13 M14 h => ?_)
    refine G_istore (L' := [(15, .inl r13), (13, .inr (.inl r11)), (11, .inr (.inl r9)), (10, .inl r7), (0, .inr (.inr 0)), (1, .inl l1), (2, .inl l2), (3, .inl l3), (4, .inl l4), (5, .inr (.inl l5)), (7, .inr (.inl l7)), (9, .inl l9)]) (mfx.lt mf113 (Nat.le_of_ble_eq_true rfl)) rfl (ck dc113 (i := 53) rfl) ?_
    refine G_lload 2 rfl (ck dc113 (i := 54) rfl) ?_
    refine G_lload 1 rfl (ck dc113 (i := 55) rfl) ?_
    refine G_lload 9 rfl (ck dc113 (i := 56) rfl) ?_
    refine G_lload 10 rfl (ck dc113 (i := 57) rfl) ?_
    refine H_sI mf113 (As := [.inr (.inl r9), .inr (.inl r11), .inr (.inl l5), .inr (.inl l7)]) (st := []) (ck dc113 (i := 58) rfl) lk_ClearingWaves_304 rfl rfl (Nat.le_of_ble_eq_true rfl) ⟨Nat.le_refl _, Nat.le_refl _⟩ h (fun r15 M16 h => ?_)
    refine G_istore (L' := [(16, .inl r15), (15, .inl r13), (13, .inr (.inl r11)), (11, .inr (.inl r9)), (10, .inl r7), (0, .inr (.inr 0)), (1, .inl l1), (2, .inl l2), (3, .inl l3), (4, .inl l4), (5, .inr (.inl l5)), (7, .inr (.inl l7)), (9, .inl l9)]) (mfx.lt mf113 (Nat.le_of_ble_eq_true rfl)) rfl (ck dc113 (i := 59) rfl) ?_
    refine G_iload_n 7 rfl rfl (ck dc113 (i := 60) rfl) ?_
    obtain ⟨o17, h⟩ := h
    refine G_if_ne (tgt := 123) (by decide) o17 (ck dc113 (i := 61) rfl) (fun c => ?_) (fun c => ?_)
    · replace h := h.1 c
      refine G_iload 0 rfl (ck dc113 (i := 64) rfl) ?_
      refine G_istore (L' := [(17, .inl r15), (16, .inl r15), (15, .inl r13), (13, .inr (.inl r11)), (11, .inr (.inl r9)), (10, .inl r7), (0, .inr (.inr 0)), (1, .inl l1), (2, .inl l2), (3, .inl l3), (4, .inl l4), (5, .inr (.inl l5)), (7, .inr (.inl l7)), (9, .inl l9)]) (mfx.lt mf113 (Nat.le_of_ble_eq_true rfl)) rfl (ck dc113 (i := 65) rfl) ?_
      refine G_iload_n 8 rfl rfl (ck dc113 (i := 66) rfl) ?_
      refine G_if_ne (tgt := 136) (by decide) o17 (ck dc113 (i := 67) rfl) (fun c => ?_) (fun c => ?_)
      · replace h := h.1 c
        refine G_iload 2 rfl (ck dc113 (i := 70) rfl) ?_
        refine G_istore (L' := [(18, .inl r13), (17, .inl r15), (16, .inl r15), (15, .inl r13), (13, .inr (.inl r11)), (11, .inr (.inl r9)), (10, .inl r7), (0, .inr (.inr 0)), (1, .inl l1), (2, .inl l2), (3, .inl l3), (4, .inl l4), (5, .inr (.inl l5)), (7, .inr (.inl l7)), (9, .inl l9)]) (mfx.lt mf113 (Nat.le_of_ble_eq_true rfl)) rfl (ck dc113 (i := 71) rfl) ?_
        refine G_iload_n 10 rfl rfl (ck dc113 (i := 72) rfl) ?_
        obtain ⟨o18, h⟩ := h
        refine G_if_lt (tgt := 159) (by decide) o18 (ck dc113 (i := 73) rfl) (fun c => ?_) (fun c => ?_)
        · replace h := h.1 c
          refine G_iload 14 rfl (ck dc113 (i := 80) rfl) ?_
          refine G_istore_n (L' := [(3, .inl l9), (18, .inl r13), (17, .inl r15), (16, .inl r15), (15, .inl r13), (13, .inr (.inl r11)), (11, .inr (.inl r9)), (10, .inl r7), (0, .inr (.inr 0)), (1, .inl l1), (2, .inl l2), (4, .inl l4), (5, .inr (.inl l5)), (7, .inr (.inl l7)), (9, .inl l9)]) rfl (mfx.lt mf113 (Nat.le_of_ble_eq_true rfl)) rfl (ck dc113 (i := 81) rfl) ?_
          refine G_iload 7 rfl (ck dc113 (i := 82) rfl) ?_
          refine G_istore (L' := [(4, .inl r7), (3, .inl l9), (18, .inl r13), (17, .inl r15), (16, .inl r15), (15, .inl r13), (13, .inr (.inl r11)), (11, .inr (.inl r9)), (10, .inl r7), (0, .inr (.inr 0)), (1, .inl l1), (2, .inl l2), (5, .inr (.inl l5)), (7, .inr (.inl l7)), (9, .inl l9)]) (mfx.lt mf113 (Nat.le_of_ble_eq_true rfl)) rfl (ck dc113 (i := 83) rfl) ?_
          refine G_lload 7 rfl (ck dc113 (i := 84) rfl) ?_
          refine G_lstore (L' := [(5, .inr (.inl r9)), (4, .inl r7), (3, .inl l9), (18, .inl r13), (17, .inl r15), (16, .inl r15), (15, .inl r13), (13, .inr (.inl r11)), (11, .inr (.inl r9)), (10, .inl r7), (0, .inr (.inr 0)), (1, .inl l1), (2, .inl l2), (7, .inr (.inl l7)), (9, .inl l9)]) (mfx.lt mf113 (Nat.le_of_ble_eq_true rfl)) rfl (ck dc113 (i := 85) rfl) ?_
          refine G_lload 7 rfl (ck dc113 (i := 86) rfl) ?_
          refine G_lstore (L' := [(7, .inr (.inl r11)), (5, .inr (.inl r9)), (4, .inl r7), (3, .inl l9), (18, .inl r13), (17, .inl r15), (16, .inl r15), (15, .inl r13), (13, .inr (.inl r11)), (11, .inr (.inl r9)), (10, .inl r7), (0, .inr (.inr 0)), (1, .inl l1), (2, .inl l2), (9, .inl l9)]) (mfx.lt mf113 (Nat.le_of_ble_eq_true rfl)) rfl (ck dc113 (i := 87) rfl) ?_
          refine G_iinc (L' := [(9, .inl (l9 + 1)), (7, .inr (.inl r11)), (5, .inr (.inl r9)), (4, .inl r7), (3, .inl l9), (18, .inl r13), (17, .inl r15), (16, .inl r15), (15, .inl r13), (13, .inr (.inl r11)), (11, .inr (.inl r9)), (10, .inl r7), (0, .inr (.inr 0)), (1, .inl l1), (2, .inl l2)]) 14 rfl (mfx.lt mf113 (Nat.le_of_ble_eq_true rfl)) rfl (ck dc113 (i := 88) rfl) ?_
          refine G_goto (tgt := 14) (by decide) (ck dc113 (i := 89) rfl) ?_
          exact G_sub [12, 13, 14, 4, 3, 2, 1, 0] rfl h
        · replace h := h.2 c
          refine G_iload 1 rfl (ck dc113 (i := 74) rfl) ?_
          obtain ⟨o19, h⟩ := h
          refine G_if_gt (tgt := 159) (by decide) o19 (ck dc113 (i := 75) rfl) (fun c => ?_) (fun c => ?_)
          · replace h := h.1 c
            refine G_iload 14 rfl (ck dc113 (i := 80) rfl) ?_
            refine G_istore_n (L' := [(3, .inl l9), (18, .inl r13), (17, .inl r15), (16, .inl r15), (15, .inl r13), (13, .inr (.inl r11)), (11, .inr (.inl r9)), (10, .inl r7), (0, .inr (.inr 0)), (1, .inl l1), (2, .inl l2), (4, .inl l4), (5, .inr (.inl l5)), (7, .inr (.inl l7)), (9, .inl l9)]) rfl (mfx.lt mf113 (Nat.le_of_ble_eq_true rfl)) rfl (ck dc113 (i := 81) rfl) ?_
            refine G_iload 7 rfl (ck dc113 (i := 82) rfl) ?_
            refine G_istore (L' := [(4, .inl r7), (3, .inl l9), (18, .inl r13), (17, .inl r15), (16, .inl r15), (15, .inl r13), (13, .inr (.inl r11)), (11, .inr (.inl r9)), (10, .inl r7), (0, .inr (.inr 0)), (1, .inl l1), (2, .inl l2), (5, .inr (.inl l5)), (7, .inr (.inl l7)), (9, .inl l9)]) (mfx.lt mf113 (Nat.le_of_ble_eq_true rfl)) rfl (ck dc113 (i := 83) rfl) ?_
            refine G_lload 7 rfl (ck dc113 (i := 84) rfl) ?_
            refine G_lstore (L' := [(5, .inr (.inl r9)), (4, .inl r7), (3, .inl l9), (18, .inl r13), (17, .inl r15), (16, .inl r15), (15, .inl r13), (13, .inr (.inl r11)), (11, .inr (.inl r9)), (10, .inl r7), (0, .inr (.inr 0)), (1, .inl l1), (2, .inl l2), (7, .inr (.inl l7)), (9, .inl l9)]) (mfx.lt mf113 (Nat.le_of_ble_eq_true rfl)) rfl (ck dc113 (i := 85) rfl) ?_
            refine G_lload 7 rfl (ck dc113 (i := 86) rfl) ?_
            refine G_lstore (L' := [(7, .inr (.inl r11)), (5, .inr (.inl r9)), (4, .inl r7), (3, .inl l9), (18, .inl r13), (17, .inl r15), (16, .inl r15), (15, .inl r13), (13, .inr (.inl r11)), (11, .inr (.inl r9)), (10, .inl r7), (0, .inr (.inr 0)), (1, .inl l1), (2, .inl l2), (9, .inl l9)]) (mfx.lt mf113 (Nat.le_of_ble_eq_true rfl)) rfl (ck dc113 (i := 87) rfl) ?_
            refine G_iinc (L' := [(9, .inl (l9 + 1)), (7, .inr (.inl r11)), (5, .inr (.inl r9)), (4, .inl r7), (3, .inl l9), (18, .inl r13), (17, .inl r15), (16, .inl r15), (15, .inl r13), (13, .inr (.inl r11)), (11, .inr (.inl r9)), (10, .inl r7), (0, .inr (.inr 0)), (1, .inl l1), (2, .inl l2)]) 14 rfl (mfx.lt mf113 (Nat.le_of_ble_eq_true rfl)) rfl (ck dc113 (i := 88) rfl) ?_
            refine G_goto (tgt := 14) (by decide) (ck dc113 (i := 89) rfl) ?_
            exact G_sub [12, 13, 14, 4, 3, 2, 1, 0] rfl h
          · replace h := h.2 c
            refine G_iload 1 rfl (ck dc113 (i := 76) rfl) ?_
            refine G_if_ne (tgt := 174) (by decide) o19 (ck dc113 (i := 77) rfl) (fun c => ?_) (fun c => ?_)
            · replace h := h.1 c
              refine G_iinc (L' := [(9, .inl (l9 + 1)), (18, .inl r13), (17, .inl r15), (16, .inl r15), (15, .inl r13), (13, .inr (.inl r11)), (11, .inr (.inl r9)), (10, .inl r7), (0, .inr (.inr 0)), (1, .inl l1), (2, .inl l2), (3, .inl l3), (4, .inl l4), (5, .inr (.inl l5)), (7, .inr (.inl l7))]) 14 rfl (mfx.lt mf113 (Nat.le_of_ble_eq_true rfl)) rfl (ck dc113 (i := 88) rfl) ?_
              refine G_goto (tgt := 14) (by decide) (ck dc113 (i := 89) rfl) ?_
              exact G_sub [8, 9, 10, 11, 12, 13, 14, 0] rfl h
            · replace h := h.2 c
              refine G_iload 0 rfl (ck dc113 (i := 78) rfl) ?_
              obtain ⟨o20, h⟩ := h
              refine G_if_le (tgt := 174) (by decide) o20 (ck dc113 (i := 79) rfl) (fun c => ?_) (fun c => ?_)
              · replace h := h.1 c
                refine G_iinc (L' := [(9, .inl (l9 + 1)), (18, .inl r13), (17, .inl r15), (16, .inl r15), (15, .inl r13), (13, .inr (.inl r11)), (11, .inr (.inl r9)), (10, .inl r7), (0, .inr (.inr 0)), (1, .inl l1), (2, .inl l2), (3, .inl l3), (4, .inl l4), (5, .inr (.inl l5)), (7, .inr (.inl l7))]) 14 rfl (mfx.lt mf113 (Nat.le_of_ble_eq_true rfl)) rfl (ck dc113 (i := 88) rfl) ?_
                refine G_goto (tgt := 14) (by decide) (ck dc113 (i := 89) rfl) ?_
                exact G_sub [8, 9, 10, 11, 12, 13, 14, 0] rfl h
              · replace h := h.2 c
                refine G_iload 14 rfl (ck dc113 (i := 80) rfl) ?_
                refine G_istore_n (L' := [(3, .inl l9), (18, .inl r13), (17, .inl r15), (16, .inl r15), (15, .inl r13), (13, .inr (.inl r11)), (11, .inr (.inl r9)), (10, .inl r7), (0, .inr (.inr 0)), (1, .inl l1), (2, .inl l2), (4, .inl l4), (5, .inr (.inl l5)), (7, .inr (.inl l7)), (9, .inl l9)]) rfl (mfx.lt mf113 (Nat.le_of_ble_eq_true rfl)) rfl (ck dc113 (i := 81) rfl) ?_
                refine G_iload 7 rfl (ck dc113 (i := 82) rfl) ?_
                refine G_istore (L' := [(4, .inl r7), (3, .inl l9), (18, .inl r13), (17, .inl r15), (16, .inl r15), (15, .inl r13), (13, .inr (.inl r11)), (11, .inr (.inl r9)), (10, .inl r7), (0, .inr (.inr 0)), (1, .inl l1), (2, .inl l2), (5, .inr (.inl l5)), (7, .inr (.inl l7)), (9, .inl l9)]) (mfx.lt mf113 (Nat.le_of_ble_eq_true rfl)) rfl (ck dc113 (i := 83) rfl) ?_
                refine G_lload 7 rfl (ck dc113 (i := 84) rfl) ?_
                refine G_lstore (L' := [(5, .inr (.inl r9)), (4, .inl r7), (3, .inl l9), (18, .inl r13), (17, .inl r15), (16, .inl r15), (15, .inl r13), (13, .inr (.inl r11)), (11, .inr (.inl r9)), (10, .inl r7), (0, .inr (.inr 0)), (1, .inl l1), (2, .inl l2), (7, .inr (.inl l7)), (9, .inl l9)]) (mfx.lt mf113 (Nat.le_of_ble_eq_true rfl)) rfl (ck dc113 (i := 85) rfl) ?_
                refine G_lload 7 rfl (ck dc113 (i := 86) rfl) ?_
                refine G_lstore (L' := [(7, .inr (.inl r11)), (5, .inr (.inl r9)), (4, .inl r7), (3, .inl l9), (18, .inl r13), (17, .inl r15), (16, .inl r15), (15, .inl r13), (13, .inr (.inl r11)), (11, .inr (.inl r9)), (10, .inl r7), (0, .inr (.inr 0)), (1, .inl l1), (2, .inl l2), (9, .inl l9)]) (mfx.lt mf113 (Nat.le_of_ble_eq_true rfl)) rfl (ck dc113 (i := 87) rfl) ?_
                refine G_iinc (L' := [(9, .inl (l9 + 1)), (7, .inr (.inl r11)), (5, .inr (.inl r9)), (4, .inl r7), (3, .inl l9), (18, .inl r13), (17, .inl r15), (16, .inl r15), (15, .inl r13), (13, .inr (.inl r11)), (11, .inr (.inl r9)), (10, .inl r7), (0, .inr (.inr 0)), (1, .inl l1), (2, .inl l2)]) 14 rfl (mfx.lt mf113 (Nat.le_of_ble_eq_true rfl)) rfl (ck dc113 (i := 88) rfl) ?_
                refine G_goto (tgt := 14) (by decide) (ck dc113 (i := 89) rfl) ?_
                exact G_sub [12, 13, 14, 4, 3, 2, 1, 0] rfl h
      · replace h := h.2 c
        refine G_iload 1 rfl (ck dc113 (i := 68) rfl) ?_
        refine G_goto (tgt := 138) (by decide) (ck dc113 (i := 69) rfl) ?_
        refine G_istore (L' := [(18, .inl r15), (17, .inl r15), (16, .inl r15), (15, .inl r13), (13, .inr (.inl r11)), (11, .inr (.inl r9)), (10, .inl r7), (0, .inr (.inr 0)), (1, .inl l1), (2, .inl l2), (3, .inl l3), (4, .inl l4), (5, .inr (.inl l5)), (7, .inr (.inl l7)), (9, .inl l9)]) (mfx.lt mf113 (Nat.le_of_ble_eq_true rfl)) rfl (ck dc113 (i := 71) rfl) ?_
        refine G_iload_n 10 rfl rfl (ck dc113 (i := 72) rfl) ?_
        obtain ⟨o21, h⟩ := h
        refine G_if_lt (tgt := 159) (by decide) o21 (ck dc113 (i := 73) rfl) (fun c => ?_) (fun c => ?_)
        · replace h := h.1 c
          refine G_iload 14 rfl (ck dc113 (i := 80) rfl) ?_
          refine G_istore_n (L' := [(3, .inl l9), (18, .inl r15), (17, .inl r15), (16, .inl r15), (15, .inl r13), (13, .inr (.inl r11)), (11, .inr (.inl r9)), (10, .inl r7), (0, .inr (.inr 0)), (1, .inl l1), (2, .inl l2), (4, .inl l4), (5, .inr (.inl l5)), (7, .inr (.inl l7)), (9, .inl l9)]) rfl (mfx.lt mf113 (Nat.le_of_ble_eq_true rfl)) rfl (ck dc113 (i := 81) rfl) ?_
          refine G_iload 7 rfl (ck dc113 (i := 82) rfl) ?_
          refine G_istore (L' := [(4, .inl r7), (3, .inl l9), (18, .inl r15), (17, .inl r15), (16, .inl r15), (15, .inl r13), (13, .inr (.inl r11)), (11, .inr (.inl r9)), (10, .inl r7), (0, .inr (.inr 0)), (1, .inl l1), (2, .inl l2), (5, .inr (.inl l5)), (7, .inr (.inl l7)), (9, .inl l9)]) (mfx.lt mf113 (Nat.le_of_ble_eq_true rfl)) rfl (ck dc113 (i := 83) rfl) ?_
          refine G_lload 7 rfl (ck dc113 (i := 84) rfl) ?_
          refine G_lstore (L' := [(5, .inr (.inl r9)), (4, .inl r7), (3, .inl l9), (18, .inl r15), (17, .inl r15), (16, .inl r15), (15, .inl r13), (13, .inr (.inl r11)), (11, .inr (.inl r9)), (10, .inl r7), (0, .inr (.inr 0)), (1, .inl l1), (2, .inl l2), (7, .inr (.inl l7)), (9, .inl l9)]) (mfx.lt mf113 (Nat.le_of_ble_eq_true rfl)) rfl (ck dc113 (i := 85) rfl) ?_
          refine G_lload 7 rfl (ck dc113 (i := 86) rfl) ?_
          refine G_lstore (L' := [(7, .inr (.inl r11)), (5, .inr (.inl r9)), (4, .inl r7), (3, .inl l9), (18, .inl r15), (17, .inl r15), (16, .inl r15), (15, .inl r13), (13, .inr (.inl r11)), (11, .inr (.inl r9)), (10, .inl r7), (0, .inr (.inr 0)), (1, .inl l1), (2, .inl l2), (9, .inl l9)]) (mfx.lt mf113 (Nat.le_of_ble_eq_true rfl)) rfl (ck dc113 (i := 87) rfl) ?_
          refine G_iinc (L' := [(9, .inl (l9 + 1)), (7, .inr (.inl r11)), (5, .inr (.inl r9)), (4, .inl r7), (3, .inl l9), (18, .inl r15), (17, .inl r15), (16, .inl r15), (15, .inl r13), (13, .inr (.inl r11)), (11, .inr (.inl r9)), (10, .inl r7), (0, .inr (.inr 0)), (1, .inl l1), (2, .inl l2)]) 14 rfl (mfx.lt mf113 (Nat.le_of_ble_eq_true rfl)) rfl (ck dc113 (i := 88) rfl) ?_
          refine G_goto (tgt := 14) (by decide) (ck dc113 (i := 89) rfl) ?_
          exact G_sub [12, 13, 14, 4, 3, 2, 1, 0] rfl h
        · replace h := h.2 c
          refine G_iload 1 rfl (ck dc113 (i := 74) rfl) ?_
          obtain ⟨o22, h⟩ := h
          refine G_if_gt (tgt := 159) (by decide) o22 (ck dc113 (i := 75) rfl) (fun c => ?_) (fun c => ?_)
          · replace h := h.1 c
            refine G_iload 14 rfl (ck dc113 (i := 80) rfl) ?_
            refine G_istore_n (L' := [(3, .inl l9), (18, .inl r15), (17, .inl r15), (16, .inl r15), (15, .inl r13), (13, .inr (.inl r11)), (11, .inr (.inl r9)), (10, .inl r7), (0, .inr (.inr 0)), (1, .inl l1), (2, .inl l2), (4, .inl l4), (5, .inr (.inl l5)), (7, .inr (.inl l7)), (9, .inl l9)]) rfl (mfx.lt mf113 (Nat.le_of_ble_eq_true rfl)) rfl (ck dc113 (i := 81) rfl) ?_
            refine G_iload 7 rfl (ck dc113 (i := 82) rfl) ?_
            refine G_istore (L' := [(4, .inl r7), (3, .inl l9), (18, .inl r15), (17, .inl r15), (16, .inl r15), (15, .inl r13), (13, .inr (.inl r11)), (11, .inr (.inl r9)), (10, .inl r7), (0, .inr (.inr 0)), (1, .inl l1), (2, .inl l2), (5, .inr (.inl l5)), (7, .inr (.inl l7)), (9, .inl l9)]) (mfx.lt mf113 (Nat.le_of_ble_eq_true rfl)) rfl (ck dc113 (i := 83) rfl) ?_
            refine G_lload 7 rfl (ck dc113 (i := 84) rfl) ?_
            refine G_lstore (L' := [(5, .inr (.inl r9)), (4, .inl r7), (3, .inl l9), (18, .inl r15), (17, .inl r15), (16, .inl r15), (15, .inl r13), (13, .inr (.inl r11)), (11, .inr (.inl r9)), (10, .inl r7), (0, .inr (.inr 0)), (1, .inl l1), (2, .inl l2), (7, .inr (.inl l7)), (9, .inl l9)]) (mfx.lt mf113 (Nat.le_of_ble_eq_true rfl)) rfl (ck dc113 (i := 85) rfl) ?_
            refine G_lload 7 rfl (ck dc113 (i := 86) rfl) ?_
            refine G_lstore (L' := [(7, .inr (.inl r11)), (5, .inr (.inl r9)), (4, .inl r7), (3, .inl l9), (18, .inl r15), (17, .inl r15), (16, .inl r15), (15, .inl r13), (13, .inr (.inl r11)), (11, .inr (.inl r9)), (10, .inl r7), (0, .inr (.inr 0)), (1, .inl l1), (2, .inl l2), (9, .inl l9)]) (mfx.lt mf113 (Nat.le_of_ble_eq_true rfl)) rfl (ck dc113 (i := 87) rfl) ?_
            refine G_iinc (L' := [(9, .inl (l9 + 1)), (7, .inr (.inl r11)), (5, .inr (.inl r9)), (4, .inl r7), (3, .inl l9), (18, .inl r15), (17, .inl r15), (16, .inl r15), (15, .inl r13), (13, .inr (.inl r11)), (11, .inr (.inl r9)), (10, .inl r7), (0, .inr (.inr 0)), (1, .inl l1), (2, .inl l2)]) 14 rfl (mfx.lt mf113 (Nat.le_of_ble_eq_true rfl)) rfl (ck dc113 (i := 88) rfl) ?_
            refine G_goto (tgt := 14) (by decide) (ck dc113 (i := 89) rfl) ?_
            exact G_sub [12, 13, 14, 4, 3, 2, 1, 0] rfl h
          · replace h := h.2 c
            refine G_iload 1 rfl (ck dc113 (i := 76) rfl) ?_
            refine G_if_ne (tgt := 174) (by decide) o22 (ck dc113 (i := 77) rfl) (fun c => ?_) (fun c => ?_)
            · replace h := h.1 c
              refine G_iinc (L' := [(9, .inl (l9 + 1)), (18, .inl r15), (17, .inl r15), (16, .inl r15), (15, .inl r13), (13, .inr (.inl r11)), (11, .inr (.inl r9)), (10, .inl r7), (0, .inr (.inr 0)), (1, .inl l1), (2, .inl l2), (3, .inl l3), (4, .inl l4), (5, .inr (.inl l5)), (7, .inr (.inl l7))]) 14 rfl (mfx.lt mf113 (Nat.le_of_ble_eq_true rfl)) rfl (ck dc113 (i := 88) rfl) ?_
              refine G_goto (tgt := 14) (by decide) (ck dc113 (i := 89) rfl) ?_
              exact G_sub [8, 9, 10, 11, 12, 13, 14, 0] rfl h
            · replace h := h.2 c
              refine G_iload 0 rfl (ck dc113 (i := 78) rfl) ?_
              refine G_if_le (tgt := 174) (by decide) o22 (ck dc113 (i := 79) rfl) (fun c => ?_) (fun c => ?_)
              · replace h := h.1 c
                refine G_iinc (L' := [(9, .inl (l9 + 1)), (18, .inl r15), (17, .inl r15), (16, .inl r15), (15, .inl r13), (13, .inr (.inl r11)), (11, .inr (.inl r9)), (10, .inl r7), (0, .inr (.inr 0)), (1, .inl l1), (2, .inl l2), (3, .inl l3), (4, .inl l4), (5, .inr (.inl l5)), (7, .inr (.inl l7))]) 14 rfl (mfx.lt mf113 (Nat.le_of_ble_eq_true rfl)) rfl (ck dc113 (i := 88) rfl) ?_
                refine G_goto (tgt := 14) (by decide) (ck dc113 (i := 89) rfl) ?_
                exact G_sub [8, 9, 10, 11, 12, 13, 14, 0] rfl h
              · replace h := h.2 c
                refine G_iload 14 rfl (ck dc113 (i := 80) rfl) ?_
                refine G_istore_n (L' := [(3, .inl l9), (18, .inl r15), (17, .inl r15), (16, .inl r15), (15, .inl r13), (13, .inr (.inl r11)), (11, .inr (.inl r9)), (10, .inl r7), (0, .inr (.inr 0)), (1, .inl l1), (2, .inl l2), (4, .inl l4), (5, .inr (.inl l5)), (7, .inr (.inl l7)), (9, .inl l9)]) rfl (mfx.lt mf113 (Nat.le_of_ble_eq_true rfl)) rfl (ck dc113 (i := 81) rfl) ?_
                refine G_iload 7 rfl (ck dc113 (i := 82) rfl) ?_
                refine G_istore (L' := [(4, .inl r7), (3, .inl l9), (18, .inl r15), (17, .inl r15), (16, .inl r15), (15, .inl r13), (13, .inr (.inl r11)), (11, .inr (.inl r9)), (10, .inl r7), (0, .inr (.inr 0)), (1, .inl l1), (2, .inl l2), (5, .inr (.inl l5)), (7, .inr (.inl l7)), (9, .inl l9)]) (mfx.lt mf113 (Nat.le_of_ble_eq_true rfl)) rfl (ck dc113 (i := 83) rfl) ?_
                refine G_lload 7 rfl (ck dc113 (i := 84) rfl) ?_
                refine G_lstore (L' := [(5, .inr (.inl r9)), (4, .inl r7), (3, .inl l9), (18, .inl r15), (17, .inl r15), (16, .inl r15), (15, .inl r13), (13, .inr (.inl r11)), (11, .inr (.inl r9)), (10, .inl r7), (0, .inr (.inr 0)), (1, .inl l1), (2, .inl l2), (7, .inr (.inl l7)), (9, .inl l9)]) (mfx.lt mf113 (Nat.le_of_ble_eq_true rfl)) rfl (ck dc113 (i := 85) rfl) ?_
                refine G_lload 7 rfl (ck dc113 (i := 86) rfl) ?_
                refine G_lstore (L' := [(7, .inr (.inl r11)), (5, .inr (.inl r9)), (4, .inl r7), (3, .inl l9), (18, .inl r15), (17, .inl r15), (16, .inl r15), (15, .inl r13), (13, .inr (.inl r11)), (11, .inr (.inl r9)), (10, .inl r7), (0, .inr (.inr 0)), (1, .inl l1), (2, .inl l2), (9, .inl l9)]) (mfx.lt mf113 (Nat.le_of_ble_eq_true rfl)) rfl (ck dc113 (i := 87) rfl) ?_
                refine G_iinc (L' := [(9, .inl (l9 + 1)), (7, .inr (.inl r11)), (5, .inr (.inl r9)), (4, .inl r7), (3, .inl l9), (18, .inl r15), (17, .inl r15), (16, .inl r15), (15, .inl r13), (13, .inr (.inl r11)), (11, .inr (.inl r9)), (10, .inl r7), (0, .inr (.inr 0)), (1, .inl l1), (2, .inl l2)]) 14 rfl (mfx.lt mf113 (Nat.le_of_ble_eq_true rfl)) rfl (ck dc113 (i := 88) rfl) ?_
                refine G_goto (tgt := 14) (by decide) (ck dc113 (i := 89) rfl) ?_
                exact G_sub [12, 13, 14, 4, 3, 2, 1, 0] rfl h
    · replace h := h.2 c
      refine G_iload 1 rfl (ck dc113 (i := 62) rfl) ?_
      refine G_goto (tgt := 125) (by decide) (ck dc113 (i := 63) rfl) ?_
      refine G_istore (L' := [(17, .inl r13), (16, .inl r15), (15, .inl r13), (13, .inr (.inl r11)), (11, .inr (.inl r9)), (10, .inl r7), (0, .inr (.inr 0)), (1, .inl l1), (2, .inl l2), (3, .inl l3), (4, .inl l4), (5, .inr (.inl l5)), (7, .inr (.inl l7)), (9, .inl l9)]) (mfx.lt mf113 (Nat.le_of_ble_eq_true rfl)) rfl (ck dc113 (i := 65) rfl) ?_
      refine G_iload_n 8 rfl rfl (ck dc113 (i := 66) rfl) ?_
      refine G_if_ne (tgt := 136) (by decide) o17 (ck dc113 (i := 67) rfl) (fun c => ?_) (fun c => ?_)
      · replace h := h.1 c
        refine G_iload 2 rfl (ck dc113 (i := 70) rfl) ?_
        refine G_istore (L' := [(18, .inl r13), (17, .inl r13), (16, .inl r15), (15, .inl r13), (13, .inr (.inl r11)), (11, .inr (.inl r9)), (10, .inl r7), (0, .inr (.inr 0)), (1, .inl l1), (2, .inl l2), (3, .inl l3), (4, .inl l4), (5, .inr (.inl l5)), (7, .inr (.inl l7)), (9, .inl l9)]) (mfx.lt mf113 (Nat.le_of_ble_eq_true rfl)) rfl (ck dc113 (i := 71) rfl) ?_
        refine G_iload_n 10 rfl rfl (ck dc113 (i := 72) rfl) ?_
        obtain ⟨o23, h⟩ := h
        refine G_if_lt (tgt := 159) (by decide) o23 (ck dc113 (i := 73) rfl) (fun c => ?_) (fun c => ?_)
        · replace h := h.1 c
          refine G_iload 14 rfl (ck dc113 (i := 80) rfl) ?_
          refine G_istore_n (L' := [(3, .inl l9), (18, .inl r13), (17, .inl r13), (16, .inl r15), (15, .inl r13), (13, .inr (.inl r11)), (11, .inr (.inl r9)), (10, .inl r7), (0, .inr (.inr 0)), (1, .inl l1), (2, .inl l2), (4, .inl l4), (5, .inr (.inl l5)), (7, .inr (.inl l7)), (9, .inl l9)]) rfl (mfx.lt mf113 (Nat.le_of_ble_eq_true rfl)) rfl (ck dc113 (i := 81) rfl) ?_
          refine G_iload 7 rfl (ck dc113 (i := 82) rfl) ?_
          refine G_istore (L' := [(4, .inl r7), (3, .inl l9), (18, .inl r13), (17, .inl r13), (16, .inl r15), (15, .inl r13), (13, .inr (.inl r11)), (11, .inr (.inl r9)), (10, .inl r7), (0, .inr (.inr 0)), (1, .inl l1), (2, .inl l2), (5, .inr (.inl l5)), (7, .inr (.inl l7)), (9, .inl l9)]) (mfx.lt mf113 (Nat.le_of_ble_eq_true rfl)) rfl (ck dc113 (i := 83) rfl) ?_
          refine G_lload 7 rfl (ck dc113 (i := 84) rfl) ?_
          refine G_lstore (L' := [(5, .inr (.inl r9)), (4, .inl r7), (3, .inl l9), (18, .inl r13), (17, .inl r13), (16, .inl r15), (15, .inl r13), (13, .inr (.inl r11)), (11, .inr (.inl r9)), (10, .inl r7), (0, .inr (.inr 0)), (1, .inl l1), (2, .inl l2), (7, .inr (.inl l7)), (9, .inl l9)]) (mfx.lt mf113 (Nat.le_of_ble_eq_true rfl)) rfl (ck dc113 (i := 85) rfl) ?_
          refine G_lload 7 rfl (ck dc113 (i := 86) rfl) ?_
          refine G_lstore (L' := [(7, .inr (.inl r11)), (5, .inr (.inl r9)), (4, .inl r7), (3, .inl l9), (18, .inl r13), (17, .inl r13), (16, .inl r15), (15, .inl r13), (13, .inr (.inl r11)), (11, .inr (.inl r9)), (10, .inl r7), (0, .inr (.inr 0)), (1, .inl l1), (2, .inl l2), (9, .inl l9)]) (mfx.lt mf113 (Nat.le_of_ble_eq_true rfl)) rfl (ck dc113 (i := 87) rfl) ?_
          refine G_iinc (L' := [(9, .inl (l9 + 1)), (7, .inr (.inl r11)), (5, .inr (.inl r9)), (4, .inl r7), (3, .inl l9), (18, .inl r13), (17, .inl r13), (16, .inl r15), (15, .inl r13), (13, .inr (.inl r11)), (11, .inr (.inl r9)), (10, .inl r7), (0, .inr (.inr 0)), (1, .inl l1), (2, .inl l2)]) 14 rfl (mfx.lt mf113 (Nat.le_of_ble_eq_true rfl)) rfl (ck dc113 (i := 88) rfl) ?_
          refine G_goto (tgt := 14) (by decide) (ck dc113 (i := 89) rfl) ?_
          exact G_sub [12, 13, 14, 4, 3, 2, 1, 0] rfl h
        · replace h := h.2 c
          refine G_iload 1 rfl (ck dc113 (i := 74) rfl) ?_
          obtain ⟨o24, h⟩ := h
          refine G_if_gt (tgt := 159) (by decide) o24 (ck dc113 (i := 75) rfl) (fun c => ?_) (fun c => ?_)
          · replace h := h.1 c
            refine G_iload 14 rfl (ck dc113 (i := 80) rfl) ?_
            refine G_istore_n (L' := [(3, .inl l9), (18, .inl r13), (17, .inl r13), (16, .inl r15), (15, .inl r13), (13, .inr (.inl r11)), (11, .inr (.inl r9)), (10, .inl r7), (0, .inr (.inr 0)), (1, .inl l1), (2, .inl l2), (4, .inl l4), (5, .inr (.inl l5)), (7, .inr (.inl l7)), (9, .inl l9)]) rfl (mfx.lt mf113 (Nat.le_of_ble_eq_true rfl)) rfl (ck dc113 (i := 81) rfl) ?_
            refine G_iload 7 rfl (ck dc113 (i := 82) rfl) ?_
            refine G_istore (L' := [(4, .inl r7), (3, .inl l9), (18, .inl r13), (17, .inl r13), (16, .inl r15), (15, .inl r13), (13, .inr (.inl r11)), (11, .inr (.inl r9)), (10, .inl r7), (0, .inr (.inr 0)), (1, .inl l1), (2, .inl l2), (5, .inr (.inl l5)), (7, .inr (.inl l7)), (9, .inl l9)]) (mfx.lt mf113 (Nat.le_of_ble_eq_true rfl)) rfl (ck dc113 (i := 83) rfl) ?_
            refine G_lload 7 rfl (ck dc113 (i := 84) rfl) ?_
            refine G_lstore (L' := [(5, .inr (.inl r9)), (4, .inl r7), (3, .inl l9), (18, .inl r13), (17, .inl r13), (16, .inl r15), (15, .inl r13), (13, .inr (.inl r11)), (11, .inr (.inl r9)), (10, .inl r7), (0, .inr (.inr 0)), (1, .inl l1), (2, .inl l2), (7, .inr (.inl l7)), (9, .inl l9)]) (mfx.lt mf113 (Nat.le_of_ble_eq_true rfl)) rfl (ck dc113 (i := 85) rfl) ?_
            refine G_lload 7 rfl (ck dc113 (i := 86) rfl) ?_
            refine G_lstore (L' := [(7, .inr (.inl r11)), (5, .inr (.inl r9)), (4, .inl r7), (3, .inl l9), (18, .inl r13), (17, .inl r13), (16, .inl r15), (15, .inl r13), (13, .inr (.inl r11)), (11, .inr (.inl r9)), (10, .inl r7), (0, .inr (.inr 0)), (1, .inl l1), (2, .inl l2), (9, .inl l9)]) (mfx.lt mf113 (Nat.le_of_ble_eq_true rfl)) rfl (ck dc113 (i := 87) rfl) ?_
            refine G_iinc (L' := [(9, .inl (l9 + 1)), (7, .inr (.inl r11)), (5, .inr (.inl r9)), (4, .inl r7), (3, .inl l9), (18, .inl r13), (17, .inl r13), (16, .inl r15), (15, .inl r13), (13, .inr (.inl r11)), (11, .inr (.inl r9)), (10, .inl r7), (0, .inr (.inr 0)), (1, .inl l1), (2, .inl l2)]) 14 rfl (mfx.lt mf113 (Nat.le_of_ble_eq_true rfl)) rfl (ck dc113 (i := 88) rfl) ?_
            refine G_goto (tgt := 14) (by decide) (ck dc113 (i := 89) rfl) ?_
            exact G_sub [12, 13, 14, 4, 3, 2, 1, 0] rfl h
          · replace h := h.2 c
            refine G_iload 1 rfl (ck dc113 (i := 76) rfl) ?_
            refine G_if_ne (tgt := 174) (by decide) o24 (ck dc113 (i := 77) rfl) (fun c => ?_) (fun c => ?_)
            · replace h := h.1 c
              refine G_iinc (L' := [(9, .inl (l9 + 1)), (18, .inl r13), (17, .inl r13), (16, .inl r15), (15, .inl r13), (13, .inr (.inl r11)), (11, .inr (.inl r9)), (10, .inl r7), (0, .inr (.inr 0)), (1, .inl l1), (2, .inl l2), (3, .inl l3), (4, .inl l4), (5, .inr (.inl l5)), (7, .inr (.inl l7))]) 14 rfl (mfx.lt mf113 (Nat.le_of_ble_eq_true rfl)) rfl (ck dc113 (i := 88) rfl) ?_
              refine G_goto (tgt := 14) (by decide) (ck dc113 (i := 89) rfl) ?_
              exact G_sub [8, 9, 10, 11, 12, 13, 14, 0] rfl h
            · replace h := h.2 c
              refine G_iload 0 rfl (ck dc113 (i := 78) rfl) ?_
              refine G_if_le (tgt := 174) (by decide) o24 (ck dc113 (i := 79) rfl) (fun c => ?_) (fun c => ?_)
              · replace h := h.1 c
                refine G_iinc (L' := [(9, .inl (l9 + 1)), (18, .inl r13), (17, .inl r13), (16, .inl r15), (15, .inl r13), (13, .inr (.inl r11)), (11, .inr (.inl r9)), (10, .inl r7), (0, .inr (.inr 0)), (1, .inl l1), (2, .inl l2), (3, .inl l3), (4, .inl l4), (5, .inr (.inl l5)), (7, .inr (.inl l7))]) 14 rfl (mfx.lt mf113 (Nat.le_of_ble_eq_true rfl)) rfl (ck dc113 (i := 88) rfl) ?_
                refine G_goto (tgt := 14) (by decide) (ck dc113 (i := 89) rfl) ?_
                exact G_sub [8, 9, 10, 11, 12, 13, 14, 0] rfl h
              · replace h := h.2 c
                refine G_iload 14 rfl (ck dc113 (i := 80) rfl) ?_
                refine G_istore_n (L' := [(3, .inl l9), (18, .inl r13), (17, .inl r13), (16, .inl r15), (15, .inl r13), (13, .inr (.inl r11)), (11, .inr (.inl r9)), (10, .inl r7), (0, .inr (.inr 0)), (1, .inl l1), (2, .inl l2), (4, .inl l4), (5, .inr (.inl l5)), (7, .inr (.inl l7)), (9, .inl l9)]) rfl (mfx.lt mf113 (Nat.le_of_ble_eq_true rfl)) rfl (ck dc113 (i := 81) rfl) ?_
                refine G_iload 7 rfl (ck dc113 (i := 82) rfl) ?_
                refine G_istore (L' := [(4, .inl r7), (3, .inl l9), (18, .inl r13), (17, .inl r13), (16, .inl r15), (15, .inl r13), (13, .inr (.inl r11)), (11, .inr (.inl r9)), (10, .inl r7), (0, .inr (.inr 0)), (1, .inl l1), (2, .inl l2), (5, .inr (.inl l5)), (7, .inr (.inl l7)), (9, .inl l9)]) (mfx.lt mf113 (Nat.le_of_ble_eq_true rfl)) rfl (ck dc113 (i := 83) rfl) ?_
                refine G_lload 7 rfl (ck dc113 (i := 84) rfl) ?_
                refine G_lstore (L' := [(5, .inr (.inl r9)), (4, .inl r7), (3, .inl l9), (18, .inl r13), (17, .inl r13), (16, .inl r15), (15, .inl r13), (13, .inr (.inl r11)), (11, .inr (.inl r9)), (10, .inl r7), (0, .inr (.inr 0)), (1, .inl l1), (2, .inl l2), (7, .inr (.inl l7)), (9, .inl l9)]) (mfx.lt mf113 (Nat.le_of_ble_eq_true rfl)) rfl (ck dc113 (i := 85) rfl) ?_
                refine G_lload 7 rfl (ck dc113 (i := 86) rfl) ?_
                refine G_lstore (L' := [(7, .inr (.inl r11)), (5, .inr (.inl r9)), (4, .inl r7), (3, .inl l9), (18, .inl r13), (17, .inl r13), (16, .inl r15), (15, .inl r13), (13, .inr (.inl r11)), (11, .inr (.inl r9)), (10, .inl r7), (0, .inr (.inr 0)), (1, .inl l1), (2, .inl l2), (9, .inl l9)]) (mfx.lt mf113 (Nat.le_of_ble_eq_true rfl)) rfl (ck dc113 (i := 87) rfl) ?_
                refine G_iinc (L' := [(9, .inl (l9 + 1)), (7, .inr (.inl r11)), (5, .inr (.inl r9)), (4, .inl r7), (3, .inl l9), (18, .inl r13), (17, .inl r13), (16, .inl r15), (15, .inl r13), (13, .inr (.inl r11)), (11, .inr (.inl r9)), (10, .inl r7), (0, .inr (.inr 0)), (1, .inl l1), (2, .inl l2)]) 14 rfl (mfx.lt mf113 (Nat.le_of_ble_eq_true rfl)) rfl (ck dc113 (i := 88) rfl) ?_
                refine G_goto (tgt := 14) (by decide) (ck dc113 (i := 89) rfl) ?_
                exact G_sub [12, 13, 14, 4, 3, 2, 1, 0] rfl h
      · replace h := h.2 c
        refine G_iload 1 rfl (ck dc113 (i := 68) rfl) ?_
        refine G_goto (tgt := 138) (by decide) (ck dc113 (i := 69) rfl) ?_
        refine G_istore (L' := [(18, .inl r15), (17, .inl r13), (16, .inl r15), (15, .inl r13), (13, .inr (.inl r11)), (11, .inr (.inl r9)), (10, .inl r7), (0, .inr (.inr 0)), (1, .inl l1), (2, .inl l2), (3, .inl l3), (4, .inl l4), (5, .inr (.inl l5)), (7, .inr (.inl l7)), (9, .inl l9)]) (mfx.lt mf113 (Nat.le_of_ble_eq_true rfl)) rfl (ck dc113 (i := 71) rfl) ?_
        refine G_iload_n 10 rfl rfl (ck dc113 (i := 72) rfl) ?_
        obtain ⟨o25, h⟩ := h
        refine G_if_lt (tgt := 159) (by decide) o25 (ck dc113 (i := 73) rfl) (fun c => ?_) (fun c => ?_)
        · replace h := h.1 c
          refine G_iload 14 rfl (ck dc113 (i := 80) rfl) ?_
          refine G_istore_n (L' := [(3, .inl l9), (18, .inl r15), (17, .inl r13), (16, .inl r15), (15, .inl r13), (13, .inr (.inl r11)), (11, .inr (.inl r9)), (10, .inl r7), (0, .inr (.inr 0)), (1, .inl l1), (2, .inl l2), (4, .inl l4), (5, .inr (.inl l5)), (7, .inr (.inl l7)), (9, .inl l9)]) rfl (mfx.lt mf113 (Nat.le_of_ble_eq_true rfl)) rfl (ck dc113 (i := 81) rfl) ?_
          refine G_iload 7 rfl (ck dc113 (i := 82) rfl) ?_
          refine G_istore (L' := [(4, .inl r7), (3, .inl l9), (18, .inl r15), (17, .inl r13), (16, .inl r15), (15, .inl r13), (13, .inr (.inl r11)), (11, .inr (.inl r9)), (10, .inl r7), (0, .inr (.inr 0)), (1, .inl l1), (2, .inl l2), (5, .inr (.inl l5)), (7, .inr (.inl l7)), (9, .inl l9)]) (mfx.lt mf113 (Nat.le_of_ble_eq_true rfl)) rfl (ck dc113 (i := 83) rfl) ?_
          refine G_lload 7 rfl (ck dc113 (i := 84) rfl) ?_
          refine G_lstore (L' := [(5, .inr (.inl r9)), (4, .inl r7), (3, .inl l9), (18, .inl r15), (17, .inl r13), (16, .inl r15), (15, .inl r13), (13, .inr (.inl r11)), (11, .inr (.inl r9)), (10, .inl r7), (0, .inr (.inr 0)), (1, .inl l1), (2, .inl l2), (7, .inr (.inl l7)), (9, .inl l9)]) (mfx.lt mf113 (Nat.le_of_ble_eq_true rfl)) rfl (ck dc113 (i := 85) rfl) ?_
          refine G_lload 7 rfl (ck dc113 (i := 86) rfl) ?_
          refine G_lstore (L' := [(7, .inr (.inl r11)), (5, .inr (.inl r9)), (4, .inl r7), (3, .inl l9), (18, .inl r15), (17, .inl r13), (16, .inl r15), (15, .inl r13), (13, .inr (.inl r11)), (11, .inr (.inl r9)), (10, .inl r7), (0, .inr (.inr 0)), (1, .inl l1), (2, .inl l2), (9, .inl l9)]) (mfx.lt mf113 (Nat.le_of_ble_eq_true rfl)) rfl (ck dc113 (i := 87) rfl) ?_
          refine G_iinc (L' := [(9, .inl (l9 + 1)), (7, .inr (.inl r11)), (5, .inr (.inl r9)), (4, .inl r7), (3, .inl l9), (18, .inl r15), (17, .inl r13), (16, .inl r15), (15, .inl r13), (13, .inr (.inl r11)), (11, .inr (.inl r9)), (10, .inl r7), (0, .inr (.inr 0)), (1, .inl l1), (2, .inl l2)]) 14 rfl (mfx.lt mf113 (Nat.le_of_ble_eq_true rfl)) rfl (ck dc113 (i := 88) rfl) ?_
          refine G_goto (tgt := 14) (by decide) (ck dc113 (i := 89) rfl) ?_
          exact G_sub [12, 13, 14, 4, 3, 2, 1, 0] rfl h
        · replace h := h.2 c
          refine G_iload 1 rfl (ck dc113 (i := 74) rfl) ?_
          obtain ⟨o26, h⟩ := h
          refine G_if_gt (tgt := 159) (by decide) o26 (ck dc113 (i := 75) rfl) (fun c => ?_) (fun c => ?_)
          · replace h := h.1 c
            refine G_iload 14 rfl (ck dc113 (i := 80) rfl) ?_
            refine G_istore_n (L' := [(3, .inl l9), (18, .inl r15), (17, .inl r13), (16, .inl r15), (15, .inl r13), (13, .inr (.inl r11)), (11, .inr (.inl r9)), (10, .inl r7), (0, .inr (.inr 0)), (1, .inl l1), (2, .inl l2), (4, .inl l4), (5, .inr (.inl l5)), (7, .inr (.inl l7)), (9, .inl l9)]) rfl (mfx.lt mf113 (Nat.le_of_ble_eq_true rfl)) rfl (ck dc113 (i := 81) rfl) ?_
            refine G_iload 7 rfl (ck dc113 (i := 82) rfl) ?_
            refine G_istore (L' := [(4, .inl r7), (3, .inl l9), (18, .inl r15), (17, .inl r13), (16, .inl r15), (15, .inl r13), (13, .inr (.inl r11)), (11, .inr (.inl r9)), (10, .inl r7), (0, .inr (.inr 0)), (1, .inl l1), (2, .inl l2), (5, .inr (.inl l5)), (7, .inr (.inl l7)), (9, .inl l9)]) (mfx.lt mf113 (Nat.le_of_ble_eq_true rfl)) rfl (ck dc113 (i := 83) rfl) ?_
            refine G_lload 7 rfl (ck dc113 (i := 84) rfl) ?_
            refine G_lstore (L' := [(5, .inr (.inl r9)), (4, .inl r7), (3, .inl l9), (18, .inl r15), (17, .inl r13), (16, .inl r15), (15, .inl r13), (13, .inr (.inl r11)), (11, .inr (.inl r9)), (10, .inl r7), (0, .inr (.inr 0)), (1, .inl l1), (2, .inl l2), (7, .inr (.inl l7)), (9, .inl l9)]) (mfx.lt mf113 (Nat.le_of_ble_eq_true rfl)) rfl (ck dc113 (i := 85) rfl) ?_
            refine G_lload 7 rfl (ck dc113 (i := 86) rfl) ?_
            refine G_lstore (L' := [(7, .inr (.inl r11)), (5, .inr (.inl r9)), (4, .inl r7), (3, .inl l9), (18, .inl r15), (17, .inl r13), (16, .inl r15), (15, .inl r13), (13, .inr (.inl r11)), (11, .inr (.inl r9)), (10, .inl r7), (0, .inr (.inr 0)), (1, .inl l1), (2, .inl l2), (9, .inl l9)]) (mfx.lt mf113 (Nat.le_of_ble_eq_true rfl)) rfl (ck dc113 (i := 87) rfl) ?_
            refine G_iinc (L' := [(9, .inl (l9 + 1)), (7, .inr (.inl r11)), (5, .inr (.inl r9)), (4, .inl r7), (3, .inl l9), (18, .inl r15), (17, .inl r13), (16, .inl r15), (15, .inl r13), (13, .inr (.inl r11)), (11, .inr (.inl r9)), (10, .inl r7), (0, .inr (.inr 0)), (1, .inl l1), (2, .inl l2)]) 14 rfl (mfx.lt mf113 (Nat.le_of_ble_eq_true rfl)) rfl (ck dc113 (i := 88) rfl) ?_
            refine G_goto (tgt := 14) (by decide) (ck dc113 (i := 89) rfl) ?_
            exact G_sub [12, 13, 14, 4, 3, 2, 1, 0] rfl h
          · replace h := h.2 c
            refine G_iload 1 rfl (ck dc113 (i := 76) rfl) ?_
            refine G_if_ne (tgt := 174) (by decide) o26 (ck dc113 (i := 77) rfl) (fun c => ?_) (fun c => ?_)
            · replace h := h.1 c
              refine G_iinc (L' := [(9, .inl (l9 + 1)), (18, .inl r15), (17, .inl r13), (16, .inl r15), (15, .inl r13), (13, .inr (.inl r11)), (11, .inr (.inl r9)), (10, .inl r7), (0, .inr (.inr 0)), (1, .inl l1), (2, .inl l2), (3, .inl l3), (4, .inl l4), (5, .inr (.inl l5)), (7, .inr (.inl l7))]) 14 rfl (mfx.lt mf113 (Nat.le_of_ble_eq_true rfl)) rfl (ck dc113 (i := 88) rfl) ?_
              refine G_goto (tgt := 14) (by decide) (ck dc113 (i := 89) rfl) ?_
              exact G_sub [8, 9, 10, 11, 12, 13, 14, 0] rfl h
            · replace h := h.2 c
              refine G_iload 0 rfl (ck dc113 (i := 78) rfl) ?_
              obtain ⟨o27, h⟩ := h
              refine G_if_le (tgt := 174) (by decide) o27 (ck dc113 (i := 79) rfl) (fun c => ?_) (fun c => ?_)
              · replace h := h.1 c
                refine G_iinc (L' := [(9, .inl (l9 + 1)), (18, .inl r15), (17, .inl r13), (16, .inl r15), (15, .inl r13), (13, .inr (.inl r11)), (11, .inr (.inl r9)), (10, .inl r7), (0, .inr (.inr 0)), (1, .inl l1), (2, .inl l2), (3, .inl l3), (4, .inl l4), (5, .inr (.inl l5)), (7, .inr (.inl l7))]) 14 rfl (mfx.lt mf113 (Nat.le_of_ble_eq_true rfl)) rfl (ck dc113 (i := 88) rfl) ?_
                refine G_goto (tgt := 14) (by decide) (ck dc113 (i := 89) rfl) ?_
                exact G_sub [8, 9, 10, 11, 12, 13, 14, 0] rfl h
              · replace h := h.2 c
                refine G_iload 14 rfl (ck dc113 (i := 80) rfl) ?_
                refine G_istore_n (L' := [(3, .inl l9), (18, .inl r15), (17, .inl r13), (16, .inl r15), (15, .inl r13), (13, .inr (.inl r11)), (11, .inr (.inl r9)), (10, .inl r7), (0, .inr (.inr 0)), (1, .inl l1), (2, .inl l2), (4, .inl l4), (5, .inr (.inl l5)), (7, .inr (.inl l7)), (9, .inl l9)]) rfl (mfx.lt mf113 (Nat.le_of_ble_eq_true rfl)) rfl (ck dc113 (i := 81) rfl) ?_
                refine G_iload 7 rfl (ck dc113 (i := 82) rfl) ?_
                refine G_istore (L' := [(4, .inl r7), (3, .inl l9), (18, .inl r15), (17, .inl r13), (16, .inl r15), (15, .inl r13), (13, .inr (.inl r11)), (11, .inr (.inl r9)), (10, .inl r7), (0, .inr (.inr 0)), (1, .inl l1), (2, .inl l2), (5, .inr (.inl l5)), (7, .inr (.inl l7)), (9, .inl l9)]) (mfx.lt mf113 (Nat.le_of_ble_eq_true rfl)) rfl (ck dc113 (i := 83) rfl) ?_
                refine G_lload 7 rfl (ck dc113 (i := 84) rfl) ?_
                refine G_lstore (L' := [(5, .inr (.inl r9)), (4, .inl r7), (3, .inl l9), (18, .inl r15), (17, .inl r13), (16, .inl r15), (15, .inl r13), (13, .inr (.inl r11)), (11, .inr (.inl r9)), (10, .inl r7), (0, .inr (.inr 0)), (1, .inl l1), (2, .inl l2), (7, .inr (.inl l7)), (9, .inl l9)]) (mfx.lt mf113 (Nat.le_of_ble_eq_true rfl)) rfl (ck dc113 (i := 85) rfl) ?_
                refine G_lload 7 rfl (ck dc113 (i := 86) rfl) ?_
                refine G_lstore (L' := [(7, .inr (.inl r11)), (5, .inr (.inl r9)), (4, .inl r7), (3, .inl l9), (18, .inl r15), (17, .inl r13), (16, .inl r15), (15, .inl r13), (13, .inr (.inl r11)), (11, .inr (.inl r9)), (10, .inl r7), (0, .inr (.inr 0)), (1, .inl l1), (2, .inl l2), (9, .inl l9)]) (mfx.lt mf113 (Nat.le_of_ble_eq_true rfl)) rfl (ck dc113 (i := 87) rfl) ?_
                refine G_iinc (L' := [(9, .inl (l9 + 1)), (7, .inr (.inl r11)), (5, .inr (.inl r9)), (4, .inl r7), (3, .inl l9), (18, .inl r15), (17, .inl r13), (16, .inl r15), (15, .inl r13), (13, .inr (.inl r11)), (11, .inr (.inl r9)), (10, .inl r7), (0, .inr (.inr 0)), (1, .inl l1), (2, .inl l2)]) 14 rfl (mfx.lt mf113 (Nat.le_of_ble_eq_true rfl)) rfl (ck dc113 (i := 88) rfl) ?_
                refine G_goto (tgt := 14) (by decide) (ck dc113 (i := 89) rfl) ?_
                exact G_sub [12, 13, 14, 4, 3, 2, 1, 0] rfl h
theorem c_x_saves (K : Nat) (a1 a2 : Int) (M : PM) (Q : Option PV → PM → Prop)
    (h : R32 a2 ∧ (a2 < 0 → Q (some (.inl (-1))) M) ∧ (¬ a2 < 0 → (a2 ≤ 1 → Call K jClearingWaves_isCoins [.inl a1] P0 P0 M (retI fun r2 M3 => R32 r2 ∧ (¬ r2 = 0 → Call K jClearingWaves_loadPurse [.inr (.inr 0)] P0 P0 M3 (retV fun M6 => Call K jClearingWaves_mostSaved [.inr (.inr 0), .inl a1, .inl a2] P0 P0 M6 (retI fun r7 M8 => Q (some (.inl r7)) M8))) ∧ (r2 = 0 → Q (some (.inl (-2))) M3))) ∧ (¬ a2 ≤ 1 → Q (some (.inl (-1))) M))) : Call (K + 1) jClearingWaves_saves [.inr (.inr 0), .inl a1, .inl a2] P0 P0 M Q := by
  refine Call.intro (by decide +kernel) (mfx.le mf112 (Nat.le_of_ble_eq_true rfl)) (Nat.le_refl _) rfl ?_
  refine G_iload_n 2 rfl rfl (ck dc112 (i := 0) rfl) ?_
  obtain ⟨o1, h⟩ := h
  refine G_if_lt (tgt := 9) (by decide) o1 (ck dc112 (i := 1) rfl) (fun c => ?_) (fun c => ?_)
  · replace h := h.1 c
    refine G_iconst (ck dc112 (i := 5) rfl) ?_
    exact H_iretI mf112 (ck dc112 (i := 6) rfl) rfl h
  · replace h := h.2 c
    refine G_iload_n 2 rfl rfl (ck dc112 (i := 2) rfl) ?_
    refine G_iconst (ck dc112 (i := 3) rfl) ?_
    refine G_icmp_le (tgt := 11) (by decide) o1 (by decide) (ck dc112 (i := 4) rfl) (fun c => ?_) (fun c => ?_)
    · replace h := h.1 c
      refine G_iload_n 1 rfl rfl (ck dc112 (i := 7) rfl) ?_
      refine H_sZ mf112 (As := [.inl a1]) (st := []) (ck dc112 (i := 8) rfl) lk_ClearingWaves_234 rfl rfl (Nat.le_of_ble_eq_true rfl) ⟨Nat.le_refl _, Nat.le_refl _⟩ h (fun r2 M3 h => ?_)
      obtain ⟨o4, h⟩ := h
      refine G_if_ne (tgt := 21) (by decide) o4 (ck dc112 (i := 9) rfl) (fun c => ?_) (fun c => ?_)
      · replace h := h.1 c
        refine G_aload_n 0 rfl rfl (ck dc112 (i := 12) rfl) ?_
        refine H_vV mf112 (As := []) (st := []) (ck dc112 (i := 13) rfl) lk_ClearingWaves_240 rfl rfl (Nat.le_of_ble_eq_true rfl) ly0 ra0 ⟨Nat.le_refl _, Nat.le_refl _⟩ h (fun M6 h => ?_)
        refine G_aload_n 0 rfl rfl (ck dc112 (i := 14) rfl) ?_
        refine G_iload_n 1 rfl rfl (ck dc112 (i := 15) rfl) ?_
        refine G_iload_n 2 rfl rfl (ck dc112 (i := 16) rfl) ?_
        refine H_vI mf112 (As := [.inl a1, .inl a2]) (st := []) (ck dc112 (i := 17) rfl) lk_ClearingWaves_243 rfl rfl (Nat.le_of_ble_eq_true rfl) ly0 ra0 ⟨Nat.le_refl _, Nat.le_refl _⟩ h (fun r7 M8 h => ?_)
        exact H_iretI mf112 (ck dc112 (i := 18) rfl) rfl h
      · replace h := h.2 c
        refine G_bipush (n := (-2)) rfl (ck dc112 (i := 10) rfl) ?_
        exact H_iretI mf112 (ck dc112 (i := 11) rfl) rfl h
    · replace h := h.2 c
      refine G_iconst (ck dc112 (i := 5) rfl) ?_
      exact H_iretI mf112 (ck dc112 (i := 6) rfl) rfl h
theorem c_x_leastThatSaves (K : Nat) (a1 a2 : Int) (M : PM) (Q : Option PV → PM → Prop)
    (h : Call K jClearingWaves_failsWith [.inr (.inr 0), .inl a2, .inl 200] P0 P0 M (retI fun r1 M2 => R32 (bAnd r1 a1) ∧ ((bAnd r1 a1) = 0 → G none (K + 1) jClearingWaves_leastThatSaves 26 [(0, .inr (.inr 0)), (1, .inl a1), (2, .inl a2), (3, .inl 0), (4, .inl 200), (5, .inl 0)] [] P0 P0 M2 Q) ∧ (¬ (bAnd r1 a1) = 0 → Q (some (.inl (-5))) M2))) : Call (K + 1) jClearingWaves_leastThatSaves [.inr (.inr 0), .inl a1, .inl a2] P0 P0 M Q := by
  refine Call.intro (by decide +kernel) (mfx.le mf117 (Nat.le_of_ble_eq_true rfl)) (Nat.le_refl _) rfl ?_
  refine G_aload_n 0 rfl rfl (ck dc117 (i := 0) rfl) ?_
  refine G_iload_n 2 rfl rfl (ck dc117 (i := 1) rfl) ?_
  refine G_sipush (n := 200) rfl (ck dc117 (i := 2) rfl) ?_
  refine H_vI mf117 (As := [.inl a2, .inl 200]) (st := []) (ck dc117 (i := 3) rfl) lk_ClearingWaves_237 rfl rfl (Nat.le_of_ble_eq_true rfl) ly0 ra0 ⟨Nat.le_refl _, Nat.le_refl _⟩ h (fun r1 M2 h => ?_)
  refine G_iload_n 1 rfl rfl (ck dc117 (i := 4) rfl) ?_
  refine G_iand (ck dc117 (i := 5) rfl) ?_
  obtain ⟨o3, h⟩ := h
  refine G_if_eq (tgt := 16) (by decide) o3 (ck dc117 (i := 6) rfl) (fun c => ?_) (fun c => ?_)
  · replace h := h.1 c
    refine G_iconst (ck dc117 (i := 9) rfl) ?_
    refine G_istore_n (L' := [(3, .inl 0), (0, .inr (.inr 0)), (1, .inl a1), (2, .inl a2)]) rfl (mfx.lt mf117 (Nat.le_of_ble_eq_true rfl)) rfl (ck dc117 (i := 10) rfl) ?_
    refine G_sipush (n := 200) rfl (ck dc117 (i := 11) rfl) ?_
    refine G_istore (L' := [(4, .inl 200), (3, .inl 0), (0, .inr (.inr 0)), (1, .inl a1), (2, .inl a2)]) (mfx.lt mf117 (Nat.le_of_ble_eq_true rfl)) rfl (ck dc117 (i := 12) rfl) ?_
    refine G_iconst (ck dc117 (i := 13) rfl) ?_
    refine G_istore (L' := [(5, .inl 0), (4, .inl 200), (3, .inl 0), (0, .inr (.inr 0)), (1, .inl a1), (2, .inl a2)]) (mfx.lt mf117 (Nat.le_of_ble_eq_true rfl)) rfl (ck dc117 (i := 14) rfl) ?_
    exact G_sub [3, 4, 5, 2, 1, 0] rfl h
  · replace h := h.2 c
    refine G_bipush (n := (-5)) rfl (ck dc117 (i := 7) rfl) ?_
    exact H_iretI mf117 (ck dc117 (i := 8) rfl) rfl h
set_option maxHeartbeats 20000000 in
theorem g_x_leastThatSaves_26 (K : Nat) (l1 l2 l3 l4 l5 : Int) (M : PM) (Q : Option PV → PM → Prop)
    (h : R32 l5 ∧ (200 ≤ l5 → Q (some (.inl l4)) M) ∧ (¬ 200 ≤ l5 → R32 l3 ∧ R32 l4 ∧ (l4 ≤ l3 → Q (some (.inl l4)) M) ∧ (¬ l4 ≤ l3 → R32 (l3 + l4) ∧ Call K jClearingWaves_failsWith [.inr (.inr 0), .inl l2, .inl (Int.tdiv (l3 + l4) 2)] P0 P0 M (retI fun r5 M6 => R32 (bAnd r5 l1) ∧ (¬ (bAnd r5 l1) = 0 → G none (K + 1) jClearingWaves_leastThatSaves 26 [(0, .inr (.inr 0)), (1, .inl l1), (2, .inl l2), (3, .inl ((Int.tdiv (l3 + l4) 2) + 1)), (4, .inl l4), (5, .inl (l5 + 1))] [] P0 P0 M6 Q) ∧ ((bAnd r5 l1) = 0 → G none (K + 1) jClearingWaves_leastThatSaves 26 [(0, .inr (.inr 0)), (1, .inl l1), (2, .inl l2), (3, .inl l3), (4, .inl (Int.tdiv (l3 + l4) 2)), (5, .inl (l5 + 1))] [] P0 P0 M6 Q))))) : G none (K + 1) jClearingWaves_leastThatSaves 26 [(0, .inr (.inr 0)), (1, .inl l1), (2, .inl l2), (3, .inl l3), (4, .inl l4), (5, .inl l5)] [] P0 P0 M Q := by
  refine G_iload 5 rfl (ck dc117 (i := 15) rfl) ?_
  refine G_sipush (n := 200) rfl (ck dc117 (i := 16) rfl) ?_
  obtain ⟨o1, h⟩ := h
  refine G_icmp_ge (tgt := 78) (by decide) o1 (by decide) (ck dc117 (i := 17) rfl) (fun c => ?_) (fun c => ?_)
  · replace h := h.1 c
    refine G_iload 4 rfl (ck dc117 (i := 43) rfl) ?_
    exact H_iretI mf117 (ck dc117 (i := 44) rfl) rfl h
  · replace h := h.2 c
    refine G_iload_n 3 rfl rfl (ck dc117 (i := 18) rfl) ?_
    refine G_iload 4 rfl (ck dc117 (i := 19) rfl) ?_
    obtain ⟨o2, h⟩ := h
    obtain ⟨o3, h⟩ := h
    refine G_icmp_ge (tgt := 78) (by decide) o2 o3 (ck dc117 (i := 20) rfl) (fun c => ?_) (fun c => ?_)
    · replace h := h.1 c
      refine G_iload 4 rfl (ck dc117 (i := 43) rfl) ?_
      exact H_iretI mf117 (ck dc117 (i := 44) rfl) rfl h
    · replace h := h.2 c
      refine G_iload_n 3 rfl rfl (ck dc117 (i := 21) rfl) ?_
      refine G_iload 4 rfl (ck dc117 (i := 22) rfl) ?_
      refine G_iadd (ck dc117 (i := 23) rfl) ?_
      refine G_iconst (ck dc117 (i := 24) rfl) ?_
      obtain ⟨o4, h⟩ := h
      refine G_idiv o4 (by decide) (by decide) (ck dc117 (i := 25) rfl) ?_
      refine G_istore (L' := [(6, .inl (Int.tdiv (l3 + l4) 2)), (0, .inr (.inr 0)), (1, .inl l1), (2, .inl l2), (3, .inl l3), (4, .inl l4), (5, .inl l5)]) (mfx.lt mf117 (Nat.le_of_ble_eq_true rfl)) rfl (ck dc117 (i := 26) rfl) ?_
      refine G_aload_n 1 rfl rfl (ck dc117 (i := 27) rfl) ?_
      refine G_iload_n 3 rfl rfl (ck dc117 (i := 28) rfl) ?_
      refine G_iload 0 rfl (ck dc117 (i := 29) rfl) ?_
      refine H_vI mf117 (As := [.inl l2, .inl (Int.tdiv (l3 + l4) 2)]) (st := []) (ck dc117 (i := 30) rfl) lk_ClearingWaves_237 rfl rfl (Nat.le_of_ble_eq_true rfl) ly0 ra0 ⟨Nat.le_refl _, Nat.le_refl _⟩ h (fun r5 M6 h => ?_)
      refine G_iload_n 2 rfl rfl (ck dc117 (i := 31) rfl) ?_
      refine G_iand (ck dc117 (i := 32) rfl) ?_
      obtain ⟨o7, h⟩ := h
      refine G_if_ne (tgt := 67) (by decide) o7 (ck dc117 (i := 33) rfl) (fun c => ?_) (fun c => ?_)
      · replace h := h.1 c
        refine G_iload 0 rfl (ck dc117 (i := 37) rfl) ?_
        refine G_iconst (ck dc117 (i := 38) rfl) ?_
        refine G_iadd (ck dc117 (i := 39) rfl) ?_
        refine G_istore_n (L' := [(3, .inl ((Int.tdiv (l3 + l4) 2) + 1)), (6, .inl (Int.tdiv (l3 + l4) 2)), (0, .inr (.inr 0)), (1, .inl l1), (2, .inl l2), (4, .inl l4), (5, .inl l5)]) rfl (mfx.lt mf117 (Nat.le_of_ble_eq_true rfl)) rfl (ck dc117 (i := 40) rfl) ?_
        refine G_iinc (L' := [(5, .inl (l5 + 1)), (3, .inl ((Int.tdiv (l3 + l4) 2) + 1)), (6, .inl (Int.tdiv (l3 + l4) 2)), (0, .inr (.inr 0)), (1, .inl l1), (2, .inl l2), (4, .inl l4)]) 6 rfl (mfx.lt mf117 (Nat.le_of_ble_eq_true rfl)) rfl (ck dc117 (i := 41) rfl) ?_
        refine G_goto (tgt := 26) (by decide) (ck dc117 (i := 42) rfl) ?_
        exact G_sub [3, 4, 5, 1, 6, 0] rfl h
      · replace h := h.2 c
        refine G_iload 0 rfl (ck dc117 (i := 34) rfl) ?_
        refine G_istore (L' := [(4, .inl (Int.tdiv (l3 + l4) 2)), (6, .inl (Int.tdiv (l3 + l4) 2)), (0, .inr (.inr 0)), (1, .inl l1), (2, .inl l2), (3, .inl l3), (5, .inl l5)]) (mfx.lt mf117 (Nat.le_of_ble_eq_true rfl)) rfl (ck dc117 (i := 35) rfl) ?_
        refine G_goto (tgt := 72) (by decide) (ck dc117 (i := 36) rfl) ?_
        refine G_iinc (L' := [(5, .inl (l5 + 1)), (4, .inl (Int.tdiv (l3 + l4) 2)), (6, .inl (Int.tdiv (l3 + l4) 2)), (0, .inr (.inr 0)), (1, .inl l1), (2, .inl l2), (3, .inl l3)]) 6 rfl (mfx.lt mf117 (Nat.le_of_ble_eq_true rfl)) rfl (ck dc117 (i := 41) rfl) ?_
        refine G_goto (tgt := 26) (by decide) (ck dc117 (i := 42) rfl) ?_
        exact G_sub [3, 4, 5, 6, 1, 0] rfl h
theorem c_x_needs (K : Nat) (a1 a2 : Int) (M : PM) (Q : Option PV → PM → Prop)
    (h : Call K jBook_hasHouse [.inr (.inr 1), .inl a1] P0 P0 M (retI fun r1 M2 => R32 r1 ∧ (r1 = 0 → Q (some (.inl (-1))) M2) ∧ (¬ r1 = 0 → Call K jBook_hasHouse [.inr (.inr 1), .inl a2] P0 P0 M2 (retI fun r4 M5 => R32 r4 ∧ (¬ r4 = 0 → Call K jClearingWaves_leastThatSaves [.inr (.inr 0), .inl (bShl 1 a1), .inl a2] P0 P0 M5 (retI fun r7 M8 => Q (some (.inl r7)) M8)) ∧ (r4 = 0 → Q (some (.inl (-1))) M5))))) : Call (K + 1) jClearingWaves_needs [.inr (.inr 0), .inl a1, .inl a2] P0 P0 M Q := by
  refine Call.intro (by decide +kernel) (mfx.le mf116 (Nat.le_of_ble_eq_true rfl)) (Nat.le_refl _) rfl ?_
  refine G_aload_n 0 rfl rfl (ck dc116 (i := 0) rfl) ?_
  refine H_getR mf116 (ck dc116 (i := 1) rfl) fw_ClearingWaves_12 fc10_0 ly0 ra0 rf0_0 (by decide) ?_
  refine G_iload_n 1 rfl rfl (ck dc116 (i := 2) rfl) ?_
  refine H_vZ mf116 (As := [.inl a1]) (st := []) (ck dc116 (i := 3) rfl) lk_ClearingWaves_108 rfl rfl (Nat.le_of_ble_eq_true rfl) ly1 ra1 ⟨Nat.le_refl _, Nat.le_refl _⟩ h (fun r1 M2 h => ?_)
  obtain ⟨o3, h⟩ := h
  refine G_if_eq (tgt := 22) (by decide) o3 (ck dc116 (i := 4) rfl) (fun c => ?_) (fun c => ?_)
  · replace h := h.1 c
    refine G_iconst (ck dc116 (i := 10) rfl) ?_
    exact H_iretI mf116 (ck dc116 (i := 11) rfl) rfl h
  · replace h := h.2 c
    refine G_aload_n 0 rfl rfl (ck dc116 (i := 5) rfl) ?_
    refine H_getR mf116 (ck dc116 (i := 6) rfl) fw_ClearingWaves_12 fc10_0 ly0 ra0 rf0_0 (by decide) ?_
    refine G_iload_n 2 rfl rfl (ck dc116 (i := 7) rfl) ?_
    refine H_vZ mf116 (As := [.inl a2]) (st := []) (ck dc116 (i := 8) rfl) lk_ClearingWaves_108 rfl rfl (Nat.le_of_ble_eq_true rfl) ly1 ra1 ⟨Nat.le_refl _, Nat.le_refl _⟩ h (fun r4 M5 h => ?_)
    obtain ⟨o6, h⟩ := h
    refine G_if_ne (tgt := 24) (by decide) o6 (ck dc116 (i := 9) rfl) (fun c => ?_) (fun c => ?_)
    · replace h := h.1 c
      refine G_aload_n 0 rfl rfl (ck dc116 (i := 12) rfl) ?_
      refine G_iconst (ck dc116 (i := 13) rfl) ?_
      refine G_iload_n 1 rfl rfl (ck dc116 (i := 14) rfl) ?_
      refine G_ishl (ck dc116 (i := 15) rfl) ?_
      refine G_iload_n 2 rfl rfl (ck dc116 (i := 16) rfl) ?_
      refine H_vI mf116 (As := [.inl (bShl 1 a1), .inl a2]) (st := []) (ck dc116 (i := 17) rfl) lk_ClearingWaves_246 rfl rfl (Nat.le_of_ble_eq_true rfl) ly0 ra0 ⟨Nat.le_refl _, Nat.le_refl _⟩ h (fun r7 M8 h => ?_)
      exact H_iretI mf116 (ck dc116 (i := 18) rfl) rfl h
    · replace h := h.2 c
      refine G_iconst (ck dc116 (i := 10) rfl) ?_
      exact H_iretI mf116 (ck dc116 (i := 11) rfl) rfl h
theorem c_x_calms (K : Nat) (a1 : Int) (M : PM) (Q : Option PV → PM → Prop)
    (h : Call K jBook_hasHouse [.inr (.inr 1), .inl a1] P0 P0 M (retI fun r1 M2 => R32 r1 ∧ (r1 = 0 → Q (some (.inl (-1))) M2) ∧ (¬ r1 = 0 → Call K jClearingWaves_leastThatSaves [.inr (.inr 0), .inl ((bShl 1 (M2 1 0)) - 1), .inl a1] P0 P0 M2 (retI fun r4 M5 => Q (some (.inl r4)) M5)))) : Call (K + 1) jClearingWaves_calms [.inr (.inr 0), .inl a1] P0 P0 M Q := by
  refine Call.intro (by decide +kernel) (mfx.le mf118 (Nat.le_of_ble_eq_true rfl)) (Nat.le_refl _) rfl ?_
  refine G_aload_n 0 rfl rfl (ck dc118 (i := 0) rfl) ?_
  refine H_getR mf118 (ck dc118 (i := 1) rfl) fw_ClearingWaves_12 fc10_0 ly0 ra0 rf0_0 (by decide) ?_
  refine G_iload_n 1 rfl rfl (ck dc118 (i := 2) rfl) ?_
  refine H_vZ mf118 (As := [.inl a1]) (st := []) (ck dc118 (i := 3) rfl) lk_ClearingWaves_108 rfl rfl (Nat.le_of_ble_eq_true rfl) ly1 ra1 ⟨Nat.le_refl _, Nat.le_refl _⟩ h (fun r1 M2 h => ?_)
  obtain ⟨o3, h⟩ := h
  refine G_if_eq (tgt := 30) (by decide) o3 (ck dc118 (i := 4) rfl) (fun c => ?_) (fun c => ?_)
  · replace h := h.1 c
    refine G_iconst (ck dc118 (i := 16) rfl) ?_
    exact H_iretI mf118 (ck dc118 (i := 17) rfl) rfl h
  · replace h := h.2 c
    refine G_aload_n 0 rfl rfl (ck dc118 (i := 5) rfl) ?_
    refine G_iconst (ck dc118 (i := 6) rfl) ?_
    refine G_aload_n 0 rfl rfl (ck dc118 (i := 7) rfl) ?_
    refine H_getR mf118 (ck dc118 (i := 8) rfl) fw_ClearingWaves_12 fc10_0 ly0 ra0 rf0_0 (by decide) ?_
    refine H_getI mf118 (ck dc118 (i := 9) rfl) fw_ClearingWaves_207 (Or.inl fc0_0) ly1 ra1 (x := (M2 1 0)) rfl ?_
    refine G_ishl (ck dc118 (i := 10) rfl) ?_
    refine G_iconst (ck dc118 (i := 11) rfl) ?_
    refine G_isub (ck dc118 (i := 12) rfl) ?_
    refine G_iload_n 1 rfl rfl (ck dc118 (i := 13) rfl) ?_
    refine H_vI mf118 (As := [.inl ((bShl 1 (M2 1 0)) - 1), .inl a1]) (st := []) (ck dc118 (i := 14) rfl) lk_ClearingWaves_246 rfl rfl (Nat.le_of_ble_eq_true rfl) ly0 ra0 ⟨Nat.le_refl _, Nat.le_refl _⟩ h (fun r4 M5 h => ?_)
    refine G_goto (tgt := 31) (by decide) (ck dc118 (i := 15) rfl) ?_
    exact H_iretI mf118 (ck dc118 (i := 17) rfl) rfl h
theorem c_x_danger (K : Nat) (M : PM) (Q : Option PV → PM → Prop)
    (h : G none (K + 1) jClearingWaves_danger 6 [(0, .inr (.inr 0)), (1, .inl (-1)), (2, .inl 0), (3, .inl 0)] [] P0 P0 M Q) : Call (K + 1) jClearingWaves_danger [.inr (.inr 0)] P0 P0 M Q := by
  refine Call.intro (by decide +kernel) (mfx.le mf119 (Nat.le_of_ble_eq_true rfl)) (Nat.le_refl _) rfl ?_
  refine G_iconst (ck dc119 (i := 0) rfl) ?_
  refine G_istore_n (L' := [(1, .inl (-1)), (0, .inr (.inr 0))]) rfl (mfx.lt mf119 (Nat.le_of_ble_eq_true rfl)) rfl (ck dc119 (i := 1) rfl) ?_
  refine G_iconst (ck dc119 (i := 2) rfl) ?_
  refine G_istore_n (L' := [(2, .inl 0), (1, .inl (-1)), (0, .inr (.inr 0))]) rfl (mfx.lt mf119 (Nat.le_of_ble_eq_true rfl)) rfl (ck dc119 (i := 3) rfl) ?_
  refine G_iconst (ck dc119 (i := 4) rfl) ?_
  refine G_istore_n (L' := [(3, .inl 0), (2, .inl 0), (1, .inl (-1)), (0, .inr (.inr 0))]) rfl (mfx.lt mf119 (Nat.le_of_ble_eq_true rfl)) rfl (ck dc119 (i := 5) rfl) ?_
  exact G_sub [3, 2, 1, 0] rfl h
theorem g_x_danger_6 (K : Nat) (l1 l2 l3 : Int) (M : PM) (Q : Option PV → PM → Prop)
    (h : R32 l3 ∧ R32 (M 1 0) ∧ ((M 1 0) ≤ l3 → Q (some (.inl l2)) M) ∧ (¬ (M 1 0) ≤ l3 → (0 ≤ l3 ∧ l3 < 5) ∧ Call K jClearingWaves_failsWith [.inr (.inr 0), .inl l3, .inl (-(M 2 l3))] P0 P0 M (retI fun r4 M5 => Call K jJInteger_bitCount [.inl r4] P0 P0 M5 (retI fun r6 M7 => R32 r6 ∧ R32 l1 ∧ (r6 ≤ l1 → G none (K + 1) jClearingWaves_danger 6 [(0, .inr (.inr 0)), (1, .inl l1), (2, .inl l2), (3, .inl (l3 + 1))] [] P0 P0 M7 Q) ∧ (¬ r6 ≤ l1 → G none (K + 1) jClearingWaves_danger 6 [(0, .inr (.inr 0)), (1, .inl r6), (2, .inl l3), (3, .inl (l3 + 1))] [] P0 P0 M7 Q))))) : G none (K + 1) jClearingWaves_danger 6 [(0, .inr (.inr 0)), (1, .inl l1), (2, .inl l2), (3, .inl l3)] [] P0 P0 M Q := by
  refine G_iload_n 3 rfl rfl (ck dc119 (i := 6) rfl) ?_
  refine G_aload_n 0 rfl rfl (ck dc119 (i := 7) rfl) ?_
  refine H_getR mf119 (ck dc119 (i := 8) rfl) fw_ClearingWaves_12 fc10_0 ly0 ra0 rf0_0 (by decide) ?_
  refine H_getI mf119 (ck dc119 (i := 9) rfl) fw_ClearingWaves_207 (Or.inl fc0_0) ly1 ra1 (x := (M 1 0)) rfl ?_
  obtain ⟨o1, h⟩ := h
  obtain ⟨o2, h⟩ := h
  refine G_icmp_ge (tgt := 54) (by decide) o1 o2 (ck dc119 (i := 10) rfl) (fun c => ?_) (fun c => ?_)
  · replace h := h.1 c
    refine G_iload_n 2 rfl rfl (ck dc119 (i := 31) rfl) ?_
    exact H_iretI mf119 (ck dc119 (i := 32) rfl) rfl h
  · replace h := h.2 c
    refine G_aload_n 0 rfl rfl (ck dc119 (i := 11) rfl) ?_
    refine G_iload_n 3 rfl rfl (ck dc119 (i := 12) rfl) ?_
    refine G_aload_n 0 rfl rfl (ck dc119 (i := 13) rfl) ?_
    refine H_getR mf119 (ck dc119 (i := 14) rfl) fw_ClearingWaves_12 fc10_0 ly0 ra0 rf0_0 (by decide) ?_
    refine H_getR mf119 (ck dc119 (i := 15) rfl) fw_ClearingWaves_30 fc0_3 ly1 ra1 rf1_3 (by decide) ?_
    refine G_iload_n 3 rfl rfl (ck dc119 (i := 16) rfl) ?_
    obtain ⟨o3, h⟩ := h
    refine H_iald (ck dc119 (i := 17) rfl) ly2 (by decide) ra2 o3 (x := (M 2 l3)) rfl ?_
    refine G_ineg (ck dc119 (i := 18) rfl) ?_
    refine H_vI mf119 (As := [.inl l3, .inl (-(M 2 l3))]) (st := []) (ck dc119 (i := 19) rfl) lk_ClearingWaves_237 rfl rfl (Nat.le_of_ble_eq_true rfl) ly0 ra0 ⟨Nat.le_refl _, Nat.le_refl _⟩ h (fun r4 M5 h => ?_)
    refine H_sI mf119 (As := [.inl r4]) (st := []) (ck dc119 (i := 20) rfl) lk_ClearingWaves_249 rfl rfl (Nat.le_of_ble_eq_true rfl) ⟨Nat.le_refl _, Nat.le_refl _⟩ h (fun r6 M7 h => ?_)
    refine G_istore (L' := [(4, .inl r6), (0, .inr (.inr 0)), (1, .inl l1), (2, .inl l2), (3, .inl l3)]) (mfx.lt mf119 (Nat.le_of_ble_eq_true rfl)) rfl (ck dc119 (i := 21) rfl) ?_
    refine G_iload 0 rfl (ck dc119 (i := 22) rfl) ?_
    refine G_iload_n 2 rfl rfl (ck dc119 (i := 23) rfl) ?_
    obtain ⟨o8, h⟩ := h
    obtain ⟨o9, h⟩ := h
    refine G_icmp_le (tgt := 48) (by decide) o8 o9 (ck dc119 (i := 24) rfl) (fun c => ?_) (fun c => ?_)
    · replace h := h.1 c
      refine G_iinc (L' := [(3, .inl (l3 + 1)), (4, .inl r6), (0, .inr (.inr 0)), (1, .inl l1), (2, .inl l2)]) 4 rfl (mfx.lt mf119 (Nat.le_of_ble_eq_true rfl)) rfl (ck dc119 (i := 29) rfl) ?_
      refine G_goto (tgt := 6) (by decide) (ck dc119 (i := 30) rfl) ?_
      exact G_sub [2, 3, 4, 0] rfl h
    · replace h := h.2 c
      refine G_iload 0 rfl (ck dc119 (i := 25) rfl) ?_
      refine G_istore_n (L' := [(1, .inl r6), (4, .inl r6), (0, .inr (.inr 0)), (2, .inl l2), (3, .inl l3)]) rfl (mfx.lt mf119 (Nat.le_of_ble_eq_true rfl)) rfl (ck dc119 (i := 26) rfl) ?_
      refine G_iload_n 4 rfl rfl (ck dc119 (i := 27) rfl) ?_
      refine G_istore_n (L' := [(2, .inl l3), (1, .inl r6), (4, .inl r6), (0, .inr (.inr 0)), (3, .inl l3)]) rfl (mfx.lt mf119 (Nat.le_of_ble_eq_true rfl)) rfl (ck dc119 (i := 28) rfl) ?_
      refine G_iinc (L' := [(3, .inl (l3 + 1)), (2, .inl l3), (1, .inl r6), (4, .inl r6), (0, .inr (.inr 0))]) 4 rfl (mfx.lt mf119 (Nat.le_of_ble_eq_true rfl)) rfl (ck dc119 (i := 29) rfl) ?_
      refine G_goto (tgt := 6) (by decide) (ck dc119 (i := 30) rfl) ?_
      exact G_sub [4, 2, 1, 0] rfl h
set_option maxHeartbeats 20000000 in
theorem c_x_rescue (K : Nat) (a1 a2 a3 a4 a5 : Int) (M : PM) (Q : Option PV → PM → Prop)
    (h : Call K jRows_has [.inr (.inr 49), .inl a1] P0 P0 M (retI fun r1 M2 => R32 r1 ∧ (r1 = 0 → Q (some (.inl (-1))) M2) ∧ (¬ r1 = 0 → R32 a5 ∧ (a5 < 0 → Q (some (.inl (-1))) M2) ∧ (¬ a5 < 0 → (a5 ≤ 1 → R32 a3 ∧ (a3 < 1 → Q (some (.inl (-2))) M2) ∧ (¬ a3 < 1 → (30 < a3 → Q (some (.inl (-2))) M2) ∧ (¬ 30 < a3 → R32 a4 ∧ (a4 < 1 → Q (some (.inl (-2))) M2) ∧ (¬ a4 < 1 → (a4 ≤ 6 → Call K jRows_holds [.inr (.inr 49), .inl a1] P0 P0 M2 (retI fun r7 M8 => R32 r7 ∧ (¬ r7 = 0 → Call K jClearingWaves_loadPurse [.inr (.inr 0)] P0 P0 M8 (retV fun M11 => G none (K + 1) jClearingWaves_rescue 72 [(0, .inr (.inr 0)), (1, .inl a1), (2, .inl a2), (3, .inl a3), (4, .inl a4), (5, .inl a5), (6, .inl 0)] [] P0 P0 M11 Q)) ∧ (r7 = 0 → Q (some (.inl (-11))) M8))) ∧ (¬ a4 ≤ 6 → Q (some (.inl (-2))) M2))))) ∧ (¬ a5 ≤ 1 → Q (some (.inl (-1))) M2))))) : Call (K + 1) jClearingWaves_rescue [.inr (.inr 0), .inl a1, .inl a2, .inl a3, .inl a4, .inl a5] P0 P0 M Q := by
  refine Call.intro (by decide +kernel) (mfx.le mf120 (Nat.le_of_ble_eq_true rfl)) (Nat.le_refl _) rfl ?_
  refine G_aload_n 0 rfl rfl (ck dc120 (i := 0) rfl) ?_
  refine H_getR mf120 (ck dc120 (i := 1) rfl) fw_ClearingWaves_90 fc10_15 ly0 ra0 rf0_15 (by decide) ?_
  refine G_iload_n 1 rfl rfl (ck dc120 (i := 2) rfl) ?_
  refine H_vZ mf120 (As := [.inl a1]) (st := []) (ck dc120 (i := 3) rfl) lk_ClearingWaves_254 rfl rfl (Nat.le_of_ble_eq_true rfl) ly49 ra49 ⟨Nat.le_refl _, Nat.le_refl _⟩ h (fun r1 M2 h => ?_)
  obtain ⟨o3, h⟩ := h
  refine G_if_eq (tgt := 22) (by decide) o3 (ck dc120 (i := 4) rfl) (fun c => ?_) (fun c => ?_)
  · replace h := h.1 c
    refine G_iconst (ck dc120 (i := 10) rfl) ?_
    exact H_iretI mf120 (ck dc120 (i := 11) rfl) rfl h
  · replace h := h.2 c
    refine G_iload 5 rfl (ck dc120 (i := 5) rfl) ?_
    obtain ⟨o4, h⟩ := h
    refine G_if_lt (tgt := 22) (by decide) o4 (ck dc120 (i := 6) rfl) (fun c => ?_) (fun c => ?_)
    · replace h := h.1 c
      refine G_iconst (ck dc120 (i := 10) rfl) ?_
      exact H_iretI mf120 (ck dc120 (i := 11) rfl) rfl h
    · replace h := h.2 c
      refine G_iload 5 rfl (ck dc120 (i := 7) rfl) ?_
      refine G_iconst (ck dc120 (i := 8) rfl) ?_
      refine G_icmp_le (tgt := 24) (by decide) o4 (by decide) (ck dc120 (i := 9) rfl) (fun c => ?_) (fun c => ?_)
      · replace h := h.1 c
        refine G_iload_n 3 rfl rfl (ck dc120 (i := 12) rfl) ?_
        refine G_iconst (ck dc120 (i := 13) rfl) ?_
        obtain ⟨o5, h⟩ := h
        refine G_icmp_lt (tgt := 48) (by decide) o5 (by decide) (ck dc120 (i := 14) rfl) (fun c => ?_) (fun c => ?_)
        · replace h := h.1 c
          refine G_bipush (n := (-2)) rfl (ck dc120 (i := 24) rfl) ?_
          exact H_iretI mf120 (ck dc120 (i := 25) rfl) rfl h
        · replace h := h.2 c
          refine G_iload_n 3 rfl rfl (ck dc120 (i := 15) rfl) ?_
          refine G_bipush (n := 30) rfl (ck dc120 (i := 16) rfl) ?_
          refine G_icmp_gt (tgt := 48) (by decide) o5 (by decide) (ck dc120 (i := 17) rfl) (fun c => ?_) (fun c => ?_)
          · replace h := h.1 c
            refine G_bipush (n := (-2)) rfl (ck dc120 (i := 24) rfl) ?_
            exact H_iretI mf120 (ck dc120 (i := 25) rfl) rfl h
          · replace h := h.2 c
            refine G_iload 4 rfl (ck dc120 (i := 18) rfl) ?_
            refine G_iconst (ck dc120 (i := 19) rfl) ?_
            obtain ⟨o6, h⟩ := h
            refine G_icmp_lt (tgt := 48) (by decide) o6 (by decide) (ck dc120 (i := 20) rfl) (fun c => ?_) (fun c => ?_)
            · replace h := h.1 c
              refine G_bipush (n := (-2)) rfl (ck dc120 (i := 24) rfl) ?_
              exact H_iretI mf120 (ck dc120 (i := 25) rfl) rfl h
            · replace h := h.2 c
              refine G_iload 4 rfl (ck dc120 (i := 21) rfl) ?_
              refine G_bipush (n := 6) rfl (ck dc120 (i := 22) rfl) ?_
              refine G_icmp_le (tgt := 51) (by decide) o6 (by decide) (ck dc120 (i := 23) rfl) (fun c => ?_) (fun c => ?_)
              · replace h := h.1 c
                refine G_aload_n 0 rfl rfl (ck dc120 (i := 26) rfl) ?_
                refine H_getR mf120 (ck dc120 (i := 27) rfl) fw_ClearingWaves_90 fc10_15 ly0 ra0 rf0_15 (by decide) ?_
                refine G_iload_n 1 rfl rfl (ck dc120 (i := 28) rfl) ?_
                refine H_vZ mf120 (As := [.inl a1]) (st := []) (ck dc120 (i := 29) rfl) lk_ClearingWaves_257 rfl rfl (Nat.le_of_ble_eq_true rfl) ly49 ra49 ⟨Nat.le_refl _, Nat.le_refl _⟩ h (fun r7 M8 h => ?_)
                obtain ⟨o9, h⟩ := h
                refine G_if_ne (tgt := 65) (by decide) o9 (ck dc120 (i := 30) rfl) (fun c => ?_) (fun c => ?_)
                · replace h := h.1 c
                  refine G_aload_n 0 rfl rfl (ck dc120 (i := 33) rfl) ?_
                  refine H_vV mf120 (As := []) (st := []) (ck dc120 (i := 34) rfl) lk_ClearingWaves_240 rfl rfl (Nat.le_of_ble_eq_true rfl) ly0 ra0 ⟨Nat.le_refl _, Nat.le_refl _⟩ h (fun M11 h => ?_)
                  refine G_iconst (ck dc120 (i := 35) rfl) ?_
                  refine G_istore (L' := [(6, .inl 0), (0, .inr (.inr 0)), (1, .inl a1), (2, .inl a2), (3, .inl a3), (4, .inl a4), (5, .inl a5)]) (mfx.lt mf120 (Nat.le_of_ble_eq_true rfl)) rfl (ck dc120 (i := 36) rfl) ?_
                  exact G_sub [1, 2, 3, 4, 5, 6, 0] rfl h
                · replace h := h.2 c
                  refine G_bipush (n := (-11)) rfl (ck dc120 (i := 31) rfl) ?_
                  exact H_iretI mf120 (ck dc120 (i := 32) rfl) rfl h
              · replace h := h.2 c
                refine G_bipush (n := (-2)) rfl (ck dc120 (i := 24) rfl) ?_
                exact H_iretI mf120 (ck dc120 (i := 25) rfl) rfl h
      · replace h := h.2 c
        refine G_iconst (ck dc120 (i := 10) rfl) ?_
        exact H_iretI mf120 (ck dc120 (i := 11) rfl) rfl h
theorem g_x_rescue_72 (K : Nat) (l1 l2 l3 l4 l5 l6 : Int) (M : PM) (Q : Option PV → PM → Prop)
    (h : R32 l6 ∧ (5 ≤ l6 → G none (K + 1) jClearingWaves_rescue 95 [(0, .inr (.inr 0)), (1, .inl l1), (2, .inl l2), (3, .inl l3), (4, .inl l4), (5, .inl l5), (6, .inl 0)] [] P0 P0 M Q) ∧ (¬ 5 ≤ l6 → (0 ≤ l6 ∧ l6 < 5) ∧ G none (K + 1) jClearingWaves_rescue 72 [(0, .inr (.inr 0)), (1, .inl l1), (2, .inl l2), (3, .inl l3), (4, .inl l4), (5, .inl l5), (6, .inl (l6 + 1))] [] P0 P0 (mset M 10 l6 0) Q)) : G none (K + 1) jClearingWaves_rescue 72 [(0, .inr (.inr 0)), (1, .inl l1), (2, .inl l2), (3, .inl l3), (4, .inl l4), (5, .inl l5), (6, .inl l6)] [] P0 P0 M Q := by
  refine G_iload 6 rfl (ck dc120 (i := 37) rfl) ?_
  refine G_iconst (ck dc120 (i := 38) rfl) ?_
  obtain ⟨o1, h⟩ := h
  refine G_icmp_ge (tgt := 92) (by decide) o1 (by decide) (ck dc120 (i := 39) rfl) (fun c => ?_) (fun c => ?_)
  · replace h := h.1 c
    refine G_iconst (ck dc120 (i := 47) rfl) ?_
    refine G_istore (L' := [(6, .inl 0), (0, .inr (.inr 0)), (1, .inl l1), (2, .inl l2), (3, .inl l3), (4, .inl l4), (5, .inl l5)]) (mfx.lt mf120 (Nat.le_of_ble_eq_true rfl)) rfl (ck dc120 (i := 48) rfl) ?_
    exact G_sub [1, 2, 3, 4, 5, 6, 0] rfl h
  · replace h := h.2 c
    refine G_aload_n 0 rfl rfl (ck dc120 (i := 40) rfl) ?_
    refine H_getR mf120 (ck dc120 (i := 41) rfl) fw_ClearingWaves_25 fc10_4 ly0 ra0 rf0_4 (by decide) ?_
    refine G_iload 6 rfl (ck dc120 (i := 42) rfl) ?_
    refine G_iconst (ck dc120 (i := 43) rfl) ?_
    obtain ⟨o2, h⟩ := h
    refine G_iast (ck dc120 (i := 44) rfl) ra10 ly10 (by decide) o2 ?_
    refine G_iinc (L' := [(6, .inl (l6 + 1)), (0, .inr (.inr 0)), (1, .inl l1), (2, .inl l2), (3, .inl l3), (4, .inl l4), (5, .inl l5)]) 6 rfl (mfx.lt mf120 (Nat.le_of_ble_eq_true rfl)) rfl (ck dc120 (i := 45) rfl) ?_
    refine G_goto (tgt := 72) (by decide) (ck dc120 (i := 46) rfl) ?_
    exact G_sub [1, 2, 3, 4, 5, 6, 0] rfl h
theorem g_x_rescue_95 (K : Nat) (l1 l2 l3 l4 l5 l6 : Int) (M : PM) (Q : Option PV → PM → Prop)
    (h : R32 l6 ∧ R32 l4 ∧ (l4 ≤ l6 → G none (K + 1) jClearingWaves_rescue 145 [(0, .inr (.inr 0)), (1, .inl l1), (2, .inl l2), (6, .inl 1), (7, .inl 0)] [] P0 P0 M Q) ∧ (¬ l4 ≤ l6 → Call K jClearingWaves_mostSaved [.inr (.inr 0), .inl l3, .inl l5] P0 P0 M (retI fun r3 M4 => (0 ≤ r3 ∧ r3 < 5) ∧ G none (K + 1) jClearingWaves_rescue 95 [(0, .inr (.inr 0)), (1, .inl l1), (2, .inl l2), (3, .inl l3), (4, .inl l4), (5, .inl l5), (6, .inl (l6 + 1))] [] P0 P0 (mset (mset M4 10 r3 ((M4 10 r3) + l3)) 9 r3 ((M4 9 r3) + l3)) Q))) : G none (K + 1) jClearingWaves_rescue 95 [(0, .inr (.inr 0)), (1, .inl l1), (2, .inl l2), (3, .inl l3), (4, .inl l4), (5, .inl l5), (6, .inl l6)] [] P0 P0 M Q := by
  refine G_iload 6 rfl (ck dc120 (i := 49) rfl) ?_
  refine G_iload 4 rfl (ck dc120 (i := 50) rfl) ?_
  obtain ⟨o1, h⟩ := h
  obtain ⟨o2, h⟩ := h
  refine G_icmp_ge (tgt := 139) (by decide) o1 o2 (ck dc120 (i := 51) rfl) (fun c => ?_) (fun c => ?_)
  · replace h := h.1 c
    refine G_iconst (ck dc120 (i := 75) rfl) ?_
    refine G_istore (L' := [(6, .inl 1), (0, .inr (.inr 0)), (1, .inl l1), (2, .inl l2), (3, .inl l3), (4, .inl l4), (5, .inl l5)]) (mfx.lt mf120 (Nat.le_of_ble_eq_true rfl)) rfl (ck dc120 (i := 76) rfl) ?_
    refine G_iconst (ck dc120 (i := 77) rfl) ?_
    refine G_istore (L' := [(7, .inl 0), (6, .inl 1), (0, .inr (.inr 0)), (1, .inl l1), (2, .inl l2), (3, .inl l3), (4, .inl l4), (5, .inl l5)]) (mfx.lt mf120 (Nat.le_of_ble_eq_true rfl)) rfl (ck dc120 (i := 78) rfl) ?_
    exact G_sub [2, 3, 4, 1, 0] rfl h
  · replace h := h.2 c
    refine G_aload_n 0 rfl rfl (ck dc120 (i := 52) rfl) ?_
    refine G_iload_n 3 rfl rfl (ck dc120 (i := 53) rfl) ?_
    refine G_iload 5 rfl (ck dc120 (i := 54) rfl) ?_
    refine H_vI mf120 (As := [.inl l3, .inl l5]) (st := []) (ck dc120 (i := 55) rfl) lk_ClearingWaves_243 rfl rfl (Nat.le_of_ble_eq_true rfl) ly0 ra0 ⟨Nat.le_refl _, Nat.le_refl _⟩ h (fun r3 M4 h => ?_)
    refine G_istore (L' := [(7, .inl r3), (0, .inr (.inr 0)), (1, .inl l1), (2, .inl l2), (3, .inl l3), (4, .inl l4), (5, .inl l5), (6, .inl l6)]) (mfx.lt mf120 (Nat.le_of_ble_eq_true rfl)) rfl (ck dc120 (i := 56) rfl) ?_
    refine G_aload_n 1 rfl rfl (ck dc120 (i := 57) rfl) ?_
    refine H_getR mf120 (ck dc120 (i := 58) rfl) fw_ClearingWaves_25 fc10_4 ly0 ra0 rf0_4 (by decide) ?_
    refine G_iload 0 rfl (ck dc120 (i := 59) rfl) ?_
    refine G_dup2 rfl rfl (ck dc120 (i := 60) rfl) ?_
    obtain ⟨o5, h⟩ := h
    refine H_iald (ck dc120 (i := 61) rfl) ly10 (by decide) ra10 o5 (x := (M4 10 r3)) rfl ?_
    refine G_iload_n 4 rfl rfl (ck dc120 (i := 62) rfl) ?_
    refine G_iadd (ck dc120 (i := 63) rfl) ?_
    refine G_iast (ck dc120 (i := 64) rfl) ra10 ly10 (by decide) o5 ?_
    refine G_aload_n 1 rfl rfl (ck dc120 (i := 65) rfl) ?_
    refine H_getR mf120 (ck dc120 (i := 66) rfl) fw_ClearingWaves_21 fc10_3 ly0 ra0 rf0_3 (by decide) ?_
    refine G_iload 0 rfl (ck dc120 (i := 67) rfl) ?_
    refine G_dup2 rfl rfl (ck dc120 (i := 68) rfl) ?_
    refine H_iald (ck dc120 (i := 69) rfl) ly9 (by decide) ra9 o5 (x := (M4 9 r3)) (by simp [mset, mcpy, mclr]) ?_
    refine G_iload_n 4 rfl rfl (ck dc120 (i := 70) rfl) ?_
    refine G_iadd (ck dc120 (i := 71) rfl) ?_
    refine G_iast (ck dc120 (i := 72) rfl) ra9 ly9 (by decide) o5 ?_
    refine G_iinc (L' := [(6, .inl (l6 + 1)), (7, .inl r3), (0, .inr (.inr 0)), (1, .inl l1), (2, .inl l2), (3, .inl l3), (4, .inl l4), (5, .inl l5)]) 7 rfl (mfx.lt mf120 (Nat.le_of_ble_eq_true rfl)) rfl (ck dc120 (i := 73) rfl) ?_
    refine G_goto (tgt := 95) (by decide) (ck dc120 (i := 74) rfl) ?_
    exact G_sub [2, 3, 4, 5, 6, 7, 0] rfl h
set_option maxHeartbeats 20000000 in
theorem g_x_rescue_145 (K : Nat) (l1 l2 l6 l7 : Int) (M : PM) (Q : Option PV → PM → Prop)
    (h : R32 l7 ∧ R32 (M 1 0) ∧ ((M 1 0) ≤ l7 → R32 l6 ∧ (¬ l6 = 0 → Call K jClearing_run [.inr (.inr 24)] P0 P0 M (retV fun M5 => Q (some (.inl (M5 24 1))) M5)) ∧ (l6 = 0 → Q (some (.inl (-13))) M)) ∧ (¬ (M 1 0) ≤ l7 → (0 ≤ l7 ∧ l7 < 5) ∧ R32 (M 10 l7) ∧ Call K jRows_layAt [.inr (.inr 49), .inl l1, .inl l2, .inl l7, .inr (.inl (M 10 l7))] P0 P0 M (retI fun r8 M9 => R32 r8 ∧ (r8 = 0 → G none (K + 1) jClearingWaves_rescue 145 [(0, .inr (.inr 0)), (1, .inl l1), (2, .inl l2), (6, .inl 0), (7, .inl (l7 + 1))] [] P0 P0 M9 Q) ∧ (¬ r8 = 0 → R32 l6 ∧ (l6 = 0 → G none (K + 1) jClearingWaves_rescue 145 [(0, .inr (.inr 0)), (1, .inl l1), (2, .inl l2), (6, .inl 0), (7, .inl (l7 + 1))] [] P0 P0 M9 Q) ∧ (¬ l6 = 0 → G none (K + 1) jClearingWaves_rescue 145 [(0, .inr (.inr 0)), (1, .inl l1), (2, .inl l2), (6, .inl 1), (7, .inl (l7 + 1))] [] P0 P0 M9 Q))))) : G none (K + 1) jClearingWaves_rescue 145 [(0, .inr (.inr 0)), (1, .inl l1), (2, .inl l2), (6, .inl l6), (7, .inl l7)] [] P0 P0 M Q := by
  refine G_iload 4 rfl (ck dc120 (i := 79) rfl) ?_
  refine G_aload_n 0 rfl rfl (ck dc120 (i := 80) rfl) ?_
  refine H_getR mf120 (ck dc120 (i := 81) rfl) fw_ClearingWaves_12 fc10_0 ly0 ra0 rf0_0 (by decide) ?_
  refine H_getI mf120 (ck dc120 (i := 82) rfl) fw_ClearingWaves_207 (Or.inl fc0_0) ly1 ra1 (x := (M 1 0)) rfl ?_
  obtain ⟨o1, h⟩ := h
  obtain ⟨o2, h⟩ := h
  refine G_icmp_ge (tgt := 197) (by decide) o1 o2 (ck dc120 (i := 83) rfl) (fun c => ?_) (fun c => ?_)
  · replace h := h.1 c
    refine G_iload 3 rfl (ck dc120 (i := 104) rfl) ?_
    obtain ⟨o3, h⟩ := h
    refine G_if_ne (tgt := 205) (by decide) o3 (ck dc120 (i := 105) rfl) (fun c => ?_) (fun c => ?_)
    · replace h := h.1 c
      refine G_aload_n 0 rfl rfl (ck dc120 (i := 108) rfl) ?_
      refine H_getR mf120 (ck dc120 (i := 109) rfl) fw_ClearingWaves_40 fc10_6 ly0 ra0 rf0_6 (by decide) ?_
      refine H_vV mf120 (As := []) (st := []) (ck dc120 (i := 110) rfl) lk_ClearingWaves_264 rfl rfl (Nat.le_of_ble_eq_true rfl) ly24 ra24 ⟨Nat.le_refl _, Nat.le_refl _⟩ h (fun M5 h => ?_)
      refine G_aload_n 0 rfl rfl (ck dc120 (i := 111) rfl) ?_
      refine H_getR mf120 (ck dc120 (i := 112) rfl) fw_ClearingWaves_40 fc10_6 ly0 ra0 rf0_6 (by decide) ?_
      refine H_getI mf120 (ck dc120 (i := 113) rfl) fw_ClearingWaves_155 (Or.inl fc1_1) ly24 ra24 (x := (M5 24 1)) rfl ?_
      exact H_iretI mf120 (ck dc120 (i := 114) rfl) rfl h
    · replace h := h.2 c
      refine G_bipush (n := (-13)) rfl (ck dc120 (i := 106) rfl) ?_
      exact H_iretI mf120 (ck dc120 (i := 107) rfl) rfl h
  · replace h := h.2 c
    refine G_aload_n 0 rfl rfl (ck dc120 (i := 84) rfl) ?_
    refine H_getR mf120 (ck dc120 (i := 85) rfl) fw_ClearingWaves_90 fc10_15 ly0 ra0 rf0_15 (by decide) ?_
    refine G_iload_n 1 rfl rfl (ck dc120 (i := 86) rfl) ?_
    refine G_iload_n 2 rfl rfl (ck dc120 (i := 87) rfl) ?_
    refine G_iload 4 rfl (ck dc120 (i := 88) rfl) ?_
    refine G_aload_n 0 rfl rfl (ck dc120 (i := 89) rfl) ?_
    refine H_getR mf120 (ck dc120 (i := 90) rfl) fw_ClearingWaves_25 fc10_4 ly0 ra0 rf0_4 (by decide) ?_
    refine G_iload 4 rfl (ck dc120 (i := 91) rfl) ?_
    obtain ⟨o6, h⟩ := h
    refine H_iald (ck dc120 (i := 92) rfl) ly10 (by decide) ra10 o6 (x := (M 10 l7)) rfl ?_
    obtain ⟨o7, h⟩ := h
    refine G_i2l o7 (ck dc120 (i := 93) rfl) ?_
    refine H_vZ mf120 (As := [.inl l1, .inl l2, .inl l7, .inr (.inl (M 10 l7))]) (st := []) (ck dc120 (i := 94) rfl) lk_ClearingWaves_260 rfl rfl (Nat.le_of_ble_eq_true rfl) ly49 ra49 ⟨Nat.le_refl _, Nat.le_refl _⟩ h (fun r8 M9 h => ?_)
    obtain ⟨o10, h⟩ := h
    refine G_if_eq (tgt := 188) (by decide) o10 (ck dc120 (i := 95) rfl) (fun c => ?_) (fun c => ?_)
    · replace h := h.1 c
      refine G_iconst (ck dc120 (i := 100) rfl) ?_
      refine G_istore (L' := [(6, .inl 0), (0, .inr (.inr 0)), (1, .inl l1), (2, .inl l2), (7, .inl l7)]) (mfx.lt mf120 (Nat.le_of_ble_eq_true rfl)) rfl (ck dc120 (i := 101) rfl) ?_
      refine G_iinc (L' := [(7, .inl (l7 + 1)), (6, .inl 0), (0, .inr (.inr 0)), (1, .inl l1), (2, .inl l2)]) 4 rfl (mfx.lt mf120 (Nat.le_of_ble_eq_true rfl)) rfl (ck dc120 (i := 102) rfl) ?_
      refine G_goto (tgt := 145) (by decide) (ck dc120 (i := 103) rfl) ?_
      exact G_sub [2, 3, 4, 1, 0] rfl h
    · replace h := h.2 c
      refine G_iload 3 rfl (ck dc120 (i := 96) rfl) ?_
      obtain ⟨o11, h⟩ := h
      refine G_if_eq (tgt := 188) (by decide) o11 (ck dc120 (i := 97) rfl) (fun c => ?_) (fun c => ?_)
      · replace h := h.1 c
        refine G_iconst (ck dc120 (i := 100) rfl) ?_
        refine G_istore (L' := [(6, .inl 0), (0, .inr (.inr 0)), (1, .inl l1), (2, .inl l2), (7, .inl l7)]) (mfx.lt mf120 (Nat.le_of_ble_eq_true rfl)) rfl (ck dc120 (i := 101) rfl) ?_
        refine G_iinc (L' := [(7, .inl (l7 + 1)), (6, .inl 0), (0, .inr (.inr 0)), (1, .inl l1), (2, .inl l2)]) 4 rfl (mfx.lt mf120 (Nat.le_of_ble_eq_true rfl)) rfl (ck dc120 (i := 102) rfl) ?_
        refine G_goto (tgt := 145) (by decide) (ck dc120 (i := 103) rfl) ?_
        exact G_sub [2, 3, 4, 1, 0] rfl h
      · replace h := h.2 c
        refine G_iconst (ck dc120 (i := 98) rfl) ?_
        refine G_goto (tgt := 189) (by decide) (ck dc120 (i := 99) rfl) ?_
        refine G_istore (L' := [(6, .inl 1), (0, .inr (.inr 0)), (1, .inl l1), (2, .inl l2), (7, .inl l7)]) (mfx.lt mf120 (Nat.le_of_ble_eq_true rfl)) rfl (ck dc120 (i := 101) rfl) ?_
        refine G_iinc (L' := [(7, .inl (l7 + 1)), (6, .inl 1), (0, .inr (.inr 0)), (1, .inl l1), (2, .inl l2)]) 4 rfl (mfx.lt mf120 (Nat.le_of_ble_eq_true rfl)) rfl (ck dc120 (i := 102) rfl) ?_
        refine G_goto (tgt := 145) (by decide) (ck dc120 (i := 103) rfl) ?_
        exact G_sub [2, 3, 4, 1, 0] rfl h
theorem c_x_ring (K : Nat) (a1 a2 : Int) (M : PM) (Q : Option PV → PM → Prop)
    (h : Call K jBook_hasClass [.inr (.inr 1), .inl a1] P0 P0 M (retI fun r1 M2 => R32 r1 ∧ (r1 = 0 → Q (some (.inl (-1))) M2) ∧ (¬ r1 = 0 → R32 a2 ∧ (a2 < 0 → Q (some (.inl (-1))) M2) ∧ (¬ a2 < 0 → (a2 < 5 → Call K jRings_find [.inr (.inr 40), .inl a1] P0 P0 M2 (retI fun r5 M6 => R32 r5 ∧ (r5 ≤ a2 → Q (some (.inl (-5))) M6) ∧ (¬ r5 ≤ a2 → (0 ≤ a2 ∧ a2 < 5) ∧ Q (some (.inl (M6 41 a2))) M6))) ∧ (¬ a2 < 5 → Q (some (.inl (-1))) M2))))) : Call (K + 1) jClearingWaves_ring [.inr (.inr 0), .inl a1, .inl a2] P0 P0 M Q := by
  refine Call.intro (by decide +kernel) (mfx.le mf125 (Nat.le_of_ble_eq_true rfl)) (Nat.le_refl _) rfl ?_
  refine G_aload_n 0 rfl rfl (ck dc125 (i := 0) rfl) ?_
  refine H_getR mf125 (ck dc125 (i := 1) rfl) fw_ClearingWaves_12 fc10_0 ly0 ra0 rf0_0 (by decide) ?_
  refine G_iload_n 1 rfl rfl (ck dc125 (i := 2) rfl) ?_
  refine H_vZ mf125 (As := [.inl a1]) (st := []) (ck dc125 (i := 3) rfl) lk_ClearingWaves_267 rfl rfl (Nat.le_of_ble_eq_true rfl) ly1 ra1 ⟨Nat.le_refl _, Nat.le_refl _⟩ h (fun r1 M2 h => ?_)
  obtain ⟨o3, h⟩ := h
  refine G_if_eq (tgt := 20) (by decide) o3 (ck dc125 (i := 4) rfl) (fun c => ?_) (fun c => ?_)
  · replace h := h.1 c
    refine G_iconst (ck dc125 (i := 10) rfl) ?_
    exact H_iretI mf125 (ck dc125 (i := 11) rfl) rfl h
  · replace h := h.2 c
    refine G_iload_n 2 rfl rfl (ck dc125 (i := 5) rfl) ?_
    obtain ⟨o4, h⟩ := h
    refine G_if_lt (tgt := 20) (by decide) o4 (ck dc125 (i := 6) rfl) (fun c => ?_) (fun c => ?_)
    · replace h := h.1 c
      refine G_iconst (ck dc125 (i := 10) rfl) ?_
      exact H_iretI mf125 (ck dc125 (i := 11) rfl) rfl h
    · replace h := h.2 c
      refine G_iload_n 2 rfl rfl (ck dc125 (i := 7) rfl) ?_
      refine G_iconst (ck dc125 (i := 8) rfl) ?_
      refine G_icmp_lt (tgt := 22) (by decide) o4 (by decide) (ck dc125 (i := 9) rfl) (fun c => ?_) (fun c => ?_)
      · replace h := h.1 c
        refine G_iload_n 2 rfl rfl (ck dc125 (i := 12) rfl) ?_
        refine G_aload_n 0 rfl rfl (ck dc125 (i := 13) rfl) ?_
        refine H_getR mf125 (ck dc125 (i := 14) rfl) fw_ClearingWaves_55 fc10_10 ly0 ra0 rf0_10 (by decide) ?_
        refine G_iload_n 1 rfl rfl (ck dc125 (i := 15) rfl) ?_
        refine H_vI mf125 (As := [.inl a1]) (st := [.inl a2]) (ck dc125 (i := 16) rfl) lk_ClearingWaves_270 rfl rfl (Nat.le_of_ble_eq_true rfl) ly40 ra40 ⟨Nat.le_refl _, Nat.le_refl _⟩ h (fun r5 M6 h => ?_)
        obtain ⟨o7, h⟩ := h
        refine G_icmp_ge (tgt := 46) (by decide) o4 o7 (ck dc125 (i := 17) rfl) (fun c => ?_) (fun c => ?_)
        · replace h := h.1 c
          refine G_bipush (n := (-5)) rfl (ck dc125 (i := 24) rfl) ?_
          exact H_iretI mf125 (ck dc125 (i := 25) rfl) rfl h
        · replace h := h.2 c
          refine G_aload_n 0 rfl rfl (ck dc125 (i := 18) rfl) ?_
          refine H_getR mf125 (ck dc125 (i := 19) rfl) fw_ClearingWaves_55 fc10_10 ly0 ra0 rf0_10 (by decide) ?_
          refine H_getR mf125 (ck dc125 (i := 20) rfl) fw_ClearingWaves_273 fc5_0 ly40 ra40 rf40_0 (by decide) ?_
          refine G_iload_n 2 rfl rfl (ck dc125 (i := 21) rfl) ?_
          obtain ⟨o8, h⟩ := h
          refine H_iald (ck dc125 (i := 22) rfl) ly41 (by decide) ra41 o8 (x := (M6 41 a2)) rfl ?_
          refine G_goto (tgt := 48) (by decide) (ck dc125 (i := 23) rfl) ?_
          exact H_iretI mf125 (ck dc125 (i := 25) rfl) rfl h
      · replace h := h.2 c
        refine G_iconst (ck dc125 (i := 10) rfl) ?_
        exact H_iretI mf125 (ck dc125 (i := 11) rfl) rfl h
theorem c_x_net (K : Nat) (a1 : Int) (M : PM) (Q : Option PV → PM → Prop)
    (h : Call K jBook_hasClass [.inr (.inr 1), .inl a1] P0 P0 M (retI fun r1 M2 => R32 r1 ∧ (¬ r1 = 0 → G none (K + 1) jClearingWaves_net 17 [(0, .inr (.inr 0)), (1, .inl a1), (2, .inl 0), (3, .inl 0)] [] P0 P0 M2 Q) ∧ (r1 = 0 → Q (some (.inl (-1))) M2))) : Call (K + 1) jClearingWaves_net [.inr (.inr 0), .inl a1] P0 P0 M Q := by
  refine Call.intro (by decide +kernel) (mfx.le mf129 (Nat.le_of_ble_eq_true rfl)) (Nat.le_refl _) rfl ?_
  refine G_aload_n 0 rfl rfl (ck dc129 (i := 0) rfl) ?_
  refine H_getR mf129 (ck dc129 (i := 1) rfl) fw_ClearingWaves_12 fc10_0 ly0 ra0 rf0_0 (by decide) ?_
  refine G_iload_n 1 rfl rfl (ck dc129 (i := 2) rfl) ?_
  refine H_vZ mf129 (As := [.inl a1]) (st := []) (ck dc129 (i := 3) rfl) lk_ClearingWaves_267 rfl rfl (Nat.le_of_ble_eq_true rfl) ly1 ra1 ⟨Nat.le_refl _, Nat.le_refl _⟩ h (fun r1 M2 h => ?_)
  obtain ⟨o3, h⟩ := h
  refine G_if_ne (tgt := 13) (by decide) o3 (ck dc129 (i := 4) rfl) (fun c => ?_) (fun c => ?_)
  · replace h := h.1 c
    refine G_iconst (ck dc129 (i := 7) rfl) ?_
    refine G_istore_n (L' := [(2, .inl 0), (0, .inr (.inr 0)), (1, .inl a1)]) rfl (mfx.lt mf129 (Nat.le_of_ble_eq_true rfl)) rfl (ck dc129 (i := 8) rfl) ?_
    refine G_iconst (ck dc129 (i := 9) rfl) ?_
    refine G_istore_n (L' := [(3, .inl 0), (2, .inl 0), (0, .inr (.inr 0)), (1, .inl a1)]) rfl (mfx.lt mf129 (Nat.le_of_ble_eq_true rfl)) rfl (ck dc129 (i := 10) rfl) ?_
    exact G_sub [2, 3, 1, 0] rfl h
  · replace h := h.2 c
    refine G_iconst (ck dc129 (i := 5) rfl) ?_
    exact H_iretI mf129 (ck dc129 (i := 6) rfl) rfl h
theorem g_x_net_17 (K : Nat) (l1 l2 l3 : Int) (M : PM) (Q : Option PV → PM → Prop)
    (h : R32 l3 ∧ (25 ≤ l3 → Call K jClearingWaves_noteChange [.inr (.inr 0)] P0 P0 M (retV fun M3 => Q (some (.inl l2)) M3)) ∧ (¬ 25 ≤ l3 → Call K jRings_takeOff [.inr (.inr 40), .inl l1] P0 P0 M (retI fun r4 M5 => R32 r4 ∧ (¬ r4 = 0 → G none (K + 1) jClearingWaves_net 17 [(0, .inr (.inr 0)), (1, .inl l1), (2, .inl (l2 + r4)), (3, .inl (l3 + 1))] [] P0 P0 M5 Q) ∧ (r4 = 0 → Call K jClearingWaves_noteChange [.inr (.inr 0)] P0 P0 M5 (retV fun M8 => Q (some (.inl l2)) M8))))) : G none (K + 1) jClearingWaves_net 17 [(0, .inr (.inr 0)), (1, .inl l1), (2, .inl l2), (3, .inl l3)] [] P0 P0 M Q := by
  refine G_iload_n 3 rfl rfl (ck dc129 (i := 11) rfl) ?_
  refine G_bipush (n := 25) rfl (ck dc129 (i := 12) rfl) ?_
  obtain ⟨o1, h⟩ := h
  refine G_icmp_ge (tgt := 52) (by decide) o1 (by decide) (ck dc129 (i := 13) rfl) (fun c => ?_) (fun c => ?_)
  · replace h := h.1 c
    refine G_aload_n 0 rfl rfl (ck dc129 (i := 28) rfl) ?_
    refine H_vV mf129 (As := []) (st := []) (ck dc129 (i := 29) rfl) lk_ClearingWaves_105 rfl rfl (Nat.le_of_ble_eq_true rfl) ly0 ra0 ⟨Nat.le_refl _, Nat.le_refl _⟩ h (fun M3 h => ?_)
    refine G_iload_n 2 rfl rfl (ck dc129 (i := 30) rfl) ?_
    exact H_iretI mf129 (ck dc129 (i := 31) rfl) rfl h
  · replace h := h.2 c
    refine G_aload_n 0 rfl rfl (ck dc129 (i := 14) rfl) ?_
    refine H_getR mf129 (ck dc129 (i := 15) rfl) fw_ClearingWaves_55 fc10_10 ly0 ra0 rf0_10 (by decide) ?_
    refine G_iload_n 1 rfl rfl (ck dc129 (i := 16) rfl) ?_
    refine H_vI mf129 (As := [.inl l1]) (st := []) (ck dc129 (i := 17) rfl) lk_ClearingWaves_276 rfl rfl (Nat.le_of_ble_eq_true rfl) ly40 ra40 ⟨Nat.le_refl _, Nat.le_refl _⟩ h (fun r4 M5 h => ?_)
    refine G_istore (L' := [(4, .inl r4), (0, .inr (.inr 0)), (1, .inl l1), (2, .inl l2), (3, .inl l3)]) (mfx.lt mf129 (Nat.le_of_ble_eq_true rfl)) rfl (ck dc129 (i := 18) rfl) ?_
    refine G_iload 0 rfl (ck dc129 (i := 19) rfl) ?_
    obtain ⟨o6, h⟩ := h
    refine G_if_ne (tgt := 41) (by decide) o6 (ck dc129 (i := 20) rfl) (fun c => ?_) (fun c => ?_)
    · replace h := h.1 c
      refine G_iload_n 3 rfl rfl (ck dc129 (i := 22) rfl) ?_
      refine G_iload 0 rfl (ck dc129 (i := 23) rfl) ?_
      refine G_iadd (ck dc129 (i := 24) rfl) ?_
      refine G_istore_n (L' := [(2, .inl (l2 + r4)), (4, .inl r4), (0, .inr (.inr 0)), (1, .inl l1), (3, .inl l3)]) rfl (mfx.lt mf129 (Nat.le_of_ble_eq_true rfl)) rfl (ck dc129 (i := 25) rfl) ?_
      refine G_iinc (L' := [(3, .inl (l3 + 1)), (2, .inl (l2 + r4)), (4, .inl r4), (0, .inr (.inr 0)), (1, .inl l1)]) 4 rfl (mfx.lt mf129 (Nat.le_of_ble_eq_true rfl)) rfl (ck dc129 (i := 26) rfl) ?_
      refine G_goto (tgt := 17) (by decide) (ck dc129 (i := 27) rfl) ?_
      exact G_sub [3, 4, 1, 0] rfl h
    · replace h := h.2 c
      refine G_goto (tgt := 52) (by decide) (ck dc129 (i := 21) rfl) ?_
      refine G_aload_n 1 rfl rfl (ck dc129 (i := 28) rfl) ?_
      refine H_vV mf129 (As := []) (st := []) (ck dc129 (i := 29) rfl) lk_ClearingWaves_105 rfl rfl (Nat.le_of_ble_eq_true rfl) ly0 ra0 ⟨Nat.le_refl _, Nat.le_refl _⟩ h (fun M8 h => ?_)
      refine G_iload_n 3 rfl rfl (ck dc129 (i := 30) rfl) ?_
      exact H_iretI mf129 (ck dc129 (i := 31) rfl) rfl h
set_option maxHeartbeats 20000000 in
theorem c_x_units (K : Nat) (a1 a2 a3 a4 : Int) (M : PM) (Q : Option PV → PM → Prop)
    (h : R32 a1 ∧ (a1 < 0 → Q (some (.inr (.inl (-1)))) M) ∧ (¬ a1 < 0 → (3 ≤ a1 → Q (some (.inr (.inl (-1)))) M) ∧ (¬ 3 ≤ a1 → Call K jBook_hasPart [.inr (.inr 1), .inl a2, .inl a3] P0 P0 M (retI fun r2 M3 => R32 r2 ∧ (¬ r2 = 0 → R64 a4 ∧ (a4 < 0 → Q (some (.inr (.inl (-2)))) M3) ∧ (¬ a4 < 0 → (a4 ≤ 1000000000000 → Call K jBook_unitPlace [.inl a1, .inl a2, .inl a3] P0 P0 M3 (retI fun r6 M7 => (0 ≤ r6 ∧ r6 < 45) ∧ Q (some (.inr (.inl (M7 4 r6)))) (mset M7 4 r6 a4))) ∧ (¬ a4 ≤ 1000000000000 → Q (some (.inr (.inl (-2)))) M3))) ∧ (r2 = 0 → Q (some (.inr (.inl (-1)))) M3))))) : Call (K + 1) jClearingWaves_units [.inr (.inr 0), .inl a1, .inl a2, .inl a3, .inr (.inl a4)] P0 P0 M Q := by
  refine Call.intro (by decide +kernel) (mfx.le mf132 (Nat.le_of_ble_eq_true rfl)) (Nat.le_refl _) rfl ?_
  refine G_iload_n 1 rfl rfl (ck dc132 (i := 0) rfl) ?_
  obtain ⟨o1, h⟩ := h
  refine G_if_lt (tgt := 21) (by decide) o1 (ck dc132 (i := 1) rfl) (fun c => ?_) (fun c => ?_)
  · replace h := h.1 c
    refine H_ldc2 mf132 (v := (-1)) (ck dc132 (i := 11) rfl) kl_ClearingWaves_279 ?_
    exact H_lret mf132 (ck dc132 (i := 12) rfl) rfl h
  · replace h := h.2 c
    refine G_iload_n 1 rfl rfl (ck dc132 (i := 2) rfl) ?_
    refine G_iconst (ck dc132 (i := 3) rfl) ?_
    refine G_icmp_ge (tgt := 21) (by decide) o1 (by decide) (ck dc132 (i := 4) rfl) (fun c => ?_) (fun c => ?_)
    · replace h := h.1 c
      refine H_ldc2 mf132 (v := (-1)) (ck dc132 (i := 11) rfl) kl_ClearingWaves_279 ?_
      exact H_lret mf132 (ck dc132 (i := 12) rfl) rfl h
    · replace h := h.2 c
      refine G_aload_n 0 rfl rfl (ck dc132 (i := 5) rfl) ?_
      refine H_getR mf132 (ck dc132 (i := 6) rfl) fw_ClearingWaves_12 fc10_0 ly0 ra0 rf0_0 (by decide) ?_
      refine G_iload_n 2 rfl rfl (ck dc132 (i := 7) rfl) ?_
      refine G_iload_n 3 rfl rfl (ck dc132 (i := 8) rfl) ?_
      refine H_vZ mf132 (As := [.inl a2, .inl a3]) (st := []) (ck dc132 (i := 9) rfl) lk_ClearingWaves_165 rfl rfl (Nat.le_of_ble_eq_true rfl) ly1 ra1 ⟨Nat.le_refl _, Nat.le_refl _⟩ h (fun r2 M3 h => ?_)
      obtain ⟨o4, h⟩ := h
      refine G_if_ne (tgt := 25) (by decide) o4 (ck dc132 (i := 10) rfl) (fun c => ?_) (fun c => ?_)
      · replace h := h.1 c
        refine G_lload 4 rfl (ck dc132 (i := 13) rfl) ?_
        refine G_lconst (v := 0) rfl (ck dc132 (i := 14) rfl) ?_
        obtain ⟨o5, h⟩ := h
        refine G_lif_lt (tgt := 41) (ck dc132 (i := 16) rfl) (by decide) o5 (by decide) (ck dc132 (i := 15) rfl) (fun c => ?_) (fun c => ?_)
        · replace h := h.1 c
          refine H_ldc2 mf132 (v := (-2)) (ck dc132 (i := 21) rfl) kl_ClearingWaves_283 ?_
          exact H_lret mf132 (ck dc132 (i := 22) rfl) rfl h
        · replace h := h.2 c
          refine G_lload 4 rfl (ck dc132 (i := 17) rfl) ?_
          refine H_ldc2 mf132 (v := 1000000000000) (ck dc132 (i := 18) rfl) kl_ClearingWaves_281 ?_
          refine G_lif_le (tgt := 45) (ck dc132 (i := 20) rfl) (by decide) o5 (by decide) (ck dc132 (i := 19) rfl) (fun c => ?_) (fun c => ?_)
          · replace h := h.1 c
            refine G_iload_n 1 rfl rfl (ck dc132 (i := 23) rfl) ?_
            refine G_iload_n 2 rfl rfl (ck dc132 (i := 24) rfl) ?_
            refine G_iload_n 3 rfl rfl (ck dc132 (i := 25) rfl) ?_
            refine H_sI mf132 (As := [.inl a1, .inl a2, .inl a3]) (st := []) (ck dc132 (i := 26) rfl) lk_ClearingWaves_285 rfl rfl (Nat.le_of_ble_eq_true rfl) ⟨Nat.le_refl _, Nat.le_refl _⟩ h (fun r6 M7 h => ?_)
            refine G_istore (L' := [(6, .inl r6), (0, .inr (.inr 0)), (1, .inl a1), (2, .inl a2), (3, .inl a3), (4, .inr (.inl a4))]) (mfx.lt mf132 (Nat.le_of_ble_eq_true rfl)) rfl (ck dc132 (i := 27) rfl) ?_
            refine G_aload_n 1 rfl rfl (ck dc132 (i := 28) rfl) ?_
            refine H_getR mf132 (ck dc132 (i := 29) rfl) fw_ClearingWaves_12 fc10_0 ly0 ra0 rf0_0 (by decide) ?_
            refine H_getR mf132 (ck dc132 (i := 30) rfl) fw_ClearingWaves_288 fc0_5 ly1 ra1 rf1_5 (by decide) ?_
            refine G_iload 0 rfl (ck dc132 (i := 31) rfl) ?_
            obtain ⟨o8, h⟩ := h
            refine H_lald (ck dc132 (i := 32) rfl) ly4 (by decide) ra4 o8 (x := (M7 4 r6)) rfl ?_
            refine G_lstore (L' := [(7, .inr (.inl (M7 4 r6))), (6, .inl r6), (0, .inr (.inr 0)), (1, .inl a1), (2, .inl a2), (3, .inl a3), (4, .inr (.inl a4))]) (mfx.lt mf132 (Nat.le_of_ble_eq_true rfl)) rfl (ck dc132 (i := 33) rfl) ?_
            refine G_aload_n 2 rfl rfl (ck dc132 (i := 34) rfl) ?_
            refine H_getR mf132 (ck dc132 (i := 35) rfl) fw_ClearingWaves_12 fc10_0 ly0 ra0 rf0_0 (by decide) ?_
            refine H_getR mf132 (ck dc132 (i := 36) rfl) fw_ClearingWaves_288 fc0_5 ly1 ra1 rf1_5 (by decide) ?_
            refine G_iload 1 rfl (ck dc132 (i := 37) rfl) ?_
            refine G_lload 6 rfl (ck dc132 (i := 38) rfl) ?_
            refine G_last (ck dc132 (i := 39) rfl) ra4 ly4 (by decide) o8 ?_
            refine G_lload 0 rfl (ck dc132 (i := 40) rfl) ?_
            exact H_lret mf132 (ck dc132 (i := 41) rfl) rfl h
          · replace h := h.2 c
            refine H_ldc2 mf132 (v := (-2)) (ck dc132 (i := 21) rfl) kl_ClearingWaves_283 ?_
            exact H_lret mf132 (ck dc132 (i := 22) rfl) rfl h
      · replace h := h.2 c
        refine H_ldc2 mf132 (v := (-1)) (ck dc132 (i := 11) rfl) kl_ClearingWaves_279 ?_
        exact H_lret mf132 (ck dc132 (i := 12) rfl) rfl h
theorem c_x_unitsOf (K : Nat) (a1 a2 a3 : Int) (M : PM) (Q : Option PV → PM → Prop)
    (h : R32 a1 ∧ (a1 < 0 → Q (some (.inr (.inl (-9223372036854775808)))) M) ∧ (¬ a1 < 0 → (3 ≤ a1 → Q (some (.inr (.inl (-9223372036854775808)))) M) ∧ (¬ 3 ≤ a1 → Call K jBook_hasPart [.inr (.inr 1), .inl a2, .inl a3] P0 P0 M (retI fun r2 M3 => R32 r2 ∧ (¬ r2 = 0 → Call K jBook_unitPlace [.inl a1, .inl a2, .inl a3] P0 P0 M3 (retI fun r5 M6 => (0 ≤ r5 ∧ r5 < 45) ∧ Q (some (.inr (.inl (M6 4 r5)))) M6)) ∧ (r2 = 0 → Q (some (.inr (.inl (-9223372036854775808)))) M3))))) : Call (K + 1) jClearingWaves_unitsOf [.inr (.inr 0), .inl a1, .inl a2, .inl a3] P0 P0 M Q := by
  refine Call.intro (by decide +kernel) (mfx.le mf134 (Nat.le_of_ble_eq_true rfl)) (Nat.le_refl _) rfl ?_
  refine G_iload_n 1 rfl rfl (ck dc134 (i := 0) rfl) ?_
  obtain ⟨o1, h⟩ := h
  refine G_if_lt (tgt := 21) (by decide) o1 (ck dc134 (i := 1) rfl) (fun c => ?_) (fun c => ?_)
  · replace h := h.1 c
    refine H_ldc2 mf134 (v := (-9223372036854775808)) (ck dc134 (i := 11) rfl) kl_ClearingWaves_169 ?_
    exact H_lret mf134 (ck dc134 (i := 12) rfl) rfl h
  · replace h := h.2 c
    refine G_iload_n 1 rfl rfl (ck dc134 (i := 2) rfl) ?_
    refine G_iconst (ck dc134 (i := 3) rfl) ?_
    refine G_icmp_ge (tgt := 21) (by decide) o1 (by decide) (ck dc134 (i := 4) rfl) (fun c => ?_) (fun c => ?_)
    · replace h := h.1 c
      refine H_ldc2 mf134 (v := (-9223372036854775808)) (ck dc134 (i := 11) rfl) kl_ClearingWaves_169 ?_
      exact H_lret mf134 (ck dc134 (i := 12) rfl) rfl h
    · replace h := h.2 c
      refine G_aload_n 0 rfl rfl (ck dc134 (i := 5) rfl) ?_
      refine H_getR mf134 (ck dc134 (i := 6) rfl) fw_ClearingWaves_12 fc10_0 ly0 ra0 rf0_0 (by decide) ?_
      refine G_iload_n 2 rfl rfl (ck dc134 (i := 7) rfl) ?_
      refine G_iload_n 3 rfl rfl (ck dc134 (i := 8) rfl) ?_
      refine H_vZ mf134 (As := [.inl a2, .inl a3]) (st := []) (ck dc134 (i := 9) rfl) lk_ClearingWaves_165 rfl rfl (Nat.le_of_ble_eq_true rfl) ly1 ra1 ⟨Nat.le_refl _, Nat.le_refl _⟩ h (fun r2 M3 h => ?_)
      obtain ⟨o4, h⟩ := h
      refine G_if_ne (tgt := 25) (by decide) o4 (ck dc134 (i := 10) rfl) (fun c => ?_) (fun c => ?_)
      · replace h := h.1 c
        refine G_aload_n 0 rfl rfl (ck dc134 (i := 13) rfl) ?_
        refine H_getR mf134 (ck dc134 (i := 14) rfl) fw_ClearingWaves_12 fc10_0 ly0 ra0 rf0_0 (by decide) ?_
        refine H_getR mf134 (ck dc134 (i := 15) rfl) fw_ClearingWaves_288 fc0_5 ly1 ra1 rf1_5 (by decide) ?_
        refine G_iload_n 1 rfl rfl (ck dc134 (i := 16) rfl) ?_
        refine G_iload_n 2 rfl rfl (ck dc134 (i := 17) rfl) ?_
        refine G_iload_n 3 rfl rfl (ck dc134 (i := 18) rfl) ?_
        refine H_sI mf134 (As := [.inl a1, .inl a2, .inl a3]) (st := [.inr (.inr 4)]) (ck dc134 (i := 19) rfl) lk_ClearingWaves_285 rfl rfl (Nat.le_of_ble_eq_true rfl) ⟨Nat.le_refl _, Nat.le_refl _⟩ h (fun r5 M6 h => ?_)
        obtain ⟨o7, h⟩ := h
        refine H_lald (ck dc134 (i := 20) rfl) ly4 (by decide) ra4 o7 (x := (M6 4 r5)) rfl ?_
        exact H_lret mf134 (ck dc134 (i := 21) rfl) rfl h
      · replace h := h.2 c
        refine H_ldc2 mf134 (v := (-9223372036854775808)) (ck dc134 (i := 11) rfl) kl_ClearingWaves_169 ?_
        exact H_lret mf134 (ck dc134 (i := 12) rfl) rfl h
theorem c_x_fund (K : Nat) (a1 a2 : Int) (M : PM) (Q : Option PV → PM → Prop)
    (h : R32 a1 ∧ (a1 < 0 → Q (some (.inr (.inl (-9223372036854775808)))) M) ∧ (¬ a1 < 0 → (3 ≤ a1 → Q (some (.inr (.inl (-9223372036854775808)))) M) ∧ (¬ 3 ≤ a1 → Call K jClearingWaves_cleared [.inr (.inr 0)] P0 P0 M (retR fun r2 M3 => r2 = 11 ∧ Call K jWorth_reckon [.inr (.inr 42), .inr (.inr 1), .inr (.inr 11), .inl a1] P0 P0 M3 (retI fun r4 M5 => R32 r4 ∧ (¬ r4 = 0 → Call K jRatio_tell [.inr (.inl (M5 42 0)), .inr (.inl (M5 42 1)), .inl a2] P0 P0 M5 (retL fun r7 M8 => Q (some (.inr (.inl r7))) M8)) ∧ (r4 = 0 → Q (some (.inr (.inl (-9223372036854775808)))) M5)))))) : Call (K + 1) jClearingWaves_fund [.inr (.inr 0), .inl a1, .inl a2] P0 P0 M Q := by
  refine Call.intro (by decide +kernel) (mfx.le mf135 (Nat.le_of_ble_eq_true rfl)) (Nat.le_refl _) rfl ?_
  refine G_iload_n 1 rfl rfl (ck dc135 (i := 0) rfl) ?_
  obtain ⟨o1, h⟩ := h
  refine G_if_lt (tgt := 28) (by decide) o1 (ck dc135 (i := 1) rfl) (fun c => ?_) (fun c => ?_)
  · replace h := h.1 c
    refine H_ldc2 mf135 (v := (-9223372036854775808)) (ck dc135 (i := 14) rfl) kl_ClearingWaves_169 ?_
    exact H_lret mf135 (ck dc135 (i := 15) rfl) rfl h
  · replace h := h.2 c
    refine G_iload_n 1 rfl rfl (ck dc135 (i := 2) rfl) ?_
    refine G_iconst (ck dc135 (i := 3) rfl) ?_
    refine G_icmp_ge (tgt := 28) (by decide) o1 (by decide) (ck dc135 (i := 4) rfl) (fun c => ?_) (fun c => ?_)
    · replace h := h.1 c
      refine H_ldc2 mf135 (v := (-9223372036854775808)) (ck dc135 (i := 14) rfl) kl_ClearingWaves_169 ?_
      exact H_lret mf135 (ck dc135 (i := 15) rfl) rfl h
    · replace h := h.2 c
      refine G_aload_n 0 rfl rfl (ck dc135 (i := 5) rfl) ?_
      refine H_getR mf135 (ck dc135 (i := 6) rfl) fw_ClearingWaves_62 fc10_11 ly0 ra0 rf0_11 (by decide) ?_
      refine G_aload_n 0 rfl rfl (ck dc135 (i := 7) rfl) ?_
      refine H_getR mf135 (ck dc135 (i := 8) rfl) fw_ClearingWaves_12 fc10_0 ly0 ra0 rf0_0 (by decide) ?_
      refine G_aload_n 0 rfl rfl (ck dc135 (i := 9) rfl) ?_
      refine H_vR mf135 (As := []) (st := [.inr (.inr 1), .inr (.inr 42)]) (ck dc135 (i := 10) rfl) lk_ClearingWaves_145 rfl rfl (Nat.le_of_ble_eq_true rfl) ly0 ra0 ⟨Nat.le_refl _, Nat.le_refl _⟩ h (fun r2 M3 h => ?_)
      obtain ⟨rfl, h⟩ := h
      refine G_iload_n 1 rfl rfl (ck dc135 (i := 11) rfl) ?_
      refine H_vZ mf135 (As := [.inr (.inr 1), .inr (.inr 11), .inl a1]) (st := []) (ck dc135 (i := 12) rfl) lk_ClearingWaves_292 rfl rfl (Nat.le_of_ble_eq_true rfl) ly42 ra42 ⟨Nat.le_refl _, Nat.le_refl _⟩ h (fun r4 M5 h => ?_)
      obtain ⟨o6, h⟩ := h
      refine G_if_ne (tgt := 32) (by decide) o6 (ck dc135 (i := 13) rfl) (fun c => ?_) (fun c => ?_)
      · replace h := h.1 c
        refine G_aload_n 0 rfl rfl (ck dc135 (i := 16) rfl) ?_
        refine H_getR mf135 (ck dc135 (i := 17) rfl) fw_ClearingWaves_62 fc10_11 ly0 ra0 rf0_11 (by decide) ?_
        refine H_getL mf135 (ck dc135 (i := 18) rfl) fw_ClearingWaves_296 fc9_0 ly42 ra42 (x := (M5 42 0)) rfl ?_
        refine G_aload_n 0 rfl rfl (ck dc135 (i := 19) rfl) ?_
        refine H_getR mf135 (ck dc135 (i := 20) rfl) fw_ClearingWaves_62 fc10_11 ly0 ra0 rf0_11 (by decide) ?_
        refine H_getL mf135 (ck dc135 (i := 21) rfl) fw_ClearingWaves_299 fc9_1 ly42 ra42 (x := (M5 42 1)) rfl ?_
        refine G_iload_n 2 rfl rfl (ck dc135 (i := 22) rfl) ?_
        refine H_sL mf135 (As := [.inr (.inl (M5 42 0)), .inr (.inl (M5 42 1)), .inl a2]) (st := []) (ck dc135 (i := 23) rfl) lk_ClearingWaves_179 rfl rfl (Nat.le_of_ble_eq_true rfl) ⟨Nat.le_refl _, Nat.le_refl _⟩ h (fun r7 M8 h => ?_)
        exact H_lret mf135 (ck dc135 (i := 24) rfl) rfl h
      · replace h := h.2 c
        refine H_ldc2 mf135 (v := (-9223372036854775808)) (ck dc135 (i := 14) rfl) kl_ClearingWaves_169 ?_
        exact H_lret mf135 (ck dc135 (i := 15) rfl) rfl h
theorem c_x_told (K : Nat) (a1 : Int) (M : PM) (Q : Option PV → PM → Prop)
    (h : R32 a1 ∧ (a1 < 0 → Q (some (.inl (-1))) M) ∧ (¬ a1 < 0 → (a1 < 3 → Call K jBook_hasUnits [.inr (.inr 1), .inl a1] P0 P0 M (retI fun r2 M3 => R32 r2 ∧ (¬ r2 = 0 → Call K jClearingWaves_cleared [.inr (.inr 0)] P0 P0 M3 (retR fun r5 M6 => r5 = 11 ∧ Call K jWorth_reckon [.inr (.inr 42), .inr (.inr 1), .inr (.inr 11), .inl a1] P0 P0 M6 (retI fun r7 M8 => R32 r7 ∧ (r7 = 0 → Q (some (.inl (-6))) M8) ∧ (¬ r7 = 0 → Q (some (.inl 1)) M8)))) ∧ (r2 = 0 → Q (some (.inl (-3))) M3))) ∧ (¬ a1 < 3 → Q (some (.inl (-1))) M))) : Call (K + 1) jClearingWaves_told [.inr (.inr 0), .inl a1] P0 P0 M Q := by
  refine Call.intro (by decide +kernel) (mfx.le mf140 (Nat.le_of_ble_eq_true rfl)) (Nat.le_refl _) rfl ?_
  refine G_iload_n 1 rfl rfl (ck dc140 (i := 0) rfl) ?_
  obtain ⟨o1, h⟩ := h
  refine G_if_lt (tgt := 9) (by decide) o1 (ck dc140 (i := 1) rfl) (fun c => ?_) (fun c => ?_)
  · replace h := h.1 c
    refine G_iconst (ck dc140 (i := 5) rfl) ?_
    exact H_iretI mf140 (ck dc140 (i := 6) rfl) rfl h
  · replace h := h.2 c
    refine G_iload_n 1 rfl rfl (ck dc140 (i := 2) rfl) ?_
    refine G_iconst (ck dc140 (i := 3) rfl) ?_
    refine G_icmp_lt (tgt := 11) (by decide) o1 (by decide) (ck dc140 (i := 4) rfl) (fun c => ?_) (fun c => ?_)
    · replace h := h.1 c
      refine G_aload_n 0 rfl rfl (ck dc140 (i := 7) rfl) ?_
      refine H_getR mf140 (ck dc140 (i := 8) rfl) fw_ClearingWaves_12 fc10_0 ly0 ra0 rf0_0 (by decide) ?_
      refine G_iload_n 1 rfl rfl (ck dc140 (i := 9) rfl) ?_
      refine H_vZ mf140 (As := [.inl a1]) (st := []) (ck dc140 (i := 10) rfl) lk_ClearingWaves_301 rfl rfl (Nat.le_of_ble_eq_true rfl) ly1 ra1 ⟨Nat.le_refl _, Nat.le_refl _⟩ h (fun r2 M3 h => ?_)
      obtain ⟨o4, h⟩ := h
      refine G_if_ne (tgt := 25) (by decide) o4 (ck dc140 (i := 11) rfl) (fun c => ?_) (fun c => ?_)
      · replace h := h.1 c
        refine G_aload_n 0 rfl rfl (ck dc140 (i := 14) rfl) ?_
        refine H_getR mf140 (ck dc140 (i := 15) rfl) fw_ClearingWaves_62 fc10_11 ly0 ra0 rf0_11 (by decide) ?_
        refine G_aload_n 0 rfl rfl (ck dc140 (i := 16) rfl) ?_
        refine H_getR mf140 (ck dc140 (i := 17) rfl) fw_ClearingWaves_12 fc10_0 ly0 ra0 rf0_0 (by decide) ?_
        refine G_aload_n 0 rfl rfl (ck dc140 (i := 18) rfl) ?_
        refine H_vR mf140 (As := []) (st := [.inr (.inr 1), .inr (.inr 42)]) (ck dc140 (i := 19) rfl) lk_ClearingWaves_145 rfl rfl (Nat.le_of_ble_eq_true rfl) ly0 ra0 ⟨Nat.le_refl _, Nat.le_refl _⟩ h (fun r5 M6 h => ?_)
        obtain ⟨rfl, h⟩ := h
        refine G_iload_n 1 rfl rfl (ck dc140 (i := 20) rfl) ?_
        refine H_vZ mf140 (As := [.inr (.inr 1), .inr (.inr 11), .inl a1]) (st := []) (ck dc140 (i := 21) rfl) lk_ClearingWaves_292 rfl rfl (Nat.le_of_ble_eq_true rfl) ly42 ra42 ⟨Nat.le_refl _, Nat.le_refl _⟩ h (fun r7 M8 h => ?_)
        obtain ⟨o9, h⟩ := h
        refine G_if_eq (tgt := 48) (by decide) o9 (ck dc140 (i := 22) rfl) (fun c => ?_) (fun c => ?_)
        · replace h := h.1 c
          refine G_bipush (n := (-6)) rfl (ck dc140 (i := 25) rfl) ?_
          exact H_iretI mf140 (ck dc140 (i := 26) rfl) rfl h
        · replace h := h.2 c
          refine G_iconst (ck dc140 (i := 23) rfl) ?_
          refine G_goto (tgt := 50) (by decide) (ck dc140 (i := 24) rfl) ?_
          exact H_iretI mf140 (ck dc140 (i := 26) rfl) rfl h
      · replace h := h.2 c
        refine G_bipush (n := (-3)) rfl (ck dc140 (i := 12) rfl) ?_
        exact H_iretI mf140 (ck dc140 (i := 13) rfl) rfl h
    · replace h := h.2 c
      refine G_iconst (ck dc140 (i := 5) rfl) ?_
      exact H_iretI mf140 (ck dc140 (i := 6) rfl) rfl h
theorem c_x_best (K : Nat) (M : PM) (Q : Option PV → PM → Prop)
    (h : G none (K + 1) jClearingWaves_best 11 [(0, .inr (.inr 0)), (1, .inl (-5)), (2, .inr (.inl 0)), (4, .inr (.inl 1)), (6, .inl 0)] [] P0 P0 M Q) : Call (K + 1) jClearingWaves_best [.inr (.inr 0)] P0 P0 M Q := by
  refine Call.intro (by decide +kernel) (mfx.le mf142 (Nat.le_of_ble_eq_true rfl)) (Nat.le_refl _) rfl ?_
  refine G_bipush (n := (-5)) rfl (ck dc142 (i := 0) rfl) ?_
  refine G_istore_n (L' := [(1, .inl (-5)), (0, .inr (.inr 0))]) rfl (mfx.lt mf142 (Nat.le_of_ble_eq_true rfl)) rfl (ck dc142 (i := 1) rfl) ?_
  refine G_lconst (v := 0) rfl (ck dc142 (i := 2) rfl) ?_
  refine G_lstore_n (L' := [(2, .inr (.inl 0)), (1, .inl (-5)), (0, .inr (.inr 0))]) rfl (mfx.lt mf142 (Nat.le_of_ble_eq_true rfl)) rfl (ck dc142 (i := 3) rfl) ?_
  refine G_lconst (v := 1) rfl (ck dc142 (i := 4) rfl) ?_
  refine G_lstore (L' := [(4, .inr (.inl 1)), (2, .inr (.inl 0)), (1, .inl (-5)), (0, .inr (.inr 0))]) (mfx.lt mf142 (Nat.le_of_ble_eq_true rfl)) rfl (ck dc142 (i := 5) rfl) ?_
  refine G_iconst (ck dc142 (i := 6) rfl) ?_
  refine G_istore (L' := [(6, .inl 0), (4, .inr (.inl 1)), (2, .inr (.inl 0)), (1, .inl (-5)), (0, .inr (.inr 0))]) (mfx.lt mf142 (Nat.le_of_ble_eq_true rfl)) rfl (ck dc142 (i := 7) rfl) ?_
  exact G_sub [4, 3, 2, 1, 0] rfl h
set_option maxHeartbeats 20000000 in
theorem g_x_best_11 (K : Nat) (l1 l2 l4 l6 : Int) (M : PM) (Q : Option PV → PM → Prop)
    (h : R32 l6 ∧ (3 ≤ l6 → Q (some (.inl l1)) M) ∧ (¬ 3 ≤ l6 → Call K jBook_hasUnits [.inr (.inr 1), .inl l6] P0 P0 M (retI fun r2 M3 => R32 r2 ∧ (r2 = 0 → G none (K + 1) jClearingWaves_best 11 [(0, .inr (.inr 0)), (1, .inl l1), (2, .inr (.inl l2)), (4, .inr (.inl l4)), (6, .inl (l6 + 1))] [] P0 P0 M3 Q) ∧ (¬ r2 = 0 → Call K jClearingWaves_cleared [.inr (.inr 0)] P0 P0 M3 (retR fun r5 M6 => r5 = 11 ∧ Call K jWorth_reckon [.inr (.inr 42), .inr (.inr 1), .inr (.inr 11), .inl l6] P0 P0 M6 (retI fun r7 M8 => R32 r7 ∧ (¬ r7 = 0 → R32 l1 ∧ (l1 < 0 → G none (K + 1) jClearingWaves_best 11 [(0, .inr (.inr 0)), (1, .inl l6), (2, .inr (.inl (M8 42 0))), (4, .inr (.inl (M8 42 1))), (6, .inl (l6 + 1))] [] P0 P0 M8 Q) ∧ (¬ l1 < 0 → Call K jRatio_order [.inr (.inl (M8 42 0)), .inr (.inl (M8 42 1)), .inr (.inl l2), .inr (.inl l4)] P0 P0 M8 (retI fun r11 M12 => R32 r11 ∧ (r11 ≤ 0 → G none (K + 1) jClearingWaves_best 11 [(0, .inr (.inr 0)), (1, .inl l1), (2, .inr (.inl l2)), (4, .inr (.inl l4)), (6, .inl (l6 + 1))] [] P0 P0 M12 Q) ∧ (¬ r11 ≤ 0 → G none (K + 1) jClearingWaves_best 11 [(0, .inr (.inr 0)), (1, .inl l6), (2, .inr (.inl (M12 42 0))), (4, .inr (.inl (M12 42 1))), (6, .inl (l6 + 1))] [] P0 P0 M12 Q)))) ∧ (r7 = 0 → G none (K + 1) jClearingWaves_best 11 [(0, .inr (.inr 0)), (1, .inl l1), (2, .inr (.inl l2)), (4, .inr (.inl l4)), (6, .inl (l6 + 1))] [] P0 P0 M8 Q))))))) : G none (K + 1) jClearingWaves_best 11 [(0, .inr (.inr 0)), (1, .inl l1), (2, .inr (.inl l2)), (4, .inr (.inl l4)), (6, .inl l6)] [] P0 P0 M Q := by
  refine G_iload 4 rfl (ck dc142 (i := 8) rfl) ?_
  refine G_iconst (ck dc142 (i := 9) rfl) ?_
  obtain ⟨o1, h⟩ := h
  refine G_icmp_ge (tgt := 105) (by decide) o1 (by decide) (ck dc142 (i := 10) rfl) (fun c => ?_) (fun c => ?_)
  · replace h := h.1 c
    refine G_iload_n 1 rfl rfl (ck dc142 (i := 50) rfl) ?_
    exact H_iretI mf142 (ck dc142 (i := 51) rfl) rfl h
  · replace h := h.2 c
    refine G_aload_n 0 rfl rfl (ck dc142 (i := 11) rfl) ?_
    refine H_getR mf142 (ck dc142 (i := 12) rfl) fw_ClearingWaves_12 fc10_0 ly0 ra0 rf0_0 (by decide) ?_
    refine G_iload 4 rfl (ck dc142 (i := 13) rfl) ?_
    refine H_vZ mf142 (As := [.inl l6]) (st := []) (ck dc142 (i := 14) rfl) lk_ClearingWaves_301 rfl rfl (Nat.le_of_ble_eq_true rfl) ly1 ra1 ⟨Nat.le_refl _, Nat.le_refl _⟩ h (fun r2 M3 h => ?_)
    obtain ⟨o4, h⟩ := h
    refine G_if_eq (tgt := 99) (by decide) o4 (ck dc142 (i := 15) rfl) (fun c => ?_) (fun c => ?_)
    · replace h := h.1 c
      refine G_iinc (L' := [(6, .inl (l6 + 1)), (0, .inr (.inr 0)), (1, .inl l1), (2, .inr (.inl l2)), (4, .inr (.inl l4))]) 4 rfl (mfx.lt mf142 (Nat.le_of_ble_eq_true rfl)) rfl (ck dc142 (i := 48) rfl) ?_
      refine G_goto (tgt := 11) (by decide) (ck dc142 (i := 49) rfl) ?_
      exact G_sub [1, 2, 3, 4, 0] rfl h
    · replace h := h.2 c
      refine G_aload_n 0 rfl rfl (ck dc142 (i := 16) rfl) ?_
      refine H_getR mf142 (ck dc142 (i := 17) rfl) fw_ClearingWaves_62 fc10_11 ly0 ra0 rf0_11 (by decide) ?_
      refine G_aload_n 0 rfl rfl (ck dc142 (i := 18) rfl) ?_
      refine H_getR mf142 (ck dc142 (i := 19) rfl) fw_ClearingWaves_12 fc10_0 ly0 ra0 rf0_0 (by decide) ?_
      refine G_aload_n 0 rfl rfl (ck dc142 (i := 20) rfl) ?_
      refine H_vR mf142 (As := []) (st := [.inr (.inr 1), .inr (.inr 42)]) (ck dc142 (i := 21) rfl) lk_ClearingWaves_145 rfl rfl (Nat.le_of_ble_eq_true rfl) ly0 ra0 ⟨Nat.le_refl _, Nat.le_refl _⟩ h (fun r5 M6 h => ?_)
      obtain ⟨rfl, h⟩ := h
      refine G_iload 4 rfl (ck dc142 (i := 22) rfl) ?_
      refine H_vZ mf142 (As := [.inr (.inr 1), .inr (.inr 11), .inl l6]) (st := []) (ck dc142 (i := 23) rfl) lk_ClearingWaves_292 rfl rfl (Nat.le_of_ble_eq_true rfl) ly42 ra42 ⟨Nat.le_refl _, Nat.le_refl _⟩ h (fun r7 M8 h => ?_)
      obtain ⟨o9, h⟩ := h
      refine G_if_ne (tgt := 52) (by decide) o9 (ck dc142 (i := 24) rfl) (fun c => ?_) (fun c => ?_)
      · replace h := h.1 c
        refine G_iload_n 1 rfl rfl (ck dc142 (i := 26) rfl) ?_
        obtain ⟨o10, h⟩ := h
        refine G_if_lt (tgt := 79) (by decide) o10 (ck dc142 (i := 27) rfl) (fun c => ?_) (fun c => ?_)
        · replace h := h.1 c
          refine G_iload 4 rfl (ck dc142 (i := 38) rfl) ?_
          refine G_istore_n (L' := [(1, .inl l6), (0, .inr (.inr 0)), (2, .inr (.inl l2)), (4, .inr (.inl l4)), (6, .inl l6)]) rfl (mfx.lt mf142 (Nat.le_of_ble_eq_true rfl)) rfl (ck dc142 (i := 39) rfl) ?_
          refine G_aload_n 1 rfl rfl (ck dc142 (i := 40) rfl) ?_
          refine H_getR mf142 (ck dc142 (i := 41) rfl) fw_ClearingWaves_62 fc10_11 ly0 ra0 rf0_11 (by decide) ?_
          refine H_getL mf142 (ck dc142 (i := 42) rfl) fw_ClearingWaves_296 fc9_0 ly42 ra42 (x := (M8 42 0)) rfl ?_
          refine G_lstore_n (L' := [(2, .inr (.inl (M8 42 0))), (1, .inl l6), (0, .inr (.inr 0)), (4, .inr (.inl l4)), (6, .inl l6)]) rfl (mfx.lt mf142 (Nat.le_of_ble_eq_true rfl)) rfl (ck dc142 (i := 43) rfl) ?_
          refine G_aload_n 2 rfl rfl (ck dc142 (i := 44) rfl) ?_
          refine H_getR mf142 (ck dc142 (i := 45) rfl) fw_ClearingWaves_62 fc10_11 ly0 ra0 rf0_11 (by decide) ?_
          refine H_getL mf142 (ck dc142 (i := 46) rfl) fw_ClearingWaves_299 fc9_1 ly42 ra42 (x := (M8 42 1)) rfl ?_
          refine G_lstore (L' := [(4, .inr (.inl (M8 42 1))), (2, .inr (.inl (M8 42 0))), (1, .inl l6), (0, .inr (.inr 0)), (6, .inl l6)]) (mfx.lt mf142 (Nat.le_of_ble_eq_true rfl)) rfl (ck dc142 (i := 47) rfl) ?_
          refine G_iinc (L' := [(6, .inl (l6 + 1)), (4, .inr (.inl (M8 42 1))), (2, .inr (.inl (M8 42 0))), (1, .inl l6), (0, .inr (.inr 0))]) 4 rfl (mfx.lt mf142 (Nat.le_of_ble_eq_true rfl)) rfl (ck dc142 (i := 48) rfl) ?_
          refine G_goto (tgt := 11) (by decide) (ck dc142 (i := 49) rfl) ?_
          exact G_sub [4, 3, 2, 1, 0] rfl h
        · replace h := h.2 c
          refine G_aload_n 0 rfl rfl (ck dc142 (i := 28) rfl) ?_
          refine H_getR mf142 (ck dc142 (i := 29) rfl) fw_ClearingWaves_62 fc10_11 ly0 ra0 rf0_11 (by decide) ?_
          refine H_getL mf142 (ck dc142 (i := 30) rfl) fw_ClearingWaves_296 fc9_0 ly42 ra42 (x := (M8 42 0)) rfl ?_
          refine G_aload_n 0 rfl rfl (ck dc142 (i := 31) rfl) ?_
          refine H_getR mf142 (ck dc142 (i := 32) rfl) fw_ClearingWaves_62 fc10_11 ly0 ra0 rf0_11 (by decide) ?_
          refine H_getL mf142 (ck dc142 (i := 33) rfl) fw_ClearingWaves_299 fc9_1 ly42 ra42 (x := (M8 42 1)) rfl ?_
          refine G_lload_n 2 rfl rfl (ck dc142 (i := 34) rfl) ?_
          refine G_lload 3 rfl (ck dc142 (i := 35) rfl) ?_
          refine H_sI mf142 (As := [.inr (.inl (M8 42 0)), .inr (.inl (M8 42 1)), .inr (.inl l2), .inr (.inl l4)]) (st := []) (ck dc142 (i := 36) rfl) lk_ClearingWaves_304 rfl rfl (Nat.le_of_ble_eq_true rfl) ⟨Nat.le_refl _, Nat.le_refl _⟩ h (fun r11 M12 h => ?_)
          obtain ⟨o13, h⟩ := h
          refine G_if_le (tgt := 99) (by decide) o13 (ck dc142 (i := 37) rfl) (fun c => ?_) (fun c => ?_)
          · replace h := h.1 c
            refine G_iinc (L' := [(6, .inl (l6 + 1)), (0, .inr (.inr 0)), (1, .inl l1), (2, .inr (.inl l2)), (4, .inr (.inl l4))]) 4 rfl (mfx.lt mf142 (Nat.le_of_ble_eq_true rfl)) rfl (ck dc142 (i := 48) rfl) ?_
            refine G_goto (tgt := 11) (by decide) (ck dc142 (i := 49) rfl) ?_
            exact G_sub [1, 2, 3, 4, 0] rfl h
          · replace h := h.2 c
            refine G_iload 4 rfl (ck dc142 (i := 38) rfl) ?_
            refine G_istore_n (L' := [(1, .inl l6), (0, .inr (.inr 0)), (2, .inr (.inl l2)), (4, .inr (.inl l4)), (6, .inl l6)]) rfl (mfx.lt mf142 (Nat.le_of_ble_eq_true rfl)) rfl (ck dc142 (i := 39) rfl) ?_
            refine G_aload_n 1 rfl rfl (ck dc142 (i := 40) rfl) ?_
            refine H_getR mf142 (ck dc142 (i := 41) rfl) fw_ClearingWaves_62 fc10_11 ly0 ra0 rf0_11 (by decide) ?_
            refine H_getL mf142 (ck dc142 (i := 42) rfl) fw_ClearingWaves_296 fc9_0 ly42 ra42 (x := (M12 42 0)) rfl ?_
            refine G_lstore_n (L' := [(2, .inr (.inl (M12 42 0))), (1, .inl l6), (0, .inr (.inr 0)), (4, .inr (.inl l4)), (6, .inl l6)]) rfl (mfx.lt mf142 (Nat.le_of_ble_eq_true rfl)) rfl (ck dc142 (i := 43) rfl) ?_
            refine G_aload_n 2 rfl rfl (ck dc142 (i := 44) rfl) ?_
            refine H_getR mf142 (ck dc142 (i := 45) rfl) fw_ClearingWaves_62 fc10_11 ly0 ra0 rf0_11 (by decide) ?_
            refine H_getL mf142 (ck dc142 (i := 46) rfl) fw_ClearingWaves_299 fc9_1 ly42 ra42 (x := (M12 42 1)) rfl ?_
            refine G_lstore (L' := [(4, .inr (.inl (M12 42 1))), (2, .inr (.inl (M12 42 0))), (1, .inl l6), (0, .inr (.inr 0)), (6, .inl l6)]) (mfx.lt mf142 (Nat.le_of_ble_eq_true rfl)) rfl (ck dc142 (i := 47) rfl) ?_
            refine G_iinc (L' := [(6, .inl (l6 + 1)), (4, .inr (.inl (M12 42 1))), (2, .inr (.inl (M12 42 0))), (1, .inl l6), (0, .inr (.inr 0))]) 4 rfl (mfx.lt mf142 (Nat.le_of_ble_eq_true rfl)) rfl (ck dc142 (i := 48) rfl) ?_
            refine G_goto (tgt := 11) (by decide) (ck dc142 (i := 49) rfl) ?_
            exact G_sub [4, 3, 2, 1, 0] rfl h
      · replace h := h.2 c
        refine G_goto (tgt := 99) (by decide) (ck dc142 (i := 25) rfl) ?_
        refine G_iinc (L' := [(6, .inl (l6 + 1)), (0, .inr (.inr 0)), (1, .inl l1), (2, .inr (.inl l2)), (4, .inr (.inl l4))]) 4 rfl (mfx.lt mf142 (Nat.le_of_ble_eq_true rfl)) rfl (ck dc142 (i := 48) rfl) ?_
        refine G_goto (tgt := 11) (by decide) (ck dc142 (i := 49) rfl) ?_
        exact G_sub [1, 2, 3, 4, 0] rfl h
