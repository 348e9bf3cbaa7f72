theorem c_to_incomeByTold (K : Nat) (a2 : Int) (M : PM) (Q : Option PV → PM → Prop)
    (h : G none (K + 1) jTold_incomeByTold 5 [(0, .inr (.inr 43)), (1, .inr (.inr 1)), (2, .inl a2), (3, .inr (.inl 0)), (5, .inl 0)] [] P0 P0 M Q) : Call (K + 1) jTold_incomeByTold [.inr (.inr 43), .inr (.inr 1), .inl a2] P0 P0 M Q := by
  refine Call.intro (by decide +kernel) (mfx.le mf165 (Nat.le_of_ble_eq_true rfl)) (Nat.le_refl _) rfl ?_
  refine G_lconst (v := 0) rfl (ck dc165 (i := 0) rfl) ?_
  refine G_lstore_n (L' := [(3, .inr (.inl 0)), (0, .inr (.inr 43)), (1, .inr (.inr 1)), (2, .inl a2)]) rfl (mfx.lt mf165 (Nat.le_of_ble_eq_true rfl)) rfl (ck dc165 (i := 1) rfl) ?_
  refine G_iconst (ck dc165 (i := 2) rfl) ?_
  refine G_istore (L' := [(5, .inl 0), (3, .inr (.inl 0)), (0, .inr (.inr 43)), (1, .inr (.inr 1)), (2, .inl a2)]) (mfx.lt mf165 (Nat.le_of_ble_eq_true rfl)) rfl (ck dc165 (i := 3) rfl) ?_
  exact G_sub [2, 3, 4, 1, 0] rfl h
theorem g_to_incomeByTold_5 (K : Nat) (l2 l3 l5 : Int) (M : PM) (Q : Option PV → PM → Prop)
    (h : R32 l5 ∧ R32 (M 1 0) ∧ ((M 1 0) ≤ l5 → Q (some (.inr (.inl l3))) M) ∧ (¬ (M 1 0) ≤ l5 → G none (K + 1) jTold_incomeByTold 17 [(0, .inr (.inr 43)), (1, .inr (.inr 1)), (2, .inl l2), (3, .inr (.inl l3)), (5, .inl l5), (6, .inl 0)] [] P0 P0 M Q)) : G none (K + 1) jTold_incomeByTold 5 [(0, .inr (.inr 43)), (1, .inr (.inr 1)), (2, .inl l2), (3, .inr (.inl l3)), (5, .inl l5)] [] P0 P0 M Q := by
  refine G_iload 4 rfl (ck dc165 (i := 4) rfl) ?_
  refine G_aload_n 1 rfl rfl (ck dc165 (i := 5) rfl) ?_
  refine H_getI mf165 (ck dc165 (i := 6) rfl) fw_Told_35 (Or.inl fc0_0) ly1 ra1 (x := (M 1 0)) rfl ?_
  obtain ⟨o1, h⟩ := h
  obtain ⟨o2, h⟩ := h
  refine G_icmp_ge (tgt := 61) (by decide) o1 o2 (ck dc165 (i := 7) rfl) (fun c => ?_) (fun c => ?_)
  · replace h := h.1 c
    refine G_lload_n 3 rfl rfl (ck dc165 (i := 35) rfl) ?_
    exact H_lret mf165 (ck dc165 (i := 36) rfl) rfl h
  · replace h := h.2 c
    refine G_iconst (ck dc165 (i := 8) rfl) ?_
    refine G_istore (L' := [(6, .inl 0), (0, .inr (.inr 43)), (1, .inr (.inr 1)), (2, .inl l2), (3, .inr (.inl l3)), (5, .inl l5)]) (mfx.lt mf165 (Nat.le_of_ble_eq_true rfl)) rfl (ck dc165 (i := 9) rfl) ?_
    exact G_sub [1, 2, 3, 4, 5, 0] rfl h
theorem g_to_incomeByTold_17 (K : Nat) (l2 l3 l5 l6 : Int) (M : PM) (Q : Option PV → PM → Prop)
    (h : R32 l6 ∧ (3 ≤ l6 → G none (K + 1) jTold_incomeByTold 5 [(0, .inr (.inr 43)), (1, .inr (.inr 1)), (2, .inl l2), (3, .inr (.inl l3)), (5, .inl (l5 + 1))] [] P0 P0 M Q) ∧ (¬ 3 ≤ l6 → Call K jBook_amount [.inr (.inr 1), .inl l5, .inl l2, .inl l6] P0 P0 M (retI fun r2 M3 => R32 r2 ∧ (0 ≤ ((l5 * 3) + l6) ∧ ((l5 * 3) + l6) < 15) ∧ G none (K + 1) jTold_incomeByTold 17 [(0, .inr (.inr 43)), (1, .inr (.inr 1)), (2, .inl l2), (3, .inr (.inl (l3 + (r2 * (M3 44 ((l5 * 3) + l6)))))), (5, .inl l5), (6, .inl (l6 + 1))] [] P0 P0 M3 Q))) : G none (K + 1) jTold_incomeByTold 17 [(0, .inr (.inr 43)), (1, .inr (.inr 1)), (2, .inl l2), (3, .inr (.inl l3)), (5, .inl l5), (6, .inl l6)] [] P0 P0 M Q := by
  refine G_iload 5 rfl (ck dc165 (i := 10) rfl) ?_
  refine G_iconst (ck dc165 (i := 11) rfl) ?_
  obtain ⟨o1, h⟩ := h
  refine G_icmp_ge (tgt := 55) (by decide) o1 (by decide) (ck dc165 (i := 12) rfl) (fun c => ?_) (fun c => ?_)
  · replace h := h.1 c
    refine G_iinc (L' := [(5, .inl (l5 + 1)), (0, .inr (.inr 43)), (1, .inr (.inr 1)), (2, .inl l2), (3, .inr (.inl l3)), (6, .inl l6)]) 4 rfl (mfx.lt mf165 (Nat.le_of_ble_eq_true rfl)) rfl (ck dc165 (i := 33) rfl) ?_
    refine G_goto (tgt := 5) (by decide) (ck dc165 (i := 34) rfl) ?_
    exact G_sub [1, 2, 3, 4, 0] rfl h
  · replace h := h.2 c
    refine G_lload_n 3 rfl rfl (ck dc165 (i := 13) rfl) ?_
    refine G_aload_n 1 rfl rfl (ck dc165 (i := 14) rfl) ?_
    refine G_iload 4 rfl (ck dc165 (i := 15) rfl) ?_
    refine G_iload_n 2 rfl rfl (ck dc165 (i := 16) rfl) ?_
    refine G_iload 5 rfl (ck dc165 (i := 17) rfl) ?_
    refine H_vI mf165 (As := [.inl l5, .inl l2, .inl l6]) (st := [.inr (.inl l3)]) (ck dc165 (i := 18) rfl) lk_Told_72 rfl rfl (Nat.le_of_ble_eq_true rfl) ly1 ra1 ⟨Nat.le_refl _, Nat.le_refl _⟩ h (fun r2 M3 h => ?_)
    obtain ⟨o4, h⟩ := h
    refine G_i2l o4 (ck dc165 (i := 19) rfl) ?_
    refine G_aload_n 0 rfl rfl (ck dc165 (i := 20) rfl) ?_
    refine H_getR mf165 (ck dc165 (i := 21) rfl) fw_Told_9 fc8_1 ly43 ra43 rf43_1 (by decide) ?_
    refine G_iload 4 rfl (ck dc165 (i := 22) rfl) ?_
    refine G_iconst (ck dc165 (i := 23) rfl) ?_
    refine G_imul (ck dc165 (i := 24) rfl) ?_
    refine G_iload 5 rfl (ck dc165 (i := 25) rfl) ?_
    refine G_iadd (ck dc165 (i := 26) rfl) ?_
    obtain ⟨o5, h⟩ := h
    refine H_lald (ck dc165 (i := 27) rfl) ly44 (by decide) ra44 o5 (x := (M3 44 ((l5 * 3) + l6))) rfl ?_
    refine G_lmul (ck dc165 (i := 28) rfl) ?_
    refine G_ladd (ck dc165 (i := 29) rfl) ?_
    refine G_lstore_n (L' := [(3, .inr (.inl (l3 + (r2 * (M3 44 ((l5 * 3) + l6)))))), (0, .inr (.inr 43)), (1, .inr (.inr 1)), (2, .inl l2), (5, .inl l5), (6, .inl l6)]) rfl (mfx.lt mf165 (Nat.le_of_ble_eq_true rfl)) rfl (ck dc165 (i := 30) rfl) ?_
    refine G_iinc (L' := [(6, .inl (l6 + 1)), (3, .inr (.inl (l3 + (r2 * (M3 44 ((l5 * 3) + l6)))))), (0, .inr (.inr 43)), (1, .inr (.inr 1)), (2, .inl l2), (5, .inl l5)]) 5 rfl (mfx.lt mf165 (Nat.le_of_ble_eq_true rfl)) rfl (ck dc165 (i := 31) rfl) ?_
    refine G_goto (tgt := 17) (by decide) (ck dc165 (i := 32) rfl) ?_
    exact G_sub [2, 3, 4, 1, 5, 0] rfl h
set_option maxHeartbeats 20000000 in
theorem c_to_agrees (K : Nat) (a2 : Int) (M : PM) (Q : Option PV → PM → Prop)
    (h : Call K jTold_incomeByTold [.inr (.inr 43), .inr (.inr 1), .inl a2] P0 P0 M (retL fun r1 M2 => (0 ≤ a2 ∧ a2 < 5) ∧ R32 (M2 2 a2) ∧ Call K jBook_dueOf [.inr (.inr 1), .inl a2] P0 P0 M2 (retI fun r5 M6 => R32 r5 ∧ R64 (((M2 43 0) * (M2 2 a2)) + r1) ∧ R64 ((M2 43 0) * r5) ∧ (((M2 43 0) * r5) ≤ (((M2 43 0) * (M2 2 a2)) + r1) → R32 (M6 1 1) ∧ R32 (M6 2 a2) ∧ R32 (M6 1 2) ∧ G none (K + 1) jTold_agrees 74 [(0, .inr (.inr 43)), (1, .inr (.inr 1)), (2, .inl a2), (5, .inl 0), (6, .inr (.inl ((((M6 43 0) * (M6 1 1)) * (M6 2 a2)) + ((M6 1 2) * r1)))), (8, .inl 0)] [] P0 P0 M6 Q) ∧ (¬ ((M2 43 0) * r5) ≤ (((M2 43 0) * (M2 2 a2)) + r1) → R32 (M6 1 1) ∧ R32 (M6 2 a2) ∧ R32 (M6 1 2) ∧ G none (K + 1) jTold_agrees 74 [(0, .inr (.inr 43)), (1, .inr (.inr 1)), (2, .inl a2), (5, .inl 1), (6, .inr (.inl ((((M6 43 0) * (M6 1 1)) * (M6 2 a2)) + ((M6 1 2) * r1)))), (8, .inl 0)] [] P0 P0 M6 Q)))) : Call (K + 1) jTold_agrees [.inr (.inr 43), .inr (.inr 1), .inl a2] P0 P0 M Q := by
  refine Call.intro (by decide +kernel) (mfx.le mf164 (Nat.le_of_ble_eq_true rfl)) (Nat.le_refl _) rfl ?_
  refine G_aload_n 0 rfl rfl (ck dc164 (i := 0) rfl) ?_
  refine G_aload_n 1 rfl rfl (ck dc164 (i := 1) rfl) ?_
  refine G_iload_n 2 rfl rfl (ck dc164 (i := 2) rfl) ?_
  refine H_vL mf164 (As := [.inr (.inr 1), .inl a2]) (st := []) (ck dc164 (i := 3) rfl) lk_Told_44 rfl rfl (Nat.le_of_ble_eq_true rfl) ly43 ra43 ⟨Nat.le_refl _, Nat.le_refl _⟩ h (fun r1 M2 h => ?_)
  refine G_lstore_n (L' := [(3, .inr (.inl r1)), (0, .inr (.inr 43)), (1, .inr (.inr 1)), (2, .inl a2)]) rfl (mfx.lt mf164 (Nat.le_of_ble_eq_true rfl)) rfl (ck dc164 (i := 4) rfl) ?_
  refine G_aload_n 1 rfl rfl (ck dc164 (i := 5) rfl) ?_
  refine H_getL mf164 (ck dc164 (i := 6) rfl) fw_Told_15 fc8_0 ly43 ra43 (x := (M2 43 0)) rfl ?_
  refine G_aload_n 2 rfl rfl (ck dc164 (i := 7) rfl) ?_
  refine H_getR mf164 (ck dc164 (i := 8) rfl) fw_Told_48 fc0_3 ly1 ra1 rf1_3 (by decide) ?_
  refine G_iload_n 3 rfl rfl (ck dc164 (i := 9) rfl) ?_
  obtain ⟨o3, h⟩ := h
  refine H_iald (ck dc164 (i := 10) rfl) ly2 (by decide) ra2 o3 (x := (M2 2 a2)) rfl ?_
  obtain ⟨o4, h⟩ := h
  refine G_i2l o4 (ck dc164 (i := 11) rfl) ?_
  refine G_lmul (ck dc164 (i := 12) rfl) ?_
  refine G_lload_n 0 rfl rfl (ck dc164 (i := 13) rfl) ?_
  refine G_ladd (ck dc164 (i := 14) rfl) ?_
  refine G_aload_n 1 rfl rfl (ck dc164 (i := 15) rfl) ?_
  refine H_getL mf164 (ck dc164 (i := 16) rfl) fw_Told_15 fc8_0 ly43 ra43 (x := (M2 43 0)) rfl ?_
  refine G_aload_n 2 rfl rfl (ck dc164 (i := 17) rfl) ?_
  refine G_iload_n 3 rfl rfl (ck dc164 (i := 18) rfl) ?_
  refine H_vI mf164 (As := [.inl a2]) (st := [.inr (.inl (M2 43 0)), .inr (.inl (((M2 43 0) * (M2 2 a2)) + r1))]) (ck dc164 (i := 19) rfl) lk_Told_52 rfl rfl (Nat.le_of_ble_eq_true rfl) ly1 ra1 ⟨Nat.le_refl _, Nat.le_refl _⟩ h (fun r5 M6 h => ?_)
  obtain ⟨o7, h⟩ := h
  refine G_i2l o7 (ck dc164 (i := 20) rfl) ?_
  refine G_lmul (ck dc164 (i := 21) rfl) ?_
  obtain ⟨o8, h⟩ := h
  obtain ⟨o9, h⟩ := h
  refine G_lif_ge (tgt := 40) (ck dc164 (i := 23) rfl) (by decide) o8 o9 (ck dc164 (i := 22) rfl) (fun c => ?_) (fun c => ?_)
  · replace h := h.1 c
    refine G_iconst (ck dc164 (i := 26) rfl) ?_
    refine G_istore (L' := [(5, .inl 0), (3, .inr (.inl r1)), (0, .inr (.inr 43)), (1, .inr (.inr 1)), (2, .inl a2)]) (mfx.lt mf164 (Nat.le_of_ble_eq_true rfl)) rfl (ck dc164 (i := 27) rfl) ?_
    refine G_aload_n 2 rfl rfl (ck dc164 (i := 28) rfl) ?_
    refine H_getL mf164 (ck dc164 (i := 29) rfl) fw_Told_15 fc8_0 ly43 ra43 (x := (M6 43 0)) rfl ?_
    refine G_aload_n 3 rfl rfl (ck dc164 (i := 30) rfl) ?_
    refine H_getI mf164 (ck dc164 (i := 31) rfl) fw_Told_56 (Or.inl fc0_1) ly1 ra1 (x := (M6 1 1)) rfl ?_
    obtain ⟨o10, h⟩ := h
    refine G_i2l o10 (ck dc164 (i := 32) rfl) ?_
    refine G_lmul (ck dc164 (i := 33) rfl) ?_
    refine G_aload_n 3 rfl rfl (ck dc164 (i := 34) rfl) ?_
    refine H_getR mf164 (ck dc164 (i := 35) rfl) fw_Told_48 fc0_3 ly1 ra1 rf1_3 (by decide) ?_
    refine G_iload_n 4 rfl rfl (ck dc164 (i := 36) rfl) ?_
    refine H_iald (ck dc164 (i := 37) rfl) ly2 (by decide) ra2 o3 (x := (M6 2 a2)) rfl ?_
    obtain ⟨o11, h⟩ := h
    refine G_i2l o11 (ck dc164 (i := 38) rfl) ?_
    refine G_lmul (ck dc164 (i := 39) rfl) ?_
    refine G_aload_n 3 rfl rfl (ck dc164 (i := 40) rfl) ?_
    refine H_getI mf164 (ck dc164 (i := 41) rfl) fw_Told_59 (Or.inl fc0_2) ly1 ra1 (x := (M6 1 2)) rfl ?_
    obtain ⟨o12, h⟩ := h
    refine G_i2l o12 (ck dc164 (i := 42) rfl) ?_
    refine G_lload_n 1 rfl rfl (ck dc164 (i := 43) rfl) ?_
    refine G_lmul (ck dc164 (i := 44) rfl) ?_
    refine G_ladd (ck dc164 (i := 45) rfl) ?_
    refine G_lstore (L' := [(6, .inr (.inl ((((M6 43 0) * (M6 1 1)) * (M6 2 a2)) + ((M6 1 2) * r1)))), (5, .inl 0), (3, .inr (.inl r1)), (0, .inr (.inr 43)), (1, .inr (.inr 1)), (2, .inl a2)]) (mfx.lt mf164 (Nat.le_of_ble_eq_true rfl)) rfl (ck dc164 (i := 46) rfl) ?_
    refine G_iconst (ck dc164 (i := 47) rfl) ?_
    refine G_istore (L' := [(8, .inl 0), (6, .inr (.inl ((((M6 43 0) * (M6 1 1)) * (M6 2 a2)) + ((M6 1 2) * r1)))), (5, .inl 0), (3, .inr (.inl r1)), (0, .inr (.inr 43)), (1, .inr (.inr 1)), (2, .inl a2)]) (mfx.lt mf164 (Nat.le_of_ble_eq_true rfl)) rfl (ck dc164 (i := 48) rfl) ?_
    exact G_sub [4, 5, 6, 2, 1, 0] rfl h
  · replace h := h.2 c
    refine G_iconst (ck dc164 (i := 24) rfl) ?_
    refine G_goto (tgt := 41) (by decide) (ck dc164 (i := 25) rfl) ?_
    refine G_istore (L' := [(5, .inl 1), (3, .inr (.inl r1)), (0, .inr (.inr 43)), (1, .inr (.inr 1)), (2, .inl a2)]) (mfx.lt mf164 (Nat.le_of_ble_eq_true rfl)) rfl (ck dc164 (i := 27) rfl) ?_
    refine G_aload_n 2 rfl rfl (ck dc164 (i := 28) rfl) ?_
    refine H_getL mf164 (ck dc164 (i := 29) rfl) fw_Told_15 fc8_0 ly43 ra43 (x := (M6 43 0)) rfl ?_
    refine G_aload_n 3 rfl rfl (ck dc164 (i := 30) rfl) ?_
    refine H_getI mf164 (ck dc164 (i := 31) rfl) fw_Told_56 (Or.inl fc0_1) ly1 ra1 (x := (M6 1 1)) rfl ?_
    obtain ⟨o13, h⟩ := h
    refine G_i2l o13 (ck dc164 (i := 32) rfl) ?_
    refine G_lmul (ck dc164 (i := 33) rfl) ?_
    refine G_aload_n 3 rfl rfl (ck dc164 (i := 34) rfl) ?_
    refine H_getR mf164 (ck dc164 (i := 35) rfl) fw_Told_48 fc0_3 ly1 ra1 rf1_3 (by decide) ?_
    refine G_iload_n 4 rfl rfl (ck dc164 (i := 36) rfl) ?_
    refine H_iald (ck dc164 (i := 37) rfl) ly2 (by decide) ra2 o3 (x := (M6 2 a2)) rfl ?_
    obtain ⟨o14, h⟩ := h
    refine G_i2l o14 (ck dc164 (i := 38) rfl) ?_
    refine G_lmul (ck dc164 (i := 39) rfl) ?_
    refine G_aload_n 3 rfl rfl (ck dc164 (i := 40) rfl) ?_
    refine H_getI mf164 (ck dc164 (i := 41) rfl) fw_Told_59 (Or.inl fc0_2) ly1 ra1 (x := (M6 1 2)) rfl ?_
    obtain ⟨o15, h⟩ := h
    refine G_i2l o15 (ck dc164 (i := 42) rfl) ?_
    refine G_lload_n 1 rfl rfl (ck dc164 (i := 43) rfl) ?_
    refine G_lmul (ck dc164 (i := 44) rfl) ?_
    refine G_ladd (ck dc164 (i := 45) rfl) ?_
    refine G_lstore (L' := [(6, .inr (.inl ((((M6 43 0) * (M6 1 1)) * (M6 2 a2)) + ((M6 1 2) * r1)))), (5, .inl 1), (3, .inr (.inl r1)), (0, .inr (.inr 43)), (1, .inr (.inr 1)), (2, .inl a2)]) (mfx.lt mf164 (Nat.le_of_ble_eq_true rfl)) rfl (ck dc164 (i := 46) rfl) ?_
    refine G_iconst (ck dc164 (i := 47) rfl) ?_
    refine G_istore (L' := [(8, .inl 0), (6, .inr (.inl ((((M6 43 0) * (M6 1 1)) * (M6 2 a2)) + ((M6 1 2) * r1)))), (5, .inl 1), (3, .inr (.inl r1)), (0, .inr (.inr 43)), (1, .inr (.inr 1)), (2, .inl a2)]) (mfx.lt mf164 (Nat.le_of_ble_eq_true rfl)) rfl (ck dc164 (i := 48) rfl) ?_
    exact G_sub [4, 5, 6, 2, 1, 0] rfl h
set_option maxHeartbeats 20000000 in
theorem g_to_agrees_74 (K : Nat) (l2 l5 l6 l8 : Int) (M : PM) (Q : Option PV → PM → Prop)
    (h : R32 l8 ∧ (3 ≤ l8 → Q (some (.inl 1)) M) ∧ (¬ 3 ≤ l8 → Call K jBook_dueIn [.inr (.inr 1), .inl l2, .inl l8] P0 P0 M (retI fun r2 M3 => R32 (10 * r2) ∧ R32 l5 ∧ (l5 = 0 → (0 ≤ ((l2 * 3) + l8) ∧ ((l2 * 3) + l8) < 15) ∧ R64 (10 * r2) ∧ (¬ (10 * r2) = 0 → R64 ((M3 44 ((l2 * 3) + l8)) * (10 * r2)) ∧ R64 ((10 * r2) * (M3 43 0)) ∧ (((M3 44 ((l2 * 3) + l8)) * (10 * r2)) = ((10 * r2) * (M3 43 0)) → (l5 = 0 → G none (K + 1) jTold_agrees 74 [(0, .inr (.inr 43)), (1, .inr (.inr 1)), (2, .inl l2), (5, .inl l5), (6, .inr (.inl (l6 - 0))), (8, .inl (l8 + 1))] [] P0 P0 M3 Q) ∧ (¬ l5 = 0 → G none (K + 1) jTold_agrees 74 [(0, .inr (.inr 43)), (1, .inr (.inr 1)), (2, .inl l2), (5, .inl l5), (6, .inr (.inl (l6 - ((10 * r2) * (M3 43 0))))), (8, .inl (l8 + 1))] [] P0 P0 M3 Q)) ∧ (¬ ((M3 44 ((l2 * 3) + l8)) * (10 * r2)) = ((10 * r2) * (M3 43 0)) → Q (some (.inl 0)) M3)) ∧ ((10 * r2) = 0 → R64 (M3 44 ((l2 * 3) + l8)) ∧ R64 (M3 43 0) ∧ ((M3 44 ((l2 * 3) + l8)) = (M3 43 0) → (l5 = 0 → G none (K + 1) jTold_agrees 74 [(0, .inr (.inr 43)), (1, .inr (.inr 1)), (2, .inl l2), (5, .inl l5), (6, .inr (.inl (l6 - 0))), (8, .inl (l8 + 1))] [] P0 P0 M3 Q) ∧ (¬ l5 = 0 → G none (K + 1) jTold_agrees 74 [(0, .inr (.inr 43)), (1, .inr (.inr 1)), (2, .inl l2), (5, .inl l5), (6, .inr (.inl (l6 - ((10 * r2) * (M3 43 0))))), (8, .inl (l8 + 1))] [] P0 P0 M3 Q)) ∧ (¬ (M3 44 ((l2 * 3) + l8)) = (M3 43 0) → Q (some (.inl 0)) M3))) ∧ (¬ l5 = 0 → R64 l6 ∧ R64 ((10 * r2) * (M3 43 0)) ∧ (0 ≤ ((l2 * 3) + l8) ∧ ((l2 * 3) + l8) < 15) ∧ R64 (10 * r2) ∧ (¬ (10 * r2) = 0 → R64 ((M3 44 ((l2 * 3) + l8)) * (10 * r2)) ∧ R64 (mn2 l6 ((10 * r2) * (M3 43 0))) ∧ (((M3 44 ((l2 * 3) + l8)) * (10 * r2)) = (mn2 l6 ((10 * r2) * (M3 43 0))) → (l5 = 0 → G none (K + 1) jTold_agrees 74 [(0, .inr (.inr 43)), (1, .inr (.inr 1)), (2, .inl l2), (5, .inl l5), (6, .inr (.inl (l6 - 0))), (8, .inl (l8 + 1))] [] P0 P0 M3 Q) ∧ (¬ l5 = 0 → G none (K + 1) jTold_agrees 74 [(0, .inr (.inr 43)), (1, .inr (.inr 1)), (2, .inl l2), (5, .inl l5), (6, .inr (.inl (l6 - (mn2 l6 ((10 * r2) * (M3 43 0)))))), (8, .inl (l8 + 1))] [] P0 P0 M3 Q)) ∧ (¬ ((M3 44 ((l2 * 3) + l8)) * (10 * r2)) = (mn2 l6 ((10 * r2) * (M3 43 0))) → Q (some (.inl 0)) M3)) ∧ ((10 * r2) = 0 → R64 (M3 44 ((l2 * 3) + l8)) ∧ R64 (M3 43 0) ∧ ((M3 44 ((l2 * 3) + l8)) = (M3 43 0) → (l5 = 0 → G none (K + 1) jTold_agrees 74 [(0, .inr (.inr 43)), (1, .inr (.inr 1)), (2, .inl l2), (5, .inl l5), (6, .inr (.inl (l6 - 0))), (8, .inl (l8 + 1))] [] P0 P0 M3 Q) ∧ (¬ l5 = 0 → G none (K + 1) jTold_agrees 74 [(0, .inr (.inr 43)), (1, .inr (.inr 1)), (2, .inl l2), (5, .inl l5), (6, .inr (.inl (l6 - (mn2 l6 ((10 * r2) * (M3 43 0)))))), (8, .inl (l8 + 1))] [] P0 P0 M3 Q)) ∧ (¬ (M3 44 ((l2 * 3) + l8)) = (M3 43 0) → Q (some (.inl 0)) M3)))))) : G none (K + 1) jTold_agrees 74 [(0, .inr (.inr 43)), (1, .inr (.inr 1)), (2, .inl l2), (5, .inl l5), (6, .inr (.inl l6)), (8, .inl l8)] [] P0 P0 M Q := by
  refine G_iload 5 rfl (ck dc164 (i := 49) rfl) ?_
  refine G_iconst (ck dc164 (i := 50) rfl) ?_
  obtain ⟨o1, h⟩ := h
  refine G_icmp_ge (tgt := 190) (by decide) o1 (by decide) (ck dc164 (i := 51) rfl) (fun c => ?_) (fun c => ?_)
  · replace h := h.1 c
    refine G_iconst (ck dc164 (i := 111) rfl) ?_
    exact H_iretZ mf164 (ck dc164 (i := 112) rfl) rfl (Or.inr rfl) h
  · replace h := h.2 c
    refine G_bipush (n := 10) rfl (ck dc164 (i := 52) rfl) ?_
    refine G_aload_n 1 rfl rfl (ck dc164 (i := 53) rfl) ?_
    refine G_iload_n 2 rfl rfl (ck dc164 (i := 54) rfl) ?_
    refine G_iload 5 rfl (ck dc164 (i := 55) rfl) ?_
    refine H_vI mf164 (As := [.inl l2, .inl l8]) (st := [.inl 10]) (ck dc164 (i := 56) rfl) lk_Told_62 rfl rfl (Nat.le_of_ble_eq_true rfl) ly1 ra1 ⟨Nat.le_refl _, Nat.le_refl _⟩ h (fun r2 M3 h => ?_)
    refine G_imul (ck dc164 (i := 57) rfl) ?_
    obtain ⟨o4, h⟩ := h
    refine G_i2l o4 (ck dc164 (i := 58) rfl) ?_
    refine G_lstore (L' := [(9, .inr (.inl (10 * r2))), (0, .inr (.inr 43)), (1, .inr (.inr 1)), (2, .inl l2), (5, .inl l5), (6, .inr (.inl l6)), (8, .inl l8)]) (mfx.lt mf164 (Nat.le_of_ble_eq_true rfl)) rfl (ck dc164 (i := 59) rfl) ?_
    refine G_iload 4 rfl (ck dc164 (i := 60) rfl) ?_
    obtain ⟨o5, h⟩ := h
    refine G_if_eq (tgt := 113) (by decide) o5 (ck dc164 (i := 61) rfl) (fun c => ?_) (fun c => ?_)
    · replace h := h.1 c
      refine G_lload 0 rfl (ck dc164 (i := 69) rfl) ?_
      refine G_aload_n 1 rfl rfl (ck dc164 (i := 70) rfl) ?_
      refine H_getL mf164 (ck dc164 (i := 71) rfl) fw_Told_15 fc8_0 ly43 ra43 (x := (M3 43 0)) rfl ?_
      refine G_lmul (ck dc164 (i := 72) rfl) ?_
      refine G_lstore (L' := [(11, .inr (.inl ((10 * r2) * (M3 43 0)))), (9, .inr (.inl (10 * r2))), (0, .inr (.inr 43)), (1, .inr (.inr 1)), (2, .inl l2), (5, .inl l5), (6, .inr (.inl l6)), (8, .inl l8)]) (mfx.lt mf164 (Nat.le_of_ble_eq_true rfl)) rfl (ck dc164 (i := 73) rfl) ?_
      refine G_aload_n 2 rfl rfl (ck dc164 (i := 74) rfl) ?_
      refine H_getR mf164 (ck dc164 (i := 75) rfl) fw_Told_9 fc8_1 ly43 ra43 rf43_1 (by decide) ?_
      refine G_iload_n 4 rfl rfl (ck dc164 (i := 76) rfl) ?_
      refine G_iconst (ck dc164 (i := 77) rfl) ?_
      refine G_imul (ck dc164 (i := 78) rfl) ?_
      refine G_iload 7 rfl (ck dc164 (i := 79) rfl) ?_
      refine G_iadd (ck dc164 (i := 80) rfl) ?_
      obtain ⟨o6, h⟩ := h
      refine H_lald (ck dc164 (i := 81) rfl) ly44 (by decide) ra44 o6 (x := (M3 44 ((l2 * 3) + l8))) rfl ?_
      refine G_lstore (L' := [(13, .inr (.inl (M3 44 ((l2 * 3) + l8)))), (11, .inr (.inl ((10 * r2) * (M3 43 0)))), (9, .inr (.inl (10 * r2))), (0, .inr (.inr 43)), (1, .inr (.inr 1)), (2, .inl l2), (5, .inl l5), (6, .inr (.inl l6)), (8, .inl l8)]) (mfx.lt mf164 (Nat.le_of_ble_eq_true rfl)) rfl (ck dc164 (i := 82) rfl) ?_
      refine G_lload 2 rfl (ck dc164 (i := 83) rfl) ?_
      refine G_lconst (v := 0) rfl (ck dc164 (i := 84) rfl) ?_
      obtain ⟨o7, h⟩ := h
      refine G_lif_ne (tgt := 155) (ck dc164 (i := 86) rfl) (by decide) o7 (by decide) (ck dc164 (i := 85) rfl) (fun c => ?_) (fun c => ?_)
      · replace h := h.1 c
        refine G_lload 0 rfl (ck dc164 (i := 93) rfl) ?_
        refine G_lload 2 rfl (ck dc164 (i := 94) rfl) ?_
        refine G_lmul (ck dc164 (i := 95) rfl) ?_
        refine G_lload 1 rfl (ck dc164 (i := 96) rfl) ?_
        obtain ⟨o8, h⟩ := h
        obtain ⟨o9, h⟩ := h
        refine G_lif_eq (tgt := 168) (ck dc164 (i := 98) rfl) (by decide) o8 o9 (ck dc164 (i := 97) rfl) (fun c => ?_) (fun c => ?_)
        · replace h := h.1 c
          refine G_lload 7 rfl (ck dc164 (i := 101) rfl) ?_
          refine G_iload 6 rfl (ck dc164 (i := 102) rfl) ?_
          refine G_if_eq (tgt := 180) (by decide) o5 (ck dc164 (i := 103) rfl) (fun c => ?_) (fun c => ?_)
          · replace h := h.1 c
            refine G_lconst (v := 0) rfl (ck dc164 (i := 106) rfl) ?_
            refine G_lsub (ck dc164 (i := 107) rfl) ?_
            refine G_lstore (L' := [(6, .inr (.inl (l6 - 0))), (13, .inr (.inl (M3 44 ((l2 * 3) + l8)))), (11, .inr (.inl ((10 * r2) * (M3 43 0)))), (9, .inr (.inl (10 * r2))), (0, .inr (.inr 43)), (1, .inr (.inr 1)), (2, .inl l2), (5, .inl l5), (8, .inl l8)]) (mfx.lt mf164 (Nat.le_of_ble_eq_true rfl)) rfl (ck dc164 (i := 108) rfl) ?_
            refine G_iinc (L' := [(8, .inl (l8 + 1)), (6, .inr (.inl (l6 - 0))), (13, .inr (.inl (M3 44 ((l2 * 3) + l8)))), (11, .inr (.inl ((10 * r2) * (M3 43 0)))), (9, .inr (.inl (10 * r2))), (0, .inr (.inr 43)), (1, .inr (.inr 1)), (2, .inl l2), (5, .inl l5)]) 8 rfl (mfx.lt mf164 (Nat.le_of_ble_eq_true rfl)) rfl (ck dc164 (i := 109) rfl) ?_
            refine G_goto (tgt := 74) (by decide) (ck dc164 (i := 110) rfl) ?_
            exact G_sub [5, 6, 7, 8, 1, 0] rfl h
          · replace h := h.2 c
            refine G_lload 1 rfl (ck dc164 (i := 104) rfl) ?_
            refine G_goto (tgt := 181) (by decide) (ck dc164 (i := 105) rfl) ?_
            refine G_lsub (ck dc164 (i := 107) rfl) ?_
            refine G_lstore (L' := [(6, .inr (.inl (l6 - ((10 * r2) * (M3 43 0))))), (13, .inr (.inl (M3 44 ((l2 * 3) + l8)))), (11, .inr (.inl ((10 * r2) * (M3 43 0)))), (9, .inr (.inl (10 * r2))), (0, .inr (.inr 43)), (1, .inr (.inr 1)), (2, .inl l2), (5, .inl l5), (8, .inl l8)]) (mfx.lt mf164 (Nat.le_of_ble_eq_true rfl)) rfl (ck dc164 (i := 108) rfl) ?_
            refine G_iinc (L' := [(8, .inl (l8 + 1)), (6, .inr (.inl (l6 - ((10 * r2) * (M3 43 0))))), (13, .inr (.inl (M3 44 ((l2 * 3) + l8)))), (11, .inr (.inl ((10 * r2) * (M3 43 0)))), (9, .inr (.inl (10 * r2))), (0, .inr (.inr 43)), (1, .inr (.inr 1)), (2, .inl l2), (5, .inl l5)]) 8 rfl (mfx.lt mf164 (Nat.le_of_ble_eq_true rfl)) rfl (ck dc164 (i := 109) rfl) ?_
            refine G_goto (tgt := 74) (by decide) (ck dc164 (i := 110) rfl) ?_
            exact G_sub [5, 6, 7, 8, 1, 0] rfl h
        · replace h := h.2 c
          refine G_iconst (ck dc164 (i := 99) rfl) ?_
          exact H_iretZ mf164 (ck dc164 (i := 100) rfl) rfl (Or.inl rfl) h
      · replace h := h.2 c
        refine G_lload 0 rfl (ck dc164 (i := 87) rfl) ?_
        refine G_aload_n 3 rfl rfl (ck dc164 (i := 88) rfl) ?_
        refine H_getL mf164 (ck dc164 (i := 89) rfl) fw_Told_15 fc8_0 ly43 ra43 (x := (M3 43 0)) rfl ?_
        obtain ⟨o10, h⟩ := h
        obtain ⟨o11, h⟩ := h
        refine G_lif_eq (tgt := 168) (ck dc164 (i := 91) rfl) (by decide) o10 o11 (ck dc164 (i := 90) rfl) (fun c => ?_) (fun c => ?_)
        · replace h := h.1 c
          refine G_lload 7 rfl (ck dc164 (i := 101) rfl) ?_
          refine G_iload 6 rfl (ck dc164 (i := 102) rfl) ?_
          refine G_if_eq (tgt := 180) (by decide) o5 (ck dc164 (i := 103) rfl) (fun c => ?_) (fun c => ?_)
          · replace h := h.1 c
            refine G_lconst (v := 0) rfl (ck dc164 (i := 106) rfl) ?_
            refine G_lsub (ck dc164 (i := 107) rfl) ?_
            refine G_lstore (L' := [(6, .inr (.inl (l6 - 0))), (13, .inr (.inl (M3 44 ((l2 * 3) + l8)))), (11, .inr (.inl ((10 * r2) * (M3 43 0)))), (9, .inr (.inl (10 * r2))), (0, .inr (.inr 43)), (1, .inr (.inr 1)), (2, .inl l2), (5, .inl l5), (8, .inl l8)]) (mfx.lt mf164 (Nat.le_of_ble_eq_true rfl)) rfl (ck dc164 (i := 108) rfl) ?_
            refine G_iinc (L' := [(8, .inl (l8 + 1)), (6, .inr (.inl (l6 - 0))), (13, .inr (.inl (M3 44 ((l2 * 3) + l8)))), (11, .inr (.inl ((10 * r2) * (M3 43 0)))), (9, .inr (.inl (10 * r2))), (0, .inr (.inr 43)), (1, .inr (.inr 1)), (2, .inl l2), (5, .inl l5)]) 8 rfl (mfx.lt mf164 (Nat.le_of_ble_eq_true rfl)) rfl (ck dc164 (i := 109) rfl) ?_
            refine G_goto (tgt := 74) (by decide) (ck dc164 (i := 110) rfl) ?_
            exact G_sub [5, 6, 7, 8, 1, 0] rfl h
          · replace h := h.2 c
            refine G_lload 1 rfl (ck dc164 (i := 104) rfl) ?_
            refine G_goto (tgt := 181) (by decide) (ck dc164 (i := 105) rfl) ?_
            refine G_lsub (ck dc164 (i := 107) rfl) ?_
            refine G_lstore (L' := [(6, .inr (.inl (l6 - ((10 * r2) * (M3 43 0))))), (13, .inr (.inl (M3 44 ((l2 * 3) + l8)))), (11, .inr (.inl ((10 * r2) * (M3 43 0)))), (9, .inr (.inl (10 * r2))), (0, .inr (.inr 43)), (1, .inr (.inr 1)), (2, .inl l2), (5, .inl l5), (8, .inl l8)]) (mfx.lt mf164 (Nat.le_of_ble_eq_true rfl)) rfl (ck dc164 (i := 108) rfl) ?_
            refine G_iinc (L' := [(8, .inl (l8 + 1)), (6, .inr (.inl (l6 - ((10 * r2) * (M3 43 0))))), (13, .inr (.inl (M3 44 ((l2 * 3) + l8)))), (11, .inr (.inl ((10 * r2) * (M3 43 0)))), (9, .inr (.inl (10 * r2))), (0, .inr (.inr 43)), (1, .inr (.inr 1)), (2, .inl l2), (5, .inl l5)]) 8 rfl (mfx.lt mf164 (Nat.le_of_ble_eq_true rfl)) rfl (ck dc164 (i := 109) rfl) ?_
            refine G_goto (tgt := 74) (by decide) (ck dc164 (i := 110) rfl) ?_
            exact G_sub [5, 6, 7, 8, 1, 0] rfl h
        · replace h := h.2 c
          refine G_goto (tgt := 166) (by decide) (ck dc164 (i := 92) rfl) ?_
          refine G_iconst (ck dc164 (i := 99) rfl) ?_
          exact H_iretZ mf164 (ck dc164 (i := 100) rfl) rfl (Or.inl rfl) h
    · replace h := h.2 c
      refine G_lload 5 rfl (ck dc164 (i := 62) rfl) ?_
      refine G_lload 0 rfl (ck dc164 (i := 63) rfl) ?_
      refine G_aload_n 1 rfl rfl (ck dc164 (i := 64) rfl) ?_
      refine H_getL mf164 (ck dc164 (i := 65) rfl) fw_Told_15 fc8_0 ly43 ra43 (x := (M3 43 0)) rfl ?_
      refine G_lmul (ck dc164 (i := 66) rfl) ?_
      obtain ⟨o12, h⟩ := h
      obtain ⟨o13, h⟩ := h
      refine H_mminl mf164 (ck dc164 (i := 67) rfl) lm_Told_66 (Nat.le_refl _) (Nat.le_of_ble_eq_true rfl) o12 o13 ?_
      refine G_goto (tgt := 120) (by decide) (ck dc164 (i := 68) rfl) ?_
      refine G_lstore (L' := [(11, .inr (.inl (mn2 l6 ((10 * r2) * (M3 43 0))))), (9, .inr (.inl (10 * r2))), (0, .inr (.inr 43)), (1, .inr (.inr 1)), (2, .inl l2), (5, .inl l5), (6, .inr (.inl l6)), (8, .inl l8)]) (mfx.lt mf164 (Nat.le_of_ble_eq_true rfl)) rfl (ck dc164 (i := 73) rfl) ?_
      refine G_aload_n 2 rfl rfl (ck dc164 (i := 74) rfl) ?_
      refine H_getR mf164 (ck dc164 (i := 75) rfl) fw_Told_9 fc8_1 ly43 ra43 rf43_1 (by decide) ?_
      refine G_iload_n 4 rfl rfl (ck dc164 (i := 76) rfl) ?_
      refine G_iconst (ck dc164 (i := 77) rfl) ?_
      refine G_imul (ck dc164 (i := 78) rfl) ?_
      refine G_iload 7 rfl (ck dc164 (i := 79) rfl) ?_
      refine G_iadd (ck dc164 (i := 80) rfl) ?_
      obtain ⟨o14, h⟩ := h
      refine H_lald (ck dc164 (i := 81) rfl) ly44 (by decide) ra44 o14 (x := (M3 44 ((l2 * 3) + l8))) rfl ?_
      refine G_lstore (L' := [(13, .inr (.inl (M3 44 ((l2 * 3) + l8)))), (11, .inr (.inl (mn2 l6 ((10 * r2) * (M3 43 0))))), (9, .inr (.inl (10 * r2))), (0, .inr (.inr 43)), (1, .inr (.inr 1)), (2, .inl l2), (5, .inl l5), (6, .inr (.inl l6)), (8, .inl l8)]) (mfx.lt mf164 (Nat.le_of_ble_eq_true rfl)) rfl (ck dc164 (i := 82) rfl) ?_
      refine G_lload 2 rfl (ck dc164 (i := 83) rfl) ?_
      refine G_lconst (v := 0) rfl (ck dc164 (i := 84) rfl) ?_
      obtain ⟨o15, h⟩ := h
      refine G_lif_ne (tgt := 155) (ck dc164 (i := 86) rfl) (by decide) o15 (by decide) (ck dc164 (i := 85) rfl) (fun c => ?_) (fun c => ?_)
      · replace h := h.1 c
        refine G_lload 0 rfl (ck dc164 (i := 93) rfl) ?_
        refine G_lload 2 rfl (ck dc164 (i := 94) rfl) ?_
        refine G_lmul (ck dc164 (i := 95) rfl) ?_
        refine G_lload 1 rfl (ck dc164 (i := 96) rfl) ?_
        obtain ⟨o16, h⟩ := h
        obtain ⟨o17, h⟩ := h
        refine G_lif_eq (tgt := 168) (ck dc164 (i := 98) rfl) (by decide) o16 o17 (ck dc164 (i := 97) rfl) (fun c => ?_) (fun c => ?_)
        · replace h := h.1 c
          refine G_lload 7 rfl (ck dc164 (i := 101) rfl) ?_
          refine G_iload 6 rfl (ck dc164 (i := 102) rfl) ?_
          refine G_if_eq (tgt := 180) (by decide) o5 (ck dc164 (i := 103) rfl) (fun c => ?_) (fun c => ?_)
          · replace h := h.1 c
            refine G_lconst (v := 0) rfl (ck dc164 (i := 106) rfl) ?_
            refine G_lsub (ck dc164 (i := 107) rfl) ?_
            refine G_lstore (L' := [(6, .inr (.inl (l6 - 0))), (13, .inr (.inl (M3 44 ((l2 * 3) + l8)))), (11, .inr (.inl (mn2 l6 ((10 * r2) * (M3 43 0))))), (9, .inr (.inl (10 * r2))), (0, .inr (.inr 43)), (1, .inr (.inr 1)), (2, .inl l2), (5, .inl l5), (8, .inl l8)]) (mfx.lt mf164 (Nat.le_of_ble_eq_true rfl)) rfl (ck dc164 (i := 108) rfl) ?_
            refine G_iinc (L' := [(8, .inl (l8 + 1)), (6, .inr (.inl (l6 - 0))), (13, .inr (.inl (M3 44 ((l2 * 3) + l8)))), (11, .inr (.inl (mn2 l6 ((10 * r2) * (M3 43 0))))), (9, .inr (.inl (10 * r2))), (0, .inr (.inr 43)), (1, .inr (.inr 1)), (2, .inl l2), (5, .inl l5)]) 8 rfl (mfx.lt mf164 (Nat.le_of_ble_eq_true rfl)) rfl (ck dc164 (i := 109) rfl) ?_
            refine G_goto (tgt := 74) (by decide) (ck dc164 (i := 110) rfl) ?_
            exact G_sub [5, 6, 7, 8, 1, 0] rfl h
          · replace h := h.2 c
            refine G_lload 1 rfl (ck dc164 (i := 104) rfl) ?_
            refine G_goto (tgt := 181) (by decide) (ck dc164 (i := 105) rfl) ?_
            refine G_lsub (ck dc164 (i := 107) rfl) ?_
            refine G_lstore (L' := [(6, .inr (.inl (l6 - (mn2 l6 ((10 * r2) * (M3 43 0)))))), (13, .inr (.inl (M3 44 ((l2 * 3) + l8)))), (11, .inr (.inl (mn2 l6 ((10 * r2) * (M3 43 0))))), (9, .inr (.inl (10 * r2))), (0, .inr (.inr 43)), (1, .inr (.inr 1)), (2, .inl l2), (5, .inl l5), (8, .inl l8)]) (mfx.lt mf164 (Nat.le_of_ble_eq_true rfl)) rfl (ck dc164 (i := 108) rfl) ?_
            refine G_iinc (L' := [(8, .inl (l8 + 1)), (6, .inr (.inl (l6 - (mn2 l6 ((10 * r2) * (M3 43 0)))))), (13, .inr (.inl (M3 44 ((l2 * 3) + l8)))), (11, .inr (.inl (mn2 l6 ((10 * r2) * (M3 43 0))))), (9, .inr (.inl (10 * r2))), (0, .inr (.inr 43)), (1, .inr (.inr 1)), (2, .inl l2), (5, .inl l5)]) 8 rfl (mfx.lt mf164 (Nat.le_of_ble_eq_true rfl)) rfl (ck dc164 (i := 109) rfl) ?_
            refine G_goto (tgt := 74) (by decide) (ck dc164 (i := 110) rfl) ?_
            exact G_sub [5, 6, 7, 8, 1, 0] rfl h
        · replace h := h.2 c
          refine G_iconst (ck dc164 (i := 99) rfl) ?_
          exact H_iretZ mf164 (ck dc164 (i := 100) rfl) rfl (Or.inl rfl) h
      · replace h := h.2 c
        refine G_lload 0 rfl (ck dc164 (i := 87) rfl) ?_
        refine G_aload_n 3 rfl rfl (ck dc164 (i := 88) rfl) ?_
        refine H_getL mf164 (ck dc164 (i := 89) rfl) fw_Told_15 fc8_0 ly43 ra43 (x := (M3 43 0)) rfl ?_
        obtain ⟨o18, h⟩ := h
        obtain ⟨o19, h⟩ := h
        refine G_lif_eq (tgt := 168) (ck dc164 (i := 91) rfl) (by decide) o18 o19 (ck dc164 (i := 90) rfl) (fun c => ?_) (fun c => ?_)
        · replace h := h.1 c
          refine G_lload 7 rfl (ck dc164 (i := 101) rfl) ?_
          refine G_iload 6 rfl (ck dc164 (i := 102) rfl) ?_
          refine G_if_eq (tgt := 180) (by decide) o5 (ck dc164 (i := 103) rfl) (fun c => ?_) (fun c => ?_)
          · replace h := h.1 c
            refine G_lconst (v := 0) rfl (ck dc164 (i := 106) rfl) ?_
            refine G_lsub (ck dc164 (i := 107) rfl) ?_
            refine G_lstore (L' := [(6, .inr (.inl (l6 - 0))), (13, .inr (.inl (M3 44 ((l2 * 3) + l8)))), (11, .inr (.inl (mn2 l6 ((10 * r2) * (M3 43 0))))), (9, .inr (.inl (10 * r2))), (0, .inr (.inr 43)), (1, .inr (.inr 1)), (2, .inl l2), (5, .inl l5), (8, .inl l8)]) (mfx.lt mf164 (Nat.le_of_ble_eq_true rfl)) rfl (ck dc164 (i := 108) rfl) ?_
            refine G_iinc (L' := [(8, .inl (l8 + 1)), (6, .inr (.inl (l6 - 0))), (13, .inr (.inl (M3 44 ((l2 * 3) + l8)))), (11, .inr (.inl (mn2 l6 ((10 * r2) * (M3 43 0))))), (9, .inr (.inl (10 * r2))), (0, .inr (.inr 43)), (1, .inr (.inr 1)), (2, .inl l2), (5, .inl l5)]) 8 rfl (mfx.lt mf164 (Nat.le_of_ble_eq_true rfl)) rfl (ck dc164 (i := 109) rfl) ?_
            refine G_goto (tgt := 74) (by decide) (ck dc164 (i := 110) rfl) ?_
            exact G_sub [5, 6, 7, 8, 1, 0] rfl h
          · replace h := h.2 c
            refine G_lload 1 rfl (ck dc164 (i := 104) rfl) ?_
            refine G_goto (tgt := 181) (by decide) (ck dc164 (i := 105) rfl) ?_
            refine G_lsub (ck dc164 (i := 107) rfl) ?_
            refine G_lstore (L' := [(6, .inr (.inl (l6 - (mn2 l6 ((10 * r2) * (M3 43 0)))))), (13, .inr (.inl (M3 44 ((l2 * 3) + l8)))), (11, .inr (.inl (mn2 l6 ((10 * r2) * (M3 43 0))))), (9, .inr (.inl (10 * r2))), (0, .inr (.inr 43)), (1, .inr (.inr 1)), (2, .inl l2), (5, .inl l5), (8, .inl l8)]) (mfx.lt mf164 (Nat.le_of_ble_eq_true rfl)) rfl (ck dc164 (i := 108) rfl) ?_
            refine G_iinc (L' := [(8, .inl (l8 + 1)), (6, .inr (.inl (l6 - (mn2 l6 ((10 * r2) * (M3 43 0)))))), (13, .inr (.inl (M3 44 ((l2 * 3) + l8)))), (11, .inr (.inl (mn2 l6 ((10 * r2) * (M3 43 0))))), (9, .inr (.inl (10 * r2))), (0, .inr (.inr 43)), (1, .inr (.inr 1)), (2, .inl l2), (5, .inl l5)]) 8 rfl (mfx.lt mf164 (Nat.le_of_ble_eq_true rfl)) rfl (ck dc164 (i := 109) rfl) ?_
            refine G_goto (tgt := 74) (by decide) (ck dc164 (i := 110) rfl) ?_
            exact G_sub [5, 6, 7, 8, 1, 0] rfl h
        · replace h := h.2 c
          refine G_goto (tgt := 166) (by decide) (ck dc164 (i := 92) rfl) ?_
          refine G_iconst (ck dc164 (i := 99) rfl) ?_
          exact H_iretZ mf164 (ck dc164 (i := 100) rfl) rfl (Or.inl rfl) h
theorem c_to_agree (K : Nat) (M : PM) (Q : Option PV → PM → Prop)
    (h : G none (K + 1) jTold_agree 2 [(0, .inr (.inr 43)), (1, .inr (.inr 1)), (2, .inl 0)] [] P0 P0 M Q) : Call (K + 1) jTold_agree [.inr (.inr 43), .inr (.inr 1)] P0 P0 M Q := by
  refine Call.intro (by decide +kernel) (mfx.le mf163 (Nat.le_of_ble_eq_true rfl)) (Nat.le_refl _) rfl ?_
  refine G_iconst (ck dc163 (i := 0) rfl) ?_
  refine G_istore_n (L' := [(2, .inl 0), (0, .inr (.inr 43)), (1, .inr (.inr 1))]) rfl (mfx.lt mf163 (Nat.le_of_ble_eq_true rfl)) rfl (ck dc163 (i := 1) rfl) ?_
  exact G_sub [1, 2, 0] rfl h
theorem g_to_agree_2 (K : Nat) (l2 : Int) (M : PM) (Q : Option PV → PM → Prop)
    (h : R32 l2 ∧ R32 (M 1 0) ∧ ((M 1 0) ≤ l2 → Q (some (.inl 1)) M) ∧ (¬ (M 1 0) ≤ l2 → Call K jTold_agrees [.inr (.inr 43), .inr (.inr 1), .inl l2] P0 P0 M (retI fun r3 M4 => R32 r3 ∧ (¬ r3 = 0 → G none (K + 1) jTold_agree 2 [(0, .inr (.inr 43)), (1, .inr (.inr 1)), (2, .inl (l2 + 1))] [] P0 P0 M4 Q) ∧ (r3 = 0 → Q (some (.inl 0)) M4)))) : G none (K + 1) jTold_agree 2 [(0, .inr (.inr 43)), (1, .inr (.inr 1)), (2, .inl l2)] [] P0 P0 M Q := by
  refine G_iload_n 2 rfl rfl (ck dc163 (i := 2) rfl) ?_
  refine G_aload_n 1 rfl rfl (ck dc163 (i := 3) rfl) ?_
  refine H_getI mf163 (ck dc163 (i := 4) rfl) fw_Told_35 (Or.inl fc0_0) ly1 ra1 (x := (M 1 0)) rfl ?_
  obtain ⟨o1, h⟩ := h
  obtain ⟨o2, h⟩ := h
  refine G_icmp_ge (tgt := 27) (by decide) o1 o2 (ck dc163 (i := 5) rfl) (fun c => ?_) (fun c => ?_)
  · replace h := h.1 c
    refine G_iconst (ck dc163 (i := 15) rfl) ?_
    exact H_iretZ mf163 (ck dc163 (i := 16) rfl) rfl (Or.inr rfl) h
  · replace h := h.2 c
    refine G_aload_n 0 rfl rfl (ck dc163 (i := 6) rfl) ?_
    refine G_aload_n 1 rfl rfl (ck dc163 (i := 7) rfl) ?_
    refine G_iload_n 2 rfl rfl (ck dc163 (i := 8) rfl) ?_
    refine H_vZ mf163 (As := [.inr (.inr 1), .inl l2]) (st := []) (ck dc163 (i := 9) rfl) lk_Told_40 rfl rfl (Nat.le_of_ble_eq_true rfl) ly43 ra43 ⟨Nat.le_refl _, Nat.le_refl _⟩ h (fun r3 M4 h => ?_)
    obtain ⟨o5, h⟩ := h
    refine G_if_ne (tgt := 21) (by decide) o5 (ck dc163 (i := 10) rfl) (fun c => ?_) (fun c => ?_)
    · replace h := h.1 c
      refine G_iinc (L' := [(2, .inl (l2 + 1)), (0, .inr (.inr 43)), (1, .inr (.inr 1))]) 2 rfl (mfx.lt mf163 (Nat.le_of_ble_eq_true rfl)) rfl (ck dc163 (i := 13) rfl) ?_
      refine G_goto (tgt := 2) (by decide) (ck dc163 (i := 14) rfl) ?_
      exact G_sub [1, 2, 0] rfl h
    · replace h := h.2 c
      refine G_iconst (ck dc163 (i := 11) rfl) ?_
      exact H_iretZ mf163 (ck dc163 (i := 12) rfl) rfl (Or.inl rfl) h
theorem c_kp_copy (K : Nat) (M : PM) (Q : Option PV → PM → Prop)
    (h : Q none (mcpy (mcpy (mcpy (mset (mset (mset M 5 0 (M 1 0)) 5 1 (M 1 1)) 5 2 (M 1 2)) 2 6 5) 3 7 75) 4 8 45)) : Call (K + 1) jBook_copy [.inr (.inr 5), .inr (.inr 1)] P0 P0 M Q := by
  refine Call.intro (by decide +kernel) (mfx.le mf168 (Nat.le_of_ble_eq_true rfl)) (Nat.le_refl _) rfl ?_
  refine G_aload_n 0 rfl rfl (ck dc168 (i := 0) rfl) ?_
  refine G_aload_n 1 rfl rfl (ck dc168 (i := 1) rfl) ?_
  refine H_getI mf168 (ck dc168 (i := 2) rfl) fw_Book_26 (Or.inl fc0_0) ly1 ra1 (x := (M 1 0)) rfl ?_
  refine H_putI mf168 (ck dc168 (i := 3) rfl) fw_Book_26 fc0_0 ly5 ra5 (Or.inl rfl) ?_
  refine G_aload_n 0 rfl rfl (ck dc168 (i := 4) rfl) ?_
  refine G_aload_n 1 rfl rfl (ck dc168 (i := 5) rfl) ?_
  refine H_getI mf168 (ck dc168 (i := 6) rfl) fw_Book_30 (Or.inl fc0_1) ly1 ra1 (x := (M 1 1)) (by simp [mset, mcpy, mclr]) ?_
  refine H_putI mf168 (ck dc168 (i := 7) rfl) fw_Book_30 fc0_1 ly5 ra5 (Or.inl rfl) ?_
  refine G_aload_n 0 rfl rfl (ck dc168 (i := 8) rfl) ?_
  refine G_aload_n 1 rfl rfl (ck dc168 (i := 9) rfl) ?_
  refine H_getI mf168 (ck dc168 (i := 10) rfl) fw_Book_33 (Or.inl fc0_2) ly1 ra1 (x := (M 1 2)) (by simp [mset, mcpy, mclr]) ?_
  refine H_putI mf168 (ck dc168 (i := 11) rfl) fw_Book_33 fc0_2 ly5 ra5 (Or.inl rfl) ?_
  refine G_aload_n 1 rfl rfl (ck dc168 (i := 12) rfl) ?_
  refine H_getR mf168 (ck dc168 (i := 13) rfl) fw_Book_9 fc0_3 ly1 ra1 rf1_3 (by decide) ?_
  refine G_iconst (ck dc168 (i := 14) rfl) ?_
  refine G_aload_n 0 rfl rfl (ck dc168 (i := 15) rfl) ?_
  refine H_getR mf168 (ck dc168 (i := 16) rfl) fw_Book_9 fc0_3 ly5 ra5 rf5_3 (by decide) ?_
  refine G_iconst (ck dc168 (i := 17) rfl) ?_
  refine G_aload_n 0 rfl rfl (ck dc168 (i := 18) rfl) ?_
  refine H_getR mf168 (ck dc168 (i := 19) rfl) fw_Book_9 fc0_3 ly5 ra5 rf5_3 (by decide) ?_
  refine G_alen (ck dc168 (i := 20) rfl) ra6 ly6 (by decide) ?_
  refine H_cpyi mf168 (n := 5) (ck dc168 (i := 21) rfl) la_Book_36 (by decide) ly2 ly6 ra2 ra6 (by decide) (by decide) (by decide) (Nat.le_of_ble_eq_true rfl) ?_
  refine G_aload_n 1 rfl rfl (ck dc168 (i := 22) rfl) ?_
  refine H_getR mf168 (ck dc168 (i := 23) rfl) fw_Book_15 fc0_4 ly1 ra1 rf1_4 (by decide) ?_
  refine G_iconst (ck dc168 (i := 24) rfl) ?_
  refine G_aload_n 0 rfl rfl (ck dc168 (i := 25) rfl) ?_
  refine H_getR mf168 (ck dc168 (i := 26) rfl) fw_Book_15 fc0_4 ly5 ra5 rf5_4 (by decide) ?_
  refine G_iconst (ck dc168 (i := 27) rfl) ?_
  refine G_aload_n 0 rfl rfl (ck dc168 (i := 28) rfl) ?_
  refine H_getR mf168 (ck dc168 (i := 29) rfl) fw_Book_15 fc0_4 ly5 ra5 rf5_4 (by decide) ?_
  refine G_alen (ck dc168 (i := 30) rfl) ra7 ly7 (by decide) ?_
  refine H_cpyi mf168 (n := 75) (ck dc168 (i := 31) rfl) la_Book_36 (by decide) ly3 ly7 ra3 ra7 (by decide) (by decide) (by decide) (Nat.le_of_ble_eq_true rfl) ?_
  refine G_aload_n 1 rfl rfl (ck dc168 (i := 32) rfl) ?_
  refine H_getR mf168 (ck dc168 (i := 33) rfl) fw_Book_18 fc0_5 ly1 ra1 rf1_5 (by decide) ?_
  refine G_iconst (ck dc168 (i := 34) rfl) ?_
  refine G_aload_n 0 rfl rfl (ck dc168 (i := 35) rfl) ?_
  refine H_getR mf168 (ck dc168 (i := 36) rfl) fw_Book_18 fc0_5 ly5 ra5 rf5_5 (by decide) ?_
  refine G_iconst (ck dc168 (i := 37) rfl) ?_
  refine G_aload_n 0 rfl rfl (ck dc168 (i := 38) rfl) ?_
  refine H_getR mf168 (ck dc168 (i := 39) rfl) fw_Book_18 fc0_5 ly5 ra5 rf5_5 (by decide) ?_
  refine G_alen (ck dc168 (i := 40) rfl) ra8 ly8 (by decide) ?_
  refine H_cpyl mf168 (n := 45) (ck dc168 (i := 41) rfl) la_Book_36 (by decide) ly4 ly8 ra4 ra8 (by decide) (by decide) (by decide) (Nat.le_of_ble_eq_true rfl) ?_
  exact H_vret mf168 (ck dc168 (i := 42) rfl) rfl h
theorem c_bk_copy (K : Nat) (M : PM) (Q : Option PV → PM → Prop)
    (h : Q none (mcpy (mcpy (mcpy (mset (mset (mset M 1 0 (M 5 0)) 1 1 (M 5 1)) 1 2 (M 5 2)) 6 2 5) 7 3 75) 8 4 45)) : Call (K + 1) jBook_copy [.inr (.inr 1), .inr (.inr 5)] P0 P0 M Q := by
  refine Call.intro (by decide +kernel) (mfx.le mf168 (Nat.le_of_ble_eq_true rfl)) (Nat.le_refl _) rfl ?_
  refine G_aload_n 0 rfl rfl (ck dc168 (i := 0) rfl) ?_
  refine G_aload_n 1 rfl rfl (ck dc168 (i := 1) rfl) ?_
  refine H_getI mf168 (ck dc168 (i := 2) rfl) fw_Book_26 (Or.inl fc0_0) ly5 ra5 (x := (M 5 0)) rfl ?_
  refine H_putI mf168 (ck dc168 (i := 3) rfl) fw_Book_26 fc0_0 ly1 ra1 (Or.inl rfl) ?_
  refine G_aload_n 0 rfl rfl (ck dc168 (i := 4) rfl) ?_
  refine G_aload_n 1 rfl rfl (ck dc168 (i := 5) rfl) ?_
  refine H_getI mf168 (ck dc168 (i := 6) rfl) fw_Book_30 (Or.inl fc0_1) ly5 ra5 (x := (M 5 1)) (by simp [mset, mcpy, mclr]) ?_
  refine H_putI mf168 (ck dc168 (i := 7) rfl) fw_Book_30 fc0_1 ly1 ra1 (Or.inl rfl) ?_
  refine G_aload_n 0 rfl rfl (ck dc168 (i := 8) rfl) ?_
  refine G_aload_n 1 rfl rfl (ck dc168 (i := 9) rfl) ?_
  refine H_getI mf168 (ck dc168 (i := 10) rfl) fw_Book_33 (Or.inl fc0_2) ly5 ra5 (x := (M 5 2)) (by simp [mset, mcpy, mclr]) ?_
  refine H_putI mf168 (ck dc168 (i := 11) rfl) fw_Book_33 fc0_2 ly1 ra1 (Or.inl rfl) ?_
  refine G_aload_n 1 rfl rfl (ck dc168 (i := 12) rfl) ?_
  refine H_getR mf168 (ck dc168 (i := 13) rfl) fw_Book_9 fc0_3 ly5 ra5 rf5_3 (by decide) ?_
  refine G_iconst (ck dc168 (i := 14) rfl) ?_
  refine G_aload_n 0 rfl rfl (ck dc168 (i := 15) rfl) ?_
  refine H_getR mf168 (ck dc168 (i := 16) rfl) fw_Book_9 fc0_3 ly1 ra1 rf1_3 (by decide) ?_
  refine G_iconst (ck dc168 (i := 17) rfl) ?_
  refine G_aload_n 0 rfl rfl (ck dc168 (i := 18) rfl) ?_
  refine H_getR mf168 (ck dc168 (i := 19) rfl) fw_Book_9 fc0_3 ly1 ra1 rf1_3 (by decide) ?_
  refine G_alen (ck dc168 (i := 20) rfl) ra2 ly2 (by decide) ?_
  refine H_cpyi mf168 (n := 5) (ck dc168 (i := 21) rfl) la_Book_36 (by decide) ly6 ly2 ra6 ra2 (by decide) (by decide) (by decide) (Nat.le_of_ble_eq_true rfl) ?_
  refine G_aload_n 1 rfl rfl (ck dc168 (i := 22) rfl) ?_
  refine H_getR mf168 (ck dc168 (i := 23) rfl) fw_Book_15 fc0_4 ly5 ra5 rf5_4 (by decide) ?_
  refine G_iconst (ck dc168 (i := 24) rfl) ?_
  refine G_aload_n 0 rfl rfl (ck dc168 (i := 25) rfl) ?_
  refine H_getR mf168 (ck dc168 (i := 26) rfl) fw_Book_15 fc0_4 ly1 ra1 rf1_4 (by decide) ?_
  refine G_iconst (ck dc168 (i := 27) rfl) ?_
  refine G_aload_n 0 rfl rfl (ck dc168 (i := 28) rfl) ?_
  refine H_getR mf168 (ck dc168 (i := 29) rfl) fw_Book_15 fc0_4 ly1 ra1 rf1_4 (by decide) ?_
  refine G_alen (ck dc168 (i := 30) rfl) ra3 ly3 (by decide) ?_
  refine H_cpyi mf168 (n := 75) (ck dc168 (i := 31) rfl) la_Book_36 (by decide) ly7 ly3 ra7 ra3 (by decide) (by decide) (by decide) (Nat.le_of_ble_eq_true rfl) ?_
  refine G_aload_n 1 rfl rfl (ck dc168 (i := 32) rfl) ?_
  refine H_getR mf168 (ck dc168 (i := 33) rfl) fw_Book_18 fc0_5 ly5 ra5 rf5_5 (by decide) ?_
  refine G_iconst (ck dc168 (i := 34) rfl) ?_
  refine G_aload_n 0 rfl rfl (ck dc168 (i := 35) rfl) ?_
  refine H_getR mf168 (ck dc168 (i := 36) rfl) fw_Book_18 fc0_5 ly1 ra1 rf1_5 (by decide) ?_
  refine G_iconst (ck dc168 (i := 37) rfl) ?_
  refine G_aload_n 0 rfl rfl (ck dc168 (i := 38) rfl) ?_
  refine H_getR mf168 (ck dc168 (i := 39) rfl) fw_Book_18 fc0_5 ly1 ra1 rf1_5 (by decide) ?_
  refine G_alen (ck dc168 (i := 40) rfl) ra4 ly4 (by decide) ?_
  refine H_cpyl mf168 (n := 45) (ck dc168 (i := 41) rfl) la_Book_36 (by decide) ly8 ly4 ra8 ra4 (by decide) (by decide) (by decide) (Nat.le_of_ble_eq_true rfl) ?_
  exact H_vret mf168 (ck dc168 (i := 42) rfl) rfl h
