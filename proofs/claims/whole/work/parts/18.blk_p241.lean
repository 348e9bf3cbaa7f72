theorem c_ct_pays (K : Nat) (a1 : Int) (M : PM) (Q : Option PV → PM → Prop)
    (h : G none (K + 1) jClearing_pays 5 [(0, .inr (.inr 24)), (1, .inl a1), (2, .inr (.inl 0)), (4, .inl 0)] [] P0 P0 M Q) : Call (K + 1) jClearing_pays [.inr (.inr 24), .inl a1] P0 P0 M Q := by
  refine Call.intro (by decide +kernel) (mfx.le mf85 (Nat.le_of_ble_eq_true rfl)) (Nat.le_refl _) rfl ?_
  refine G_lconst (v := 0) rfl (ck dc85 (i := 0) rfl) ?_
  refine G_lstore_n rfl (mfx.lt mf85 (Nat.le_of_ble_eq_true rfl)) rfl (ck dc85 (i := 1) rfl) ?_
  refine G_iconst (ck dc85 (i := 2) rfl) ?_
  refine G_istore (mfx.lt mf85 (Nat.le_of_ble_eq_true rfl)) rfl (ck dc85 (i := 3) rfl) ?_
  exact G_sub [2, 3, 1, 0] rfl h
theorem g_ct_pays_5 (K : Nat) (l1 l2 l4 : Int) (M : PM) (Q : Option PV → PM → Prop)
    (h : R32 l4 ∧ (3 ≤ l4 → Q (some (.inr (.inl l2))) M) ∧ (¬ 3 ≤ l4 → (0 ≤ ((l1 * 3) + l4) ∧ ((l1 * 3) + l4) < 15) ∧ R32 (M 28 ((l1 * 3) + l4)) ∧ Call K jClearing_top [.inr (.inr 24), .inl (M 24 0), .inl l1, .inl l4] P0 P0 M (retL fun r4 M5 => G none (K + 1) jClearing_pays 5 [(0, .inr (.inr 24)), (1, .inl l1), (2, .inr (.inl (l2 + ((M 28 ((l1 * 3) + l4)) * r4)))), (4, .inl (l4 + 1))] [] P0 P0 M5 Q))) : G none (K + 1) jClearing_pays 5 [(0, .inr (.inr 24)), (1, .inl l1), (2, .inr (.inl l2)), (4, .inl l4)] [] P0 P0 M Q := by
  refine G_iload 3 rfl (ck dc85 (i := 4) rfl) ?_
  refine G_iconst (ck dc85 (i := 5) rfl) ?_
  obtain ⟨o1, h⟩ := h
  refine G_icmp_ge (tgt := 44) (by decide) o1 (by decide) (ck dc85 (i := 6) rfl) (fun c => ?_) (fun c => ?_)
  · replace h := h.1 c
    refine G_lload_n 2 rfl rfl (ck dc85 (i := 28) rfl) ?_
    exact H_lret mf85 (ck dc85 (i := 29) rfl) rfl h
  · replace h := h.2 c
    refine G_lload_n 2 rfl rfl (ck dc85 (i := 7) rfl) ?_
    refine G_aload_n 0 rfl rfl (ck dc85 (i := 8) rfl) ?_
    refine H_getR mf85 (ck dc85 (i := 9) rfl) fw_Clearing_22 fc1_7 ly24 ra24 rf24_7 (by decide) ?_
    refine G_iload_n 1 rfl rfl (ck dc85 (i := 10) rfl) ?_
    refine G_iconst (ck dc85 (i := 11) rfl) ?_
    refine G_imul (ck dc85 (i := 12) rfl) ?_
    refine G_iload 3 rfl (ck dc85 (i := 13) rfl) ?_
    refine G_iadd (ck dc85 (i := 14) rfl) ?_
    obtain ⟨o2, h⟩ := h
    refine H_iald (ck dc85 (i := 15) rfl) ly28 (by decide) ra28 o2 (x := (M 28 ((l1 * 3) + l4))) rfl ?_
    obtain ⟨o3, h⟩ := h
    refine G_i2l o3 (ck dc85 (i := 16) rfl) ?_
    refine G_aload_n 0 rfl rfl (ck dc85 (i := 17) rfl) ?_
    refine G_aload_n 0 rfl rfl (ck dc85 (i := 18) rfl) ?_
    refine H_getI mf85 (ck dc85 (i := 19) rfl) fw_Clearing_77 (Or.inl fc1_0) ly24 ra24 (x := (M 24 0)) rfl ?_
    refine G_iload_n 1 rfl rfl (ck dc85 (i := 20) rfl) ?_
    refine G_iload 3 rfl (ck dc85 (i := 21) rfl) ?_
    refine H_vL mf85 (As := [.inl (M 24 0), .inl l1, .inl l4]) (st := [.inr (.inl (M 28 ((l1 * 3) + l4))), .inr (.inl l2)]) (ck dc85 (i := 22) rfl) lk_Clearing_173 rfl rfl (Nat.le_of_ble_eq_true rfl) ly24 ra24 ⟨Nat.le_refl _, Nat.le_refl _⟩ h (fun r4 M5 h => ?_)
    refine G_lmul (ck dc85 (i := 23) rfl) ?_
    refine G_ladd (ck dc85 (i := 24) rfl) ?_
    refine G_lstore_n rfl (mfx.lt mf85 (Nat.le_of_ble_eq_true rfl)) rfl (ck dc85 (i := 25) rfl) ?_
    refine G_iinc 3 rfl (mfx.lt mf85 (Nat.le_of_ble_eq_true rfl)) rfl (ck dc85 (i := 26) rfl) ?_
    refine G_goto (tgt := 5) (by decide) (ck dc85 (i := 27) rfl) ?_
    exact G_sub [2, 3, 1, 0] rfl h
theorem c_ct_allPaid (K : Nat) (M : PM) (Q : Option PV → PM → Prop)
    (h : G none (K + 1) jClearing_allPaid 4 [(0, .inr (.inr 24)), (1, .inr (.inl 0)), (3, .inl 0)] [] P0 P0 M Q) : Call (K + 1) jClearing_allPaid [.inr (.inr 24)] P0 P0 M Q := by
  refine Call.intro (by decide +kernel) (mfx.le mf84 (Nat.le_of_ble_eq_true rfl)) (Nat.le_refl _) rfl ?_
  refine G_lconst (v := 0) rfl (ck dc84 (i := 0) rfl) ?_
  refine G_lstore_n rfl (mfx.lt mf84 (Nat.le_of_ble_eq_true rfl)) rfl (ck dc84 (i := 1) rfl) ?_
  refine G_iconst (ck dc84 (i := 2) rfl) ?_
  refine G_istore_n rfl (mfx.lt mf84 (Nat.le_of_ble_eq_true rfl)) rfl (ck dc84 (i := 3) rfl) ?_
  exact G_sub [2, 1, 0] rfl h
theorem g_ct_allPaid_4 (K : Nat) (l1 l3 : Int) (M : PM) (Q : Option PV → PM → Prop)
    (h : R32 l3 ∧ R32 (M 1 0) ∧ ((M 1 0) ≤ l3 → Q (some (.inr (.inl l1))) M) ∧ (¬ (M 1 0) ≤ l3 → Call K jClearing_pays [.inr (.inr 24), .inl l3] P0 P0 M (retL fun r3 M4 => G none (K + 1) jClearing_allPaid 4 [(0, .inr (.inr 24)), (1, .inr (.inl (l1 + r3))), (3, .inl (l3 + 1))] [] P0 P0 M4 Q))) : G none (K + 1) jClearing_allPaid 4 [(0, .inr (.inr 24)), (1, .inr (.inl l1)), (3, .inl l3)] [] P0 P0 M Q := by
  refine G_iload_n 2 rfl rfl (ck dc84 (i := 4) rfl) ?_
  refine G_aload_n 0 rfl rfl (ck dc84 (i := 5) rfl) ?_
  refine H_getR mf84 (ck dc84 (i := 6) rfl) fw_Clearing_48 fc1_3 ly24 ra24 rf24_3 (by decide) ?_
  refine H_getI mf84 (ck dc84 (i := 7) rfl) fw_Clearing_109 (Or.inl fc0_0) ly1 ra1 (x := (M 1 0)) rfl ?_
  obtain ⟨o1, h⟩ := h
  obtain ⟨o2, h⟩ := h
  refine G_icmp_ge (tgt := 29) (by decide) o1 o2 (ck dc84 (i := 8) rfl) (fun c => ?_) (fun c => ?_)
  · replace h := h.1 c
    refine G_lload_n 1 rfl rfl (ck dc84 (i := 17) rfl) ?_
    exact H_lret mf84 (ck dc84 (i := 18) rfl) rfl h
  · replace h := h.2 c
    refine G_lload_n 1 rfl rfl (ck dc84 (i := 9) rfl) ?_
    refine G_aload_n 0 rfl rfl (ck dc84 (i := 10) rfl) ?_
    refine G_iload_n 2 rfl rfl (ck dc84 (i := 11) rfl) ?_
    refine H_vL mf84 (As := [.inl l3]) (st := [.inr (.inl l1)]) (ck dc84 (i := 12) rfl) lk_Clearing_176 rfl rfl (Nat.le_of_ble_eq_true rfl) ly24 ra24 ⟨Nat.le_refl _, Nat.le_refl _⟩ h (fun r3 M4 h => ?_)
    refine G_ladd (ck dc84 (i := 13) rfl) ?_
    refine G_lstore_n rfl (mfx.lt mf84 (Nat.le_of_ble_eq_true rfl)) rfl (ck dc84 (i := 14) rfl) ?_
    refine G_iinc 2 rfl (mfx.lt mf84 (Nat.le_of_ble_eq_true rfl)) rfl (ck dc84 (i := 15) rfl) ?_
    refine G_goto (tgt := 4) (by decide) (ck dc84 (i := 16) rfl) ?_
    exact G_sub [2, 1, 0] rfl h
theorem c_ct_bottom (K : Nat) (a1 : Int) (M : PM) (Q : Option PV → PM → Prop)
    (h : (0 ≤ a1 ∧ a1 < 6) ∧ Q (some (.inr (.inl (M 27 a1)))) M) : Call (K + 1) jClearing_bottom [.inr (.inr 24), .inl a1] P0 P0 M Q := by
  refine Call.intro (by decide +kernel) (mfx.le mf72 (Nat.le_of_ble_eq_true rfl)) (Nat.le_refl _) rfl ?_
  refine G_aload_n 0 rfl rfl (ck dc72 (i := 0) rfl) ?_
  refine H_getR mf72 (ck dc72 (i := 1) rfl) fw_Clearing_19 fc1_6 ly24 ra24 rf24_6 (by decide) ?_
  refine G_iload_n 1 rfl rfl (ck dc72 (i := 2) rfl) ?_
  obtain ⟨o1, h⟩ := h
  refine H_lald (ck dc72 (i := 3) rfl) ly27 (by decide) ra27 o1 (x := (M 27 a1)) rfl ?_
  exact H_lret mf72 (ck dc72 (i := 4) rfl) rfl h
