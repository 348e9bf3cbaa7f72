theorem c_to_agree (K : Nat) (M : PM) (Q : Option PV → PM → Prop)
    (h : G none (K + 1) jTold_agree 2 [(0, .inr (.inr 43)), (1, .inr (.inr 1)), (2, .inl 0)] [] P0 P0 M Q) : Call (K + 1) jTold_agree [.inr (.inr 43), .inr (.inr 1)] P0 P0 M Q := by
  refine Call.intro (by decide +kernel) (mfx.le mf163 (Nat.le_of_ble_eq_true rfl)) (Nat.le_refl _) rfl ?_
  refine G_iconst (ck dc163 (i := 0) rfl) ?_
  refine G_istore_n rfl (mfx.lt mf163 (Nat.le_of_ble_eq_true rfl)) rfl (ck dc163 (i := 1) rfl) ?_
  exact G_sub [1, 2, 0] rfl h
theorem g_to_agree_2 (K : Nat) (l2 : Int) (M : PM) (Q : Option PV → PM → Prop)
    (h : R32 l2 ∧ R32 (M 1 0) ∧ ((M 1 0) ≤ l2 → Q (some (.inl 1)) M) ∧ (¬ (M 1 0) ≤ l2 → Call K jTold_agrees [.inr (.inr 43), .inr (.inr 1), .inl l2] P0 P0 M (retI fun r3 M4 => R32 r3 ∧ (¬ r3 = 0 → G none (K + 1) jTold_agree 2 [(0, .inr (.inr 43)), (1, .inr (.inr 1)), (2, .inl (l2 + 1))] [] P0 P0 M4 Q) ∧ (r3 = 0 → Q (some (.inl 0)) M4)))) : G none (K + 1) jTold_agree 2 [(0, .inr (.inr 43)), (1, .inr (.inr 1)), (2, .inl l2)] [] P0 P0 M Q := by
  refine G_iload_n 2 rfl rfl (ck dc163 (i := 2) rfl) ?_
  refine G_aload_n 1 rfl rfl (ck dc163 (i := 3) rfl) ?_
  refine H_getI mf163 (ck dc163 (i := 4) rfl) fw_Told_35 (Or.inl fc0_0) ly1 ra1 (x := (M 1 0)) rfl ?_
  obtain ⟨o1, h⟩ := h
  obtain ⟨o2, h⟩ := h
  refine G_icmp_ge (tgt := 27) (by decide) o1 o2 (ck dc163 (i := 5) rfl) (fun c => ?_) (fun c => ?_)
  · replace h := h.1 c
    refine G_iconst (ck dc163 (i := 15) rfl) ?_
    exact H_iretZ mf163 (ck dc163 (i := 16) rfl) rfl (Or.inr rfl) h
  · replace h := h.2 c
    refine G_aload_n 0 rfl rfl (ck dc163 (i := 6) rfl) ?_
    refine G_aload_n 1 rfl rfl (ck dc163 (i := 7) rfl) ?_
    refine G_iload_n 2 rfl rfl (ck dc163 (i := 8) rfl) ?_
    refine H_vZ mf163 (As := [.inr (.inr 1), .inl l2]) (st := []) (ck dc163 (i := 9) rfl) lk_Told_40 rfl rfl (Nat.le_of_ble_eq_true rfl) ly43 ra43 ⟨Nat.le_refl _, Nat.le_refl _⟩ h (fun r3 M4 h => ?_)
    obtain ⟨o5, h⟩ := h
    refine G_if_ne (tgt := 21) (by decide) o5 (ck dc163 (i := 10) rfl) (fun c => ?_) (fun c => ?_)
    · replace h := h.1 c
      refine G_iinc 2 rfl (mfx.lt mf163 (Nat.le_of_ble_eq_true rfl)) rfl (ck dc163 (i := 13) rfl) ?_
      refine G_goto (tgt := 2) (by decide) (ck dc163 (i := 14) rfl) ?_
      exact G_sub [1, 2, 0] rfl h
    · replace h := h.2 c
      refine G_iconst (ck dc163 (i := 11) rfl) ?_
      exact H_iretZ mf163 (ck dc163 (i := 12) rfl) rfl (Or.inl rfl) h
theorem c_kp_copy (K : Nat) (M : PM) (Q : Option PV → PM → Prop)
    (h : Q none (mcpy (mcpy (mcpy (mset (mset (mset M 5 0 (M 1 0)) 5 1 (M 1 1)) 5 2 (M 1 2)) 2 6 5) 3 7 75) 4 8 45)) : Call (K + 1) jBook_copy [.inr (.inr 5), .inr (.inr 1)] P0 P0 M Q := by
  refine Call.intro (by decide +kernel) (mfx.le mf168 (Nat.le_of_ble_eq_true rfl)) (Nat.le_refl _) rfl ?_
  refine G_aload_n 0 rfl rfl (ck dc168 (i := 0) rfl) ?_
  refine G_aload_n 1 rfl rfl (ck dc168 (i := 1) rfl) ?_
  refine H_getI mf168 (ck dc168 (i := 2) rfl) fw_Book_26 (Or.inl fc0_0) ly1 ra1 (x := (M 1 0)) rfl ?_
  refine H_putI mf168 (ck dc168 (i := 3) rfl) fw_Book_26 fc0_0 ly5 ra5 (Or.inl rfl) ?_
  refine G_aload_n 0 rfl rfl (ck dc168 (i := 4) rfl) ?_
  refine G_aload_n 1 rfl rfl (ck dc168 (i := 5) rfl) ?_
  refine H_getI mf168 (ck dc168 (i := 6) rfl) fw_Book_30 (Or.inl fc0_1) ly1 ra1 (x := (M 1 1)) (by simp [mset, mcpy, mclr]) ?_
  refine H_putI mf168 (ck dc168 (i := 7) rfl) fw_Book_30 fc0_1 ly5 ra5 (Or.inl rfl) ?_
  refine G_aload_n 0 rfl rfl (ck dc168 (i := 8) rfl) ?_
  refine G_aload_n 1 rfl rfl (ck dc168 (i := 9) rfl) ?_
  refine H_getI mf168 (ck dc168 (i := 10) rfl) fw_Book_33 (Or.inl fc0_2) ly1 ra1 (x := (M 1 2)) (by simp [mset, mcpy, mclr]) ?_
  refine H_putI mf168 (ck dc168 (i := 11) rfl) fw_Book_33 fc0_2 ly5 ra5 (Or.inl rfl) ?_
  refine G_aload_n 1 rfl rfl (ck dc168 (i := 12) rfl) ?_
  refine H_getR mf168 (ck dc168 (i := 13) rfl) fw_Book_9 fc0_3 ly1 ra1 rf1_3 (by decide) ?_
  refine G_iconst (ck dc168 (i := 14) rfl) ?_
  refine G_aload_n 0 rfl rfl (ck dc168 (i := 15) rfl) ?_
  refine H_getR mf168 (ck dc168 (i := 16) rfl) fw_Book_9 fc0_3 ly5 ra5 rf5_3 (by decide) ?_
  refine G_iconst (ck dc168 (i := 17) rfl) ?_
  refine G_aload_n 0 rfl rfl (ck dc168 (i := 18) rfl) ?_
  refine H_getR mf168 (ck dc168 (i := 19) rfl) fw_Book_9 fc0_3 ly5 ra5 rf5_3 (by decide) ?_
  refine G_alen (ck dc168 (i := 20) rfl) ra6 ly6 (by decide) ?_
  refine H_cpyi mf168 (n := 5) (ck dc168 (i := 21) rfl) la_Book_36 (by decide) ly2 ly6 ra2 ra6 (by decide) (by decide) (by decide) (Nat.le_of_ble_eq_true rfl) ?_
  refine G_aload_n 1 rfl rfl (ck dc168 (i := 22) rfl) ?_
  refine H_getR mf168 (ck dc168 (i := 23) rfl) fw_Book_15 fc0_4 ly1 ra1 rf1_4 (by decide) ?_
  refine G_iconst (ck dc168 (i := 24) rfl) ?_
  refine G_aload_n 0 rfl rfl (ck dc168 (i := 25) rfl) ?_
  refine H_getR mf168 (ck dc168 (i := 26) rfl) fw_Book_15 fc0_4 ly5 ra5 rf5_4 (by decide) ?_
  refine G_iconst (ck dc168 (i := 27) rfl) ?_
  refine G_aload_n 0 rfl rfl (ck dc168 (i := 28) rfl) ?_
  refine H_getR mf168 (ck dc168 (i := 29) rfl) fw_Book_15 fc0_4 ly5 ra5 rf5_4 (by decide) ?_
  refine G_alen (ck dc168 (i := 30) rfl) ra7 ly7 (by decide) ?_
  refine H_cpyi mf168 (n := 75) (ck dc168 (i := 31) rfl) la_Book_36 (by decide) ly3 ly7 ra3 ra7 (by decide) (by decide) (by decide) (Nat.le_of_ble_eq_true rfl) ?_
  refine G_aload_n 1 rfl rfl (ck dc168 (i := 32) rfl) ?_
  refine H_getR mf168 (ck dc168 (i := 33) rfl) fw_Book_18 fc0_5 ly1 ra1 rf1_5 (by decide) ?_
  refine G_iconst (ck dc168 (i := 34) rfl) ?_
  refine G_aload_n 0 rfl rfl (ck dc168 (i := 35) rfl) ?_
  refine H_getR mf168 (ck dc168 (i := 36) rfl) fw_Book_18 fc0_5 ly5 ra5 rf5_5 (by decide) ?_
  refine G_iconst (ck dc168 (i := 37) rfl) ?_
  refine G_aload_n 0 rfl rfl (ck dc168 (i := 38) rfl) ?_
  refine H_getR mf168 (ck dc168 (i := 39) rfl) fw_Book_18 fc0_5 ly5 ra5 rf5_5 (by decide) ?_
  refine G_alen (ck dc168 (i := 40) rfl) ra8 ly8 (by decide) ?_
  refine H_cpyl mf168 (n := 45) (ck dc168 (i := 41) rfl) la_Book_36 (by decide) ly4 ly8 ra4 ra8 (by decide) (by decide) (by decide) (Nat.le_of_ble_eq_true rfl) ?_
  exact H_vret mf168 (ck dc168 (i := 42) rfl) rfl h
theorem c_bk_copy (K : Nat) (M : PM) (Q : Option PV → PM → Prop)
    (h : Q none (mcpy (mcpy (mcpy (mset (mset (mset M 1 0 (M 5 0)) 1 1 (M 5 1)) 1 2 (M 5 2)) 6 2 5) 7 3 75) 8 4 45)) : Call (K + 1) jBook_copy [.inr (.inr 1), .inr (.inr 5)] P0 P0 M Q := by
  refine Call.intro (by decide +kernel) (mfx.le mf168 (Nat.le_of_ble_eq_true rfl)) (Nat.le_refl _) rfl ?_
  refine G_aload_n 0 rfl rfl (ck dc168 (i := 0) rfl) ?_
  refine G_aload_n 1 rfl rfl (ck dc168 (i := 1) rfl) ?_
  refine H_getI mf168 (ck dc168 (i := 2) rfl) fw_Book_26 (Or.inl fc0_0) ly5 ra5 (x := (M 5 0)) rfl ?_
  refine H_putI mf168 (ck dc168 (i := 3) rfl) fw_Book_26 fc0_0 ly1 ra1 (Or.inl rfl) ?_
  refine G_aload_n 0 rfl rfl (ck dc168 (i := 4) rfl) ?_
  refine G_aload_n 1 rfl rfl (ck dc168 (i := 5) rfl) ?_
  refine H_getI mf168 (ck dc168 (i := 6) rfl) fw_Book_30 (Or.inl fc0_1) ly5 ra5 (x := (M 5 1)) (by simp [mset, mcpy, mclr]) ?_
  refine H_putI mf168 (ck dc168 (i := 7) rfl) fw_Book_30 fc0_1 ly1 ra1 (Or.inl rfl) ?_
  refine G_aload_n 0 rfl rfl (ck dc168 (i := 8) rfl) ?_
  refine G_aload_n 1 rfl rfl (ck dc168 (i := 9) rfl) ?_
  refine H_getI mf168 (ck dc168 (i := 10) rfl) fw_Book_33 (Or.inl fc0_2) ly5 ra5 (x := (M 5 2)) (by simp [mset, mcpy, mclr]) ?_
  refine H_putI mf168 (ck dc168 (i := 11) rfl) fw_Book_33 fc0_2 ly1 ra1 (Or.inl rfl) ?_
  refine G_aload_n 1 rfl rfl (ck dc168 (i := 12) rfl) ?_
  refine H_getR mf168 (ck dc168 (i := 13) rfl) fw_Book_9 fc0_3 ly5 ra5 rf5_3 (by decide) ?_
  refine G_iconst (ck dc168 (i := 14) rfl) ?_
  refine G_aload_n 0 rfl rfl (ck dc168 (i := 15) rfl) ?_
  refine H_getR mf168 (ck dc168 (i := 16) rfl) fw_Book_9 fc0_3 ly1 ra1 rf1_3 (by decide) ?_
  refine G_iconst (ck dc168 (i := 17) rfl) ?_
  refine G_aload_n 0 rfl rfl (ck dc168 (i := 18) rfl) ?_
  refine H_getR mf168 (ck dc168 (i := 19) rfl) fw_Book_9 fc0_3 ly1 ra1 rf1_3 (by decide) ?_
  refine G_alen (ck dc168 (i := 20) rfl) ra2 ly2 (by decide) ?_
  refine H_cpyi mf168 (n := 5) (ck dc168 (i := 21) rfl) la_Book_36 (by decide) ly6 ly2 ra6 ra2 (by decide) (by decide) (by decide) (Nat.le_of_ble_eq_true rfl) ?_
  refine G_aload_n 1 rfl rfl (ck dc168 (i := 22) rfl) ?_
  refine H_getR mf168 (ck dc168 (i := 23) rfl) fw_Book_15 fc0_4 ly5 ra5 rf5_4 (by decide) ?_
  refine G_iconst (ck dc168 (i := 24) rfl) ?_
  refine G_aload_n 0 rfl rfl (ck dc168 (i := 25) rfl) ?_
  refine H_getR mf168 (ck dc168 (i := 26) rfl) fw_Book_15 fc0_4 ly1 ra1 rf1_4 (by decide) ?_
  refine G_iconst (ck dc168 (i := 27) rfl) ?_
  refine G_aload_n 0 rfl rfl (ck dc168 (i := 28) rfl) ?_
  refine H_getR mf168 (ck dc168 (i := 29) rfl) fw_Book_15 fc0_4 ly1 ra1 rf1_4 (by decide) ?_
  refine G_alen (ck dc168 (i := 30) rfl) ra3 ly3 (by decide) ?_
  refine H_cpyi mf168 (n := 75) (ck dc168 (i := 31) rfl) la_Book_36 (by decide) ly7 ly3 ra7 ra3 (by decide) (by decide) (by decide) (Nat.le_of_ble_eq_true rfl) ?_
  refine G_aload_n 1 rfl rfl (ck dc168 (i := 32) rfl) ?_
  refine H_getR mf168 (ck dc168 (i := 33) rfl) fw_Book_18 fc0_5 ly5 ra5 rf5_5 (by decide) ?_
  refine G_iconst (ck dc168 (i := 34) rfl) ?_
  refine G_aload_n 0 rfl rfl (ck dc168 (i := 35) rfl) ?_
  refine H_getR mf168 (ck dc168 (i := 36) rfl) fw_Book_18 fc0_5 ly1 ra1 rf1_5 (by decide) ?_
  refine G_iconst (ck dc168 (i := 37) rfl) ?_
  refine G_aload_n 0 rfl rfl (ck dc168 (i := 38) rfl) ?_
  refine H_getR mf168 (ck dc168 (i := 39) rfl) fw_Book_18 fc0_5 ly1 ra1 rf1_5 (by decide) ?_
  refine G_alen (ck dc168 (i := 40) rfl) ra4 ly4 (by decide) ?_
  refine H_cpyl mf168 (n := 45) (ck dc168 (i := 41) rfl) la_Book_36 (by decide) ly8 ly4 ra8 ra4 (by decide) (by decide) (by decide) (Nat.le_of_ble_eq_true rfl) ?_
  exact H_vret mf168 (ck dc168 (i := 42) rfl) rfl h
