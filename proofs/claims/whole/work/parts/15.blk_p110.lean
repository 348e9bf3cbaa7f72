theorem c_cp_spread (K : Nat) (ph : PH) (hp : phk_11 ph) (M : PM) (Q : Option PV → PM → Prop)
    (h : (0 ≤ (M 11 0) ∧ (M 11 0) < 6) ∧ G none (K + 1) jClearing_spread 15 [(0, .inr (.inr 11)), (1, .inl 0)] [] ph ph (mset M 14 (M 11 0) (M 11 14)) Q) : Call (K + 1) jClearing_spread [.inr (.inr 11)] ph ph M Q := by
  refine Call.intro (by decide +kernel) (mfx.le mf8 (Nat.le_of_ble_eq_true rfl)) (Nat.le_refl _) rfl ?_
  refine G_aload_n 0 rfl rfl (ck dc8 (i := 0) rfl) ?_
  refine H_getR mf8 (ck dc8 (i := 1) rfl) fw_Clearing_19 fc1_6 ly11 (hp.lt (a := 11) (Nat.le_of_ble_eq_true rfl) (Nat.le_of_ble_eq_true rfl)) (hp.2 (11, 6, 14) (by decide)) (by decide) ?_
  refine G_aload_n 0 rfl rfl (ck dc8 (i := 2) rfl) ?_
  refine H_getI mf8 (ck dc8 (i := 3) rfl) fw_Clearing_77 (Or.inl fc1_0) ly11 (hp.lt (a := 11) (Nat.le_of_ble_eq_true rfl) (Nat.le_of_ble_eq_true rfl)) (x := (M 11 0)) rfl ?_
  refine G_aload_n 0 rfl rfl (ck dc8 (i := 4) rfl) ?_
  refine H_getL mf8 (ck dc8 (i := 5) rfl) fw_Clearing_84 fc1_14 ly11 (hp.lt (a := 11) (Nat.le_of_ble_eq_true rfl) (Nat.le_of_ble_eq_true rfl)) (x := (M 11 14)) rfl ?_
  obtain ⟨o1, h⟩ := h
  refine G_last (ck dc8 (i := 6) rfl) (hp.lt (a := 14) (Nat.le_of_ble_eq_true rfl) (Nat.le_of_ble_eq_true rfl)) ly14 (by decide) o1 ?_
  refine G_iconst (ck dc8 (i := 7) rfl) ?_
  refine G_istore_n (L' := [(1, .inl 0), (0, .inr (.inr 11))]) rfl (mfx.lt mf8 (Nat.le_of_ble_eq_true rfl)) rfl (ck dc8 (i := 8) rfl) ?_
  exact G_sub [1, 0] rfl h
theorem g_cp_spread_15 (K : Nat) (ph : PH) (hp : phk_11 ph) (l1 : Int) (M : PM) (Q : Option PV → PM → Prop)
    (h : R32 l1 ∧ (5 ≤ l1 → Q none M) ∧ (¬ 5 ≤ l1 → G none (K + 1) jClearing_spread 22 [(0, .inr (.inr 11)), (1, .inl l1), (2, .inl 0)] [] ph ph M Q)) : G none (K + 1) jClearing_spread 15 [(0, .inr (.inr 11)), (1, .inl l1)] [] ph ph M Q := by
  refine G_iload_n 1 rfl rfl (ck dc8 (i := 9) rfl) ?_
  refine G_iconst (ck dc8 (i := 10) rfl) ?_
  obtain ⟨o1, h⟩ := h
  refine G_icmp_ge (tgt := 119) (by decide) o1 (by decide) (ck dc8 (i := 11) rfl) (fun c => ?_) (fun c => ?_)
  · replace h := h.1 c
    exact H_vret mf8 (ck dc8 (i := 70) rfl) rfl h
  · replace h := h.2 c
    refine G_iconst (ck dc8 (i := 12) rfl) ?_
    refine G_istore_n (L' := [(2, .inl 0), (0, .inr (.inr 11)), (1, .inl l1)]) rfl (mfx.lt mf8 (Nat.le_of_ble_eq_true rfl)) rfl (ck dc8 (i := 13) rfl) ?_
    exact G_sub [1, 2, 0] rfl h
set_option maxHeartbeats 20000000 in
theorem g_cp_spread_22 (K : Nat) (ph : PH) (hp : phk_11 ph) (l1 l2 : Int) (M : PM) (Q : Option PV → PM → Prop)
    (h : R32 l2 ∧ (3 ≤ l2 → G none (K + 1) jClearing_spread 15 [(0, .inr (.inr 11)), (1, .inl (l1 + 1))] [] ph ph M Q) ∧ (¬ 3 ≤ l2 → (0 ≤ l1 ∧ l1 < 5) ∧ R32 (M 17 l1) ∧ (l2 < (M 17 l1) → G none (K + 1) jClearing_spread 91 [(0, .inr (.inr 11)), (1, .inl l1), (2, .inl l2), (3, .inl ((l1 * 3) + l2)), (4, .inr (.inl (M 11 14)))] [] ph ph M Q) ∧ (¬ l2 < (M 17 l1) → (0 ≤ ((l1 * 3) + l2) ∧ ((l1 * 3) + l2) < 15) ∧ R32 (M 15 ((l1 * 3) + l2)) ∧ (¬ (M 15 ((l1 * 3) + l2)) = 0 → (¬ l2 = (M 17 l1) → G none (K + 1) jClearing_spread 91 [(0, .inr (.inr 11)), (1, .inl l1), (2, .inl l2), (3, .inl ((l1 * 3) + l2)), (4, .inr (.inl 0))] [] ph ph M Q) ∧ (l2 = (M 17 l1) → R32 (M 18 l1) ∧ ((M 18 l1) = 0 → G none (K + 1) jClearing_spread 91 [(0, .inr (.inr 11)), (1, .inl l1), (2, .inl l2), (3, .inl ((l1 * 3) + l2)), (4, .inr (.inl 0))] [] ph ph M Q) ∧ (¬ (M 18 l1) = 0 → G none (K + 1) jClearing_spread 91 [(0, .inr (.inr 11)), (1, .inl l1), (2, .inl l2), (3, .inl ((l1 * 3) + l2)), (4, .inr (.inl (M 19 l1)))] [] ph ph M Q))) ∧ ((M 15 ((l1 * 3) + l2)) = 0 → G none (K + 1) jClearing_spread 91 [(0, .inr (.inr 11)), (1, .inl l1), (2, .inl l2), (3, .inl ((l1 * 3) + l2)), (4, .inr (.inl (M 11 14)))] [] ph ph M Q)))) : G none (K + 1) jClearing_spread 22 [(0, .inr (.inr 11)), (1, .inl l1), (2, .inl l2)] [] ph ph M Q := by
  refine G_iload_n 2 rfl rfl (ck dc8 (i := 14) rfl) ?_
  refine G_iconst (ck dc8 (i := 15) rfl) ?_
  obtain ⟨o1, h⟩ := h
  refine G_icmp_ge (tgt := 113) (by decide) o1 (by decide) (ck dc8 (i := 16) rfl) (fun c => ?_) (fun c => ?_)
  · replace h := h.1 c
    refine G_iinc (L' := [(1, .inl (l1 + 1)), (0, .inr (.inr 11)), (2, .inl l2)]) 1 rfl (mfx.lt mf8 (Nat.le_of_ble_eq_true rfl)) rfl (ck dc8 (i := 68) rfl) ?_
    refine G_goto (tgt := 15) (by decide) (ck dc8 (i := 69) rfl) ?_
    exact G_sub [1, 0] rfl h
  · replace h := h.2 c
    refine G_iload_n 1 rfl rfl (ck dc8 (i := 17) rfl) ?_
    refine G_iconst (ck dc8 (i := 18) rfl) ?_
    refine G_imul (ck dc8 (i := 19) rfl) ?_
    refine G_iload_n 2 rfl rfl (ck dc8 (i := 20) rfl) ?_
    refine G_iadd (ck dc8 (i := 21) rfl) ?_
    refine G_istore_n (L' := [(3, .inl ((l1 * 3) + l2)), (0, .inr (.inr 11)), (1, .inl l1), (2, .inl l2)]) rfl (mfx.lt mf8 (Nat.le_of_ble_eq_true rfl)) rfl (ck dc8 (i := 22) rfl) ?_
    refine G_lconst (v := 0) rfl (ck dc8 (i := 23) rfl) ?_
    refine G_lstore (L' := [(4, .inr (.inl 0)), (3, .inl ((l1 * 3) + l2)), (0, .inr (.inr 11)), (1, .inl l1), (2, .inl l2)]) (mfx.lt mf8 (Nat.le_of_ble_eq_true rfl)) rfl (ck dc8 (i := 24) rfl) ?_
    refine G_iload_n 4 rfl rfl (ck dc8 (i := 25) rfl) ?_
    refine G_aload_n 2 rfl rfl (ck dc8 (i := 26) rfl) ?_
    refine H_getR mf8 (ck dc8 (i := 27) rfl) fw_Clearing_28 fc1_9 ly11 (hp.lt (a := 11) (Nat.le_of_ble_eq_true rfl) (Nat.le_of_ble_eq_true rfl)) (hp.2 (11, 9, 17) (by decide)) (by decide) ?_
    refine G_iload_n 3 rfl rfl (ck dc8 (i := 28) rfl) ?_
    obtain ⟨o2, h⟩ := h
    refine H_iald (ck dc8 (i := 29) rfl) ly17 (by decide) (hp.lt (a := 17) (Nat.le_of_ble_eq_true rfl) (Nat.le_of_ble_eq_true rfl)) o2 (x := (M 17 l1)) rfl ?_
    obtain ⟨o3, h⟩ := h
    refine G_icmp_lt (tgt := 55) (by decide) o1 o3 (ck dc8 (i := 30) rfl) (fun c => ?_) (fun c => ?_)
    · replace h := h.1 c
      refine G_aload_n 2 rfl rfl (ck dc8 (i := 36) rfl) ?_
      refine H_getL mf8 (ck dc8 (i := 37) rfl) fw_Clearing_84 fc1_14 ly11 (hp.lt (a := 11) (Nat.le_of_ble_eq_true rfl) (Nat.le_of_ble_eq_true rfl)) (x := (M 11 14)) rfl ?_
      refine G_lstore (L' := [(4, .inr (.inl (M 11 14))), (3, .inl ((l1 * 3) + l2)), (0, .inr (.inr 11)), (1, .inl l1), (2, .inl l2)]) (mfx.lt mf8 (Nat.le_of_ble_eq_true rfl)) rfl (ck dc8 (i := 38) rfl) ?_
      refine G_goto (tgt := 91) (by decide) (ck dc8 (i := 39) rfl) ?_
      exact G_sub [2, 3, 4, 1, 0] rfl h
    · replace h := h.2 c
      refine G_aload_n 2 rfl rfl (ck dc8 (i := 31) rfl) ?_
      refine H_getR mf8 (ck dc8 (i := 32) rfl) fw_Clearing_22 fc1_7 ly11 (hp.lt (a := 11) (Nat.le_of_ble_eq_true rfl) (Nat.le_of_ble_eq_true rfl)) (hp.2 (11, 7, 15) (by decide)) (by decide) ?_
      refine G_iload_n 1 rfl rfl (ck dc8 (i := 33) rfl) ?_
      obtain ⟨o4, h⟩ := h
      refine H_iald (ck dc8 (i := 34) rfl) ly15 (by decide) (hp.lt (a := 15) (Nat.le_of_ble_eq_true rfl) (Nat.le_of_ble_eq_true rfl)) o4 (x := (M 15 ((l1 * 3) + l2))) rfl ?_
      obtain ⟨o5, h⟩ := h
      refine G_if_ne (tgt := 64) (by decide) o5 (ck dc8 (i := 35) rfl) (fun c => ?_) (fun c => ?_)
      · replace h := h.1 c
        refine G_iload_n 4 rfl rfl (ck dc8 (i := 40) rfl) ?_
        refine G_aload_n 2 rfl rfl (ck dc8 (i := 41) rfl) ?_
        refine H_getR mf8 (ck dc8 (i := 42) rfl) fw_Clearing_28 fc1_9 ly11 (hp.lt (a := 11) (Nat.le_of_ble_eq_true rfl) (Nat.le_of_ble_eq_true rfl)) (hp.2 (11, 9, 17) (by decide)) (by decide) ?_
        refine G_iload_n 3 rfl rfl (ck dc8 (i := 43) rfl) ?_
        refine H_iald (ck dc8 (i := 44) rfl) ly17 (by decide) (hp.lt (a := 17) (Nat.le_of_ble_eq_true rfl) (Nat.le_of_ble_eq_true rfl)) o2 (x := (M 17 l1)) rfl ?_
        refine G_icmp_ne (tgt := 91) (by decide) o1 o3 (ck dc8 (i := 45) rfl) (fun c => ?_) (fun c => ?_)
        · replace h := h.1 c
          exact G_sub [2, 3, 4, 1, 0] rfl h
        · replace h := h.2 c
          refine G_aload_n 2 rfl rfl (ck dc8 (i := 46) rfl) ?_
          refine H_getR mf8 (ck dc8 (i := 47) rfl) fw_Clearing_31 fc1_10 ly11 (hp.lt (a := 11) (Nat.le_of_ble_eq_true rfl) (Nat.le_of_ble_eq_true rfl)) (hp.2 (11, 10, 18) (by decide)) (by decide) ?_
          refine G_iload_n 3 rfl rfl (ck dc8 (i := 48) rfl) ?_
          refine H_zald (ck dc8 (i := 49) rfl) ly18 (by decide) (hp.lt (a := 18) (Nat.le_of_ble_eq_true rfl) (Nat.le_of_ble_eq_true rfl)) o2 (x := (M 18 l1)) rfl ?_
          obtain ⟨o6, h⟩ := h
          refine G_if_eq (tgt := 91) (by decide) o6 (ck dc8 (i := 50) rfl) (fun c => ?_) (fun c => ?_)
          · replace h := h.1 c
            exact G_sub [2, 3, 4, 1, 0] rfl h
          · replace h := h.2 c
            refine G_aload_n 2 rfl rfl (ck dc8 (i := 51) rfl) ?_
            refine H_getR mf8 (ck dc8 (i := 52) rfl) fw_Clearing_35 fc1_11 ly11 (hp.lt (a := 11) (Nat.le_of_ble_eq_true rfl) (Nat.le_of_ble_eq_true rfl)) (hp.2 (11, 11, 19) (by decide)) (by decide) ?_
            refine G_iload_n 3 rfl rfl (ck dc8 (i := 53) rfl) ?_
            refine H_lald (ck dc8 (i := 54) rfl) ly19 (by decide) (hp.lt (a := 19) (Nat.le_of_ble_eq_true rfl) (Nat.le_of_ble_eq_true rfl)) o2 (x := (M 19 l1)) rfl ?_
            refine G_lstore (L' := [(4, .inr (.inl (M 19 l1))), (3, .inl ((l1 * 3) + l2)), (0, .inr (.inr 11)), (1, .inl l1), (2, .inl l2)]) (mfx.lt mf8 (Nat.le_of_ble_eq_true rfl)) rfl (ck dc8 (i := 55) rfl) ?_
            exact G_sub [2, 3, 4, 1, 0] rfl h
      · replace h := h.2 c
        refine G_aload_n 2 rfl rfl (ck dc8 (i := 36) rfl) ?_
        refine H_getL mf8 (ck dc8 (i := 37) rfl) fw_Clearing_84 fc1_14 ly11 (hp.lt (a := 11) (Nat.le_of_ble_eq_true rfl) (Nat.le_of_ble_eq_true rfl)) (x := (M 11 14)) rfl ?_
        refine G_lstore (L' := [(4, .inr (.inl (M 11 14))), (3, .inl ((l1 * 3) + l2)), (0, .inr (.inr 11)), (1, .inl l1), (2, .inl l2)]) (mfx.lt mf8 (Nat.le_of_ble_eq_true rfl)) rfl (ck dc8 (i := 38) rfl) ?_
        refine G_goto (tgt := 91) (by decide) (ck dc8 (i := 39) rfl) ?_
        exact G_sub [2, 3, 4, 1, 0] rfl h
theorem g_cp_spread_91 (K : Nat) (ph : PH) (hp : phk_11 ph) (l1 l2 l3 l4 : Int) (M : PM) (Q : Option PV → PM → Prop)
    (h : (0 ≤ (((M 11 0) * 15) + l3) ∧ (((M 11 0) * 15) + l3) < 90) ∧ G none (K + 1) jClearing_spread 22 [(0, .inr (.inr 11)), (1, .inl l1), (2, .inl (l2 + 1))] [] ph ph (mset M 13 (((M 11 0) * 15) + l3) l4) Q) : G none (K + 1) jClearing_spread 91 [(0, .inr (.inr 11)), (1, .inl l1), (2, .inl l2), (3, .inl l3), (4, .inr (.inl l4))] [] ph ph M Q := by
  refine G_aload_n 0 rfl rfl (ck dc8 (i := 56) rfl) ?_
  refine H_getR mf8 (ck dc8 (i := 57) rfl) fw_Clearing_15 fc1_5 ly11 (hp.lt (a := 11) (Nat.le_of_ble_eq_true rfl) (Nat.le_of_ble_eq_true rfl)) (hp.2 (11, 5, 13) (by decide)) (by decide) ?_
  refine G_aload_n 0 rfl rfl (ck dc8 (i := 58) rfl) ?_
  refine H_getI mf8 (ck dc8 (i := 59) rfl) fw_Clearing_77 (Or.inl fc1_0) ly11 (hp.lt (a := 11) (Nat.le_of_ble_eq_true rfl) (Nat.le_of_ble_eq_true rfl)) (x := (M 11 0)) rfl ?_
  refine G_bipush (n := 15) rfl (ck dc8 (i := 60) rfl) ?_
  refine G_imul (ck dc8 (i := 61) rfl) ?_
  refine G_iload_n 3 rfl rfl (ck dc8 (i := 62) rfl) ?_
  refine G_iadd (ck dc8 (i := 63) rfl) ?_
  refine G_lload 4 rfl (ck dc8 (i := 64) rfl) ?_
  obtain ⟨o1, h⟩ := h
  refine G_last (ck dc8 (i := 65) rfl) (hp.lt (a := 13) (Nat.le_of_ble_eq_true rfl) (Nat.le_of_ble_eq_true rfl)) ly13 (by decide) o1 ?_
  refine G_iinc (L' := [(2, .inl (l2 + 1)), (0, .inr (.inr 11)), (1, .inl l1), (3, .inl l3), (4, .inr (.inl l4))]) 2 rfl (mfx.lt mf8 (Nat.le_of_ble_eq_true rfl)) rfl (ck dc8 (i := 66) rfl) ?_
  refine G_goto (tgt := 22) (by decide) (ck dc8 (i := 67) rfl) ?_
  exact G_sub [1, 2, 0] rfl h
theorem c_cp_begin (K : Nat) (ph : PH) (hp : phk_11 ph) (M : PM) (Q : Option PV → PM → Prop)
    (h : G none (K + 1) jClearing_begin 17 [(0, .inr (.inr 11)), (1, .inl 0)] [] ph ph (mset (mset (mset M 11 0 0) 11 1 0) 11 14 1) Q) : Call (K + 1) jClearing_begin [.inr (.inr 11)] ph ph M Q := by
  refine Call.intro (by decide +kernel) (mfx.le mf5 (Nat.le_of_ble_eq_true rfl)) (Nat.le_refl _) rfl ?_
  refine G_aload_n 0 rfl rfl (ck dc5 (i := 0) rfl) ?_
  refine G_iconst (ck dc5 (i := 1) rfl) ?_
  refine H_putI mf5 (ck dc5 (i := 2) rfl) fw_Clearing_77 fc1_0 ly11 (hp.lt (a := 11) (Nat.le_of_ble_eq_true rfl) (Nat.le_of_ble_eq_true rfl)) (Or.inl rfl) ?_
  refine G_aload_n 0 rfl rfl (ck dc5 (i := 3) rfl) ?_
  refine G_iconst (ck dc5 (i := 4) rfl) ?_
  refine H_putI mf5 (ck dc5 (i := 5) rfl) fw_Clearing_81 fc1_1 ly11 (hp.lt (a := 11) (Nat.le_of_ble_eq_true rfl) (Nat.le_of_ble_eq_true rfl)) (Or.inl rfl) ?_
  refine G_aload_n 0 rfl rfl (ck dc5 (i := 6) rfl) ?_
  refine G_lconst (v := 1) rfl (ck dc5 (i := 7) rfl) ?_
  refine H_putL mf5 (ck dc5 (i := 8) rfl) fw_Clearing_84 fc1_14 ly11 (hp.lt (a := 11) (Nat.le_of_ble_eq_true rfl) (Nat.le_of_ble_eq_true rfl)) (Or.inl rfl) ?_
  refine G_iconst (ck dc5 (i := 9) rfl) ?_
  refine G_istore_n (L' := [(1, .inl 0), (0, .inr (.inr 11))]) rfl (mfx.lt mf5 (Nat.le_of_ble_eq_true rfl)) rfl (ck dc5 (i := 10) rfl) ?_
  exact G_sub [1, 0] rfl h
theorem g_cp_begin_17 (K : Nat) (ph : PH) (hp : phk_11 ph) (l1 : Int) (M : PM) (Q : Option PV → PM → Prop)
    (h : R32 l1 ∧ (5 ≤ l1 → Call K jClearing_spread [.inr (.inr 11)] ph ph M (retV fun M3 => Q none M3)) ∧ (¬ 5 ≤ l1 → (0 ≤ l1 ∧ l1 < 5) ∧ G none (K + 1) jClearing_begin 59 [(0, .inr (.inr 11)), (1, .inl l1), (2, .inl 0)] [] ph ph (mset (mset (mset (mset (mset M 12 l1 0) 17 l1 3) 18 l1 0) 19 l1 0) 16 l1 0) Q)) : G none (K + 1) jClearing_begin 17 [(0, .inr (.inr 11)), (1, .inl l1)] [] ph ph M Q := by
  refine G_iload_n 1 rfl rfl (ck dc5 (i := 11) rfl) ?_
  refine G_iconst (ck dc5 (i := 12) rfl) ?_
  obtain ⟨o1, h⟩ := h
  refine G_icmp_ge (tgt := 107) (by decide) o1 (by decide) (ck dc5 (i := 13) rfl) (fun c => ?_) (fun c => ?_)
  · replace h := h.1 c
    refine G_aload_n 0 rfl rfl (ck dc5 (i := 71) rfl) ?_
    refine H_vV mf5 (As := []) (st := []) (ck dc5 (i := 72) rfl) lk_Clearing_94 rfl rfl (Nat.le_of_ble_eq_true rfl) ly11 (hp.lt (a := 11) (Nat.le_of_ble_eq_true rfl) (Nat.le_of_ble_eq_true rfl)) ⟨Nat.le_refl _, Nat.le_refl _⟩ h (fun M3 h => ?_)
    exact H_vret mf5 (ck dc5 (i := 73) rfl) rfl h
  · replace h := h.2 c
    refine G_aload_n 0 rfl rfl (ck dc5 (i := 14) rfl) ?_
    refine H_getR mf5 (ck dc5 (i := 15) rfl) fw_Clearing_9 fc1_2 ly11 (hp.lt (a := 11) (Nat.le_of_ble_eq_true rfl) (Nat.le_of_ble_eq_true rfl)) (hp.2 (11, 2, 12) (by decide)) (by decide) ?_
    refine G_iload_n 1 rfl rfl (ck dc5 (i := 16) rfl) ?_
    refine G_iconst (ck dc5 (i := 17) rfl) ?_
    obtain ⟨o4, h⟩ := h
    refine G_iast (ck dc5 (i := 18) rfl) (hp.lt (a := 12) (Nat.le_of_ble_eq_true rfl) (Nat.le_of_ble_eq_true rfl)) ly12 (by decide) o4 ?_
    refine G_aload_n 0 rfl rfl (ck dc5 (i := 19) rfl) ?_
    refine H_getR mf5 (ck dc5 (i := 20) rfl) fw_Clearing_28 fc1_9 ly11 (hp.lt (a := 11) (Nat.le_of_ble_eq_true rfl) (Nat.le_of_ble_eq_true rfl)) (hp.2 (11, 9, 17) (by decide)) (by decide) ?_
    refine G_iload_n 1 rfl rfl (ck dc5 (i := 21) rfl) ?_
    refine G_iconst (ck dc5 (i := 22) rfl) ?_
    refine G_iast (ck dc5 (i := 23) rfl) (hp.lt (a := 17) (Nat.le_of_ble_eq_true rfl) (Nat.le_of_ble_eq_true rfl)) ly17 (by decide) o4 ?_
    refine G_aload_n 0 rfl rfl (ck dc5 (i := 24) rfl) ?_
    refine H_getR mf5 (ck dc5 (i := 25) rfl) fw_Clearing_31 fc1_10 ly11 (hp.lt (a := 11) (Nat.le_of_ble_eq_true rfl) (Nat.le_of_ble_eq_true rfl)) (hp.2 (11, 10, 18) (by decide)) (by decide) ?_
    refine G_iload_n 1 rfl rfl (ck dc5 (i := 26) rfl) ?_
    refine G_iconst (ck dc5 (i := 27) rfl) ?_
    refine G_zast (ck dc5 (i := 28) rfl) (hp.lt (a := 18) (Nat.le_of_ble_eq_true rfl) (Nat.le_of_ble_eq_true rfl)) ly18 (by decide) o4 (Or.inl rfl) ?_
    refine G_aload_n 0 rfl rfl (ck dc5 (i := 29) rfl) ?_
    refine H_getR mf5 (ck dc5 (i := 30) rfl) fw_Clearing_35 fc1_11 ly11 (hp.lt (a := 11) (Nat.le_of_ble_eq_true rfl) (Nat.le_of_ble_eq_true rfl)) (hp.2 (11, 11, 19) (by decide)) (by decide) ?_
    refine G_iload_n 1 rfl rfl (ck dc5 (i := 31) rfl) ?_
    refine G_lconst (v := 0) rfl (ck dc5 (i := 32) rfl) ?_
    refine G_last (ck dc5 (i := 33) rfl) (hp.lt (a := 19) (Nat.le_of_ble_eq_true rfl) (Nat.le_of_ble_eq_true rfl)) ly19 (by decide) o4 ?_
    refine G_aload_n 0 rfl rfl (ck dc5 (i := 34) rfl) ?_
    refine H_getR mf5 (ck dc5 (i := 35) rfl) fw_Clearing_25 fc1_8 ly11 (hp.lt (a := 11) (Nat.le_of_ble_eq_true rfl) (Nat.le_of_ble_eq_true rfl)) (hp.2 (11, 8, 16) (by decide)) (by decide) ?_
    refine G_iload_n 1 rfl rfl (ck dc5 (i := 36) rfl) ?_
    refine G_iconst (ck dc5 (i := 37) rfl) ?_
    refine G_iast (ck dc5 (i := 38) rfl) (hp.lt (a := 16) (Nat.le_of_ble_eq_true rfl) (Nat.le_of_ble_eq_true rfl)) ly16 (by decide) o4 ?_
    refine G_iconst (ck dc5 (i := 39) rfl) ?_
    refine G_istore_n (L' := [(2, .inl 0), (0, .inr (.inr 11)), (1, .inl l1)]) rfl (mfx.lt mf5 (Nat.le_of_ble_eq_true rfl)) rfl (ck dc5 (i := 40) rfl) ?_
    exact G_sub [1, 2, 0] rfl h
theorem g_cp_begin_59 (K : Nat) (ph : PH) (hp : phk_11 ph) (l1 l2 : Int) (M : PM) (Q : Option PV → PM → Prop)
    (h : R32 l2 ∧ (3 ≤ l2 → G none (K + 1) jClearing_begin 17 [(0, .inr (.inr 11)), (1, .inl (l1 + 1))] [] ph ph M Q) ∧ (¬ 3 ≤ l2 → Call K jBook_dueIn [.inr (.inr 1), .inl l1, .inl l2] ph ph M (retI fun r2 M3 => (0 ≤ ((l1 * 3) + l2) ∧ ((l1 * 3) + l2) < 15) ∧ (0 ≤ l1 ∧ l1 < 5) ∧ G none (K + 1) jClearing_begin 59 [(0, .inr (.inr 11)), (1, .inl l1), (2, .inl (l2 + 1))] [] ph ph (mset (mset M3 15 ((l1 * 3) + l2) r2) 16 l1 ((M3 16 l1) + r2)) Q))) : G none (K + 1) jClearing_begin 59 [(0, .inr (.inr 11)), (1, .inl l1), (2, .inl l2)] [] ph ph M Q := by
  refine G_iload_n 2 rfl rfl (ck dc5 (i := 41) rfl) ?_
  refine G_iconst (ck dc5 (i := 42) rfl) ?_
  obtain ⟨o1, h⟩ := h
  refine G_icmp_ge (tgt := 101) (by decide) o1 (by decide) (ck dc5 (i := 43) rfl) (fun c => ?_) (fun c => ?_)
  · replace h := h.1 c
    refine G_iinc (L' := [(1, .inl (l1 + 1)), (0, .inr (.inr 11)), (2, .inl l2)]) 1 rfl (mfx.lt mf5 (Nat.le_of_ble_eq_true rfl)) rfl (ck dc5 (i := 69) rfl) ?_
    refine G_goto (tgt := 17) (by decide) (ck dc5 (i := 70) rfl) ?_
    exact G_sub [1, 0] rfl h
  · replace h := h.2 c
    refine G_aload_n 0 rfl rfl (ck dc5 (i := 44) rfl) ?_
    refine H_getR mf5 (ck dc5 (i := 45) rfl) fw_Clearing_48 fc1_3 ly11 (hp.lt (a := 11) (Nat.le_of_ble_eq_true rfl) (Nat.le_of_ble_eq_true rfl)) (hp.2 (11, 3, 1) (by decide)) (by decide) ?_
    refine G_iload_n 1 rfl rfl (ck dc5 (i := 46) rfl) ?_
    refine G_iload_n 2 rfl rfl (ck dc5 (i := 47) rfl) ?_
    refine H_vI mf5 (As := [.inl l1, .inl l2]) (st := []) (ck dc5 (i := 48) rfl) lk_Clearing_88 rfl rfl (Nat.le_of_ble_eq_true rfl) ly1 (hp.lt (a := 1) (Nat.le_of_ble_eq_true rfl) (Nat.le_of_ble_eq_true rfl)) ⟨Nat.le_refl _, Nat.le_refl _⟩ h (fun r2 M3 h => ?_)
    refine G_istore_n (L' := [(3, .inl r2), (0, .inr (.inr 11)), (1, .inl l1), (2, .inl l2)]) rfl (mfx.lt mf5 (Nat.le_of_ble_eq_true rfl)) rfl (ck dc5 (i := 49) rfl) ?_
    refine G_aload_n 1 rfl rfl (ck dc5 (i := 50) rfl) ?_
    refine H_getR mf5 (ck dc5 (i := 51) rfl) fw_Clearing_22 fc1_7 ly11 (hp.lt (a := 11) (Nat.le_of_ble_eq_true rfl) (Nat.le_of_ble_eq_true rfl)) (hp.2 (11, 7, 15) (by decide)) (by decide) ?_
    refine G_iload_n 2 rfl rfl (ck dc5 (i := 52) rfl) ?_
    refine G_iconst (ck dc5 (i := 53) rfl) ?_
    refine G_imul (ck dc5 (i := 54) rfl) ?_
    refine G_iload_n 3 rfl rfl (ck dc5 (i := 55) rfl) ?_
    refine G_iadd (ck dc5 (i := 56) rfl) ?_
    refine G_iload_n 0 rfl rfl (ck dc5 (i := 57) rfl) ?_
    obtain ⟨o4, h⟩ := h
    refine G_iast (ck dc5 (i := 58) rfl) (hp.lt (a := 15) (Nat.le_of_ble_eq_true rfl) (Nat.le_of_ble_eq_true rfl)) ly15 (by decide) o4 ?_
    refine G_aload_n 1 rfl rfl (ck dc5 (i := 59) rfl) ?_
    refine H_getR mf5 (ck dc5 (i := 60) rfl) fw_Clearing_25 fc1_8 ly11 (hp.lt (a := 11) (Nat.le_of_ble_eq_true rfl) (Nat.le_of_ble_eq_true rfl)) (hp.2 (11, 8, 16) (by decide)) (by decide) ?_
    refine G_iload_n 2 rfl rfl (ck dc5 (i := 61) rfl) ?_
    refine G_dup2 rfl rfl (ck dc5 (i := 62) rfl) ?_
    obtain ⟨o5, h⟩ := h
    refine H_iald (ck dc5 (i := 63) rfl) ly16 (by decide) (hp.lt (a := 16) (Nat.le_of_ble_eq_true rfl) (Nat.le_of_ble_eq_true rfl)) o5 (x := (M3 16 l1)) (by simp [mset, mcpy, mclr]) ?_
    refine G_iload_n 0 rfl rfl (ck dc5 (i := 64) rfl) ?_
    refine G_iadd (ck dc5 (i := 65) rfl) ?_
    refine G_iast (ck dc5 (i := 66) rfl) (hp.lt (a := 16) (Nat.le_of_ble_eq_true rfl) (Nat.le_of_ble_eq_true rfl)) ly16 (by decide) o5 ?_
    refine G_iinc (L' := [(2, .inl (l2 + 1)), (3, .inl r2), (0, .inr (.inr 11)), (1, .inl l1)]) 3 rfl (mfx.lt mf5 (Nat.le_of_ble_eq_true rfl)) rfl (ck dc5 (i := 67) rfl) ?_
    refine G_goto (tgt := 59) (by decide) (ck dc5 (i := 68) rfl) ?_
    exact G_sub [2, 3, 0] rfl h
theorem c_cp_fell (K : Nat) (a1 : Int) (M : PM) (Q : Option PV → PM → Prop)
    (h : R32 (bAnd (bShr (M 11 1) a1) 1) ∧ ((bAnd (bShr (M 11 1) a1) 1) = 0 → Q (some (.inl 0)) M) ∧ (¬ (bAnd (bShr (M 11 1) a1) 1) = 0 → Q (some (.inl 1)) M)) : Call (K + 1) jClearing_fell [.inr (.inr 11), .inl a1] P0 P0 M Q := by
  refine Call.intro (by decide +kernel) (mfx.le mf43 (Nat.le_of_ble_eq_true rfl)) (Nat.le_refl _) rfl ?_
  refine G_aload_n 0 rfl rfl (ck dc43 (i := 0) rfl) ?_
  refine H_getI mf43 (ck dc43 (i := 1) rfl) fw_Clearing_81 (Or.inl fc1_1) ly11 ra11 (x := (M 11 1)) rfl ?_
  refine G_iload_n 1 rfl rfl (ck dc43 (i := 2) rfl) ?_
  refine G_ishr (ck dc43 (i := 3) rfl) ?_
  refine G_iconst (ck dc43 (i := 4) rfl) ?_
  refine G_iand (ck dc43 (i := 5) rfl) ?_
  obtain ⟨o1, h⟩ := h
  refine G_if_eq (tgt := 15) (by decide) o1 (ck dc43 (i := 6) rfl) (fun c => ?_) (fun c => ?_)
  · replace h := h.1 c
    refine G_iconst (ck dc43 (i := 9) rfl) ?_
    exact H_iretZ mf43 (ck dc43 (i := 10) rfl) rfl (Or.inl rfl) h
  · replace h := h.2 c
    refine G_iconst (ck dc43 (i := 7) rfl) ?_
    refine G_goto (tgt := 16) (by decide) (ck dc43 (i := 8) rfl) ?_
    exact H_iretZ mf43 (ck dc43 (i := 10) rfl) rfl (Or.inr rfl) h
theorem c_cp_income (K : Nat) (a1 a2 : Int) (M : PM) (Q : Option PV → PM → Prop)
    (h : G none (K + 1) jClearing_income 5 [(0, .inr (.inr 11)), (1, .inl a1), (2, .inl a2), (3, .inr (.inl 0)), (5, .inl 0)] [] P0 P0 M Q) : Call (K + 1) jClearing_income [.inr (.inr 11), .inl a1, .inl a2] P0 P0 M Q := by
  refine Call.intro (by decide +kernel) (mfx.le mf45 (Nat.le_of_ble_eq_true rfl)) (Nat.le_refl _) rfl ?_
  refine G_lconst (v := 0) rfl (ck dc45 (i := 0) rfl) ?_
  refine G_lstore_n (L' := [(3, .inr (.inl 0)), (0, .inr (.inr 11)), (1, .inl a1), (2, .inl a2)]) rfl (mfx.lt mf45 (Nat.le_of_ble_eq_true rfl)) rfl (ck dc45 (i := 1) rfl) ?_
  refine G_iconst (ck dc45 (i := 2) rfl) ?_
  refine G_istore (L' := [(5, .inl 0), (3, .inr (.inl 0)), (0, .inr (.inr 11)), (1, .inl a1), (2, .inl a2)]) (mfx.lt mf45 (Nat.le_of_ble_eq_true rfl)) rfl (ck dc45 (i := 3) rfl) ?_
  exact G_sub [2, 3, 4, 1, 0] rfl h
theorem g_cp_income_5 (K : Nat) (l1 l2 l3 l5 : Int) (M : PM) (Q : Option PV → PM → Prop)
    (h : R32 l5 ∧ R32 (M 1 0) ∧ ((M 1 0) ≤ l5 → Q (some (.inr (.inl l3))) M) ∧ (¬ (M 1 0) ≤ l5 → G none (K + 1) jClearing_income 40 [(0, .inr (.inr 11)), (1, .inl l1), (2, .inl l2), (3, .inr (.inl l3)), (5, .inl l5), (6, .inl (((l5 * 5) + l2) * 3)), (7, .inl (((l1 * 5) + l5) * 3)), (8, .inl 0)] [] P0 P0 M Q)) : G none (K + 1) jClearing_income 5 [(0, .inr (.inr 11)), (1, .inl l1), (2, .inl l2), (3, .inr (.inl l3)), (5, .inl l5)] [] P0 P0 M Q := by
  refine G_iload 4 rfl (ck dc45 (i := 4) rfl) ?_
  refine G_aload_n 0 rfl rfl (ck dc45 (i := 5) rfl) ?_
  refine H_getR mf45 (ck dc45 (i := 6) rfl) fw_Clearing_48 fc1_3 ly11 ra11 rf11_3 (by decide) ?_
  refine H_getI mf45 (ck dc45 (i := 7) rfl) fw_Clearing_109 (Or.inl fc0_0) ly1 ra1 (x := (M 1 0)) rfl ?_
  obtain ⟨o1, h⟩ := h
  obtain ⟨o2, h⟩ := h
  refine G_icmp_ge (tgt := 86) (by decide) o1 o2 (ck dc45 (i := 8) rfl) (fun c => ?_) (fun c => ?_)
  · replace h := h.1 c
    refine G_lload_n 3 rfl rfl (ck dc45 (i := 52) rfl) ?_
    exact H_lret mf45 (ck dc45 (i := 53) rfl) rfl h
  · replace h := h.2 c
    refine G_iload 4 rfl (ck dc45 (i := 9) rfl) ?_
    refine G_iconst (ck dc45 (i := 10) rfl) ?_
    refine G_imul (ck dc45 (i := 11) rfl) ?_
    refine G_iload_n 2 rfl rfl (ck dc45 (i := 12) rfl) ?_
    refine G_iadd (ck dc45 (i := 13) rfl) ?_
    refine G_iconst (ck dc45 (i := 14) rfl) ?_
    refine G_imul (ck dc45 (i := 15) rfl) ?_
    refine G_istore (L' := [(6, .inl (((l5 * 5) + l2) * 3)), (0, .inr (.inr 11)), (1, .inl l1), (2, .inl l2), (3, .inr (.inl l3)), (5, .inl l5)]) (mfx.lt mf45 (Nat.le_of_ble_eq_true rfl)) rfl (ck dc45 (i := 16) rfl) ?_
    refine G_iload_n 2 rfl rfl (ck dc45 (i := 17) rfl) ?_
    refine G_iconst (ck dc45 (i := 18) rfl) ?_
    refine G_imul (ck dc45 (i := 19) rfl) ?_
    refine G_iload 5 rfl (ck dc45 (i := 20) rfl) ?_
    refine G_iadd (ck dc45 (i := 21) rfl) ?_
    refine G_iconst (ck dc45 (i := 22) rfl) ?_
    refine G_imul (ck dc45 (i := 23) rfl) ?_
    refine G_istore (L' := [(7, .inl (((l1 * 5) + l5) * 3)), (6, .inl (((l5 * 5) + l2) * 3)), (0, .inr (.inr 11)), (1, .inl l1), (2, .inl l2), (3, .inr (.inl l3)), (5, .inl l5)]) (mfx.lt mf45 (Nat.le_of_ble_eq_true rfl)) rfl (ck dc45 (i := 24) rfl) ?_
    refine G_iconst (ck dc45 (i := 25) rfl) ?_
    refine G_istore (L' := [(8, .inl 0), (7, .inl (((l1 * 5) + l5) * 3)), (6, .inl (((l5 * 5) + l2) * 3)), (0, .inr (.inr 11)), (1, .inl l1), (2, .inl l2), (3, .inr (.inl l3)), (5, .inl l5)]) (mfx.lt mf45 (Nat.le_of_ble_eq_true rfl)) rfl (ck dc45 (i := 26) rfl) ?_
    exact G_sub [3, 4, 5, 6, 7, 2, 1, 0] rfl h
theorem g_cp_income_40 (K : Nat) (l1 l2 l3 l5 l6 l7 l8 : Int) (M : PM) (Q : Option PV → PM → Prop)
    (h : R32 l8 ∧ (3 ≤ l8 → G none (K + 1) jClearing_income 5 [(0, .inr (.inr 11)), (1, .inl l1), (2, .inl l2), (3, .inr (.inl l3)), (5, .inl (l5 + 1))] [] P0 P0 M Q) ∧ (¬ 3 ≤ l8 → (0 ≤ (l6 + l8) ∧ (l6 + l8) < 75) ∧ R32 (M 3 (l6 + l8)) ∧ (0 ≤ (l7 + l8) ∧ (l7 + l8) < 90) ∧ G none (K + 1) jClearing_income 40 [(0, .inr (.inr 11)), (1, .inl l1), (2, .inl l2), (3, .inr (.inl (l3 + ((M 3 (l6 + l8)) * (M 13 (l7 + l8)))))), (5, .inl l5), (6, .inl l6), (7, .inl l7), (8, .inl (l8 + 1))] [] P0 P0 M Q)) : G none (K + 1) jClearing_income 40 [(0, .inr (.inr 11)), (1, .inl l1), (2, .inl l2), (3, .inr (.inl l3)), (5, .inl l5), (6, .inl l6), (7, .inl l7), (8, .inl l8)] [] P0 P0 M Q := by
  refine G_iload 7 rfl (ck dc45 (i := 27) rfl) ?_
  refine G_iconst (ck dc45 (i := 28) rfl) ?_
  obtain ⟨o1, h⟩ := h
  refine G_icmp_ge (tgt := 80) (by decide) o1 (by decide) (ck dc45 (i := 29) rfl) (fun c => ?_) (fun c => ?_)
  · replace h := h.1 c
    refine G_iinc (L' := [(5, .inl (l5 + 1)), (0, .inr (.inr 11)), (1, .inl l1), (2, .inl l2), (3, .inr (.inl l3)), (6, .inl l6), (7, .inl l7), (8, .inl l8)]) 4 rfl (mfx.lt mf45 (Nat.le_of_ble_eq_true rfl)) rfl (ck dc45 (i := 50) rfl) ?_
    refine G_goto (tgt := 5) (by decide) (ck dc45 (i := 51) rfl) ?_
    exact G_sub [1, 2, 3, 4, 0] rfl h
  · replace h := h.2 c
    refine G_lload_n 3 rfl rfl (ck dc45 (i := 30) rfl) ?_
    refine G_aload_n 0 rfl rfl (ck dc45 (i := 31) rfl) ?_
    refine H_getR mf45 (ck dc45 (i := 32) rfl) fw_Clearing_48 fc1_3 ly11 ra11 rf11_3 (by decide) ?_
    refine H_getR mf45 (ck dc45 (i := 33) rfl) fw_Clearing_170 fc0_4 ly1 ra1 rf1_4 (by decide) ?_
    refine G_iload 5 rfl (ck dc45 (i := 34) rfl) ?_
    refine G_iload 7 rfl (ck dc45 (i := 35) rfl) ?_
    refine G_iadd (ck dc45 (i := 36) rfl) ?_
    obtain ⟨o2, h⟩ := h
    refine H_iald (ck dc45 (i := 37) rfl) ly3 (by decide) ra3 o2 (x := (M 3 (l6 + l8))) rfl ?_
    obtain ⟨o3, h⟩ := h
    refine G_i2l o3 (ck dc45 (i := 38) rfl) ?_
    refine G_aload_n 0 rfl rfl (ck dc45 (i := 39) rfl) ?_
    refine H_getR mf45 (ck dc45 (i := 40) rfl) fw_Clearing_15 fc1_5 ly11 ra11 rf11_5 (by decide) ?_
    refine G_iload 6 rfl (ck dc45 (i := 41) rfl) ?_
    refine G_iload 7 rfl (ck dc45 (i := 42) rfl) ?_
    refine G_iadd (ck dc45 (i := 43) rfl) ?_
    obtain ⟨o4, h⟩ := h
    refine H_lald (ck dc45 (i := 44) rfl) ly13 (by decide) ra13 o4 (x := (M 13 (l7 + l8))) rfl ?_
    refine G_lmul (ck dc45 (i := 45) rfl) ?_
    refine G_ladd (ck dc45 (i := 46) rfl) ?_
    refine G_lstore_n (L' := [(3, .inr (.inl (l3 + ((M 3 (l6 + l8)) * (M 13 (l7 + l8)))))), (0, .inr (.inr 11)), (1, .inl l1), (2, .inl l2), (5, .inl l5), (6, .inl l6), (7, .inl l7), (8, .inl l8)]) rfl (mfx.lt mf45 (Nat.le_of_ble_eq_true rfl)) rfl (ck dc45 (i := 47) rfl) ?_
    refine G_iinc (L' := [(8, .inl (l8 + 1)), (3, .inr (.inl (l3 + ((M 3 (l6 + l8)) * (M 13 (l7 + l8)))))), (0, .inr (.inr 11)), (1, .inl l1), (2, .inl l2), (5, .inl l5), (6, .inl l6), (7, .inl l7)]) 7 rfl (mfx.lt mf45 (Nat.le_of_ble_eq_true rfl)) rfl (ck dc45 (i := 48) rfl) ?_
    refine G_goto (tgt := 40) (by decide) (ck dc45 (i := 49) rfl) ?_
    exact G_sub [2, 3, 4, 1, 5, 6, 7, 0] rfl h
theorem c_cp_restTenths (K : Nat) (a1 : Int) (M : PM) (Q : Option PV → PM → Prop)
    (h : R32 (M 1 1) ∧ (0 ≤ a1 ∧ a1 < 5) ∧ R32 (M 2 a1) ∧ R32 (M 1 2) ∧ Call K jClearing_income [.inr (.inr 11), .inl (M 11 0), .inl a1] P0 P0 M (retL fun r5 M6 => Q (some (.inr (.inl ((((M 11 14) * (M 1 1)) * (M 2 a1)) + ((M 1 2) * r5))))) M6)) : Call (K + 1) jClearing_restTenths [.inr (.inr 11), .inl a1] P0 P0 M Q := by
  refine Call.intro (by decide +kernel) (mfx.le mf44 (Nat.le_of_ble_eq_true rfl)) (Nat.le_refl _) rfl ?_
  refine G_aload_n 0 rfl rfl (ck dc44 (i := 0) rfl) ?_
  refine H_getL mf44 (ck dc44 (i := 1) rfl) fw_Clearing_84 fc1_14 ly11 ra11 (x := (M 11 14)) rfl ?_
  refine G_aload_n 0 rfl rfl (ck dc44 (i := 2) rfl) ?_
  refine H_getR mf44 (ck dc44 (i := 3) rfl) fw_Clearing_48 fc1_3 ly11 ra11 rf11_3 (by decide) ?_
  refine H_getI mf44 (ck dc44 (i := 4) rfl) fw_Clearing_97 (Or.inl fc0_1) ly1 ra1 (x := (M 1 1)) rfl ?_
  obtain ⟨o1, h⟩ := h
  refine G_i2l o1 (ck dc44 (i := 5) rfl) ?_
  refine G_lmul (ck dc44 (i := 6) rfl) ?_
  refine G_aload_n 0 rfl rfl (ck dc44 (i := 7) rfl) ?_
  refine H_getR mf44 (ck dc44 (i := 8) rfl) fw_Clearing_52 fc1_4 ly11 ra11 rf11_4 (by decide) ?_
  refine G_iload_n 1 rfl rfl (ck dc44 (i := 9) rfl) ?_
  obtain ⟨o2, h⟩ := h
  refine H_iald (ck dc44 (i := 10) rfl) ly2 (by decide) ra2 o2 (x := (M 2 a1)) rfl ?_
  obtain ⟨o3, h⟩ := h
  refine G_i2l o3 (ck dc44 (i := 11) rfl) ?_
  refine G_lmul (ck dc44 (i := 12) rfl) ?_
  refine G_aload_n 0 rfl rfl (ck dc44 (i := 13) rfl) ?_
  refine H_getR mf44 (ck dc44 (i := 14) rfl) fw_Clearing_48 fc1_3 ly11 ra11 rf11_3 (by decide) ?_
  refine H_getI mf44 (ck dc44 (i := 15) rfl) fw_Clearing_100 (Or.inl fc0_2) ly1 ra1 (x := (M 1 2)) rfl ?_
  obtain ⟨o4, h⟩ := h
  refine G_i2l o4 (ck dc44 (i := 16) rfl) ?_
  refine G_aload_n 0 rfl rfl (ck dc44 (i := 17) rfl) ?_
  refine G_aload_n 0 rfl rfl (ck dc44 (i := 18) rfl) ?_
  refine H_getI mf44 (ck dc44 (i := 19) rfl) fw_Clearing_77 (Or.inl fc1_0) ly11 ra11 (x := (M 11 0)) rfl ?_
  refine G_iload_n 1 rfl rfl (ck dc44 (i := 20) rfl) ?_
  refine H_vL mf44 (As := [.inl (M 11 0), .inl a1]) (st := [.inr (.inl (M 1 2)), .inr (.inl (((M 11 14) * (M 1 1)) * (M 2 a1)))]) (ck dc44 (i := 21) rfl) lk_Clearing_103 rfl rfl (Nat.le_of_ble_eq_true rfl) ly11 ra11 ⟨Nat.le_refl _, Nat.le_refl _⟩ h (fun r5 M6 h => ?_)
  refine G_lmul (ck dc44 (i := 22) rfl) ?_
  refine G_ladd (ck dc44 (i := 23) rfl) ?_
  exact H_lret mf44 (ck dc44 (i := 24) rfl) rfl h
theorem c_cp_heldTenths (K : Nat) (a1 : Int) (M : PM) (Q : Option PV → PM → Prop)
    (h : G none (K + 1) jClearing_heldTenths 4 [(0, .inr (.inr 11)), (1, .inl a1), (2, .inl 0), (3, .inl 0)] [] P0 P0 M Q) : Call (K + 1) jClearing_heldTenths [.inr (.inr 11), .inl a1] P0 P0 M Q := by
  refine Call.intro (by decide +kernel) (mfx.le mf46 (Nat.le_of_ble_eq_true rfl)) (Nat.le_refl _) rfl ?_
  refine G_iconst (ck dc46 (i := 0) rfl) ?_
  refine G_istore_n (L' := [(2, .inl 0), (0, .inr (.inr 11)), (1, .inl a1)]) rfl (mfx.lt mf46 (Nat.le_of_ble_eq_true rfl)) rfl (ck dc46 (i := 1) rfl) ?_
  refine G_iconst (ck dc46 (i := 2) rfl) ?_
  refine G_istore_n (L' := [(3, .inl 0), (2, .inl 0), (0, .inr (.inr 11)), (1, .inl a1)]) rfl (mfx.lt mf46 (Nat.le_of_ble_eq_true rfl)) rfl (ck dc46 (i := 3) rfl) ?_
  exact G_sub [2, 3, 1, 0] rfl h
theorem g_cp_heldTenths_4 (K : Nat) (l1 l2 l3 : Int) (M : PM) (Q : Option PV → PM → Prop)
    (h : (0 ≤ l1 ∧ l1 < 5) ∧ R32 l3 ∧ R32 (M 17 l1) ∧ ((M 17 l1) ≤ l3 → R32 l2 ∧ Q (some (.inr (.inl (((M 11 14) * 10) * l2)))) M) ∧ (¬ (M 17 l1) ≤ l3 → (0 ≤ ((l1 * 3) + l3) ∧ ((l1 * 3) + l3) < 15) ∧ G none (K + 1) jClearing_heldTenths 4 [(0, .inr (.inr 11)), (1, .inl l1), (2, .inl (l2 + (M 15 ((l1 * 3) + l3)))), (3, .inl (l3 + 1))] [] P0 P0 M Q)) : G none (K + 1) jClearing_heldTenths 4 [(0, .inr (.inr 11)), (1, .inl l1), (2, .inl l2), (3, .inl l3)] [] P0 P0 M Q := by
  refine G_iload_n 3 rfl rfl (ck dc46 (i := 4) rfl) ?_
  refine G_aload_n 0 rfl rfl (ck dc46 (i := 5) rfl) ?_
  refine H_getR mf46 (ck dc46 (i := 6) rfl) fw_Clearing_28 fc1_9 ly11 ra11 rf11_9 (by decide) ?_
  refine G_iload_n 1 rfl rfl (ck dc46 (i := 7) rfl) ?_
  obtain ⟨o1, h⟩ := h
  refine H_iald (ck dc46 (i := 8) rfl) ly17 (by decide) ra17 o1 (x := (M 17 l1)) rfl ?_
  obtain ⟨o2, h⟩ := h
  obtain ⟨o3, h⟩ := h
  refine G_icmp_ge (tgt := 33) (by decide) o2 o3 (ck dc46 (i := 9) rfl) (fun c => ?_) (fun c => ?_)
  · replace h := h.1 c
    refine G_aload_n 0 rfl rfl (ck dc46 (i := 23) rfl) ?_
    refine H_getL mf46 (ck dc46 (i := 24) rfl) fw_Clearing_84 fc1_14 ly11 ra11 (x := (M 11 14)) rfl ?_
    refine H_ldc2 mf46 (v := 10) (ck dc46 (i := 25) rfl) kl_Clearing_107 ?_
    refine G_lmul (ck dc46 (i := 26) rfl) ?_
    refine G_iload_n 2 rfl rfl (ck dc46 (i := 27) rfl) ?_
    obtain ⟨o4, h⟩ := h
    refine G_i2l o4 (ck dc46 (i := 28) rfl) ?_
    refine G_lmul (ck dc46 (i := 29) rfl) ?_
    exact H_lret mf46 (ck dc46 (i := 30) rfl) rfl h
  · replace h := h.2 c
    refine G_iload_n 2 rfl rfl (ck dc46 (i := 10) rfl) ?_
    refine G_aload_n 0 rfl rfl (ck dc46 (i := 11) rfl) ?_
    refine H_getR mf46 (ck dc46 (i := 12) rfl) fw_Clearing_22 fc1_7 ly11 ra11 rf11_7 (by decide) ?_
    refine G_iload_n 1 rfl rfl (ck dc46 (i := 13) rfl) ?_
    refine G_iconst (ck dc46 (i := 14) rfl) ?_
    refine G_imul (ck dc46 (i := 15) rfl) ?_
    refine G_iload_n 3 rfl rfl (ck dc46 (i := 16) rfl) ?_
    refine G_iadd (ck dc46 (i := 17) rfl) ?_
    obtain ⟨o5, h⟩ := h
    refine H_iald (ck dc46 (i := 18) rfl) ly15 (by decide) ra15 o5 (x := (M 15 ((l1 * 3) + l3))) rfl ?_
    refine G_iadd (ck dc46 (i := 19) rfl) ?_
    refine G_istore_n (L' := [(2, .inl (l2 + (M 15 ((l1 * 3) + l3)))), (0, .inr (.inr 11)), (1, .inl l1), (3, .inl l3)]) rfl (mfx.lt mf46 (Nat.le_of_ble_eq_true rfl)) rfl (ck dc46 (i := 20) rfl) ?_
    refine G_iinc (L' := [(3, .inl (l3 + 1)), (2, .inl (l2 + (M 15 ((l1 * 3) + l3)))), (0, .inr (.inr 11)), (1, .inl l1)]) 3 rfl (mfx.lt mf46 (Nat.le_of_ble_eq_true rfl)) rfl (ck dc46 (i := 21) rfl) ?_
    refine G_goto (tgt := 4) (by decide) (ck dc46 (i := 22) rfl) ?_
    exact G_sub [2, 3, 1, 0] rfl h
theorem c_cp_sinking (K : Nat) (M : PM) (Q : Option PV → PM → Prop)
    (h : G none (K + 1) jClearing_sinking 4 [(0, .inr (.inr 11)), (1, .inl 0), (2, .inl 0)] [] P0 P0 M Q) : Call (K + 1) jClearing_sinking [.inr (.inr 11)] P0 P0 M Q := by
  refine Call.intro (by decide +kernel) (mfx.le mf42 (Nat.le_of_ble_eq_true rfl)) (Nat.le_refl _) rfl ?_
  refine G_iconst (ck dc42 (i := 0) rfl) ?_
  refine G_istore_n (L' := [(1, .inl 0), (0, .inr (.inr 11))]) rfl (mfx.lt mf42 (Nat.le_of_ble_eq_true rfl)) rfl (ck dc42 (i := 1) rfl) ?_
  refine G_iconst (ck dc42 (i := 2) rfl) ?_
  refine G_istore_n (L' := [(2, .inl 0), (1, .inl 0), (0, .inr (.inr 11))]) rfl (mfx.lt mf42 (Nat.le_of_ble_eq_true rfl)) rfl (ck dc42 (i := 3) rfl) ?_
  exact G_sub [2, 1, 0] rfl h
set_option maxHeartbeats 20000000 in
theorem g_cp_sinking_4 (K : Nat) (l1 l2 : Int) (M : PM) (Q : Option PV → PM → Prop)
    (h : R32 l2 ∧ R32 (M 1 0) ∧ ((M 1 0) ≤ l2 → Q (some (.inl l1)) M) ∧ (¬ (M 1 0) ≤ l2 → Call K jClearing_fell [.inr (.inr 11), .inl l2] P0 P0 M (retI fun r3 M4 => R32 r3 ∧ (r3 = 0 → G none (K + 1) jClearing_sinking 4 [(0, .inr (.inr 11)), (1, .inl l1), (2, .inl (l2 + 1))] [] P0 P0 M4 Q) ∧ (¬ r3 = 0 → (0 ≤ l2 ∧ l2 < 5) ∧ R32 (M4 18 l2) ∧ (¬ (M4 18 l2) = 0 → G none (K + 1) jClearing_sinking 4 [(0, .inr (.inr 11)), (1, .inl l1), (2, .inl (l2 + 1))] [] P0 P0 M4 Q) ∧ ((M4 18 l2) = 0 → Call K jClearing_restTenths [.inr (.inr 11), .inl l2] P0 P0 M4 (retL fun r8 M9 => Call K jClearing_heldTenths [.inr (.inr 11), .inl l2] P0 P0 M9 (retL fun r10 M11 => R64 r8 ∧ R64 r10 ∧ (r10 ≤ r8 → G none (K + 1) jClearing_sinking 4 [(0, .inr (.inr 11)), (1, .inl l1), (2, .inl (l2 + 1))] [] P0 P0 M11 Q) ∧ (¬ r10 ≤ r8 → G none (K + 1) jClearing_sinking 4 [(0, .inr (.inr 11)), (1, .inl (bOr l1 (bShl 1 l2))), (2, .inl (l2 + 1))] [] P0 P0 M11 Q)))))))) : G none (K + 1) jClearing_sinking 4 [(0, .inr (.inr 11)), (1, .inl l1), (2, .inl l2)] [] P0 P0 M Q := by
  refine G_iload_n 2 rfl rfl (ck dc42 (i := 4) rfl) ?_
  refine G_aload_n 0 rfl rfl (ck dc42 (i := 5) rfl) ?_
  refine H_getR mf42 (ck dc42 (i := 6) rfl) fw_Clearing_48 fc1_3 ly11 ra11 rf11_3 (by decide) ?_
  refine H_getI mf42 (ck dc42 (i := 7) rfl) fw_Clearing_109 (Or.inl fc0_0) ly1 ra1 (x := (M 1 0)) rfl ?_
  obtain ⟨o1, h⟩ := h
  obtain ⟨o2, h⟩ := h
  refine G_icmp_ge (tgt := 58) (by decide) o1 o2 (ck dc42 (i := 8) rfl) (fun c => ?_) (fun c => ?_)
  · replace h := h.1 c
    refine G_iload_n 1 rfl rfl (ck dc42 (i := 34) rfl) ?_
    exact H_iretI mf42 (ck dc42 (i := 35) rfl) rfl h
  · replace h := h.2 c
    refine G_aload_n 0 rfl rfl (ck dc42 (i := 9) rfl) ?_
    refine G_iload_n 2 rfl rfl (ck dc42 (i := 10) rfl) ?_
    refine H_vZ mf42 (As := [.inl l2]) (st := []) (ck dc42 (i := 11) rfl) lk_Clearing_112 rfl rfl (Nat.le_of_ble_eq_true rfl) ly11 ra11 ⟨Nat.le_refl _, Nat.le_refl _⟩ h (fun r3 M4 h => ?_)
    obtain ⟨o5, h⟩ := h
    refine G_if_eq (tgt := 52) (by decide) o5 (ck dc42 (i := 12) rfl) (fun c => ?_) (fun c => ?_)
    · replace h := h.1 c
      refine G_iinc (L' := [(2, .inl (l2 + 1)), (0, .inr (.inr 11)), (1, .inl l1)]) 2 rfl (mfx.lt mf42 (Nat.le_of_ble_eq_true rfl)) rfl (ck dc42 (i := 32) rfl) ?_
      refine G_goto (tgt := 4) (by decide) (ck dc42 (i := 33) rfl) ?_
      exact G_sub [1, 2, 0] rfl h
    · replace h := h.2 c
      refine G_aload_n 0 rfl rfl (ck dc42 (i := 13) rfl) ?_
      refine H_getR mf42 (ck dc42 (i := 14) rfl) fw_Clearing_31 fc1_10 ly11 ra11 rf11_10 (by decide) ?_
      refine G_iload_n 2 rfl rfl (ck dc42 (i := 15) rfl) ?_
      obtain ⟨o6, h⟩ := h
      refine H_zald (ck dc42 (i := 16) rfl) ly18 (by decide) ra18 o6 (x := (M4 18 l2)) rfl ?_
      obtain ⟨o7, h⟩ := h
      refine G_if_ne (tgt := 52) (by decide) o7 (ck dc42 (i := 17) rfl) (fun c => ?_) (fun c => ?_)
      · replace h := h.1 c
        refine G_iinc (L' := [(2, .inl (l2 + 1)), (0, .inr (.inr 11)), (1, .inl l1)]) 2 rfl (mfx.lt mf42 (Nat.le_of_ble_eq_true rfl)) rfl (ck dc42 (i := 32) rfl) ?_
        refine G_goto (tgt := 4) (by decide) (ck dc42 (i := 33) rfl) ?_
        exact G_sub [1, 2, 0] rfl h
      · replace h := h.2 c
        refine G_aload_n 0 rfl rfl (ck dc42 (i := 18) rfl) ?_
        refine G_iload_n 2 rfl rfl (ck dc42 (i := 19) rfl) ?_
        refine H_vL mf42 (As := [.inl l2]) (st := []) (ck dc42 (i := 20) rfl) lk_Clearing_116 rfl rfl (Nat.le_of_ble_eq_true rfl) ly11 ra11 ⟨Nat.le_refl _, Nat.le_refl _⟩ h (fun r8 M9 h => ?_)
        refine G_aload_n 0 rfl rfl (ck dc42 (i := 21) rfl) ?_
        refine G_iload_n 2 rfl rfl (ck dc42 (i := 22) rfl) ?_
        refine H_vL mf42 (As := [.inl l2]) (st := [.inr (.inl r8)]) (ck dc42 (i := 23) rfl) lk_Clearing_120 rfl rfl (Nat.le_of_ble_eq_true rfl) ly11 ra11 ⟨Nat.le_refl _, Nat.le_refl _⟩ h (fun r10 M11 h => ?_)
        obtain ⟨o12, h⟩ := h
        obtain ⟨o13, h⟩ := h
        refine G_lif_ge (tgt := 52) (ck dc42 (i := 25) rfl) (by decide) o12 o13 (ck dc42 (i := 24) rfl) (fun c => ?_) (fun c => ?_)
        · replace h := h.1 c
          refine G_iinc (L' := [(2, .inl (l2 + 1)), (0, .inr (.inr 11)), (1, .inl l1)]) 2 rfl (mfx.lt mf42 (Nat.le_of_ble_eq_true rfl)) rfl (ck dc42 (i := 32) rfl) ?_
          refine G_goto (tgt := 4) (by decide) (ck dc42 (i := 33) rfl) ?_
          exact G_sub [1, 2, 0] rfl h
        · replace h := h.2 c
          refine G_iload_n 1 rfl rfl (ck dc42 (i := 26) rfl) ?_
          refine G_iconst (ck dc42 (i := 27) rfl) ?_
          refine G_iload_n 2 rfl rfl (ck dc42 (i := 28) rfl) ?_
          refine G_ishl (ck dc42 (i := 29) rfl) ?_
          refine G_ior (ck dc42 (i := 30) rfl) ?_
          refine G_istore_n (L' := [(1, .inl (bOr l1 (bShl 1 l2))), (0, .inr (.inr 11)), (2, .inl l2)]) rfl (mfx.lt mf42 (Nat.le_of_ble_eq_true rfl)) rfl (ck dc42 (i := 31) rfl) ?_
          refine G_iinc (L' := [(2, .inl (l2 + 1)), (1, .inl (bOr l1 (bShl 1 l2))), (0, .inr (.inr 11))]) 2 rfl (mfx.lt mf42 (Nat.le_of_ble_eq_true rfl)) rfl (ck dc42 (i := 32) rfl) ?_
          refine G_goto (tgt := 4) (by decide) (ck dc42 (i := 33) rfl) ?_
          exact G_sub [2, 1, 0] rfl h
theorem c_cp_keepRound (K : Nat) (M : PM) (Q : Option PV → PM → Prop)
    (h : G none (K + 1) jClearing_keepRound 7 [(0, .inr (.inr 11)), (1, .inr (.inl (M 11 14))), (3, .inl 0)] [] P0 P0 M Q) : Call (K + 1) jClearing_keepRound [.inr (.inr 11)] P0 P0 M Q := by
  refine Call.intro (by decide +kernel) (mfx.le mf61 (Nat.le_of_ble_eq_true rfl)) (Nat.le_refl _) rfl ?_
  refine G_aload_n 0 rfl rfl (ck dc61 (i := 0) rfl) ?_
  refine H_getL mf61 (ck dc61 (i := 1) rfl) fw_Clearing_84 fc1_14 ly11 ra11 (x := (M 11 14)) rfl ?_
  refine G_lstore_n (L' := [(1, .inr (.inl (M 11 14))), (0, .inr (.inr 11))]) rfl (mfx.lt mf61 (Nat.le_of_ble_eq_true rfl)) rfl (ck dc61 (i := 2) rfl) ?_
  refine G_iconst (ck dc61 (i := 3) rfl) ?_
  refine G_istore_n (L' := [(3, .inl 0), (1, .inr (.inl (M 11 14))), (0, .inr (.inr 11))]) rfl (mfx.lt mf61 (Nat.le_of_ble_eq_true rfl)) rfl (ck dc61 (i := 4) rfl) ?_
  exact G_sub [2, 1, 0] rfl h
theorem g_cp_keepRound_7 (K : Nat) (l1 l3 : Int) (M : PM) (Q : Option PV → PM → Prop)
    (h : R32 l3 ∧ (5 ≤ l3 → R64 (M 11 14) ∧ R64 l1 ∧ l1 ≠ 0 ∧ G none (K + 1) jClearing_keepRound 41 [(0, .inr (.inr 11)), (1, .inr (.inl l1)), (3, .inl 0)] [] P0 P0 (mset M 11 14 (Int.tdiv (M 11 14) l1)) Q) ∧ (¬ 5 ≤ l3 → (0 ≤ l3 ∧ l3 < 5) ∧ Call K jRatio_divisor [.inr (.inl l1), .inr (.inl (M 19 l3))] P0 P0 M (retL fun r6 M7 => G none (K + 1) jClearing_keepRound 7 [(0, .inr (.inr 11)), (1, .inr (.inl r6)), (3, .inl (l3 + 1))] [] P0 P0 M7 Q))) : G none (K + 1) jClearing_keepRound 7 [(0, .inr (.inr 11)), (1, .inr (.inl l1)), (3, .inl l3)] [] P0 P0 M Q := by
  refine G_iload_n 2 rfl rfl (ck dc61 (i := 5) rfl) ?_
  refine G_iconst (ck dc61 (i := 6) rfl) ?_
  obtain ⟨o1, h⟩ := h
  refine G_icmp_ge (tgt := 29) (by decide) o1 (by decide) (ck dc61 (i := 7) rfl) (fun c => ?_) (fun c => ?_)
  · replace h := h.1 c
    refine G_aload_n 0 rfl rfl (ck dc61 (i := 17) rfl) ?_
    refine G_dup rfl (ck dc61 (i := 18) rfl) ?_
    refine H_getL mf61 (ck dc61 (i := 19) rfl) fw_Clearing_84 fc1_14 ly11 ra11 (x := (M 11 14)) rfl ?_
    refine G_lload_n 1 rfl rfl (ck dc61 (i := 20) rfl) ?_
    obtain ⟨o2, h⟩ := h
    obtain ⟨o3, h⟩ := h
    obtain ⟨o4, h⟩ := h
    refine G_ldiv o2 o3 o4 (ck dc61 (i := 21) rfl) ?_
    refine H_putL mf61 (ck dc61 (i := 22) rfl) fw_Clearing_84 fc1_14 ly11 ra11 (Or.inl rfl) ?_
    refine G_iconst (ck dc61 (i := 23) rfl) ?_
    refine G_istore_n (L' := [(3, .inl 0), (0, .inr (.inr 11)), (1, .inr (.inl l1))]) rfl (mfx.lt mf61 (Nat.le_of_ble_eq_true rfl)) rfl (ck dc61 (i := 24) rfl) ?_
    exact G_sub [1, 2, 0] rfl h
  · replace h := h.2 c
    refine G_lload_n 1 rfl rfl (ck dc61 (i := 8) rfl) ?_
    refine G_aload_n 0 rfl rfl (ck dc61 (i := 9) rfl) ?_
    refine H_getR mf61 (ck dc61 (i := 10) rfl) fw_Clearing_35 fc1_11 ly11 ra11 rf11_11 (by decide) ?_
    refine G_iload_n 2 rfl rfl (ck dc61 (i := 11) rfl) ?_
    obtain ⟨o5, h⟩ := h
    refine H_lald (ck dc61 (i := 12) rfl) ly19 (by decide) ra19 o5 (x := (M 19 l3)) rfl ?_
    refine H_sL mf61 (As := [.inr (.inl l1), .inr (.inl (M 19 l3))]) (st := []) (ck dc61 (i := 13) rfl) lk_Clearing_161 rfl rfl (Nat.le_of_ble_eq_true rfl) ⟨Nat.le_refl _, Nat.le_refl _⟩ h (fun r6 M7 h => ?_)
    refine G_lstore_n (L' := [(1, .inr (.inl r6)), (0, .inr (.inr 11)), (3, .inl l3)]) rfl (mfx.lt mf61 (Nat.le_of_ble_eq_true rfl)) rfl (ck dc61 (i := 14) rfl) ?_
    refine G_iinc (L' := [(3, .inl (l3 + 1)), (1, .inr (.inl r6)), (0, .inr (.inr 11))]) 2 rfl (mfx.lt mf61 (Nat.le_of_ble_eq_true rfl)) rfl (ck dc61 (i := 15) rfl) ?_
    refine G_goto (tgt := 7) (by decide) (ck dc61 (i := 16) rfl) ?_
    exact G_sub [2, 1, 0] rfl h
theorem g_cp_keepRound_41 (K : Nat) (l1 l3 : Int) (M : PM) (Q : Option PV → PM → Prop)
    (h : R32 l3 ∧ (5 ≤ l3 → Call K jClearing_spread [.inr (.inr 11)] P0 P0 M (retV fun M3 => Q none M3)) ∧ (¬ 5 ≤ l3 → (0 ≤ l3 ∧ l3 < 5) ∧ R64 (M 19 l3) ∧ R64 l1 ∧ l1 ≠ 0 ∧ G none (K + 1) jClearing_keepRound 41 [(0, .inr (.inr 11)), (1, .inr (.inl l1)), (3, .inl (l3 + 1))] [] P0 P0 (mset M 19 l3 (Int.tdiv (M 19 l3) l1)) Q)) : G none (K + 1) jClearing_keepRound 41 [(0, .inr (.inr 11)), (1, .inr (.inl l1)), (3, .inl l3)] [] P0 P0 M Q := by
  refine G_iload_n 2 rfl rfl (ck dc61 (i := 25) rfl) ?_
  refine G_iconst (ck dc61 (i := 26) rfl) ?_
  obtain ⟨o1, h⟩ := h
  refine G_icmp_ge (tgt := 62) (by decide) o1 (by decide) (ck dc61 (i := 27) rfl) (fun c => ?_) (fun c => ?_)
  · replace h := h.1 c
    refine G_aload_n 0 rfl rfl (ck dc61 (i := 38) rfl) ?_
    refine H_vV mf61 (As := []) (st := []) (ck dc61 (i := 39) rfl) lk_Clearing_94 rfl rfl (Nat.le_of_ble_eq_true rfl) ly11 ra11 ⟨Nat.le_refl _, Nat.le_refl _⟩ h (fun M3 h => ?_)
    exact H_vret mf61 (ck dc61 (i := 40) rfl) rfl h
  · replace h := h.2 c
    refine G_aload_n 0 rfl rfl (ck dc61 (i := 28) rfl) ?_
    refine H_getR mf61 (ck dc61 (i := 29) rfl) fw_Clearing_35 fc1_11 ly11 ra11 rf11_11 (by decide) ?_
    refine G_iload_n 2 rfl rfl (ck dc61 (i := 30) rfl) ?_
    refine G_dup2 rfl rfl (ck dc61 (i := 31) rfl) ?_
    obtain ⟨o4, h⟩ := h
    refine H_lald (ck dc61 (i := 32) rfl) ly19 (by decide) ra19 o4 (x := (M 19 l3)) rfl ?_
    refine G_lload_n 1 rfl rfl (ck dc61 (i := 33) rfl) ?_
    obtain ⟨o5, h⟩ := h
    obtain ⟨o6, h⟩ := h
    obtain ⟨o7, h⟩ := h
    refine G_ldiv o5 o6 o7 (ck dc61 (i := 34) rfl) ?_
    refine G_last (ck dc61 (i := 35) rfl) ra19 ly19 (by decide) o4 ?_
    refine G_iinc (L' := [(3, .inl (l3 + 1)), (0, .inr (.inr 11)), (1, .inr (.inl l1))]) 2 rfl (mfx.lt mf61 (Nat.le_of_ble_eq_true rfl)) rfl (ck dc61 (i := 36) rfl) ?_
    refine G_goto (tgt := 41) (by decide) (ck dc61 (i := 37) rfl) ?_
    exact G_sub [1, 2, 0] rfl h
theorem c_cp_wealth (K : Nat) (a1 a2 : Int) (M : PM) (Q : Option PV → PM → Prop)
    (h : (0 ≤ a1 ∧ a1 < 6) ∧ (0 ≤ a2 ∧ a2 < 5) ∧ R32 (M 2 a2) ∧ Call K jClearing_income [.inr (.inr 11), .inl a1, .inl a2] P0 P0 M (retL fun r4 M5 => Q (some (.inr (.inl (((M 14 a1) * (M 2 a2)) + r4)))) M5)) : Call (K + 1) jClearing_wealth [.inr (.inr 11), .inl a1, .inl a2] P0 P0 M Q := by
  refine Call.intro (by decide +kernel) (mfx.le mf65 (Nat.le_of_ble_eq_true rfl)) (Nat.le_refl _) rfl ?_
  refine G_aload_n 0 rfl rfl (ck dc65 (i := 0) rfl) ?_
  refine H_getR mf65 (ck dc65 (i := 1) rfl) fw_Clearing_19 fc1_6 ly11 ra11 rf11_6 (by decide) ?_
  refine G_iload_n 1 rfl rfl (ck dc65 (i := 2) rfl) ?_
  obtain ⟨o1, h⟩ := h
  refine H_lald (ck dc65 (i := 3) rfl) ly14 (by decide) ra14 o1 (x := (M 14 a1)) rfl ?_
  refine G_aload_n 0 rfl rfl (ck dc65 (i := 4) rfl) ?_
  refine H_getR mf65 (ck dc65 (i := 5) rfl) fw_Clearing_52 fc1_4 ly11 ra11 rf11_4 (by decide) ?_
  refine G_iload_n 2 rfl rfl (ck dc65 (i := 6) rfl) ?_
  obtain ⟨o2, h⟩ := h
  refine H_iald (ck dc65 (i := 7) rfl) ly2 (by decide) ra2 o2 (x := (M 2 a2)) rfl ?_
  obtain ⟨o3, h⟩ := h
  refine G_i2l o3 (ck dc65 (i := 8) rfl) ?_
  refine G_lmul (ck dc65 (i := 9) rfl) ?_
  refine G_aload_n 0 rfl rfl (ck dc65 (i := 10) rfl) ?_
  refine G_iload_n 1 rfl rfl (ck dc65 (i := 11) rfl) ?_
  refine G_iload_n 2 rfl rfl (ck dc65 (i := 12) rfl) ?_
  refine H_vL mf65 (As := [.inl a1, .inl a2]) (st := [.inr (.inl ((M 14 a1) * (M 2 a2)))]) (ck dc65 (i := 13) rfl) lk_Clearing_103 rfl rfl (Nat.le_of_ble_eq_true rfl) ly11 ra11 ⟨Nat.le_refl _, Nat.le_refl _⟩ h (fun r4 M5 h => ?_)
  refine G_ladd (ck dc65 (i := 14) rfl) ?_
  exact H_lret mf65 (ck dc65 (i := 15) rfl) rfl h
theorem c_cp_nextWave (K : Nat) (M : PM) (Q : Option PV → PM → Prop)
    (h : G none (K + 1) jClearing_nextWave 4 [(0, .inr (.inr 11)), (1, .inl 0), (2, .inl 0)] [] P0 P0 M Q) : Call (K + 1) jClearing_nextWave [.inr (.inr 11)] P0 P0 M Q := by
  refine Call.intro (by decide +kernel) (mfx.le mf64 (Nat.le_of_ble_eq_true rfl)) (Nat.le_refl _) rfl ?_
  refine G_iconst (ck dc64 (i := 0) rfl) ?_
  refine G_istore_n (L' := [(1, .inl 0), (0, .inr (.inr 11))]) rfl (mfx.lt mf64 (Nat.le_of_ble_eq_true rfl)) rfl (ck dc64 (i := 1) rfl) ?_
  refine G_iconst (ck dc64 (i := 2) rfl) ?_
  refine G_istore_n (L' := [(2, .inl 0), (1, .inl 0), (0, .inr (.inr 11))]) rfl (mfx.lt mf64 (Nat.le_of_ble_eq_true rfl)) rfl (ck dc64 (i := 3) rfl) ?_
  exact G_sub [2, 1, 0] rfl h
set_option maxHeartbeats 20000000 in
theorem g_cp_nextWave_4 (K : Nat) (l1 l2 : Int) (M : PM) (Q : Option PV → PM → Prop)
    (h : R32 l2 ∧ R32 (M 1 0) ∧ ((M 1 0) ≤ l2 → R32 l1 ∧ (l1 = 0 → Q (some (.inl 0)) M) ∧ (¬ l1 = 0 → R32 (M 11 0) ∧ ((M 11 0) < 5 → G none (K + 1) jClearing_nextWave 96 [(0, .inr (.inr 11)), (1, .inl l1), (2, .inl 0)] [] P0 P0 (mset (mset M 11 0 ((M 11 0) + 1)) 11 1 (bOr (M 11 1) l1)) Q) ∧ (¬ (M 11 0) < 5 → Q (some (.inl 0)) M))) ∧ (¬ (M 1 0) ≤ l2 → Call K jClearing_fell [.inr (.inr 11), .inl l2] P0 P0 M (retI fun r5 M6 => R32 r5 ∧ (¬ r5 = 0 → G none (K + 1) jClearing_nextWave 4 [(0, .inr (.inr 11)), (1, .inl l1), (2, .inl (l2 + 1))] [] P0 P0 M6 Q) ∧ (r5 = 0 → Call K jClearing_wealth [.inr (.inr 11), .inl (M6 11 0), .inl l2] P0 P0 M6 (retL fun r8 M9 => (0 ≤ l2 ∧ l2 < 5) ∧ R32 (M9 16 l2) ∧ R64 r8 ∧ R64 ((M9 11 14) * (M9 16 l2)) ∧ (((M9 11 14) * (M9 16 l2)) ≤ r8 → G none (K + 1) jClearing_nextWave 4 [(0, .inr (.inr 11)), (1, .inl l1), (2, .inl (l2 + 1))] [] P0 P0 M9 Q) ∧ (¬ ((M9 11 14) * (M9 16 l2)) ≤ r8 → G none (K + 1) jClearing_nextWave 4 [(0, .inr (.inr 11)), (1, .inl (bOr l1 (bShl 1 l2))), (2, .inl (l2 + 1))] [] P0 P0 M9 Q)))))) : G none (K + 1) jClearing_nextWave 4 [(0, .inr (.inr 11)), (1, .inl l1), (2, .inl l2)] [] P0 P0 M Q := by
  refine G_iload_n 2 rfl rfl (ck dc64 (i := 4) rfl) ?_
  refine G_aload_n 0 rfl rfl (ck dc64 (i := 5) rfl) ?_
  refine H_getR mf64 (ck dc64 (i := 6) rfl) fw_Clearing_48 fc1_3 ly11 ra11 rf11_3 (by decide) ?_
  refine H_getI mf64 (ck dc64 (i := 7) rfl) fw_Clearing_109 (Or.inl fc0_0) ly1 ra1 (x := (M 1 0)) rfl ?_
  obtain ⟨o1, h⟩ := h
  obtain ⟨o2, h⟩ := h
  refine G_icmp_ge (tgt := 60) (by decide) o1 o2 (ck dc64 (i := 8) rfl) (fun c => ?_) (fun c => ?_)
  · replace h := h.1 c
    refine G_iload_n 1 rfl rfl (ck dc64 (i := 36) rfl) ?_
    obtain ⟨o3, h⟩ := h
    refine G_if_eq (tgt := 72) (by decide) o3 (ck dc64 (i := 37) rfl) (fun c => ?_) (fun c => ?_)
    · replace h := h.1 c
      refine G_iconst (ck dc64 (i := 42) rfl) ?_
      exact H_iretZ mf64 (ck dc64 (i := 43) rfl) rfl (Or.inl rfl) h
    · replace h := h.2 c
      refine G_aload_n 0 rfl rfl (ck dc64 (i := 38) rfl) ?_
      refine H_getI mf64 (ck dc64 (i := 39) rfl) fw_Clearing_77 (Or.inl fc1_0) ly11 ra11 (x := (M 11 0)) rfl ?_
      refine G_iconst (ck dc64 (i := 40) rfl) ?_
      obtain ⟨o4, h⟩ := h
      refine G_icmp_lt (tgt := 74) (by decide) o4 (by decide) (ck dc64 (i := 41) rfl) (fun c => ?_) (fun c => ?_)
      · replace h := h.1 c
        refine G_aload_n 0 rfl rfl (ck dc64 (i := 44) rfl) ?_
        refine G_dup rfl (ck dc64 (i := 45) rfl) ?_
        refine H_getI mf64 (ck dc64 (i := 46) rfl) fw_Clearing_77 (Or.inl fc1_0) ly11 ra11 (x := (M 11 0)) rfl ?_
        refine G_iconst (ck dc64 (i := 47) rfl) ?_
        refine G_iadd (ck dc64 (i := 48) rfl) ?_
        refine H_putI mf64 (ck dc64 (i := 49) rfl) fw_Clearing_77 fc1_0 ly11 ra11 (Or.inl rfl) ?_
        refine G_aload_n 0 rfl rfl (ck dc64 (i := 50) rfl) ?_
        refine G_dup rfl (ck dc64 (i := 51) rfl) ?_
        refine H_getI mf64 (ck dc64 (i := 52) rfl) fw_Clearing_81 (Or.inl fc1_1) ly11 ra11 (x := (M 11 1)) (by simp [mset, mcpy, mclr]) ?_
        refine G_iload_n 1 rfl rfl (ck dc64 (i := 53) rfl) ?_
        refine G_ior (ck dc64 (i := 54) rfl) ?_
        refine H_putI mf64 (ck dc64 (i := 55) rfl) fw_Clearing_81 fc1_1 ly11 ra11 (Or.inl rfl) ?_
        refine G_iconst (ck dc64 (i := 56) rfl) ?_
        refine G_istore_n (L' := [(2, .inl 0), (0, .inr (.inr 11)), (1, .inl l1)]) rfl (mfx.lt mf64 (Nat.le_of_ble_eq_true rfl)) rfl (ck dc64 (i := 57) rfl) ?_
        exact G_sub [1, 2, 0] rfl h
      · replace h := h.2 c
        refine G_iconst (ck dc64 (i := 42) rfl) ?_
        exact H_iretZ mf64 (ck dc64 (i := 43) rfl) rfl (Or.inl rfl) h
  · replace h := h.2 c
    refine G_aload_n 0 rfl rfl (ck dc64 (i := 9) rfl) ?_
    refine G_iload_n 2 rfl rfl (ck dc64 (i := 10) rfl) ?_
    refine H_vZ mf64 (As := [.inl l2]) (st := []) (ck dc64 (i := 11) rfl) lk_Clearing_112 rfl rfl (Nat.le_of_ble_eq_true rfl) ly11 ra11 ⟨Nat.le_refl _, Nat.le_refl _⟩ h (fun r5 M6 h => ?_)
    obtain ⟨o7, h⟩ := h
    refine G_if_ne (tgt := 54) (by decide) o7 (ck dc64 (i := 12) rfl) (fun c => ?_) (fun c => ?_)
    · replace h := h.1 c
      refine G_iinc (L' := [(2, .inl (l2 + 1)), (0, .inr (.inr 11)), (1, .inl l1)]) 2 rfl (mfx.lt mf64 (Nat.le_of_ble_eq_true rfl)) rfl (ck dc64 (i := 34) rfl) ?_
      refine G_goto (tgt := 4) (by decide) (ck dc64 (i := 35) rfl) ?_
      exact G_sub [1, 2, 0] rfl h
    · replace h := h.2 c
      refine G_aload_n 0 rfl rfl (ck dc64 (i := 13) rfl) ?_
      refine G_aload_n 0 rfl rfl (ck dc64 (i := 14) rfl) ?_
      refine H_getI mf64 (ck dc64 (i := 15) rfl) fw_Clearing_77 (Or.inl fc1_0) ly11 ra11 (x := (M6 11 0)) rfl ?_
      refine G_iload_n 2 rfl rfl (ck dc64 (i := 16) rfl) ?_
      refine H_vL mf64 (As := [.inl (M6 11 0), .inl l2]) (st := []) (ck dc64 (i := 17) rfl) lk_Clearing_167 rfl rfl (Nat.le_of_ble_eq_true rfl) ly11 ra11 ⟨Nat.le_refl _, Nat.le_refl _⟩ h (fun r8 M9 h => ?_)
      refine G_aload_n 0 rfl rfl (ck dc64 (i := 18) rfl) ?_
      refine H_getL mf64 (ck dc64 (i := 19) rfl) fw_Clearing_84 fc1_14 ly11 ra11 (x := (M9 11 14)) rfl ?_
      refine G_aload_n 0 rfl rfl (ck dc64 (i := 20) rfl) ?_
      refine H_getR mf64 (ck dc64 (i := 21) rfl) fw_Clearing_25 fc1_8 ly11 ra11 rf11_8 (by decide) ?_
      refine G_iload_n 2 rfl rfl (ck dc64 (i := 22) rfl) ?_
      obtain ⟨o10, h⟩ := h
      refine H_iald (ck dc64 (i := 23) rfl) ly16 (by decide) ra16 o10 (x := (M9 16 l2)) rfl ?_
      obtain ⟨o11, h⟩ := h
      refine G_i2l o11 (ck dc64 (i := 24) rfl) ?_
      refine G_lmul (ck dc64 (i := 25) rfl) ?_
      obtain ⟨o12, h⟩ := h
      obtain ⟨o13, h⟩ := h
      refine G_lif_ge (tgt := 54) (ck dc64 (i := 27) rfl) (by decide) o12 o13 (ck dc64 (i := 26) rfl) (fun c => ?_) (fun c => ?_)
      · replace h := h.1 c
        refine G_iinc (L' := [(2, .inl (l2 + 1)), (0, .inr (.inr 11)), (1, .inl l1)]) 2 rfl (mfx.lt mf64 (Nat.le_of_ble_eq_true rfl)) rfl (ck dc64 (i := 34) rfl) ?_
        refine G_goto (tgt := 4) (by decide) (ck dc64 (i := 35) rfl) ?_
        exact G_sub [1, 2, 0] rfl h
      · replace h := h.2 c
        refine G_iload_n 1 rfl rfl (ck dc64 (i := 28) rfl) ?_
        refine G_iconst (ck dc64 (i := 29) rfl) ?_
        refine G_iload_n 2 rfl rfl (ck dc64 (i := 30) rfl) ?_
        refine G_ishl (ck dc64 (i := 31) rfl) ?_
        refine G_ior (ck dc64 (i := 32) rfl) ?_
        refine G_istore_n (L' := [(1, .inl (bOr l1 (bShl 1 l2))), (0, .inr (.inr 11)), (2, .inl l2)]) rfl (mfx.lt mf64 (Nat.le_of_ble_eq_true rfl)) rfl (ck dc64 (i := 33) rfl) ?_
        refine G_iinc (L' := [(2, .inl (l2 + 1)), (1, .inl (bOr l1 (bShl 1 l2))), (0, .inr (.inr 11))]) 2 rfl (mfx.lt mf64 (Nat.le_of_ble_eq_true rfl)) rfl (ck dc64 (i := 34) rfl) ?_
        refine G_goto (tgt := 4) (by decide) (ck dc64 (i := 35) rfl) ?_
        exact G_sub [2, 1, 0] rfl h
theorem g_cp_nextWave_96 (K : Nat) (l1 l2 : Int) (M : PM) (Q : Option PV → PM → Prop)
    (h : R32 l2 ∧ R32 (M 1 0) ∧ ((M 1 0) ≤ l2 → Call K jClearing_spread [.inr (.inr 11)] P0 P0 M (retV fun M4 => Q (some (.inl 1)) M4)) ∧ (¬ (M 1 0) ≤ l2 → R32 (bAnd (bShr l1 l2) 1) ∧ ((bAnd (bShr l1 l2) 1) = 0 → G none (K + 1) jClearing_nextWave 96 [(0, .inr (.inr 11)), (1, .inl l1), (2, .inl (l2 + 1))] [] P0 P0 M Q) ∧ (¬ (bAnd (bShr l1 l2) 1) = 0 → (0 ≤ l2 ∧ l2 < 5) ∧ G none (K + 1) jClearing_nextWave 96 [(0, .inr (.inr 11)), (1, .inl l1), (2, .inl (l2 + 1))] [] P0 P0 (mset M 12 l2 (M 11 0)) Q))) : G none (K + 1) jClearing_nextWave 96 [(0, .inr (.inr 11)), (1, .inl l1), (2, .inl l2)] [] P0 P0 M Q := by
  refine G_iload_n 2 rfl rfl (ck dc64 (i := 58) rfl) ?_
  refine G_aload_n 0 rfl rfl (ck dc64 (i := 59) rfl) ?_
  refine H_getR mf64 (ck dc64 (i := 60) rfl) fw_Clearing_48 fc1_3 ly11 ra11 rf11_3 (by decide) ?_
  refine H_getI mf64 (ck dc64 (i := 61) rfl) fw_Clearing_109 (Or.inl fc0_0) ly1 ra1 (x := (M 1 0)) rfl ?_
  obtain ⟨o1, h⟩ := h
  obtain ⟨o2, h⟩ := h
  refine G_icmp_ge (tgt := 131) (by decide) o1 o2 (ck dc64 (i := 62) rfl) (fun c => ?_) (fun c => ?_)
  · replace h := h.1 c
    refine G_aload_n 0 rfl rfl (ck dc64 (i := 77) rfl) ?_
    refine H_vV mf64 (As := []) (st := []) (ck dc64 (i := 78) rfl) lk_Clearing_94 rfl rfl (Nat.le_of_ble_eq_true rfl) ly11 ra11 ⟨Nat.le_refl _, Nat.le_refl _⟩ h (fun M4 h => ?_)
    refine G_iconst (ck dc64 (i := 79) rfl) ?_
    exact H_iretZ mf64 (ck dc64 (i := 80) rfl) rfl (Or.inr rfl) h
  · replace h := h.2 c
    refine G_iload_n 1 rfl rfl (ck dc64 (i := 63) rfl) ?_
    refine G_iload_n 2 rfl rfl (ck dc64 (i := 64) rfl) ?_
    refine G_ishr (ck dc64 (i := 65) rfl) ?_
    refine G_iconst (ck dc64 (i := 66) rfl) ?_
    refine G_iand (ck dc64 (i := 67) rfl) ?_
    obtain ⟨o5, h⟩ := h
    refine G_if_eq (tgt := 125) (by decide) o5 (ck dc64 (i := 68) rfl) (fun c => ?_) (fun c => ?_)
    · replace h := h.1 c
      refine G_iinc (L' := [(2, .inl (l2 + 1)), (0, .inr (.inr 11)), (1, .inl l1)]) 2 rfl (mfx.lt mf64 (Nat.le_of_ble_eq_true rfl)) rfl (ck dc64 (i := 75) rfl) ?_
      refine G_goto (tgt := 96) (by decide) (ck dc64 (i := 76) rfl) ?_
      exact G_sub [1, 2, 0] rfl h
    · replace h := h.2 c
      refine G_aload_n 0 rfl rfl (ck dc64 (i := 69) rfl) ?_
      refine H_getR mf64 (ck dc64 (i := 70) rfl) fw_Clearing_9 fc1_2 ly11 ra11 rf11_2 (by decide) ?_
      refine G_iload_n 2 rfl rfl (ck dc64 (i := 71) rfl) ?_
      refine G_aload_n 0 rfl rfl (ck dc64 (i := 72) rfl) ?_
      refine H_getI mf64 (ck dc64 (i := 73) rfl) fw_Clearing_77 (Or.inl fc1_0) ly11 ra11 (x := (M 11 0)) rfl ?_
      obtain ⟨o6, h⟩ := h
      refine G_iast (ck dc64 (i := 74) rfl) ra12 ly12 (by decide) o6 ?_
      refine G_iinc (L' := [(2, .inl (l2 + 1)), (0, .inr (.inr 11)), (1, .inl l1)]) 2 rfl (mfx.lt mf64 (Nat.le_of_ble_eq_true rfl)) rfl (ck dc64 (i := 75) rfl) ?_
      refine G_goto (tgt := 96) (by decide) (ck dc64 (i := 76) rfl) ?_
      exact G_sub [1, 2, 0] rfl h
theorem c_cp_margin (K : Nat) (a1 : Int) (M : PM) (Q : Option PV → PM → Prop)
    (h : (0 ≤ a1 ∧ a1 < 5) ∧ R32 (M 18 a1) ∧ ((M 18 a1) = 0 → G none (K + 1) jClearing_margin 25 [(0, .inr (.inr 11)), (1, .inl a1), (2, .inl ((M 17 a1) - 1))] [] P0 P0 M Q) ∧ (¬ (M 18 a1) = 0 → Q (some (.inl (M 17 a1))) M)) : Call (K + 1) jClearing_margin [.inr (.inr 11), .inl a1] P0 P0 M Q := by
  refine Call.intro (by decide +kernel) (mfx.le mf49 (Nat.le_of_ble_eq_true rfl)) (Nat.le_refl _) rfl ?_
  refine G_aload_n 0 rfl rfl (ck dc49 (i := 0) rfl) ?_
  refine H_getR mf49 (ck dc49 (i := 1) rfl) fw_Clearing_31 fc1_10 ly11 ra11 rf11_10 (by decide) ?_
  refine G_iload_n 1 rfl rfl (ck dc49 (i := 2) rfl) ?_
  obtain ⟨o1, h⟩ := h
  refine H_zald (ck dc49 (i := 3) rfl) ly18 (by decide) ra18 o1 (x := (M 18 a1)) rfl ?_
  obtain ⟨o2, h⟩ := h
  refine G_if_eq (tgt := 16) (by decide) o2 (ck dc49 (i := 4) rfl) (fun c => ?_) (fun c => ?_)
  · replace h := h.1 c
    refine G_aload_n 0 rfl rfl (ck dc49 (i := 10) rfl) ?_
    refine H_getR mf49 (ck dc49 (i := 11) rfl) fw_Clearing_28 fc1_9 ly11 ra11 rf11_9 (by decide) ?_
    refine G_iload_n 1 rfl rfl (ck dc49 (i := 12) rfl) ?_
    refine H_iald (ck dc49 (i := 13) rfl) ly17 (by decide) ra17 o1 (x := (M 17 a1)) rfl ?_
    refine G_iconst (ck dc49 (i := 14) rfl) ?_
    refine G_isub (ck dc49 (i := 15) rfl) ?_
    refine G_istore_n (L' := [(2, .inl ((M 17 a1) - 1)), (0, .inr (.inr 11)), (1, .inl a1)]) rfl (mfx.lt mf49 (Nat.le_of_ble_eq_true rfl)) rfl (ck dc49 (i := 16) rfl) ?_
    exact G_sub [1, 2, 0] rfl h
  · replace h := h.2 c
    refine G_aload_n 0 rfl rfl (ck dc49 (i := 5) rfl) ?_
    refine H_getR mf49 (ck dc49 (i := 6) rfl) fw_Clearing_28 fc1_9 ly11 ra11 rf11_9 (by decide) ?_
    refine G_iload_n 1 rfl rfl (ck dc49 (i := 7) rfl) ?_
    refine H_iald (ck dc49 (i := 8) rfl) ly17 (by decide) ra17 o1 (x := (M 17 a1)) rfl ?_
    exact H_iretI mf49 (ck dc49 (i := 9) rfl) rfl h
theorem g_cp_margin_25 (K : Nat) (l1 l2 : Int) (M : PM) (Q : Option PV → PM → Prop)
    (h : R32 l2 ∧ (l2 < 0 → Q (some (.inl l2)) M) ∧ (¬ l2 < 0 → (0 ≤ ((l1 * 3) + l2) ∧ ((l1 * 3) + l2) < 15) ∧ R32 (M 15 ((l1 * 3) + l2)) ∧ (¬ (M 15 ((l1 * 3) + l2)) = 0 → Q (some (.inl l2)) M) ∧ ((M 15 ((l1 * 3) + l2)) = 0 → G none (K + 1) jClearing_margin 25 [(0, .inr (.inr 11)), (1, .inl l1), (2, .inl (l2 + (-1)))] [] P0 P0 M Q))) : G none (K + 1) jClearing_margin 25 [(0, .inr (.inr 11)), (1, .inl l1), (2, .inl l2)] [] P0 P0 M Q := by
  refine G_iload_n 2 rfl rfl (ck dc49 (i := 17) rfl) ?_
  obtain ⟨o1, h⟩ := h
  refine G_if_lt (tgt := 48) (by decide) o1 (ck dc49 (i := 18) rfl) (fun c => ?_) (fun c => ?_)
  · replace h := h.1 c
    refine G_iload_n 2 rfl rfl (ck dc49 (i := 30) rfl) ?_
    exact H_iretI mf49 (ck dc49 (i := 31) rfl) rfl h
  · replace h := h.2 c
    refine G_aload_n 0 rfl rfl (ck dc49 (i := 19) rfl) ?_
    refine H_getR mf49 (ck dc49 (i := 20) rfl) fw_Clearing_22 fc1_7 ly11 ra11 rf11_7 (by decide) ?_
    refine G_iload_n 1 rfl rfl (ck dc49 (i := 21) rfl) ?_
    refine G_iconst (ck dc49 (i := 22) rfl) ?_
    refine G_imul (ck dc49 (i := 23) rfl) ?_
    refine G_iload_n 2 rfl rfl (ck dc49 (i := 24) rfl) ?_
    refine G_iadd (ck dc49 (i := 25) rfl) ?_
    obtain ⟨o2, h⟩ := h
    refine H_iald (ck dc49 (i := 26) rfl) ly15 (by decide) ra15 o2 (x := (M 15 ((l1 * 3) + l2))) rfl ?_
    obtain ⟨o3, h⟩ := h
    refine G_if_ne (tgt := 48) (by decide) o3 (ck dc49 (i := 27) rfl) (fun c => ?_) (fun c => ?_)
    · replace h := h.1 c
      refine G_iload_n 2 rfl rfl (ck dc49 (i := 30) rfl) ?_
      exact H_iretI mf49 (ck dc49 (i := 31) rfl) rfl h
    · replace h := h.2 c
      refine G_iinc (L' := [(2, .inl (l2 + (-1))), (0, .inr (.inr 11)), (1, .inl l1)]) 2 rfl (mfx.lt mf49 (Nat.le_of_ble_eq_true rfl)) rfl (ck dc49 (i := 28) rfl) ?_
      refine G_goto (tgt := 25) (by decide) (ck dc49 (i := 29) rfl) ?_
      exact G_sub [1, 2, 0] rfl h
theorem c_cp_feels (K : Nat) (a1 a2 : Int) (M : PM) (Q : Option PV → PM → Prop)
    (h : Call K jClearing_margin [.inr (.inr 11), .inl a2] P0 P0 M (retI fun r1 M2 => R32 r1 ∧ (r1 < 0 → Q (some (.inl 0)) M2) ∧ (¬ r1 < 0 → R32 (M2 1 2) ∧ ((M2 1 2) ≤ 0 → Q (some (.inl 0)) M2) ∧ (¬ (M2 1 2) ≤ 0 → Call K jBook_amount [.inr (.inr 1), .inl a2, .inl a1, .inl r1] P0 P0 M2 (retI fun r5 M6 => R32 r5 ∧ (r5 ≤ 0 → Q (some (.inl 0)) M6) ∧ (¬ r5 ≤ 0 → Q (some (.inl 1)) M6)))))) : Call (K + 1) jClearing_feels [.inr (.inr 11), .inl a1, .inl a2] P0 P0 M Q := by
  refine Call.intro (by decide +kernel) (mfx.le mf48 (Nat.le_of_ble_eq_true rfl)) (Nat.le_refl _) rfl ?_
  refine G_aload_n 0 rfl rfl (ck dc48 (i := 0) rfl) ?_
  refine G_iload_n 2 rfl rfl (ck dc48 (i := 1) rfl) ?_
  refine H_vI mf48 (As := [.inl a2]) (st := []) (ck dc48 (i := 2) rfl) lk_Clearing_123 rfl rfl (Nat.le_of_ble_eq_true rfl) ly11 ra11 ⟨Nat.le_refl _, Nat.le_refl _⟩ h (fun r1 M2 h => ?_)
  refine G_istore_n (L' := [(3, .inl r1), (0, .inr (.inr 11)), (1, .inl a1), (2, .inl a2)]) rfl (mfx.lt mf48 (Nat.le_of_ble_eq_true rfl)) rfl (ck dc48 (i := 3) rfl) ?_
  refine G_iload_n 0 rfl rfl (ck dc48 (i := 4) rfl) ?_
  obtain ⟨o3, h⟩ := h
  refine G_if_lt (tgt := 37) (by decide) o3 (ck dc48 (i := 5) rfl) (fun c => ?_) (fun c => ?_)
  · replace h := h.1 c
    refine G_iconst (ck dc48 (i := 19) rfl) ?_
    exact H_iretZ mf48 (ck dc48 (i := 20) rfl) rfl (Or.inl rfl) h
  · replace h := h.2 c
    refine G_aload_n 1 rfl rfl (ck dc48 (i := 6) rfl) ?_
    refine H_getR mf48 (ck dc48 (i := 7) rfl) fw_Clearing_48 fc1_3 ly11 ra11 rf11_3 (by decide) ?_
    refine H_getI mf48 (ck dc48 (i := 8) rfl) fw_Clearing_100 (Or.inl fc0_2) ly1 ra1 (x := (M2 1 2)) rfl ?_
    obtain ⟨o4, h⟩ := h
    refine G_if_le (tgt := 37) (by decide) o4 (ck dc48 (i := 9) rfl) (fun c => ?_) (fun c => ?_)
    · replace h := h.1 c
      refine G_iconst (ck dc48 (i := 19) rfl) ?_
      exact H_iretZ mf48 (ck dc48 (i := 20) rfl) rfl (Or.inl rfl) h
    · replace h := h.2 c
      refine G_aload_n 1 rfl rfl (ck dc48 (i := 10) rfl) ?_
      refine H_getR mf48 (ck dc48 (i := 11) rfl) fw_Clearing_48 fc1_3 ly11 ra11 rf11_3 (by decide) ?_
      refine G_iload_n 3 rfl rfl (ck dc48 (i := 12) rfl) ?_
      refine G_iload_n 2 rfl rfl (ck dc48 (i := 13) rfl) ?_
      refine G_iload_n 0 rfl rfl (ck dc48 (i := 14) rfl) ?_
      refine H_vI mf48 (As := [.inl a2, .inl a1, .inl r1]) (st := []) (ck dc48 (i := 15) rfl) lk_Clearing_126 rfl rfl (Nat.le_of_ble_eq_true rfl) ly1 ra1 ⟨Nat.le_refl _, Nat.le_refl _⟩ h (fun r5 M6 h => ?_)
      obtain ⟨o7, h⟩ := h
      refine G_if_le (tgt := 37) (by decide) o7 (ck dc48 (i := 16) rfl) (fun c => ?_) (fun c => ?_)
      · replace h := h.1 c
        refine G_iconst (ck dc48 (i := 19) rfl) ?_
        exact H_iretZ mf48 (ck dc48 (i := 20) rfl) rfl (Or.inl rfl) h
      · replace h := h.2 c
        refine G_iconst (ck dc48 (i := 17) rfl) ?_
        refine G_goto (tgt := 38) (by decide) (ck dc48 (i := 18) rfl) ?_
        exact H_iretZ mf48 (ck dc48 (i := 20) rfl) rfl (Or.inr rfl) h
theorem c_cp_reached (K : Nat) (a1 : Int) (M : PM) (Q : Option PV → PM → Prop)
    (h : G none (K + 1) jClearing_reached 4 [(0, .inr (.inr 11)), (2, .inl a1), (3, .inl 0)] [] P0 P0 M Q) : Call (K + 1) jClearing_reached [.inr (.inr 11), .inl a1] P0 P0 M Q := by
  refine Call.intro (by decide +kernel) (mfx.le mf47 (Nat.le_of_ble_eq_true rfl)) (Nat.le_refl _) rfl ?_
  refine G_iload_n 1 rfl rfl (ck dc47 (i := 0) rfl) ?_
  refine G_istore_n (L' := [(2, .inl a1), (0, .inr (.inr 11)), (1, .inl a1)]) rfl (mfx.lt mf47 (Nat.le_of_ble_eq_true rfl)) rfl (ck dc47 (i := 1) rfl) ?_
  refine G_iconst (ck dc47 (i := 2) rfl) ?_
  refine G_istore_n (L' := [(3, .inl 0), (2, .inl a1), (0, .inr (.inr 11)), (1, .inl a1)]) rfl (mfx.lt mf47 (Nat.le_of_ble_eq_true rfl)) rfl (ck dc47 (i := 3) rfl) ?_
  exact G_sub [2, 1, 0] rfl h
theorem g_cp_reached_4 (K : Nat) (l2 l3 : Int) (M : PM) (Q : Option PV → PM → Prop)
    (h : R32 l3 ∧ (5 ≤ l3 → Q (some (.inl l2)) M) ∧ (¬ 5 ≤ l3 → G none (K + 1) jClearing_reached 12 [(0, .inr (.inr 11)), (2, .inl l2), (3, .inl l3), (4, .inl 0)] [] P0 P0 M Q)) : G none (K + 1) jClearing_reached 4 [(0, .inr (.inr 11)), (2, .inl l2), (3, .inl l3)] [] P0 P0 M Q := by
  refine G_iload_n 2 rfl rfl (ck dc47 (i := 4) rfl) ?_
  refine G_iconst (ck dc47 (i := 5) rfl) ?_
  obtain ⟨o1, h⟩ := h
  refine G_icmp_ge (tgt := 93) (by decide) o1 (by decide) (ck dc47 (i := 6) rfl) (fun c => ?_) (fun c => ?_)
  · replace h := h.1 c
    refine G_iload_n 1 rfl rfl (ck dc47 (i := 48) rfl) ?_
    exact H_iretI mf47 (ck dc47 (i := 49) rfl) rfl h
  · replace h := h.2 c
    refine G_iconst (ck dc47 (i := 7) rfl) ?_
    refine G_istore (L' := [(4, .inl 0), (0, .inr (.inr 11)), (2, .inl l2), (3, .inl l3)]) (mfx.lt mf47 (Nat.le_of_ble_eq_true rfl)) rfl (ck dc47 (i := 8) rfl) ?_
    exact G_sub [1, 2, 3, 0] rfl h
theorem g_cp_reached_12 (K : Nat) (l2 l3 l4 : Int) (M : PM) (Q : Option PV → PM → Prop)
    (h : R32 l4 ∧ R32 (M 1 0) ∧ ((M 1 0) ≤ l4 → G none (K + 1) jClearing_reached 4 [(0, .inr (.inr 11)), (2, .inl l2), (3, .inl (l3 + 1))] [] P0 P0 M Q) ∧ (¬ (M 1 0) ≤ l4 → G none (K + 1) jClearing_reached 27 [(0, .inr (.inr 11)), (2, .inl l2), (3, .inl l3), (4, .inl l4), (5, .inl 0)] [] P0 P0 M Q)) : G none (K + 1) jClearing_reached 12 [(0, .inr (.inr 11)), (2, .inl l2), (3, .inl l3), (4, .inl l4)] [] P0 P0 M Q := by
  refine G_iload 3 rfl (ck dc47 (i := 9) rfl) ?_
  refine G_aload_n 0 rfl rfl (ck dc47 (i := 10) rfl) ?_
  refine H_getR mf47 (ck dc47 (i := 11) rfl) fw_Clearing_48 fc1_3 ly11 ra11 rf11_3 (by decide) ?_
  refine H_getI mf47 (ck dc47 (i := 12) rfl) fw_Clearing_109 (Or.inl fc0_0) ly1 ra1 (x := (M 1 0)) rfl ?_
  obtain ⟨o1, h⟩ := h
  obtain ⟨o2, h⟩ := h
  refine G_icmp_ge (tgt := 87) (by decide) o1 o2 (ck dc47 (i := 13) rfl) (fun c => ?_) (fun c => ?_)
  · replace h := h.1 c
    refine G_iinc (L' := [(3, .inl (l3 + 1)), (0, .inr (.inr 11)), (2, .inl l2), (4, .inl l4)]) 2 rfl (mfx.lt mf47 (Nat.le_of_ble_eq_true rfl)) rfl (ck dc47 (i := 46) rfl) ?_
    refine G_goto (tgt := 4) (by decide) (ck dc47 (i := 47) rfl) ?_
    exact G_sub [1, 2, 0] rfl h
  · replace h := h.2 c
    refine G_iconst (ck dc47 (i := 14) rfl) ?_
    refine G_istore (L' := [(5, .inl 0), (0, .inr (.inr 11)), (2, .inl l2), (3, .inl l3), (4, .inl l4)]) (mfx.lt mf47 (Nat.le_of_ble_eq_true rfl)) rfl (ck dc47 (i := 15) rfl) ?_
    exact G_sub [1, 2, 3, 4, 0] rfl h
set_option maxHeartbeats 20000000 in
theorem g_cp_reached_27 (K : Nat) (l2 l3 l4 l5 : Int) (M : PM) (Q : Option PV → PM → Prop)
    (h : R32 l5 ∧ R32 (M 1 0) ∧ ((M 1 0) ≤ l5 → G none (K + 1) jClearing_reached 12 [(0, .inr (.inr 11)), (2, .inl l2), (3, .inl l3), (4, .inl (l4 + 1))] [] P0 P0 M Q) ∧ (¬ (M 1 0) ≤ l5 → R32 (bAnd (bShr l2 l4) 1) ∧ ((bAnd (bShr l2 l4) 1) = 0 → G none (K + 1) jClearing_reached 27 [(0, .inr (.inr 11)), (2, .inl l2), (3, .inl l3), (4, .inl l4), (5, .inl (l5 + 1))] [] P0 P0 M Q) ∧ (¬ (bAnd (bShr l2 l4) 1) = 0 → Call K jClearing_fell [.inr (.inr 11), .inl l5] P0 P0 M (retI fun r4 M5 => R32 r4 ∧ (r4 = 0 → G none (K + 1) jClearing_reached 27 [(0, .inr (.inr 11)), (2, .inl l2), (3, .inl l3), (4, .inl l4), (5, .inl (l5 + 1))] [] P0 P0 M5 Q) ∧ (¬ r4 = 0 → Call K jClearing_feels [.inr (.inr 11), .inl l5, .inl l4] P0 P0 M5 (retI fun r7 M8 => R32 r7 ∧ (r7 = 0 → G none (K + 1) jClearing_reached 27 [(0, .inr (.inr 11)), (2, .inl l2), (3, .inl l3), (4, .inl l4), (5, .inl (l5 + 1))] [] P0 P0 M8 Q) ∧ (¬ r7 = 0 → G none (K + 1) jClearing_reached 27 [(0, .inr (.inr 11)), (2, .inl (bOr l2 (bShl 1 l5))), (3, .inl l3), (4, .inl l4), (5, .inl (l5 + 1))] [] P0 P0 M8 Q))))))) : G none (K + 1) jClearing_reached 27 [(0, .inr (.inr 11)), (2, .inl l2), (3, .inl l3), (4, .inl l4), (5, .inl l5)] [] P0 P0 M Q := by
  refine G_iload 4 rfl (ck dc47 (i := 16) rfl) ?_
  refine G_aload_n 0 rfl rfl (ck dc47 (i := 17) rfl) ?_
  refine H_getR mf47 (ck dc47 (i := 18) rfl) fw_Clearing_48 fc1_3 ly11 ra11 rf11_3 (by decide) ?_
  refine H_getI mf47 (ck dc47 (i := 19) rfl) fw_Clearing_109 (Or.inl fc0_0) ly1 ra1 (x := (M 1 0)) rfl ?_
  obtain ⟨o1, h⟩ := h
  obtain ⟨o2, h⟩ := h
  refine G_icmp_ge (tgt := 81) (by decide) o1 o2 (ck dc47 (i := 20) rfl) (fun c => ?_) (fun c => ?_)
  · replace h := h.1 c
    refine G_iinc (L' := [(4, .inl (l4 + 1)), (0, .inr (.inr 11)), (2, .inl l2), (3, .inl l3), (5, .inl l5)]) 3 rfl (mfx.lt mf47 (Nat.le_of_ble_eq_true rfl)) rfl (ck dc47 (i := 44) rfl) ?_
    refine G_goto (tgt := 12) (by decide) (ck dc47 (i := 45) rfl) ?_
    exact G_sub [1, 2, 3, 0] rfl h
  · replace h := h.2 c
    refine G_iload_n 1 rfl rfl (ck dc47 (i := 21) rfl) ?_
    refine G_iload 3 rfl (ck dc47 (i := 22) rfl) ?_
    refine G_ishr (ck dc47 (i := 23) rfl) ?_
    refine G_iconst (ck dc47 (i := 24) rfl) ?_
    refine G_iand (ck dc47 (i := 25) rfl) ?_
    obtain ⟨o3, h⟩ := h
    refine G_if_eq (tgt := 75) (by decide) o3 (ck dc47 (i := 26) rfl) (fun c => ?_) (fun c => ?_)
    · replace h := h.1 c
      refine G_iinc (L' := [(5, .inl (l5 + 1)), (0, .inr (.inr 11)), (2, .inl l2), (3, .inl l3), (4, .inl l4)]) 4 rfl (mfx.lt mf47 (Nat.le_of_ble_eq_true rfl)) rfl (ck dc47 (i := 42) rfl) ?_
      refine G_goto (tgt := 27) (by decide) (ck dc47 (i := 43) rfl) ?_
      exact G_sub [1, 2, 3, 4, 0] rfl h
    · replace h := h.2 c
      refine G_aload_n 0 rfl rfl (ck dc47 (i := 27) rfl) ?_
      refine G_iload 4 rfl (ck dc47 (i := 28) rfl) ?_
      refine H_vZ mf47 (As := [.inl l5]) (st := []) (ck dc47 (i := 29) rfl) lk_Clearing_112 rfl rfl (Nat.le_of_ble_eq_true rfl) ly11 ra11 ⟨Nat.le_refl _, Nat.le_refl _⟩ h (fun r4 M5 h => ?_)
      obtain ⟨o6, h⟩ := h
      refine G_if_eq (tgt := 75) (by decide) o6 (ck dc47 (i := 30) rfl) (fun c => ?_) (fun c => ?_)
      · replace h := h.1 c
        refine G_iinc (L' := [(5, .inl (l5 + 1)), (0, .inr (.inr 11)), (2, .inl l2), (3, .inl l3), (4, .inl l4)]) 4 rfl (mfx.lt mf47 (Nat.le_of_ble_eq_true rfl)) rfl (ck dc47 (i := 42) rfl) ?_
        refine G_goto (tgt := 27) (by decide) (ck dc47 (i := 43) rfl) ?_
        exact G_sub [1, 2, 3, 4, 0] rfl h
      · replace h := h.2 c
        refine G_aload_n 0 rfl rfl (ck dc47 (i := 31) rfl) ?_
        refine G_iload 4 rfl (ck dc47 (i := 32) rfl) ?_
        refine G_iload 3 rfl (ck dc47 (i := 33) rfl) ?_
        refine H_vZ mf47 (As := [.inl l5, .inl l4]) (st := []) (ck dc47 (i := 34) rfl) lk_Clearing_130 rfl rfl (Nat.le_of_ble_eq_true rfl) ly11 ra11 ⟨Nat.le_refl _, Nat.le_refl _⟩ h (fun r7 M8 h => ?_)
        obtain ⟨o9, h⟩ := h
        refine G_if_eq (tgt := 75) (by decide) o9 (ck dc47 (i := 35) rfl) (fun c => ?_) (fun c => ?_)
        · replace h := h.1 c
          refine G_iinc (L' := [(5, .inl (l5 + 1)), (0, .inr (.inr 11)), (2, .inl l2), (3, .inl l3), (4, .inl l4)]) 4 rfl (mfx.lt mf47 (Nat.le_of_ble_eq_true rfl)) rfl (ck dc47 (i := 42) rfl) ?_
          refine G_goto (tgt := 27) (by decide) (ck dc47 (i := 43) rfl) ?_
          exact G_sub [1, 2, 3, 4, 0] rfl h
        · replace h := h.2 c
          refine G_iload_n 1 rfl rfl (ck dc47 (i := 36) rfl) ?_
          refine G_iconst (ck dc47 (i := 37) rfl) ?_
          refine G_iload 4 rfl (ck dc47 (i := 38) rfl) ?_
          refine G_ishl (ck dc47 (i := 39) rfl) ?_
          refine G_ior (ck dc47 (i := 40) rfl) ?_
          refine G_istore_n (L' := [(2, .inl (bOr l2 (bShl 1 l5))), (0, .inr (.inr 11)), (3, .inl l3), (4, .inl l4), (5, .inl l5)]) rfl (mfx.lt mf47 (Nat.le_of_ble_eq_true rfl)) rfl (ck dc47 (i := 41) rfl) ?_
          refine G_iinc (L' := [(5, .inl (l5 + 1)), (2, .inl (bOr l2 (bShl 1 l5))), (0, .inr (.inr 11)), (3, .inl l3), (4, .inl l4)]) 4 rfl (mfx.lt mf47 (Nat.le_of_ble_eq_true rfl)) rfl (ck dc47 (i := 42) rfl) ?_
          refine G_goto (tgt := 27) (by decide) (ck dc47 (i := 43) rfl) ?_
          exact G_sub [2, 1, 3, 4, 0] rfl h
theorem c_ep_expand (K : Nat) (a1 a2 : Int) (M : PM) (Q : Option PV → PM → Prop)
    (h : G none (K + 1) jEquations_expand 8 [(0, .inr (.inr 21)), (1, .inl a1), (2, .inl a2), (3, .inr (.inl 0)), (5, .inr (.inl 1)), (7, .inl 5)] [] P0 P0 M Q) : Call (K + 1) jEquations_expand [.inr (.inr 21), .inl a1, .inl a2] P0 P0 M Q := by
  refine Call.intro (by decide +kernel) (mfx.le mf57 (Nat.le_of_ble_eq_true rfl)) (Nat.le_refl _) rfl ?_
  refine G_lconst (v := 0) rfl (ck dc57 (i := 0) rfl) ?_
  refine G_lstore_n (L' := [(3, .inr (.inl 0)), (0, .inr (.inr 21)), (1, .inl a1), (2, .inl a2)]) rfl (mfx.lt mf57 (Nat.le_of_ble_eq_true rfl)) rfl (ck dc57 (i := 1) rfl) ?_
  refine G_lconst (v := 1) rfl (ck dc57 (i := 2) rfl) ?_
  refine G_lstore (L' := [(5, .inr (.inl 1)), (3, .inr (.inl 0)), (0, .inr (.inr 21)), (1, .inl a1), (2, .inl a2)]) (mfx.lt mf57 (Nat.le_of_ble_eq_true rfl)) rfl (ck dc57 (i := 3) rfl) ?_
  refine G_iconst (ck dc57 (i := 4) rfl) ?_
  refine G_istore (L' := [(7, .inl 5), (5, .inr (.inl 1)), (3, .inr (.inl 0)), (0, .inr (.inr 21)), (1, .inl a1), (2, .inl a2)]) (mfx.lt mf57 (Nat.le_of_ble_eq_true rfl)) rfl (ck dc57 (i := 5) rfl) ?_
  exact G_sub [3, 4, 5, 2, 1, 0] rfl h
set_option maxHeartbeats 20000000 in
theorem g_ep_expand_8 (K : Nat) (l1 l2 l3 l5 l7 : Int) (M : PM) (Q : Option PV → PM → Prop)
    (h : R32 l7 ∧ (l7 < 0 → Q (some (.inr (.inl l3))) M) ∧ (¬ l7 < 0 → R32 (bAnd l1 (bShl 1 l7)) ∧ ((bAnd l1 (bShl 1 l7)) = 0 → G none (K + 1) jEquations_expand 8 [(0, .inr (.inr 21)), (1, .inl l1), (2, .inl l2), (3, .inr (.inl l3)), (5, .inr (.inl l5)), (7, .inl (l7 + (-1)))] [] P0 P0 M Q) ∧ (¬ (bAnd l1 (bShl 1 l7)) = 0 → (0 ≤ ((l2 * 6) + l7) ∧ ((l2 * 6) + l7) < 30) ∧ (0 ≤ (bXor l1 (bShl 1 l7)) ∧ (bXor l1 (bShl 1 l7)) < 64) ∧ G none (K + 1) jEquations_expand 8 [(0, .inr (.inr 21)), (1, .inl l1), (2, .inl l2), (3, .inr (.inl (l3 + ((l5 * (M 22 ((l2 * 6) + l7))) * (M 23 (bXor l1 (bShl 1 l7))))))), (5, .inr (.inl (-l5))), (7, .inl (l7 + (-1)))] [] P0 P0 M Q))) : G none (K + 1) jEquations_expand 8 [(0, .inr (.inr 21)), (1, .inl l1), (2, .inl l2), (3, .inr (.inl l3)), (5, .inr (.inl l5)), (7, .inl l7)] [] P0 P0 M Q := by
  refine G_iload 5 rfl (ck dc57 (i := 6) rfl) ?_
  obtain ⟨o1, h⟩ := h
  refine G_if_lt (tgt := 65) (by decide) o1 (ck dc57 (i := 7) rfl) (fun c => ?_) (fun c => ?_)
  · replace h := h.1 c
    refine G_lload_n 3 rfl rfl (ck dc57 (i := 41) rfl) ?_
    exact H_lret mf57 (ck dc57 (i := 42) rfl) rfl h
  · replace h := h.2 c
    refine G_iconst (ck dc57 (i := 8) rfl) ?_
    refine G_iload 5 rfl (ck dc57 (i := 9) rfl) ?_
    refine G_ishl (ck dc57 (i := 10) rfl) ?_
    refine G_istore (L' := [(8, .inl (bShl 1 l7)), (0, .inr (.inr 21)), (1, .inl l1), (2, .inl l2), (3, .inr (.inl l3)), (5, .inr (.inl l5)), (7, .inl l7)]) (mfx.lt mf57 (Nat.le_of_ble_eq_true rfl)) rfl (ck dc57 (i := 11) rfl) ?_
    refine G_iload_n 2 rfl rfl (ck dc57 (i := 12) rfl) ?_
    refine G_iload 0 rfl (ck dc57 (i := 13) rfl) ?_
    refine G_iand (ck dc57 (i := 14) rfl) ?_
    obtain ⟨o2, h⟩ := h
    refine G_if_eq (tgt := 59) (by decide) o2 (ck dc57 (i := 15) rfl) (fun c => ?_) (fun c => ?_)
    · replace h := h.1 c
      refine G_iinc (L' := [(7, .inl (l7 + (-1))), (8, .inl (bShl 1 l7)), (0, .inr (.inr 21)), (1, .inl l1), (2, .inl l2), (3, .inr (.inl l3)), (5, .inr (.inl l5))]) 6 rfl (mfx.lt mf57 (Nat.le_of_ble_eq_true rfl)) rfl (ck dc57 (i := 39) rfl) ?_
      refine G_goto (tgt := 8) (by decide) (ck dc57 (i := 40) rfl) ?_
      exact G_sub [2, 3, 4, 5, 6, 0] rfl h
    · replace h := h.2 c
      refine G_lload_n 4 rfl rfl (ck dc57 (i := 16) rfl) ?_
      refine G_lload 5 rfl (ck dc57 (i := 17) rfl) ?_
      refine G_aload_n 1 rfl rfl (ck dc57 (i := 18) rfl) ?_
      refine H_getR mf57 (ck dc57 (i := 19) rfl) fw_Equations_11 fc3_0 ly21 ra21 rf21_0 (by decide) ?_
      refine G_iload_n 3 rfl rfl (ck dc57 (i := 20) rfl) ?_
      refine G_bipush (n := 6) rfl (ck dc57 (i := 21) rfl) ?_
      refine G_imul (ck dc57 (i := 22) rfl) ?_
      refine G_iload 6 rfl (ck dc57 (i := 23) rfl) ?_
      refine G_iadd (ck dc57 (i := 24) rfl) ?_
      obtain ⟨o3, h⟩ := h
      refine H_lald (ck dc57 (i := 25) rfl) ly22 (by decide) ra22 o3 (x := (M 22 ((l2 * 6) + l7))) rfl ?_
      refine G_lmul (ck dc57 (i := 26) rfl) ?_
      refine G_aload_n 1 rfl rfl (ck dc57 (i := 27) rfl) ?_
      refine H_getR mf57 (ck dc57 (i := 28) rfl) fw_Equations_15 fc3_1 ly21 ra21 rf21_1 (by decide) ?_
      refine G_iload_n 2 rfl rfl (ck dc57 (i := 29) rfl) ?_
      refine G_iload 0 rfl (ck dc57 (i := 30) rfl) ?_
      refine G_ixor (ck dc57 (i := 31) rfl) ?_
      obtain ⟨o4, h⟩ := h
      refine H_lald (ck dc57 (i := 32) rfl) ly23 (by decide) ra23 o4 (x := (M 23 (bXor l1 (bShl 1 l7)))) rfl ?_
      refine G_lmul (ck dc57 (i := 33) rfl) ?_
      refine G_ladd (ck dc57 (i := 34) rfl) ?_
      refine G_lstore_n (L' := [(3, .inr (.inl (l3 + ((l5 * (M 22 ((l2 * 6) + l7))) * (M 23 (bXor l1 (bShl 1 l7))))))), (8, .inl (bShl 1 l7)), (0, .inr (.inr 21)), (1, .inl l1), (2, .inl l2), (5, .inr (.inl l5)), (7, .inl l7)]) rfl (mfx.lt mf57 (Nat.le_of_ble_eq_true rfl)) rfl (ck dc57 (i := 35) rfl) ?_
      refine G_lload 5 rfl (ck dc57 (i := 36) rfl) ?_
      refine G_lneg (ck dc57 (i := 37) rfl) ?_
      refine G_lstore (L' := [(5, .inr (.inl (-l5))), (3, .inr (.inl (l3 + ((l5 * (M 22 ((l2 * 6) + l7))) * (M 23 (bXor l1 (bShl 1 l7))))))), (8, .inl (bShl 1 l7)), (0, .inr (.inr 21)), (1, .inl l1), (2, .inl l2), (7, .inl l7)]) (mfx.lt mf57 (Nat.le_of_ble_eq_true rfl)) rfl (ck dc57 (i := 38) rfl) ?_
      refine G_iinc (L' := [(7, .inl (l7 + (-1))), (5, .inr (.inl (-l5))), (3, .inr (.inl (l3 + ((l5 * (M 22 ((l2 * 6) + l7))) * (M 23 (bXor l1 (bShl 1 l7))))))), (8, .inl (bShl 1 l7)), (0, .inr (.inr 21)), (1, .inl l1), (2, .inl l2)]) 6 rfl (mfx.lt mf57 (Nat.le_of_ble_eq_true rfl)) rfl (ck dc57 (i := 39) rfl) ?_
      refine G_goto (tgt := 8) (by decide) (ck dc57 (i := 40) rfl) ?_
      exact G_sub [4, 5, 6, 2, 1, 0] rfl h
theorem c_ep_solve (K : Nat) (a1 : Int) (M : PM) (Q : Option PV → PM → Prop)
    (h : G none (K + 1) jEquations_solve 9 [(0, .inr (.inr 21)), (1, .inl a1), (2, .inl 1)] [] P0 P0 (mset M 23 0 1) Q) : Call (K + 1) jEquations_solve [.inr (.inr 21), .inl a1] P0 P0 M Q := by
  refine Call.intro (by decide +kernel) (mfx.le mf55 (Nat.le_of_ble_eq_true rfl)) (Nat.le_refl _) rfl ?_
  refine G_aload_n 0 rfl rfl (ck dc55 (i := 0) rfl) ?_
  refine H_getR mf55 (ck dc55 (i := 1) rfl) fw_Equations_15 fc3_1 ly21 ra21 rf21_1 (by decide) ?_
  refine G_iconst (ck dc55 (i := 2) rfl) ?_
  refine G_lconst (v := 1) rfl (ck dc55 (i := 3) rfl) ?_
  refine G_last (ck dc55 (i := 4) rfl) ra23 ly23 (by decide) (by decide) ?_
  refine G_iconst (ck dc55 (i := 5) rfl) ?_
  refine G_istore_n (L' := [(2, .inl 1), (0, .inr (.inr 21)), (1, .inl a1)]) rfl (mfx.lt mf55 (Nat.le_of_ble_eq_true rfl)) rfl (ck dc55 (i := 6) rfl) ?_
  exact G_sub [1, 2, 0] rfl h
theorem g_ep_solve_9 (K : Nat) (l1 l2 : Int) (M : PM) (Q : Option PV → PM → Prop)
    (h : R32 l2 ∧ R32 (bShl 1 (l1 + 1)) ∧ ((bShl 1 (l1 + 1)) ≤ l2 → Q none M) ∧ (¬ (bShl 1 (l1 + 1)) ≤ l2 → Call K jJInteger_bitCount [.inl l2] P0 P0 M (retI fun r3 M4 => R32 r3 ∧ R32 l1 ∧ (l1 < r3 → G none (K + 1) jEquations_solve 9 [(0, .inr (.inr 21)), (1, .inl l1), (2, .inl (l2 + 1))] [] P0 P0 M4 Q) ∧ (¬ l1 < r3 → Call K jEquations_expand [.inr (.inr 21), .inl l2, .inl (r3 - 1)] P0 P0 M4 (retL fun r7 M8 => (0 ≤ l2 ∧ l2 < 64) ∧ G none (K + 1) jEquations_solve 9 [(0, .inr (.inr 21)), (1, .inl l1), (2, .inl (l2 + 1))] [] P0 P0 (mset M8 23 l2 r7) Q))))) : G none (K + 1) jEquations_solve 9 [(0, .inr (.inr 21)), (1, .inl l1), (2, .inl l2)] [] P0 P0 M Q := by
  refine G_iload_n 2 rfl rfl (ck dc55 (i := 7) rfl) ?_
  refine G_iconst (ck dc55 (i := 8) rfl) ?_
  refine G_iload_n 1 rfl rfl (ck dc55 (i := 9) rfl) ?_
  refine G_iconst (ck dc55 (i := 10) rfl) ?_
  refine G_iadd (ck dc55 (i := 11) rfl) ?_
  refine G_ishl (ck dc55 (i := 12) rfl) ?_
  obtain ⟨o1, h⟩ := h
  obtain ⟨o2, h⟩ := h
  refine G_icmp_ge (tgt := 48) (by decide) o1 o2 (ck dc55 (i := 13) rfl) (fun c => ?_) (fun c => ?_)
  · replace h := h.1 c
    exact H_vret mf55 (ck dc55 (i := 32) rfl) rfl h
  · replace h := h.2 c
    refine G_iload_n 2 rfl rfl (ck dc55 (i := 14) rfl) ?_
    refine H_sI mf55 (As := [.inl l2]) (st := []) (ck dc55 (i := 15) rfl) lk_Equations_18 rfl rfl (Nat.le_of_ble_eq_true rfl) ⟨Nat.le_refl _, Nat.le_refl _⟩ h (fun r3 M4 h => ?_)
    refine G_istore_n (L' := [(3, .inl r3), (0, .inr (.inr 21)), (1, .inl l1), (2, .inl l2)]) rfl (mfx.lt mf55 (Nat.le_of_ble_eq_true rfl)) rfl (ck dc55 (i := 16) rfl) ?_
    refine G_iload_n 0 rfl rfl (ck dc55 (i := 17) rfl) ?_
    refine G_iload_n 2 rfl rfl (ck dc55 (i := 18) rfl) ?_
    obtain ⟨o5, h⟩ := h
    obtain ⟨o6, h⟩ := h
    refine G_icmp_gt (tgt := 42) (by decide) o5 o6 (ck dc55 (i := 19) rfl) (fun c => ?_) (fun c => ?_)
    · replace h := h.1 c
      refine G_iinc (L' := [(2, .inl (l2 + 1)), (3, .inl r3), (0, .inr (.inr 21)), (1, .inl l1)]) 3 rfl (mfx.lt mf55 (Nat.le_of_ble_eq_true rfl)) rfl (ck dc55 (i := 30) rfl) ?_
      refine G_goto (tgt := 9) (by decide) (ck dc55 (i := 31) rfl) ?_
      exact G_sub [2, 3, 0] rfl h
    · replace h := h.2 c
      refine G_aload_n 1 rfl rfl (ck dc55 (i := 20) rfl) ?_
      refine H_getR mf55 (ck dc55 (i := 21) rfl) fw_Equations_15 fc3_1 ly21 ra21 rf21_1 (by decide) ?_
      refine G_iload_n 3 rfl rfl (ck dc55 (i := 22) rfl) ?_
      refine G_aload_n 1 rfl rfl (ck dc55 (i := 23) rfl) ?_
      refine G_iload_n 3 rfl rfl (ck dc55 (i := 24) rfl) ?_
      refine G_iload_n 0 rfl rfl (ck dc55 (i := 25) rfl) ?_
      refine G_iconst (ck dc55 (i := 26) rfl) ?_
      refine G_isub (ck dc55 (i := 27) rfl) ?_
      refine H_vL mf55 (As := [.inl l2, .inl (r3 - 1)]) (st := [.inl l2, .inr (.inr 23)]) (ck dc55 (i := 28) rfl) lk_Equations_24 rfl rfl (Nat.le_of_ble_eq_true rfl) ly21 ra21 ⟨Nat.le_refl _, Nat.le_refl _⟩ h (fun r7 M8 h => ?_)
      obtain ⟨o9, h⟩ := h
      refine G_last (ck dc55 (i := 29) rfl) ra23 ly23 (by decide) o9 ?_
      refine G_iinc (L' := [(2, .inl (l2 + 1)), (3, .inl r3), (0, .inr (.inr 21)), (1, .inl l1)]) 3 rfl (mfx.lt mf55 (Nat.le_of_ble_eq_true rfl)) rfl (ck dc55 (i := 30) rfl) ?_
      refine G_goto (tgt := 9) (by decide) (ck dc55 (i := 31) rfl) ?_
      exact G_sub [2, 3, 0] rfl h
theorem c_ep_bottom (K : Nat) (a1 : Int) (M : PM) (Q : Option PV → PM → Prop)
    (h : (0 ≤ ((bShl 1 a1) - 1) ∧ ((bShl 1 a1) - 1) < 64) ∧ Q (some (.inr (.inl (M 23 ((bShl 1 a1) - 1))))) M) : Call (K + 1) jEquations_bottom [.inr (.inr 21), .inl a1] P0 P0 M Q := by
  refine Call.intro (by decide +kernel) (mfx.le mf58 (Nat.le_of_ble_eq_true rfl)) (Nat.le_refl _) rfl ?_
  refine G_aload_n 0 rfl rfl (ck dc58 (i := 0) rfl) ?_
  refine H_getR mf58 (ck dc58 (i := 1) rfl) fw_Equations_15 fc3_1 ly21 ra21 rf21_1 (by decide) ?_
  refine G_iconst (ck dc58 (i := 2) rfl) ?_
  refine G_iload_n 1 rfl rfl (ck dc58 (i := 3) rfl) ?_
  refine G_ishl (ck dc58 (i := 4) rfl) ?_
  refine G_iconst (ck dc58 (i := 5) rfl) ?_
  refine G_isub (ck dc58 (i := 6) rfl) ?_
  obtain ⟨o1, h⟩ := h
  refine H_lald (ck dc58 (i := 7) rfl) ly23 (by decide) ra23 o1 (x := (M 23 ((bShl 1 a1) - 1))) rfl ?_
  exact H_lret mf58 (ck dc58 (i := 8) rfl) rfl h
theorem c_ep_put (K : Nat) (a1 a2 a3 : Int) (M : PM) (Q : Option PV → PM → Prop)
    (h : (0 ≤ ((a1 * 6) + a2) ∧ ((a1 * 6) + a2) < 30) ∧ Q none (mset M 22 ((a1 * 6) + a2) a3)) : Call (K + 1) jEquations_put [.inr (.inr 21), .inl a1, .inl a2, .inr (.inl a3)] P0 P0 M Q := by
  refine Call.intro (by decide +kernel) (mfx.le mf54 (Nat.le_of_ble_eq_true rfl)) (Nat.le_refl _) rfl ?_
  refine G_aload_n 0 rfl rfl (ck dc54 (i := 0) rfl) ?_
  refine H_getR mf54 (ck dc54 (i := 1) rfl) fw_Equations_11 fc3_0 ly21 ra21 rf21_0 (by decide) ?_
  refine G_iload_n 1 rfl rfl (ck dc54 (i := 2) rfl) ?_
  refine G_bipush (n := 6) rfl (ck dc54 (i := 3) rfl) ?_
  refine G_imul (ck dc54 (i := 4) rfl) ?_
  refine G_iload_n 2 rfl rfl (ck dc54 (i := 5) rfl) ?_
  refine G_iadd (ck dc54 (i := 6) rfl) ?_
  refine G_lload_n 3 rfl rfl (ck dc54 (i := 7) rfl) ?_
  obtain ⟨o1, h⟩ := h
  refine G_last (ck dc54 (i := 8) rfl) ra22 ly22 (by decide) o1 ?_
  exact H_vret mf54 (ck dc54 (i := 9) rfl) rfl h
set_option maxHeartbeats 20000000 in
theorem c_cp_factor (K : Nat) (a1 a2 : Int) (M : PM) (Q : Option PV → PM → Prop)
    (h : (0 ≤ a2 ∧ a2 < 5) ∧ R32 (M 17 a2) ∧ ((M 17 a2) < 3 → R32 a1 ∧ R32 a2 ∧ (¬ a1 = a2 → Call K jBook_amount [.inr (.inr 1), .inl a2, .inl a1, .inl (M 17 a2)] P0 P0 M (retI fun r5 M6 => R32 ((-(M 1 2)) * r5) ∧ Q (some (.inr (.inl ((-(M 1 2)) * r5)))) M6)) ∧ (a1 = a2 → (0 ≤ ((a1 * 3) + (M 17 a2)) ∧ ((a1 * 3) + (M 17 a2)) < 15) ∧ R32 (10 * (M 15 ((a1 * 3) + (M 17 a2)))) ∧ Q (some (.inr (.inl (10 * (M 15 ((a1 * 3) + (M 17 a2))))))) M)) ∧ (¬ (M 17 a2) < 3 → Q (some (.inr (.inl 0))) M)) : Call (K + 1) jClearing_factor [.inr (.inr 11), .inl a1, .inl a2] P0 P0 M Q := by
  refine Call.intro (by decide +kernel) (mfx.le mf53 (Nat.le_of_ble_eq_true rfl)) (Nat.le_refl _) rfl ?_
  refine G_aload_n 0 rfl rfl (ck dc53 (i := 0) rfl) ?_
  refine H_getR mf53 (ck dc53 (i := 1) rfl) fw_Clearing_28 fc1_9 ly11 ra11 rf11_9 (by decide) ?_
  refine G_iload_n 2 rfl rfl (ck dc53 (i := 2) rfl) ?_
  obtain ⟨o1, h⟩ := h
  refine H_iald (ck dc53 (i := 3) rfl) ly17 (by decide) ra17 o1 (x := (M 17 a2)) rfl ?_
  refine G_istore_n (L' := [(3, .inl (M 17 a2)), (0, .inr (.inr 11)), (1, .inl a1), (2, .inl a2)]) rfl (mfx.lt mf53 (Nat.le_of_ble_eq_true rfl)) rfl (ck dc53 (i := 4) rfl) ?_
  refine G_iload_n 0 rfl rfl (ck dc53 (i := 5) rfl) ?_
  refine G_iconst (ck dc53 (i := 6) rfl) ?_
  obtain ⟨o2, h⟩ := h
  refine G_icmp_lt (tgt := 14) (by decide) o2 (by decide) (ck dc53 (i := 7) rfl) (fun c => ?_) (fun c => ?_)
  · replace h := h.1 c
    refine G_iload_n 2 rfl rfl (ck dc53 (i := 10) rfl) ?_
    refine G_iload_n 3 rfl rfl (ck dc53 (i := 11) rfl) ?_
    obtain ⟨o3, h⟩ := h
    obtain ⟨o4, h⟩ := h
    refine G_icmp_ne (tgt := 34) (by decide) o3 o4 (ck dc53 (i := 12) rfl) (fun c => ?_) (fun c => ?_)
    · replace h := h.1 c
      refine G_aload_n 1 rfl rfl (ck dc53 (i := 25) rfl) ?_
      refine H_getR mf53 (ck dc53 (i := 26) rfl) fw_Clearing_48 fc1_3 ly11 ra11 rf11_3 (by decide) ?_
      refine H_getI mf53 (ck dc53 (i := 27) rfl) fw_Clearing_100 (Or.inl fc0_2) ly1 ra1 (x := (M 1 2)) rfl ?_
      refine G_ineg (ck dc53 (i := 28) rfl) ?_
      refine G_aload_n 1 rfl rfl (ck dc53 (i := 29) rfl) ?_
      refine H_getR mf53 (ck dc53 (i := 30) rfl) fw_Clearing_48 fc1_3 ly11 ra11 rf11_3 (by decide) ?_
      refine G_iload_n 3 rfl rfl (ck dc53 (i := 31) rfl) ?_
      refine G_iload_n 2 rfl rfl (ck dc53 (i := 32) rfl) ?_
      refine G_iload_n 0 rfl rfl (ck dc53 (i := 33) rfl) ?_
      refine H_vI mf53 (As := [.inl a2, .inl a1, .inl (M 17 a2)]) (st := [.inl (-(M 1 2))]) (ck dc53 (i := 34) rfl) lk_Clearing_126 rfl rfl (Nat.le_of_ble_eq_true rfl) ly1 ra1 ⟨Nat.le_refl _, Nat.le_refl _⟩ h (fun r5 M6 h => ?_)
      refine G_imul (ck dc53 (i := 35) rfl) ?_
      obtain ⟨o7, h⟩ := h
      refine G_i2l o7 (ck dc53 (i := 36) rfl) ?_
      exact H_lret mf53 (ck dc53 (i := 37) rfl) rfl h
    · replace h := h.2 c
      refine G_bipush (n := 10) rfl (ck dc53 (i := 13) rfl) ?_
      refine G_aload_n 1 rfl rfl (ck dc53 (i := 14) rfl) ?_
      refine H_getR mf53 (ck dc53 (i := 15) rfl) fw_Clearing_22 fc1_7 ly11 ra11 rf11_7 (by decide) ?_
      refine G_iload_n 2 rfl rfl (ck dc53 (i := 16) rfl) ?_
      refine G_iconst (ck dc53 (i := 17) rfl) ?_
      refine G_imul (ck dc53 (i := 18) rfl) ?_
      refine G_iload_n 0 rfl rfl (ck dc53 (i := 19) rfl) ?_
      refine G_iadd (ck dc53 (i := 20) rfl) ?_
      obtain ⟨o8, h⟩ := h
      refine H_iald (ck dc53 (i := 21) rfl) ly15 (by decide) ra15 o8 (x := (M 15 ((a1 * 3) + (M 17 a2)))) rfl ?_
      refine G_imul (ck dc53 (i := 22) rfl) ?_
      obtain ⟨o9, h⟩ := h
      refine G_i2l o9 (ck dc53 (i := 23) rfl) ?_
      exact H_lret mf53 (ck dc53 (i := 24) rfl) rfl h
  · replace h := h.2 c
    refine G_lconst (v := 0) rfl (ck dc53 (i := 8) rfl) ?_
    exact H_lret mf53 (ck dc53 (i := 9) rfl) rfl h
theorem c_ep_top (K : Nat) (a1 a2 : Int) (M : PM) (Q : Option PV → PM → Prop)
    (h : (0 ≤ (bXor ((bShl 1 (a1 + 1)) - 1) (bShl 1 a2)) ∧ (bXor ((bShl 1 (a1 + 1)) - 1) (bShl 1 a2)) < 64) ∧ R32 ((a1 - 1) - a2) ∧ R32 (Int.tmod ((a1 - 1) - a2) 2) ∧ (¬ (Int.tmod ((a1 - 1) - a2) 2) = 0 → Q (some (.inr (.inl (-(M 23 (bXor ((bShl 1 (a1 + 1)) - 1) (bShl 1 a2))))))) M) ∧ ((Int.tmod ((a1 - 1) - a2) 2) = 0 → Q (some (.inr (.inl (M 23 (bXor ((bShl 1 (a1 + 1)) - 1) (bShl 1 a2)))))) M)) : Call (K + 1) jEquations_top [.inr (.inr 21), .inl a1, .inl a2] P0 P0 M Q := by
  refine Call.intro (by decide +kernel) (mfx.le mf59 (Nat.le_of_ble_eq_true rfl)) (Nat.le_refl _) rfl ?_
  refine G_aload_n 0 rfl rfl (ck dc59 (i := 0) rfl) ?_
  refine H_getR mf59 (ck dc59 (i := 1) rfl) fw_Equations_15 fc3_1 ly21 ra21 rf21_1 (by decide) ?_
  refine G_iconst (ck dc59 (i := 2) rfl) ?_
  refine G_iload_n 1 rfl rfl (ck dc59 (i := 3) rfl) ?_
  refine G_iconst (ck dc59 (i := 4) rfl) ?_
  refine G_iadd (ck dc59 (i := 5) rfl) ?_
  refine G_ishl (ck dc59 (i := 6) rfl) ?_
  refine G_iconst (ck dc59 (i := 7) rfl) ?_
  refine G_isub (ck dc59 (i := 8) rfl) ?_
  refine G_iconst (ck dc59 (i := 9) rfl) ?_
  refine G_iload_n 2 rfl rfl (ck dc59 (i := 10) rfl) ?_
  refine G_ishl (ck dc59 (i := 11) rfl) ?_
  refine G_ixor (ck dc59 (i := 12) rfl) ?_
  obtain ⟨o1, h⟩ := h
  refine H_lald (ck dc59 (i := 13) rfl) ly23 (by decide) ra23 o1 (x := (M 23 (bXor ((bShl 1 (a1 + 1)) - 1) (bShl 1 a2)))) rfl ?_
  refine G_lstore_n (L' := [(3, .inr (.inl (M 23 (bXor ((bShl 1 (a1 + 1)) - 1) (bShl 1 a2))))), (0, .inr (.inr 21)), (1, .inl a1), (2, .inl a2)]) rfl (mfx.lt mf59 (Nat.le_of_ble_eq_true rfl)) rfl (ck dc59 (i := 14) rfl) ?_
  refine G_iload_n 2 rfl rfl (ck dc59 (i := 15) rfl) ?_
  refine G_iconst (ck dc59 (i := 16) rfl) ?_
  refine G_isub (ck dc59 (i := 17) rfl) ?_
  refine G_iload_n 3 rfl rfl (ck dc59 (i := 18) rfl) ?_
  refine G_isub (ck dc59 (i := 19) rfl) ?_
  refine G_iconst (ck dc59 (i := 20) rfl) ?_
  obtain ⟨o2, h⟩ := h
  refine G_irem o2 (by decide) (by decide) (ck dc59 (i := 21) rfl) ?_
  obtain ⟨o3, h⟩ := h
  refine G_if_ne (tgt := 31) (by decide) o3 (ck dc59 (i := 22) rfl) (fun c => ?_) (fun c => ?_)
  · replace h := h.1 c
    refine G_lload_n 0 rfl rfl (ck dc59 (i := 25) rfl) ?_
    refine G_lneg (ck dc59 (i := 26) rfl) ?_
    exact H_lret mf59 (ck dc59 (i := 27) rfl) rfl h
  · replace h := h.2 c
    refine G_lload_n 0 rfl rfl (ck dc59 (i := 23) rfl) ?_
    refine G_goto (tgt := 33) (by decide) (ck dc59 (i := 24) rfl) ?_
    exact H_lret mf59 (ck dc59 (i := 27) rfl) rfl h
theorem c_cp_balance (K : Nat) (M : PM) (Q : Option PV → PM → Prop)
    (h : G none (K + 1) jClearing_balance 9 [(0, .inr (.inr 11)), (1, .inl 0), (2, .inl 0)] [] P0 P0 (mset M 11 14 1) Q) : Call (K + 1) jClearing_balance [.inr (.inr 11)] P0 P0 M Q := by
  refine Call.intro (by decide +kernel) (mfx.le mf52 (Nat.le_of_ble_eq_true rfl)) (Nat.le_refl _) rfl ?_
  refine G_iconst (ck dc52 (i := 0) rfl) ?_
  refine G_istore_n (L' := [(1, .inl 0), (0, .inr (.inr 11))]) rfl (mfx.lt mf52 (Nat.le_of_ble_eq_true rfl)) rfl (ck dc52 (i := 1) rfl) ?_
  refine G_aload_n 1 rfl rfl (ck dc52 (i := 2) rfl) ?_
  refine G_lconst (v := 1) rfl (ck dc52 (i := 3) rfl) ?_
  refine H_putL mf52 (ck dc52 (i := 4) rfl) fw_Clearing_84 fc1_14 ly11 ra11 (Or.inl rfl) ?_
  refine G_iconst (ck dc52 (i := 5) rfl) ?_
  refine G_istore_n (L' := [(2, .inl 0), (1, .inl 0), (0, .inr (.inr 11))]) rfl (mfx.lt mf52 (Nat.le_of_ble_eq_true rfl)) rfl (ck dc52 (i := 6) rfl) ?_
  exact G_sub [2, 1, 0] rfl h
theorem g_cp_balance_9 (K : Nat) (l1 l2 : Int) (M : PM) (Q : Option PV → PM → Prop)
    (h : R32 l2 ∧ (5 ≤ l2 → Call K jClearing_spread [.inr (.inr 11)] P0 P0 M (retV fun M3 => G none (K + 1) jClearing_balance 52 [(0, .inr (.inr 11)), (1, .inl l1), (2, .inl 0)] [] P0 P0 M3 Q)) ∧ (¬ 5 ≤ l2 → (0 ≤ l2 ∧ l2 < 5) ∧ R32 (M 18 l2) ∧ ((M 18 l2) = 0 → G none (K + 1) jClearing_balance 9 [(0, .inr (.inr 11)), (1, .inl l1), (2, .inl (l2 + 1))] [] P0 P0 (mset M 19 l2 0) Q) ∧ (¬ (M 18 l2) = 0 → (0 ≤ l1 ∧ l1 < 5) ∧ G none (K + 1) jClearing_balance 9 [(0, .inr (.inr 11)), (1, .inl (l1 + 1)), (2, .inl (l2 + 1))] [] P0 P0 (mset (mset M 19 l2 0) 20 l1 l2) Q))) : G none (K + 1) jClearing_balance 9 [(0, .inr (.inr 11)), (1, .inl l1), (2, .inl l2)] [] P0 P0 M Q := by
  refine G_iload_n 2 rfl rfl (ck dc52 (i := 7) rfl) ?_
  refine G_iconst (ck dc52 (i := 8) rfl) ?_
  obtain ⟨o1, h⟩ := h
  refine G_icmp_ge (tgt := 46) (by decide) o1 (by decide) (ck dc52 (i := 9) rfl) (fun c => ?_) (fun c => ?_)
  · replace h := h.1 c
    refine G_aload_n 0 rfl rfl (ck dc52 (i := 28) rfl) ?_
    refine H_vV mf52 (As := []) (st := []) (ck dc52 (i := 29) rfl) lk_Clearing_94 rfl rfl (Nat.le_of_ble_eq_true rfl) ly11 ra11 ⟨Nat.le_refl _, Nat.le_refl _⟩ h (fun M3 h => ?_)
    refine G_iconst (ck dc52 (i := 30) rfl) ?_
    refine G_istore_n (L' := [(2, .inl 0), (0, .inr (.inr 11)), (1, .inl l1)]) rfl (mfx.lt mf52 (Nat.le_of_ble_eq_true rfl)) rfl (ck dc52 (i := 31) rfl) ?_
    exact G_sub [1, 2, 0] rfl h
  · replace h := h.2 c
    refine G_aload_n 0 rfl rfl (ck dc52 (i := 10) rfl) ?_
    refine H_getR mf52 (ck dc52 (i := 11) rfl) fw_Clearing_35 fc1_11 ly11 ra11 rf11_11 (by decide) ?_
    refine G_iload_n 2 rfl rfl (ck dc52 (i := 12) rfl) ?_
    refine G_lconst (v := 0) rfl (ck dc52 (i := 13) rfl) ?_
    obtain ⟨o4, h⟩ := h
    refine G_last (ck dc52 (i := 14) rfl) ra19 ly19 (by decide) o4 ?_
    refine G_aload_n 0 rfl rfl (ck dc52 (i := 15) rfl) ?_
    refine H_getR mf52 (ck dc52 (i := 16) rfl) fw_Clearing_31 fc1_10 ly11 ra11 rf11_10 (by decide) ?_
    refine G_iload_n 2 rfl rfl (ck dc52 (i := 17) rfl) ?_
    refine H_zald (ck dc52 (i := 18) rfl) ly18 (by decide) ra18 o4 (x := (M 18 l2)) (by simp [mset, mcpy, mclr]) ?_
    obtain ⟨o5, h⟩ := h
    refine G_if_eq (tgt := 40) (by decide) o5 (ck dc52 (i := 19) rfl) (fun c => ?_) (fun c => ?_)
    · replace h := h.1 c
      refine G_iinc (L' := [(2, .inl (l2 + 1)), (0, .inr (.inr 11)), (1, .inl l1)]) 2 rfl (mfx.lt mf52 (Nat.le_of_ble_eq_true rfl)) rfl (ck dc52 (i := 26) rfl) ?_
      refine G_goto (tgt := 9) (by decide) (ck dc52 (i := 27) rfl) ?_
      exact G_sub [1, 2, 0] rfl h
    · replace h := h.2 c
      refine G_aload_n 0 rfl rfl (ck dc52 (i := 20) rfl) ?_
      refine H_getR mf52 (ck dc52 (i := 21) rfl) fw_Clearing_38 fc1_12 ly11 ra11 rf11_12 (by decide) ?_
      refine G_iload_n 1 rfl rfl (ck dc52 (i := 22) rfl) ?_
      refine G_iload_n 2 rfl rfl (ck dc52 (i := 23) rfl) ?_
      obtain ⟨o6, h⟩ := h
      refine G_iast (ck dc52 (i := 24) rfl) ra20 ly20 (by decide) o6 ?_
      refine G_iinc (L' := [(1, .inl (l1 + 1)), (0, .inr (.inr 11)), (2, .inl l2)]) 1 rfl (mfx.lt mf52 (Nat.le_of_ble_eq_true rfl)) rfl (ck dc52 (i := 25) rfl) ?_
      refine G_iinc (L' := [(2, .inl (l2 + 1)), (1, .inl (l1 + 1)), (0, .inr (.inr 11))]) 2 rfl (mfx.lt mf52 (Nat.le_of_ble_eq_true rfl)) rfl (ck dc52 (i := 26) rfl) ?_
      refine G_goto (tgt := 9) (by decide) (ck dc52 (i := 27) rfl) ?_
      exact G_sub [2, 1, 0] rfl h
theorem g_cp_balance_52 (K : Nat) (l1 l2 : Int) (M : PM) (Q : Option PV → PM → Prop)
    (h : R32 l2 ∧ R32 l1 ∧ (l1 ≤ l2 → Call K jEquations_solve [.inr (.inr 21), .inl l1] P0 P0 M (retV fun M4 => Call K jEquations_bottom [.inr (.inr 21), .inl l1] P0 P0 M4 (retL fun r5 M6 => G none (K + 1) jClearing_balance 149 [(0, .inr (.inr 11)), (1, .inl l1), (2, .inl 0)] [] P0 P0 (mset M6 11 14 r5) Q))) ∧ (¬ l1 ≤ l2 → (0 ≤ l2 ∧ l2 < 5) ∧ G none (K + 1) jClearing_balance 67 [(0, .inr (.inr 11)), (1, .inl l1), (2, .inl l2), (3, .inl (M 20 l2)), (4, .inl 0)] [] P0 P0 M Q)) : G none (K + 1) jClearing_balance 52 [(0, .inr (.inr 11)), (1, .inl l1), (2, .inl l2)] [] P0 P0 M Q := by
  refine G_iload_n 2 rfl rfl (ck dc52 (i := 32) rfl) ?_
  refine G_iload_n 1 rfl rfl (ck dc52 (i := 33) rfl) ?_
  obtain ⟨o1, h⟩ := h
  obtain ⟨o2, h⟩ := h
  refine G_icmp_ge (tgt := 127) (by decide) o1 o2 (ck dc52 (i := 34) rfl) (fun c => ?_) (fun c => ?_)
  · replace h := h.1 c
    refine G_aload_n 0 rfl rfl (ck dc52 (i := 73) rfl) ?_
    refine H_getR mf52 (ck dc52 (i := 74) rfl) fw_Clearing_44 fc1_13 ly11 ra11 rf11_13 (by decide) ?_
    refine G_iload_n 1 rfl rfl (ck dc52 (i := 75) rfl) ?_
    refine H_vV mf52 (As := [.inl l1]) (st := []) (ck dc52 (i := 76) rfl) lk_Clearing_152 rfl rfl (Nat.le_of_ble_eq_true rfl) ly21 ra21 ⟨Nat.le_refl _, Nat.le_refl _⟩ h (fun M4 h => ?_)
    refine G_aload_n 0 rfl rfl (ck dc52 (i := 77) rfl) ?_
    refine G_aload_n 0 rfl rfl (ck dc52 (i := 78) rfl) ?_
    refine H_getR mf52 (ck dc52 (i := 79) rfl) fw_Clearing_44 fc1_13 ly11 ra11 rf11_13 (by decide) ?_
    refine G_iload_n 1 rfl rfl (ck dc52 (i := 80) rfl) ?_
    refine H_vL mf52 (As := [.inl l1]) (st := [.inr (.inr 11)]) (ck dc52 (i := 81) rfl) lk_Clearing_155 rfl rfl (Nat.le_of_ble_eq_true rfl) ly21 ra21 ⟨Nat.le_refl _, Nat.le_refl _⟩ h (fun r5 M6 h => ?_)
    refine H_putL mf52 (ck dc52 (i := 82) rfl) fw_Clearing_84 fc1_14 ly11 ra11 (Or.inl rfl) ?_
    refine G_iconst (ck dc52 (i := 83) rfl) ?_
    refine G_istore_n (L' := [(2, .inl 0), (0, .inr (.inr 11)), (1, .inl l1)]) rfl (mfx.lt mf52 (Nat.le_of_ble_eq_true rfl)) rfl (ck dc52 (i := 84) rfl) ?_
    exact G_sub [1, 2, 0] rfl h
  · replace h := h.2 c
    refine G_aload_n 0 rfl rfl (ck dc52 (i := 35) rfl) ?_
    refine H_getR mf52 (ck dc52 (i := 36) rfl) fw_Clearing_38 fc1_12 ly11 ra11 rf11_12 (by decide) ?_
    refine G_iload_n 2 rfl rfl (ck dc52 (i := 37) rfl) ?_
    obtain ⟨o7, h⟩ := h
    refine H_iald (ck dc52 (i := 38) rfl) ly20 (by decide) ra20 o7 (x := (M 20 l2)) rfl ?_
    refine G_istore_n (L' := [(3, .inl (M 20 l2)), (0, .inr (.inr 11)), (1, .inl l1), (2, .inl l2)]) rfl (mfx.lt mf52 (Nat.le_of_ble_eq_true rfl)) rfl (ck dc52 (i := 39) rfl) ?_
    refine G_iconst (ck dc52 (i := 40) rfl) ?_
    refine G_istore (L' := [(4, .inl 0), (3, .inl (M 20 l2)), (0, .inr (.inr 11)), (1, .inl l1), (2, .inl l2)]) (mfx.lt mf52 (Nat.le_of_ble_eq_true rfl)) rfl (ck dc52 (i := 41) rfl) ?_
    exact G_sub [2, 3, 4, 1, 0] rfl h
theorem g_cp_balance_67 (K : Nat) (l1 l2 l3 l4 : Int) (M : PM) (Q : Option PV → PM → Prop)
    (h : R32 l4 ∧ R32 l1 ∧ (l1 ≤ l4 → Call K jClearing_restTenths [.inr (.inr 11), .inl l3] P0 P0 M (retL fun r3 M4 => Call K jClearing_heldTenths [.inr (.inr 11), .inl l3] P0 P0 M4 (retL fun r5 M6 => Call K jEquations_put [.inr (.inr 21), .inl l2, .inl l1, .inr (.inl (r3 - r5))] P0 P0 M6 (retV fun M8 => G none (K + 1) jClearing_balance 52 [(0, .inr (.inr 11)), (1, .inl l1), (2, .inl (l2 + 1))] [] P0 P0 M8 Q)))) ∧ (¬ l1 ≤ l4 → (0 ≤ l4 ∧ l4 < 5) ∧ Call K jClearing_factor [.inr (.inr 11), .inl l3, .inl (M 20 l4)] P0 P0 M (retL fun r10 M11 => Call K jEquations_put [.inr (.inr 21), .inl l2, .inl l4, .inr (.inl r10)] P0 P0 M11 (retV fun M13 => G none (K + 1) jClearing_balance 67 [(0, .inr (.inr 11)), (1, .inl l1), (2, .inl l2), (3, .inl l3), (4, .inl (l4 + 1))] [] P0 P0 M13 Q)))) : G none (K + 1) jClearing_balance 67 [(0, .inr (.inr 11)), (1, .inl l1), (2, .inl l2), (3, .inl l3), (4, .inl l4)] [] P0 P0 M Q := by
  refine G_iload 4 rfl (ck dc52 (i := 42) rfl) ?_
  refine G_iload_n 1 rfl rfl (ck dc52 (i := 43) rfl) ?_
  obtain ⟨o1, h⟩ := h
  obtain ⟨o2, h⟩ := h
  refine G_icmp_ge (tgt := 101) (by decide) o1 o2 (ck dc52 (i := 44) rfl) (fun c => ?_) (fun c => ?_)
  · replace h := h.1 c
    refine G_aload_n 0 rfl rfl (ck dc52 (i := 59) rfl) ?_
    refine H_getR mf52 (ck dc52 (i := 60) rfl) fw_Clearing_44 fc1_13 ly11 ra11 rf11_13 (by decide) ?_
    refine G_iload_n 2 rfl rfl (ck dc52 (i := 61) rfl) ?_
    refine G_iload_n 1 rfl rfl (ck dc52 (i := 62) rfl) ?_
    refine G_aload_n 0 rfl rfl (ck dc52 (i := 63) rfl) ?_
    refine G_iload_n 3 rfl rfl (ck dc52 (i := 64) rfl) ?_
    refine H_vL mf52 (As := [.inl l3]) (st := [.inl l1, .inl l2, .inr (.inr 21)]) (ck dc52 (i := 65) rfl) lk_Clearing_116 rfl rfl (Nat.le_of_ble_eq_true rfl) ly11 ra11 ⟨Nat.le_refl _, Nat.le_refl _⟩ h (fun r3 M4 h => ?_)
    refine G_aload_n 0 rfl rfl (ck dc52 (i := 66) rfl) ?_
    refine G_iload_n 3 rfl rfl (ck dc52 (i := 67) rfl) ?_
    refine H_vL mf52 (As := [.inl l3]) (st := [.inr (.inl r3), .inl l1, .inl l2, .inr (.inr 21)]) (ck dc52 (i := 68) rfl) lk_Clearing_120 rfl rfl (Nat.le_of_ble_eq_true rfl) ly11 ra11 ⟨Nat.le_refl _, Nat.le_refl _⟩ h (fun r5 M6 h => ?_)
    refine G_lsub (ck dc52 (i := 69) rfl) ?_
    refine H_vV mf52 (As := [.inl l2, .inl l1, .inr (.inl (r3 - r5))]) (st := []) (ck dc52 (i := 70) rfl) lk_Clearing_148 rfl rfl (Nat.le_of_ble_eq_true rfl) ly21 ra21 ⟨Nat.le_refl _, Nat.le_refl _⟩ h (fun M8 h => ?_)
    refine G_iinc (L' := [(2, .inl (l2 + 1)), (0, .inr (.inr 11)), (1, .inl l1), (3, .inl l3), (4, .inl l4)]) 2 rfl (mfx.lt mf52 (Nat.le_of_ble_eq_true rfl)) rfl (ck dc52 (i := 71) rfl) ?_
    refine G_goto (tgt := 52) (by decide) (ck dc52 (i := 72) rfl) ?_
    exact G_sub [1, 2, 0] rfl h
  · replace h := h.2 c
    refine G_aload_n 0 rfl rfl (ck dc52 (i := 45) rfl) ?_
    refine H_getR mf52 (ck dc52 (i := 46) rfl) fw_Clearing_44 fc1_13 ly11 ra11 rf11_13 (by decide) ?_
    refine G_iload_n 2 rfl rfl (ck dc52 (i := 47) rfl) ?_
    refine G_iload 4 rfl (ck dc52 (i := 48) rfl) ?_
    refine G_aload_n 0 rfl rfl (ck dc52 (i := 49) rfl) ?_
    refine G_iload_n 3 rfl rfl (ck dc52 (i := 50) rfl) ?_
    refine G_aload_n 0 rfl rfl (ck dc52 (i := 51) rfl) ?_
    refine H_getR mf52 (ck dc52 (i := 52) rfl) fw_Clearing_38 fc1_12 ly11 ra11 rf11_12 (by decide) ?_
    refine G_iload 4 rfl (ck dc52 (i := 53) rfl) ?_
    obtain ⟨o9, h⟩ := h
    refine H_iald (ck dc52 (i := 54) rfl) ly20 (by decide) ra20 o9 (x := (M 20 l4)) rfl ?_
    refine H_vL mf52 (As := [.inl l3, .inl (M 20 l4)]) (st := [.inl l4, .inl l2, .inr (.inr 21)]) (ck dc52 (i := 55) rfl) lk_Clearing_145 rfl rfl (Nat.le_of_ble_eq_true rfl) ly11 ra11 ⟨Nat.le_refl _, Nat.le_refl _⟩ h (fun r10 M11 h => ?_)
    refine H_vV mf52 (As := [.inl l2, .inl l4, .inr (.inl r10)]) (st := []) (ck dc52 (i := 56) rfl) lk_Clearing_148 rfl rfl (Nat.le_of_ble_eq_true rfl) ly21 ra21 ⟨Nat.le_refl _, Nat.le_refl _⟩ h (fun M13 h => ?_)
    refine G_iinc (L' := [(4, .inl (l4 + 1)), (0, .inr (.inr 11)), (1, .inl l1), (2, .inl l2), (3, .inl l3)]) 4 rfl (mfx.lt mf52 (Nat.le_of_ble_eq_true rfl)) rfl (ck dc52 (i := 57) rfl) ?_
    refine G_goto (tgt := 67) (by decide) (ck dc52 (i := 58) rfl) ?_
    exact G_sub [1, 2, 3, 4, 0] rfl h
theorem g_cp_balance_149 (K : Nat) (l1 l2 : Int) (M : PM) (Q : Option PV → PM → Prop)
    (h : R32 l2 ∧ R32 l1 ∧ (l1 ≤ l2 → Call K jClearing_spread [.inr (.inr 11)] P0 P0 M (retV fun M4 => Q none M4)) ∧ (¬ l1 ≤ l2 → (0 ≤ l2 ∧ l2 < 5) ∧ Call K jEquations_top [.inr (.inr 21), .inl l1, .inl l2] P0 P0 M (retL fun r6 M7 => (0 ≤ (M 20 l2) ∧ (M 20 l2) < 5) ∧ G none (K + 1) jClearing_balance 149 [(0, .inr (.inr 11)), (1, .inl l1), (2, .inl (l2 + 1))] [] P0 P0 (mset M7 19 (M 20 l2) r6) Q))) : G none (K + 1) jClearing_balance 149 [(0, .inr (.inr 11)), (1, .inl l1), (2, .inl l2)] [] P0 P0 M Q := by
  refine G_iload_n 2 rfl rfl (ck dc52 (i := 85) rfl) ?_
  refine G_iload_n 1 rfl rfl (ck dc52 (i := 86) rfl) ?_
  obtain ⟨o1, h⟩ := h
  obtain ⟨o2, h⟩ := h
  refine G_icmp_ge (tgt := 180) (by decide) o1 o2 (ck dc52 (i := 87) rfl) (fun c => ?_) (fun c => ?_)
  · replace h := h.1 c
    refine G_aload_n 0 rfl rfl (ck dc52 (i := 102) rfl) ?_
    refine H_vV mf52 (As := []) (st := []) (ck dc52 (i := 103) rfl) lk_Clearing_94 rfl rfl (Nat.le_of_ble_eq_true rfl) ly11 ra11 ⟨Nat.le_refl _, Nat.le_refl _⟩ h (fun M4 h => ?_)
    exact H_vret mf52 (ck dc52 (i := 104) rfl) rfl h
  · replace h := h.2 c
    refine G_aload_n 0 rfl rfl (ck dc52 (i := 88) rfl) ?_
    refine H_getR mf52 (ck dc52 (i := 89) rfl) fw_Clearing_35 fc1_11 ly11 ra11 rf11_11 (by decide) ?_
    refine G_aload_n 0 rfl rfl (ck dc52 (i := 90) rfl) ?_
    refine H_getR mf52 (ck dc52 (i := 91) rfl) fw_Clearing_38 fc1_12 ly11 ra11 rf11_12 (by decide) ?_
    refine G_iload_n 2 rfl rfl (ck dc52 (i := 92) rfl) ?_
    obtain ⟨o5, h⟩ := h
    refine H_iald (ck dc52 (i := 93) rfl) ly20 (by decide) ra20 o5 (x := (M 20 l2)) rfl ?_
    refine G_aload_n 0 rfl rfl (ck dc52 (i := 94) rfl) ?_
    refine H_getR mf52 (ck dc52 (i := 95) rfl) fw_Clearing_44 fc1_13 ly11 ra11 rf11_13 (by decide) ?_
    refine G_iload_n 1 rfl rfl (ck dc52 (i := 96) rfl) ?_
    refine G_iload_n 2 rfl rfl (ck dc52 (i := 97) rfl) ?_
    refine H_vL mf52 (As := [.inl l1, .inl l2]) (st := [.inl (M 20 l2), .inr (.inr 19)]) (ck dc52 (i := 98) rfl) lk_Clearing_158 rfl rfl (Nat.le_of_ble_eq_true rfl) ly21 ra21 ⟨Nat.le_refl _, Nat.le_refl _⟩ h (fun r6 M7 h => ?_)
    obtain ⟨o8, h⟩ := h
    refine G_last (ck dc52 (i := 99) rfl) ra19 ly19 (by decide) o8 ?_
    refine G_iinc (L' := [(2, .inl (l2 + 1)), (0, .inr (.inr 11)), (1, .inl l1)]) 2 rfl (mfx.lt mf52 (Nat.le_of_ble_eq_true rfl)) rfl (ck dc52 (i := 100) rfl) ?_
    refine G_goto (tgt := 149) (by decide) (ck dc52 (i := 101) rfl) ?_
    exact G_sub [1, 2, 0] rfl h
theorem c_cp_rising (K : Nat) (a1 : Int) (M : PM) (Q : Option PV → PM → Prop)
    (h : G none (K + 1) jClearing_rising 4 [(0, .inr (.inr 11)), (1, .inl a1), (2, .inl 0), (3, .inl 0)] [] P0 P0 M Q) : Call (K + 1) jClearing_rising [.inr (.inr 11), .inl a1] P0 P0 M Q := by
  refine Call.intro (by decide +kernel) (mfx.le mf60 (Nat.le_of_ble_eq_true rfl)) (Nat.le_refl _) rfl ?_
  refine G_iconst (ck dc60 (i := 0) rfl) ?_
  refine G_istore_n (L' := [(2, .inl 0), (0, .inr (.inr 11)), (1, .inl a1)]) rfl (mfx.lt mf60 (Nat.le_of_ble_eq_true rfl)) rfl (ck dc60 (i := 1) rfl) ?_
  refine G_iconst (ck dc60 (i := 2) rfl) ?_
  refine G_istore_n (L' := [(3, .inl 0), (2, .inl 0), (0, .inr (.inr 11)), (1, .inl a1)]) rfl (mfx.lt mf60 (Nat.le_of_ble_eq_true rfl)) rfl (ck dc60 (i := 3) rfl) ?_
  exact G_sub [2, 3, 1, 0] rfl h
set_option maxHeartbeats 20000000 in
theorem g_cp_rising_4 (K : Nat) (l1 l2 l3 : Int) (M : PM) (Q : Option PV → PM → Prop)
    (h : R32 l3 ∧ R32 (M 1 0) ∧ ((M 1 0) ≤ l3 → Q (some (.inl l2)) M) ∧ (¬ (M 1 0) ≤ l3 → R32 (bAnd (bShr l1 l3) 1) ∧ ((bAnd (bShr l1 l3) 1) = 0 → G none (K + 1) jClearing_rising 4 [(0, .inr (.inr 11)), (1, .inl l1), (2, .inl l2), (3, .inl (l3 + 1))] [] P0 P0 M Q) ∧ (¬ (bAnd (bShr l1 l3) 1) = 0 → (0 ≤ l3 ∧ l3 < 5) ∧ R32 (M 18 l3) ∧ (¬ (M 18 l3) = 0 → G none (K + 1) jClearing_rising 4 [(0, .inr (.inr 11)), (1, .inl l1), (2, .inl l2), (3, .inl (l3 + 1))] [] P0 P0 M Q) ∧ ((M 18 l3) = 0 → Call K jClearing_restTenths [.inr (.inr 11), .inl l3] P0 P0 M (retL fun r6 M7 => Call K jClearing_heldTenths [.inr (.inr 11), .inl l3] P0 P0 M7 (retL fun r8 M9 => R64 r6 ∧ R64 r8 ∧ (r6 ≤ r8 → G none (K + 1) jClearing_rising 4 [(0, .inr (.inr 11)), (1, .inl l1), (2, .inl l2), (3, .inl (l3 + 1))] [] P0 P0 M9 Q) ∧ (¬ r6 ≤ r8 → G none (K + 1) jClearing_rising 4 [(0, .inr (.inr 11)), (1, .inl l1), (2, .inl (bOr l2 (bShl 1 l3))), (3, .inl (l3 + 1))] [] P0 P0 M9 Q))))))) : G none (K + 1) jClearing_rising 4 [(0, .inr (.inr 11)), (1, .inl l1), (2, .inl l2), (3, .inl l3)] [] P0 P0 M Q := by
  refine G_iload_n 3 rfl rfl (ck dc60 (i := 4) rfl) ?_
  refine G_aload_n 0 rfl rfl (ck dc60 (i := 5) rfl) ?_
  refine H_getR mf60 (ck dc60 (i := 6) rfl) fw_Clearing_48 fc1_3 ly11 ra11 rf11_3 (by decide) ?_
  refine H_getI mf60 (ck dc60 (i := 7) rfl) fw_Clearing_109 (Or.inl fc0_0) ly1 ra1 (x := (M 1 0)) rfl ?_
  obtain ⟨o1, h⟩ := h
  obtain ⟨o2, h⟩ := h
  refine G_icmp_ge (tgt := 70) (by decide) o1 o2 (ck dc60 (i := 8) rfl) (fun c => ?_) (fun c => ?_)
  · replace h := h.1 c
    refine G_iload_n 2 rfl rfl (ck dc60 (i := 42) rfl) ?_
    exact H_iretI mf60 (ck dc60 (i := 43) rfl) rfl h
  · replace h := h.2 c
    refine G_iload_n 1 rfl rfl (ck dc60 (i := 9) rfl) ?_
    refine G_iload_n 3 rfl rfl (ck dc60 (i := 10) rfl) ?_
    refine G_ishr (ck dc60 (i := 11) rfl) ?_
    refine G_iconst (ck dc60 (i := 12) rfl) ?_
    refine G_iand (ck dc60 (i := 13) rfl) ?_
    obtain ⟨o3, h⟩ := h
    refine G_if_eq (tgt := 36) (by decide) o3 (ck dc60 (i := 14) rfl) (fun c => ?_) (fun c => ?_)
    · replace h := h.1 c
      refine G_iconst (ck dc60 (i := 22) rfl) ?_
      refine G_istore (L' := [(4, .inl 0), (0, .inr (.inr 11)), (1, .inl l1), (2, .inl l2), (3, .inl l3)]) (mfx.lt mf60 (Nat.le_of_ble_eq_true rfl)) rfl (ck dc60 (i := 23) rfl) ?_
      refine G_iload 0 rfl (ck dc60 (i := 24) rfl) ?_
      refine G_if_eq (tgt := 64) (by decide) (by decide) (ck dc60 (i := 25) rfl) (fun c => ?_) (fun c => absurd c (by decide))
      refine G_iinc (L' := [(3, .inl (l3 + 1)), (4, .inl 0), (0, .inr (.inr 11)), (1, .inl l1), (2, .inl l2)]) 4 rfl (mfx.lt mf60 (Nat.le_of_ble_eq_true rfl)) rfl (ck dc60 (i := 40) rfl) ?_
      refine G_goto (tgt := 4) (by decide) (ck dc60 (i := 41) rfl) ?_
      exact G_sub [2, 3, 4, 0] rfl h
    · replace h := h.2 c
      refine G_aload_n 0 rfl rfl (ck dc60 (i := 15) rfl) ?_
      refine H_getR mf60 (ck dc60 (i := 16) rfl) fw_Clearing_31 fc1_10 ly11 ra11 rf11_10 (by decide) ?_
      refine G_iload_n 3 rfl rfl (ck dc60 (i := 17) rfl) ?_
      obtain ⟨o4, h⟩ := h
      refine H_zald (ck dc60 (i := 18) rfl) ly18 (by decide) ra18 o4 (x := (M 18 l3)) rfl ?_
      obtain ⟨o5, h⟩ := h
      refine G_if_ne (tgt := 36) (by decide) o5 (ck dc60 (i := 19) rfl) (fun c => ?_) (fun c => ?_)
      · replace h := h.1 c
        refine G_iconst (ck dc60 (i := 22) rfl) ?_
        refine G_istore (L' := [(4, .inl 0), (0, .inr (.inr 11)), (1, .inl l1), (2, .inl l2), (3, .inl l3)]) (mfx.lt mf60 (Nat.le_of_ble_eq_true rfl)) rfl (ck dc60 (i := 23) rfl) ?_
        refine G_iload 0 rfl (ck dc60 (i := 24) rfl) ?_
        refine G_if_eq (tgt := 64) (by decide) (by decide) (ck dc60 (i := 25) rfl) (fun c => ?_) (fun c => absurd c (by decide))
        refine G_iinc (L' := [(3, .inl (l3 + 1)), (4, .inl 0), (0, .inr (.inr 11)), (1, .inl l1), (2, .inl l2)]) 4 rfl (mfx.lt mf60 (Nat.le_of_ble_eq_true rfl)) rfl (ck dc60 (i := 40) rfl) ?_
        refine G_goto (tgt := 4) (by decide) (ck dc60 (i := 41) rfl) ?_
        exact G_sub [2, 3, 4, 0] rfl h
      · replace h := h.2 c
        refine G_iconst (ck dc60 (i := 20) rfl) ?_
        refine G_goto (tgt := 37) (by decide) (ck dc60 (i := 21) rfl) ?_
        refine G_istore (L' := [(4, .inl 1), (0, .inr (.inr 11)), (1, .inl l1), (2, .inl l2), (3, .inl l3)]) (mfx.lt mf60 (Nat.le_of_ble_eq_true rfl)) rfl (ck dc60 (i := 23) rfl) ?_
        refine G_iload 0 rfl (ck dc60 (i := 24) rfl) ?_
        refine G_if_eq (tgt := 64) (by decide) (by decide) (ck dc60 (i := 25) rfl) (fun c => absurd c (by decide)) (fun c => ?_)
        refine G_aload_n 1 rfl rfl (ck dc60 (i := 26) rfl) ?_
        refine G_iload_n 4 rfl rfl (ck dc60 (i := 27) rfl) ?_
        refine H_vL mf60 (As := [.inl l3]) (st := []) (ck dc60 (i := 28) rfl) lk_Clearing_116 rfl rfl (Nat.le_of_ble_eq_true rfl) ly11 ra11 ⟨Nat.le_refl _, Nat.le_refl _⟩ h (fun r6 M7 h => ?_)
        refine G_aload_n 1 rfl rfl (ck dc60 (i := 29) rfl) ?_
        refine G_iload_n 4 rfl rfl (ck dc60 (i := 30) rfl) ?_
        refine H_vL mf60 (As := [.inl l3]) (st := [.inr (.inl r6)]) (ck dc60 (i := 31) rfl) lk_Clearing_120 rfl rfl (Nat.le_of_ble_eq_true rfl) ly11 ra11 ⟨Nat.le_refl _, Nat.le_refl _⟩ h (fun r8 M9 h => ?_)
        obtain ⟨o10, h⟩ := h
        obtain ⟨o11, h⟩ := h
        refine G_lif_le (tgt := 64) (ck dc60 (i := 33) rfl) (by decide) o10 o11 (ck dc60 (i := 32) rfl) (fun c => ?_) (fun c => ?_)
        · replace h := h.1 c
          refine G_iinc (L' := [(3, .inl (l3 + 1)), (4, .inl 1), (0, .inr (.inr 11)), (1, .inl l1), (2, .inl l2)]) 4 rfl (mfx.lt mf60 (Nat.le_of_ble_eq_true rfl)) rfl (ck dc60 (i := 40) rfl) ?_
          refine G_goto (tgt := 4) (by decide) (ck dc60 (i := 41) rfl) ?_
          exact G_sub [2, 3, 4, 0] rfl h
        · replace h := h.2 c
          refine G_iload_n 3 rfl rfl (ck dc60 (i := 34) rfl) ?_
          refine G_iconst (ck dc60 (i := 35) rfl) ?_
          refine G_iload_n 4 rfl rfl (ck dc60 (i := 36) rfl) ?_
          refine G_ishl (ck dc60 (i := 37) rfl) ?_
          refine G_ior (ck dc60 (i := 38) rfl) ?_
          refine G_istore_n (L' := [(2, .inl (bOr l2 (bShl 1 l3))), (4, .inl 1), (0, .inr (.inr 11)), (1, .inl l1), (3, .inl l3)]) rfl (mfx.lt mf60 (Nat.le_of_ble_eq_true rfl)) rfl (ck dc60 (i := 39) rfl) ?_
          refine G_iinc (L' := [(3, .inl (l3 + 1)), (2, .inl (bOr l2 (bShl 1 l3))), (4, .inl 1), (0, .inr (.inr 11)), (1, .inl l1)]) 4 rfl (mfx.lt mf60 (Nat.le_of_ble_eq_true rfl)) rfl (ck dc60 (i := 40) rfl) ?_
          refine G_goto (tgt := 4) (by decide) (ck dc60 (i := 41) rfl) ?_
          exact G_sub [3, 4, 1, 0] rfl h
theorem c_cp_lower (K : Nat) (a1 : Int) (M : PM) (Q : Option PV → PM → Prop)
    (h : G none (K + 1) jClearing_lower 2 [(0, .inr (.inr 11)), (1, .inl a1), (2, .inl 0)] [] P0 P0 M Q) : Call (K + 1) jClearing_lower [.inr (.inr 11), .inl a1] P0 P0 M Q := by
  refine Call.intro (by decide +kernel) (mfx.le mf50 (Nat.le_of_ble_eq_true rfl)) (Nat.le_refl _) rfl ?_
  refine G_iconst (ck dc50 (i := 0) rfl) ?_
  refine G_istore_n (L' := [(2, .inl 0), (0, .inr (.inr 11)), (1, .inl a1)]) rfl (mfx.lt mf50 (Nat.le_of_ble_eq_true rfl)) rfl (ck dc50 (i := 1) rfl) ?_
  exact G_sub [1, 2, 0] rfl h
set_option maxHeartbeats 20000000 in
theorem g_cp_lower_2 (K : Nat) (l1 l2 : Int) (M : PM) (Q : Option PV → PM → Prop)
    (h : R32 l2 ∧ R32 (M 1 0) ∧ ((M 1 0) ≤ l2 → Call K jClearing_balance [.inr (.inr 11)] P0 P0 M (retV fun M4 => G none (K + 1) jClearing_lower 55 [(0, .inr (.inr 11)), (1, .inl l1), (2, .inl 0)] [] P0 P0 M4 Q)) ∧ (¬ (M 1 0) ≤ l2 → R32 (bAnd (bShr l1 l2) 1) ∧ ((bAnd (bShr l1 l2) 1) = 0 → G none (K + 1) jClearing_lower 2 [(0, .inr (.inr 11)), (1, .inl l1), (2, .inl (l2 + 1))] [] P0 P0 M Q) ∧ (¬ (bAnd (bShr l1 l2) 1) = 0 → Call K jClearing_margin [.inr (.inr 11), .inl l2] P0 P0 M (retI fun r6 M7 => R32 r6 ∧ (0 ≤ l2 ∧ l2 < 5) ∧ G none (K + 1) jClearing_lower 2 [(0, .inr (.inr 11)), (1, .inl l1), (2, .inl (l2 + 1))] [] P0 P0 (mset (mset M7 17 l2 (mx2 r6 0)) 18 l2 0) Q)))) : G none (K + 1) jClearing_lower 2 [(0, .inr (.inr 11)), (1, .inl l1), (2, .inl l2)] [] P0 P0 M Q := by
  refine G_iload_n 2 rfl rfl (ck dc50 (i := 2) rfl) ?_
  refine G_aload_n 0 rfl rfl (ck dc50 (i := 3) rfl) ?_
  refine H_getR mf50 (ck dc50 (i := 4) rfl) fw_Clearing_48 fc1_3 ly11 ra11 rf11_3 (by decide) ?_
  refine H_getI mf50 (ck dc50 (i := 5) rfl) fw_Clearing_109 (Or.inl fc0_0) ly1 ra1 (x := (M 1 0)) rfl ?_
  obtain ⟨o1, h⟩ := h
  obtain ⟨o2, h⟩ := h
  refine G_icmp_ge (tgt := 49) (by decide) o1 o2 (ck dc50 (i := 6) rfl) (fun c => ?_) (fun c => ?_)
  · replace h := h.1 c
    refine G_aload_n 0 rfl rfl (ck dc50 (i := 29) rfl) ?_
    refine H_vV mf50 (As := []) (st := []) (ck dc50 (i := 30) rfl) lk_Clearing_139 rfl rfl (Nat.le_of_ble_eq_true rfl) ly11 ra11 ⟨Nat.le_refl _, Nat.le_refl _⟩ h (fun M4 h => ?_)
    refine G_iconst (ck dc50 (i := 31) rfl) ?_
    refine G_istore_n (L' := [(2, .inl 0), (0, .inr (.inr 11)), (1, .inl l1)]) rfl (mfx.lt mf50 (Nat.le_of_ble_eq_true rfl)) rfl (ck dc50 (i := 32) rfl) ?_
    exact G_sub [1, 2, 0] rfl h
  · replace h := h.2 c
    refine G_iload_n 1 rfl rfl (ck dc50 (i := 7) rfl) ?_
    refine G_iload_n 2 rfl rfl (ck dc50 (i := 8) rfl) ?_
    refine G_ishr (ck dc50 (i := 9) rfl) ?_
    refine G_iconst (ck dc50 (i := 10) rfl) ?_
    refine G_iand (ck dc50 (i := 11) rfl) ?_
    obtain ⟨o5, h⟩ := h
    refine G_if_eq (tgt := 43) (by decide) o5 (ck dc50 (i := 12) rfl) (fun c => ?_) (fun c => ?_)
    · replace h := h.1 c
      refine G_iinc (L' := [(2, .inl (l2 + 1)), (0, .inr (.inr 11)), (1, .inl l1)]) 2 rfl (mfx.lt mf50 (Nat.le_of_ble_eq_true rfl)) rfl (ck dc50 (i := 27) rfl) ?_
      refine G_goto (tgt := 2) (by decide) (ck dc50 (i := 28) rfl) ?_
      exact G_sub [1, 2, 0] rfl h
    · replace h := h.2 c
      refine G_aload_n 0 rfl rfl (ck dc50 (i := 13) rfl) ?_
      refine H_getR mf50 (ck dc50 (i := 14) rfl) fw_Clearing_28 fc1_9 ly11 ra11 rf11_9 (by decide) ?_
      refine G_iload_n 2 rfl rfl (ck dc50 (i := 15) rfl) ?_
      refine G_aload_n 0 rfl rfl (ck dc50 (i := 16) rfl) ?_
      refine G_iload_n 2 rfl rfl (ck dc50 (i := 17) rfl) ?_
      refine H_vI mf50 (As := [.inl l2]) (st := [.inl l2, .inr (.inr 17)]) (ck dc50 (i := 18) rfl) lk_Clearing_123 rfl rfl (Nat.le_of_ble_eq_true rfl) ly11 ra11 ⟨Nat.le_refl _, Nat.le_refl _⟩ h (fun r6 M7 h => ?_)
      refine G_iconst (ck dc50 (i := 19) rfl) ?_
      obtain ⟨o8, h⟩ := h
      refine H_mmax mf50 (ck dc50 (i := 20) rfl) lm_Clearing_134 (Nat.le_refl _) (Nat.le_of_ble_eq_true rfl) o8 (by decide) ?_
      obtain ⟨o9, h⟩ := h
      refine G_iast (ck dc50 (i := 21) rfl) ra17 ly17 (by decide) o9 ?_
      refine G_aload_n 0 rfl rfl (ck dc50 (i := 22) rfl) ?_
      refine H_getR mf50 (ck dc50 (i := 23) rfl) fw_Clearing_31 fc1_10 ly11 ra11 rf11_10 (by decide) ?_
      refine G_iload_n 2 rfl rfl (ck dc50 (i := 24) rfl) ?_
      refine G_iconst (ck dc50 (i := 25) rfl) ?_
      refine G_zast (ck dc50 (i := 26) rfl) ra18 ly18 (by decide) o9 (Or.inl rfl) ?_
      refine G_iinc (L' := [(2, .inl (l2 + 1)), (0, .inr (.inr 11)), (1, .inl l1)]) 2 rfl (mfx.lt mf50 (Nat.le_of_ble_eq_true rfl)) rfl (ck dc50 (i := 27) rfl) ?_
      refine G_goto (tgt := 2) (by decide) (ck dc50 (i := 28) rfl) ?_
      exact G_sub [1, 2, 0] rfl h
theorem g_cp_lower_55 (K : Nat) (l1 l2 : Int) (M : PM) (Q : Option PV → PM → Prop)
    (h : R32 l2 ∧ (5 ≤ l2 → Q none M) ∧ (¬ 5 ≤ l2 → Call K jClearing_rising [.inr (.inr 11), .inl l1] P0 P0 M (retI fun r2 M3 => R32 r2 ∧ (¬ r2 = 0 → G none (K + 1) jClearing_lower 74 [(0, .inr (.inr 11)), (1, .inl l1), (2, .inl l2), (3, .inl r2), (4, .inl 0)] [] P0 P0 M3 Q) ∧ (r2 = 0 → Q none M3)))) : G none (K + 1) jClearing_lower 55 [(0, .inr (.inr 11)), (1, .inl l1), (2, .inl l2)] [] P0 P0 M Q := by
  refine G_iload_n 2 rfl rfl (ck dc50 (i := 33) rfl) ?_
  refine G_iconst (ck dc50 (i := 34) rfl) ?_
  obtain ⟨o1, h⟩ := h
  refine G_icmp_ge (tgt := 119) (by decide) o1 (by decide) (ck dc50 (i := 35) rfl) (fun c => ?_) (fun c => ?_)
  · replace h := h.1 c
    exact H_vret mf50 (ck dc50 (i := 67) rfl) rfl h
  · replace h := h.2 c
    refine G_aload_n 0 rfl rfl (ck dc50 (i := 36) rfl) ?_
    refine G_iload_n 1 rfl rfl (ck dc50 (i := 37) rfl) ?_
    refine H_vI mf50 (As := [.inl l1]) (st := []) (ck dc50 (i := 38) rfl) lk_Clearing_142 rfl rfl (Nat.le_of_ble_eq_true rfl) ly11 ra11 ⟨Nat.le_refl _, Nat.le_refl _⟩ h (fun r2 M3 h => ?_)
    refine G_istore_n (L' := [(3, .inl r2), (0, .inr (.inr 11)), (1, .inl l1), (2, .inl l2)]) rfl (mfx.lt mf50 (Nat.le_of_ble_eq_true rfl)) rfl (ck dc50 (i := 39) rfl) ?_
    refine G_iload_n 0 rfl rfl (ck dc50 (i := 40) rfl) ?_
    obtain ⟨o4, h⟩ := h
    refine G_if_ne (tgt := 71) (by decide) o4 (ck dc50 (i := 41) rfl) (fun c => ?_) (fun c => ?_)
    · replace h := h.1 c
      refine G_iconst (ck dc50 (i := 43) rfl) ?_
      refine G_istore (L' := [(4, .inl 0), (3, .inl r2), (0, .inr (.inr 11)), (1, .inl l1), (2, .inl l2)]) (mfx.lt mf50 (Nat.le_of_ble_eq_true rfl)) rfl (ck dc50 (i := 44) rfl) ?_
      exact G_sub [2, 3, 4, 1, 0] rfl h
    · replace h := h.2 c
      exact H_vret mf50 (ck dc50 (i := 42) rfl) rfl h
