theorem g_ct_lower_74 (K : Nat) (l1 l2 l3 l4 : Int) (M : PM) (Q : Option PV → PM → Prop)
    (h : R32 l4 ∧ R32 (M 1 0) ∧ ((M 1 0) ≤ l4 → Call K jClearing_balance [.inr (.inr 24)] P0 P0 M (retV fun M4 => G none (K + 1) jClearing_lower 55 [(0, .inr (.inr 24)), (1, .inl l1), (2, .inl (l2 + 1))] [] P0 P0 M4 Q)) ∧ (¬ (M 1 0) ≤ l4 → R32 (bAnd (bShr l3 l4) 1) ∧ ((bAnd (bShr l3 l4) 1) = 0 → G none (K + 1) jClearing_lower 74 [(0, .inr (.inr 24)), (1, .inl l1), (2, .inl l2), (3, .inl l3), (4, .inl (l4 + 1))] [] P0 P0 M Q) ∧ (¬ (bAnd (bShr l3 l4) 1) = 0 → (0 ≤ l4 ∧ l4 < 5) ∧ G none (K + 1) jClearing_lower 74 [(0, .inr (.inr 24)), (1, .inl l1), (2, .inl l2), (3, .inl l3), (4, .inl (l4 + 1))] [] P0 P0 (mset M 31 l4 1) Q))) : G none (K + 1) jClearing_lower 74 [(0, .inr (.inr 24)), (1, .inl l1), (2, .inl l2), (3, .inl l3), (4, .inl l4)] [] P0 P0 M Q := by
  refine G_iload 4 rfl (ck dc50 (i := 45) rfl) ?_
  refine G_aload_n 0 rfl rfl (ck dc50 (i := 46) rfl) ?_
  refine H_getR mf50 (ck dc50 (i := 47) rfl) fw_Clearing_48 fc1_3 ly24 ra24 rf24_3 (by decide) ?_
  refine H_getI mf50 (ck dc50 (i := 48) rfl) fw_Clearing_109 (Or.inl fc0_0) ly1 ra1 (x := (M 1 0)) rfl ?_
  obtain ⟨o1, h⟩ := h
  obtain ⟨o2, h⟩ := h
  refine G_icmp_ge (tgt := 109) (by decide) o1 o2 (ck dc50 (i := 49) rfl) (fun c => ?_) (fun c => ?_)
  · replace h := h.1 c
    refine G_aload_n 0 rfl rfl (ck dc50 (i := 63) rfl) ?_
    refine H_vV mf50 (As := []) (st := []) (ck dc50 (i := 64) rfl) lk_Clearing_139 rfl rfl (Nat.le_of_ble_eq_true rfl) ly24 ra24 ⟨Nat.le_refl _, Nat.le_refl _⟩ h (fun M4 h => ?_)
    refine G_iinc (L' := [(2, .inl (l2 + 1)), (0, .inr (.inr 24)), (1, .inl l1), (3, .inl l3), (4, .inl l4)]) 2 rfl (mfx.lt mf50 (Nat.le_of_ble_eq_true rfl)) rfl (ck dc50 (i := 65) rfl) ?_
    refine G_goto (tgt := 55) (by decide) (ck dc50 (i := 66) rfl) ?_
    exact G_sub [1, 2, 0] rfl h
  · replace h := h.2 c
    refine G_iload_n 3 rfl rfl (ck dc50 (i := 50) rfl) ?_
    refine G_iload 4 rfl (ck dc50 (i := 51) rfl) ?_
    refine G_ishr (ck dc50 (i := 52) rfl) ?_
    refine G_iconst (ck dc50 (i := 53) rfl) ?_
    refine G_iand (ck dc50 (i := 54) rfl) ?_
    obtain ⟨o5, h⟩ := h
    refine G_if_eq (tgt := 103) (by decide) o5 (ck dc50 (i := 55) rfl) (fun c => ?_) (fun c => ?_)
    · replace h := h.1 c
      refine G_iinc (L' := [(4, .inl (l4 + 1)), (0, .inr (.inr 24)), (1, .inl l1), (2, .inl l2), (3, .inl l3)]) 4 rfl (mfx.lt mf50 (Nat.le_of_ble_eq_true rfl)) rfl (ck dc50 (i := 61) rfl) ?_
      refine G_goto (tgt := 74) (by decide) (ck dc50 (i := 62) rfl) ?_
      exact G_sub [1, 2, 3, 4, 0] rfl h
    · replace h := h.2 c
      refine G_aload_n 0 rfl rfl (ck dc50 (i := 56) rfl) ?_
      refine H_getR mf50 (ck dc50 (i := 57) rfl) fw_Clearing_31 fc1_10 ly24 ra24 rf24_10 (by decide) ?_
      refine G_iload 4 rfl (ck dc50 (i := 58) rfl) ?_
      refine G_iconst (ck dc50 (i := 59) rfl) ?_
      obtain ⟨o6, h⟩ := h
      refine G_zast (ck dc50 (i := 60) rfl) ra31 ly31 (by decide) o6 (Or.inr rfl) ?_
      refine G_iinc (L' := [(4, .inl (l4 + 1)), (0, .inr (.inr 24)), (1, .inl l1), (2, .inl l2), (3, .inl l3)]) 4 rfl (mfx.lt mf50 (Nat.le_of_ble_eq_true rfl)) rfl (ck dc50 (i := 61) rfl) ?_
      refine G_goto (tgt := 74) (by decide) (ck dc50 (i := 62) rfl) ?_
      exact G_sub [1, 2, 3, 4, 0] rfl h
theorem c_ct_run (K : Nat) (M : PM) (Q : Option PV → PM → Prop)
    (h : Call K jClearing_begin [.inr (.inr 24)] P0 P0 M (retV fun M2 => G none (K + 1) jClearing_run 6 [(0, .inr (.inr 24)), (1, .inl 0)] [] P0 P0 M2 Q)) : Call (K + 1) jClearing_run [.inr (.inr 24)] P0 P0 M Q := by
  refine Call.intro (by decide +kernel) (mfx.le mf41 (Nat.le_of_ble_eq_true rfl)) (Nat.le_refl _) rfl ?_
  refine G_aload_n 0 rfl rfl (ck dc41 (i := 0) rfl) ?_
  refine H_vV mf41 (As := []) (st := []) (ck dc41 (i := 1) rfl) lk_Clearing_55 rfl rfl (Nat.le_of_ble_eq_true rfl) ly24 ra24 ⟨Nat.le_refl _, Nat.le_refl _⟩ h (fun M2 h => ?_)
  refine G_iconst (ck dc41 (i := 2) rfl) ?_
  refine G_istore_n (L' := [(1, .inl 0), (0, .inr (.inr 24))]) rfl (mfx.lt mf41 (Nat.le_of_ble_eq_true rfl)) rfl (ck dc41 (i := 3) rfl) ?_
  exact G_sub [1, 0] rfl h
theorem g_ct_run_6 (K : Nat) (l1 : Int) (M : PM) (Q : Option PV → PM → Prop)
    (h : R32 l1 ∧ (1000 ≤ l1 → Q none M) ∧ (¬ 1000 ≤ l1 → Call K jClearing_sinking [.inr (.inr 24)] P0 P0 M (retI fun r2 M3 => R32 r2 ∧ (r2 = 0 → Call K jClearing_keepRound [.inr (.inr 24)] P0 P0 M3 (retV fun M6 => Call K jClearing_nextWave [.inr (.inr 24)] P0 P0 M6 (retI fun r7 M8 => R32 r7 ∧ (¬ r7 = 0 → G none (K + 1) jClearing_run 6 [(0, .inr (.inr 24)), (1, .inl (l1 + 1))] [] P0 P0 M8 Q) ∧ (r7 = 0 → Q none M8)))) ∧ (¬ r2 = 0 → Call K jClearing_reached [.inr (.inr 24), .inl r2] P0 P0 M3 (retI fun r10 M11 => Call K jClearing_lower [.inr (.inr 24), .inl r10] P0 P0 M11 (retV fun M13 => G none (K + 1) jClearing_run 6 [(0, .inr (.inr 24)), (1, .inl (l1 + 1))] [] P0 P0 M13 Q)))))) : G none (K + 1) jClearing_run 6 [(0, .inr (.inr 24)), (1, .inl l1)] [] P0 P0 M Q := by
  refine G_iload_n 1 rfl rfl (ck dc41 (i := 4) rfl) ?_
  refine G_sipush (n := 1000) rfl (ck dc41 (i := 5) rfl) ?_
  obtain ⟨o1, h⟩ := h
  refine G_icmp_ge (tgt := 52) (by decide) o1 (by decide) (ck dc41 (i := 6) rfl) (fun c => ?_) (fun c => ?_)
  · replace h := h.1 c
    exact H_vret mf41 (ck dc41 (i := 26) rfl) rfl h
  · replace h := h.2 c
    refine G_aload_n 0 rfl rfl (ck dc41 (i := 7) rfl) ?_
    refine H_vI mf41 (As := []) (st := []) (ck dc41 (i := 8) rfl) lk_Clearing_58 rfl rfl (Nat.le_of_ble_eq_true rfl) ly24 ra24 ⟨Nat.le_refl _, Nat.le_refl _⟩ h (fun r2 M3 h => ?_)
    refine G_istore_n (L' := [(2, .inl r2), (0, .inr (.inr 24)), (1, .inl l1)]) rfl (mfx.lt mf41 (Nat.le_of_ble_eq_true rfl)) rfl (ck dc41 (i := 9) rfl) ?_
    refine G_iload_n 0 rfl rfl (ck dc41 (i := 10) rfl) ?_
    obtain ⟨o4, h⟩ := h
    refine G_if_eq (tgt := 34) (by decide) o4 (ck dc41 (i := 11) rfl) (fun c => ?_) (fun c => ?_)
    · replace h := h.1 c
      refine G_aload_n 1 rfl rfl (ck dc41 (i := 18) rfl) ?_
      refine H_vV mf41 (As := []) (st := []) (ck dc41 (i := 19) rfl) lk_Clearing_70 rfl rfl (Nat.le_of_ble_eq_true rfl) ly24 ra24 ⟨Nat.le_refl _, Nat.le_refl _⟩ h (fun M6 h => ?_)
      refine G_aload_n 1 rfl rfl (ck dc41 (i := 20) rfl) ?_
      refine H_vZ mf41 (As := []) (st := []) (ck dc41 (i := 21) rfl) lk_Clearing_73 rfl rfl (Nat.le_of_ble_eq_true rfl) ly24 ra24 ⟨Nat.le_refl _, Nat.le_refl _⟩ h (fun r7 M8 h => ?_)
      obtain ⟨o9, h⟩ := h
      refine G_if_ne (tgt := 46) (by decide) o9 (ck dc41 (i := 22) rfl) (fun c => ?_) (fun c => ?_)
      · replace h := h.1 c
        refine G_iinc (L' := [(1, .inl (l1 + 1)), (2, .inl r2), (0, .inr (.inr 24))]) 2 rfl (mfx.lt mf41 (Nat.le_of_ble_eq_true rfl)) rfl (ck dc41 (i := 24) rfl) ?_
        refine G_goto (tgt := 6) (by decide) (ck dc41 (i := 25) rfl) ?_
        exact G_sub [2, 0] rfl h
      · replace h := h.2 c
        exact H_vret mf41 (ck dc41 (i := 23) rfl) rfl h
    · replace h := h.2 c
      refine G_aload_n 1 rfl rfl (ck dc41 (i := 12) rfl) ?_
      refine G_aload_n 1 rfl rfl (ck dc41 (i := 13) rfl) ?_
      refine G_iload_n 0 rfl rfl (ck dc41 (i := 14) rfl) ?_
      refine H_vI mf41 (As := [.inl r2]) (st := [.inr (.inr 24)]) (ck dc41 (i := 15) rfl) lk_Clearing_62 rfl rfl (Nat.le_of_ble_eq_true rfl) ly24 ra24 ⟨Nat.le_refl _, Nat.le_refl _⟩ h (fun r10 M11 h => ?_)
      refine H_vV mf41 (As := [.inl r10]) (st := []) (ck dc41 (i := 16) rfl) lk_Clearing_66 rfl rfl (Nat.le_of_ble_eq_true rfl) ly24 ra24 ⟨Nat.le_refl _, Nat.le_refl _⟩ h (fun M13 h => ?_)
      refine G_goto (tgt := 46) (by decide) (ck dc41 (i := 17) rfl) ?_
      refine G_iinc (L' := [(1, .inl (l1 + 1)), (2, .inl r2), (0, .inr (.inr 24))]) 2 rfl (mfx.lt mf41 (Nat.le_of_ble_eq_true rfl)) rfl (ck dc41 (i := 24) rfl) ?_
      refine G_goto (tgt := 6) (by decide) (ck dc41 (i := 25) rfl) ?_
      exact G_sub [2, 0] rfl h
theorem c_ct_top (K : Nat) (a1 a2 a3 : Int) (M : PM) (Q : Option PV → PM → Prop)
    (h : (0 ≤ (((a1 * 15) + (a2 * 3)) + a3) ∧ (((a1 * 15) + (a2 * 3)) + a3) < 90) ∧ Q (some (.inr (.inl (M 26 (((a1 * 15) + (a2 * 3)) + a3))))) M) : Call (K + 1) jClearing_top [.inr (.inr 24), .inl a1, .inl a2, .inl a3] P0 P0 M Q := by
  refine Call.intro (by decide +kernel) (mfx.le mf71 (Nat.le_of_ble_eq_true rfl)) (Nat.le_refl _) rfl ?_
  refine G_aload_n 0 rfl rfl (ck dc71 (i := 0) rfl) ?_
  refine H_getR mf71 (ck dc71 (i := 1) rfl) fw_Clearing_15 fc1_5 ly24 ra24 rf24_5 (by decide) ?_
  refine G_iload_n 1 rfl rfl (ck dc71 (i := 2) rfl) ?_
  refine G_bipush (n := 15) rfl (ck dc71 (i := 3) rfl) ?_
  refine G_imul (ck dc71 (i := 4) rfl) ?_
  refine G_iload_n 2 rfl rfl (ck dc71 (i := 5) rfl) ?_
  refine G_iconst (ck dc71 (i := 6) rfl) ?_
  refine G_imul (ck dc71 (i := 7) rfl) ?_
  refine G_iadd (ck dc71 (i := 8) rfl) ?_
  refine G_iload_n 3 rfl rfl (ck dc71 (i := 9) rfl) ?_
  refine G_iadd (ck dc71 (i := 10) rfl) ?_
  obtain ⟨o1, h⟩ := h
  refine H_lald (ck dc71 (i := 11) rfl) ly26 (by decide) ra26 o1 (x := (M 26 (((a1 * 15) + (a2 * 3)) + a3))) rfl ?_
  exact H_lret mf71 (ck dc71 (i := 12) rfl) rfl h
theorem c_ct_pays (K : Nat) (a1 : Int) (M : PM) (Q : Option PV → PM → Prop)
    (h : G none (K + 1) jClearing_pays 5 [(0, .inr (.inr 24)), (1, .inl a1), (2, .inr (.inl 0)), (4, .inl 0)] [] P0 P0 M Q) : Call (K + 1) jClearing_pays [.inr (.inr 24), .inl a1] P0 P0 M Q := by
  refine Call.intro (by decide +kernel) (mfx.le mf85 (Nat.le_of_ble_eq_true rfl)) (Nat.le_refl _) rfl ?_
  refine G_lconst (v := 0) rfl (ck dc85 (i := 0) rfl) ?_
  refine G_lstore_n (L' := [(2, .inr (.inl 0)), (0, .inr (.inr 24)), (1, .inl a1)]) rfl (mfx.lt mf85 (Nat.le_of_ble_eq_true rfl)) rfl (ck dc85 (i := 1) rfl) ?_
  refine G_iconst (ck dc85 (i := 2) rfl) ?_
  refine G_istore (L' := [(4, .inl 0), (2, .inr (.inl 0)), (0, .inr (.inr 24)), (1, .inl a1)]) (mfx.lt mf85 (Nat.le_of_ble_eq_true rfl)) rfl (ck dc85 (i := 3) rfl) ?_
  exact G_sub [2, 3, 1, 0] rfl h
theorem g_ct_pays_5 (K : Nat) (l1 l2 l4 : Int) (M : PM) (Q : Option PV → PM → Prop)
    (h : R32 l4 ∧ (3 ≤ l4 → Q (some (.inr (.inl l2))) M) ∧ (¬ 3 ≤ l4 → (0 ≤ ((l1 * 3) + l4) ∧ ((l1 * 3) + l4) < 15) ∧ R32 (M 28 ((l1 * 3) + l4)) ∧ Call K jClearing_top [.inr (.inr 24), .inl (M 24 0), .inl l1, .inl l4] P0 P0 M (retL fun r4 M5 => G none (K + 1) jClearing_pays 5 [(0, .inr (.inr 24)), (1, .inl l1), (2, .inr (.inl (l2 + ((M 28 ((l1 * 3) + l4)) * r4)))), (4, .inl (l4 + 1))] [] P0 P0 M5 Q))) : G none (K + 1) jClearing_pays 5 [(0, .inr (.inr 24)), (1, .inl l1), (2, .inr (.inl l2)), (4, .inl l4)] [] P0 P0 M Q := by
  refine G_iload 3 rfl (ck dc85 (i := 4) rfl) ?_
  refine G_iconst (ck dc85 (i := 5) rfl) ?_
  obtain ⟨o1, h⟩ := h
  refine G_icmp_ge (tgt := 44) (by decide) o1 (by decide) (ck dc85 (i := 6) rfl) (fun c => ?_) (fun c => ?_)
  · replace h := h.1 c
    refine G_lload_n 2 rfl rfl (ck dc85 (i := 28) rfl) ?_
    exact H_lret mf85 (ck dc85 (i := 29) rfl) rfl h
  · replace h := h.2 c
    refine G_lload_n 2 rfl rfl (ck dc85 (i := 7) rfl) ?_
    refine G_aload_n 0 rfl rfl (ck dc85 (i := 8) rfl) ?_
    refine H_getR mf85 (ck dc85 (i := 9) rfl) fw_Clearing_22 fc1_7 ly24 ra24 rf24_7 (by decide) ?_
    refine G_iload_n 1 rfl rfl (ck dc85 (i := 10) rfl) ?_
    refine G_iconst (ck dc85 (i := 11) rfl) ?_
    refine G_imul (ck dc85 (i := 12) rfl) ?_
    refine G_iload 3 rfl (ck dc85 (i := 13) rfl) ?_
    refine G_iadd (ck dc85 (i := 14) rfl) ?_
    obtain ⟨o2, h⟩ := h
    refine H_iald (ck dc85 (i := 15) rfl) ly28 (by decide) ra28 o2 (x := (M 28 ((l1 * 3) + l4))) rfl ?_
    obtain ⟨o3, h⟩ := h
    refine G_i2l o3 (ck dc85 (i := 16) rfl) ?_
    refine G_aload_n 0 rfl rfl (ck dc85 (i := 17) rfl) ?_
    refine G_aload_n 0 rfl rfl (ck dc85 (i := 18) rfl) ?_
    refine H_getI mf85 (ck dc85 (i := 19) rfl) fw_Clearing_77 (Or.inl fc1_0) ly24 ra24 (x := (M 24 0)) rfl ?_
    refine G_iload_n 1 rfl rfl (ck dc85 (i := 20) rfl) ?_
    refine G_iload 3 rfl (ck dc85 (i := 21) rfl) ?_
    refine H_vL mf85 (As := [.inl (M 24 0), .inl l1, .inl l4]) (st := [.inr (.inl (M 28 ((l1 * 3) + l4))), .inr (.inl l2)]) (ck dc85 (i := 22) rfl) lk_Clearing_173 rfl rfl (Nat.le_of_ble_eq_true rfl) ly24 ra24 ⟨Nat.le_refl _, Nat.le_refl _⟩ h (fun r4 M5 h => ?_)
    refine G_lmul (ck dc85 (i := 23) rfl) ?_
    refine G_ladd (ck dc85 (i := 24) rfl) ?_
    refine G_lstore_n (L' := [(2, .inr (.inl (l2 + ((M 28 ((l1 * 3) + l4)) * r4)))), (0, .inr (.inr 24)), (1, .inl l1), (4, .inl l4)]) rfl (mfx.lt mf85 (Nat.le_of_ble_eq_true rfl)) rfl (ck dc85 (i := 25) rfl) ?_
    refine G_iinc (L' := [(4, .inl (l4 + 1)), (2, .inr (.inl (l2 + ((M 28 ((l1 * 3) + l4)) * r4)))), (0, .inr (.inr 24)), (1, .inl l1)]) 3 rfl (mfx.lt mf85 (Nat.le_of_ble_eq_true rfl)) rfl (ck dc85 (i := 26) rfl) ?_
    refine G_goto (tgt := 5) (by decide) (ck dc85 (i := 27) rfl) ?_
    exact G_sub [2, 3, 1, 0] rfl h
theorem c_ct_allPaid (K : Nat) (M : PM) (Q : Option PV → PM → Prop)
    (h : G none (K + 1) jClearing_allPaid 4 [(0, .inr (.inr 24)), (1, .inr (.inl 0)), (3, .inl 0)] [] P0 P0 M Q) : Call (K + 1) jClearing_allPaid [.inr (.inr 24)] P0 P0 M Q := by
  refine Call.intro (by decide +kernel) (mfx.le mf84 (Nat.le_of_ble_eq_true rfl)) (Nat.le_refl _) rfl ?_
  refine G_lconst (v := 0) rfl (ck dc84 (i := 0) rfl) ?_
  refine G_lstore_n (L' := [(1, .inr (.inl 0)), (0, .inr (.inr 24))]) rfl (mfx.lt mf84 (Nat.le_of_ble_eq_true rfl)) rfl (ck dc84 (i := 1) rfl) ?_
  refine G_iconst (ck dc84 (i := 2) rfl) ?_
  refine G_istore_n (L' := [(3, .inl 0), (1, .inr (.inl 0)), (0, .inr (.inr 24))]) rfl (mfx.lt mf84 (Nat.le_of_ble_eq_true rfl)) rfl (ck dc84 (i := 3) rfl) ?_
  exact G_sub [2, 1, 0] rfl h
theorem g_ct_allPaid_4 (K : Nat) (l1 l3 : Int) (M : PM) (Q : Option PV → PM → Prop)
    (h : R32 l3 ∧ R32 (M 1 0) ∧ ((M 1 0) ≤ l3 → Q (some (.inr (.inl l1))) M) ∧ (¬ (M 1 0) ≤ l3 → Call K jClearing_pays [.inr (.inr 24), .inl l3] P0 P0 M (retL fun r3 M4 => G none (K + 1) jClearing_allPaid 4 [(0, .inr (.inr 24)), (1, .inr (.inl (l1 + r3))), (3, .inl (l3 + 1))] [] P0 P0 M4 Q))) : G none (K + 1) jClearing_allPaid 4 [(0, .inr (.inr 24)), (1, .inr (.inl l1)), (3, .inl l3)] [] P0 P0 M Q := by
  refine G_iload_n 2 rfl rfl (ck dc84 (i := 4) rfl) ?_
  refine G_aload_n 0 rfl rfl (ck dc84 (i := 5) rfl) ?_
  refine H_getR mf84 (ck dc84 (i := 6) rfl) fw_Clearing_48 fc1_3 ly24 ra24 rf24_3 (by decide) ?_
  refine H_getI mf84 (ck dc84 (i := 7) rfl) fw_Clearing_109 (Or.inl fc0_0) ly1 ra1 (x := (M 1 0)) rfl ?_
  obtain ⟨o1, h⟩ := h
  obtain ⟨o2, h⟩ := h
  refine G_icmp_ge (tgt := 29) (by decide) o1 o2 (ck dc84 (i := 8) rfl) (fun c => ?_) (fun c => ?_)
  · replace h := h.1 c
    refine G_lload_n 1 rfl rfl (ck dc84 (i := 17) rfl) ?_
    exact H_lret mf84 (ck dc84 (i := 18) rfl) rfl h
  · replace h := h.2 c
    refine G_lload_n 1 rfl rfl (ck dc84 (i := 9) rfl) ?_
    refine G_aload_n 0 rfl rfl (ck dc84 (i := 10) rfl) ?_
    refine G_iload_n 2 rfl rfl (ck dc84 (i := 11) rfl) ?_
    refine H_vL mf84 (As := [.inl l3]) (st := [.inr (.inl l1)]) (ck dc84 (i := 12) rfl) lk_Clearing_176 rfl rfl (Nat.le_of_ble_eq_true rfl) ly24 ra24 ⟨Nat.le_refl _, Nat.le_refl _⟩ h (fun r3 M4 h => ?_)
    refine G_ladd (ck dc84 (i := 13) rfl) ?_
    refine G_lstore_n (L' := [(1, .inr (.inl (l1 + r3))), (0, .inr (.inr 24)), (3, .inl l3)]) rfl (mfx.lt mf84 (Nat.le_of_ble_eq_true rfl)) rfl (ck dc84 (i := 14) rfl) ?_
    refine G_iinc (L' := [(3, .inl (l3 + 1)), (1, .inr (.inl (l1 + r3))), (0, .inr (.inr 24))]) 2 rfl (mfx.lt mf84 (Nat.le_of_ble_eq_true rfl)) rfl (ck dc84 (i := 15) rfl) ?_
    refine G_goto (tgt := 4) (by decide) (ck dc84 (i := 16) rfl) ?_
    exact G_sub [2, 1, 0] rfl h
theorem c_ct_bottom (K : Nat) (a1 : Int) (M : PM) (Q : Option PV → PM → Prop)
    (h : (0 ≤ a1 ∧ a1 < 6) ∧ Q (some (.inr (.inl (M 27 a1)))) M) : Call (K + 1) jClearing_bottom [.inr (.inr 24), .inl a1] P0 P0 M Q := by
  refine Call.intro (by decide +kernel) (mfx.le mf72 (Nat.le_of_ble_eq_true rfl)) (Nat.le_refl _) rfl ?_
  refine G_aload_n 0 rfl rfl (ck dc72 (i := 0) rfl) ?_
  refine H_getR mf72 (ck dc72 (i := 1) rfl) fw_Clearing_19 fc1_6 ly24 ra24 rf24_6 (by decide) ?_
  refine G_iload_n 1 rfl rfl (ck dc72 (i := 2) rfl) ?_
  obtain ⟨o1, h⟩ := h
  refine H_lald (ck dc72 (i := 3) rfl) ly27 (by decide) ra27 o1 (x := (M 27 a1)) rfl ?_
  exact H_lret mf72 (ck dc72 (i := 4) rfl) rfl h
