theorem c_m_givesNothing (K : Nat) (M : PM) (Q : Option PV → PM → Prop)
    (h : G none (K + 1) jModel_givesNothing 2 [(0, .inr (.inr 52)), (1, .inl 0)] [] P0 P0 M Q) : Call (K + 1) jModel_givesNothing [.inr (.inr 52)] P0 P0 M Q := by
  refine Call.intro (by decide +kernel) (mfx.le mf252 (Nat.le_of_ble_eq_true rfl)) (Nat.le_refl _) rfl ?_
  refine G_iconst (ck dc252 (i := 0) rfl) ?_
  refine G_istore_n (L' := [(1, .inl 0), (0, .inr (.inr 52))]) rfl (mfx.lt mf252 (Nat.le_of_ble_eq_true rfl)) rfl (ck dc252 (i := 1) rfl) ?_
  exact G_sub [1, 0] rfl h
theorem g_m_givesNothing_2 (K : Nat) (l1 : Int) (M : PM) (Q : Option PV → PM → Prop)
    (h : R32 l1 ∧ (5 ≤ l1 → Q none M) ∧ (¬ 5 ≤ l1 → (0 ≤ l1 ∧ l1 < 5) ∧ G none (K + 1) jModel_givesNothing 2 [(0, .inr (.inr 52)), (1, .inl (l1 + 1))] [] P0 P0 (mset M 69 l1 0) Q)) : G none (K + 1) jModel_givesNothing 2 [(0, .inr (.inr 52)), (1, .inl l1)] [] P0 P0 M Q := by
  refine G_iload_n 1 rfl rfl (ck dc252 (i := 2) rfl) ?_
  refine G_iconst (ck dc252 (i := 3) rfl) ?_
  obtain ⟨o1, h⟩ := h
  refine G_icmp_ge (tgt := 20) (by decide) o1 (by decide) (ck dc252 (i := 4) rfl) (fun c => ?_) (fun c => ?_)
  · replace h := h.1 c
    exact H_vret mf252 (ck dc252 (i := 12) rfl) rfl h
  · replace h := h.2 c
    refine G_aload_n 0 rfl rfl (ck dc252 (i := 5) rfl) ?_
    refine H_getR mf252 (ck dc252 (i := 6) rfl) fw_Model_71 fc11_25 ly52 ra52 rf52_25 (by decide) ?_
    refine G_iload_n 1 rfl rfl (ck dc252 (i := 7) rfl) ?_
    refine G_iconst (ck dc252 (i := 8) rfl) ?_
    obtain ⟨o2, h⟩ := h
    refine G_iast (ck dc252 (i := 9) rfl) ra69 ly69 (by decide) o2 ?_
    refine G_iinc (L' := [(1, .inl (l1 + 1)), (0, .inr (.inr 52))]) 1 rfl (mfx.lt mf252 (Nat.le_of_ble_eq_true rfl)) rfl (ck dc252 (i := 10) rfl) ?_
    refine G_goto (tgt := 2) (by decide) (ck dc252 (i := 11) rfl) ?_
    exact G_sub [1, 0] rfl h
theorem c_m_supposesGiven (K : Nat) (a1 a2 : Int) (M : PM) (Q : Option PV → PM → Prop)
    (h : Call K jModel_supposesCash [.inr (.inr 52)] P0 P0 M (retV fun M2 => G none (K + 1) jModel_supposesGiven 6 [(0, .inr (.inr 52)), (1, .inl a1), (2, .inl a2), (3, .inl 0)] [] P0 P0 M2 Q)) : Call (K + 1) jModel_supposesGiven [.inr (.inr 52), .inl a1, .inl a2] P0 P0 M Q := by
  refine Call.intro (by decide +kernel) (mfx.le mf254 (Nat.le_of_ble_eq_true rfl)) (Nat.le_refl _) rfl ?_
  refine G_aload_n 0 rfl rfl (ck dc254 (i := 0) rfl) ?_
  refine H_vV mf254 (As := []) (st := []) (ck dc254 (i := 1) rfl) lk_Model_221 rfl rfl (Nat.le_of_ble_eq_true rfl) ly52 ra52 ⟨Nat.le_refl _, Nat.le_refl _⟩ h (fun M2 h => ?_)
  refine G_iconst (ck dc254 (i := 2) rfl) ?_
  refine G_istore_n (L' := [(3, .inl 0), (0, .inr (.inr 52)), (1, .inl a1), (2, .inl a2)]) rfl (mfx.lt mf254 (Nat.le_of_ble_eq_true rfl)) rfl (ck dc254 (i := 3) rfl) ?_
  exact G_sub [1, 2, 3, 0] rfl h
theorem g_m_supposesGiven_6 (K : Nat) (l1 l2 l3 : Int) (M : PM) (Q : Option PV → PM → Prop)
    (h : R32 l3 ∧ (5 ≤ l3 → Call K jModel_goesRound [.inr (.inr 52)] P0 P0 M (retV fun M3 => Q none M3)) ∧ (¬ 5 ≤ l3 → (0 ≤ l3 ∧ l3 < 5) ∧ R32 l2 ∧ (¬ l3 = l2 → G none (K + 1) jModel_supposesGiven 6 [(0, .inr (.inr 52)), (1, .inl l1), (2, .inl l2), (3, .inl (l3 + 1))] [] P0 P0 (mset M 61 l3 ((M 61 l3) + ((M 69 l3) + 0))) Q) ∧ (l3 = l2 → G none (K + 1) jModel_supposesGiven 6 [(0, .inr (.inr 52)), (1, .inl l1), (2, .inl l2), (3, .inl (l3 + 1))] [] P0 P0 (mset M 61 l3 ((M 61 l3) + ((M 69 l3) + l1))) Q))) : G none (K + 1) jModel_supposesGiven 6 [(0, .inr (.inr 52)), (1, .inl l1), (2, .inl l2), (3, .inl l3)] [] P0 P0 M Q := by
  refine G_iload_n 3 rfl rfl (ck dc254 (i := 4) rfl) ?_
  refine G_iconst (ck dc254 (i := 5) rfl) ?_
  obtain ⟨o1, h⟩ := h
  refine G_icmp_ge (tgt := 43) (by decide) o1 (by decide) (ck dc254 (i := 6) rfl) (fun c => ?_) (fun c => ?_)
  · replace h := h.1 c
    refine G_aload_n 0 rfl rfl (ck dc254 (i := 27) rfl) ?_
    refine H_vV mf254 (As := []) (st := []) (ck dc254 (i := 28) rfl) lk_Model_224 rfl rfl (Nat.le_of_ble_eq_true rfl) ly52 ra52 ⟨Nat.le_refl _, Nat.le_refl _⟩ h (fun M3 h => ?_)
    exact H_vret mf254 (ck dc254 (i := 29) rfl) rfl h
  · replace h := h.2 c
    refine G_aload_n 0 rfl rfl (ck dc254 (i := 7) rfl) ?_
    refine H_getR mf254 (ck dc254 (i := 8) rfl) fw_Model_47 fc11_14 ly52 ra52 rf52_14 (by decide) ?_
    refine G_iload_n 3 rfl rfl (ck dc254 (i := 9) rfl) ?_
    refine G_dup2 rfl rfl (ck dc254 (i := 10) rfl) ?_
    obtain ⟨o4, h⟩ := h
    refine H_iald (ck dc254 (i := 11) rfl) ly61 (by decide) ra61 o4 (x := (M 61 l3)) rfl ?_
    refine G_aload_n 0 rfl rfl (ck dc254 (i := 12) rfl) ?_
    refine H_getR mf254 (ck dc254 (i := 13) rfl) fw_Model_71 fc11_25 ly52 ra52 rf52_25 (by decide) ?_
    refine G_iload_n 3 rfl rfl (ck dc254 (i := 14) rfl) ?_
    refine H_iald (ck dc254 (i := 15) rfl) ly69 (by decide) ra69 o4 (x := (M 69 l3)) rfl ?_
    refine G_iload_n 3 rfl rfl (ck dc254 (i := 16) rfl) ?_
    refine G_iload_n 2 rfl rfl (ck dc254 (i := 17) rfl) ?_
    obtain ⟨o5, h⟩ := h
    refine G_icmp_ne (tgt := 33) (by decide) o1 o5 (ck dc254 (i := 18) rfl) (fun c => ?_) (fun c => ?_)
    · replace h := h.1 c
      refine G_iconst (ck dc254 (i := 21) rfl) ?_
      refine G_iadd (ck dc254 (i := 22) rfl) ?_
      refine G_iadd (ck dc254 (i := 23) rfl) ?_
      refine G_iast (ck dc254 (i := 24) rfl) ra61 ly61 (by decide) o4 ?_
      refine G_iinc (L' := [(3, .inl (l3 + 1)), (0, .inr (.inr 52)), (1, .inl l1), (2, .inl l2)]) 3 rfl (mfx.lt mf254 (Nat.le_of_ble_eq_true rfl)) rfl (ck dc254 (i := 25) rfl) ?_
      refine G_goto (tgt := 6) (by decide) (ck dc254 (i := 26) rfl) ?_
      exact G_sub [1, 2, 3, 0] rfl h
    · replace h := h.2 c
      refine G_iload_n 1 rfl rfl (ck dc254 (i := 19) rfl) ?_
      refine G_goto (tgt := 34) (by decide) (ck dc254 (i := 20) rfl) ?_
      refine G_iadd (ck dc254 (i := 22) rfl) ?_
      refine G_iadd (ck dc254 (i := 23) rfl) ?_
      refine G_iast (ck dc254 (i := 24) rfl) ra61 ly61 (by decide) o4 ?_
      refine G_iinc (L' := [(3, .inl (l3 + 1)), (0, .inr (.inr 52)), (1, .inl l1), (2, .inl l2)]) 3 rfl (mfx.lt mf254 (Nat.le_of_ble_eq_true rfl)) rfl (ck dc254 (i := 25) rfl) ?_
      refine G_goto (tgt := 6) (by decide) (ck dc254 (i := 26) rfl) ?_
      exact G_sub [1, 2, 3, 0] rfl h
theorem c_model_sizeOf (K : Nat) (a1 : Int) (M : PM) (Q : Option PV → PM → Prop)
    (h : G none (K + 1) jModel_sizeOf 4 [(0, .inl a1), (1, .inl 0), (2, .inl 0)] [] P0 P0 M Q) : Call (K + 1) jModel_sizeOf [.inl a1] P0 P0 M Q := by
  refine Call.intro (by decide +kernel) (mfx.le mf255 (Nat.le_of_ble_eq_true rfl)) (Nat.le_refl _) rfl ?_
  refine G_iconst (ck dc255 (i := 0) rfl) ?_
  refine G_istore_n (L' := [(1, .inl 0), (0, .inl a1)]) rfl (mfx.lt mf255 (Nat.le_of_ble_eq_true rfl)) rfl (ck dc255 (i := 1) rfl) ?_
  refine G_iconst (ck dc255 (i := 2) rfl) ?_
  refine G_istore_n (L' := [(2, .inl 0), (1, .inl 0), (0, .inl a1)]) rfl (mfx.lt mf255 (Nat.le_of_ble_eq_true rfl)) rfl (ck dc255 (i := 3) rfl) ?_
  exact G_sub [2, 1, 0] rfl h
theorem g_model_sizeOf_4 (K : Nat) (l0 l1 l2 : Int) (M : PM) (Q : Option PV → PM → Prop)
    (h : R32 l2 ∧ (5 ≤ l2 → Q (some (.inl l1)) M) ∧ (¬ 5 ≤ l2 → G none (K + 1) jModel_sizeOf 4 [(0, .inl l0), (1, .inl (l1 + (bAnd (bShr l0 l2) 1))), (2, .inl (l2 + 1))] [] P0 P0 M Q)) : G none (K + 1) jModel_sizeOf 4 [(0, .inl l0), (1, .inl l1), (2, .inl l2)] [] P0 P0 M Q := by
  refine G_iload_n 2 rfl rfl (ck dc255 (i := 4) rfl) ?_
  refine G_iconst (ck dc255 (i := 5) rfl) ?_
  obtain ⟨o1, h⟩ := h
  refine G_icmp_ge (tgt := 23) (by decide) o1 (by decide) (ck dc255 (i := 6) rfl) (fun c => ?_) (fun c => ?_)
  · replace h := h.1 c
    refine G_iload_n 1 rfl rfl (ck dc255 (i := 17) rfl) ?_
    exact H_iretI mf255 (ck dc255 (i := 18) rfl) rfl h
  · replace h := h.2 c
    refine G_iload_n 1 rfl rfl (ck dc255 (i := 7) rfl) ?_
    refine G_iload_n 0 rfl rfl (ck dc255 (i := 8) rfl) ?_
    refine G_iload_n 2 rfl rfl (ck dc255 (i := 9) rfl) ?_
    refine G_ishr (ck dc255 (i := 10) rfl) ?_
    refine G_iconst (ck dc255 (i := 11) rfl) ?_
    refine G_iand (ck dc255 (i := 12) rfl) ?_
    refine G_iadd (ck dc255 (i := 13) rfl) ?_
    refine G_istore_n (L' := [(1, .inl (l1 + (bAnd (bShr l0 l2) 1))), (0, .inl l0), (2, .inl l2)]) rfl (mfx.lt mf255 (Nat.le_of_ble_eq_true rfl)) rfl (ck dc255 (i := 14) rfl) ?_
    refine G_iinc (L' := [(2, .inl (l2 + 1)), (1, .inl (l1 + (bAnd (bShr l0 l2) 1))), (0, .inl l0)]) 2 rfl (mfx.lt mf255 (Nat.le_of_ble_eq_true rfl)) rfl (ck dc255 (i := 15) rfl) ?_
    refine G_goto (tgt := 4) (by decide) (ck dc255 (i := 16) rfl) ?_
    exact G_sub [2, 1, 0] rfl h
theorem c_model_compared (K : Nat) (a1 a2 a3 a4 : Int) (M : PM) (Q : Option PV → PM → Prop)
    (h : G none (K + 1) jModel_compared 17 [(8, .inr (.inl a1)), (10, .inr (.inl a2)), (12, .inr (.inl a3)), (14, .inr (.inl a4)), (16, .inl 1)] [] P0 P0 M Q) : Call (K + 1) jModel_compared [.inr (.inl a1), .inr (.inl a2), .inr (.inl a3), .inr (.inl a4)] P0 P0 M Q := by
  refine Call.intro (by decide +kernel) (mfx.le mf256 (Nat.le_of_ble_eq_true rfl)) (Nat.le_refl _) rfl ?_
  refine G_lload_n 0 rfl rfl (ck dc256 (i := 0) rfl) ?_
  refine G_lstore (L' := [(8, .inr (.inl a1)), (0, .inr (.inl a1)), (2, .inr (.inl a2)), (4, .inr (.inl a3)), (6, .inr (.inl a4))]) (mfx.lt mf256 (Nat.le_of_ble_eq_true rfl)) rfl (ck dc256 (i := 1) rfl) ?_
  refine G_lload_n 2 rfl rfl (ck dc256 (i := 2) rfl) ?_
  refine G_lstore (L' := [(10, .inr (.inl a2)), (8, .inr (.inl a1)), (0, .inr (.inl a1)), (2, .inr (.inl a2)), (4, .inr (.inl a3)), (6, .inr (.inl a4))]) (mfx.lt mf256 (Nat.le_of_ble_eq_true rfl)) rfl (ck dc256 (i := 3) rfl) ?_
  refine G_lload 4 rfl (ck dc256 (i := 4) rfl) ?_
  refine G_lstore (L' := [(12, .inr (.inl a3)), (10, .inr (.inl a2)), (8, .inr (.inl a1)), (0, .inr (.inl a1)), (2, .inr (.inl a2)), (4, .inr (.inl a3)), (6, .inr (.inl a4))]) (mfx.lt mf256 (Nat.le_of_ble_eq_true rfl)) rfl (ck dc256 (i := 5) rfl) ?_
  refine G_lload 6 rfl (ck dc256 (i := 6) rfl) ?_
  refine G_lstore (L' := [(14, .inr (.inl a4)), (12, .inr (.inl a3)), (10, .inr (.inl a2)), (8, .inr (.inl a1)), (0, .inr (.inl a1)), (2, .inr (.inl a2)), (4, .inr (.inl a3)), (6, .inr (.inl a4))]) (mfx.lt mf256 (Nat.le_of_ble_eq_true rfl)) rfl (ck dc256 (i := 7) rfl) ?_
  refine G_iconst (ck dc256 (i := 8) rfl) ?_
  refine G_istore (L' := [(16, .inl 1), (14, .inr (.inl a4)), (12, .inr (.inl a3)), (10, .inr (.inl a2)), (8, .inr (.inl a1)), (0, .inr (.inl a1)), (2, .inr (.inl a2)), (4, .inr (.inl a3)), (6, .inr (.inl a4))]) (mfx.lt mf256 (Nat.le_of_ble_eq_true rfl)) rfl (ck dc256 (i := 9) rfl) ?_
  exact G_sub [4, 3, 2, 1, 0] rfl h
set_option maxHeartbeats 20000000 in
theorem g_model_compared_17 (K : Nat) (l8 l10 l12 l14 l16 : Int) (M : PM) (Q : Option PV → PM → Prop)
    (h : R64 l8 ∧ R64 l10 ∧ l10 ≠ 0 ∧ R64 l12 ∧ R64 l14 ∧ l14 ≠ 0 ∧ R64 (Int.tdiv l8 l10) ∧ R64 (Int.tdiv l12 l14) ∧ ((Int.tdiv l8 l10) = (Int.tdiv l12 l14) → R64 (Int.tmod l8 l10) ∧ ((Int.tmod l8 l10) = 0 → R64 (Int.tmod l12 l14) ∧ (¬ (Int.tmod l8 l10) = (Int.tmod l12 l14) → ((Int.tmod l8 l10) ≤ 0 → Q (some (.inl (-l16))) M) ∧ (¬ (Int.tmod l8 l10) ≤ 0 → Q (some (.inl l16)) M)) ∧ ((Int.tmod l8 l10) = (Int.tmod l12 l14) → Q (some (.inl 0)) M)) ∧ (¬ (Int.tmod l8 l10) = 0 → R64 (Int.tmod l12 l14) ∧ (¬ (Int.tmod l12 l14) = 0 → G none (K + 1) jModel_compared 17 [(8, .inr (.inl l10)), (10, .inr (.inl (Int.tmod l8 l10))), (12, .inr (.inl l14)), (14, .inr (.inl (Int.tmod l12 l14))), (16, .inl (-l16))] [] P0 P0 M Q) ∧ ((Int.tmod l12 l14) = 0 → (¬ (Int.tmod l8 l10) = (Int.tmod l12 l14) → ((Int.tmod l8 l10) ≤ 0 → Q (some (.inl (-l16))) M) ∧ (¬ (Int.tmod l8 l10) ≤ 0 → Q (some (.inl l16)) M)) ∧ ((Int.tmod l8 l10) = (Int.tmod l12 l14) → Q (some (.inl 0)) M)))) ∧ (¬ (Int.tdiv l8 l10) = (Int.tdiv l12 l14) → ((Int.tdiv l8 l10) ≤ (Int.tdiv l12 l14) → Q (some (.inl (-l16))) M) ∧ (¬ (Int.tdiv l8 l10) ≤ (Int.tdiv l12 l14) → Q (some (.inl l16)) M))) : G none (K + 1) jModel_compared 17 [(8, .inr (.inl l8)), (10, .inr (.inl l10)), (12, .inr (.inl l12)), (14, .inr (.inl l14)), (16, .inl l16)] [] P0 P0 M Q := by
  refine G_lload 0 rfl (ck dc256 (i := 10) rfl) ?_
  refine G_lload 1 rfl (ck dc256 (i := 11) rfl) ?_
  obtain ⟨o1, h⟩ := h
  obtain ⟨o2, h⟩ := h
  obtain ⟨o3, h⟩ := h
  refine G_ldiv o1 o2 o3 (ck dc256 (i := 12) rfl) ?_
  refine G_lload 2 rfl (ck dc256 (i := 13) rfl) ?_
  refine G_lload 3 rfl (ck dc256 (i := 14) rfl) ?_
  obtain ⟨o4, h⟩ := h
  obtain ⟨o5, h⟩ := h
  obtain ⟨o6, h⟩ := h
  refine G_ldiv o4 o5 o6 (ck dc256 (i := 15) rfl) ?_
  obtain ⟨o7, h⟩ := h
  obtain ⟨o8, h⟩ := h
  refine G_lif_eq (tgt := 54) (ck dc256 (i := 17) rfl) (by decide) o7 o8 (ck dc256 (i := 16) rfl) (fun c => ?_) (fun c => ?_)
  · replace h := h.1 c
    refine G_lload 0 rfl (ck dc256 (i := 31) rfl) ?_
    refine G_lload 1 rfl (ck dc256 (i := 32) rfl) ?_
    refine G_lrem o1 o2 o3 (ck dc256 (i := 33) rfl) ?_
    refine G_lstore (L' := [(17, .inr (.inl (Int.tmod l8 l10))), (8, .inr (.inl l8)), (10, .inr (.inl l10)), (12, .inr (.inl l12)), (14, .inr (.inl l14)), (16, .inl l16)]) (mfx.lt mf256 (Nat.le_of_ble_eq_true rfl)) rfl (ck dc256 (i := 34) rfl) ?_
    refine G_lload 3 rfl (ck dc256 (i := 35) rfl) ?_
    refine G_lload 4 rfl (ck dc256 (i := 36) rfl) ?_
    refine G_lrem o4 o5 o6 (ck dc256 (i := 37) rfl) ?_
    refine G_lstore (L' := [(19, .inr (.inl (Int.tmod l12 l14))), (17, .inr (.inl (Int.tmod l8 l10))), (8, .inr (.inl l8)), (10, .inr (.inl l10)), (12, .inr (.inl l12)), (14, .inr (.inl l14)), (16, .inl l16)]) (mfx.lt mf256 (Nat.le_of_ble_eq_true rfl)) rfl (ck dc256 (i := 38) rfl) ?_
    refine G_lload 1 rfl (ck dc256 (i := 39) rfl) ?_
    refine G_lconst (v := 0) rfl (ck dc256 (i := 40) rfl) ?_
    obtain ⟨o9, h⟩ := h
    refine G_lif_eq (tgt := 82) (ck dc256 (i := 42) rfl) (by decide) o9 (by decide) (ck dc256 (i := 41) rfl) (fun c => ?_) (fun c => ?_)
    · replace h := h.1 c
      refine G_lload 1 rfl (ck dc256 (i := 47) rfl) ?_
      refine G_lload 0 rfl (ck dc256 (i := 48) rfl) ?_
      obtain ⟨o10, h⟩ := h
      refine G_lif_ne (tgt := 94) (ck dc256 (i := 50) rfl) (by decide) o9 o10 (ck dc256 (i := 49) rfl) (fun c => ?_) (fun c => ?_)
      · replace h := h.1 c
        refine G_lload 1 rfl (ck dc256 (i := 53) rfl) ?_
        refine G_lconst (v := 0) rfl (ck dc256 (i := 54) rfl) ?_
        refine G_lif_le (tgt := 106) (ck dc256 (i := 56) rfl) (by decide) o9 (by decide) (ck dc256 (i := 55) rfl) (fun c => ?_) (fun c => ?_)
        · replace h := h.1 c
          refine G_iload 6 rfl (ck dc256 (i := 59) rfl) ?_
          refine G_ineg (ck dc256 (i := 60) rfl) ?_
          exact H_iretI mf256 (ck dc256 (i := 61) rfl) rfl h
        · replace h := h.2 c
          refine G_iload 6 rfl (ck dc256 (i := 57) rfl) ?_
          refine G_goto (tgt := 109) (by decide) (ck dc256 (i := 58) rfl) ?_
          exact H_iretI mf256 (ck dc256 (i := 61) rfl) rfl h
      · replace h := h.2 c
        refine G_iconst (ck dc256 (i := 51) rfl) ?_
        refine G_goto (tgt := 109) (by decide) (ck dc256 (i := 52) rfl) ?_
        exact H_iretI mf256 (ck dc256 (i := 61) rfl) rfl h
    · replace h := h.2 c
      refine G_lload 0 rfl (ck dc256 (i := 43) rfl) ?_
      refine G_lconst (v := 0) rfl (ck dc256 (i := 44) rfl) ?_
      obtain ⟨o11, h⟩ := h
      refine G_lif_ne (tgt := 110) (ck dc256 (i := 46) rfl) (by decide) o11 (by decide) (ck dc256 (i := 45) rfl) (fun c => ?_) (fun c => ?_)
      · replace h := h.1 c
        refine G_lload 3 rfl (ck dc256 (i := 62) rfl) ?_
        refine G_lstore (L' := [(8, .inr (.inl l10)), (19, .inr (.inl (Int.tmod l12 l14))), (17, .inr (.inl (Int.tmod l8 l10))), (10, .inr (.inl l10)), (12, .inr (.inl l12)), (14, .inr (.inl l14)), (16, .inl l16)]) (mfx.lt mf256 (Nat.le_of_ble_eq_true rfl)) rfl (ck dc256 (i := 63) rfl) ?_
        refine G_lload 2 rfl (ck dc256 (i := 64) rfl) ?_
        refine G_lstore (L' := [(10, .inr (.inl (Int.tmod l8 l10))), (8, .inr (.inl l10)), (19, .inr (.inl (Int.tmod l12 l14))), (17, .inr (.inl (Int.tmod l8 l10))), (12, .inr (.inl l12)), (14, .inr (.inl l14)), (16, .inl l16)]) (mfx.lt mf256 (Nat.le_of_ble_eq_true rfl)) rfl (ck dc256 (i := 65) rfl) ?_
        refine G_lload 5 rfl (ck dc256 (i := 66) rfl) ?_
        refine G_lstore (L' := [(12, .inr (.inl l14)), (10, .inr (.inl (Int.tmod l8 l10))), (8, .inr (.inl l10)), (19, .inr (.inl (Int.tmod l12 l14))), (17, .inr (.inl (Int.tmod l8 l10))), (14, .inr (.inl l14)), (16, .inl l16)]) (mfx.lt mf256 (Nat.le_of_ble_eq_true rfl)) rfl (ck dc256 (i := 67) rfl) ?_
        refine G_lload 3 rfl (ck dc256 (i := 68) rfl) ?_
        refine G_lstore (L' := [(14, .inr (.inl (Int.tmod l12 l14))), (12, .inr (.inl l14)), (10, .inr (.inl (Int.tmod l8 l10))), (8, .inr (.inl l10)), (19, .inr (.inl (Int.tmod l12 l14))), (17, .inr (.inl (Int.tmod l8 l10))), (16, .inl l16)]) (mfx.lt mf256 (Nat.le_of_ble_eq_true rfl)) rfl (ck dc256 (i := 69) rfl) ?_
        refine G_iload 6 rfl (ck dc256 (i := 70) rfl) ?_
        refine G_ineg (ck dc256 (i := 71) rfl) ?_
        refine G_istore (L' := [(16, .inl (-l16)), (14, .inr (.inl (Int.tmod l12 l14))), (12, .inr (.inl l14)), (10, .inr (.inl (Int.tmod l8 l10))), (8, .inr (.inl l10)), (19, .inr (.inl (Int.tmod l12 l14))), (17, .inr (.inl (Int.tmod l8 l10)))]) (mfx.lt mf256 (Nat.le_of_ble_eq_true rfl)) rfl (ck dc256 (i := 72) rfl) ?_
        refine G_goto (tgt := 17) (by decide) (ck dc256 (i := 73) rfl) ?_
        exact G_sub [4, 3, 2, 1, 0] rfl h
      · replace h := h.2 c
        refine G_lload 1 rfl (ck dc256 (i := 47) rfl) ?_
        refine G_lload 0 rfl (ck dc256 (i := 48) rfl) ?_
        refine G_lif_ne (tgt := 94) (ck dc256 (i := 50) rfl) (by decide) o9 o11 (ck dc256 (i := 49) rfl) (fun c => ?_) (fun c => ?_)
        · replace h := h.1 c
          refine G_lload 1 rfl (ck dc256 (i := 53) rfl) ?_
          refine G_lconst (v := 0) rfl (ck dc256 (i := 54) rfl) ?_
          refine G_lif_le (tgt := 106) (ck dc256 (i := 56) rfl) (by decide) o9 (by decide) (ck dc256 (i := 55) rfl) (fun c => ?_) (fun c => ?_)
          · replace h := h.1 c
            refine G_iload 6 rfl (ck dc256 (i := 59) rfl) ?_
            refine G_ineg (ck dc256 (i := 60) rfl) ?_
            exact H_iretI mf256 (ck dc256 (i := 61) rfl) rfl h
          · replace h := h.2 c
            refine G_iload 6 rfl (ck dc256 (i := 57) rfl) ?_
            refine G_goto (tgt := 109) (by decide) (ck dc256 (i := 58) rfl) ?_
            exact H_iretI mf256 (ck dc256 (i := 61) rfl) rfl h
        · replace h := h.2 c
          refine G_iconst (ck dc256 (i := 51) rfl) ?_
          refine G_goto (tgt := 109) (by decide) (ck dc256 (i := 52) rfl) ?_
          exact H_iretI mf256 (ck dc256 (i := 61) rfl) rfl h
  · replace h := h.2 c
    refine G_lload 0 rfl (ck dc256 (i := 18) rfl) ?_
    refine G_lload 1 rfl (ck dc256 (i := 19) rfl) ?_
    refine G_ldiv o1 o2 o3 (ck dc256 (i := 20) rfl) ?_
    refine G_lload 2 rfl (ck dc256 (i := 21) rfl) ?_
    refine G_lload 3 rfl (ck dc256 (i := 22) rfl) ?_
    refine G_ldiv o4 o5 o6 (ck dc256 (i := 23) rfl) ?_
    refine G_lif_le (tgt := 50) (ck dc256 (i := 25) rfl) (by decide) o7 o8 (ck dc256 (i := 24) rfl) (fun c => ?_) (fun c => ?_)
    · replace h := h.1 c
      refine G_iload 4 rfl (ck dc256 (i := 28) rfl) ?_
      refine G_ineg (ck dc256 (i := 29) rfl) ?_
      exact H_iretI mf256 (ck dc256 (i := 30) rfl) rfl h
    · replace h := h.2 c
      refine G_iload 4 rfl (ck dc256 (i := 26) rfl) ?_
      refine G_goto (tgt := 53) (by decide) (ck dc256 (i := 27) rfl) ?_
      exact H_iretI mf256 (ck dc256 (i := 30) rfl) rfl h
theorem c_m_savesMost (K : Nat) (a1 a2 : Int) (M : PM) (Q : Option PV → PM → Prop)
    (h : G none (K + 1) jModel_savesMost 14 [(0, .inr (.inr 52)), (1, .inl a1), (2, .inl a2), (3, .inl (-1)), (4, .inl 0), (5, .inr (.inl 0)), (7, .inr (.inl 1)), (9, .inl 0)] [] P0 P0 M Q) : Call (K + 1) jModel_savesMost [.inr (.inr 52), .inl a1, .inl a2] P0 P0 M Q := by
  refine Call.intro (by decide +kernel) (mfx.le mf253 (Nat.le_of_ble_eq_true rfl)) (Nat.le_refl _) rfl ?_
  refine G_iconst (ck dc253 (i := 0) rfl) ?_
  refine G_istore_n (L' := [(3, .inl (-1)), (0, .inr (.inr 52)), (1, .inl a1), (2, .inl a2)]) rfl (mfx.lt mf253 (Nat.le_of_ble_eq_true rfl)) rfl (ck dc253 (i := 1) rfl) ?_
  refine G_iconst (ck dc253 (i := 2) rfl) ?_
  refine G_istore (L' := [(4, .inl 0), (3, .inl (-1)), (0, .inr (.inr 52)), (1, .inl a1), (2, .inl a2)]) (mfx.lt mf253 (Nat.le_of_ble_eq_true rfl)) rfl (ck dc253 (i := 3) rfl) ?_
  refine G_lconst (v := 0) rfl (ck dc253 (i := 4) rfl) ?_
  refine G_lstore (L' := [(5, .inr (.inl 0)), (4, .inl 0), (3, .inl (-1)), (0, .inr (.inr 52)), (1, .inl a1), (2, .inl a2)]) (mfx.lt mf253 (Nat.le_of_ble_eq_true rfl)) rfl (ck dc253 (i := 5) rfl) ?_
  refine G_lconst (v := 1) rfl (ck dc253 (i := 6) rfl) ?_
  refine G_lstore (L' := [(7, .inr (.inl 1)), (5, .inr (.inl 0)), (4, .inl 0), (3, .inl (-1)), (0, .inr (.inr 52)), (1, .inl a1), (2, .inl a2)]) (mfx.lt mf253 (Nat.le_of_ble_eq_true rfl)) rfl (ck dc253 (i := 7) rfl) ?_
  refine G_iconst (ck dc253 (i := 8) rfl) ?_
  refine G_istore (L' := [(9, .inl 0), (7, .inr (.inl 1)), (5, .inr (.inl 0)), (4, .inl 0), (3, .inl (-1)), (0, .inr (.inr 52)), (1, .inl a1), (2, .inl a2)]) (mfx.lt mf253 (Nat.le_of_ble_eq_true rfl)) rfl (ck dc253 (i := 9) rfl) ?_
  exact G_sub [5, 6, 7, 4, 3, 2, 1, 0] rfl h
set_option maxHeartbeats 20000000 in
theorem g_m_savesMost_14 (K : Nat) (l1 l2 l3 l4 l5 l7 l9 : Int) (M : PM) (Q : Option PV → PM → Prop)
    (h : R32 l9 ∧ R32 (M 55 0) ∧ ((M 55 0) ≤ l9 → Q (some (.inl l3)) M) ∧ (¬ (M 55 0) ≤ l9 → Call K jModel_supposesGiven [.inr (.inr 52), .inl l1, .inl l9] P0 P0 M (retV fun M4 => Call K jModel_sizeOf [.inl (M4 52 13)] P0 P0 M4 (retI fun r5 M6 => Call K jModel_allPaid [.inr (.inr 52)] P0 P0 M6 (retL fun r7 M8 => (0 ≤ (M8 52 9) ∧ (M8 52 9) < 6) ∧ Call K jModel_compared [.inr (.inl r7), .inr (.inl (M8 59 (M8 52 9))), .inr (.inl l5), .inr (.inl l7)] P0 P0 M8 (retI fun r10 M11 => R32 l2 ∧ (¬ l2 = 0 → (¬ l2 = 0 → R32 l3 ∧ (l3 = (-1) → G none (K + 1) jModel_savesMost 112 [(0, .inr (.inr 52)), (1, .inl l1), (2, .inl l2), (9, .inl l9)] [] P0 P0 M11 Q) ∧ (¬ l3 = (-1) → R32 r10 ∧ (0 < r10 → G none (K + 1) jModel_savesMost 112 [(0, .inr (.inr 52)), (1, .inl l1), (2, .inl l2), (9, .inl l9)] [] P0 P0 M11 Q) ∧ (¬ 0 < r10 → (¬ r10 = 0 → G none (K + 1) jModel_savesMost 14 [(0, .inr (.inr 52)), (1, .inl l1), (2, .inl l2), (3, .inl l3), (4, .inl l4), (5, .inr (.inl l5)), (7, .inr (.inl l7)), (9, .inl (l9 + 1))] [] P0 P0 M11 Q) ∧ (r10 = 0 → R32 (l4 - r5) ∧ ((l4 - r5) ≤ 0 → G none (K + 1) jModel_savesMost 14 [(0, .inr (.inr 52)), (1, .inl l1), (2, .inl l2), (3, .inl l3), (4, .inl l4), (5, .inr (.inl l5)), (7, .inr (.inl l7)), (9, .inl (l9 + 1))] [] P0 P0 M11 Q) ∧ (¬ (l4 - r5) ≤ 0 → G none (K + 1) jModel_savesMost 112 [(0, .inr (.inr 52)), (1, .inl l1), (2, .inl l2), (9, .inl l9)] [] P0 P0 M11 Q))))) ∧ (l2 = 0 → R32 l3 ∧ (l3 = (-1) → G none (K + 1) jModel_savesMost 112 [(0, .inr (.inr 52)), (1, .inl l1), (2, .inl l2), (9, .inl l9)] [] P0 P0 M11 Q) ∧ (¬ l3 = (-1) → R32 r10 ∧ (0 < r10 → G none (K + 1) jModel_savesMost 112 [(0, .inr (.inr 52)), (1, .inl l1), (2, .inl l2), (9, .inl l9)] [] P0 P0 M11 Q) ∧ (¬ 0 < r10 → (¬ r10 = 0 → G none (K + 1) jModel_savesMost 14 [(0, .inr (.inr 52)), (1, .inl l1), (2, .inl l2), (3, .inl l3), (4, .inl l4), (5, .inr (.inl l5)), (7, .inr (.inl l7)), (9, .inl (l9 + 1))] [] P0 P0 M11 Q) ∧ (r10 = 0 → (r10 ≤ 0 → G none (K + 1) jModel_savesMost 14 [(0, .inr (.inr 52)), (1, .inl l1), (2, .inl l2), (3, .inl l3), (4, .inl l4), (5, .inr (.inl l5)), (7, .inr (.inl l7)), (9, .inl (l9 + 1))] [] P0 P0 M11 Q) ∧ (¬ r10 ≤ 0 → G none (K + 1) jModel_savesMost 112 [(0, .inr (.inr 52)), (1, .inl l1), (2, .inl l2), (9, .inl l9)] [] P0 P0 M11 Q)))))) ∧ (l2 = 0 → (¬ l2 = 0 → R32 l3 ∧ (l3 = (-1) → G none (K + 1) jModel_savesMost 112 [(0, .inr (.inr 52)), (1, .inl l1), (2, .inl l2), (9, .inl l9)] [] P0 P0 M11 Q) ∧ (¬ l3 = (-1) → R32 (l4 - r5) ∧ (0 < (l4 - r5) → G none (K + 1) jModel_savesMost 112 [(0, .inr (.inr 52)), (1, .inl l1), (2, .inl l2), (9, .inl l9)] [] P0 P0 M11 Q) ∧ (¬ 0 < (l4 - r5) → (¬ (l4 - r5) = 0 → G none (K + 1) jModel_savesMost 14 [(0, .inr (.inr 52)), (1, .inl l1), (2, .inl l2), (3, .inl l3), (4, .inl l4), (5, .inr (.inl l5)), (7, .inr (.inl l7)), (9, .inl (l9 + 1))] [] P0 P0 M11 Q) ∧ ((l4 - r5) = 0 → ((l4 - r5) ≤ 0 → G none (K + 1) jModel_savesMost 14 [(0, .inr (.inr 52)), (1, .inl l1), (2, .inl l2), (3, .inl l3), (4, .inl l4), (5, .inr (.inl l5)), (7, .inr (.inl l7)), (9, .inl (l9 + 1))] [] P0 P0 M11 Q) ∧ (¬ (l4 - r5) ≤ 0 → G none (K + 1) jModel_savesMost 112 [(0, .inr (.inr 52)), (1, .inl l1), (2, .inl l2), (9, .inl l9)] [] P0 P0 M11 Q))))) ∧ (l2 = 0 → R32 l3 ∧ (l3 = (-1) → G none (K + 1) jModel_savesMost 112 [(0, .inr (.inr 52)), (1, .inl l1), (2, .inl l2), (9, .inl l9)] [] P0 P0 M11 Q) ∧ (¬ l3 = (-1) → R32 (l4 - r5) ∧ (0 < (l4 - r5) → G none (K + 1) jModel_savesMost 112 [(0, .inr (.inr 52)), (1, .inl l1), (2, .inl l2), (9, .inl l9)] [] P0 P0 M11 Q) ∧ (¬ 0 < (l4 - r5) → (¬ (l4 - r5) = 0 → G none (K + 1) jModel_savesMost 14 [(0, .inr (.inr 52)), (1, .inl l1), (2, .inl l2), (3, .inl l3), (4, .inl l4), (5, .inr (.inl l5)), (7, .inr (.inl l7)), (9, .inl (l9 + 1))] [] P0 P0 M11 Q) ∧ ((l4 - r5) = 0 → R32 r10 ∧ (r10 ≤ 0 → G none (K + 1) jModel_savesMost 14 [(0, .inr (.inr 52)), (1, .inl l1), (2, .inl l2), (3, .inl l3), (4, .inl l4), (5, .inr (.inl l5)), (7, .inr (.inl l7)), (9, .inl (l9 + 1))] [] P0 P0 M11 Q) ∧ (¬ r10 ≤ 0 → G none (K + 1) jModel_savesMost 112 [(0, .inr (.inr 52)), (1, .inl l1), (2, .inl l2), (9, .inl l9)] [] P0 P0 M11 Q)))))))))))) : G none (K + 1) jModel_savesMost 14 [(0, .inr (.inr 52)), (1, .inl l1), (2, .inl l2), (3, .inl l3), (4, .inl l4), (5, .inr (.inl l5)), (7, .inr (.inl l7)), (9, .inl l9)] [] P0 P0 M Q := by
  refine G_iload 7 rfl (ck dc253 (i := 10) rfl) ?_
  refine G_aload_n 0 rfl rfl (ck dc253 (i := 11) rfl) ?_
  refine H_getR mf253 (ck dc253 (i := 12) rfl) fw_Model_5 fc11_3 ly52 ra52 rf52_3 (by decide) ?_
  refine G_iconst (ck dc253 (i := 13) rfl) ?_
  refine H_iald (ck dc253 (i := 14) rfl) ly55 (by decide) ra55 (by decide) (x := (M 55 0)) rfl ?_
  obtain ⟨o1, h⟩ := h
  obtain ⟨o2, h⟩ := h
  refine G_icmp_ge (tgt := 147) (by decide) o1 o2 (ck dc253 (i := 15) rfl) (fun c => ?_) (fun c => ?_)
  · replace h := h.1 c
    refine G_iload_n 3 rfl rfl (ck dc253 (i := 75) rfl) ?_
    exact H_iretI mf253 (ck dc253 (i := 76) rfl) rfl h
  · replace h := h.2 c
    refine G_aload_n 0 rfl rfl (ck dc253 (i := 16) rfl) ?_
    refine G_iload_n 1 rfl rfl (ck dc253 (i := 17) rfl) ?_
    refine G_iload 7 rfl (ck dc253 (i := 18) rfl) ?_
    refine H_vV mf253 (As := [.inl l1, .inl l9]) (st := []) (ck dc253 (i := 19) rfl) lk_Model_301 rfl rfl (Nat.le_of_ble_eq_true rfl) ly52 ra52 ⟨Nat.le_refl _, Nat.le_refl _⟩ h (fun M4 h => ?_)
    refine G_iload 4 rfl (ck dc253 (i := 20) rfl) ?_
    refine G_aload_n 0 rfl rfl (ck dc253 (i := 21) rfl) ?_
    refine H_getI mf253 (ck dc253 (i := 22) rfl) fw_Model_176 (Or.inl fc11_13) ly52 ra52 (x := (M4 52 13)) rfl ?_
    refine H_sI mf253 (As := [.inl (M4 52 13)]) (st := [.inl l4]) (ck dc253 (i := 23) rfl) lk_Model_305 rfl rfl (Nat.le_of_ble_eq_true rfl) ⟨Nat.le_refl _, Nat.le_refl _⟩ h (fun r5 M6 h => ?_)
    refine G_isub (ck dc253 (i := 24) rfl) ?_
    refine G_istore (L' := [(10, .inl (l4 - r5)), (0, .inr (.inr 52)), (1, .inl l1), (2, .inl l2), (3, .inl l3), (4, .inl l4), (5, .inr (.inl l5)), (7, .inr (.inl l7)), (9, .inl l9)]) (mfx.lt mf253 (Nat.le_of_ble_eq_true rfl)) rfl (ck dc253 (i := 25) rfl) ?_
    refine G_aload_n 1 rfl rfl (ck dc253 (i := 26) rfl) ?_
    refine H_vL mf253 (As := []) (st := []) (ck dc253 (i := 27) rfl) lk_Model_255 rfl rfl (Nat.le_of_ble_eq_true rfl) ly52 ra52 ⟨Nat.le_refl _, Nat.le_refl _⟩ h (fun r7 M8 h => ?_)
    refine G_aload_n 1 rfl rfl (ck dc253 (i := 28) rfl) ?_
    refine H_getR mf253 (ck dc253 (i := 29) rfl) fw_Model_41 fc11_11 ly52 ra52 rf52_11 (by decide) ?_
    refine G_aload_n 1 rfl rfl (ck dc253 (i := 30) rfl) ?_
    refine H_getI mf253 (ck dc253 (i := 31) rfl) fw_Model_206 (Or.inl fc11_9) ly52 ra52 (x := (M8 52 9)) rfl ?_
    obtain ⟨o9, h⟩ := h
    refine H_lald (ck dc253 (i := 32) rfl) ly59 (by decide) ra59 o9 (x := (M8 59 (M8 52 9))) rfl ?_
    refine G_lload 6 rfl (ck dc253 (i := 33) rfl) ?_
    refine G_lload 7 rfl (ck dc253 (i := 34) rfl) ?_
    refine H_sI mf253 (As := [.inr (.inl r7), .inr (.inl (M8 59 (M8 52 9))), .inr (.inl l5), .inr (.inl l7)]) (st := []) (ck dc253 (i := 35) rfl) lk_Model_308 rfl rfl (Nat.le_of_ble_eq_true rfl) ⟨Nat.le_refl _, Nat.le_refl _⟩ h (fun r10 M11 h => ?_)
    refine G_istore (L' := [(11, .inl r10), (10, .inl (l4 - r5)), (0, .inr (.inr 52)), (1, .inl l1), (2, .inl l2), (3, .inl l3), (4, .inl l4), (5, .inr (.inl l5)), (7, .inr (.inl l7)), (9, .inl l9)]) (mfx.lt mf253 (Nat.le_of_ble_eq_true rfl)) rfl (ck dc253 (i := 36) rfl) ?_
    refine G_iload_n 4 rfl rfl (ck dc253 (i := 37) rfl) ?_
    obtain ⟨o12, h⟩ := h
    refine G_if_ne (tgt := 75) (by decide) o12 (ck dc253 (i := 38) rfl) (fun c => ?_) (fun c => ?_)
    · replace h := h.1 c
      refine G_iload 0 rfl (ck dc253 (i := 41) rfl) ?_
      refine G_istore (L' := [(12, .inl r10), (11, .inl r10), (10, .inl (l4 - r5)), (0, .inr (.inr 52)), (1, .inl l1), (2, .inl l2), (3, .inl l3), (4, .inl l4), (5, .inr (.inl l5)), (7, .inr (.inl l7)), (9, .inl l9)]) (mfx.lt mf253 (Nat.le_of_ble_eq_true rfl)) rfl (ck dc253 (i := 42) rfl) ?_
      refine G_iload_n 5 rfl rfl (ck dc253 (i := 43) rfl) ?_
      refine G_if_ne (tgt := 88) (by decide) o12 (ck dc253 (i := 44) rfl) (fun c => ?_) (fun c => ?_)
      · replace h := h.1 c
        refine G_iload 2 rfl (ck dc253 (i := 47) rfl) ?_
        refine G_istore (L' := [(13, .inl (l4 - r5)), (12, .inl r10), (11, .inl r10), (10, .inl (l4 - r5)), (0, .inr (.inr 52)), (1, .inl l1), (2, .inl l2), (3, .inl l3), (4, .inl l4), (5, .inr (.inl l5)), (7, .inr (.inl l7)), (9, .inl l9)]) (mfx.lt mf253 (Nat.le_of_ble_eq_true rfl)) rfl (ck dc253 (i := 48) rfl) ?_
        refine G_iload_n 7 rfl rfl (ck dc253 (i := 49) rfl) ?_
        refine G_iconst (ck dc253 (i := 50) rfl) ?_
        obtain ⟨o13, h⟩ := h
        refine G_icmp_eq (tgt := 112) (by decide) o13 (by decide) (ck dc253 (i := 51) rfl) (fun c => ?_) (fun c => ?_)
        · replace h := h.1 c
          exact G_sub [4, 5, 6, 11] rfl h
        · replace h := h.2 c
          refine G_iload 1 rfl (ck dc253 (i := 52) rfl) ?_
          obtain ⟨o14, h⟩ := h
          refine G_if_gt (tgt := 112) (by decide) o14 (ck dc253 (i := 53) rfl) (fun c => ?_) (fun c => ?_)
          · replace h := h.1 c
            exact G_sub [4, 5, 6, 11] rfl h
          · replace h := h.2 c
            refine G_iload 1 rfl (ck dc253 (i := 54) rfl) ?_
            refine G_if_ne (tgt := 141) (by decide) o14 (ck dc253 (i := 55) rfl) (fun c => ?_) (fun c => ?_)
            · replace h := h.1 c
              refine G_iinc (L' := [(9, .inl (l9 + 1)), (13, .inl (l4 - r5)), (12, .inl r10), (11, .inl r10), (10, .inl (l4 - r5)), (0, .inr (.inr 52)), (1, .inl l1), (2, .inl l2), (3, .inl l3), (4, .inl l4), (5, .inr (.inl l5)), (7, .inr (.inl l7))]) 11 rfl (mfx.lt mf253 (Nat.le_of_ble_eq_true rfl)) rfl (ck dc253 (i := 73) rfl) ?_
              refine G_goto (tgt := 14) (by decide) (ck dc253 (i := 74) rfl) ?_
              exact G_sub [5, 6, 7, 8, 9, 10, 11, 0] rfl h
            · replace h := h.2 c
              refine G_iload 0 rfl (ck dc253 (i := 56) rfl) ?_
              obtain ⟨o15, h⟩ := h
              refine G_if_le (tgt := 141) (by decide) o15 (ck dc253 (i := 57) rfl) (fun c => ?_) (fun c => ?_)
              · replace h := h.1 c
                refine G_iinc (L' := [(9, .inl (l9 + 1)), (13, .inl (l4 - r5)), (12, .inl r10), (11, .inl r10), (10, .inl (l4 - r5)), (0, .inr (.inr 52)), (1, .inl l1), (2, .inl l2), (3, .inl l3), (4, .inl l4), (5, .inr (.inl l5)), (7, .inr (.inl l7))]) 11 rfl (mfx.lt mf253 (Nat.le_of_ble_eq_true rfl)) rfl (ck dc253 (i := 73) rfl) ?_
                refine G_goto (tgt := 14) (by decide) (ck dc253 (i := 74) rfl) ?_
                exact G_sub [5, 6, 7, 8, 9, 10, 11, 0] rfl h
              · replace h := h.2 c
                exact G_sub [4, 5, 6, 11] rfl h
      · replace h := h.2 c
        refine G_iload 1 rfl (ck dc253 (i := 45) rfl) ?_
        refine G_goto (tgt := 90) (by decide) (ck dc253 (i := 46) rfl) ?_
        refine G_istore (L' := [(13, .inl r10), (12, .inl r10), (11, .inl r10), (10, .inl (l4 - r5)), (0, .inr (.inr 52)), (1, .inl l1), (2, .inl l2), (3, .inl l3), (4, .inl l4), (5, .inr (.inl l5)), (7, .inr (.inl l7)), (9, .inl l9)]) (mfx.lt mf253 (Nat.le_of_ble_eq_true rfl)) rfl (ck dc253 (i := 48) rfl) ?_
        refine G_iload_n 7 rfl rfl (ck dc253 (i := 49) rfl) ?_
        refine G_iconst (ck dc253 (i := 50) rfl) ?_
        obtain ⟨o16, h⟩ := h
        refine G_icmp_eq (tgt := 112) (by decide) o16 (by decide) (ck dc253 (i := 51) rfl) (fun c => ?_) (fun c => ?_)
        · replace h := h.1 c
          exact G_sub [4, 5, 6, 11] rfl h
        · replace h := h.2 c
          refine G_iload 1 rfl (ck dc253 (i := 52) rfl) ?_
          obtain ⟨o17, h⟩ := h
          refine G_if_gt (tgt := 112) (by decide) o17 (ck dc253 (i := 53) rfl) (fun c => ?_) (fun c => ?_)
          · replace h := h.1 c
            exact G_sub [4, 5, 6, 11] rfl h
          · replace h := h.2 c
            refine G_iload 1 rfl (ck dc253 (i := 54) rfl) ?_
            refine G_if_ne (tgt := 141) (by decide) o17 (ck dc253 (i := 55) rfl) (fun c => ?_) (fun c => ?_)
            · replace h := h.1 c
              refine G_iinc (L' := [(9, .inl (l9 + 1)), (13, .inl r10), (12, .inl r10), (11, .inl r10), (10, .inl (l4 - r5)), (0, .inr (.inr 52)), (1, .inl l1), (2, .inl l2), (3, .inl l3), (4, .inl l4), (5, .inr (.inl l5)), (7, .inr (.inl l7))]) 11 rfl (mfx.lt mf253 (Nat.le_of_ble_eq_true rfl)) rfl (ck dc253 (i := 73) rfl) ?_
              refine G_goto (tgt := 14) (by decide) (ck dc253 (i := 74) rfl) ?_
              exact G_sub [5, 6, 7, 8, 9, 10, 11, 0] rfl h
            · replace h := h.2 c
              refine G_iload 0 rfl (ck dc253 (i := 56) rfl) ?_
              refine G_if_le (tgt := 141) (by decide) o17 (ck dc253 (i := 57) rfl) (fun c => ?_) (fun c => ?_)
              · replace h := h.1 c
                refine G_iinc (L' := [(9, .inl (l9 + 1)), (13, .inl r10), (12, .inl r10), (11, .inl r10), (10, .inl (l4 - r5)), (0, .inr (.inr 52)), (1, .inl l1), (2, .inl l2), (3, .inl l3), (4, .inl l4), (5, .inr (.inl l5)), (7, .inr (.inl l7))]) 11 rfl (mfx.lt mf253 (Nat.le_of_ble_eq_true rfl)) rfl (ck dc253 (i := 73) rfl) ?_
                refine G_goto (tgt := 14) (by decide) (ck dc253 (i := 74) rfl) ?_
                exact G_sub [5, 6, 7, 8, 9, 10, 11, 0] rfl h
              · replace h := h.2 c
                exact G_sub [4, 5, 6, 11] rfl h
    · replace h := h.2 c
      refine G_iload 1 rfl (ck dc253 (i := 39) rfl) ?_
      refine G_goto (tgt := 77) (by decide) (ck dc253 (i := 40) rfl) ?_
      refine G_istore (L' := [(12, .inl (l4 - r5)), (11, .inl r10), (10, .inl (l4 - r5)), (0, .inr (.inr 52)), (1, .inl l1), (2, .inl l2), (3, .inl l3), (4, .inl l4), (5, .inr (.inl l5)), (7, .inr (.inl l7)), (9, .inl l9)]) (mfx.lt mf253 (Nat.le_of_ble_eq_true rfl)) rfl (ck dc253 (i := 42) rfl) ?_
      refine G_iload_n 5 rfl rfl (ck dc253 (i := 43) rfl) ?_
      refine G_if_ne (tgt := 88) (by decide) o12 (ck dc253 (i := 44) rfl) (fun c => ?_) (fun c => ?_)
      · replace h := h.1 c
        refine G_iload 2 rfl (ck dc253 (i := 47) rfl) ?_
        refine G_istore (L' := [(13, .inl (l4 - r5)), (12, .inl (l4 - r5)), (11, .inl r10), (10, .inl (l4 - r5)), (0, .inr (.inr 52)), (1, .inl l1), (2, .inl l2), (3, .inl l3), (4, .inl l4), (5, .inr (.inl l5)), (7, .inr (.inl l7)), (9, .inl l9)]) (mfx.lt mf253 (Nat.le_of_ble_eq_true rfl)) rfl (ck dc253 (i := 48) rfl) ?_
        refine G_iload_n 7 rfl rfl (ck dc253 (i := 49) rfl) ?_
        refine G_iconst (ck dc253 (i := 50) rfl) ?_
        obtain ⟨o18, h⟩ := h
        refine G_icmp_eq (tgt := 112) (by decide) o18 (by decide) (ck dc253 (i := 51) rfl) (fun c => ?_) (fun c => ?_)
        · replace h := h.1 c
          exact G_sub [4, 5, 6, 11] rfl h
        · replace h := h.2 c
          refine G_iload 1 rfl (ck dc253 (i := 52) rfl) ?_
          obtain ⟨o19, h⟩ := h
          refine G_if_gt (tgt := 112) (by decide) o19 (ck dc253 (i := 53) rfl) (fun c => ?_) (fun c => ?_)
          · replace h := h.1 c
            exact G_sub [4, 5, 6, 11] rfl h
          · replace h := h.2 c
            refine G_iload 1 rfl (ck dc253 (i := 54) rfl) ?_
            refine G_if_ne (tgt := 141) (by decide) o19 (ck dc253 (i := 55) rfl) (fun c => ?_) (fun c => ?_)
            · replace h := h.1 c
              refine G_iinc (L' := [(9, .inl (l9 + 1)), (13, .inl (l4 - r5)), (12, .inl (l4 - r5)), (11, .inl r10), (10, .inl (l4 - r5)), (0, .inr (.inr 52)), (1, .inl l1), (2, .inl l2), (3, .inl l3), (4, .inl l4), (5, .inr (.inl l5)), (7, .inr (.inl l7))]) 11 rfl (mfx.lt mf253 (Nat.le_of_ble_eq_true rfl)) rfl (ck dc253 (i := 73) rfl) ?_
              refine G_goto (tgt := 14) (by decide) (ck dc253 (i := 74) rfl) ?_
              exact G_sub [5, 6, 7, 8, 9, 10, 11, 0] rfl h
            · replace h := h.2 c
              refine G_iload 0 rfl (ck dc253 (i := 56) rfl) ?_
              refine G_if_le (tgt := 141) (by decide) o19 (ck dc253 (i := 57) rfl) (fun c => ?_) (fun c => ?_)
              · replace h := h.1 c
                refine G_iinc (L' := [(9, .inl (l9 + 1)), (13, .inl (l4 - r5)), (12, .inl (l4 - r5)), (11, .inl r10), (10, .inl (l4 - r5)), (0, .inr (.inr 52)), (1, .inl l1), (2, .inl l2), (3, .inl l3), (4, .inl l4), (5, .inr (.inl l5)), (7, .inr (.inl l7))]) 11 rfl (mfx.lt mf253 (Nat.le_of_ble_eq_true rfl)) rfl (ck dc253 (i := 73) rfl) ?_
                refine G_goto (tgt := 14) (by decide) (ck dc253 (i := 74) rfl) ?_
                exact G_sub [5, 6, 7, 8, 9, 10, 11, 0] rfl h
              · replace h := h.2 c
                exact G_sub [4, 5, 6, 11] rfl h
      · replace h := h.2 c
        refine G_iload 1 rfl (ck dc253 (i := 45) rfl) ?_
        refine G_goto (tgt := 90) (by decide) (ck dc253 (i := 46) rfl) ?_
        refine G_istore (L' := [(13, .inl r10), (12, .inl (l4 - r5)), (11, .inl r10), (10, .inl (l4 - r5)), (0, .inr (.inr 52)), (1, .inl l1), (2, .inl l2), (3, .inl l3), (4, .inl l4), (5, .inr (.inl l5)), (7, .inr (.inl l7)), (9, .inl l9)]) (mfx.lt mf253 (Nat.le_of_ble_eq_true rfl)) rfl (ck dc253 (i := 48) rfl) ?_
        refine G_iload_n 7 rfl rfl (ck dc253 (i := 49) rfl) ?_
        refine G_iconst (ck dc253 (i := 50) rfl) ?_
        obtain ⟨o20, h⟩ := h
        refine G_icmp_eq (tgt := 112) (by decide) o20 (by decide) (ck dc253 (i := 51) rfl) (fun c => ?_) (fun c => ?_)
        · replace h := h.1 c
          exact G_sub [4, 5, 6, 11] rfl h
        · replace h := h.2 c
          refine G_iload 1 rfl (ck dc253 (i := 52) rfl) ?_
          obtain ⟨o21, h⟩ := h
          refine G_if_gt (tgt := 112) (by decide) o21 (ck dc253 (i := 53) rfl) (fun c => ?_) (fun c => ?_)
          · replace h := h.1 c
            exact G_sub [4, 5, 6, 11] rfl h
          · replace h := h.2 c
            refine G_iload 1 rfl (ck dc253 (i := 54) rfl) ?_
            refine G_if_ne (tgt := 141) (by decide) o21 (ck dc253 (i := 55) rfl) (fun c => ?_) (fun c => ?_)
            · replace h := h.1 c
              refine G_iinc (L' := [(9, .inl (l9 + 1)), (13, .inl r10), (12, .inl (l4 - r5)), (11, .inl r10), (10, .inl (l4 - r5)), (0, .inr (.inr 52)), (1, .inl l1), (2, .inl l2), (3, .inl l3), (4, .inl l4), (5, .inr (.inl l5)), (7, .inr (.inl l7))]) 11 rfl (mfx.lt mf253 (Nat.le_of_ble_eq_true rfl)) rfl (ck dc253 (i := 73) rfl) ?_
              refine G_goto (tgt := 14) (by decide) (ck dc253 (i := 74) rfl) ?_
              exact G_sub [5, 6, 7, 8, 9, 10, 11, 0] rfl h
            · replace h := h.2 c
              refine G_iload 0 rfl (ck dc253 (i := 56) rfl) ?_
              obtain ⟨o22, h⟩ := h
              refine G_if_le (tgt := 141) (by decide) o22 (ck dc253 (i := 57) rfl) (fun c => ?_) (fun c => ?_)
              · replace h := h.1 c
                refine G_iinc (L' := [(9, .inl (l9 + 1)), (13, .inl r10), (12, .inl (l4 - r5)), (11, .inl r10), (10, .inl (l4 - r5)), (0, .inr (.inr 52)), (1, .inl l1), (2, .inl l2), (3, .inl l3), (4, .inl l4), (5, .inr (.inl l5)), (7, .inr (.inl l7))]) 11 rfl (mfx.lt mf253 (Nat.le_of_ble_eq_true rfl)) rfl (ck dc253 (i := 73) rfl) ?_
                refine G_goto (tgt := 14) (by decide) (ck dc253 (i := 74) rfl) ?_
                exact G_sub [5, 6, 7, 8, 9, 10, 11, 0] rfl h
              · replace h := h.2 c
                exact G_sub [4, 5, 6, 11] rfl h
theorem g_m_savesMost_112 (K : Nat) (l1 l2 l9 : Int) (M : PM) (Q : Option PV → PM → Prop)
    (h : Call K jModel_sizeOf [.inl (M 52 13)] P0 P0 M (retI fun r1 M2 => Call K jModel_allPaid [.inr (.inr 52)] P0 P0 M2 (retL fun r3 M4 => (0 ≤ (M4 52 9) ∧ (M4 52 9) < 6) ∧ G none (K + 1) jModel_savesMost 14 [(0, .inr (.inr 52)), (1, .inl l1), (2, .inl l2), (3, .inl l9), (4, .inl r1), (5, .inr (.inl r3)), (7, .inr (.inl (M4 59 (M4 52 9)))), (9, .inl (l9 + 1))] [] P0 P0 M4 Q))) : G none (K + 1) jModel_savesMost 112 [(0, .inr (.inr 52)), (1, .inl l1), (2, .inl l2), (9, .inl l9)] [] P0 P0 M Q := by
  refine G_iload 3 rfl (ck dc253 (i := 58) rfl) ?_
  refine G_istore_n (L' := [(3, .inl l9), (0, .inr (.inr 52)), (1, .inl l1), (2, .inl l2), (9, .inl l9)]) rfl (mfx.lt mf253 (Nat.le_of_ble_eq_true rfl)) rfl (ck dc253 (i := 59) rfl) ?_
  refine G_aload_n 1 rfl rfl (ck dc253 (i := 60) rfl) ?_
  refine H_getI mf253 (ck dc253 (i := 61) rfl) fw_Model_176 (Or.inl fc11_13) ly52 ra52 (x := (M 52 13)) rfl ?_
  refine H_sI mf253 (As := [.inl (M 52 13)]) (st := []) (ck dc253 (i := 62) rfl) lk_Model_305 rfl rfl (Nat.le_of_ble_eq_true rfl) ⟨Nat.le_refl _, Nat.le_refl _⟩ h (fun r1 M2 h => ?_)
  refine G_istore (L' := [(4, .inl r1), (3, .inl l9), (0, .inr (.inr 52)), (1, .inl l1), (2, .inl l2), (9, .inl l9)]) (mfx.lt mf253 (Nat.le_of_ble_eq_true rfl)) rfl (ck dc253 (i := 63) rfl) ?_
  refine G_aload_n 2 rfl rfl (ck dc253 (i := 64) rfl) ?_
  refine H_vL mf253 (As := []) (st := []) (ck dc253 (i := 65) rfl) lk_Model_255 rfl rfl (Nat.le_of_ble_eq_true rfl) ly52 ra52 ⟨Nat.le_refl _, Nat.le_refl _⟩ h (fun r3 M4 h => ?_)
  refine G_lstore (L' := [(5, .inr (.inl r3)), (4, .inl r1), (3, .inl l9), (0, .inr (.inr 52)), (1, .inl l1), (2, .inl l2), (9, .inl l9)]) (mfx.lt mf253 (Nat.le_of_ble_eq_true rfl)) rfl (ck dc253 (i := 66) rfl) ?_
  refine G_aload_n 3 rfl rfl (ck dc253 (i := 67) rfl) ?_
  refine H_getR mf253 (ck dc253 (i := 68) rfl) fw_Model_41 fc11_11 ly52 ra52 rf52_11 (by decide) ?_
  refine G_aload_n 3 rfl rfl (ck dc253 (i := 69) rfl) ?_
  refine H_getI mf253 (ck dc253 (i := 70) rfl) fw_Model_206 (Or.inl fc11_9) ly52 ra52 (x := (M4 52 9)) rfl ?_
  obtain ⟨o5, h⟩ := h
  refine H_lald (ck dc253 (i := 71) rfl) ly59 (by decide) ra59 o5 (x := (M4 59 (M4 52 9))) rfl ?_
  refine G_lstore (L' := [(7, .inr (.inl (M4 59 (M4 52 9)))), (5, .inr (.inl r3)), (4, .inl r1), (3, .inl l9), (0, .inr (.inr 52)), (1, .inl l1), (2, .inl l2), (9, .inl l9)]) (mfx.lt mf253 (Nat.le_of_ble_eq_true rfl)) rfl (ck dc253 (i := 72) rfl) ?_
  refine G_iinc (L' := [(9, .inl (l9 + 1)), (7, .inr (.inl (M4 59 (M4 52 9)))), (5, .inr (.inl r3)), (4, .inl r1), (3, .inl l9), (0, .inr (.inr 52)), (1, .inl l1), (2, .inl l2)]) 7 rfl (mfx.lt mf253 (Nat.le_of_ble_eq_true rfl)) rfl (ck dc253 (i := 73) rfl) ?_
  refine G_goto (tgt := 14) (by decide) (ck dc253 (i := 74) rfl) ?_
  exact G_sub [5, 6, 7, 4, 3, 2, 1, 0] rfl h
theorem c_m_saves (K : Nat) (a1 a2 : Int) (M : PM) (Q : Option PV → PM → Prop)
    (h : R32 a2 ∧ Call K jModel_within [.inr (.inl a2), .inr (.inl 0), .inr (.inl 1)] P0 P0 M (retI fun r2 M3 => R32 r2 ∧ (¬ r2 = 0 → Call K jModel_isGift [.inl a1] P0 P0 M3 (retI fun r5 M6 => R32 r5 ∧ (¬ r5 = 0 → Call K jModel_givesNothing [.inr (.inr 52)] P0 P0 M6 (retV fun M9 => Call K jModel_savesMost [.inr (.inr 52), .inl a1, .inl a2] P0 P0 M9 (retI fun r10 M11 => Q (some (.inl r10)) M11))) ∧ (r5 = 0 → Q (some (.inl (-2))) M6))) ∧ (r2 = 0 → Q (some (.inl (-1))) M3))) : Call (K + 1) jModel_saves [.inr (.inr 52), .inl a1, .inl a2] P0 P0 M Q := by
  refine Call.intro (by decide +kernel) (mfx.le mf251 (Nat.le_of_ble_eq_true rfl)) (Nat.le_refl _) rfl ?_
  refine G_iload_n 2 rfl rfl (ck dc251 (i := 0) rfl) ?_
  obtain ⟨o1, h⟩ := h
  refine G_i2l o1 (ck dc251 (i := 1) rfl) ?_
  refine G_lconst (v := 0) rfl (ck dc251 (i := 2) rfl) ?_
  refine G_lconst (v := 1) rfl (ck dc251 (i := 3) rfl) ?_
  refine H_sZ mf251 (As := [.inr (.inl a2), .inr (.inl 0), .inr (.inl 1)]) (st := []) (ck dc251 (i := 4) rfl) lk_Model_9 rfl rfl (Nat.le_of_ble_eq_true rfl) ⟨Nat.le_refl _, Nat.le_refl _⟩ h (fun r2 M3 h => ?_)
  obtain ⟨o4, h⟩ := h
  refine G_if_ne (tgt := 12) (by decide) o4 (ck dc251 (i := 5) rfl) (fun c => ?_) (fun c => ?_)
  · replace h := h.1 c
    refine G_iload_n 1 rfl rfl (ck dc251 (i := 8) rfl) ?_
    refine H_sZ mf251 (As := [.inl a1]) (st := []) (ck dc251 (i := 9) rfl) lk_Model_295 rfl rfl (Nat.le_of_ble_eq_true rfl) ⟨Nat.le_refl _, Nat.le_refl _⟩ h (fun r5 M6 h => ?_)
    obtain ⟨o7, h⟩ := h
    refine G_if_ne (tgt := 22) (by decide) o7 (ck dc251 (i := 10) rfl) (fun c => ?_) (fun c => ?_)
    · replace h := h.1 c
      refine G_aload_n 0 rfl rfl (ck dc251 (i := 13) rfl) ?_
      refine H_vV mf251 (As := []) (st := []) (ck dc251 (i := 14) rfl) lk_Model_312 rfl rfl (Nat.le_of_ble_eq_true rfl) ly52 ra52 ⟨Nat.le_refl _, Nat.le_refl _⟩ h (fun M9 h => ?_)
      refine G_aload_n 0 rfl rfl (ck dc251 (i := 15) rfl) ?_
      refine G_iload_n 1 rfl rfl (ck dc251 (i := 16) rfl) ?_
      refine G_iload_n 2 rfl rfl (ck dc251 (i := 17) rfl) ?_
      refine H_vI mf251 (As := [.inl a1, .inl a2]) (st := []) (ck dc251 (i := 18) rfl) lk_Model_315 rfl rfl (Nat.le_of_ble_eq_true rfl) ly52 ra52 ⟨Nat.le_refl _, Nat.le_refl _⟩ h (fun r10 M11 h => ?_)
      exact H_iretI mf251 (ck dc251 (i := 19) rfl) rfl h
    · replace h := h.2 c
      refine G_bipush (n := (-2)) rfl (ck dc251 (i := 11) rfl) ?_
      exact H_iretI mf251 (ck dc251 (i := 12) rfl) rfl h
  · replace h := h.2 c
    refine G_iconst (ck dc251 (i := 6) rfl) ?_
    exact H_iretI mf251 (ck dc251 (i := 7) rfl) rfl h
theorem c_m_needs (K : Nat) (a1 a2 : Int) (M : PM) (Q : Option PV → PM → Prop)
    (h : Call K jModel_isHouse [.inr (.inr 52), .inl a1] P0 P0 M (retI fun r1 M2 => R32 r1 ∧ (r1 = 0 → Q (some (.inl (-1))) M2) ∧ (¬ r1 = 0 → Call K jModel_isHouse [.inr (.inr 52), .inl a2] P0 P0 M2 (retI fun r4 M5 => R32 r4 ∧ (¬ r4 = 0 → G none (K + 1) jModel_needs 20 [(0, .inr (.inr 52)), (1, .inl a1), (2, .inl a2), (3, .inl 0)] [] P0 P0 M5 Q) ∧ (r4 = 0 → Q (some (.inl (-1))) M5))))) : Call (K + 1) jModel_needs [.inr (.inr 52), .inl a1, .inl a2] P0 P0 M Q := by
  refine Call.intro (by decide +kernel) (mfx.le mf257 (Nat.le_of_ble_eq_true rfl)) (Nat.le_refl _) rfl ?_
  refine G_aload_n 0 rfl rfl (ck dc257 (i := 0) rfl) ?_
  refine G_iload_n 1 rfl rfl (ck dc257 (i := 1) rfl) ?_
  refine H_vZ mf257 (As := [.inl a1]) (st := []) (ck dc257 (i := 2) rfl) lk_Model_13 rfl rfl (Nat.le_of_ble_eq_true rfl) ly52 ra52 ⟨Nat.le_refl _, Nat.le_refl _⟩ h (fun r1 M2 h => ?_)
  obtain ⟨o3, h⟩ := h
  refine G_if_eq (tgt := 16) (by decide) o3 (ck dc257 (i := 3) rfl) (fun c => ?_) (fun c => ?_)
  · replace h := h.1 c
    refine G_iconst (ck dc257 (i := 8) rfl) ?_
    exact H_iretI mf257 (ck dc257 (i := 9) rfl) rfl h
  · replace h := h.2 c
    refine G_aload_n 0 rfl rfl (ck dc257 (i := 4) rfl) ?_
    refine G_iload_n 2 rfl rfl (ck dc257 (i := 5) rfl) ?_
    refine H_vZ mf257 (As := [.inl a2]) (st := []) (ck dc257 (i := 6) rfl) lk_Model_13 rfl rfl (Nat.le_of_ble_eq_true rfl) ly52 ra52 ⟨Nat.le_refl _, Nat.le_refl _⟩ h (fun r4 M5 h => ?_)
    obtain ⟨o6, h⟩ := h
    refine G_if_ne (tgt := 18) (by decide) o6 (ck dc257 (i := 7) rfl) (fun c => ?_) (fun c => ?_)
    · replace h := h.1 c
      refine G_iconst (ck dc257 (i := 10) rfl) ?_
      refine G_istore_n (L' := [(3, .inl 0), (0, .inr (.inr 52)), (1, .inl a1), (2, .inl a2)]) rfl (mfx.lt mf257 (Nat.le_of_ble_eq_true rfl)) rfl (ck dc257 (i := 11) rfl) ?_
      exact G_sub [1, 2, 3, 0] rfl h
    · replace h := h.2 c
      refine G_iconst (ck dc257 (i := 8) rfl) ?_
      exact H_iretI mf257 (ck dc257 (i := 9) rfl) rfl h
theorem g_m_needs_20 (K : Nat) (l1 l2 l3 : Int) (M : PM) (Q : Option PV → PM → Prop)
    (h : R32 l3 ∧ (200 < l3 → Q (some (.inl (-5))) M) ∧ (¬ 200 < l3 → Call K jModel_failsIf [.inr (.inr 52), .inl l3, .inl l2] P0 P0 M (retI fun r2 M3 => Call K jModel_isIn [.inl r2, .inl l1] P0 P0 M3 (retI fun r4 M5 => R32 r4 ∧ (¬ r4 = 0 → G none (K + 1) jModel_needs 20 [(0, .inr (.inr 52)), (1, .inl l1), (2, .inl l2), (3, .inl (l3 + 1))] [] P0 P0 M5 Q) ∧ (r4 = 0 → Q (some (.inl l3)) M5))))) : G none (K + 1) jModel_needs 20 [(0, .inr (.inr 52)), (1, .inl l1), (2, .inl l2), (3, .inl l3)] [] P0 P0 M Q := by
  refine G_iload_n 3 rfl rfl (ck dc257 (i := 12) rfl) ?_
  refine G_sipush (n := 200) rfl (ck dc257 (i := 13) rfl) ?_
  obtain ⟨o1, h⟩ := h
  refine G_icmp_gt (tgt := 48) (by decide) o1 (by decide) (ck dc257 (i := 14) rfl) (fun c => ?_) (fun c => ?_)
  · replace h := h.1 c
    refine G_bipush (n := (-5)) rfl (ck dc257 (i := 26) rfl) ?_
    exact H_iretI mf257 (ck dc257 (i := 27) rfl) rfl h
  · replace h := h.2 c
    refine G_aload_n 0 rfl rfl (ck dc257 (i := 15) rfl) ?_
    refine G_iload_n 3 rfl rfl (ck dc257 (i := 16) rfl) ?_
    refine G_iload_n 2 rfl rfl (ck dc257 (i := 17) rfl) ?_
    refine H_vI mf257 (As := [.inl l3, .inl l2]) (st := []) (ck dc257 (i := 18) rfl) lk_Model_298 rfl rfl (Nat.le_of_ble_eq_true rfl) ly52 ra52 ⟨Nat.le_refl _, Nat.le_refl _⟩ h (fun r2 M3 h => ?_)
    refine G_iload_n 1 rfl rfl (ck dc257 (i := 19) rfl) ?_
    refine H_sZ mf257 (As := [.inl r2, .inl l1]) (st := []) (ck dc257 (i := 20) rfl) lk_Model_161 rfl rfl (Nat.le_of_ble_eq_true rfl) ⟨Nat.le_refl _, Nat.le_refl _⟩ h (fun r4 M5 h => ?_)
    obtain ⟨o6, h⟩ := h
    refine G_if_ne (tgt := 42) (by decide) o6 (ck dc257 (i := 21) rfl) (fun c => ?_) (fun c => ?_)
    · replace h := h.1 c
      refine G_iinc (L' := [(3, .inl (l3 + 1)), (0, .inr (.inr 52)), (1, .inl l1), (2, .inl l2)]) 3 rfl (mfx.lt mf257 (Nat.le_of_ble_eq_true rfl)) rfl (ck dc257 (i := 24) rfl) ?_
      refine G_goto (tgt := 20) (by decide) (ck dc257 (i := 25) rfl) ?_
      exact G_sub [1, 2, 3, 0] rfl h
    · replace h := h.2 c
      refine G_iload_n 3 rfl rfl (ck dc257 (i := 22) rfl) ?_
      exact H_iretI mf257 (ck dc257 (i := 23) rfl) rfl h
theorem c_m_calms (K : Nat) (a1 : Int) (M : PM) (Q : Option PV → PM → Prop)
    (h : Call K jModel_isHouse [.inr (.inr 52), .inl a1] P0 P0 M (retI fun r1 M2 => R32 r1 ∧ (¬ r1 = 0 → G none (K + 1) jModel_calms 12 [(0, .inr (.inr 52)), (1, .inl a1), (2, .inl 0)] [] P0 P0 M2 Q) ∧ (r1 = 0 → Q (some (.inl (-1))) M2))) : Call (K + 1) jModel_calms [.inr (.inr 52), .inl a1] P0 P0 M Q := by
  refine Call.intro (by decide +kernel) (mfx.le mf258 (Nat.le_of_ble_eq_true rfl)) (Nat.le_refl _) rfl ?_
  refine G_aload_n 0 rfl rfl (ck dc258 (i := 0) rfl) ?_
  refine G_iload_n 1 rfl rfl (ck dc258 (i := 1) rfl) ?_
  refine H_vZ mf258 (As := [.inl a1]) (st := []) (ck dc258 (i := 2) rfl) lk_Model_13 rfl rfl (Nat.le_of_ble_eq_true rfl) ly52 ra52 ⟨Nat.le_refl _, Nat.le_refl _⟩ h (fun r1 M2 h => ?_)
  obtain ⟨o3, h⟩ := h
  refine G_if_ne (tgt := 10) (by decide) o3 (ck dc258 (i := 3) rfl) (fun c => ?_) (fun c => ?_)
  · replace h := h.1 c
    refine G_iconst (ck dc258 (i := 6) rfl) ?_
    refine G_istore_n (L' := [(2, .inl 0), (0, .inr (.inr 52)), (1, .inl a1)]) rfl (mfx.lt mf258 (Nat.le_of_ble_eq_true rfl)) rfl (ck dc258 (i := 7) rfl) ?_
    exact G_sub [1, 2, 0] rfl h
  · replace h := h.2 c
    refine G_iconst (ck dc258 (i := 4) rfl) ?_
    exact H_iretI mf258 (ck dc258 (i := 5) rfl) rfl h
theorem g_m_calms_12 (K : Nat) (l1 l2 : Int) (M : PM) (Q : Option PV → PM → Prop)
    (h : R32 l2 ∧ (200 < l2 → Q (some (.inl (-5))) M) ∧ (¬ 200 < l2 → Call K jModel_failsIf [.inr (.inr 52), .inl l2, .inl l1] P0 P0 M (retI fun r2 M3 => R32 r2 ∧ (¬ r2 = 0 → G none (K + 1) jModel_calms 12 [(0, .inr (.inr 52)), (1, .inl l1), (2, .inl (l2 + 1))] [] P0 P0 M3 Q) ∧ (r2 = 0 → Q (some (.inl l2)) M3)))) : G none (K + 1) jModel_calms 12 [(0, .inr (.inr 52)), (1, .inl l1), (2, .inl l2)] [] P0 P0 M Q := by
  refine G_iload_n 2 rfl rfl (ck dc258 (i := 8) rfl) ?_
  refine G_sipush (n := 200) rfl (ck dc258 (i := 9) rfl) ?_
  obtain ⟨o1, h⟩ := h
  refine G_icmp_gt (tgt := 36) (by decide) o1 (by decide) (ck dc258 (i := 10) rfl) (fun c => ?_) (fun c => ?_)
  · replace h := h.1 c
    refine G_bipush (n := (-5)) rfl (ck dc258 (i := 20) rfl) ?_
    exact H_iretI mf258 (ck dc258 (i := 21) rfl) rfl h
  · replace h := h.2 c
    refine G_aload_n 0 rfl rfl (ck dc258 (i := 11) rfl) ?_
    refine G_iload_n 2 rfl rfl (ck dc258 (i := 12) rfl) ?_
    refine G_iload_n 1 rfl rfl (ck dc258 (i := 13) rfl) ?_
    refine H_vI mf258 (As := [.inl l2, .inl l1]) (st := []) (ck dc258 (i := 14) rfl) lk_Model_298 rfl rfl (Nat.le_of_ble_eq_true rfl) ly52 ra52 ⟨Nat.le_refl _, Nat.le_refl _⟩ h (fun r2 M3 h => ?_)
    obtain ⟨o4, h⟩ := h
    refine G_if_ne (tgt := 30) (by decide) o4 (ck dc258 (i := 15) rfl) (fun c => ?_) (fun c => ?_)
    · replace h := h.1 c
      refine G_iinc (L' := [(2, .inl (l2 + 1)), (0, .inr (.inr 52)), (1, .inl l1)]) 2 rfl (mfx.lt mf258 (Nat.le_of_ble_eq_true rfl)) rfl (ck dc258 (i := 18) rfl) ?_
      refine G_goto (tgt := 12) (by decide) (ck dc258 (i := 19) rfl) ?_
      exact G_sub [1, 2, 0] rfl h
    · replace h := h.2 c
      refine G_iload_n 2 rfl rfl (ck dc258 (i := 16) rfl) ?_
      exact H_iretI mf258 (ck dc258 (i := 17) rfl) rfl h
theorem c_m_danger (K : Nat) (M : PM) (Q : Option PV → PM → Prop)
    (h : G none (K + 1) jModel_danger 6 [(0, .inr (.inr 52)), (1, .inl (-1)), (2, .inl (-1)), (3, .inl 0)] [] P0 P0 M Q) : Call (K + 1) jModel_danger [.inr (.inr 52)] P0 P0 M Q := by
  refine Call.intro (by decide +kernel) (mfx.le mf259 (Nat.le_of_ble_eq_true rfl)) (Nat.le_refl _) rfl ?_
  refine G_iconst (ck dc259 (i := 0) rfl) ?_
  refine G_istore_n (L' := [(1, .inl (-1)), (0, .inr (.inr 52))]) rfl (mfx.lt mf259 (Nat.le_of_ble_eq_true rfl)) rfl (ck dc259 (i := 1) rfl) ?_
  refine G_iconst (ck dc259 (i := 2) rfl) ?_
  refine G_istore_n (L' := [(2, .inl (-1)), (1, .inl (-1)), (0, .inr (.inr 52))]) rfl (mfx.lt mf259 (Nat.le_of_ble_eq_true rfl)) rfl (ck dc259 (i := 3) rfl) ?_
  refine G_iconst (ck dc259 (i := 4) rfl) ?_
  refine G_istore_n (L' := [(3, .inl 0), (2, .inl (-1)), (1, .inl (-1)), (0, .inr (.inr 52))]) rfl (mfx.lt mf259 (Nat.le_of_ble_eq_true rfl)) rfl (ck dc259 (i := 5) rfl) ?_
  exact G_sub [3, 2, 1, 0] rfl h
theorem g_m_danger_6 (K : Nat) (l1 l2 l3 : Int) (M : PM) (Q : Option PV → PM → Prop)
    (h : R32 l3 ∧ R32 (M 55 0) ∧ ((M 55 0) ≤ l3 → Q (some (.inl l1)) M) ∧ (¬ (M 55 0) ≤ l3 → Call K jModel_failsIf [.inr (.inr 52), .inl (-200), .inl l3] P0 P0 M (retI fun r3 M4 => Call K jModel_sizeOf [.inl r3] P0 P0 M4 (retI fun r5 M6 => R32 r5 ∧ R32 l2 ∧ (r5 ≤ l2 → G none (K + 1) jModel_danger 6 [(0, .inr (.inr 52)), (1, .inl l1), (2, .inl l2), (3, .inl (l3 + 1))] [] P0 P0 M6 Q) ∧ (¬ r5 ≤ l2 → G none (K + 1) jModel_danger 6 [(0, .inr (.inr 52)), (1, .inl l3), (2, .inl r5), (3, .inl (l3 + 1))] [] P0 P0 M6 Q))))) : G none (K + 1) jModel_danger 6 [(0, .inr (.inr 52)), (1, .inl l1), (2, .inl l2), (3, .inl l3)] [] P0 P0 M Q := by
  refine G_iload_n 3 rfl rfl (ck dc259 (i := 6) rfl) ?_
  refine G_aload_n 0 rfl rfl (ck dc259 (i := 7) rfl) ?_
  refine H_getR mf259 (ck dc259 (i := 8) rfl) fw_Model_5 fc11_3 ly52 ra52 rf52_3 (by decide) ?_
  refine G_iconst (ck dc259 (i := 9) rfl) ?_
  refine H_iald (ck dc259 (i := 10) rfl) ly55 (by decide) ra55 (by decide) (x := (M 55 0)) rfl ?_
  obtain ⟨o1, h⟩ := h
  obtain ⟨o2, h⟩ := h
  refine G_icmp_ge (tgt := 46) (by decide) o1 o2 (ck dc259 (i := 11) rfl) (fun c => ?_) (fun c => ?_)
  · replace h := h.1 c
    refine G_iload_n 1 rfl rfl (ck dc259 (i := 27) rfl) ?_
    exact H_iretI mf259 (ck dc259 (i := 28) rfl) rfl h
  · replace h := h.2 c
    refine G_aload_n 0 rfl rfl (ck dc259 (i := 12) rfl) ?_
    refine G_sipush (n := (-200)) rfl (ck dc259 (i := 13) rfl) ?_
    refine G_iload_n 3 rfl rfl (ck dc259 (i := 14) rfl) ?_
    refine H_vI mf259 (As := [.inl (-200), .inl l3]) (st := []) (ck dc259 (i := 15) rfl) lk_Model_298 rfl rfl (Nat.le_of_ble_eq_true rfl) ly52 ra52 ⟨Nat.le_refl _, Nat.le_refl _⟩ h (fun r3 M4 h => ?_)
    refine H_sI mf259 (As := [.inl r3]) (st := []) (ck dc259 (i := 16) rfl) lk_Model_305 rfl rfl (Nat.le_of_ble_eq_true rfl) ⟨Nat.le_refl _, Nat.le_refl _⟩ h (fun r5 M6 h => ?_)
    refine G_istore (L' := [(4, .inl r5), (0, .inr (.inr 52)), (1, .inl l1), (2, .inl l2), (3, .inl l3)]) (mfx.lt mf259 (Nat.le_of_ble_eq_true rfl)) rfl (ck dc259 (i := 17) rfl) ?_
    refine G_iload 0 rfl (ck dc259 (i := 18) rfl) ?_
    refine G_iload_n 3 rfl rfl (ck dc259 (i := 19) rfl) ?_
    obtain ⟨o7, h⟩ := h
    obtain ⟨o8, h⟩ := h
    refine G_icmp_le (tgt := 40) (by decide) o7 o8 (ck dc259 (i := 20) rfl) (fun c => ?_) (fun c => ?_)
    · replace h := h.1 c
      refine G_iinc (L' := [(3, .inl (l3 + 1)), (4, .inl r5), (0, .inr (.inr 52)), (1, .inl l1), (2, .inl l2)]) 4 rfl (mfx.lt mf259 (Nat.le_of_ble_eq_true rfl)) rfl (ck dc259 (i := 25) rfl) ?_
      refine G_goto (tgt := 6) (by decide) (ck dc259 (i := 26) rfl) ?_
      exact G_sub [2, 3, 4, 0] rfl h
    · replace h := h.2 c
      refine G_iload_n 4 rfl rfl (ck dc259 (i := 21) rfl) ?_
      refine G_istore_n (L' := [(1, .inl l3), (4, .inl r5), (0, .inr (.inr 52)), (2, .inl l2), (3, .inl l3)]) rfl (mfx.lt mf259 (Nat.le_of_ble_eq_true rfl)) rfl (ck dc259 (i := 22) rfl) ?_
      refine G_iload 1 rfl (ck dc259 (i := 23) rfl) ?_
      refine G_istore_n (L' := [(2, .inl r5), (1, .inl l3), (4, .inl r5), (0, .inr (.inr 52)), (3, .inl l3)]) rfl (mfx.lt mf259 (Nat.le_of_ble_eq_true rfl)) rfl (ck dc259 (i := 24) rfl) ?_
      refine G_iinc (L' := [(3, .inl (l3 + 1)), (2, .inl r5), (1, .inl l3), (4, .inl r5), (0, .inr (.inr 52))]) 4 rfl (mfx.lt mf259 (Nat.le_of_ble_eq_true rfl)) rfl (ck dc259 (i := 25) rfl) ?_
      refine G_goto (tgt := 6) (by decide) (ck dc259 (i := 26) rfl) ?_
      exact G_sub [4, 2, 1, 0] rfl h
theorem c_model_isRow (K : Nat) (a1 : Int) (M : PM) (Q : Option PV → PM → Prop)
    (h : R32 a1 ∧ Call K jModel_within [.inr (.inl a1), .inr (.inl 0), .inr (.inl 3)] P0 P0 M (retI fun r2 M3 => (r2 = 0 ∨ r2 = 1) ∧ Q (some (.inl r2)) M3)) : Call (K + 1) jModel_isRow [.inl a1] P0 P0 M Q := by
  refine Call.intro (by decide +kernel) (mfx.le mf261 (Nat.le_of_ble_eq_true rfl)) (Nat.le_refl _) rfl ?_
  refine G_iload_n 0 rfl rfl (ck dc261 (i := 0) rfl) ?_
  obtain ⟨o1, h⟩ := h
  refine G_i2l o1 (ck dc261 (i := 1) rfl) ?_
  refine G_lconst (v := 0) rfl (ck dc261 (i := 2) rfl) ?_
  refine H_ldc2 mf261 (v := 3) (ck dc261 (i := 3) rfl) kl_Model_406 ?_
  refine H_sZ mf261 (As := [.inr (.inl a1), .inr (.inl 0), .inr (.inl 3)]) (st := []) (ck dc261 (i := 4) rfl) lk_Model_9 rfl rfl (Nat.le_of_ble_eq_true rfl) ⟨Nat.le_refl _, Nat.le_refl _⟩ h (fun r2 M3 h => ?_)
  obtain ⟨o4, h⟩ := h
  exact H_iretZ mf261 (ck dc261 (i := 5) rfl) rfl o4 h
theorem c_m_hasPlace (K : Nat) (a1 a2 a3 : Int) (M : PM) (Q : Option PV → PM → Prop)
    (h : R32 a2 ∧ (a2 < 0 → Q (some (.inl 0)) M) ∧ (¬ a2 < 0 → (0 ≤ a1 ∧ a1 < 4) ∧ R32 ((M 73 a1) - a3) ∧ (((M 73 a1) - a3) ≤ a2 → Q (some (.inl 0)) M) ∧ (¬ ((M 73 a1) - a3) ≤ a2 → Q (some (.inl 1)) M))) : Call (K + 1) jModel_hasPlace [.inr (.inr 52), .inl a1, .inl a2, .inl a3] P0 P0 M Q := by
  refine Call.intro (by decide +kernel) (mfx.le mf262 (Nat.le_of_ble_eq_true rfl)) (Nat.le_refl _) rfl ?_
  refine G_iload_n 2 rfl rfl (ck dc262 (i := 0) rfl) ?_
  obtain ⟨o1, h⟩ := h
  refine G_if_lt (tgt := 20) (by decide) o1 (ck dc262 (i := 1) rfl) (fun c => ?_) (fun c => ?_)
  · replace h := h.1 c
    refine G_iconst (ck dc262 (i := 12) rfl) ?_
    exact H_iretZ mf262 (ck dc262 (i := 13) rfl) rfl (Or.inl rfl) h
  · replace h := h.2 c
    refine G_iload_n 2 rfl rfl (ck dc262 (i := 2) rfl) ?_
    refine G_aload_n 0 rfl rfl (ck dc262 (i := 3) rfl) ?_
    refine H_getR mf262 (ck dc262 (i := 4) rfl) fw_Model_83 fc11_34 ly52 ra52 rf52_34 (by decide) ?_
    refine G_iload_n 1 rfl rfl (ck dc262 (i := 5) rfl) ?_
    obtain ⟨o2, h⟩ := h
    refine H_iald (ck dc262 (i := 6) rfl) ly73 (by decide) ra73 o2 (x := (M 73 a1)) rfl ?_
    refine G_iload_n 3 rfl rfl (ck dc262 (i := 7) rfl) ?_
    refine G_isub (ck dc262 (i := 8) rfl) ?_
    obtain ⟨o3, h⟩ := h
    refine G_icmp_ge (tgt := 20) (by decide) o1 o3 (ck dc262 (i := 9) rfl) (fun c => ?_) (fun c => ?_)
    · replace h := h.1 c
      refine G_iconst (ck dc262 (i := 12) rfl) ?_
      exact H_iretZ mf262 (ck dc262 (i := 13) rfl) rfl (Or.inl rfl) h
    · replace h := h.2 c
      refine G_iconst (ck dc262 (i := 10) rfl) ?_
      refine G_goto (tgt := 21) (by decide) (ck dc262 (i := 11) rfl) ?_
      exact H_iretZ mf262 (ck dc262 (i := 13) rfl) rfl (Or.inr rfl) h
set_option maxHeartbeats 20000000 in
theorem c_m_rescue (K : Nat) (a1 a2 a3 a4 a5 : Int) (M : PM) (Q : Option PV → PM → Prop)
    (h : Call K jModel_isRow [.inl a1] P0 P0 M (retI fun r1 M2 => R32 r1 ∧ (r1 = 0 → Q (some (.inl (-1))) M2) ∧ (¬ r1 = 0 → R32 a5 ∧ Call K jModel_within [.inr (.inl a5), .inr (.inl 0), .inr (.inl 1)] P0 P0 M2 (retI fun r5 M6 => R32 r5 ∧ (¬ r5 = 0 → R32 a3 ∧ Call K jModel_within [.inr (.inl a3), .inr (.inl 1), .inr (.inl 30)] P0 P0 M6 (retI fun r9 M10 => R32 r9 ∧ (r9 = 0 → Q (some (.inl (-2))) M10) ∧ (¬ r9 = 0 → R32 a4 ∧ Call K jModel_within [.inr (.inl a4), .inr (.inl 1), .inr (.inl 6)] P0 P0 M10 (retI fun r13 M14 => R32 r13 ∧ (¬ r13 = 0 → (0 ≤ a1 ∧ a1 < 4) ∧ R32 (M14 73 a1) ∧ (¬ (M14 73 a1) = (-1) → Call K jModel_givesNothing [.inr (.inr 52)] P0 P0 M14 (retV fun M19 => G none (K + 1) jModel_rescue 68 [(0, .inr (.inr 52)), (1, .inl a1), (2, .inl a2), (3, .inl a3), (4, .inl a4), (5, .inl a5), (6, .inl 0)] [] P0 P0 M19 Q)) ∧ ((M14 73 a1) = (-1) → Q (some (.inl (-11))) M14)) ∧ (r13 = 0 → Q (some (.inl (-2))) M14))))) ∧ (r5 = 0 → Q (some (.inl (-1))) M6))))) : Call (K + 1) jModel_rescue [.inr (.inr 52), .inl a1, .inl a2, .inl a3, .inl a4, .inl a5] P0 P0 M Q := by
  refine Call.intro (by decide +kernel) (mfx.le mf260 (Nat.le_of_ble_eq_true rfl)) (Nat.le_refl _) rfl ?_
  refine G_iload_n 1 rfl rfl (ck dc260 (i := 0) rfl) ?_
  refine H_sZ mf260 (As := [.inl a1]) (st := []) (ck dc260 (i := 1) rfl) lk_Model_318 rfl rfl (Nat.le_of_ble_eq_true rfl) ⟨Nat.le_refl _, Nat.le_refl _⟩ h (fun r1 M2 h => ?_)
  obtain ⟨o3, h⟩ := h
  refine G_if_eq (tgt := 18) (by decide) o3 (ck dc260 (i := 2) rfl) (fun c => ?_) (fun c => ?_)
  · replace h := h.1 c
    refine G_iconst (ck dc260 (i := 9) rfl) ?_
    exact H_iretI mf260 (ck dc260 (i := 10) rfl) rfl h
  · replace h := h.2 c
    refine G_iload 5 rfl (ck dc260 (i := 3) rfl) ?_
    obtain ⟨o4, h⟩ := h
    refine G_i2l o4 (ck dc260 (i := 4) rfl) ?_
    refine G_lconst (v := 0) rfl (ck dc260 (i := 5) rfl) ?_
    refine G_lconst (v := 1) rfl (ck dc260 (i := 6) rfl) ?_
    refine H_sZ mf260 (As := [.inr (.inl a5), .inr (.inl 0), .inr (.inl 1)]) (st := []) (ck dc260 (i := 7) rfl) lk_Model_9 rfl rfl (Nat.le_of_ble_eq_true rfl) ⟨Nat.le_refl _, Nat.le_refl _⟩ h (fun r5 M6 h => ?_)
    obtain ⟨o7, h⟩ := h
    refine G_if_ne (tgt := 20) (by decide) o7 (ck dc260 (i := 8) rfl) (fun c => ?_) (fun c => ?_)
    · replace h := h.1 c
      refine G_iload_n 3 rfl rfl (ck dc260 (i := 11) rfl) ?_
      obtain ⟨o8, h⟩ := h
      refine G_i2l o8 (ck dc260 (i := 12) rfl) ?_
      refine G_lconst (v := 1) rfl (ck dc260 (i := 13) rfl) ?_
      refine H_ldc2 mf260 (v := 30) (ck dc260 (i := 14) rfl) kl_Model_321 ?_
      refine H_sZ mf260 (As := [.inr (.inl a3), .inr (.inl 1), .inr (.inl 30)]) (st := []) (ck dc260 (i := 15) rfl) lk_Model_9 rfl rfl (Nat.le_of_ble_eq_true rfl) ⟨Nat.le_refl _, Nat.le_refl _⟩ h (fun r9 M10 h => ?_)
      obtain ⟨o11, h⟩ := h
      refine G_if_eq (tgt := 45) (by decide) o11 (ck dc260 (i := 16) rfl) (fun c => ?_) (fun c => ?_)
      · replace h := h.1 c
        refine G_bipush (n := (-2)) rfl (ck dc260 (i := 23) rfl) ?_
        exact H_iretI mf260 (ck dc260 (i := 24) rfl) rfl h
      · replace h := h.2 c
        refine G_iload 4 rfl (ck dc260 (i := 17) rfl) ?_
        obtain ⟨o12, h⟩ := h
        refine G_i2l o12 (ck dc260 (i := 18) rfl) ?_
        refine G_lconst (v := 1) rfl (ck dc260 (i := 19) rfl) ?_
        refine H_ldc2 mf260 (v := 6) (ck dc260 (i := 20) rfl) kl_Model_323 ?_
        refine H_sZ mf260 (As := [.inr (.inl a4), .inr (.inl 1), .inr (.inl 6)]) (st := []) (ck dc260 (i := 21) rfl) lk_Model_9 rfl rfl (Nat.le_of_ble_eq_true rfl) ⟨Nat.le_refl _, Nat.le_refl _⟩ h (fun r13 M14 h => ?_)
        obtain ⟨o15, h⟩ := h
        refine G_if_ne (tgt := 48) (by decide) o15 (ck dc260 (i := 22) rfl) (fun c => ?_) (fun c => ?_)
        · replace h := h.1 c
          refine G_aload_n 0 rfl rfl (ck dc260 (i := 25) rfl) ?_
          refine H_getR mf260 (ck dc260 (i := 26) rfl) fw_Model_83 fc11_34 ly52 ra52 rf52_34 (by decide) ?_
          refine G_iload_n 1 rfl rfl (ck dc260 (i := 27) rfl) ?_
          obtain ⟨o16, h⟩ := h
          refine H_iald (ck dc260 (i := 28) rfl) ly73 (by decide) ra73 o16 (x := (M14 73 a1)) rfl ?_
          refine G_iconst (ck dc260 (i := 29) rfl) ?_
          obtain ⟨o17, h⟩ := h
          refine G_icmp_ne (tgt := 61) (by decide) o17 (by decide) (ck dc260 (i := 30) rfl) (fun c => ?_) (fun c => ?_)
          · replace h := h.1 c
            refine G_aload_n 0 rfl rfl (ck dc260 (i := 33) rfl) ?_
            refine H_vV mf260 (As := []) (st := []) (ck dc260 (i := 34) rfl) lk_Model_312 rfl rfl (Nat.le_of_ble_eq_true rfl) ly52 ra52 ⟨Nat.le_refl _, Nat.le_refl _⟩ h (fun M19 h => ?_)
            refine G_iconst (ck dc260 (i := 35) rfl) ?_
            refine G_istore (L' := [(6, .inl 0), (0, .inr (.inr 52)), (1, .inl a1), (2, .inl a2), (3, .inl a3), (4, .inl a4), (5, .inl a5)]) (mfx.lt mf260 (Nat.le_of_ble_eq_true rfl)) rfl (ck dc260 (i := 36) rfl) ?_
            exact G_sub [1, 2, 3, 4, 5, 6, 0] rfl h
          · replace h := h.2 c
            refine G_bipush (n := (-11)) rfl (ck dc260 (i := 31) rfl) ?_
            exact H_iretI mf260 (ck dc260 (i := 32) rfl) rfl h
        · replace h := h.2 c
          refine G_bipush (n := (-2)) rfl (ck dc260 (i := 23) rfl) ?_
          exact H_iretI mf260 (ck dc260 (i := 24) rfl) rfl h
    · replace h := h.2 c
      refine G_iconst (ck dc260 (i := 9) rfl) ?_
      exact H_iretI mf260 (ck dc260 (i := 10) rfl) rfl h
theorem g_m_rescue_68 (K : Nat) (l1 l2 l3 l4 l5 l6 : Int) (M : PM) (Q : Option PV → PM → Prop)
    (h : R32 l6 ∧ R32 l4 ∧ (l4 ≤ l6 → Call K jModel_supposesGiven [.inr (.inr 52), .inl 0, .inl (-1)] P0 P0 M (retV fun M4 => G none (K + 1) jModel_rescue 112 [(0, .inr (.inr 52)), (1, .inl l1), (2, .inl l2), (6, .inl (M4 52 13)), (7, .inl 0)] [] P0 P0 M4 Q)) ∧ (¬ l4 ≤ l6 → Call K jModel_savesMost [.inr (.inr 52), .inl l3, .inl l5] P0 P0 M (retI fun r5 M6 => (0 ≤ r5 ∧ r5 < 5) ∧ G none (K + 1) jModel_rescue 68 [(0, .inr (.inr 52)), (1, .inl l1), (2, .inl l2), (3, .inl l3), (4, .inl l4), (5, .inl l5), (6, .inl (l6 + 1))] [] P0 P0 (mset M6 69 r5 ((M6 69 r5) + l3)) Q))) : G none (K + 1) jModel_rescue 68 [(0, .inr (.inr 52)), (1, .inl l1), (2, .inl l2), (3, .inl l3), (4, .inl l4), (5, .inl l5), (6, .inl l6)] [] P0 P0 M Q := by
  refine G_iload 6 rfl (ck dc260 (i := 37) rfl) ?_
  refine G_iload 4 rfl (ck dc260 (i := 38) rfl) ?_
  obtain ⟨o1, h⟩ := h
  obtain ⟨o2, h⟩ := h
  refine G_icmp_ge (tgt := 97) (by decide) o1 o2 (ck dc260 (i := 39) rfl) (fun c => ?_) (fun c => ?_)
  · replace h := h.1 c
    refine G_aload_n 0 rfl rfl (ck dc260 (i := 53) rfl) ?_
    refine G_iconst (ck dc260 (i := 54) rfl) ?_
    refine G_iconst (ck dc260 (i := 55) rfl) ?_
    refine H_vV mf260 (As := [.inl 0, .inl (-1)]) (st := []) (ck dc260 (i := 56) rfl) lk_Model_301 rfl rfl (Nat.le_of_ble_eq_true rfl) ly52 ra52 ⟨Nat.le_refl _, Nat.le_refl _⟩ h (fun M4 h => ?_)
    refine G_aload_n 0 rfl rfl (ck dc260 (i := 57) rfl) ?_
    refine H_getI mf260 (ck dc260 (i := 58) rfl) fw_Model_176 (Or.inl fc11_13) ly52 ra52 (x := (M4 52 13)) rfl ?_
    refine G_istore (L' := [(6, .inl (M4 52 13)), (0, .inr (.inr 52)), (1, .inl l1), (2, .inl l2), (3, .inl l3), (4, .inl l4), (5, .inl l5)]) (mfx.lt mf260 (Nat.le_of_ble_eq_true rfl)) rfl (ck dc260 (i := 59) rfl) ?_
    refine G_iconst (ck dc260 (i := 60) rfl) ?_
    refine G_istore (L' := [(7, .inl 0), (6, .inl (M4 52 13)), (0, .inr (.inr 52)), (1, .inl l1), (2, .inl l2), (3, .inl l3), (4, .inl l4), (5, .inl l5)]) (mfx.lt mf260 (Nat.le_of_ble_eq_true rfl)) rfl (ck dc260 (i := 61) rfl) ?_
    exact G_sub [2, 3, 4, 1, 0] rfl h
  · replace h := h.2 c
    refine G_aload_n 0 rfl rfl (ck dc260 (i := 40) rfl) ?_
    refine H_getR mf260 (ck dc260 (i := 41) rfl) fw_Model_71 fc11_25 ly52 ra52 rf52_25 (by decide) ?_
    refine G_aload_n 0 rfl rfl (ck dc260 (i := 42) rfl) ?_
    refine G_iload_n 3 rfl rfl (ck dc260 (i := 43) rfl) ?_
    refine G_iload 5 rfl (ck dc260 (i := 44) rfl) ?_
    refine H_vI mf260 (As := [.inl l3, .inl l5]) (st := [.inr (.inr 69)]) (ck dc260 (i := 45) rfl) lk_Model_315 rfl rfl (Nat.le_of_ble_eq_true rfl) ly52 ra52 ⟨Nat.le_refl _, Nat.le_refl _⟩ h (fun r5 M6 h => ?_)
    refine G_dup2 rfl rfl (ck dc260 (i := 46) rfl) ?_
    obtain ⟨o7, h⟩ := h
    refine H_iald (ck dc260 (i := 47) rfl) ly69 (by decide) ra69 o7 (x := (M6 69 r5)) rfl ?_
    refine G_iload_n 3 rfl rfl (ck dc260 (i := 48) rfl) ?_
    refine G_iadd (ck dc260 (i := 49) rfl) ?_
    refine G_iast (ck dc260 (i := 50) rfl) ra69 ly69 (by decide) o7 ?_
    refine G_iinc (L' := [(6, .inl (l6 + 1)), (0, .inr (.inr 52)), (1, .inl l1), (2, .inl l2), (3, .inl l3), (4, .inl l4), (5, .inl l5)]) 6 rfl (mfx.lt mf260 (Nat.le_of_ble_eq_true rfl)) rfl (ck dc260 (i := 51) rfl) ?_
    refine G_goto (tgt := 68) (by decide) (ck dc260 (i := 52) rfl) ?_
    exact G_sub [1, 2, 3, 4, 5, 6, 0] rfl h
set_option maxHeartbeats 20000000 in
theorem g_m_rescue_112 (K : Nat) (l1 l2 l6 l7 : Int) (M : PM) (Q : Option PV → PM → Prop)
    (h : R32 l7 ∧ R32 (M 55 0) ∧ ((M 55 0) ≤ l7 → (¬ l7 = (M 55 0) → Q (some (.inl (-13))) M) ∧ (l7 = (M 55 0) → Q (some (.inl l6)) M)) ∧ (¬ (M 55 0) ≤ l7 → Call K jModel_hasPlace [.inr (.inr 52), .inl l1, .inl l2, .inl l7] P0 P0 M (retI fun r3 M4 => R32 r3 ∧ (r3 = 0 → R32 (M4 55 0) ∧ (¬ l7 = (M4 55 0) → Q (some (.inl (-13))) M4) ∧ (l7 = (M4 55 0) → Q (some (.inl l6)) M4)) ∧ (¬ r3 = 0 → (0 ≤ l7 ∧ l7 < 5) ∧ R32 (M4 69 l7) ∧ (0 ≤ (((20 * l1) + l2) + l7) ∧ (((20 * l1) + l2) + l7) < 80) ∧ G none (K + 1) jModel_rescue 112 [(0, .inr (.inr 52)), (1, .inl l1), (2, .inl l2), (6, .inl l6), (7, .inl (l7 + 1))] [] P0 P0 (mset M4 72 (((20 * l1) + l2) + l7) (M4 69 l7)) Q)))) : G none (K + 1) jModel_rescue 112 [(0, .inr (.inr 52)), (1, .inl l1), (2, .inl l2), (6, .inl l6), (7, .inl l7)] [] P0 P0 M Q := by
  refine G_iload 4 rfl (ck dc260 (i := 62) rfl) ?_
  refine G_aload_n 0 rfl rfl (ck dc260 (i := 63) rfl) ?_
  refine H_getR mf260 (ck dc260 (i := 64) rfl) fw_Model_5 fc11_3 ly52 ra52 rf52_3 (by decide) ?_
  refine G_iconst (ck dc260 (i := 65) rfl) ?_
  refine H_iald (ck dc260 (i := 66) rfl) ly55 (by decide) ra55 (by decide) (x := (M 55 0)) rfl ?_
  obtain ⟨o1, h⟩ := h
  obtain ⟨o2, h⟩ := h
  refine G_icmp_ge (tgt := 162) (by decide) o1 o2 (ck dc260 (i := 67) rfl) (fun c => ?_) (fun c => ?_)
  · replace h := h.1 c
    refine G_iload 4 rfl (ck dc260 (i := 91) rfl) ?_
    refine G_aload_n 0 rfl rfl (ck dc260 (i := 92) rfl) ?_
    refine H_getR mf260 (ck dc260 (i := 93) rfl) fw_Model_5 fc11_3 ly52 ra52 rf52_3 (by decide) ?_
    refine G_iconst (ck dc260 (i := 94) rfl) ?_
    refine H_iald (ck dc260 (i := 95) rfl) ly55 (by decide) ra55 (by decide) (x := (M 55 0)) rfl ?_
    refine G_icmp_ne (tgt := 178) (by decide) o1 o2 (ck dc260 (i := 96) rfl) (fun c => ?_) (fun c => ?_)
    · replace h := h.1 c
      refine G_bipush (n := (-13)) rfl (ck dc260 (i := 99) rfl) ?_
      exact H_iretI mf260 (ck dc260 (i := 100) rfl) rfl h
    · replace h := h.2 c
      refine G_iload 3 rfl (ck dc260 (i := 97) rfl) ?_
      refine G_goto (tgt := 180) (by decide) (ck dc260 (i := 98) rfl) ?_
      exact H_iretI mf260 (ck dc260 (i := 100) rfl) rfl h
  · replace h := h.2 c
    refine G_aload_n 0 rfl rfl (ck dc260 (i := 68) rfl) ?_
    refine G_iload_n 1 rfl rfl (ck dc260 (i := 69) rfl) ?_
    refine G_iload_n 2 rfl rfl (ck dc260 (i := 70) rfl) ?_
    refine G_iload 4 rfl (ck dc260 (i := 71) rfl) ?_
    refine H_vZ mf260 (As := [.inl l1, .inl l2, .inl l7]) (st := []) (ck dc260 (i := 72) rfl) lk_Model_325 rfl rfl (Nat.le_of_ble_eq_true rfl) ly52 ra52 ⟨Nat.le_refl _, Nat.le_refl _⟩ h (fun r3 M4 h => ?_)
    obtain ⟨o5, h⟩ := h
    refine G_if_eq (tgt := 162) (by decide) o5 (ck dc260 (i := 73) rfl) (fun c => ?_) (fun c => ?_)
    · replace h := h.1 c
      refine G_iload 4 rfl (ck dc260 (i := 91) rfl) ?_
      refine G_aload_n 0 rfl rfl (ck dc260 (i := 92) rfl) ?_
      refine H_getR mf260 (ck dc260 (i := 93) rfl) fw_Model_5 fc11_3 ly52 ra52 rf52_3 (by decide) ?_
      refine G_iconst (ck dc260 (i := 94) rfl) ?_
      refine H_iald (ck dc260 (i := 95) rfl) ly55 (by decide) ra55 (by decide) (x := (M4 55 0)) rfl ?_
      obtain ⟨o6, h⟩ := h
      refine G_icmp_ne (tgt := 178) (by decide) o1 o6 (ck dc260 (i := 96) rfl) (fun c => ?_) (fun c => ?_)
      · replace h := h.1 c
        refine G_bipush (n := (-13)) rfl (ck dc260 (i := 99) rfl) ?_
        exact H_iretI mf260 (ck dc260 (i := 100) rfl) rfl h
      · replace h := h.2 c
        refine G_iload 3 rfl (ck dc260 (i := 97) rfl) ?_
        refine G_goto (tgt := 180) (by decide) (ck dc260 (i := 98) rfl) ?_
        exact H_iretI mf260 (ck dc260 (i := 100) rfl) rfl h
    · replace h := h.2 c
      refine G_aload_n 0 rfl rfl (ck dc260 (i := 74) rfl) ?_
      refine H_getR mf260 (ck dc260 (i := 75) rfl) fw_Model_80 fc11_33 ly52 ra52 rf52_33 (by decide) ?_
      refine G_bipush (n := 20) rfl (ck dc260 (i := 76) rfl) ?_
      refine G_iload_n 1 rfl rfl (ck dc260 (i := 77) rfl) ?_
      refine G_imul (ck dc260 (i := 78) rfl) ?_
      refine G_iload_n 2 rfl rfl (ck dc260 (i := 79) rfl) ?_
      refine G_iadd (ck dc260 (i := 80) rfl) ?_
      refine G_iload 4 rfl (ck dc260 (i := 81) rfl) ?_
      refine G_iadd (ck dc260 (i := 82) rfl) ?_
      refine G_aload_n 0 rfl rfl (ck dc260 (i := 83) rfl) ?_
      refine H_getR mf260 (ck dc260 (i := 84) rfl) fw_Model_71 fc11_25 ly52 ra52 rf52_25 (by decide) ?_
      refine G_iload 4 rfl (ck dc260 (i := 85) rfl) ?_
      obtain ⟨o7, h⟩ := h
      refine H_iald (ck dc260 (i := 86) rfl) ly69 (by decide) ra69 o7 (x := (M4 69 l7)) rfl ?_
      obtain ⟨o8, h⟩ := h
      refine G_i2l o8 (ck dc260 (i := 87) rfl) ?_
      obtain ⟨o9, h⟩ := h
      refine G_last (ck dc260 (i := 88) rfl) ra72 ly72 (by decide) o9 ?_
      refine G_iinc (L' := [(7, .inl (l7 + 1)), (0, .inr (.inr 52)), (1, .inl l1), (2, .inl l2), (6, .inl l6)]) 4 rfl (mfx.lt mf260 (Nat.le_of_ble_eq_true rfl)) rfl (ck dc260 (i := 89) rfl) ?_
      refine G_goto (tgt := 112) (by decide) (ck dc260 (i := 90) rfl) ?_
      exact G_sub [1, 2, 3, 4, 0] rfl h
theorem c_m_isOnWay (K : Nat) (a1 : Int) (M : PM) (Q : Option PV → PM → Prop)
    (h : G none (K + 1) jModel_isOnWay 2 [(0, .inr (.inr 52)), (1, .inl a1), (2, .inl 0)] [] P0 P0 M Q) : Call (K + 1) jModel_isOnWay [.inr (.inr 52), .inl a1] P0 P0 M Q := by
  refine Call.intro (by decide +kernel) (mfx.le mf266 (Nat.le_of_ble_eq_true rfl)) (Nat.le_refl _) rfl ?_
  refine G_iconst (ck dc266 (i := 0) rfl) ?_
  refine G_istore_n (L' := [(2, .inl 0), (0, .inr (.inr 52)), (1, .inl a1)]) rfl (mfx.lt mf266 (Nat.le_of_ble_eq_true rfl)) rfl (ck dc266 (i := 1) rfl) ?_
  exact G_sub [1, 2, 0] rfl h
theorem g_m_isOnWay_2 (K : Nat) (l1 l2 : Int) (M : PM) (Q : Option PV → PM → Prop)
    (h : R32 l2 ∧ R32 (M 52 27) ∧ ((M 52 27) ≤ l2 → Q (some (.inl 0)) M) ∧ (¬ (M 52 27) ≤ l2 → (0 ≤ l2 ∧ l2 < 5) ∧ R32 (M 70 l2) ∧ R32 l1 ∧ (¬ (M 70 l2) = l1 → G none (K + 1) jModel_isOnWay 2 [(0, .inr (.inr 52)), (1, .inl l1), (2, .inl (l2 + 1))] [] P0 P0 M Q) ∧ ((M 70 l2) = l1 → Q (some (.inl 1)) M))) : G none (K + 1) jModel_isOnWay 2 [(0, .inr (.inr 52)), (1, .inl l1), (2, .inl l2)] [] P0 P0 M Q := by
  refine G_iload_n 2 rfl rfl (ck dc266 (i := 2) rfl) ?_
  refine G_aload_n 0 rfl rfl (ck dc266 (i := 3) rfl) ?_
  refine H_getI mf266 (ck dc266 (i := 4) rfl) fw_Model_329 (Or.inl fc11_27) ly52 ra52 (x := (M 52 27)) rfl ?_
  obtain ⟨o1, h⟩ := h
  obtain ⟨o2, h⟩ := h
  refine G_icmp_ge (tgt := 28) (by decide) o1 o2 (ck dc266 (i := 5) rfl) (fun c => ?_) (fun c => ?_)
  · replace h := h.1 c
    refine G_iconst (ck dc266 (i := 16) rfl) ?_
    exact H_iretZ mf266 (ck dc266 (i := 17) rfl) rfl (Or.inl rfl) h
  · replace h := h.2 c
    refine G_aload_n 0 rfl rfl (ck dc266 (i := 6) rfl) ?_
    refine H_getR mf266 (ck dc266 (i := 7) rfl) fw_Model_74 fc11_26 ly52 ra52 rf52_26 (by decide) ?_
    refine G_iload_n 2 rfl rfl (ck dc266 (i := 8) rfl) ?_
    obtain ⟨o3, h⟩ := h
    refine H_iald (ck dc266 (i := 9) rfl) ly70 (by decide) ra70 o3 (x := (M 70 l2)) rfl ?_
    refine G_iload_n 1 rfl rfl (ck dc266 (i := 10) rfl) ?_
    obtain ⟨o4, h⟩ := h
    obtain ⟨o5, h⟩ := h
    refine G_icmp_ne (tgt := 22) (by decide) o4 o5 (ck dc266 (i := 11) rfl) (fun c => ?_) (fun c => ?_)
    · replace h := h.1 c
      refine G_iinc (L' := [(2, .inl (l2 + 1)), (0, .inr (.inr 52)), (1, .inl l1)]) 2 rfl (mfx.lt mf266 (Nat.le_of_ble_eq_true rfl)) rfl (ck dc266 (i := 14) rfl) ?_
      refine G_goto (tgt := 2) (by decide) (ck dc266 (i := 15) rfl) ?_
      exact G_sub [1, 2, 0] rfl h
    · replace h := h.2 c
      refine G_iconst (ck dc266 (i := 12) rfl) ?_
      exact H_iretZ mf266 (ck dc266 (i := 13) rfl) rfl (Or.inr rfl) h
set_option maxHeartbeats 20000000 in
theorem c_m_rings (K : Nat) (a1 : Int) (M : PM) (Q : Option PV → PM → Prop)
    (h : (0 ≤ ((M 52 27) - 1) ∧ ((M 52 27) - 1) < 5) ∧ R32 (M 52 27) ∧ ((M 52 27) ≤ 1 → G none (K + 1) jModel_rings 46 [(0, .inr (.inr 52)), (1, .inl a1), (2, .inl (M 70 ((M 52 27) - 1))), (3, .inl ((M 70 0) + 1))] [] P0 P0 M Q) ∧ (¬ (M 52 27) ≤ 1 → Call K jModel_owes [.inr (.inr 52), .inl (M 70 ((M 52 27) - 1)), .inl (M 70 0), .inl a1] P0 P0 M (retI fun r3 M4 => R32 r3 ∧ (r3 ≤ 0 → G none (K + 1) jModel_rings 46 [(0, .inr (.inr 52)), (1, .inl a1), (2, .inl (M 70 ((M 52 27) - 1))), (3, .inl ((M4 70 0) + 1))] [] P0 P0 M4 Q) ∧ (¬ r3 ≤ 0 → Q (some (.inl 1)) M4)))) : Call (K + 1) jModel_rings [.inr (.inr 52), .inl a1] P0 P0 M Q := by
  refine Call.intro (by decide +kernel) (mfx.le mf265 (Nat.le_of_ble_eq_true rfl)) (Nat.le_refl _) rfl ?_
  refine G_aload_n 0 rfl rfl (ck dc265 (i := 0) rfl) ?_
  refine H_getR mf265 (ck dc265 (i := 1) rfl) fw_Model_74 fc11_26 ly52 ra52 rf52_26 (by decide) ?_
  refine G_aload_n 0 rfl rfl (ck dc265 (i := 2) rfl) ?_
  refine H_getI mf265 (ck dc265 (i := 3) rfl) fw_Model_329 (Or.inl fc11_27) ly52 ra52 (x := (M 52 27)) rfl ?_
  refine G_iconst (ck dc265 (i := 4) rfl) ?_
  refine G_isub (ck dc265 (i := 5) rfl) ?_
  obtain ⟨o1, h⟩ := h
  refine H_iald (ck dc265 (i := 6) rfl) ly70 (by decide) ra70 o1 (x := (M 70 ((M 52 27) - 1))) rfl ?_
  refine G_istore_n (L' := [(2, .inl (M 70 ((M 52 27) - 1))), (0, .inr (.inr 52)), (1, .inl a1)]) rfl (mfx.lt mf265 (Nat.le_of_ble_eq_true rfl)) rfl (ck dc265 (i := 7) rfl) ?_
  refine G_aload_n 1 rfl rfl (ck dc265 (i := 8) rfl) ?_
  refine H_getI mf265 (ck dc265 (i := 9) rfl) fw_Model_329 (Or.inl fc11_27) ly52 ra52 (x := (M 52 27)) rfl ?_
  refine G_iconst (ck dc265 (i := 10) rfl) ?_
  obtain ⟨o2, h⟩ := h
  refine G_icmp_le (tgt := 37) (by decide) o2 (by decide) (ck dc265 (i := 11) rfl) (fun c => ?_) (fun c => ?_)
  · replace h := h.1 c
    refine G_aload_n 1 rfl rfl (ck dc265 (i := 23) rfl) ?_
    refine H_getR mf265 (ck dc265 (i := 24) rfl) fw_Model_74 fc11_26 ly52 ra52 rf52_26 (by decide) ?_
    refine G_iconst (ck dc265 (i := 25) rfl) ?_
    refine H_iald (ck dc265 (i := 26) rfl) ly70 (by decide) ra70 (by decide) (x := (M 70 0)) rfl ?_
    refine G_iconst (ck dc265 (i := 27) rfl) ?_
    refine G_iadd (ck dc265 (i := 28) rfl) ?_
    refine G_istore_n (L' := [(3, .inl ((M 70 0) + 1)), (2, .inl (M 70 ((M 52 27) - 1))), (0, .inr (.inr 52)), (1, .inl a1)]) rfl (mfx.lt mf265 (Nat.le_of_ble_eq_true rfl)) rfl (ck dc265 (i := 29) rfl) ?_
    exact G_sub [2, 3, 1, 0] rfl h
  · replace h := h.2 c
    refine G_aload_n 1 rfl rfl (ck dc265 (i := 12) rfl) ?_
    refine G_iload_n 0 rfl rfl (ck dc265 (i := 13) rfl) ?_
    refine G_aload_n 1 rfl rfl (ck dc265 (i := 14) rfl) ?_
    refine H_getR mf265 (ck dc265 (i := 15) rfl) fw_Model_74 fc11_26 ly52 ra52 rf52_26 (by decide) ?_
    refine G_iconst (ck dc265 (i := 16) rfl) ?_
    refine H_iald (ck dc265 (i := 17) rfl) ly70 (by decide) ra70 (by decide) (x := (M 70 0)) rfl ?_
    refine G_iload_n 2 rfl rfl (ck dc265 (i := 18) rfl) ?_
    refine H_vI mf265 (As := [.inl (M 70 ((M 52 27) - 1)), .inl (M 70 0), .inl a1]) (st := []) (ck dc265 (i := 19) rfl) lk_Model_103 rfl rfl (Nat.le_of_ble_eq_true rfl) ly52 ra52 ⟨Nat.le_refl _, Nat.le_refl _⟩ h (fun r3 M4 h => ?_)
    obtain ⟨o5, h⟩ := h
    refine G_if_le (tgt := 37) (by decide) o5 (ck dc265 (i := 20) rfl) (fun c => ?_) (fun c => ?_)
    · replace h := h.1 c
      refine G_aload_n 1 rfl rfl (ck dc265 (i := 23) rfl) ?_
      refine H_getR mf265 (ck dc265 (i := 24) rfl) fw_Model_74 fc11_26 ly52 ra52 rf52_26 (by decide) ?_
      refine G_iconst (ck dc265 (i := 25) rfl) ?_
      refine H_iald (ck dc265 (i := 26) rfl) ly70 (by decide) ra70 (by decide) (x := (M4 70 0)) rfl ?_
      refine G_iconst (ck dc265 (i := 27) rfl) ?_
      refine G_iadd (ck dc265 (i := 28) rfl) ?_
      refine G_istore_n (L' := [(3, .inl ((M4 70 0) + 1)), (2, .inl (M 70 ((M 52 27) - 1))), (0, .inr (.inr 52)), (1, .inl a1)]) rfl (mfx.lt mf265 (Nat.le_of_ble_eq_true rfl)) rfl (ck dc265 (i := 29) rfl) ?_
      exact G_sub [2, 3, 1, 0] rfl h
    · replace h := h.2 c
      refine G_iconst (ck dc265 (i := 21) rfl) ?_
      exact H_iretZ mf265 (ck dc265 (i := 22) rfl) rfl (Or.inr rfl) h
set_option maxHeartbeats 20000000 in
theorem g_m_rings_46 (K : Nat) (l1 l2 l3 : Int) (M : PM) (Q : Option PV → PM → Prop)
    (h : R32 l3 ∧ R32 (M 55 0) ∧ ((M 55 0) ≤ l3 → Q (some (.inl 0)) M) ∧ (¬ (M 55 0) ≤ l3 → Call K jModel_owes [.inr (.inr 52), .inl l2, .inl l3, .inl l1] P0 P0 M (retI fun r3 M4 => R32 r3 ∧ (r3 ≤ 0 → G none (K + 1) jModel_rings 46 [(0, .inr (.inr 52)), (1, .inl l1), (2, .inl l2), (3, .inl (l3 + 1))] [] P0 P0 M4 Q) ∧ (¬ r3 ≤ 0 → Call K jModel_isOnWay [.inr (.inr 52), .inl l3] P0 P0 M4 (retI fun r6 M7 => R32 r6 ∧ (¬ r6 = 0 → G none (K + 1) jModel_rings 46 [(0, .inr (.inr 52)), (1, .inl l1), (2, .inl l2), (3, .inl (l3 + 1))] [] P0 P0 M7 Q) ∧ (r6 = 0 → (0 ≤ (M7 52 27) ∧ (M7 52 27) < 5) ∧ Call K jModel_rings [.inr (.inr 52), .inl l1] P0 P0 (mset (mset M7 70 (M7 52 27) l3) 52 27 ((M7 52 27) + 1)) (retI fun r10 M11 => R32 r10 ∧ (r10 = 0 → G none (K + 1) jModel_rings 46 [(0, .inr (.inr 52)), (1, .inl l1), (2, .inl l2), (3, .inl (l3 + 1))] [] P0 P0 (mset M11 52 27 ((M11 52 27) - 1)) Q) ∧ (¬ r10 = 0 → Q (some (.inl 1)) M11)))))))) : G none (K + 1) jModel_rings 46 [(0, .inr (.inr 52)), (1, .inl l1), (2, .inl l2), (3, .inl l3)] [] P0 P0 M Q := by
  refine G_iload_n 3 rfl rfl (ck dc265 (i := 30) rfl) ?_
  refine G_aload_n 0 rfl rfl (ck dc265 (i := 31) rfl) ?_
  refine H_getR mf265 (ck dc265 (i := 32) rfl) fw_Model_5 fc11_3 ly52 ra52 rf52_3 (by decide) ?_
  refine G_iconst (ck dc265 (i := 33) rfl) ?_
  refine H_iald (ck dc265 (i := 34) rfl) ly55 (by decide) ra55 (by decide) (x := (M 55 0)) rfl ?_
  obtain ⟨o1, h⟩ := h
  obtain ⟨o2, h⟩ := h
  refine G_icmp_ge (tgt := 120) (by decide) o1 o2 (ck dc265 (i := 35) rfl) (fun c => ?_) (fun c => ?_)
  · replace h := h.1 c
    refine G_iconst (ck dc265 (i := 72) rfl) ?_
    exact H_iretZ mf265 (ck dc265 (i := 73) rfl) rfl (Or.inl rfl) h
  · replace h := h.2 c
    refine G_aload_n 0 rfl rfl (ck dc265 (i := 36) rfl) ?_
    refine G_iload_n 2 rfl rfl (ck dc265 (i := 37) rfl) ?_
    refine G_iload_n 3 rfl rfl (ck dc265 (i := 38) rfl) ?_
    refine G_iload_n 1 rfl rfl (ck dc265 (i := 39) rfl) ?_
    refine H_vI mf265 (As := [.inl l2, .inl l3, .inl l1]) (st := []) (ck dc265 (i := 40) rfl) lk_Model_103 rfl rfl (Nat.le_of_ble_eq_true rfl) ly52 ra52 ⟨Nat.le_refl _, Nat.le_refl _⟩ h (fun r3 M4 h => ?_)
    obtain ⟨o5, h⟩ := h
    refine G_if_le (tgt := 114) (by decide) o5 (ck dc265 (i := 41) rfl) (fun c => ?_) (fun c => ?_)
    · replace h := h.1 c
      refine G_iinc (L' := [(3, .inl (l3 + 1)), (0, .inr (.inr 52)), (1, .inl l1), (2, .inl l2)]) 3 rfl (mfx.lt mf265 (Nat.le_of_ble_eq_true rfl)) rfl (ck dc265 (i := 70) rfl) ?_
      refine G_goto (tgt := 46) (by decide) (ck dc265 (i := 71) rfl) ?_
      exact G_sub [1, 2, 3, 0] rfl h
    · replace h := h.2 c
      refine G_aload_n 0 rfl rfl (ck dc265 (i := 42) rfl) ?_
      refine G_iload_n 3 rfl rfl (ck dc265 (i := 43) rfl) ?_
      refine H_vZ mf265 (As := [.inl l3]) (st := []) (ck dc265 (i := 44) rfl) lk_Model_332 rfl rfl (Nat.le_of_ble_eq_true rfl) ly52 ra52 ⟨Nat.le_refl _, Nat.le_refl _⟩ h (fun r6 M7 h => ?_)
      obtain ⟨o8, h⟩ := h
      refine G_if_ne (tgt := 114) (by decide) o8 (ck dc265 (i := 45) rfl) (fun c => ?_) (fun c => ?_)
      · replace h := h.1 c
        refine G_iinc (L' := [(3, .inl (l3 + 1)), (0, .inr (.inr 52)), (1, .inl l1), (2, .inl l2)]) 3 rfl (mfx.lt mf265 (Nat.le_of_ble_eq_true rfl)) rfl (ck dc265 (i := 70) rfl) ?_
        refine G_goto (tgt := 46) (by decide) (ck dc265 (i := 71) rfl) ?_
        exact G_sub [1, 2, 3, 0] rfl h
      · replace h := h.2 c
        refine G_aload_n 0 rfl rfl (ck dc265 (i := 46) rfl) ?_
        refine H_getR mf265 (ck dc265 (i := 47) rfl) fw_Model_74 fc11_26 ly52 ra52 rf52_26 (by decide) ?_
        refine G_aload_n 0 rfl rfl (ck dc265 (i := 48) rfl) ?_
        refine H_getI mf265 (ck dc265 (i := 49) rfl) fw_Model_329 (Or.inl fc11_27) ly52 ra52 (x := (M7 52 27)) rfl ?_
        refine G_iload_n 3 rfl rfl (ck dc265 (i := 50) rfl) ?_
        obtain ⟨o9, h⟩ := h
        refine G_iast (ck dc265 (i := 51) rfl) ra70 ly70 (by decide) o9 ?_
        refine G_aload_n 0 rfl rfl (ck dc265 (i := 52) rfl) ?_
        refine G_dup rfl (ck dc265 (i := 53) rfl) ?_
        refine H_getI mf265 (ck dc265 (i := 54) rfl) fw_Model_329 (Or.inl fc11_27) ly52 ra52 (x := (M7 52 27)) (by simp [mset, mcpy, mclr]) ?_
        refine G_iconst (ck dc265 (i := 55) rfl) ?_
        refine G_iadd (ck dc265 (i := 56) rfl) ?_
        refine H_putI mf265 (ck dc265 (i := 57) rfl) fw_Model_329 fc11_27 ly52 ra52 (Or.inl rfl) ?_
        refine G_aload_n 0 rfl rfl (ck dc265 (i := 58) rfl) ?_
        refine G_iload_n 1 rfl rfl (ck dc265 (i := 59) rfl) ?_
        refine H_vZ mf265 (As := [.inl l1]) (st := []) (ck dc265 (i := 60) rfl) lk_Model_335 rfl rfl (Nat.le_of_ble_eq_true rfl) ly52 ra52 ⟨Nat.le_refl _, Nat.le_refl _⟩ h (fun r10 M11 h => ?_)
        obtain ⟨o12, h⟩ := h
        refine G_if_eq (tgt := 104) (by decide) o12 (ck dc265 (i := 61) rfl) (fun c => ?_) (fun c => ?_)
        · replace h := h.1 c
          refine G_aload_n 0 rfl rfl (ck dc265 (i := 64) rfl) ?_
          refine G_dup rfl (ck dc265 (i := 65) rfl) ?_
          refine H_getI mf265 (ck dc265 (i := 66) rfl) fw_Model_329 (Or.inl fc11_27) ly52 ra52 (x := (M11 52 27)) rfl ?_
          refine G_iconst (ck dc265 (i := 67) rfl) ?_
          refine G_isub (ck dc265 (i := 68) rfl) ?_
          refine H_putI mf265 (ck dc265 (i := 69) rfl) fw_Model_329 fc11_27 ly52 ra52 (Or.inl rfl) ?_
          refine G_iinc (L' := [(3, .inl (l3 + 1)), (0, .inr (.inr 52)), (1, .inl l1), (2, .inl l2)]) 3 rfl (mfx.lt mf265 (Nat.le_of_ble_eq_true rfl)) rfl (ck dc265 (i := 70) rfl) ?_
          refine G_goto (tgt := 46) (by decide) (ck dc265 (i := 71) rfl) ?_
          exact G_sub [1, 2, 3, 0] rfl h
        · replace h := h.2 c
          refine G_iconst (ck dc265 (i := 62) rfl) ?_
          exact H_iretZ mf265 (ck dc265 (i := 63) rfl) rfl (Or.inr rfl) h
theorem c_m_findsRing (K : Nat) (a1 : Int) (M : PM) (Q : Option PV → PM → Prop)
    (h : G none (K + 1) jModel_findsRing 2 [(0, .inr (.inr 52)), (1, .inl a1), (2, .inl 0)] [] P0 P0 M Q) : Call (K + 1) jModel_findsRing [.inr (.inr 52), .inl a1] P0 P0 M Q := by
  refine Call.intro (by decide +kernel) (mfx.le mf264 (Nat.le_of_ble_eq_true rfl)) (Nat.le_refl _) rfl ?_
  refine G_iconst (ck dc264 (i := 0) rfl) ?_
  refine G_istore_n (L' := [(2, .inl 0), (0, .inr (.inr 52)), (1, .inl a1)]) rfl (mfx.lt mf264 (Nat.le_of_ble_eq_true rfl)) rfl (ck dc264 (i := 1) rfl) ?_
  exact G_sub [1, 2, 0] rfl h
theorem g_m_findsRing_2 (K : Nat) (l1 l2 : Int) (M : PM) (Q : Option PV → PM → Prop)
    (h : R32 l2 ∧ R32 (M 55 0) ∧ ((M 55 0) ≤ l2 → Q (some (.inl 0)) M) ∧ (¬ (M 55 0) ≤ l2 → Call K jModel_rings [.inr (.inr 52), .inl l1] P0 P0 (mset (mset M 70 0 l2) 52 27 1) (retI fun r3 M4 => R32 r3 ∧ (r3 = 0 → G none (K + 1) jModel_findsRing 2 [(0, .inr (.inr 52)), (1, .inl l1), (2, .inl (l2 + 1))] [] P0 P0 M4 Q) ∧ (¬ r3 = 0 → Q (some (.inl 1)) M4)))) : G none (K + 1) jModel_findsRing 2 [(0, .inr (.inr 52)), (1, .inl l1), (2, .inl l2)] [] P0 P0 M Q := by
  refine G_iload_n 2 rfl rfl (ck dc264 (i := 2) rfl) ?_
  refine G_aload_n 0 rfl rfl (ck dc264 (i := 3) rfl) ?_
  refine H_getR mf264 (ck dc264 (i := 4) rfl) fw_Model_5 fc11_3 ly52 ra52 rf52_3 (by decide) ?_
  refine G_iconst (ck dc264 (i := 5) rfl) ?_
  refine H_iald (ck dc264 (i := 6) rfl) ly55 (by decide) ra55 (by decide) (x := (M 55 0)) rfl ?_
  obtain ⟨o1, h⟩ := h
  obtain ⟨o2, h⟩ := h
  refine G_icmp_ge (tgt := 40) (by decide) o1 o2 (ck dc264 (i := 7) rfl) (fun c => ?_) (fun c => ?_)
  · replace h := h.1 c
    refine G_iconst (ck dc264 (i := 24) rfl) ?_
    exact H_iretZ mf264 (ck dc264 (i := 25) rfl) rfl (Or.inl rfl) h
  · replace h := h.2 c
    refine G_aload_n 0 rfl rfl (ck dc264 (i := 8) rfl) ?_
    refine H_getR mf264 (ck dc264 (i := 9) rfl) fw_Model_74 fc11_26 ly52 ra52 rf52_26 (by decide) ?_
    refine G_iconst (ck dc264 (i := 10) rfl) ?_
    refine G_iload_n 2 rfl rfl (ck dc264 (i := 11) rfl) ?_
    refine G_iast (ck dc264 (i := 12) rfl) ra70 ly70 (by decide) (by decide) ?_
    refine G_aload_n 0 rfl rfl (ck dc264 (i := 13) rfl) ?_
    refine G_iconst (ck dc264 (i := 14) rfl) ?_
    refine H_putI mf264 (ck dc264 (i := 15) rfl) fw_Model_329 fc11_27 ly52 ra52 (Or.inl rfl) ?_
    refine G_aload_n 0 rfl rfl (ck dc264 (i := 16) rfl) ?_
    refine G_iload_n 1 rfl rfl (ck dc264 (i := 17) rfl) ?_
    refine H_vZ mf264 (As := [.inl l1]) (st := []) (ck dc264 (i := 18) rfl) lk_Model_335 rfl rfl (Nat.le_of_ble_eq_true rfl) ly52 ra52 ⟨Nat.le_refl _, Nat.le_refl _⟩ h (fun r3 M4 h => ?_)
    obtain ⟨o5, h⟩ := h
    refine G_if_eq (tgt := 34) (by decide) o5 (ck dc264 (i := 19) rfl) (fun c => ?_) (fun c => ?_)
    · replace h := h.1 c
      refine G_iinc (L' := [(2, .inl (l2 + 1)), (0, .inr (.inr 52)), (1, .inl l1)]) 2 rfl (mfx.lt mf264 (Nat.le_of_ble_eq_true rfl)) rfl (ck dc264 (i := 22) rfl) ?_
      refine G_goto (tgt := 2) (by decide) (ck dc264 (i := 23) rfl) ?_
      exact G_sub [1, 2, 0] rfl h
    · replace h := h.2 c
      refine G_iconst (ck dc264 (i := 20) rfl) ?_
      exact H_iretZ mf264 (ck dc264 (i := 21) rfl) rfl (Or.inr rfl) h
set_option maxHeartbeats 20000000 in
theorem c_m_ring (K : Nat) (a1 a2 : Int) (M : PM) (Q : Option PV → PM → Prop)
    (h : Call K jModel_isClass [.inl a1] P0 P0 M (retI fun r1 M2 => R32 r1 ∧ (r1 = 0 → Q (some (.inl (-1))) M2) ∧ (¬ r1 = 0 → R32 a2 ∧ Call K jModel_within [.inr (.inl a2), .inr (.inl 0), .inr (.inl 4)] P0 P0 M2 (retI fun r5 M6 => R32 r5 ∧ (¬ r5 = 0 → Call K jModel_findsRing [.inr (.inr 52), .inl a1] P0 P0 M6 (retI fun r8 M9 => R32 r8 ∧ (r8 = 0 → Q (some (.inl (-5))) M9) ∧ (¬ r8 = 0 → R32 (M9 52 27) ∧ ((M9 52 27) ≤ a2 → Q (some (.inl (-5))) M9) ∧ (¬ (M9 52 27) ≤ a2 → (0 ≤ a2 ∧ a2 < 5) ∧ Q (some (.inl (M9 70 a2))) M9)))) ∧ (r5 = 0 → Q (some (.inl (-1))) M6))))) : Call (K + 1) jModel_ring [.inr (.inr 52), .inl a1, .inl a2] P0 P0 M Q := by
  refine Call.intro (by decide +kernel) (mfx.le mf263 (Nat.le_of_ble_eq_true rfl)) (Nat.le_refl _) rfl ?_
  refine G_iload_n 1 rfl rfl (ck dc263 (i := 0) rfl) ?_
  refine H_sZ mf263 (As := [.inl a1]) (st := []) (ck dc263 (i := 1) rfl) lk_Model_121 rfl rfl (Nat.le_of_ble_eq_true rfl) ⟨Nat.le_refl _, Nat.le_refl _⟩ h (fun r1 M2 h => ?_)
  obtain ⟨o3, h⟩ := h
  refine G_if_eq (tgt := 19) (by decide) o3 (ck dc263 (i := 2) rfl) (fun c => ?_) (fun c => ?_)
  · replace h := h.1 c
    refine G_iconst (ck dc263 (i := 9) rfl) ?_
    exact H_iretI mf263 (ck dc263 (i := 10) rfl) rfl h
  · replace h := h.2 c
    refine G_iload_n 2 rfl rfl (ck dc263 (i := 3) rfl) ?_
    obtain ⟨o4, h⟩ := h
    refine G_i2l o4 (ck dc263 (i := 4) rfl) ?_
    refine G_lconst (v := 0) rfl (ck dc263 (i := 5) rfl) ?_
    refine H_ldc2 mf263 (v := 4) (ck dc263 (i := 6) rfl) kl_Model_265 ?_
    refine H_sZ mf263 (As := [.inr (.inl a2), .inr (.inl 0), .inr (.inl 4)]) (st := []) (ck dc263 (i := 7) rfl) lk_Model_9 rfl rfl (Nat.le_of_ble_eq_true rfl) ⟨Nat.le_refl _, Nat.le_refl _⟩ h (fun r5 M6 h => ?_)
    obtain ⟨o7, h⟩ := h
    refine G_if_ne (tgt := 21) (by decide) o7 (ck dc263 (i := 8) rfl) (fun c => ?_) (fun c => ?_)
    · replace h := h.1 c
      refine G_aload_n 0 rfl rfl (ck dc263 (i := 11) rfl) ?_
      refine G_iload_n 1 rfl rfl (ck dc263 (i := 12) rfl) ?_
      refine H_vZ mf263 (As := [.inl a1]) (st := []) (ck dc263 (i := 13) rfl) lk_Model_338 rfl rfl (Nat.le_of_ble_eq_true rfl) ly52 ra52 ⟨Nat.le_refl _, Nat.le_refl _⟩ h (fun r8 M9 h => ?_)
      obtain ⟨o10, h⟩ := h
      refine G_if_eq (tgt := 46) (by decide) o10 (ck dc263 (i := 14) rfl) (fun c => ?_) (fun c => ?_)
      · replace h := h.1 c
        refine G_bipush (n := (-5)) rfl (ck dc263 (i := 24) rfl) ?_
        exact H_iretI mf263 (ck dc263 (i := 25) rfl) rfl h
      · replace h := h.2 c
        refine G_iload_n 2 rfl rfl (ck dc263 (i := 15) rfl) ?_
        refine G_aload_n 0 rfl rfl (ck dc263 (i := 16) rfl) ?_
        refine H_getI mf263 (ck dc263 (i := 17) rfl) fw_Model_329 (Or.inl fc11_27) ly52 ra52 (x := (M9 52 27)) rfl ?_
        obtain ⟨o11, h⟩ := h
        refine G_icmp_ge (tgt := 46) (by decide) o4 o11 (ck dc263 (i := 18) rfl) (fun c => ?_) (fun c => ?_)
        · replace h := h.1 c
          refine G_bipush (n := (-5)) rfl (ck dc263 (i := 24) rfl) ?_
          exact H_iretI mf263 (ck dc263 (i := 25) rfl) rfl h
        · replace h := h.2 c
          refine G_aload_n 0 rfl rfl (ck dc263 (i := 19) rfl) ?_
          refine H_getR mf263 (ck dc263 (i := 20) rfl) fw_Model_74 fc11_26 ly52 ra52 rf52_26 (by decide) ?_
          refine G_iload_n 2 rfl rfl (ck dc263 (i := 21) rfl) ?_
          obtain ⟨o12, h⟩ := h
          refine H_iald (ck dc263 (i := 22) rfl) ly70 (by decide) ra70 o12 (x := (M9 70 a2)) rfl ?_
          refine G_goto (tgt := 48) (by decide) (ck dc263 (i := 23) rfl) ?_
          exact H_iretI mf263 (ck dc263 (i := 25) rfl) rfl h
    · replace h := h.2 c
      refine G_iconst (ck dc263 (i := 9) rfl) ?_
      exact H_iretI mf263 (ck dc263 (i := 10) rfl) rfl h
theorem c_m_net (K : Nat) (a1 : Int) (M : PM) (Q : Option PV → PM → Prop)
    (h : Call K jModel_isClass [.inl a1] P0 P0 M (retI fun r1 M2 => R32 r1 ∧ (¬ r1 = 0 → G none (K + 1) jModel_net 11 [(0, .inr (.inr 52)), (1, .inl a1), (2, .inl 0)] [] P0 P0 M2 Q) ∧ (r1 = 0 → Q (some (.inl (-1))) M2))) : Call (K + 1) jModel_net [.inr (.inr 52), .inl a1] P0 P0 M Q := by
  refine Call.intro (by decide +kernel) (mfx.le mf267 (Nat.le_of_ble_eq_true rfl)) (Nat.le_refl _) rfl ?_
  refine G_iload_n 1 rfl rfl (ck dc267 (i := 0) rfl) ?_
  refine H_sZ mf267 (As := [.inl a1]) (st := []) (ck dc267 (i := 1) rfl) lk_Model_121 rfl rfl (Nat.le_of_ble_eq_true rfl) ⟨Nat.le_refl _, Nat.le_refl _⟩ h (fun r1 M2 h => ?_)
  obtain ⟨o3, h⟩ := h
  refine G_if_ne (tgt := 9) (by decide) o3 (ck dc267 (i := 2) rfl) (fun c => ?_) (fun c => ?_)
  · replace h := h.1 c
    refine G_iconst (ck dc267 (i := 5) rfl) ?_
    refine G_istore_n (L' := [(2, .inl 0), (0, .inr (.inr 52)), (1, .inl a1)]) rfl (mfx.lt mf267 (Nat.le_of_ble_eq_true rfl)) rfl (ck dc267 (i := 6) rfl) ?_
    exact G_sub [1, 2, 0] rfl h
  · replace h := h.2 c
    refine G_iconst (ck dc267 (i := 3) rfl) ?_
    exact H_iretI mf267 (ck dc267 (i := 4) rfl) rfl h
theorem g_m_net_11 (K : Nat) (l1 l2 : Int) (M : PM) (Q : Option PV → PM → Prop)
    (h : Call K jModel_findsRing [.inr (.inr 52), .inl l1] P0 P0 M (retI fun r1 M2 => R32 r1 ∧ (r1 = 0 → Q (some (.inl l2)) M2) ∧ (¬ r1 = 0 → G none (K + 1) jModel_net 25 [(0, .inr (.inr 52)), (1, .inl l1), (2, .inl l2), (3, .inl 20), (4, .inl 0)] [] P0 P0 M2 Q))) : G none (K + 1) jModel_net 11 [(0, .inr (.inr 52)), (1, .inl l1), (2, .inl l2)] [] P0 P0 M Q := by
  refine G_aload_n 0 rfl rfl (ck dc267 (i := 7) rfl) ?_
  refine G_iload_n 1 rfl rfl (ck dc267 (i := 8) rfl) ?_
  refine H_vZ mf267 (As := [.inl l1]) (st := []) (ck dc267 (i := 9) rfl) lk_Model_338 rfl rfl (Nat.le_of_ble_eq_true rfl) ly52 ra52 ⟨Nat.le_refl _, Nat.le_refl _⟩ h (fun r1 M2 h => ?_)
  obtain ⟨o3, h⟩ := h
  refine G_if_eq (tgt := 139) (by decide) o3 (ck dc267 (i := 10) rfl) (fun c => ?_) (fun c => ?_)
  · replace h := h.1 c
    refine G_iload_n 2 rfl rfl (ck dc267 (i := 79) rfl) ?_
    exact H_iretI mf267 (ck dc267 (i := 80) rfl) rfl h
  · replace h := h.2 c
    refine G_bipush (n := 20) rfl (ck dc267 (i := 11) rfl) ?_
    refine G_istore_n (L' := [(3, .inl 20), (0, .inr (.inr 52)), (1, .inl l1), (2, .inl l2)]) rfl (mfx.lt mf267 (Nat.le_of_ble_eq_true rfl)) rfl (ck dc267 (i := 12) rfl) ?_
    refine G_iconst (ck dc267 (i := 13) rfl) ?_
    refine G_istore (L' := [(4, .inl 0), (3, .inl 20), (0, .inr (.inr 52)), (1, .inl l1), (2, .inl l2)]) (mfx.lt mf267 (Nat.le_of_ble_eq_true rfl)) rfl (ck dc267 (i := 14) rfl) ?_
    exact G_sub [2, 3, 4, 1, 0] rfl h
theorem g_m_net_25 (K : Nat) (l1 l2 l3 l4 : Int) (M : PM) (Q : Option PV → PM → Prop)
    (h : R32 l4 ∧ R32 (M 52 27) ∧ ((M 52 27) ≤ l4 → G none (K + 1) jModel_net 74 [(0, .inr (.inr 52)), (1, .inl l1), (2, .inl l2), (3, .inl l3), (4, .inl 0)] [] P0 P0 M Q) ∧ (¬ (M 52 27) ≤ l4 → (0 ≤ l4 ∧ l4 < 5) ∧ R32 (l4 + 1) ∧ (M 52 27) ≠ 0 ∧ (0 ≤ (Int.tmod (l4 + 1) (M 52 27)) ∧ (Int.tmod (l4 + 1) (M 52 27)) < 5) ∧ Call K jModel_owes [.inr (.inr 52), .inl (M 70 l4), .inl (M 70 (Int.tmod (l4 + 1) (M 52 27))), .inl l1] P0 P0 M (retI fun r7 M8 => R32 l3 ∧ R32 r7 ∧ G none (K + 1) jModel_net 25 [(0, .inr (.inr 52)), (1, .inl l1), (2, .inl l2), (3, .inl (mn2 l3 r7)), (4, .inl (l4 + 1))] [] P0 P0 M8 Q))) : G none (K + 1) jModel_net 25 [(0, .inr (.inr 52)), (1, .inl l1), (2, .inl l2), (3, .inl l3), (4, .inl l4)] [] P0 P0 M Q := by
  refine G_iload 4 rfl (ck dc267 (i := 15) rfl) ?_
  refine G_aload_n 0 rfl rfl (ck dc267 (i := 16) rfl) ?_
  refine H_getI mf267 (ck dc267 (i := 17) rfl) fw_Model_329 (Or.inl fc11_27) ly52 ra52 (x := (M 52 27)) rfl ?_
  obtain ⟨o1, h⟩ := h
  obtain ⟨o2, h⟩ := h
  refine G_icmp_ge (tgt := 71) (by decide) o1 o2 (ck dc267 (i := 18) rfl) (fun c => ?_) (fun c => ?_)
  · replace h := h.1 c
    refine G_iconst (ck dc267 (i := 40) rfl) ?_
    refine G_istore (L' := [(4, .inl 0), (0, .inr (.inr 52)), (1, .inl l1), (2, .inl l2), (3, .inl l3)]) (mfx.lt mf267 (Nat.le_of_ble_eq_true rfl)) rfl (ck dc267 (i := 41) rfl) ?_
    exact G_sub [1, 2, 3, 4, 0] rfl h
  · replace h := h.2 c
    refine G_iload_n 3 rfl rfl (ck dc267 (i := 19) rfl) ?_
    refine G_aload_n 0 rfl rfl (ck dc267 (i := 20) rfl) ?_
    refine G_aload_n 0 rfl rfl (ck dc267 (i := 21) rfl) ?_
    refine H_getR mf267 (ck dc267 (i := 22) rfl) fw_Model_74 fc11_26 ly52 ra52 rf52_26 (by decide) ?_
    refine G_iload 4 rfl (ck dc267 (i := 23) rfl) ?_
    obtain ⟨o3, h⟩ := h
    refine H_iald (ck dc267 (i := 24) rfl) ly70 (by decide) ra70 o3 (x := (M 70 l4)) rfl ?_
    refine G_aload_n 0 rfl rfl (ck dc267 (i := 25) rfl) ?_
    refine H_getR mf267 (ck dc267 (i := 26) rfl) fw_Model_74 fc11_26 ly52 ra52 rf52_26 (by decide) ?_
    refine G_iload 4 rfl (ck dc267 (i := 27) rfl) ?_
    refine G_iconst (ck dc267 (i := 28) rfl) ?_
    refine G_iadd (ck dc267 (i := 29) rfl) ?_
    refine G_aload_n 0 rfl rfl (ck dc267 (i := 30) rfl) ?_
    refine H_getI mf267 (ck dc267 (i := 31) rfl) fw_Model_329 (Or.inl fc11_27) ly52 ra52 (x := (M 52 27)) rfl ?_
    obtain ⟨o4, h⟩ := h
    obtain ⟨o5, h⟩ := h
    refine G_irem o4 o2 o5 (ck dc267 (i := 32) rfl) ?_
    obtain ⟨o6, h⟩ := h
    refine H_iald (ck dc267 (i := 33) rfl) ly70 (by decide) ra70 o6 (x := (M 70 (Int.tmod (l4 + 1) (M 52 27)))) rfl ?_
    refine G_iload_n 1 rfl rfl (ck dc267 (i := 34) rfl) ?_
    refine H_vI mf267 (As := [.inl (M 70 l4), .inl (M 70 (Int.tmod (l4 + 1) (M 52 27))), .inl l1]) (st := [.inl l3]) (ck dc267 (i := 35) rfl) lk_Model_103 rfl rfl (Nat.le_of_ble_eq_true rfl) ly52 ra52 ⟨Nat.le_refl _, Nat.le_refl _⟩ h (fun r7 M8 h => ?_)
    obtain ⟨o9, h⟩ := h
    obtain ⟨o10, h⟩ := h
    refine H_mmin mf267 (ck dc267 (i := 36) rfl) lm_Model_146 (Nat.le_refl _) (Nat.le_of_ble_eq_true rfl) o9 o10 ?_
    refine G_istore_n (L' := [(3, .inl (mn2 l3 r7)), (0, .inr (.inr 52)), (1, .inl l1), (2, .inl l2), (4, .inl l4)]) rfl (mfx.lt mf267 (Nat.le_of_ble_eq_true rfl)) rfl (ck dc267 (i := 37) rfl) ?_
    refine G_iinc (L' := [(4, .inl (l4 + 1)), (3, .inl (mn2 l3 r7)), (0, .inr (.inr 52)), (1, .inl l1), (2, .inl l2)]) 4 rfl (mfx.lt mf267 (Nat.le_of_ble_eq_true rfl)) rfl (ck dc267 (i := 38) rfl) ?_
    refine G_goto (tgt := 25) (by decide) (ck dc267 (i := 39) rfl) ?_
    exact G_sub [2, 3, 4, 1, 0] rfl h
set_option maxHeartbeats 20000000 in
theorem g_m_net_74 (K : Nat) (l1 l2 l3 l4 : Int) (M : PM) (Q : Option PV → PM → Prop)
    (h : R32 l4 ∧ R32 (M 52 27) ∧ ((M 52 27) ≤ l4 → G none (K + 1) jModel_net 11 [(0, .inr (.inr 52)), (1, .inl l1), (2, .inl l2)] [] P0 P0 M Q) ∧ (¬ (M 52 27) ≤ l4 → (0 ≤ l4 ∧ l4 < 5) ∧ R32 (l4 + 1) ∧ (M 52 27) ≠ 0 ∧ (0 ≤ (Int.tmod (l4 + 1) (M 52 27)) ∧ (Int.tmod (l4 + 1) (M 52 27)) < 5) ∧ Call K jModel_owedAt [.inl (M 70 l4), .inl (M 70 (Int.tmod (l4 + 1) (M 52 27))), .inl l1] P0 P0 M (retI fun r7 M8 => (0 ≤ r7 ∧ r7 < 83) ∧ Call K jModel_tells [.inr (.inr 52), .inl r7, .inl ((M8 55 r7) - l3)] P0 P0 M8 (retI fun r10 M11 => G none (K + 1) jModel_net 74 [(0, .inr (.inr 52)), (1, .inl l1), (2, .inl (l2 + l3)), (3, .inl l3), (4, .inl (l4 + 1))] [] P0 P0 M11 Q)))) : G none (K + 1) jModel_net 74 [(0, .inr (.inr 52)), (1, .inl l1), (2, .inl l2), (3, .inl l3), (4, .inl l4)] [] P0 P0 M Q := by
  refine G_iload 4 rfl (ck dc267 (i := 42) rfl) ?_
  refine G_aload_n 0 rfl rfl (ck dc267 (i := 43) rfl) ?_
  refine H_getI mf267 (ck dc267 (i := 44) rfl) fw_Model_329 (Or.inl fc11_27) ly52 ra52 (x := (M 52 27)) rfl ?_
  obtain ⟨o1, h⟩ := h
  obtain ⟨o2, h⟩ := h
  refine G_icmp_ge (tgt := 136) (by decide) o1 o2 (ck dc267 (i := 45) rfl) (fun c => ?_) (fun c => ?_)
  · replace h := h.1 c
    refine G_goto (tgt := 11) (by decide) (ck dc267 (i := 78) rfl) ?_
    exact G_sub [0, 1, 2] rfl h
  · replace h := h.2 c
    refine G_aload_n 0 rfl rfl (ck dc267 (i := 46) rfl) ?_
    refine H_getR mf267 (ck dc267 (i := 47) rfl) fw_Model_74 fc11_26 ly52 ra52 rf52_26 (by decide) ?_
    refine G_iload 4 rfl (ck dc267 (i := 48) rfl) ?_
    obtain ⟨o3, h⟩ := h
    refine H_iald (ck dc267 (i := 49) rfl) ly70 (by decide) ra70 o3 (x := (M 70 l4)) rfl ?_
    refine G_aload_n 0 rfl rfl (ck dc267 (i := 50) rfl) ?_
    refine H_getR mf267 (ck dc267 (i := 51) rfl) fw_Model_74 fc11_26 ly52 ra52 rf52_26 (by decide) ?_
    refine G_iload 4 rfl (ck dc267 (i := 52) rfl) ?_
    refine G_iconst (ck dc267 (i := 53) rfl) ?_
    refine G_iadd (ck dc267 (i := 54) rfl) ?_
    refine G_aload_n 0 rfl rfl (ck dc267 (i := 55) rfl) ?_
    refine H_getI mf267 (ck dc267 (i := 56) rfl) fw_Model_329 (Or.inl fc11_27) ly52 ra52 (x := (M 52 27)) rfl ?_
    obtain ⟨o4, h⟩ := h
    obtain ⟨o5, h⟩ := h
    refine G_irem o4 o2 o5 (ck dc267 (i := 57) rfl) ?_
    obtain ⟨o6, h⟩ := h
    refine H_iald (ck dc267 (i := 58) rfl) ly70 (by decide) ra70 o6 (x := (M 70 (Int.tmod (l4 + 1) (M 52 27)))) rfl ?_
    refine G_iload_n 1 rfl rfl (ck dc267 (i := 59) rfl) ?_
    refine H_sI mf267 (As := [.inl (M 70 l4), .inl (M 70 (Int.tmod (l4 + 1) (M 52 27))), .inl l1]) (st := []) (ck dc267 (i := 60) rfl) lk_Model_99 rfl rfl (Nat.le_of_ble_eq_true rfl) ⟨Nat.le_refl _, Nat.le_refl _⟩ h (fun r7 M8 h => ?_)
    refine G_istore (L' := [(5, .inl r7), (0, .inr (.inr 52)), (1, .inl l1), (2, .inl l2), (3, .inl l3), (4, .inl l4)]) (mfx.lt mf267 (Nat.le_of_ble_eq_true rfl)) rfl (ck dc267 (i := 61) rfl) ?_
    refine G_aload_n 1 rfl rfl (ck dc267 (i := 62) rfl) ?_
    refine G_iload 0 rfl (ck dc267 (i := 63) rfl) ?_
    refine G_aload_n 1 rfl rfl (ck dc267 (i := 64) rfl) ?_
    refine H_getR mf267 (ck dc267 (i := 65) rfl) fw_Model_5 fc11_3 ly52 ra52 rf52_3 (by decide) ?_
    refine G_iload 0 rfl (ck dc267 (i := 66) rfl) ?_
    obtain ⟨o9, h⟩ := h
    refine H_iald (ck dc267 (i := 67) rfl) ly55 (by decide) ra55 o9 (x := (M8 55 r7)) rfl ?_
    refine G_iload_n 4 rfl rfl (ck dc267 (i := 68) rfl) ?_
    refine G_isub (ck dc267 (i := 69) rfl) ?_
    refine H_vI mf267 (As := [.inl r7, .inl ((M8 55 r7) - l3)]) (st := []) (ck dc267 (i := 70) rfl) lk_Model_114 rfl rfl (Nat.le_of_ble_eq_true rfl) ly52 ra52 ⟨Nat.le_refl _, Nat.le_refl _⟩ h (fun r10 M11 h => ?_)
    refine G_pop rfl (ck dc267 (i := 71) rfl) ?_
    refine G_iload_n 3 rfl rfl (ck dc267 (i := 72) rfl) ?_
    refine G_iload_n 4 rfl rfl (ck dc267 (i := 73) rfl) ?_
    refine G_iadd (ck dc267 (i := 74) rfl) ?_
    refine G_istore_n (L' := [(2, .inl (l2 + l3)), (5, .inl r7), (0, .inr (.inr 52)), (1, .inl l1), (3, .inl l3), (4, .inl l4)]) rfl (mfx.lt mf267 (Nat.le_of_ble_eq_true rfl)) rfl (ck dc267 (i := 75) rfl) ?_
    refine G_iinc (L' := [(4, .inl (l4 + 1)), (2, .inl (l2 + l3)), (5, .inl r7), (0, .inr (.inr 52)), (1, .inl l1), (3, .inl l3)]) 5 rfl (mfx.lt mf267 (Nat.le_of_ble_eq_true rfl)) rfl (ck dc267 (i := 76) rfl) ?_
    refine G_goto (tgt := 74) (by decide) (ck dc267 (i := 77) rfl) ?_
    exact G_sub [3, 4, 1, 5, 0] rfl h
theorem c_model_isFund (K : Nat) (a1 : Int) (M : PM) (Q : Option PV → PM → Prop)
    (h : R32 a1 ∧ Call K jModel_within [.inr (.inl a1), .inr (.inl 0), .inr (.inl 2)] P0 P0 M (retI fun r2 M3 => (r2 = 0 ∨ r2 = 1) ∧ Q (some (.inl r2)) M3)) : Call (K + 1) jModel_isFund [.inl a1] P0 P0 M Q := by
  refine Call.intro (by decide +kernel) (mfx.le mf269 (Nat.le_of_ble_eq_true rfl)) (Nat.le_refl _) rfl ?_
  refine G_iload_n 0 rfl rfl (ck dc269 (i := 0) rfl) ?_
  obtain ⟨o1, h⟩ := h
  refine G_i2l o1 (ck dc269 (i := 1) rfl) ?_
  refine G_lconst (v := 0) rfl (ck dc269 (i := 2) rfl) ?_
  refine H_ldc2 mf269 (v := 2) (ck dc269 (i := 3) rfl) kl_Model_17 ?_
  refine H_sZ mf269 (As := [.inr (.inl a1), .inr (.inl 0), .inr (.inl 2)]) (st := []) (ck dc269 (i := 4) rfl) lk_Model_9 rfl rfl (Nat.le_of_ble_eq_true rfl) ⟨Nat.le_refl _, Nat.le_refl _⟩ h (fun r2 M3 h => ?_)
  obtain ⟨o4, h⟩ := h
  exact H_iretZ mf269 (ck dc269 (i := 5) rfl) rfl o4 h
theorem c_model_unitsAt (K : Nat) (a1 a2 a3 : Int) (M : PM) (Q : Option PV → PM → Prop)
    (h : Q (some (.inl (((83 + (15 * a1)) + (3 * a2)) + a3))) M) : Call (K + 1) jModel_unitsAt [.inl a1, .inl a2, .inl a3] P0 P0 M Q := by
  refine Call.intro (by decide +kernel) (mfx.le mf270 (Nat.le_of_ble_eq_true rfl)) (Nat.le_refl _) rfl ?_
  refine G_bipush (n := 83) rfl (ck dc270 (i := 0) rfl) ?_
  refine G_bipush (n := 15) rfl (ck dc270 (i := 1) rfl) ?_
  refine G_iload_n 0 rfl rfl (ck dc270 (i := 2) rfl) ?_
  refine G_imul (ck dc270 (i := 3) rfl) ?_
  refine G_iadd (ck dc270 (i := 4) rfl) ?_
  refine G_iconst (ck dc270 (i := 5) rfl) ?_
  refine G_iload_n 1 rfl rfl (ck dc270 (i := 6) rfl) ?_
  refine G_imul (ck dc270 (i := 7) rfl) ?_
  refine G_iadd (ck dc270 (i := 8) rfl) ?_
  refine G_iload_n 2 rfl rfl (ck dc270 (i := 9) rfl) ?_
  refine G_iadd (ck dc270 (i := 10) rfl) ?_
  exact H_iretI mf270 (ck dc270 (i := 11) rfl) rfl h
set_option maxHeartbeats 20000000 in
theorem c_m_units (K : Nat) (a1 a2 a3 a4 : Int) (M : PM) (Q : Option PV → PM → Prop)
    (h : Call K jModel_isFund [.inl a1] P0 P0 M (retI fun r1 M2 => R32 r1 ∧ (r1 = 0 → Q (some (.inr (.inl (-1)))) M2) ∧ (¬ r1 = 0 → Call K jModel_isHouse [.inr (.inr 52), .inl a2] P0 P0 M2 (retI fun r4 M5 => R32 r4 ∧ (r4 = 0 → Q (some (.inr (.inl (-1)))) M5) ∧ (¬ r4 = 0 → Call K jModel_isClass [.inl a3] P0 P0 M5 (retI fun r7 M8 => R32 r7 ∧ (¬ r7 = 0 → Call K jModel_within [.inr (.inl a4), .inr (.inl 0), .inr (.inl 1000000000000)] P0 P0 M8 (retI fun r10 M11 => R32 r10 ∧ (¬ r10 = 0 → Call K jModel_unitsAt [.inl a1, .inl a2, .inl a3] P0 P0 M11 (retI fun r13 M14 => (0 ≤ r13 ∧ r13 < 128) ∧ Call K jModel_unitsAt [.inl a1, .inl a2, .inl a3] P0 P0 M14 (retI fun r16 M17 => (0 ≤ r16 ∧ r16 < 128) ∧ Q (some (.inr (.inl (M14 53 r13)))) (mset M17 53 r16 a4)))) ∧ (r10 = 0 → Q (some (.inr (.inl (-2)))) M11))) ∧ (r7 = 0 → Q (some (.inr (.inl (-1)))) M8))))))) : Call (K + 1) jModel_units [.inr (.inr 52), .inl a1, .inl a2, .inl a3, .inr (.inl a4)] P0 P0 M Q := by
  refine Call.intro (by decide +kernel) (mfx.le mf268 (Nat.le_of_ble_eq_true rfl)) (Nat.le_refl _) rfl ?_
  refine G_iload_n 1 rfl rfl (ck dc268 (i := 0) rfl) ?_
  refine H_sZ mf268 (As := [.inl a1]) (st := []) (ck dc268 (i := 1) rfl) lk_Model_341 rfl rfl (Nat.le_of_ble_eq_true rfl) ⟨Nat.le_refl _, Nat.le_refl _⟩ h (fun r1 M2 h => ?_)
  obtain ⟨o3, h⟩ := h
  refine G_if_eq (tgt := 22) (by decide) o3 (ck dc268 (i := 2) rfl) (fun c => ?_) (fun c => ?_)
  · replace h := h.1 c
    refine H_ldc2 mf268 (v := (-1)) (ck dc268 (i := 10) rfl) kl_Model_344 ?_
    exact H_lret mf268 (ck dc268 (i := 11) rfl) rfl h
  · replace h := h.2 c
    refine G_aload_n 0 rfl rfl (ck dc268 (i := 3) rfl) ?_
    refine G_iload_n 2 rfl rfl (ck dc268 (i := 4) rfl) ?_
    refine H_vZ mf268 (As := [.inl a2]) (st := []) (ck dc268 (i := 5) rfl) lk_Model_13 rfl rfl (Nat.le_of_ble_eq_true rfl) ly52 ra52 ⟨Nat.le_refl _, Nat.le_refl _⟩ h (fun r4 M5 h => ?_)
    obtain ⟨o6, h⟩ := h
    refine G_if_eq (tgt := 22) (by decide) o6 (ck dc268 (i := 6) rfl) (fun c => ?_) (fun c => ?_)
    · replace h := h.1 c
      refine H_ldc2 mf268 (v := (-1)) (ck dc268 (i := 10) rfl) kl_Model_344 ?_
      exact H_lret mf268 (ck dc268 (i := 11) rfl) rfl h
    · replace h := h.2 c
      refine G_iload_n 3 rfl rfl (ck dc268 (i := 7) rfl) ?_
      refine H_sZ mf268 (As := [.inl a3]) (st := []) (ck dc268 (i := 8) rfl) lk_Model_121 rfl rfl (Nat.le_of_ble_eq_true rfl) ⟨Nat.le_refl _, Nat.le_refl _⟩ h (fun r7 M8 h => ?_)
      obtain ⟨o9, h⟩ := h
      refine G_if_ne (tgt := 26) (by decide) o9 (ck dc268 (i := 9) rfl) (fun c => ?_) (fun c => ?_)
      · replace h := h.1 c
        refine G_lload 4 rfl (ck dc268 (i := 12) rfl) ?_
        refine G_lconst (v := 0) rfl (ck dc268 (i := 13) rfl) ?_
        refine H_ldc2 mf268 (v := 1000000000000) (ck dc268 (i := 14) rfl) kl_Model_346 ?_
        refine H_sZ mf268 (As := [.inr (.inl a4), .inr (.inl 0), .inr (.inl 1000000000000)]) (st := []) (ck dc268 (i := 15) rfl) lk_Model_9 rfl rfl (Nat.le_of_ble_eq_true rfl) ⟨Nat.le_refl _, Nat.le_refl _⟩ h (fun r10 M11 h => ?_)
        obtain ⟨o12, h⟩ := h
        refine G_if_ne (tgt := 42) (by decide) o12 (ck dc268 (i := 16) rfl) (fun c => ?_) (fun c => ?_)
        · replace h := h.1 c
          refine G_aload_n 0 rfl rfl (ck dc268 (i := 19) rfl) ?_
          refine H_getR mf268 (ck dc268 (i := 20) rfl) fw_Model_25 fc11_0 ly52 ra52 rf52_0 (by decide) ?_
          refine G_iload_n 1 rfl rfl (ck dc268 (i := 21) rfl) ?_
          refine G_iload_n 2 rfl rfl (ck dc268 (i := 22) rfl) ?_
          refine G_iload_n 3 rfl rfl (ck dc268 (i := 23) rfl) ?_
          refine H_sI mf268 (As := [.inl a1, .inl a2, .inl a3]) (st := [.inr (.inr 53)]) (ck dc268 (i := 24) rfl) lk_Model_350 rfl rfl (Nat.le_of_ble_eq_true rfl) ⟨Nat.le_refl _, Nat.le_refl _⟩ h (fun r13 M14 h => ?_)
          obtain ⟨o15, h⟩ := h
          refine H_lald (ck dc268 (i := 25) rfl) ly53 (by decide) ra53 o15 (x := (M14 53 r13)) rfl ?_
          refine G_lstore (L' := [(6, .inr (.inl (M14 53 r13))), (0, .inr (.inr 52)), (1, .inl a1), (2, .inl a2), (3, .inl a3), (4, .inr (.inl a4))]) (mfx.lt mf268 (Nat.le_of_ble_eq_true rfl)) rfl (ck dc268 (i := 26) rfl) ?_
          refine G_aload_n 1 rfl rfl (ck dc268 (i := 27) rfl) ?_
          refine H_getR mf268 (ck dc268 (i := 28) rfl) fw_Model_25 fc11_0 ly52 ra52 rf52_0 (by decide) ?_
          refine G_iload_n 2 rfl rfl (ck dc268 (i := 29) rfl) ?_
          refine G_iload_n 3 rfl rfl (ck dc268 (i := 30) rfl) ?_
          refine G_iload_n 4 rfl rfl (ck dc268 (i := 31) rfl) ?_
          refine H_sI mf268 (As := [.inl a1, .inl a2, .inl a3]) (st := [.inr (.inr 53)]) (ck dc268 (i := 32) rfl) lk_Model_350 rfl rfl (Nat.le_of_ble_eq_true rfl) ⟨Nat.le_refl _, Nat.le_refl _⟩ h (fun r16 M17 h => ?_)
          refine G_lload 5 rfl (ck dc268 (i := 33) rfl) ?_
          obtain ⟨o18, h⟩ := h
          refine G_last (ck dc268 (i := 34) rfl) ra53 ly53 (by decide) o18 ?_
          refine G_lload 0 rfl (ck dc268 (i := 35) rfl) ?_
          exact H_lret mf268 (ck dc268 (i := 36) rfl) rfl h
        · replace h := h.2 c
          refine H_ldc2 mf268 (v := (-2)) (ck dc268 (i := 17) rfl) kl_Model_348 ?_
          exact H_lret mf268 (ck dc268 (i := 18) rfl) rfl h
      · replace h := h.2 c
        refine H_ldc2 mf268 (v := (-1)) (ck dc268 (i := 10) rfl) kl_Model_344 ?_
        exact H_lret mf268 (ck dc268 (i := 11) rfl) rfl h
theorem c_m_unitsOf (K : Nat) (a1 a2 a3 : Int) (M : PM) (Q : Option PV → PM → Prop)
    (h : Call K jModel_isFund [.inl a1] P0 P0 M (retI fun r1 M2 => R32 r1 ∧ (r1 = 0 → Q (some (.inr (.inl (-9223372036854775808)))) M2) ∧ (¬ r1 = 0 → Call K jModel_isHouse [.inr (.inr 52), .inl a2] P0 P0 M2 (retI fun r4 M5 => R32 r4 ∧ (r4 = 0 → Q (some (.inr (.inl (-9223372036854775808)))) M5) ∧ (¬ r4 = 0 → Call K jModel_isClass [.inl a3] P0 P0 M5 (retI fun r7 M8 => R32 r7 ∧ (r7 = 0 → Q (some (.inr (.inl (-9223372036854775808)))) M8) ∧ (¬ r7 = 0 → Call K jModel_unitsAt [.inl a1, .inl a2, .inl a3] P0 P0 M8 (retI fun r10 M11 => (0 ≤ r10 ∧ r10 < 128) ∧ Q (some (.inr (.inl (M11 53 r10)))) M11)))))))) : Call (K + 1) jModel_unitsOf [.inr (.inr 52), .inl a1, .inl a2, .inl a3] P0 P0 M Q := by
  refine Call.intro (by decide +kernel) (mfx.le mf271 (Nat.le_of_ble_eq_true rfl)) (Nat.le_refl _) rfl ?_
  refine G_iload_n 1 rfl rfl (ck dc271 (i := 0) rfl) ?_
  refine H_sZ mf271 (As := [.inl a1]) (st := []) (ck dc271 (i := 1) rfl) lk_Model_341 rfl rfl (Nat.le_of_ble_eq_true rfl) ⟨Nat.le_refl _, Nat.le_refl _⟩ h (fun r1 M2 h => ?_)
  obtain ⟨o3, h⟩ := h
  refine G_if_eq (tgt := 36) (by decide) o3 (ck dc271 (i := 2) rfl) (fun c => ?_) (fun c => ?_)
  · replace h := h.1 c
    refine H_ldc2 mf271 (v := (-9223372036854775808)) (ck dc271 (i := 18) rfl) kl_Model_240 ?_
    exact H_lret mf271 (ck dc271 (i := 19) rfl) rfl h
  · replace h := h.2 c
    refine G_aload_n 0 rfl rfl (ck dc271 (i := 3) rfl) ?_
    refine G_iload_n 2 rfl rfl (ck dc271 (i := 4) rfl) ?_
    refine H_vZ mf271 (As := [.inl a2]) (st := []) (ck dc271 (i := 5) rfl) lk_Model_13 rfl rfl (Nat.le_of_ble_eq_true rfl) ly52 ra52 ⟨Nat.le_refl _, Nat.le_refl _⟩ h (fun r4 M5 h => ?_)
    obtain ⟨o6, h⟩ := h
    refine G_if_eq (tgt := 36) (by decide) o6 (ck dc271 (i := 6) rfl) (fun c => ?_) (fun c => ?_)
    · replace h := h.1 c
      refine H_ldc2 mf271 (v := (-9223372036854775808)) (ck dc271 (i := 18) rfl) kl_Model_240 ?_
      exact H_lret mf271 (ck dc271 (i := 19) rfl) rfl h
    · replace h := h.2 c
      refine G_iload_n 3 rfl rfl (ck dc271 (i := 7) rfl) ?_
      refine H_sZ mf271 (As := [.inl a3]) (st := []) (ck dc271 (i := 8) rfl) lk_Model_121 rfl rfl (Nat.le_of_ble_eq_true rfl) ⟨Nat.le_refl _, Nat.le_refl _⟩ h (fun r7 M8 h => ?_)
      obtain ⟨o9, h⟩ := h
      refine G_if_eq (tgt := 36) (by decide) o9 (ck dc271 (i := 9) rfl) (fun c => ?_) (fun c => ?_)
      · replace h := h.1 c
        refine H_ldc2 mf271 (v := (-9223372036854775808)) (ck dc271 (i := 18) rfl) kl_Model_240 ?_
        exact H_lret mf271 (ck dc271 (i := 19) rfl) rfl h
      · replace h := h.2 c
        refine G_aload_n 0 rfl rfl (ck dc271 (i := 10) rfl) ?_
        refine H_getR mf271 (ck dc271 (i := 11) rfl) fw_Model_25 fc11_0 ly52 ra52 rf52_0 (by decide) ?_
        refine G_iload_n 1 rfl rfl (ck dc271 (i := 12) rfl) ?_
        refine G_iload_n 2 rfl rfl (ck dc271 (i := 13) rfl) ?_
        refine G_iload_n 3 rfl rfl (ck dc271 (i := 14) rfl) ?_
        refine H_sI mf271 (As := [.inl a1, .inl a2, .inl a3]) (st := [.inr (.inr 53)]) (ck dc271 (i := 15) rfl) lk_Model_350 rfl rfl (Nat.le_of_ble_eq_true rfl) ⟨Nat.le_refl _, Nat.le_refl _⟩ h (fun r10 M11 h => ?_)
        obtain ⟨o12, h⟩ := h
        refine H_lald (ck dc271 (i := 16) rfl) ly53 (by decide) ra53 o12 (x := (M11 53 r10)) rfl ?_
        refine G_goto (tgt := 39) (by decide) (ck dc271 (i := 17) rfl) ?_
        exact H_lret mf271 (ck dc271 (i := 19) rfl) rfl h
set_option maxHeartbeats 20000000 in
theorem c_m_times (K : Nat) (a1 a2 : Int) (M : PM) (Q : Option PV → PM → Prop)
    (h : R32 (M 52 30) ∧ (¬ (M 52 30) = 0 → Q (some (.inr (.inl 0))) (mset M 52 30 1)) ∧ ((M 52 30) = 0 → R64 a1 ∧ (a1 ≤ 0 → Q (some (.inr (.inl (a1 * a2)))) (mset M 52 30 0)) ∧ (¬ a1 ≤ 0 → a1 ≠ 0 ∧ R64 a2 ∧ R64 (Int.tdiv 9223372036854775807 a1) ∧ (a2 ≤ (Int.tdiv 9223372036854775807 a1) → Q (some (.inr (.inl (a1 * a2)))) (mset M 52 30 0)) ∧ (¬ a2 ≤ (Int.tdiv 9223372036854775807 a1) → Q (some (.inr (.inl 0))) (mset M 52 30 1))))) : Call (K + 1) jModel_times [.inr (.inr 52), .inr (.inl a1), .inr (.inl a2)] P0 P0 M Q := by
  refine Call.intro (by decide +kernel) (mfx.le mf275 (Nat.le_of_ble_eq_true rfl)) (Nat.le_refl _) rfl ?_
  refine G_aload_n 0 rfl rfl (ck dc275 (i := 0) rfl) ?_
  refine G_aload_n 0 rfl rfl (ck dc275 (i := 1) rfl) ?_
  refine H_getI mf275 (ck dc275 (i := 2) rfl) fw_Model_353 (Or.inr fc11_30) ly52 ra52 (x := (M 52 30)) rfl ?_
  obtain ⟨o1, h⟩ := h
  refine G_if_ne (tgt := 24) (by decide) o1 (ck dc275 (i := 3) rfl) (fun c => ?_) (fun c => ?_)
  · replace h := h.1 c
    refine G_iconst (ck dc275 (i := 14) rfl) ?_
    refine G_goto (tgt := 29) (by decide) (ck dc275 (i := 15) rfl) ?_
    refine H_putZ mf275 (ck dc275 (i := 17) rfl) fw_Model_353 fc11_30 ly52 ra52 (Or.inl rfl) (Or.inr rfl) ?_
    refine G_aload_n 0 rfl rfl (ck dc275 (i := 18) rfl) ?_
    refine H_getI mf275 (ck dc275 (i := 19) rfl) fw_Model_353 (Or.inr fc11_30) ly52 ra52 (x := 1) (by simp [mset, mcpy]) ?_
    refine G_if_eq (tgt := 43) (by decide) (by decide) (ck dc275 (i := 20) rfl) (fun c => absurd c (by decide)) (fun c => ?_)
    refine G_lconst (v := 0) rfl (ck dc275 (i := 21) rfl) ?_
    refine G_goto (tgt := 46) (by decide) (ck dc275 (i := 22) rfl) ?_
    exact H_lret mf275 (ck dc275 (i := 26) rfl) rfl h
  · replace h := h.2 c
    refine G_lload_n 1 rfl rfl (ck dc275 (i := 4) rfl) ?_
    refine G_lconst (v := 0) rfl (ck dc275 (i := 5) rfl) ?_
    obtain ⟨o2, h⟩ := h
    refine G_lif_le (tgt := 28) (ck dc275 (i := 7) rfl) (by decide) o2 (by decide) (ck dc275 (i := 6) rfl) (fun c => ?_) (fun c => ?_)
    · replace h := h.1 c
      refine G_iconst (ck dc275 (i := 16) rfl) ?_
      refine H_putZ mf275 (ck dc275 (i := 17) rfl) fw_Model_353 fc11_30 ly52 ra52 (Or.inl rfl) (Or.inl rfl) ?_
      refine G_aload_n 0 rfl rfl (ck dc275 (i := 18) rfl) ?_
      refine H_getI mf275 (ck dc275 (i := 19) rfl) fw_Model_353 (Or.inr fc11_30) ly52 ra52 (x := 0) (by simp [mset, mcpy]) ?_
      refine G_if_eq (tgt := 43) (by decide) (by decide) (ck dc275 (i := 20) rfl) (fun c => ?_) (fun c => absurd c (by decide))
      refine G_lload_n 1 rfl rfl (ck dc275 (i := 23) rfl) ?_
      refine G_lload_n 2 rfl rfl (ck dc275 (i := 24) rfl) ?_
      refine G_lmul (ck dc275 (i := 25) rfl) ?_
      exact H_lret mf275 (ck dc275 (i := 26) rfl) rfl h
    · replace h := h.2 c
      refine G_lload_n 2 rfl rfl (ck dc275 (i := 8) rfl) ?_
      refine H_ldc2 mf275 (v := 9223372036854775807) (ck dc275 (i := 9) rfl) kl_Model_356 ?_
      refine G_lload_n 1 rfl rfl (ck dc275 (i := 10) rfl) ?_
      obtain ⟨o3, h⟩ := h
      refine G_ldiv (by decide) o2 o3 (ck dc275 (i := 11) rfl) ?_
      obtain ⟨o4, h⟩ := h
      obtain ⟨o5, h⟩ := h
      refine G_lif_le (tgt := 28) (ck dc275 (i := 13) rfl) (by decide) o4 o5 (ck dc275 (i := 12) rfl) (fun c => ?_) (fun c => ?_)
      · replace h := h.1 c
        refine G_iconst (ck dc275 (i := 16) rfl) ?_
        refine H_putZ mf275 (ck dc275 (i := 17) rfl) fw_Model_353 fc11_30 ly52 ra52 (Or.inl rfl) (Or.inl rfl) ?_
        refine G_aload_n 0 rfl rfl (ck dc275 (i := 18) rfl) ?_
        refine H_getI mf275 (ck dc275 (i := 19) rfl) fw_Model_353 (Or.inr fc11_30) ly52 ra52 (x := 0) (by simp [mset, mcpy]) ?_
        refine G_if_eq (tgt := 43) (by decide) (by decide) (ck dc275 (i := 20) rfl) (fun c => ?_) (fun c => absurd c (by decide))
        refine G_lload_n 1 rfl rfl (ck dc275 (i := 23) rfl) ?_
        refine G_lload_n 2 rfl rfl (ck dc275 (i := 24) rfl) ?_
        refine G_lmul (ck dc275 (i := 25) rfl) ?_
        exact H_lret mf275 (ck dc275 (i := 26) rfl) rfl h
      · replace h := h.2 c
        refine G_iconst (ck dc275 (i := 14) rfl) ?_
        refine G_goto (tgt := 29) (by decide) (ck dc275 (i := 15) rfl) ?_
        refine H_putZ mf275 (ck dc275 (i := 17) rfl) fw_Model_353 fc11_30 ly52 ra52 (Or.inl rfl) (Or.inr rfl) ?_
        refine G_aload_n 0 rfl rfl (ck dc275 (i := 18) rfl) ?_
        refine H_getI mf275 (ck dc275 (i := 19) rfl) fw_Model_353 (Or.inr fc11_30) ly52 ra52 (x := 1) (by simp [mset, mcpy]) ?_
        refine G_if_eq (tgt := 43) (by decide) (by decide) (ck dc275 (i := 20) rfl) (fun c => absurd c (by decide)) (fun c => ?_)
        refine G_lconst (v := 0) rfl (ck dc275 (i := 21) rfl) ?_
        refine G_goto (tgt := 46) (by decide) (ck dc275 (i := 22) rfl) ?_
        exact H_lret mf275 (ck dc275 (i := 26) rfl) rfl h
