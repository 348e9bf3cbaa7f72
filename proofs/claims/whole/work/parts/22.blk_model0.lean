theorem c_m_reads (K : Nat) (M : PM) (Q : Option PV → PM → Prop)
    (h : G none (K + 1) jModel_reads 2 [(0, .inr (.inr 52)), (1, .inl 0)] [] P0 P0 M Q) : Call (K + 1) jModel_reads [.inr (.inr 52)] P0 P0 M Q := by
  refine Call.intro (by decide +kernel) (mfx.le mf172 (Nat.le_of_ble_eq_true rfl)) (Nat.le_refl _) rfl ?_
  refine G_iconst (ck dc172 (i := 0) rfl) ?_
  refine G_istore_n (L' := [(1, .inl 0), (0, .inr (.inr 52))]) rfl (mfx.lt mf172 (Nat.le_of_ble_eq_true rfl)) rfl (ck dc172 (i := 1) rfl) ?_
  exact G_sub [1, 0] rfl h
theorem g_m_reads_2 (K : Nat) (l1 : Int) (M : PM) (Q : Option PV → PM → Prop)
    (h : R32 l1 ∧ (83 ≤ l1 → Q none (mset M 52 4 0)) ∧ (¬ 83 ≤ l1 → (0 ≤ l1 ∧ l1 < 128) ∧ (0 ≤ l1 ∧ l1 < 83) ∧ G none (K + 1) jModel_reads 2 [(0, .inr (.inr 52)), (1, .inl (l1 + 1))] [] P0 P0 (mset M 55 l1 (M 53 l1)) Q)) : G none (K + 1) jModel_reads 2 [(0, .inr (.inr 52)), (1, .inl l1)] [] P0 P0 M Q := by
  refine G_iload_n 1 rfl rfl (ck dc172 (i := 2) rfl) ?_
  refine G_bipush (n := 83) rfl (ck dc172 (i := 3) rfl) ?_
  obtain ⟨o1, h⟩ := h
  refine G_icmp_ge (tgt := 27) (by decide) o1 (by decide) (ck dc172 (i := 4) rfl) (fun c => ?_) (fun c => ?_)
  · replace h := h.1 c
    refine G_aload_n 0 rfl rfl (ck dc172 (i := 16) rfl) ?_
    refine G_iconst (ck dc172 (i := 17) rfl) ?_
    refine H_putZ mf172 (ck dc172 (i := 18) rfl) fw_Model_95 fc11_4 ly52 ra52 (Or.inl rfl) (Or.inl rfl) ?_
    exact H_vret mf172 (ck dc172 (i := 19) rfl) rfl h
  · replace h := h.2 c
    refine G_aload_n 0 rfl rfl (ck dc172 (i := 5) rfl) ?_
    refine H_getR mf172 (ck dc172 (i := 6) rfl) fw_Model_5 fc11_3 ly52 ra52 rf52_3 (by decide) ?_
    refine G_iload_n 1 rfl rfl (ck dc172 (i := 7) rfl) ?_
    refine G_aload_n 0 rfl rfl (ck dc172 (i := 8) rfl) ?_
    refine H_getR mf172 (ck dc172 (i := 9) rfl) fw_Model_25 fc11_0 ly52 ra52 rf52_0 (by decide) ?_
    refine G_iload_n 1 rfl rfl (ck dc172 (i := 10) rfl) ?_
    obtain ⟨o2, h⟩ := h
    refine H_lald (ck dc172 (i := 11) rfl) ly53 (by decide) ra53 o2 (x := (M 53 l1)) rfl ?_
    refine G_l2i (ck dc172 (i := 12) rfl) ?_
    obtain ⟨o3, h⟩ := h
    refine G_iast (ck dc172 (i := 13) rfl) ra55 ly55 (by decide) o3 ?_
    refine G_iinc (L' := [(1, .inl (l1 + 1)), (0, .inr (.inr 52))]) 1 rfl (mfx.lt mf172 (Nat.le_of_ble_eq_true rfl)) rfl (ck dc172 (i := 14) rfl) ?_
    refine G_goto (tgt := 2) (by decide) (ck dc172 (i := 15) rfl) ?_
    exact G_sub [1, 0] rfl h
theorem c_m_asAtFirst (K : Nat) (a1 : Int) (M : PM) (Q : Option PV → PM → Prop)
    (h : G none (K + 1) jModel_asAtFirst 2 [(0, .inr (.inr 52)), (1, .inl a1), (2, .inl 0)] [] P0 P0 M Q) : Call (K + 1) jModel_asAtFirst [.inr (.inr 52), .inl a1] P0 P0 M Q := by
  refine Call.intro (by decide +kernel) (mfx.le mf171 (Nat.le_of_ble_eq_true rfl)) (Nat.le_refl _) rfl ?_
  refine G_iconst (ck dc171 (i := 0) rfl) ?_
  refine G_istore_n (L' := [(2, .inl 0), (0, .inr (.inr 52)), (1, .inl a1)]) rfl (mfx.lt mf171 (Nat.le_of_ble_eq_true rfl)) rfl (ck dc171 (i := 1) rfl) ?_
  exact G_sub [1, 2, 0] rfl h
theorem g_m_asAtFirst_2 (K : Nat) (l1 l2 : Int) (M : PM) (Q : Option PV → PM → Prop)
    (h : R32 l2 ∧ (128 ≤ l2 → R32 l1 ∧ Call K jModel_reads [.inr (.inr 52)] P0 P0 (mset (mset (mset M 53 0 l1) 53 1 10) 53 2 10) (retV fun M4 => Q none M4)) ∧ (¬ 128 ≤ l2 → (0 ≤ l2 ∧ l2 < 128) ∧ G none (K + 1) jModel_asAtFirst 2 [(0, .inr (.inr 52)), (1, .inl l1), (2, .inl (l2 + 1))] [] P0 P0 (mset M 53 l2 0) Q)) : G none (K + 1) jModel_asAtFirst 2 [(0, .inr (.inr 52)), (1, .inl l1), (2, .inl l2)] [] P0 P0 M Q := by
  refine G_iload_n 2 rfl rfl (ck dc171 (i := 2) rfl) ?_
  refine G_sipush (n := 128) rfl (ck dc171 (i := 3) rfl) ?_
  obtain ⟨o1, h⟩ := h
  refine G_icmp_ge (tgt := 22) (by decide) o1 (by decide) (ck dc171 (i := 4) rfl) (fun c => ?_) (fun c => ?_)
  · replace h := h.1 c
    refine G_aload_n 0 rfl rfl (ck dc171 (i := 12) rfl) ?_
    refine H_getR mf171 (ck dc171 (i := 13) rfl) fw_Model_25 fc11_0 ly52 ra52 rf52_0 (by decide) ?_
    refine G_iconst (ck dc171 (i := 14) rfl) ?_
    refine G_iload_n 1 rfl rfl (ck dc171 (i := 15) rfl) ?_
    obtain ⟨o2, h⟩ := h
    refine G_i2l o2 (ck dc171 (i := 16) rfl) ?_
    refine G_last (ck dc171 (i := 17) rfl) ra53 ly53 (by decide) (by decide) ?_
    refine G_aload_n 0 rfl rfl (ck dc171 (i := 18) rfl) ?_
    refine H_getR mf171 (ck dc171 (i := 19) rfl) fw_Model_25 fc11_0 ly52 ra52 rf52_0 (by decide) ?_
    refine G_iconst (ck dc171 (i := 20) rfl) ?_
    refine H_ldc2 mf171 (v := 10) (ck dc171 (i := 21) rfl) kl_Model_90 ?_
    refine G_last (ck dc171 (i := 22) rfl) ra53 ly53 (by decide) (by decide) ?_
    refine G_aload_n 0 rfl rfl (ck dc171 (i := 23) rfl) ?_
    refine H_getR mf171 (ck dc171 (i := 24) rfl) fw_Model_25 fc11_0 ly52 ra52 rf52_0 (by decide) ?_
    refine G_iconst (ck dc171 (i := 25) rfl) ?_
    refine H_ldc2 mf171 (v := 10) (ck dc171 (i := 26) rfl) kl_Model_90 ?_
    refine G_last (ck dc171 (i := 27) rfl) ra53 ly53 (by decide) (by decide) ?_
    refine G_aload_n 0 rfl rfl (ck dc171 (i := 28) rfl) ?_
    refine H_vV mf171 (As := []) (st := []) (ck dc171 (i := 29) rfl) lk_Model_92 rfl rfl (Nat.le_of_ble_eq_true rfl) ly52 ra52 ⟨Nat.le_refl _, Nat.le_refl _⟩ h (fun M4 h => ?_)
    exact H_vret mf171 (ck dc171 (i := 30) rfl) rfl h
  · replace h := h.2 c
    refine G_aload_n 0 rfl rfl (ck dc171 (i := 5) rfl) ?_
    refine H_getR mf171 (ck dc171 (i := 6) rfl) fw_Model_25 fc11_0 ly52 ra52 rf52_0 (by decide) ?_
    refine G_iload_n 2 rfl rfl (ck dc171 (i := 7) rfl) ?_
    refine G_lconst (v := 0) rfl (ck dc171 (i := 8) rfl) ?_
    obtain ⟨o5, h⟩ := h
    refine G_last (ck dc171 (i := 9) rfl) ra53 ly53 (by decide) o5 ?_
    refine G_iinc (L' := [(2, .inl (l2 + 1)), (0, .inr (.inr 52)), (1, .inl l1)]) 2 rfl (mfx.lt mf171 (Nat.le_of_ble_eq_true rfl)) rfl (ck dc171 (i := 10) rfl) ?_
    refine G_goto (tgt := 2) (by decide) (ck dc171 (i := 11) rfl) ?_
    exact G_sub [1, 2, 0] rfl h
theorem c_model_within (K : Nat) (a1 a2 a3 : Int) (M : PM) (Q : Option PV → PM → Prop)
    (h : R64 a1 ∧ R64 a2 ∧ (a1 < a2 → Q (some (.inl 0)) M) ∧ (¬ a1 < a2 → R64 a3 ∧ (a3 < a1 → Q (some (.inl 0)) M) ∧ (¬ a3 < a1 → Q (some (.inl 1)) M))) : Call (K + 1) jModel_within [.inr (.inl a1), .inr (.inl a2), .inr (.inl a3)] P0 P0 M Q := by
  refine Call.intro (by decide +kernel) (mfx.le mf174 (Nat.le_of_ble_eq_true rfl)) (Nat.le_refl _) rfl ?_
  refine G_lload_n 0 rfl rfl (ck dc174 (i := 0) rfl) ?_
  refine G_lload_n 1 rfl rfl (ck dc174 (i := 1) rfl) ?_
  obtain ⟨o1, h⟩ := h
  obtain ⟨o2, h⟩ := h
  refine G_lif_lt (tgt := 17) (ck dc174 (i := 3) rfl) (by decide) o1 o2 (ck dc174 (i := 2) rfl) (fun c => ?_) (fun c => ?_)
  · replace h := h.1 c
    refine G_iconst (ck dc174 (i := 10) rfl) ?_
    exact H_iretZ mf174 (ck dc174 (i := 11) rfl) rfl (Or.inl rfl) h
  · replace h := h.2 c
    refine G_lload_n 0 rfl rfl (ck dc174 (i := 4) rfl) ?_
    refine G_lload 2 rfl (ck dc174 (i := 5) rfl) ?_
    obtain ⟨o3, h⟩ := h
    refine G_lif_gt (tgt := 17) (ck dc174 (i := 7) rfl) (by decide) o1 o3 (ck dc174 (i := 6) rfl) (fun c => ?_) (fun c => ?_)
    · replace h := h.1 c
      refine G_iconst (ck dc174 (i := 10) rfl) ?_
      exact H_iretZ mf174 (ck dc174 (i := 11) rfl) rfl (Or.inl rfl) h
    · replace h := h.2 c
      refine G_iconst (ck dc174 (i := 8) rfl) ?_
      refine G_goto (tgt := 18) (by decide) (ck dc174 (i := 9) rfl) ?_
      exact H_iretZ mf174 (ck dc174 (i := 11) rfl) rfl (Or.inr rfl) h
theorem c_m_houses (K : Nat) (a1 : Int) (M : PM) (Q : Option PV → PM → Prop)
    (h : R32 a1 ∧ Call K jModel_within [.inr (.inl a1), .inr (.inl 2), .inr (.inl 5)] P0 P0 M (retI fun r2 M3 => R32 r2 ∧ (¬ r2 = 0 → Call K jModel_asAtFirst [.inr (.inr 52), .inl a1] P0 P0 M3 (retV fun M6 => Q (some (.inl a1)) M6)) ∧ (r2 = 0 → Q (some (.inl (-2))) M3))) : Call (K + 1) jModel_houses [.inr (.inr 52), .inl a1] P0 P0 M Q := by
  refine Call.intro (by decide +kernel) (mfx.le mf173 (Nat.le_of_ble_eq_true rfl)) (Nat.le_refl _) rfl ?_
  refine G_iload_n 1 rfl rfl (ck dc173 (i := 0) rfl) ?_
  obtain ⟨o1, h⟩ := h
  refine G_i2l o1 (ck dc173 (i := 1) rfl) ?_
  refine H_ldc2 mf173 (v := 2) (ck dc173 (i := 2) rfl) kl_Model_17 ?_
  refine H_ldc2 mf173 (v := 5) (ck dc173 (i := 3) rfl) kl_Model_110 ?_
  refine H_sZ mf173 (As := [.inr (.inl a1), .inr (.inl 2), .inr (.inl 5)]) (st := []) (ck dc173 (i := 4) rfl) lk_Model_9 rfl rfl (Nat.le_of_ble_eq_true rfl) ⟨Nat.le_refl _, Nat.le_refl _⟩ h (fun r2 M3 h => ?_)
  obtain ⟨o4, h⟩ := h
  refine G_if_ne (tgt := 17) (by decide) o4 (ck dc173 (i := 5) rfl) (fun c => ?_) (fun c => ?_)
  · replace h := h.1 c
    refine G_aload_n 0 rfl rfl (ck dc173 (i := 8) rfl) ?_
    refine G_iload_n 1 rfl rfl (ck dc173 (i := 9) rfl) ?_
    refine H_vV mf173 (As := [.inl a1]) (st := []) (ck dc173 (i := 10) rfl) lk_Model_86 rfl rfl (Nat.le_of_ble_eq_true rfl) ly52 ra52 ⟨Nat.le_refl _, Nat.le_refl _⟩ h (fun M6 h => ?_)
    refine G_iload_n 1 rfl rfl (ck dc173 (i := 11) rfl) ?_
    exact H_iretI mf173 (ck dc173 (i := 12) rfl) rfl h
  · replace h := h.2 c
    refine G_bipush (n := (-2)) rfl (ck dc173 (i := 6) rfl) ?_
    exact H_iretI mf173 (ck dc173 (i := 7) rfl) rfl h
theorem c_m_isHouse (K : Nat) (a1 : Int) (M : PM) (Q : Option PV → PM → Prop)
    (h : R32 a1 ∧ R32 ((M 55 0) - 1) ∧ Call K jModel_within [.inr (.inl a1), .inr (.inl 0), .inr (.inl ((M 55 0) - 1))] P0 P0 M (retI fun r3 M4 => (r3 = 0 ∨ r3 = 1) ∧ Q (some (.inl r3)) M4)) : Call (K + 1) jModel_isHouse [.inr (.inr 52), .inl a1] P0 P0 M Q := by
  refine Call.intro (by decide +kernel) (mfx.le mf176 (Nat.le_of_ble_eq_true rfl)) (Nat.le_refl _) rfl ?_
  refine G_iload_n 1 rfl rfl (ck dc176 (i := 0) rfl) ?_
  obtain ⟨o1, h⟩ := h
  refine G_i2l o1 (ck dc176 (i := 1) rfl) ?_
  refine G_lconst (v := 0) rfl (ck dc176 (i := 2) rfl) ?_
  refine G_aload_n 0 rfl rfl (ck dc176 (i := 3) rfl) ?_
  refine H_getR mf176 (ck dc176 (i := 4) rfl) fw_Model_5 fc11_3 ly52 ra52 rf52_3 (by decide) ?_
  refine G_iconst (ck dc176 (i := 5) rfl) ?_
  refine H_iald (ck dc176 (i := 6) rfl) ly55 (by decide) ra55 (by decide) (x := (M 55 0)) rfl ?_
  refine G_iconst (ck dc176 (i := 7) rfl) ?_
  refine G_isub (ck dc176 (i := 8) rfl) ?_
  obtain ⟨o2, h⟩ := h
  refine G_i2l o2 (ck dc176 (i := 9) rfl) ?_
  refine H_sZ mf176 (As := [.inr (.inl a1), .inr (.inl 0), .inr (.inl ((M 55 0) - 1))]) (st := []) (ck dc176 (i := 10) rfl) lk_Model_9 rfl rfl (Nat.le_of_ble_eq_true rfl) ⟨Nat.le_refl _, Nat.le_refl _⟩ h (fun r3 M4 h => ?_)
  obtain ⟨o5, h⟩ := h
  exact H_iretZ mf176 (ck dc176 (i := 11) rfl) rfl o5 h
theorem c_m_tells (K : Nat) (a1 a2 : Int) (M : PM) (Q : Option PV → PM → Prop)
    (h : (0 ≤ a1 ∧ a1 < 83) ∧ R32 a2 ∧ (0 ≤ a1 ∧ a1 < 128) ∧ Q (some (.inl (M 55 a1))) (mset (mset (mset M 55 a1 a2) 53 a1 a2) 52 4 0)) : Call (K + 1) jModel_tells [.inr (.inr 52), .inl a1, .inl a2] P0 P0 M Q := by
  refine Call.intro (by decide +kernel) (mfx.le mf177 (Nat.le_of_ble_eq_true rfl)) (Nat.le_refl _) rfl ?_
  refine G_aload_n 0 rfl rfl (ck dc177 (i := 0) rfl) ?_
  refine H_getR mf177 (ck dc177 (i := 1) rfl) fw_Model_5 fc11_3 ly52 ra52 rf52_3 (by decide) ?_
  refine G_iload_n 1 rfl rfl (ck dc177 (i := 2) rfl) ?_
  obtain ⟨o1, h⟩ := h
  refine H_iald (ck dc177 (i := 3) rfl) ly55 (by decide) ra55 o1 (x := (M 55 a1)) rfl ?_
  refine G_istore_n (L' := [(3, .inl (M 55 a1)), (0, .inr (.inr 52)), (1, .inl a1), (2, .inl a2)]) rfl (mfx.lt mf177 (Nat.le_of_ble_eq_true rfl)) rfl (ck dc177 (i := 4) rfl) ?_
  refine G_aload_n 1 rfl rfl (ck dc177 (i := 5) rfl) ?_
  refine H_getR mf177 (ck dc177 (i := 6) rfl) fw_Model_5 fc11_3 ly52 ra52 rf52_3 (by decide) ?_
  refine G_iload_n 2 rfl rfl (ck dc177 (i := 7) rfl) ?_
  refine G_iload_n 3 rfl rfl (ck dc177 (i := 8) rfl) ?_
  refine G_iast (ck dc177 (i := 9) rfl) ra55 ly55 (by decide) o1 ?_
  refine G_aload_n 1 rfl rfl (ck dc177 (i := 10) rfl) ?_
  refine H_getR mf177 (ck dc177 (i := 11) rfl) fw_Model_25 fc11_0 ly52 ra52 rf52_0 (by decide) ?_
  refine G_iload_n 2 rfl rfl (ck dc177 (i := 12) rfl) ?_
  refine G_iload_n 3 rfl rfl (ck dc177 (i := 13) rfl) ?_
  obtain ⟨o2, h⟩ := h
  refine G_i2l o2 (ck dc177 (i := 14) rfl) ?_
  obtain ⟨o3, h⟩ := h
  refine G_last (ck dc177 (i := 15) rfl) ra53 ly53 (by decide) o3 ?_
  refine G_aload_n 1 rfl rfl (ck dc177 (i := 16) rfl) ?_
  refine G_iconst (ck dc177 (i := 17) rfl) ?_
  refine H_putZ mf177 (ck dc177 (i := 18) rfl) fw_Model_95 fc11_4 ly52 ra52 (Or.inl rfl) (Or.inl rfl) ?_
  refine G_iload_n 0 rfl rfl (ck dc177 (i := 19) rfl) ?_
  exact H_iretI mf177 (ck dc177 (i := 20) rfl) rfl h
theorem c_m_cash (K : Nat) (a1 a2 : Int) (M : PM) (Q : Option PV → PM → Prop)
    (h : Call K jModel_isHouse [.inr (.inr 52), .inl a1] P0 P0 M (retI fun r1 M2 => R32 r1 ∧ (¬ r1 = 0 → R32 a2 ∧ Call K jModel_within [.inr (.inl a2), .inr (.inl 0), .inr (.inl 200)] P0 P0 M2 (retI fun r5 M6 => R32 r5 ∧ (r5 = 0 → Q (some (.inl (-2))) M6) ∧ (¬ r5 = 0 → Call K jModel_tells [.inr (.inr 52), .inl (3 + a1), .inl a2] P0 P0 M6 (retI fun r8 M9 => Q (some (.inl r8)) M9)))) ∧ (r1 = 0 → Q (some (.inl (-1))) M2))) : Call (K + 1) jModel_cash [.inr (.inr 52), .inl a1, .inl a2] P0 P0 M Q := by
  refine Call.intro (by decide +kernel) (mfx.le mf175 (Nat.le_of_ble_eq_true rfl)) (Nat.le_refl _) rfl ?_
  refine G_aload_n 0 rfl rfl (ck dc175 (i := 0) rfl) ?_
  refine G_iload_n 1 rfl rfl (ck dc175 (i := 1) rfl) ?_
  refine H_vZ mf175 (As := [.inl a1]) (st := []) (ck dc175 (i := 2) rfl) lk_Model_13 rfl rfl (Nat.le_of_ble_eq_true rfl) ly52 ra52 ⟨Nat.le_refl _, Nat.le_refl _⟩ h (fun r1 M2 h => ?_)
  obtain ⟨o3, h⟩ := h
  refine G_if_ne (tgt := 10) (by decide) o3 (ck dc175 (i := 3) rfl) (fun c => ?_) (fun c => ?_)
  · replace h := h.1 c
    refine G_iload_n 2 rfl rfl (ck dc175 (i := 6) rfl) ?_
    obtain ⟨o4, h⟩ := h
    refine G_i2l o4 (ck dc175 (i := 7) rfl) ?_
    refine G_lconst (v := 0) rfl (ck dc175 (i := 8) rfl) ?_
    refine H_ldc2 mf175 (v := 200) (ck dc175 (i := 9) rfl) kl_Model_112 ?_
    refine H_sZ mf175 (As := [.inr (.inl a2), .inr (.inl 0), .inr (.inl 200)]) (st := []) (ck dc175 (i := 10) rfl) lk_Model_9 rfl rfl (Nat.le_of_ble_eq_true rfl) ⟨Nat.le_refl _, Nat.le_refl _⟩ h (fun r5 M6 h => ?_)
    obtain ⟨o7, h⟩ := h
    refine G_if_eq (tgt := 33) (by decide) o7 (ck dc175 (i := 11) rfl) (fun c => ?_) (fun c => ?_)
    · replace h := h.1 c
      refine G_bipush (n := (-2)) rfl (ck dc175 (i := 19) rfl) ?_
      exact H_iretI mf175 (ck dc175 (i := 20) rfl) rfl h
    · replace h := h.2 c
      refine G_aload_n 0 rfl rfl (ck dc175 (i := 12) rfl) ?_
      refine G_iconst (ck dc175 (i := 13) rfl) ?_
      refine G_iload_n 1 rfl rfl (ck dc175 (i := 14) rfl) ?_
      refine G_iadd (ck dc175 (i := 15) rfl) ?_
      refine G_iload_n 2 rfl rfl (ck dc175 (i := 16) rfl) ?_
      refine H_vI mf175 (As := [.inl (3 + a1), .inl a2]) (st := []) (ck dc175 (i := 17) rfl) lk_Model_114 rfl rfl (Nat.le_of_ble_eq_true rfl) ly52 ra52 ⟨Nat.le_refl _, Nat.le_refl _⟩ h (fun r8 M9 h => ?_)
      refine G_goto (tgt := 35) (by decide) (ck dc175 (i := 18) rfl) ?_
      exact H_iretI mf175 (ck dc175 (i := 20) rfl) rfl h
  · replace h := h.2 c
    refine G_iconst (ck dc175 (i := 4) rfl) ?_
    exact H_iretI mf175 (ck dc175 (i := 5) rfl) rfl h
theorem c_m_arePair (K : Nat) (a1 a2 : Int) (M : PM) (Q : Option PV → PM → Prop)
    (h : Call K jModel_isHouse [.inr (.inr 52), .inl a1] P0 P0 M (retI fun r1 M2 => R32 r1 ∧ (r1 = 0 → Q (some (.inl 0)) M2) ∧ (¬ r1 = 0 → Call K jModel_isHouse [.inr (.inr 52), .inl a2] P0 P0 M2 (retI fun r4 M5 => R32 r4 ∧ (r4 = 0 → Q (some (.inl 0)) M5) ∧ (¬ r4 = 0 → R32 a1 ∧ R32 a2 ∧ (a1 = a2 → Q (some (.inl 0)) M5) ∧ (¬ a1 = a2 → Q (some (.inl 1)) M5)))))) : Call (K + 1) jModel_arePair [.inr (.inr 52), .inl a1, .inl a2] P0 P0 M Q := by
  refine Call.intro (by decide +kernel) (mfx.le mf179 (Nat.le_of_ble_eq_true rfl)) (Nat.le_refl _) rfl ?_
  refine G_aload_n 0 rfl rfl (ck dc179 (i := 0) rfl) ?_
  refine G_iload_n 1 rfl rfl (ck dc179 (i := 1) rfl) ?_
  refine H_vZ mf179 (As := [.inl a1]) (st := []) (ck dc179 (i := 2) rfl) lk_Model_13 rfl rfl (Nat.le_of_ble_eq_true rfl) ly52 ra52 ⟨Nat.le_refl _, Nat.le_refl _⟩ h (fun r1 M2 h => ?_)
  obtain ⟨o3, h⟩ := h
  refine G_if_eq (tgt := 25) (by decide) o3 (ck dc179 (i := 3) rfl) (fun c => ?_) (fun c => ?_)
  · replace h := h.1 c
    refine G_iconst (ck dc179 (i := 13) rfl) ?_
    exact H_iretZ mf179 (ck dc179 (i := 14) rfl) rfl (Or.inl rfl) h
  · replace h := h.2 c
    refine G_aload_n 0 rfl rfl (ck dc179 (i := 4) rfl) ?_
    refine G_iload_n 2 rfl rfl (ck dc179 (i := 5) rfl) ?_
    refine H_vZ mf179 (As := [.inl a2]) (st := []) (ck dc179 (i := 6) rfl) lk_Model_13 rfl rfl (Nat.le_of_ble_eq_true rfl) ly52 ra52 ⟨Nat.le_refl _, Nat.le_refl _⟩ h (fun r4 M5 h => ?_)
    obtain ⟨o6, h⟩ := h
    refine G_if_eq (tgt := 25) (by decide) o6 (ck dc179 (i := 7) rfl) (fun c => ?_) (fun c => ?_)
    · replace h := h.1 c
      refine G_iconst (ck dc179 (i := 13) rfl) ?_
      exact H_iretZ mf179 (ck dc179 (i := 14) rfl) rfl (Or.inl rfl) h
    · replace h := h.2 c
      refine G_iload_n 1 rfl rfl (ck dc179 (i := 8) rfl) ?_
      refine G_iload_n 2 rfl rfl (ck dc179 (i := 9) rfl) ?_
      obtain ⟨o7, h⟩ := h
      obtain ⟨o8, h⟩ := h
      refine G_icmp_eq (tgt := 25) (by decide) o7 o8 (ck dc179 (i := 10) rfl) (fun c => ?_) (fun c => ?_)
      · replace h := h.1 c
        refine G_iconst (ck dc179 (i := 13) rfl) ?_
        exact H_iretZ mf179 (ck dc179 (i := 14) rfl) rfl (Or.inl rfl) h
      · replace h := h.2 c
        refine G_iconst (ck dc179 (i := 11) rfl) ?_
        refine G_goto (tgt := 26) (by decide) (ck dc179 (i := 12) rfl) ?_
        exact H_iretZ mf179 (ck dc179 (i := 14) rfl) rfl (Or.inr rfl) h
theorem c_model_isClass (K : Nat) (a1 : Int) (M : PM) (Q : Option PV → PM → Prop)
    (h : R32 a1 ∧ Call K jModel_within [.inr (.inl a1), .inr (.inl 0), .inr (.inl 2)] P0 P0 M (retI fun r2 M3 => (r2 = 0 ∨ r2 = 1) ∧ Q (some (.inl r2)) M3)) : Call (K + 1) jModel_isClass [.inl a1] P0 P0 M Q := by
  refine Call.intro (by decide +kernel) (mfx.le mf180 (Nat.le_of_ble_eq_true rfl)) (Nat.le_refl _) rfl ?_
  refine G_iload_n 0 rfl rfl (ck dc180 (i := 0) rfl) ?_
  obtain ⟨o1, h⟩ := h
  refine G_i2l o1 (ck dc180 (i := 1) rfl) ?_
  refine G_lconst (v := 0) rfl (ck dc180 (i := 2) rfl) ?_
  refine H_ldc2 mf180 (v := 2) (ck dc180 (i := 3) rfl) kl_Model_17 ?_
  refine H_sZ mf180 (As := [.inr (.inl a1), .inr (.inl 0), .inr (.inl 2)]) (st := []) (ck dc180 (i := 4) rfl) lk_Model_9 rfl rfl (Nat.le_of_ble_eq_true rfl) ⟨Nat.le_refl _, Nat.le_refl _⟩ h (fun r2 M3 h => ?_)
  obtain ⟨o4, h⟩ := h
  exact H_iretZ mf180 (ck dc180 (i := 5) rfl) rfl o4 h
theorem c_model_owedAt (K : Nat) (a1 a2 a3 : Int) (M : PM) (Q : Option PV → PM → Prop)
    (h : Q (some (.inl ((8 + (((5 * a1) + a2) * 3)) + a3))) M) : Call (K + 1) jModel_owedAt [.inl a1, .inl a2, .inl a3] P0 P0 M Q := by
  refine Call.intro (by decide +kernel) (mfx.le mf181 (Nat.le_of_ble_eq_true rfl)) (Nat.le_refl _) rfl ?_
  refine G_bipush (n := 8) rfl (ck dc181 (i := 0) rfl) ?_
  refine G_iconst (ck dc181 (i := 1) rfl) ?_
  refine G_iload_n 0 rfl rfl (ck dc181 (i := 2) rfl) ?_
  refine G_imul (ck dc181 (i := 3) rfl) ?_
  refine G_iload_n 1 rfl rfl (ck dc181 (i := 4) rfl) ?_
  refine G_iadd (ck dc181 (i := 5) rfl) ?_
  refine G_iconst (ck dc181 (i := 6) rfl) ?_
  refine G_imul (ck dc181 (i := 7) rfl) ?_
  refine G_iadd (ck dc181 (i := 8) rfl) ?_
  refine G_iload_n 2 rfl rfl (ck dc181 (i := 9) rfl) ?_
  refine G_iadd (ck dc181 (i := 10) rfl) ?_
  exact H_iretI mf181 (ck dc181 (i := 11) rfl) rfl h
theorem c_m_owe (K : Nat) (a1 a2 a3 a4 : Int) (M : PM) (Q : Option PV → PM → Prop)
    (h : Call K jModel_arePair [.inr (.inr 52), .inl a1, .inl a2] P0 P0 M (retI fun r1 M2 => R32 r1 ∧ (r1 = 0 → Q (some (.inl (-1))) M2) ∧ (¬ r1 = 0 → Call K jModel_isClass [.inl a3] P0 P0 M2 (retI fun r4 M5 => R32 r4 ∧ (¬ r4 = 0 → R32 a4 ∧ Call K jModel_within [.inr (.inl a4), .inr (.inl 0), .inr (.inl 20)] P0 P0 M5 (retI fun r8 M9 => R32 r8 ∧ (r8 = 0 → Q (some (.inl (-2))) M9) ∧ (¬ r8 = 0 → Call K jModel_owedAt [.inl a1, .inl a2, .inl a3] P0 P0 M9 (retI fun r11 M12 => Call K jModel_tells [.inr (.inr 52), .inl r11, .inl a4] P0 P0 M12 (retI fun r13 M14 => Q (some (.inl r13)) M14))))) ∧ (r4 = 0 → Q (some (.inl (-1))) M5))))) : Call (K + 1) jModel_owe [.inr (.inr 52), .inl a1, .inl a2, .inl a3, .inl a4] P0 P0 M Q := by
  refine Call.intro (by decide +kernel) (mfx.le mf178 (Nat.le_of_ble_eq_true rfl)) (Nat.le_refl _) rfl ?_
  refine G_aload_n 0 rfl rfl (ck dc178 (i := 0) rfl) ?_
  refine G_iload_n 1 rfl rfl (ck dc178 (i := 1) rfl) ?_
  refine G_iload_n 2 rfl rfl (ck dc178 (i := 2) rfl) ?_
  refine H_vZ mf178 (As := [.inl a1, .inl a2]) (st := []) (ck dc178 (i := 3) rfl) lk_Model_117 rfl rfl (Nat.le_of_ble_eq_true rfl) ly52 ra52 ⟨Nat.le_refl _, Nat.le_refl _⟩ h (fun r1 M2 h => ?_)
  obtain ⟨o3, h⟩ := h
  refine G_if_eq (tgt := 16) (by decide) o3 (ck dc178 (i := 4) rfl) (fun c => ?_) (fun c => ?_)
  · replace h := h.1 c
    refine G_iconst (ck dc178 (i := 8) rfl) ?_
    exact H_iretI mf178 (ck dc178 (i := 9) rfl) rfl h
  · replace h := h.2 c
    refine G_iload_n 3 rfl rfl (ck dc178 (i := 5) rfl) ?_
    refine H_sZ mf178 (As := [.inl a3]) (st := []) (ck dc178 (i := 6) rfl) lk_Model_121 rfl rfl (Nat.le_of_ble_eq_true rfl) ⟨Nat.le_refl _, Nat.le_refl _⟩ h (fun r4 M5 h => ?_)
    obtain ⟨o6, h⟩ := h
    refine G_if_ne (tgt := 18) (by decide) o6 (ck dc178 (i := 7) rfl) (fun c => ?_) (fun c => ?_)
    · replace h := h.1 c
      refine G_iload 4 rfl (ck dc178 (i := 10) rfl) ?_
      obtain ⟨o7, h⟩ := h
      refine G_i2l o7 (ck dc178 (i := 11) rfl) ?_
      refine G_lconst (v := 0) rfl (ck dc178 (i := 12) rfl) ?_
      refine H_ldc2 mf178 (v := 20) (ck dc178 (i := 13) rfl) kl_Model_124 ?_
      refine H_sZ mf178 (As := [.inr (.inl a4), .inr (.inl 0), .inr (.inl 20)]) (st := []) (ck dc178 (i := 14) rfl) lk_Model_9 rfl rfl (Nat.le_of_ble_eq_true rfl) ⟨Nat.le_refl _, Nat.le_refl _⟩ h (fun r8 M9 h => ?_)
      obtain ⟨o10, h⟩ := h
      refine G_if_eq (tgt := 46) (by decide) o10 (ck dc178 (i := 15) rfl) (fun c => ?_) (fun c => ?_)
      · replace h := h.1 c
        refine G_bipush (n := (-2)) rfl (ck dc178 (i := 24) rfl) ?_
        exact H_iretI mf178 (ck dc178 (i := 25) rfl) rfl h
      · replace h := h.2 c
        refine G_aload_n 0 rfl rfl (ck dc178 (i := 16) rfl) ?_
        refine G_iload_n 1 rfl rfl (ck dc178 (i := 17) rfl) ?_
        refine G_iload_n 2 rfl rfl (ck dc178 (i := 18) rfl) ?_
        refine G_iload_n 3 rfl rfl (ck dc178 (i := 19) rfl) ?_
        refine H_sI mf178 (As := [.inl a1, .inl a2, .inl a3]) (st := [.inr (.inr 52)]) (ck dc178 (i := 20) rfl) lk_Model_99 rfl rfl (Nat.le_of_ble_eq_true rfl) ⟨Nat.le_refl _, Nat.le_refl _⟩ h (fun r11 M12 h => ?_)
        refine G_iload 4 rfl (ck dc178 (i := 21) rfl) ?_
        refine H_vI mf178 (As := [.inl r11, .inl a4]) (st := []) (ck dc178 (i := 22) rfl) lk_Model_114 rfl rfl (Nat.le_of_ble_eq_true rfl) ly52 ra52 ⟨Nat.le_refl _, Nat.le_refl _⟩ h (fun r13 M14 h => ?_)
        refine G_goto (tgt := 48) (by decide) (ck dc178 (i := 23) rfl) ?_
        exact H_iretI mf178 (ck dc178 (i := 25) rfl) rfl h
    · replace h := h.2 c
      refine G_iconst (ck dc178 (i := 8) rfl) ?_
      exact H_iretI mf178 (ck dc178 (i := 9) rfl) rfl h
theorem c_m_owes (K : Nat) (a1 a2 a3 : Int) (M : PM) (Q : Option PV → PM → Prop)
    (h : Call K jModel_owedAt [.inl a1, .inl a2, .inl a3] P0 P0 M (retI fun r1 M2 => (0 ≤ r1 ∧ r1 < 83) ∧ Q (some (.inl (M2 55 r1))) M2)) : Call (K + 1) jModel_owes [.inr (.inr 52), .inl a1, .inl a2, .inl a3] P0 P0 M Q := by
  refine Call.intro (by decide +kernel) (mfx.le mf183 (Nat.le_of_ble_eq_true rfl)) (Nat.le_refl _) rfl ?_
  refine G_aload_n 0 rfl rfl (ck dc183 (i := 0) rfl) ?_
  refine H_getR mf183 (ck dc183 (i := 1) rfl) fw_Model_5 fc11_3 ly52 ra52 rf52_3 (by decide) ?_
  refine G_iload_n 1 rfl rfl (ck dc183 (i := 2) rfl) ?_
  refine G_iload_n 2 rfl rfl (ck dc183 (i := 3) rfl) ?_
  refine G_iload_n 3 rfl rfl (ck dc183 (i := 4) rfl) ?_
  refine H_sI mf183 (As := [.inl a1, .inl a2, .inl a3]) (st := [.inr (.inr 55)]) (ck dc183 (i := 5) rfl) lk_Model_99 rfl rfl (Nat.le_of_ble_eq_true rfl) ⟨Nat.le_refl _, Nat.le_refl _⟩ h (fun r1 M2 h => ?_)
  obtain ⟨o3, h⟩ := h
  refine H_iald (ck dc183 (i := 6) rfl) ly55 (by decide) ra55 o3 (x := (M2 55 r1)) rfl ?_
  exact H_iretI mf183 (ck dc183 (i := 7) rfl) rfl h
theorem c_m_owed (K : Nat) (a1 a2 a3 : Int) (M : PM) (Q : Option PV → PM → Prop)
    (h : Call K jModel_arePair [.inr (.inr 52), .inl a1, .inl a2] P0 P0 M (retI fun r1 M2 => R32 r1 ∧ (r1 = 0 → Q (some (.inl (-1))) M2) ∧ (¬ r1 = 0 → Call K jModel_isClass [.inl a3] P0 P0 M2 (retI fun r4 M5 => R32 r4 ∧ (r4 = 0 → Q (some (.inl (-1))) M5) ∧ (¬ r4 = 0 → Call K jModel_owes [.inr (.inr 52), .inl a1, .inl a2, .inl a3] P0 P0 M5 (retI fun r7 M8 => Q (some (.inl r7)) M8)))))) : Call (K + 1) jModel_owed [.inr (.inr 52), .inl a1, .inl a2, .inl a3] P0 P0 M Q := by
  refine Call.intro (by decide +kernel) (mfx.le mf182 (Nat.le_of_ble_eq_true rfl)) (Nat.le_refl _) rfl ?_
  refine G_aload_n 0 rfl rfl (ck dc182 (i := 0) rfl) ?_
  refine G_iload_n 1 rfl rfl (ck dc182 (i := 1) rfl) ?_
  refine G_iload_n 2 rfl rfl (ck dc182 (i := 2) rfl) ?_
  refine H_vZ mf182 (As := [.inl a1, .inl a2]) (st := []) (ck dc182 (i := 3) rfl) lk_Model_117 rfl rfl (Nat.le_of_ble_eq_true rfl) ly52 ra52 ⟨Nat.le_refl _, Nat.le_refl _⟩ h (fun r1 M2 h => ?_)
  obtain ⟨o3, h⟩ := h
  refine G_if_eq (tgt := 26) (by decide) o3 (ck dc182 (i := 4) rfl) (fun c => ?_) (fun c => ?_)
  · replace h := h.1 c
    refine G_iconst (ck dc182 (i := 14) rfl) ?_
    exact H_iretI mf182 (ck dc182 (i := 15) rfl) rfl h
  · replace h := h.2 c
    refine G_iload_n 3 rfl rfl (ck dc182 (i := 5) rfl) ?_
    refine H_sZ mf182 (As := [.inl a3]) (st := []) (ck dc182 (i := 6) rfl) lk_Model_121 rfl rfl (Nat.le_of_ble_eq_true rfl) ⟨Nat.le_refl _, Nat.le_refl _⟩ h (fun r4 M5 h => ?_)
    obtain ⟨o6, h⟩ := h
    refine G_if_eq (tgt := 26) (by decide) o6 (ck dc182 (i := 7) rfl) (fun c => ?_) (fun c => ?_)
    · replace h := h.1 c
      refine G_iconst (ck dc182 (i := 14) rfl) ?_
      exact H_iretI mf182 (ck dc182 (i := 15) rfl) rfl h
    · replace h := h.2 c
      refine G_aload_n 0 rfl rfl (ck dc182 (i := 8) rfl) ?_
      refine G_iload_n 1 rfl rfl (ck dc182 (i := 9) rfl) ?_
      refine G_iload_n 2 rfl rfl (ck dc182 (i := 10) rfl) ?_
      refine G_iload_n 3 rfl rfl (ck dc182 (i := 11) rfl) ?_
      refine H_vI mf182 (As := [.inl a1, .inl a2, .inl a3]) (st := []) (ck dc182 (i := 12) rfl) lk_Model_103 rfl rfl (Nat.le_of_ble_eq_true rfl) ly52 ra52 ⟨Nat.le_refl _, Nat.le_refl _⟩ h (fun r7 M8 h => ?_)
      refine G_goto (tgt := 27) (by decide) (ck dc182 (i := 13) rfl) ?_
      exact H_iretI mf182 (ck dc182 (i := 15) rfl) rfl h
theorem c_m_costs (K : Nat) (a1 a2 : Int) (M : PM) (Q : Option PV → PM → Prop)
    (h : R32 a1 ∧ Call K jModel_within [.inr (.inl a1), .inr (.inl 0), .inr (.inl 10)] P0 P0 M (retI fun r2 M3 => R32 r2 ∧ (r2 = 0 → Q (some (.inl (-2))) M3) ∧ (¬ r2 = 0 → R32 a2 ∧ Call K jModel_within [.inr (.inl a2), .inr (.inl 0), .inr (.inl 10)] P0 P0 M3 (retI fun r6 M7 => R32 r6 ∧ (¬ r6 = 0 → Call K jModel_tells [.inr (.inr 52), .inl 1, .inl a1] P0 P0 M7 (retI fun r9 M10 => Call K jModel_tells [.inr (.inr 52), .inl 2, .inl a2] P0 P0 M10 (retI fun r11 M12 => Q (some (.inl 1)) M12))) ∧ (r6 = 0 → Q (some (.inl (-2))) M7))))) : Call (K + 1) jModel_costs [.inr (.inr 52), .inl a1, .inl a2] P0 P0 M Q := by
  refine Call.intro (by decide +kernel) (mfx.le mf184 (Nat.le_of_ble_eq_true rfl)) (Nat.le_refl _) rfl ?_
  refine G_iload_n 1 rfl rfl (ck dc184 (i := 0) rfl) ?_
  obtain ⟨o1, h⟩ := h
  refine G_i2l o1 (ck dc184 (i := 1) rfl) ?_
  refine G_lconst (v := 0) rfl (ck dc184 (i := 2) rfl) ?_
  refine H_ldc2 mf184 (v := 10) (ck dc184 (i := 3) rfl) kl_Model_90 ?_
  refine H_sZ mf184 (As := [.inr (.inl a1), .inr (.inl 0), .inr (.inl 10)]) (st := []) (ck dc184 (i := 4) rfl) lk_Model_9 rfl rfl (Nat.le_of_ble_eq_true rfl) ⟨Nat.le_refl _, Nat.le_refl _⟩ h (fun r2 M3 h => ?_)
  obtain ⟨o4, h⟩ := h
  refine G_if_eq (tgt := 24) (by decide) o4 (ck dc184 (i := 5) rfl) (fun c => ?_) (fun c => ?_)
  · replace h := h.1 c
    refine G_bipush (n := (-2)) rfl (ck dc184 (i := 12) rfl) ?_
    exact H_iretI mf184 (ck dc184 (i := 13) rfl) rfl h
  · replace h := h.2 c
    refine G_iload_n 2 rfl rfl (ck dc184 (i := 6) rfl) ?_
    obtain ⟨o5, h⟩ := h
    refine G_i2l o5 (ck dc184 (i := 7) rfl) ?_
    refine G_lconst (v := 0) rfl (ck dc184 (i := 8) rfl) ?_
    refine H_ldc2 mf184 (v := 10) (ck dc184 (i := 9) rfl) kl_Model_90 ?_
    refine H_sZ mf184 (As := [.inr (.inl a2), .inr (.inl 0), .inr (.inl 10)]) (st := []) (ck dc184 (i := 10) rfl) lk_Model_9 rfl rfl (Nat.le_of_ble_eq_true rfl) ⟨Nat.le_refl _, Nat.le_refl _⟩ h (fun r6 M7 h => ?_)
    obtain ⟨o8, h⟩ := h
    refine G_if_ne (tgt := 27) (by decide) o8 (ck dc184 (i := 11) rfl) (fun c => ?_) (fun c => ?_)
    · replace h := h.1 c
      refine G_aload_n 0 rfl rfl (ck dc184 (i := 14) rfl) ?_
      refine G_iconst (ck dc184 (i := 15) rfl) ?_
      refine G_iload_n 1 rfl rfl (ck dc184 (i := 16) rfl) ?_
      refine H_vI mf184 (As := [.inl 1, .inl a1]) (st := []) (ck dc184 (i := 17) rfl) lk_Model_114 rfl rfl (Nat.le_of_ble_eq_true rfl) ly52 ra52 ⟨Nat.le_refl _, Nat.le_refl _⟩ h (fun r9 M10 h => ?_)
      refine G_pop rfl (ck dc184 (i := 18) rfl) ?_
      refine G_aload_n 0 rfl rfl (ck dc184 (i := 19) rfl) ?_
      refine G_iconst (ck dc184 (i := 20) rfl) ?_
      refine G_iload_n 2 rfl rfl (ck dc184 (i := 21) rfl) ?_
      refine H_vI mf184 (As := [.inl 2, .inl a2]) (st := []) (ck dc184 (i := 22) rfl) lk_Model_114 rfl rfl (Nat.le_of_ble_eq_true rfl) ly52 ra52 ⟨Nat.le_refl _, Nat.le_refl _⟩ h (fun r11 M12 h => ?_)
      refine G_pop rfl (ck dc184 (i := 23) rfl) ?_
      refine G_iconst (ck dc184 (i := 24) rfl) ?_
      exact H_iretI mf184 (ck dc184 (i := 25) rfl) rfl h
    · replace h := h.2 c
      refine G_bipush (n := (-2)) rfl (ck dc184 (i := 12) rfl) ?_
      exact H_iretI mf184 (ck dc184 (i := 13) rfl) rfl h
set_option maxHeartbeats 20000000 in
theorem c_m_cede (K : Nat) (a1 a2 a3 a4 a5 : Int) (M : PM) (Q : Option PV → PM → Prop)
    (h : Call K jModel_arePair [.inr (.inr 52), .inl a1, .inl a2] P0 P0 M (retI fun r1 M2 => R32 r1 ∧ (r1 = 0 → Q (some (.inl (-1))) M2) ∧ (¬ r1 = 0 → Call K jModel_arePair [.inr (.inr 52), .inl a1, .inl a3] P0 P0 M2 (retI fun r4 M5 => R32 r4 ∧ (r4 = 0 → Q (some (.inl (-1))) M5) ∧ (¬ r4 = 0 → R32 a2 ∧ R32 a3 ∧ (a2 = a3 → Q (some (.inl (-1))) M5) ∧ (¬ a2 = a3 → Call K jModel_isClass [.inl a4] P0 P0 M5 (retI fun r9 M10 => R32 r9 ∧ (¬ r9 = 0 → R32 a5 ∧ (1 ≤ a5 → Call K jModel_owes [.inr (.inr 52), .inl a1, .inl a2, .inl a4] P0 P0 M10 (retI fun r13 M14 => R32 r13 ∧ (a5 ≤ r13 → Call K jModel_owes [.inr (.inr 52), .inl a1, .inl a3, .inl a4] P0 P0 M14 (retI fun r16 M17 => R32 r16 ∧ R32 (20 - a5) ∧ (r16 ≤ (20 - a5) → Call K jModel_owedAt [.inl a1, .inl a2, .inl a4] P0 P0 M17 (retI fun r20 M21 => Call K jModel_tells [.inr (.inr 52), .inl r20, .inl (r13 - a5)] P0 P0 M21 (retI fun r22 M23 => Call K jModel_owedAt [.inl a1, .inl a3, .inl a4] P0 P0 M23 (retI fun r24 M25 => Call K jModel_owes [.inr (.inr 52), .inl a1, .inl a3, .inl a4] P0 P0 M25 (retI fun r26 M27 => Call K jModel_tells [.inr (.inr 52), .inl r24, .inl (r26 + a5)] P0 P0 M27 (retI fun r28 M29 => Q (some (.inl 1)) M29)))))) ∧ (¬ r16 ≤ (20 - a5) → Q (some (.inl (-4))) M17))) ∧ (¬ a5 ≤ r13 → Q (some (.inl (-3))) M14))) ∧ (¬ 1 ≤ a5 → Q (some (.inl (-2))) M10)) ∧ (r9 = 0 → Q (some (.inl (-1))) M10)))))))) : Call (K + 1) jModel_cede [.inr (.inr 52), .inl a1, .inl a2, .inl a3, .inl a4, .inl a5] P0 P0 M Q := by
  refine Call.intro (by decide +kernel) (mfx.le mf185 (Nat.le_of_ble_eq_true rfl)) (Nat.le_refl _) rfl ?_
  refine G_aload_n 0 rfl rfl (ck dc185 (i := 0) rfl) ?_
  refine G_iload_n 1 rfl rfl (ck dc185 (i := 1) rfl) ?_
  refine G_iload_n 2 rfl rfl (ck dc185 (i := 2) rfl) ?_
  refine H_vZ mf185 (As := [.inl a1, .inl a2]) (st := []) (ck dc185 (i := 3) rfl) lk_Model_117 rfl rfl (Nat.le_of_ble_eq_true rfl) ly52 ra52 ⟨Nat.le_refl _, Nat.le_refl _⟩ h (fun r1 M2 h => ?_)
  obtain ⟨o3, h⟩ := h
  refine G_if_eq (tgt := 31) (by decide) o3 (ck dc185 (i := 4) rfl) (fun c => ?_) (fun c => ?_)
  · replace h := h.1 c
    refine G_iconst (ck dc185 (i := 16) rfl) ?_
    exact H_iretI mf185 (ck dc185 (i := 17) rfl) rfl h
  · replace h := h.2 c
    refine G_aload_n 0 rfl rfl (ck dc185 (i := 5) rfl) ?_
    refine G_iload_n 1 rfl rfl (ck dc185 (i := 6) rfl) ?_
    refine G_iload_n 3 rfl rfl (ck dc185 (i := 7) rfl) ?_
    refine H_vZ mf185 (As := [.inl a1, .inl a3]) (st := []) (ck dc185 (i := 8) rfl) lk_Model_117 rfl rfl (Nat.le_of_ble_eq_true rfl) ly52 ra52 ⟨Nat.le_refl _, Nat.le_refl _⟩ h (fun r4 M5 h => ?_)
    obtain ⟨o6, h⟩ := h
    refine G_if_eq (tgt := 31) (by decide) o6 (ck dc185 (i := 9) rfl) (fun c => ?_) (fun c => ?_)
    · replace h := h.1 c
      refine G_iconst (ck dc185 (i := 16) rfl) ?_
      exact H_iretI mf185 (ck dc185 (i := 17) rfl) rfl h
    · replace h := h.2 c
      refine G_iload_n 2 rfl rfl (ck dc185 (i := 10) rfl) ?_
      refine G_iload_n 3 rfl rfl (ck dc185 (i := 11) rfl) ?_
      obtain ⟨o7, h⟩ := h
      obtain ⟨o8, h⟩ := h
      refine G_icmp_eq (tgt := 31) (by decide) o7 o8 (ck dc185 (i := 12) rfl) (fun c => ?_) (fun c => ?_)
      · replace h := h.1 c
        refine G_iconst (ck dc185 (i := 16) rfl) ?_
        exact H_iretI mf185 (ck dc185 (i := 17) rfl) rfl h
      · replace h := h.2 c
        refine G_iload 4 rfl (ck dc185 (i := 13) rfl) ?_
        refine H_sZ mf185 (As := [.inl a4]) (st := []) (ck dc185 (i := 14) rfl) lk_Model_121 rfl rfl (Nat.le_of_ble_eq_true rfl) ⟨Nat.le_refl _, Nat.le_refl _⟩ h (fun r9 M10 h => ?_)
        obtain ⟨o11, h⟩ := h
        refine G_if_ne (tgt := 33) (by decide) o11 (ck dc185 (i := 15) rfl) (fun c => ?_) (fun c => ?_)
        · replace h := h.1 c
          refine G_iload 5 rfl (ck dc185 (i := 18) rfl) ?_
          refine G_iconst (ck dc185 (i := 19) rfl) ?_
          obtain ⟨o12, h⟩ := h
          refine G_icmp_ge (tgt := 42) (by decide) o12 (by decide) (ck dc185 (i := 20) rfl) (fun c => ?_) (fun c => ?_)
          · replace h := h.1 c
            refine G_aload_n 0 rfl rfl (ck dc185 (i := 23) rfl) ?_
            refine G_iload_n 1 rfl rfl (ck dc185 (i := 24) rfl) ?_
            refine G_iload_n 2 rfl rfl (ck dc185 (i := 25) rfl) ?_
            refine G_iload 4 rfl (ck dc185 (i := 26) rfl) ?_
            refine H_vI mf185 (As := [.inl a1, .inl a2, .inl a4]) (st := []) (ck dc185 (i := 27) rfl) lk_Model_103 rfl rfl (Nat.le_of_ble_eq_true rfl) ly52 ra52 ⟨Nat.le_refl _, Nat.le_refl _⟩ h (fun r13 M14 h => ?_)
            refine G_istore (L' := [(6, .inl r13), (0, .inr (.inr 52)), (1, .inl a1), (2, .inl a2), (3, .inl a3), (4, .inl a4), (5, .inl a5)]) (mfx.lt mf185 (Nat.le_of_ble_eq_true rfl)) rfl (ck dc185 (i := 28) rfl) ?_
            refine G_iload 0 rfl (ck dc185 (i := 29) rfl) ?_
            refine G_iload 6 rfl (ck dc185 (i := 30) rfl) ?_
            obtain ⟨o15, h⟩ := h
            refine G_icmp_ge (tgt := 62) (by decide) o15 o12 (ck dc185 (i := 31) rfl) (fun c => ?_) (fun c => ?_)
            · replace h := h.1 c
              refine G_aload_n 1 rfl rfl (ck dc185 (i := 34) rfl) ?_
              refine G_iload_n 2 rfl rfl (ck dc185 (i := 35) rfl) ?_
              refine G_iload_n 4 rfl rfl (ck dc185 (i := 36) rfl) ?_
              refine G_iload 5 rfl (ck dc185 (i := 37) rfl) ?_
              refine H_vI mf185 (As := [.inl a1, .inl a3, .inl a4]) (st := []) (ck dc185 (i := 38) rfl) lk_Model_103 rfl rfl (Nat.le_of_ble_eq_true rfl) ly52 ra52 ⟨Nat.le_refl _, Nat.le_refl _⟩ h (fun r16 M17 h => ?_)
              refine G_bipush (n := 20) rfl (ck dc185 (i := 39) rfl) ?_
              refine G_iload 6 rfl (ck dc185 (i := 40) rfl) ?_
              refine G_isub (ck dc185 (i := 41) rfl) ?_
              obtain ⟨o18, h⟩ := h
              obtain ⟨o19, h⟩ := h
              refine G_icmp_le (tgt := 81) (by decide) o18 o19 (ck dc185 (i := 42) rfl) (fun c => ?_) (fun c => ?_)
              · replace h := h.1 c
                refine G_aload_n 1 rfl rfl (ck dc185 (i := 45) rfl) ?_
                refine G_iload_n 2 rfl rfl (ck dc185 (i := 46) rfl) ?_
                refine G_iload_n 3 rfl rfl (ck dc185 (i := 47) rfl) ?_
                refine G_iload 5 rfl (ck dc185 (i := 48) rfl) ?_
                refine H_sI mf185 (As := [.inl a1, .inl a2, .inl a4]) (st := [.inr (.inr 52)]) (ck dc185 (i := 49) rfl) lk_Model_99 rfl rfl (Nat.le_of_ble_eq_true rfl) ⟨Nat.le_refl _, Nat.le_refl _⟩ h (fun r20 M21 h => ?_)
                refine G_iload 0 rfl (ck dc185 (i := 50) rfl) ?_
                refine G_iload 6 rfl (ck dc185 (i := 51) rfl) ?_
                refine G_isub (ck dc185 (i := 52) rfl) ?_
                refine H_vI mf185 (As := [.inl r20, .inl (r13 - a5)]) (st := []) (ck dc185 (i := 53) rfl) lk_Model_114 rfl rfl (Nat.le_of_ble_eq_true rfl) ly52 ra52 ⟨Nat.le_refl _, Nat.le_refl _⟩ h (fun r22 M23 h => ?_)
                refine G_pop rfl (ck dc185 (i := 54) rfl) ?_
                refine G_aload_n 1 rfl rfl (ck dc185 (i := 55) rfl) ?_
                refine G_iload_n 2 rfl rfl (ck dc185 (i := 56) rfl) ?_
                refine G_iload_n 4 rfl rfl (ck dc185 (i := 57) rfl) ?_
                refine G_iload 5 rfl (ck dc185 (i := 58) rfl) ?_
                refine H_sI mf185 (As := [.inl a1, .inl a3, .inl a4]) (st := [.inr (.inr 52)]) (ck dc185 (i := 59) rfl) lk_Model_99 rfl rfl (Nat.le_of_ble_eq_true rfl) ⟨Nat.le_refl _, Nat.le_refl _⟩ h (fun r24 M25 h => ?_)
                refine G_aload_n 1 rfl rfl (ck dc185 (i := 60) rfl) ?_
                refine G_iload_n 2 rfl rfl (ck dc185 (i := 61) rfl) ?_
                refine G_iload_n 4 rfl rfl (ck dc185 (i := 62) rfl) ?_
                refine G_iload 5 rfl (ck dc185 (i := 63) rfl) ?_
                refine H_vI mf185 (As := [.inl a1, .inl a3, .inl a4]) (st := [.inl r24, .inr (.inr 52)]) (ck dc185 (i := 64) rfl) lk_Model_103 rfl rfl (Nat.le_of_ble_eq_true rfl) ly52 ra52 ⟨Nat.le_refl _, Nat.le_refl _⟩ h (fun r26 M27 h => ?_)
                refine G_iload 6 rfl (ck dc185 (i := 65) rfl) ?_
                refine G_iadd (ck dc185 (i := 66) rfl) ?_
                refine H_vI mf185 (As := [.inl r24, .inl (r26 + a5)]) (st := []) (ck dc185 (i := 67) rfl) lk_Model_114 rfl rfl (Nat.le_of_ble_eq_true rfl) ly52 ra52 ⟨Nat.le_refl _, Nat.le_refl _⟩ h (fun r28 M29 h => ?_)
                refine G_pop rfl (ck dc185 (i := 68) rfl) ?_
                refine G_iconst (ck dc185 (i := 69) rfl) ?_
                exact H_iretI mf185 (ck dc185 (i := 70) rfl) rfl h
              · replace h := h.2 c
                refine G_bipush (n := (-4)) rfl (ck dc185 (i := 43) rfl) ?_
                exact H_iretI mf185 (ck dc185 (i := 44) rfl) rfl h
            · replace h := h.2 c
              refine G_bipush (n := (-3)) rfl (ck dc185 (i := 32) rfl) ?_
              exact H_iretI mf185 (ck dc185 (i := 33) rfl) rfl h
          · replace h := h.2 c
            refine G_bipush (n := (-2)) rfl (ck dc185 (i := 21) rfl) ?_
            exact H_iretI mf185 (ck dc185 (i := 22) rfl) rfl h
        · replace h := h.2 c
          refine G_iconst (ck dc185 (i := 16) rfl) ?_
          exact H_iretI mf185 (ck dc185 (i := 17) rfl) rfl h
set_option maxHeartbeats 20000000 in
theorem c_m_settle (K : Nat) (a1 a2 a3 a4 : Int) (M : PM) (Q : Option PV → PM → Prop)
    (h : Call K jModel_arePair [.inr (.inr 52), .inl a1, .inl a2] P0 P0 M (retI fun r1 M2 => R32 r1 ∧ (r1 = 0 → Q (some (.inl (-1))) M2) ∧ (¬ r1 = 0 → Call K jModel_isClass [.inl a3] P0 P0 M2 (retI fun r4 M5 => R32 r4 ∧ (¬ r4 = 0 → R32 a4 ∧ (1 ≤ a4 → Call K jModel_owes [.inr (.inr 52), .inl a1, .inl a2, .inl a3] P0 P0 M5 (retI fun r8 M9 => R32 r8 ∧ (r8 < a4 → Q (some (.inl (-3))) M9) ∧ (¬ r8 < a4 → (0 ≤ (3 + a1) ∧ (3 + a1) < 83) ∧ R32 (M9 55 (3 + a1)) ∧ (a4 ≤ (M9 55 (3 + a1)) → (0 ≤ (3 + a2) ∧ (3 + a2) < 83) ∧ R32 (M9 55 (3 + a2)) ∧ R32 (200 - a4) ∧ ((M9 55 (3 + a2)) ≤ (200 - a4) → Call K jModel_owedAt [.inl a1, .inl a2, .inl a3] P0 P0 M9 (retI fun r16 M17 => Call K jModel_owes [.inr (.inr 52), .inl a1, .inl a2, .inl a3] P0 P0 M17 (retI fun r18 M19 => Call K jModel_tells [.inr (.inr 52), .inl r16, .inl (r18 - a4)] P0 P0 M19 (retI fun r20 M21 => Call K jModel_tells [.inr (.inr 52), .inl (3 + a1), .inl ((M21 55 (3 + a1)) - a4)] P0 P0 M21 (retI fun r22 M23 => Call K jModel_tells [.inr (.inr 52), .inl (3 + a2), .inl ((M23 55 (3 + a2)) + a4)] P0 P0 M23 (retI fun r24 M25 => Q (some (.inl 1)) M25)))))) ∧ (¬ (M9 55 (3 + a2)) ≤ (200 - a4) → Q (some (.inl (-4))) M9)) ∧ (¬ a4 ≤ (M9 55 (3 + a1)) → Q (some (.inl (-3))) M9)))) ∧ (¬ 1 ≤ a4 → Q (some (.inl (-2))) M5)) ∧ (r4 = 0 → Q (some (.inl (-1))) M5))))) : Call (K + 1) jModel_settle [.inr (.inr 52), .inl a1, .inl a2, .inl a3, .inl a4] P0 P0 M Q := by
  refine Call.intro (by decide +kernel) (mfx.le mf186 (Nat.le_of_ble_eq_true rfl)) (Nat.le_refl _) rfl ?_
  refine G_aload_n 0 rfl rfl (ck dc186 (i := 0) rfl) ?_
  refine G_iload_n 1 rfl rfl (ck dc186 (i := 1) rfl) ?_
  refine G_iload_n 2 rfl rfl (ck dc186 (i := 2) rfl) ?_
  refine H_vZ mf186 (As := [.inl a1, .inl a2]) (st := []) (ck dc186 (i := 3) rfl) lk_Model_117 rfl rfl (Nat.le_of_ble_eq_true rfl) ly52 ra52 ⟨Nat.le_refl _, Nat.le_refl _⟩ h (fun r1 M2 h => ?_)
  obtain ⟨o3, h⟩ := h
  refine G_if_eq (tgt := 16) (by decide) o3 (ck dc186 (i := 4) rfl) (fun c => ?_) (fun c => ?_)
  · replace h := h.1 c
    refine G_iconst (ck dc186 (i := 8) rfl) ?_
    exact H_iretI mf186 (ck dc186 (i := 9) rfl) rfl h
  · replace h := h.2 c
    refine G_iload_n 3 rfl rfl (ck dc186 (i := 5) rfl) ?_
    refine H_sZ mf186 (As := [.inl a3]) (st := []) (ck dc186 (i := 6) rfl) lk_Model_121 rfl rfl (Nat.le_of_ble_eq_true rfl) ⟨Nat.le_refl _, Nat.le_refl _⟩ h (fun r4 M5 h => ?_)
    obtain ⟨o6, h⟩ := h
    refine G_if_ne (tgt := 18) (by decide) o6 (ck dc186 (i := 7) rfl) (fun c => ?_) (fun c => ?_)
    · replace h := h.1 c
      refine G_iload 4 rfl (ck dc186 (i := 10) rfl) ?_
      refine G_iconst (ck dc186 (i := 11) rfl) ?_
      obtain ⟨o7, h⟩ := h
      refine G_icmp_ge (tgt := 27) (by decide) o7 (by decide) (ck dc186 (i := 12) rfl) (fun c => ?_) (fun c => ?_)
      · replace h := h.1 c
        refine G_aload_n 0 rfl rfl (ck dc186 (i := 15) rfl) ?_
        refine G_iload_n 1 rfl rfl (ck dc186 (i := 16) rfl) ?_
        refine G_iload_n 2 rfl rfl (ck dc186 (i := 17) rfl) ?_
        refine G_iload_n 3 rfl rfl (ck dc186 (i := 18) rfl) ?_
        refine H_vI mf186 (As := [.inl a1, .inl a2, .inl a3]) (st := []) (ck dc186 (i := 19) rfl) lk_Model_103 rfl rfl (Nat.le_of_ble_eq_true rfl) ly52 ra52 ⟨Nat.le_refl _, Nat.le_refl _⟩ h (fun r8 M9 h => ?_)
        refine G_iload 4 rfl (ck dc186 (i := 20) rfl) ?_
        obtain ⟨o10, h⟩ := h
        refine G_icmp_lt (tgt := 52) (by decide) o10 o7 (ck dc186 (i := 21) rfl) (fun c => ?_) (fun c => ?_)
        · replace h := h.1 c
          refine G_bipush (n := (-3)) rfl (ck dc186 (i := 30) rfl) ?_
          exact H_iretI mf186 (ck dc186 (i := 31) rfl) rfl h
        · replace h := h.2 c
          refine G_aload_n 0 rfl rfl (ck dc186 (i := 22) rfl) ?_
          refine H_getR mf186 (ck dc186 (i := 23) rfl) fw_Model_5 fc11_3 ly52 ra52 rf52_3 (by decide) ?_
          refine G_iconst (ck dc186 (i := 24) rfl) ?_
          refine G_iload_n 1 rfl rfl (ck dc186 (i := 25) rfl) ?_
          refine G_iadd (ck dc186 (i := 26) rfl) ?_
          obtain ⟨o11, h⟩ := h
          refine H_iald (ck dc186 (i := 27) rfl) ly55 (by decide) ra55 o11 (x := (M9 55 (3 + a1))) rfl ?_
          refine G_iload 4 rfl (ck dc186 (i := 28) rfl) ?_
          obtain ⟨o12, h⟩ := h
          refine G_icmp_ge (tgt := 55) (by decide) o12 o7 (ck dc186 (i := 29) rfl) (fun c => ?_) (fun c => ?_)
          · replace h := h.1 c
            refine G_aload_n 0 rfl rfl (ck dc186 (i := 32) rfl) ?_
            refine H_getR mf186 (ck dc186 (i := 33) rfl) fw_Model_5 fc11_3 ly52 ra52 rf52_3 (by decide) ?_
            refine G_iconst (ck dc186 (i := 34) rfl) ?_
            refine G_iload_n 2 rfl rfl (ck dc186 (i := 35) rfl) ?_
            refine G_iadd (ck dc186 (i := 36) rfl) ?_
            obtain ⟨o13, h⟩ := h
            refine H_iald (ck dc186 (i := 37) rfl) ly55 (by decide) ra55 o13 (x := (M9 55 (3 + a2))) rfl ?_
            refine G_sipush (n := 200) rfl (ck dc186 (i := 38) rfl) ?_
            refine G_iload 4 rfl (ck dc186 (i := 39) rfl) ?_
            refine G_isub (ck dc186 (i := 40) rfl) ?_
            obtain ⟨o14, h⟩ := h
            obtain ⟨o15, h⟩ := h
            refine G_icmp_le (tgt := 75) (by decide) o14 o15 (ck dc186 (i := 41) rfl) (fun c => ?_) (fun c => ?_)
            · replace h := h.1 c
              refine G_aload_n 0 rfl rfl (ck dc186 (i := 44) rfl) ?_
              refine G_iload_n 1 rfl rfl (ck dc186 (i := 45) rfl) ?_
              refine G_iload_n 2 rfl rfl (ck dc186 (i := 46) rfl) ?_
              refine G_iload_n 3 rfl rfl (ck dc186 (i := 47) rfl) ?_
              refine H_sI mf186 (As := [.inl a1, .inl a2, .inl a3]) (st := [.inr (.inr 52)]) (ck dc186 (i := 48) rfl) lk_Model_99 rfl rfl (Nat.le_of_ble_eq_true rfl) ⟨Nat.le_refl _, Nat.le_refl _⟩ h (fun r16 M17 h => ?_)
              refine G_aload_n 0 rfl rfl (ck dc186 (i := 49) rfl) ?_
              refine G_iload_n 1 rfl rfl (ck dc186 (i := 50) rfl) ?_
              refine G_iload_n 2 rfl rfl (ck dc186 (i := 51) rfl) ?_
              refine G_iload_n 3 rfl rfl (ck dc186 (i := 52) rfl) ?_
              refine H_vI mf186 (As := [.inl a1, .inl a2, .inl a3]) (st := [.inl r16, .inr (.inr 52)]) (ck dc186 (i := 53) rfl) lk_Model_103 rfl rfl (Nat.le_of_ble_eq_true rfl) ly52 ra52 ⟨Nat.le_refl _, Nat.le_refl _⟩ h (fun r18 M19 h => ?_)
              refine G_iload 4 rfl (ck dc186 (i := 54) rfl) ?_
              refine G_isub (ck dc186 (i := 55) rfl) ?_
              refine H_vI mf186 (As := [.inl r16, .inl (r18 - a4)]) (st := []) (ck dc186 (i := 56) rfl) lk_Model_114 rfl rfl (Nat.le_of_ble_eq_true rfl) ly52 ra52 ⟨Nat.le_refl _, Nat.le_refl _⟩ h (fun r20 M21 h => ?_)
              refine G_pop rfl (ck dc186 (i := 57) rfl) ?_
              refine G_aload_n 0 rfl rfl (ck dc186 (i := 58) rfl) ?_
              refine G_iconst (ck dc186 (i := 59) rfl) ?_
              refine G_iload_n 1 rfl rfl (ck dc186 (i := 60) rfl) ?_
              refine G_iadd (ck dc186 (i := 61) rfl) ?_
              refine G_aload_n 0 rfl rfl (ck dc186 (i := 62) rfl) ?_
              refine H_getR mf186 (ck dc186 (i := 63) rfl) fw_Model_5 fc11_3 ly52 ra52 rf52_3 (by decide) ?_
              refine G_iconst (ck dc186 (i := 64) rfl) ?_
              refine G_iload_n 1 rfl rfl (ck dc186 (i := 65) rfl) ?_
              refine G_iadd (ck dc186 (i := 66) rfl) ?_
              refine H_iald (ck dc186 (i := 67) rfl) ly55 (by decide) ra55 o11 (x := (M21 55 (3 + a1))) rfl ?_
              refine G_iload 4 rfl (ck dc186 (i := 68) rfl) ?_
              refine G_isub (ck dc186 (i := 69) rfl) ?_
              refine H_vI mf186 (As := [.inl (3 + a1), .inl ((M21 55 (3 + a1)) - a4)]) (st := []) (ck dc186 (i := 70) rfl) lk_Model_114 rfl rfl (Nat.le_of_ble_eq_true rfl) ly52 ra52 ⟨Nat.le_refl _, Nat.le_refl _⟩ h (fun r22 M23 h => ?_)
              refine G_pop rfl (ck dc186 (i := 71) rfl) ?_
              refine G_aload_n 0 rfl rfl (ck dc186 (i := 72) rfl) ?_
              refine G_iconst (ck dc186 (i := 73) rfl) ?_
              refine G_iload_n 2 rfl rfl (ck dc186 (i := 74) rfl) ?_
              refine G_iadd (ck dc186 (i := 75) rfl) ?_
              refine G_aload_n 0 rfl rfl (ck dc186 (i := 76) rfl) ?_
              refine H_getR mf186 (ck dc186 (i := 77) rfl) fw_Model_5 fc11_3 ly52 ra52 rf52_3 (by decide) ?_
              refine G_iconst (ck dc186 (i := 78) rfl) ?_
              refine G_iload_n 2 rfl rfl (ck dc186 (i := 79) rfl) ?_
              refine G_iadd (ck dc186 (i := 80) rfl) ?_
              refine H_iald (ck dc186 (i := 81) rfl) ly55 (by decide) ra55 o13 (x := (M23 55 (3 + a2))) rfl ?_
              refine G_iload 4 rfl (ck dc186 (i := 82) rfl) ?_
              refine G_iadd (ck dc186 (i := 83) rfl) ?_
              refine H_vI mf186 (As := [.inl (3 + a2), .inl ((M23 55 (3 + a2)) + a4)]) (st := []) (ck dc186 (i := 84) rfl) lk_Model_114 rfl rfl (Nat.le_of_ble_eq_true rfl) ly52 ra52 ⟨Nat.le_refl _, Nat.le_refl _⟩ h (fun r24 M25 h => ?_)
              refine G_pop rfl (ck dc186 (i := 85) rfl) ?_
              refine G_iconst (ck dc186 (i := 86) rfl) ?_
              exact H_iretI mf186 (ck dc186 (i := 87) rfl) rfl h
            · replace h := h.2 c
              refine G_bipush (n := (-4)) rfl (ck dc186 (i := 42) rfl) ?_
              exact H_iretI mf186 (ck dc186 (i := 43) rfl) rfl h
          · replace h := h.2 c
            refine G_bipush (n := (-3)) rfl (ck dc186 (i := 30) rfl) ?_
            exact H_iretI mf186 (ck dc186 (i := 31) rfl) rfl h
      · replace h := h.2 c
        refine G_bipush (n := (-2)) rfl (ck dc186 (i := 13) rfl) ?_
        exact H_iretI mf186 (ck dc186 (i := 14) rfl) rfl h
    · replace h := h.2 c
      refine G_iconst (ck dc186 (i := 8) rfl) ?_
      exact H_iretI mf186 (ck dc186 (i := 9) rfl) rfl h
theorem c_m_feed (K : Nat) (a1 : Int) (M : PM) (Q : Option PV → PM → Prop)
    (h : R32 a1 ∧ Call K jModel_within [.inr (.inl a1), .inr (.inl 1), .inr (.inl 127)] P0 P0 M (retI fun r2 M3 => R32 r2 ∧ (¬ r2 = 0 → R32 (M3 52 6) ∧ (¬ (M3 52 6) = 120 → (0 ≤ (M3 52 6) ∧ (M3 52 6) < 120) ∧ Q (some (.inl ((M3 52 6) + 1))) (mset (mset M3 56 (M3 52 6) a1) 52 6 ((M3 52 6) + 1))) ∧ ((M3 52 6) = 120 → Q (some (.inl (-4))) M3)) ∧ (r2 = 0 → Q (some (.inl (-2))) M3))) : Call (K + 1) jModel_feed [.inr (.inr 52), .inl a1] P0 P0 M Q := by
  refine Call.intro (by decide +kernel) (mfx.le mf187 (Nat.le_of_ble_eq_true rfl)) (Nat.le_refl _) rfl ?_
  refine G_iload_n 1 rfl rfl (ck dc187 (i := 0) rfl) ?_
  obtain ⟨o1, h⟩ := h
  refine G_i2l o1 (ck dc187 (i := 1) rfl) ?_
  refine G_lconst (v := 1) rfl (ck dc187 (i := 2) rfl) ?_
  refine H_ldc2 mf187 (v := 127) (ck dc187 (i := 3) rfl) kl_Model_126 ?_
  refine H_sZ mf187 (As := [.inr (.inl a1), .inr (.inl 1), .inr (.inl 127)]) (st := []) (ck dc187 (i := 4) rfl) lk_Model_9 rfl rfl (Nat.le_of_ble_eq_true rfl) ⟨Nat.le_refl _, Nat.le_refl _⟩ h (fun r2 M3 h => ?_)
  obtain ⟨o4, h⟩ := h
  refine G_if_ne (tgt := 15) (by decide) o4 (ck dc187 (i := 5) rfl) (fun c => ?_) (fun c => ?_)
  · replace h := h.1 c
    refine G_aload_n 0 rfl rfl (ck dc187 (i := 8) rfl) ?_
    refine H_getI mf187 (ck dc187 (i := 9) rfl) fw_Model_128 (Or.inl fc11_6) ly52 ra52 (x := (M3 52 6)) rfl ?_
    refine G_bipush (n := 120) rfl (ck dc187 (i := 10) rfl) ?_
    obtain ⟨o5, h⟩ := h
    refine G_icmp_ne (tgt := 27) (by decide) o5 (by decide) (ck dc187 (i := 11) rfl) (fun c => ?_) (fun c => ?_)
    · replace h := h.1 c
      refine G_aload_n 0 rfl rfl (ck dc187 (i := 14) rfl) ?_
      refine H_getR mf187 (ck dc187 (i := 15) rfl) fw_Model_32 fc11_5 ly52 ra52 rf52_5 (by decide) ?_
      refine G_aload_n 0 rfl rfl (ck dc187 (i := 16) rfl) ?_
      refine H_getI mf187 (ck dc187 (i := 17) rfl) fw_Model_128 (Or.inl fc11_6) ly52 ra52 (x := (M3 52 6)) rfl ?_
      refine G_iload_n 1 rfl rfl (ck dc187 (i := 18) rfl) ?_
      obtain ⟨o6, h⟩ := h
      refine G_iast (ck dc187 (i := 19) rfl) ra56 ly56 (by decide) o6 ?_
      refine G_aload_n 0 rfl rfl (ck dc187 (i := 20) rfl) ?_
      refine G_dup rfl (ck dc187 (i := 21) rfl) ?_
      refine H_getI mf187 (ck dc187 (i := 22) rfl) fw_Model_128 (Or.inl fc11_6) ly52 ra52 (x := (M3 52 6)) (by simp [mset, mcpy, mclr]) ?_
      refine G_iconst (ck dc187 (i := 23) rfl) ?_
      refine G_iadd (ck dc187 (i := 24) rfl) ?_
      refine H_putI mf187 (ck dc187 (i := 25) rfl) fw_Model_128 fc11_6 ly52 ra52 (Or.inl rfl) ?_
      refine G_aload_n 0 rfl rfl (ck dc187 (i := 26) rfl) ?_
      refine H_getI mf187 (ck dc187 (i := 27) rfl) fw_Model_128 (Or.inl fc11_6) ly52 ra52 (x := ((M3 52 6) + 1)) (by simp [mset, mcpy]) ?_
      exact H_iretI mf187 (ck dc187 (i := 28) rfl) rfl h
    · replace h := h.2 c
      refine G_bipush (n := (-4)) rfl (ck dc187 (i := 12) rfl) ?_
      exact H_iretI mf187 (ck dc187 (i := 13) rfl) rfl h
  · replace h := h.2 c
    refine G_bipush (n := (-2)) rfl (ck dc187 (i := 6) rfl) ?_
    exact H_iretI mf187 (ck dc187 (i := 7) rfl) rfl h
theorem c_m_clear (K : Nat) (M : PM) (Q : Option PV → PM → Prop)
    (h : Q (some (.inl (M 52 6))) (mset M 52 6 0)) : Call (K + 1) jModel_clear [.inr (.inr 52)] P0 P0 M Q := by
  refine Call.intro (by decide +kernel) (mfx.le mf188 (Nat.le_of_ble_eq_true rfl)) (Nat.le_refl _) rfl ?_
  refine G_aload_n 0 rfl rfl (ck dc188 (i := 0) rfl) ?_
  refine H_getI mf188 (ck dc188 (i := 1) rfl) fw_Model_128 (Or.inl fc11_6) ly52 ra52 (x := (M 52 6)) rfl ?_
  refine G_istore_n (L' := [(1, .inl (M 52 6)), (0, .inr (.inr 52))]) rfl (mfx.lt mf188 (Nat.le_of_ble_eq_true rfl)) rfl (ck dc188 (i := 2) rfl) ?_
  refine G_aload_n 1 rfl rfl (ck dc188 (i := 3) rfl) ?_
  refine G_iconst (ck dc188 (i := 4) rfl) ?_
  refine H_putI mf188 (ck dc188 (i := 5) rfl) fw_Model_128 fc11_6 ly52 ra52 (Or.inl rfl) ?_
  refine G_iload_n 0 rfl rfl (ck dc188 (i := 6) rfl) ?_
  exact H_iretI mf188 (ck dc188 (i := 7) rfl) rfl h
theorem c_m_peek (K : Nat) (M : PM) (Q : Option PV → PM → Prop)
    (h : R32 (M 52 7) ∧ R32 (M 52 6) ∧ ((M 52 6) ≤ (M 52 7) → Q (some (.inl 0)) M) ∧ (¬ (M 52 6) ≤ (M 52 7) → (0 ≤ (M 52 7) ∧ (M 52 7) < 120) ∧ Q (some (.inl (M 56 (M 52 7)))) M)) : Call (K + 1) jModel_peek [.inr (.inr 52)] P0 P0 M Q := by
  refine Call.intro (by decide +kernel) (mfx.le mf192 (Nat.le_of_ble_eq_true rfl)) (Nat.le_refl _) rfl ?_
  refine G_aload_n 0 rfl rfl (ck dc192 (i := 0) rfl) ?_
  refine H_getI mf192 (ck dc192 (i := 1) rfl) fw_Model_132 (Or.inl fc11_7) ly52 ra52 (x := (M 52 7)) rfl ?_
  refine G_aload_n 0 rfl rfl (ck dc192 (i := 2) rfl) ?_
  refine H_getI mf192 (ck dc192 (i := 3) rfl) fw_Model_128 (Or.inl fc11_6) ly52 ra52 (x := (M 52 6)) rfl ?_
  obtain ⟨o1, h⟩ := h
  obtain ⟨o2, h⟩ := h
  refine G_icmp_ge (tgt := 23) (by decide) o1 o2 (ck dc192 (i := 4) rfl) (fun c => ?_) (fun c => ?_)
  · replace h := h.1 c
    refine G_iconst (ck dc192 (i := 11) rfl) ?_
    exact H_iretI mf192 (ck dc192 (i := 12) rfl) rfl h
  · replace h := h.2 c
    refine G_aload_n 0 rfl rfl (ck dc192 (i := 5) rfl) ?_
    refine H_getR mf192 (ck dc192 (i := 6) rfl) fw_Model_32 fc11_5 ly52 ra52 rf52_5 (by decide) ?_
    refine G_aload_n 0 rfl rfl (ck dc192 (i := 7) rfl) ?_
    refine H_getI mf192 (ck dc192 (i := 8) rfl) fw_Model_132 (Or.inl fc11_7) ly52 ra52 (x := (M 52 7)) rfl ?_
    obtain ⟨o3, h⟩ := h
    refine H_iald (ck dc192 (i := 9) rfl) ly56 (by decide) ra56 o3 (x := (M 56 (M 52 7))) rfl ?_
    refine G_goto (tgt := 24) (by decide) (ck dc192 (i := 10) rfl) ?_
    exact H_iretI mf192 (ck dc192 (i := 12) rfl) rfl h
theorem c_m_readsNumber (K : Nat) (a1 a2 : Int) (M : PM) (Q : Option PV → PM → Prop)
    (h : G none (K + 1) jModel_readsNumber 8 [(0, .inr (.inr 52)), (1, .inl a1), (2, .inl a2), (3, .inl (M 52 7)), (4, .inl 0)] [] P0 P0 M Q) : Call (K + 1) jModel_readsNumber [.inr (.inr 52), .inl a1, .inl a2] P0 P0 M Q := by
  refine Call.intro (by decide +kernel) (mfx.le mf193 (Nat.le_of_ble_eq_true rfl)) (Nat.le_refl _) rfl ?_
  refine G_aload_n 0 rfl rfl (ck dc193 (i := 0) rfl) ?_
  refine H_getI mf193 (ck dc193 (i := 1) rfl) fw_Model_132 (Or.inl fc11_7) ly52 ra52 (x := (M 52 7)) rfl ?_
  refine G_istore_n (L' := [(3, .inl (M 52 7)), (0, .inr (.inr 52)), (1, .inl a1), (2, .inl a2)]) rfl (mfx.lt mf193 (Nat.le_of_ble_eq_true rfl)) rfl (ck dc193 (i := 2) rfl) ?_
  refine G_iconst (ck dc193 (i := 3) rfl) ?_
  refine G_istore (L' := [(4, .inl 0), (3, .inl (M 52 7)), (0, .inr (.inr 52)), (1, .inl a1), (2, .inl a2)]) (mfx.lt mf193 (Nat.le_of_ble_eq_true rfl)) rfl (ck dc193 (i := 4) rfl) ?_
  exact G_sub [2, 3, 4, 1, 0] rfl h
set_option maxHeartbeats 20000000 in
theorem g_m_readsNumber_8 (K : Nat) (l1 l2 l3 l4 : Int) (M : PM) (Q : Option PV → PM → Prop)
    (h : R32 (M 52 7) ∧ R32 (l3 + l1) ∧ ((l3 + l1) ≤ (M 52 7) → R32 l3 ∧ (¬ (M 52 7) = l3 → R32 l4 ∧ R32 l2 ∧ (l4 ≤ l2 → Q (some (.inl l4)) M) ∧ (¬ l4 ≤ l2 → Q (some (.inl ((-100) - l3))) M)) ∧ ((M 52 7) = l3 → Q (some (.inl ((-100) - (M 52 7)))) M)) ∧ (¬ (l3 + l1) ≤ (M 52 7) → Call K jModel_peek [.inr (.inr 52)] P0 P0 M (retI fun r6 M7 => R32 r6 ∧ Call K jModel_within [.inr (.inl r6), .inr (.inl 48), .inr (.inl 57)] P0 P0 M7 (retI fun r9 M10 => R32 r9 ∧ (r9 = 0 → R32 (M10 52 7) ∧ R32 l3 ∧ (¬ (M10 52 7) = l3 → R32 l4 ∧ R32 l2 ∧ (l4 ≤ l2 → Q (some (.inl l4)) M10) ∧ (¬ l4 ≤ l2 → Q (some (.inl ((-100) - l3))) M10)) ∧ ((M10 52 7) = l3 → Q (some (.inl ((-100) - (M10 52 7)))) M10)) ∧ (¬ r9 = 0 → Call K jModel_peek [.inr (.inr 52)] P0 P0 M10 (retI fun r16 M17 => G none (K + 1) jModel_readsNumber 8 [(0, .inr (.inr 52)), (1, .inl l1), (2, .inl l2), (3, .inl l3), (4, .inl (((10 * l4) + r16) - 48))] [] P0 P0 (mset M17 52 7 ((M17 52 7) + 1)) Q)))))) : G none (K + 1) jModel_readsNumber 8 [(0, .inr (.inr 52)), (1, .inl l1), (2, .inl l2), (3, .inl l3), (4, .inl l4)] [] P0 P0 M Q := by
  refine G_aload_n 0 rfl rfl (ck dc193 (i := 5) rfl) ?_
  refine H_getI mf193 (ck dc193 (i := 6) rfl) fw_Model_132 (Or.inl fc11_7) ly52 ra52 (x := (M 52 7)) rfl ?_
  refine G_iload_n 3 rfl rfl (ck dc193 (i := 7) rfl) ?_
  refine G_iload_n 1 rfl rfl (ck dc193 (i := 8) rfl) ?_
  refine G_iadd (ck dc193 (i := 9) rfl) ?_
  obtain ⟨o1, h⟩ := h
  obtain ⟨o2, h⟩ := h
  refine G_icmp_ge (tgt := 63) (by decide) o1 o2 (ck dc193 (i := 10) rfl) (fun c => ?_) (fun c => ?_)
  · replace h := h.1 c
    refine G_aload_n 0 rfl rfl (ck dc193 (i := 34) rfl) ?_
    refine H_getI mf193 (ck dc193 (i := 35) rfl) fw_Model_132 (Or.inl fc11_7) ly52 ra52 (x := (M 52 7)) rfl ?_
    refine G_iload_n 3 rfl rfl (ck dc193 (i := 36) rfl) ?_
    obtain ⟨o3, h⟩ := h
    refine G_icmp_ne (tgt := 79) (by decide) o1 o3 (ck dc193 (i := 37) rfl) (fun c => ?_) (fun c => ?_)
    · replace h := h.1 c
      refine G_iload 4 rfl (ck dc193 (i := 43) rfl) ?_
      refine G_iload_n 2 rfl rfl (ck dc193 (i := 44) rfl) ?_
      obtain ⟨o4, h⟩ := h
      obtain ⟨o5, h⟩ := h
      refine G_icmp_le (tgt := 92) (by decide) o4 o5 (ck dc193 (i := 45) rfl) (fun c => ?_) (fun c => ?_)
      · replace h := h.1 c
        refine G_iload 4 rfl (ck dc193 (i := 50) rfl) ?_
        exact H_iretI mf193 (ck dc193 (i := 51) rfl) rfl h
      · replace h := h.2 c
        refine G_bipush (n := (-100)) rfl (ck dc193 (i := 46) rfl) ?_
        refine G_iload_n 3 rfl rfl (ck dc193 (i := 47) rfl) ?_
        refine G_isub (ck dc193 (i := 48) rfl) ?_
        refine G_goto (tgt := 94) (by decide) (ck dc193 (i := 49) rfl) ?_
        exact H_iretI mf193 (ck dc193 (i := 51) rfl) rfl h
    · replace h := h.2 c
      refine G_bipush (n := (-100)) rfl (ck dc193 (i := 38) rfl) ?_
      refine G_aload_n 0 rfl rfl (ck dc193 (i := 39) rfl) ?_
      refine H_getI mf193 (ck dc193 (i := 40) rfl) fw_Model_132 (Or.inl fc11_7) ly52 ra52 (x := (M 52 7)) rfl ?_
      refine G_isub (ck dc193 (i := 41) rfl) ?_
      exact H_iretI mf193 (ck dc193 (i := 42) rfl) rfl h
  · replace h := h.2 c
    refine G_aload_n 0 rfl rfl (ck dc193 (i := 11) rfl) ?_
    refine H_vI mf193 (As := []) (st := []) (ck dc193 (i := 12) rfl) lk_Model_135 rfl rfl (Nat.le_of_ble_eq_true rfl) ly52 ra52 ⟨Nat.le_refl _, Nat.le_refl _⟩ h (fun r6 M7 h => ?_)
    obtain ⟨o8, h⟩ := h
    refine G_i2l o8 (ck dc193 (i := 13) rfl) ?_
    refine H_ldc2 mf193 (v := 48) (ck dc193 (i := 14) rfl) kl_Model_139 ?_
    refine H_ldc2 mf193 (v := 57) (ck dc193 (i := 15) rfl) kl_Model_141 ?_
    refine H_sZ mf193 (As := [.inr (.inl r6), .inr (.inl 48), .inr (.inl 57)]) (st := []) (ck dc193 (i := 16) rfl) lk_Model_9 rfl rfl (Nat.le_of_ble_eq_true rfl) ⟨Nat.le_refl _, Nat.le_refl _⟩ h (fun r9 M10 h => ?_)
    obtain ⟨o11, h⟩ := h
    refine G_if_eq (tgt := 63) (by decide) o11 (ck dc193 (i := 17) rfl) (fun c => ?_) (fun c => ?_)
    · replace h := h.1 c
      refine G_aload_n 0 rfl rfl (ck dc193 (i := 34) rfl) ?_
      refine H_getI mf193 (ck dc193 (i := 35) rfl) fw_Model_132 (Or.inl fc11_7) ly52 ra52 (x := (M10 52 7)) rfl ?_
      refine G_iload_n 3 rfl rfl (ck dc193 (i := 36) rfl) ?_
      obtain ⟨o12, h⟩ := h
      obtain ⟨o13, h⟩ := h
      refine G_icmp_ne (tgt := 79) (by decide) o12 o13 (ck dc193 (i := 37) rfl) (fun c => ?_) (fun c => ?_)
      · replace h := h.1 c
        refine G_iload 4 rfl (ck dc193 (i := 43) rfl) ?_
        refine G_iload_n 2 rfl rfl (ck dc193 (i := 44) rfl) ?_
        obtain ⟨o14, h⟩ := h
        obtain ⟨o15, h⟩ := h
        refine G_icmp_le (tgt := 92) (by decide) o14 o15 (ck dc193 (i := 45) rfl) (fun c => ?_) (fun c => ?_)
        · replace h := h.1 c
          refine G_iload 4 rfl (ck dc193 (i := 50) rfl) ?_
          exact H_iretI mf193 (ck dc193 (i := 51) rfl) rfl h
        · replace h := h.2 c
          refine G_bipush (n := (-100)) rfl (ck dc193 (i := 46) rfl) ?_
          refine G_iload_n 3 rfl rfl (ck dc193 (i := 47) rfl) ?_
          refine G_isub (ck dc193 (i := 48) rfl) ?_
          refine G_goto (tgt := 94) (by decide) (ck dc193 (i := 49) rfl) ?_
          exact H_iretI mf193 (ck dc193 (i := 51) rfl) rfl h
      · replace h := h.2 c
        refine G_bipush (n := (-100)) rfl (ck dc193 (i := 38) rfl) ?_
        refine G_aload_n 0 rfl rfl (ck dc193 (i := 39) rfl) ?_
        refine H_getI mf193 (ck dc193 (i := 40) rfl) fw_Model_132 (Or.inl fc11_7) ly52 ra52 (x := (M10 52 7)) rfl ?_
        refine G_isub (ck dc193 (i := 41) rfl) ?_
        exact H_iretI mf193 (ck dc193 (i := 42) rfl) rfl h
    · replace h := h.2 c
      refine G_bipush (n := 10) rfl (ck dc193 (i := 18) rfl) ?_
      refine G_iload 4 rfl (ck dc193 (i := 19) rfl) ?_
      refine G_imul (ck dc193 (i := 20) rfl) ?_
      refine G_aload_n 0 rfl rfl (ck dc193 (i := 21) rfl) ?_
      refine H_vI mf193 (As := []) (st := [.inl (10 * l4)]) (ck dc193 (i := 22) rfl) lk_Model_135 rfl rfl (Nat.le_of_ble_eq_true rfl) ly52 ra52 ⟨Nat.le_refl _, Nat.le_refl _⟩ h (fun r16 M17 h => ?_)
      refine G_iadd (ck dc193 (i := 23) rfl) ?_
      refine G_bipush (n := 48) rfl (ck dc193 (i := 24) rfl) ?_
      refine G_isub (ck dc193 (i := 25) rfl) ?_
      refine G_istore (L' := [(4, .inl (((10 * l4) + r16) - 48)), (0, .inr (.inr 52)), (1, .inl l1), (2, .inl l2), (3, .inl l3)]) (mfx.lt mf193 (Nat.le_of_ble_eq_true rfl)) rfl (ck dc193 (i := 26) rfl) ?_
      refine G_aload_n 1 rfl rfl (ck dc193 (i := 27) rfl) ?_
      refine G_dup rfl (ck dc193 (i := 28) rfl) ?_
      refine H_getI mf193 (ck dc193 (i := 29) rfl) fw_Model_132 (Or.inl fc11_7) ly52 ra52 (x := (M17 52 7)) rfl ?_
      refine G_iconst (ck dc193 (i := 30) rfl) ?_
      refine G_iadd (ck dc193 (i := 31) rfl) ?_
      refine H_putI mf193 (ck dc193 (i := 32) rfl) fw_Model_132 fc11_7 ly52 ra52 (Or.inl rfl) ?_
      refine G_goto (tgt := 8) (by decide) (ck dc193 (i := 33) rfl) ?_
      exact G_sub [1, 2, 3, 4, 0] rfl h
theorem c_m_readsPart (K : Nat) (a1 : Int) (M : PM) (Q : Option PV → PM → Prop)
    (h : Call K jModel_peek [.inr (.inr 52)] P0 P0 M (retI fun r1 M2 => Call K jModel_isHouse [.inr (.inr 52), .inl (r1 - 97)] P0 P0 M2 (retI fun r3 M4 => R32 r3 ∧ (¬ r3 = 0 → Call K jModel_peek [.inr (.inr 52)] P0 P0 (mset M4 52 7 ((M4 52 7) + 1)) (retI fun r6 M7 => R32 r6 ∧ (r6 = 61 → G none (K + 1) jModel_readsPart 139 [(0, .inr (.inr 52)), (1, .inl a1), (3, .inl (3 + (r1 - 97)))] [] P0 P0 M7 Q) ∧ (¬ r6 = 61 → G none (K + 1) jModel_readsPart 50 [(0, .inr (.inr 52)), (1, .inl a1), (2, .inl (r1 - 97)), (4, .inl 0)] [] P0 P0 M7 Q))) ∧ (r3 = 0 → Q (some (.inl ((-100) - (M4 52 7)))) M4)))) : Call (K + 1) jModel_readsPart [.inr (.inr 52), .inl a1] P0 P0 M Q := by
  refine Call.intro (by decide +kernel) (mfx.le mf191 (Nat.le_of_ble_eq_true rfl)) (Nat.le_refl _) rfl ?_
  refine G_aload_n 0 rfl rfl (ck dc191 (i := 0) rfl) ?_
  refine H_vI mf191 (As := []) (st := []) (ck dc191 (i := 1) rfl) lk_Model_135 rfl rfl (Nat.le_of_ble_eq_true rfl) ly52 ra52 ⟨Nat.le_refl _, Nat.le_refl _⟩ h (fun r1 M2 h => ?_)
  refine G_bipush (n := 97) rfl (ck dc191 (i := 2) rfl) ?_
  refine G_isub (ck dc191 (i := 3) rfl) ?_
  refine G_istore_n (L' := [(2, .inl (r1 - 97)), (0, .inr (.inr 52)), (1, .inl a1)]) rfl (mfx.lt mf191 (Nat.le_of_ble_eq_true rfl)) rfl (ck dc191 (i := 4) rfl) ?_
  refine G_aload_n 1 rfl rfl (ck dc191 (i := 5) rfl) ?_
  refine G_iload_n 0 rfl rfl (ck dc191 (i := 6) rfl) ?_
  refine H_vZ mf191 (As := [.inl (r1 - 97)]) (st := []) (ck dc191 (i := 7) rfl) lk_Model_13 rfl rfl (Nat.le_of_ble_eq_true rfl) ly52 ra52 ⟨Nat.le_refl _, Nat.le_refl _⟩ h (fun r3 M4 h => ?_)
  obtain ⟨o5, h⟩ := h
  refine G_if_ne (tgt := 24) (by decide) o5 (ck dc191 (i := 8) rfl) (fun c => ?_) (fun c => ?_)
  · replace h := h.1 c
    refine G_aload_n 1 rfl rfl (ck dc191 (i := 14) rfl) ?_
    refine G_dup rfl (ck dc191 (i := 15) rfl) ?_
    refine H_getI mf191 (ck dc191 (i := 16) rfl) fw_Model_132 (Or.inl fc11_7) ly52 ra52 (x := (M4 52 7)) rfl ?_
    refine G_iconst (ck dc191 (i := 17) rfl) ?_
    refine G_iadd (ck dc191 (i := 18) rfl) ?_
    refine H_putI mf191 (ck dc191 (i := 19) rfl) fw_Model_132 fc11_7 ly52 ra52 (Or.inl rfl) ?_
    refine G_iconst (ck dc191 (i := 20) rfl) ?_
    refine G_iload_n 0 rfl rfl (ck dc191 (i := 21) rfl) ?_
    refine G_iadd (ck dc191 (i := 22) rfl) ?_
    refine G_istore_n (L' := [(3, .inl (3 + (r1 - 97))), (2, .inl (r1 - 97)), (0, .inr (.inr 52)), (1, .inl a1)]) rfl (mfx.lt mf191 (Nat.le_of_ble_eq_true rfl)) rfl (ck dc191 (i := 23) rfl) ?_
    refine G_aload_n 2 rfl rfl (ck dc191 (i := 24) rfl) ?_
    refine H_vI mf191 (As := []) (st := []) (ck dc191 (i := 25) rfl) lk_Model_135 rfl rfl (Nat.le_of_ble_eq_true rfl) ly52 ra52 ⟨Nat.le_refl _, Nat.le_refl _⟩ h (fun r6 M7 h => ?_)
    refine G_bipush (n := 61) rfl (ck dc191 (i := 26) rfl) ?_
    obtain ⟨o8, h⟩ := h
    refine G_icmp_eq (tgt := 139) (by decide) o8 (by decide) (ck dc191 (i := 27) rfl) (fun c => ?_) (fun c => ?_)
    · replace h := h.1 c
      exact G_sub [2, 3, 0] rfl h
    · replace h := h.2 c
      refine G_iconst (ck dc191 (i := 28) rfl) ?_
      refine G_istore (L' := [(4, .inl 0), (3, .inl (3 + (r1 - 97))), (2, .inl (r1 - 97)), (0, .inr (.inr 52)), (1, .inl a1)]) (mfx.lt mf191 (Nat.le_of_ble_eq_true rfl)) rfl (ck dc191 (i := 29) rfl) ?_
      exact G_sub [3, 4, 2, 0] rfl h
  · replace h := h.2 c
    refine G_bipush (n := (-100)) rfl (ck dc191 (i := 9) rfl) ?_
    refine G_aload_n 1 rfl rfl (ck dc191 (i := 10) rfl) ?_
    refine H_getI mf191 (ck dc191 (i := 11) rfl) fw_Model_132 (Or.inl fc11_7) ly52 ra52 (x := (M4 52 7)) rfl ?_
    refine G_isub (ck dc191 (i := 12) rfl) ?_
    exact H_iretI mf191 (ck dc191 (i := 13) rfl) rfl h
theorem g_m_readsPart_50 (K : Nat) (l1 l2 l4 : Int) (M : PM) (Q : Option PV → PM → Prop)
    (h : R32 l4 ∧ (3 ≤ l4 → G none (K + 1) jModel_readsPart 81 [(0, .inr (.inr 52)), (1, .inl l1), (2, .inl l2), (4, .inl l4)] [] P0 P0 M Q) ∧ (¬ 3 ≤ l4 → Call K jModel_peek [.inr (.inr 52)] P0 P0 M (retI fun r2 M3 => R32 r2 ∧ (¬ r2 = 62 → G none (K + 1) jModel_readsPart 81 [(0, .inr (.inr 52)), (1, .inl l1), (2, .inl l2), (4, .inl l4)] [] P0 P0 M3 Q) ∧ (r2 = 62 → G none (K + 1) jModel_readsPart 50 [(0, .inr (.inr 52)), (1, .inl l1), (2, .inl l2), (4, .inl (l4 + 1))] [] P0 P0 (mset M3 52 7 ((M3 52 7) + 1)) Q)))) : G none (K + 1) jModel_readsPart 50 [(0, .inr (.inr 52)), (1, .inl l1), (2, .inl l2), (4, .inl l4)] [] P0 P0 M Q := by
  refine G_iload 3 rfl (ck dc191 (i := 30) rfl) ?_
  refine G_iconst (ck dc191 (i := 31) rfl) ?_
  obtain ⟨o1, h⟩ := h
  refine G_icmp_ge (tgt := 81) (by decide) o1 (by decide) (ck dc191 (i := 32) rfl) (fun c => ?_) (fun c => ?_)
  · replace h := h.1 c
    exact G_sub [0, 1, 2, 3] rfl h
  · replace h := h.2 c
    refine G_aload_n 0 rfl rfl (ck dc191 (i := 33) rfl) ?_
    refine H_vI mf191 (As := []) (st := []) (ck dc191 (i := 34) rfl) lk_Model_135 rfl rfl (Nat.le_of_ble_eq_true rfl) ly52 ra52 ⟨Nat.le_refl _, Nat.le_refl _⟩ h (fun r2 M3 h => ?_)
    refine G_bipush (n := 62) rfl (ck dc191 (i := 35) rfl) ?_
    obtain ⟨o4, h⟩ := h
    refine G_icmp_ne (tgt := 81) (by decide) o4 (by decide) (ck dc191 (i := 36) rfl) (fun c => ?_) (fun c => ?_)
    · replace h := h.1 c
      exact G_sub [0, 1, 2, 3] rfl h
    · replace h := h.2 c
      refine G_iinc (L' := [(4, .inl (l4 + 1)), (0, .inr (.inr 52)), (1, .inl l1), (2, .inl l2)]) 3 rfl (mfx.lt mf191 (Nat.le_of_ble_eq_true rfl)) rfl (ck dc191 (i := 37) rfl) ?_
      refine G_aload_n 1 rfl rfl (ck dc191 (i := 38) rfl) ?_
      refine G_dup rfl (ck dc191 (i := 39) rfl) ?_
      refine H_getI mf191 (ck dc191 (i := 40) rfl) fw_Model_132 (Or.inl fc11_7) ly52 ra52 (x := (M3 52 7)) rfl ?_
      refine G_iconst (ck dc191 (i := 41) rfl) ?_
      refine G_iadd (ck dc191 (i := 42) rfl) ?_
      refine H_putI mf191 (ck dc191 (i := 43) rfl) fw_Model_132 fc11_7 ly52 ra52 (Or.inl rfl) ?_
      refine G_goto (tgt := 50) (by decide) (ck dc191 (i := 44) rfl) ?_
      exact G_sub [1, 2, 3, 0] rfl h
set_option maxHeartbeats 20000000 in
theorem g_m_readsPart_81 (K : Nat) (l1 l2 l4 : Int) (M : PM) (Q : Option PV → PM → Prop)
    (h : Call K jModel_peek [.inr (.inr 52)] P0 P0 M (retI fun r1 M2 => R32 l4 ∧ (l4 = 0 → Q (some (.inl ((-100) - (M2 52 7)))) M2) ∧ (¬ l4 = 0 → Call K jModel_isHouse [.inr (.inr 52), .inl (r1 - 97)] P0 P0 M2 (retI fun r4 M5 => R32 r4 ∧ (r4 = 0 → Q (some (.inl ((-100) - (M5 52 7)))) M5) ∧ (¬ r4 = 0 → R32 (r1 - 97) ∧ R32 l2 ∧ (¬ (r1 - 97) = l2 → Call K jModel_owedAt [.inl l2, .inl (r1 - 97), .inl (l4 - 1)] P0 P0 (mset M5 52 7 ((M5 52 7) + 1)) (retI fun r9 M10 => G none (K + 1) jModel_readsPart 139 [(0, .inr (.inr 52)), (1, .inl l1), (3, .inl r9)] [] P0 P0 M10 Q)) ∧ ((r1 - 97) = l2 → Q (some (.inl ((-100) - (M5 52 7)))) M5)))))) : G none (K + 1) jModel_readsPart 81 [(0, .inr (.inr 52)), (1, .inl l1), (2, .inl l2), (4, .inl l4)] [] P0 P0 M Q := by
  refine G_aload_n 0 rfl rfl (ck dc191 (i := 45) rfl) ?_
  refine H_vI mf191 (As := []) (st := []) (ck dc191 (i := 46) rfl) lk_Model_135 rfl rfl (Nat.le_of_ble_eq_true rfl) ly52 ra52 ⟨Nat.le_refl _, Nat.le_refl _⟩ h (fun r1 M2 h => ?_)
  refine G_bipush (n := 97) rfl (ck dc191 (i := 47) rfl) ?_
  refine G_isub (ck dc191 (i := 48) rfl) ?_
  refine G_istore (L' := [(5, .inl (r1 - 97)), (0, .inr (.inr 52)), (1, .inl l1), (2, .inl l2), (4, .inl l4)]) (mfx.lt mf191 (Nat.le_of_ble_eq_true rfl)) rfl (ck dc191 (i := 49) rfl) ?_
  refine G_iload 4 rfl (ck dc191 (i := 50) rfl) ?_
  obtain ⟨o3, h⟩ := h
  refine G_if_eq (tgt := 110) (by decide) o3 (ck dc191 (i := 51) rfl) (fun c => ?_) (fun c => ?_)
  · replace h := h.1 c
    refine G_bipush (n := (-100)) rfl (ck dc191 (i := 59) rfl) ?_
    refine G_aload_n 1 rfl rfl (ck dc191 (i := 60) rfl) ?_
    refine H_getI mf191 (ck dc191 (i := 61) rfl) fw_Model_132 (Or.inl fc11_7) ly52 ra52 (x := (M2 52 7)) rfl ?_
    refine G_isub (ck dc191 (i := 62) rfl) ?_
    exact H_iretI mf191 (ck dc191 (i := 63) rfl) rfl h
  · replace h := h.2 c
    refine G_aload_n 1 rfl rfl (ck dc191 (i := 52) rfl) ?_
    refine G_iload 0 rfl (ck dc191 (i := 53) rfl) ?_
    refine H_vZ mf191 (As := [.inl (r1 - 97)]) (st := []) (ck dc191 (i := 54) rfl) lk_Model_13 rfl rfl (Nat.le_of_ble_eq_true rfl) ly52 ra52 ⟨Nat.le_refl _, Nat.le_refl _⟩ h (fun r4 M5 h => ?_)
    obtain ⟨o6, h⟩ := h
    refine G_if_eq (tgt := 110) (by decide) o6 (ck dc191 (i := 55) rfl) (fun c => ?_) (fun c => ?_)
    · replace h := h.1 c
      refine G_bipush (n := (-100)) rfl (ck dc191 (i := 59) rfl) ?_
      refine G_aload_n 1 rfl rfl (ck dc191 (i := 60) rfl) ?_
      refine H_getI mf191 (ck dc191 (i := 61) rfl) fw_Model_132 (Or.inl fc11_7) ly52 ra52 (x := (M5 52 7)) rfl ?_
      refine G_isub (ck dc191 (i := 62) rfl) ?_
      exact H_iretI mf191 (ck dc191 (i := 63) rfl) rfl h
    · replace h := h.2 c
      refine G_iload 0 rfl (ck dc191 (i := 56) rfl) ?_
      refine G_iload_n 3 rfl rfl (ck dc191 (i := 57) rfl) ?_
      obtain ⟨o7, h⟩ := h
      obtain ⟨o8, h⟩ := h
      refine G_icmp_ne (tgt := 118) (by decide) o7 o8 (ck dc191 (i := 58) rfl) (fun c => ?_) (fun c => ?_)
      · replace h := h.1 c
        refine G_aload_n 1 rfl rfl (ck dc191 (i := 64) rfl) ?_
        refine G_dup rfl (ck dc191 (i := 65) rfl) ?_
        refine H_getI mf191 (ck dc191 (i := 66) rfl) fw_Model_132 (Or.inl fc11_7) ly52 ra52 (x := (M5 52 7)) rfl ?_
        refine G_iconst (ck dc191 (i := 67) rfl) ?_
        refine G_iadd (ck dc191 (i := 68) rfl) ?_
        refine H_putI mf191 (ck dc191 (i := 69) rfl) fw_Model_132 fc11_7 ly52 ra52 (Or.inl rfl) ?_
        refine G_iload_n 3 rfl rfl (ck dc191 (i := 70) rfl) ?_
        refine G_iload 0 rfl (ck dc191 (i := 71) rfl) ?_
        refine G_iload 4 rfl (ck dc191 (i := 72) rfl) ?_
        refine G_iconst (ck dc191 (i := 73) rfl) ?_
        refine G_isub (ck dc191 (i := 74) rfl) ?_
        refine H_sI mf191 (As := [.inl l2, .inl (r1 - 97), .inl (l4 - 1)]) (st := []) (ck dc191 (i := 75) rfl) lk_Model_99 rfl rfl (Nat.le_of_ble_eq_true rfl) ⟨Nat.le_refl _, Nat.le_refl _⟩ h (fun r9 M10 h => ?_)
        refine G_istore_n (L' := [(3, .inl r9), (5, .inl (r1 - 97)), (0, .inr (.inr 52)), (1, .inl l1), (2, .inl l2), (4, .inl l4)]) rfl (mfx.lt mf191 (Nat.le_of_ble_eq_true rfl)) rfl (ck dc191 (i := 76) rfl) ?_
        exact G_sub [2, 3, 0] rfl h
      · replace h := h.2 c
        refine G_bipush (n := (-100)) rfl (ck dc191 (i := 59) rfl) ?_
        refine G_aload_n 1 rfl rfl (ck dc191 (i := 60) rfl) ?_
        refine H_getI mf191 (ck dc191 (i := 61) rfl) fw_Model_132 (Or.inl fc11_7) ly52 ra52 (x := (M5 52 7)) rfl ?_
        refine G_isub (ck dc191 (i := 62) rfl) ?_
        exact H_iretI mf191 (ck dc191 (i := 63) rfl) rfl h
set_option maxHeartbeats 20000000 in
theorem g_m_readsPart_139 (K : Nat) (l1 l3 : Int) (M : PM) (Q : Option PV → PM → Prop)
    (h : Call K jModel_peek [.inr (.inr 52)] P0 P0 M (retI fun r1 M2 => R32 r1 ∧ (r1 = 61 → R32 l3 ∧ (8 ≤ l3 → Call K jModel_readsNumber [.inr (.inr 52), .inl 2, .inl 20] P0 P0 (mset M2 52 7 ((M2 52 7) + 1)) (retI fun r5 M6 => (0 ≤ (2 * l1) ∧ (2 * l1) < 120) ∧ (0 ≤ ((2 * l1) + 1) ∧ ((2 * l1) + 1) < 120) ∧ R32 r5 ∧ Q (some (.inl (mn2 0 r5))) (mset (mset M6 57 (2 * l1) l3) 57 ((2 * l1) + 1) r5))) ∧ (¬ 8 ≤ l3 → Call K jModel_readsNumber [.inr (.inr 52), .inl 3, .inl 200] P0 P0 (mset M2 52 7 ((M2 52 7) + 1)) (retI fun r10 M11 => (0 ≤ (2 * l1) ∧ (2 * l1) < 120) ∧ (0 ≤ ((2 * l1) + 1) ∧ ((2 * l1) + 1) < 120) ∧ R32 r10 ∧ Q (some (.inl (mn2 0 r10))) (mset (mset M11 57 (2 * l1) l3) 57 ((2 * l1) + 1) r10)))) ∧ (¬ r1 = 61 → Q (some (.inl ((-100) - (M2 52 7)))) M2))) : G none (K + 1) jModel_readsPart 139 [(0, .inr (.inr 52)), (1, .inl l1), (3, .inl l3)] [] P0 P0 M Q := by
  refine G_aload_n 0 rfl rfl (ck dc191 (i := 77) rfl) ?_
  refine H_vI mf191 (As := []) (st := []) (ck dc191 (i := 78) rfl) lk_Model_135 rfl rfl (Nat.le_of_ble_eq_true rfl) ly52 ra52 ⟨Nat.le_refl _, Nat.le_refl _⟩ h (fun r1 M2 h => ?_)
  refine G_bipush (n := 61) rfl (ck dc191 (i := 79) rfl) ?_
  obtain ⟨o3, h⟩ := h
  refine G_icmp_eq (tgt := 156) (by decide) o3 (by decide) (ck dc191 (i := 80) rfl) (fun c => ?_) (fun c => ?_)
  · replace h := h.1 c
    refine G_aload_n 0 rfl rfl (ck dc191 (i := 86) rfl) ?_
    refine G_dup rfl (ck dc191 (i := 87) rfl) ?_
    refine H_getI mf191 (ck dc191 (i := 88) rfl) fw_Model_132 (Or.inl fc11_7) ly52 ra52 (x := (M2 52 7)) rfl ?_
    refine G_iconst (ck dc191 (i := 89) rfl) ?_
    refine G_iadd (ck dc191 (i := 90) rfl) ?_
    refine H_putI mf191 (ck dc191 (i := 91) rfl) fw_Model_132 fc11_7 ly52 ra52 (Or.inl rfl) ?_
    refine G_iload_n 2 rfl rfl (ck dc191 (i := 92) rfl) ?_
    refine G_bipush (n := 8) rfl (ck dc191 (i := 93) rfl) ?_
    obtain ⟨o4, h⟩ := h
    refine G_icmp_ge (tgt := 183) (by decide) o4 (by decide) (ck dc191 (i := 94) rfl) (fun c => ?_) (fun c => ?_)
    · replace h := h.1 c
      refine G_aload_n 0 rfl rfl (ck dc191 (i := 100) rfl) ?_
      refine G_iconst (ck dc191 (i := 101) rfl) ?_
      refine G_bipush (n := 20) rfl (ck dc191 (i := 102) rfl) ?_
      refine H_vI mf191 (As := [.inl 2, .inl 20]) (st := []) (ck dc191 (i := 103) rfl) lk_Model_143 rfl rfl (Nat.le_of_ble_eq_true rfl) ly52 ra52 ⟨Nat.le_refl _, Nat.le_refl _⟩ h (fun r5 M6 h => ?_)
      refine G_istore (L' := [(4, .inl r5), (0, .inr (.inr 52)), (1, .inl l1), (3, .inl l3)]) (mfx.lt mf191 (Nat.le_of_ble_eq_true rfl)) rfl (ck dc191 (i := 104) rfl) ?_
      refine G_aload_n 1 rfl rfl (ck dc191 (i := 105) rfl) ?_
      refine H_getR mf191 (ck dc191 (i := 106) rfl) fw_Model_35 fc11_8 ly52 ra52 rf52_8 (by decide) ?_
      refine G_iconst (ck dc191 (i := 107) rfl) ?_
      refine G_iload_n 2 rfl rfl (ck dc191 (i := 108) rfl) ?_
      refine G_imul (ck dc191 (i := 109) rfl) ?_
      refine G_iload_n 3 rfl rfl (ck dc191 (i := 110) rfl) ?_
      obtain ⟨o7, h⟩ := h
      refine G_iast (ck dc191 (i := 111) rfl) ra57 ly57 (by decide) o7 ?_
      refine G_aload_n 1 rfl rfl (ck dc191 (i := 112) rfl) ?_
      refine H_getR mf191 (ck dc191 (i := 113) rfl) fw_Model_35 fc11_8 ly52 ra52 rf52_8 (by decide) ?_
      refine G_iconst (ck dc191 (i := 114) rfl) ?_
      refine G_iload_n 2 rfl rfl (ck dc191 (i := 115) rfl) ?_
      refine G_imul (ck dc191 (i := 116) rfl) ?_
      refine G_iconst (ck dc191 (i := 117) rfl) ?_
      refine G_iadd (ck dc191 (i := 118) rfl) ?_
      refine G_iload 0 rfl (ck dc191 (i := 119) rfl) ?_
      obtain ⟨o8, h⟩ := h
      refine G_iast (ck dc191 (i := 120) rfl) ra57 ly57 (by decide) o8 ?_
      refine G_iconst (ck dc191 (i := 121) rfl) ?_
      refine G_iload 0 rfl (ck dc191 (i := 122) rfl) ?_
      obtain ⟨o9, h⟩ := h
      refine H_mmin mf191 (ck dc191 (i := 123) rfl) lm_Model_146 (Nat.le_refl _) (Nat.le_of_ble_eq_true rfl) (by decide) o9 ?_
      exact H_iretI mf191 (ck dc191 (i := 124) rfl) rfl h
    · replace h := h.2 c
      refine G_aload_n 0 rfl rfl (ck dc191 (i := 95) rfl) ?_
      refine G_iconst (ck dc191 (i := 96) rfl) ?_
      refine G_sipush (n := 200) rfl (ck dc191 (i := 97) rfl) ?_
      refine H_vI mf191 (As := [.inl 3, .inl 200]) (st := []) (ck dc191 (i := 98) rfl) lk_Model_143 rfl rfl (Nat.le_of_ble_eq_true rfl) ly52 ra52 ⟨Nat.le_refl _, Nat.le_refl _⟩ h (fun r10 M11 h => ?_)
      refine G_goto (tgt := 190) (by decide) (ck dc191 (i := 99) rfl) ?_
      refine G_istore (L' := [(4, .inl r10), (0, .inr (.inr 52)), (1, .inl l1), (3, .inl l3)]) (mfx.lt mf191 (Nat.le_of_ble_eq_true rfl)) rfl (ck dc191 (i := 104) rfl) ?_
      refine G_aload_n 1 rfl rfl (ck dc191 (i := 105) rfl) ?_
      refine H_getR mf191 (ck dc191 (i := 106) rfl) fw_Model_35 fc11_8 ly52 ra52 rf52_8 (by decide) ?_
      refine G_iconst (ck dc191 (i := 107) rfl) ?_
      refine G_iload_n 2 rfl rfl (ck dc191 (i := 108) rfl) ?_
      refine G_imul (ck dc191 (i := 109) rfl) ?_
      refine G_iload_n 3 rfl rfl (ck dc191 (i := 110) rfl) ?_
      obtain ⟨o12, h⟩ := h
      refine G_iast (ck dc191 (i := 111) rfl) ra57 ly57 (by decide) o12 ?_
      refine G_aload_n 1 rfl rfl (ck dc191 (i := 112) rfl) ?_
      refine H_getR mf191 (ck dc191 (i := 113) rfl) fw_Model_35 fc11_8 ly52 ra52 rf52_8 (by decide) ?_
      refine G_iconst (ck dc191 (i := 114) rfl) ?_
      refine G_iload_n 2 rfl rfl (ck dc191 (i := 115) rfl) ?_
      refine G_imul (ck dc191 (i := 116) rfl) ?_
      refine G_iconst (ck dc191 (i := 117) rfl) ?_
      refine G_iadd (ck dc191 (i := 118) rfl) ?_
      refine G_iload 0 rfl (ck dc191 (i := 119) rfl) ?_
      obtain ⟨o13, h⟩ := h
      refine G_iast (ck dc191 (i := 120) rfl) ra57 ly57 (by decide) o13 ?_
      refine G_iconst (ck dc191 (i := 121) rfl) ?_
      refine G_iload 0 rfl (ck dc191 (i := 122) rfl) ?_
      obtain ⟨o14, h⟩ := h
      refine H_mmin mf191 (ck dc191 (i := 123) rfl) lm_Model_146 (Nat.le_refl _) (Nat.le_of_ble_eq_true rfl) (by decide) o14 ?_
      exact H_iretI mf191 (ck dc191 (i := 124) rfl) rfl h
  · replace h := h.2 c
    refine G_bipush (n := (-100)) rfl (ck dc191 (i := 81) rfl) ?_
    refine G_aload_n 0 rfl rfl (ck dc191 (i := 82) rfl) ?_
    refine H_getI mf191 (ck dc191 (i := 83) rfl) fw_Model_132 (Or.inl fc11_7) ly52 ra52 (x := (M2 52 7)) rfl ?_
    refine G_isub (ck dc191 (i := 84) rfl) ?_
    exact H_iretI mf191 (ck dc191 (i := 85) rfl) rfl h
theorem c_m_readsAll (K : Nat) (M : PM) (Q : Option PV → PM → Prop)
    (h : G none (K + 1) jModel_readsAll 7 [(0, .inr (.inr 52)), (1, .inl 0)] [] P0 P0 (mset M 52 7 0) Q) : Call (K + 1) jModel_readsAll [.inr (.inr 52)] P0 P0 M Q := by
  refine Call.intro (by decide +kernel) (mfx.le mf190 (Nat.le_of_ble_eq_true rfl)) (Nat.le_refl _) rfl ?_
  refine G_iconst (ck dc190 (i := 0) rfl) ?_
  refine G_istore_n (L' := [(1, .inl 0), (0, .inr (.inr 52))]) rfl (mfx.lt mf190 (Nat.le_of_ble_eq_true rfl)) rfl (ck dc190 (i := 1) rfl) ?_
  refine G_aload_n 1 rfl rfl (ck dc190 (i := 2) rfl) ?_
  refine G_iconst (ck dc190 (i := 3) rfl) ?_
  refine H_putI mf190 (ck dc190 (i := 4) rfl) fw_Model_132 fc11_7 ly52 ra52 (Or.inl rfl) ?_
  exact G_sub [1, 0] rfl h
theorem g_m_readsAll_7 (K : Nat) (l1 : Int) (M : PM) (Q : Option PV → PM → Prop)
    (h : Call K jModel_readsPart [.inr (.inr 52), .inl l1] P0 P0 M (retI fun r1 M2 => R32 r1 ∧ (0 ≤ r1 → R32 (M2 52 7) ∧ R32 (M2 52 6) ∧ (¬ (M2 52 7) = (M2 52 6) → Call K jModel_peek [.inr (.inr 52)] P0 P0 M2 (retI fun r6 M7 => R32 r6 ∧ (r6 = 59 → G none (K + 1) jModel_readsAll 7 [(0, .inr (.inr 52)), (1, .inl (l1 + 1))] [] P0 P0 (mset M7 52 7 ((M7 52 7) + 1)) Q) ∧ (¬ r6 = 59 → Q (some (.inl ((-100) - (M7 52 7)))) M7))) ∧ ((M2 52 7) = (M2 52 6) → Q (some (.inl (l1 + 1))) M2)) ∧ (¬ 0 ≤ r1 → Q (some (.inl r1)) M2))) : G none (K + 1) jModel_readsAll 7 [(0, .inr (.inr 52)), (1, .inl l1)] [] P0 P0 M Q := by
  refine G_aload_n 0 rfl rfl (ck dc190 (i := 5) rfl) ?_
  refine G_iload_n 1 rfl rfl (ck dc190 (i := 6) rfl) ?_
  refine H_vI mf190 (As := [.inl l1]) (st := []) (ck dc190 (i := 7) rfl) lk_Model_151 rfl rfl (Nat.le_of_ble_eq_true rfl) ly52 ra52 ⟨Nat.le_refl _, Nat.le_refl _⟩ h (fun r1 M2 h => ?_)
  refine G_istore_n (L' := [(2, .inl r1), (0, .inr (.inr 52)), (1, .inl l1)]) rfl (mfx.lt mf190 (Nat.le_of_ble_eq_true rfl)) rfl (ck dc190 (i := 8) rfl) ?_
  refine G_iload_n 0 rfl rfl (ck dc190 (i := 9) rfl) ?_
  obtain ⟨o3, h⟩ := h
  refine G_if_ge (tgt := 19) (by decide) o3 (ck dc190 (i := 10) rfl) (fun c => ?_) (fun c => ?_)
  · replace h := h.1 c
    refine G_iinc (L' := [(1, .inl (l1 + 1)), (2, .inl r1), (0, .inr (.inr 52))]) 2 rfl (mfx.lt mf190 (Nat.le_of_ble_eq_true rfl)) rfl (ck dc190 (i := 13) rfl) ?_
    refine G_aload_n 2 rfl rfl (ck dc190 (i := 14) rfl) ?_
    refine H_getI mf190 (ck dc190 (i := 15) rfl) fw_Model_132 (Or.inl fc11_7) ly52 ra52 (x := (M2 52 7)) rfl ?_
    refine G_aload_n 2 rfl rfl (ck dc190 (i := 16) rfl) ?_
    refine H_getI mf190 (ck dc190 (i := 17) rfl) fw_Model_128 (Or.inl fc11_6) ly52 ra52 (x := (M2 52 6)) rfl ?_
    obtain ⟨o4, h⟩ := h
    obtain ⟨o5, h⟩ := h
    refine G_icmp_ne (tgt := 35) (by decide) o4 o5 (ck dc190 (i := 18) rfl) (fun c => ?_) (fun c => ?_)
    · replace h := h.1 c
      refine G_aload_n 2 rfl rfl (ck dc190 (i := 21) rfl) ?_
      refine H_vI mf190 (As := []) (st := []) (ck dc190 (i := 22) rfl) lk_Model_135 rfl rfl (Nat.le_of_ble_eq_true rfl) ly52 ra52 ⟨Nat.le_refl _, Nat.le_refl _⟩ h (fun r6 M7 h => ?_)
      refine G_bipush (n := 59) rfl (ck dc190 (i := 23) rfl) ?_
      obtain ⟨o8, h⟩ := h
      refine G_icmp_eq (tgt := 52) (by decide) o8 (by decide) (ck dc190 (i := 24) rfl) (fun c => ?_) (fun c => ?_)
      · replace h := h.1 c
        refine G_aload_n 2 rfl rfl (ck dc190 (i := 30) rfl) ?_
        refine G_dup rfl (ck dc190 (i := 31) rfl) ?_
        refine H_getI mf190 (ck dc190 (i := 32) rfl) fw_Model_132 (Or.inl fc11_7) ly52 ra52 (x := (M7 52 7)) rfl ?_
        refine G_iconst (ck dc190 (i := 33) rfl) ?_
        refine G_iadd (ck dc190 (i := 34) rfl) ?_
        refine H_putI mf190 (ck dc190 (i := 35) rfl) fw_Model_132 fc11_7 ly52 ra52 (Or.inl rfl) ?_
        refine G_goto (tgt := 7) (by decide) (ck dc190 (i := 36) rfl) ?_
        exact G_sub [2, 0] rfl h
      · replace h := h.2 c
        refine G_bipush (n := (-100)) rfl (ck dc190 (i := 25) rfl) ?_
        refine G_aload_n 2 rfl rfl (ck dc190 (i := 26) rfl) ?_
        refine H_getI mf190 (ck dc190 (i := 27) rfl) fw_Model_132 (Or.inl fc11_7) ly52 ra52 (x := (M7 52 7)) rfl ?_
        refine G_isub (ck dc190 (i := 28) rfl) ?_
        exact H_iretI mf190 (ck dc190 (i := 29) rfl) rfl h
    · replace h := h.2 c
      refine G_iload_n 0 rfl rfl (ck dc190 (i := 19) rfl) ?_
      exact H_iretI mf190 (ck dc190 (i := 20) rfl) rfl h
  · replace h := h.2 c
    refine G_iload_n 0 rfl rfl (ck dc190 (i := 11) rfl) ?_
    exact H_iretI mf190 (ck dc190 (i := 12) rfl) rfl h
theorem c_m_read (K : Nat) (M : PM) (Q : Option PV → PM → Prop)
    (h : Call K jModel_readsAll [.inr (.inr 52)] P0 P0 M (retI fun r1 M2 => G none (K + 1) jModel_read 12 [(0, .inr (.inr 52)), (1, .inl r1), (2, .inl 0)] [] P0 P0 (mset M2 52 6 0) Q)) : Call (K + 1) jModel_read [.inr (.inr 52)] P0 P0 M Q := by
  refine Call.intro (by decide +kernel) (mfx.le mf189 (Nat.le_of_ble_eq_true rfl)) (Nat.le_refl _) rfl ?_
  refine G_aload_n 0 rfl rfl (ck dc189 (i := 0) rfl) ?_
  refine H_vI mf189 (As := []) (st := []) (ck dc189 (i := 1) rfl) lk_Model_155 rfl rfl (Nat.le_of_ble_eq_true rfl) ly52 ra52 ⟨Nat.le_refl _, Nat.le_refl _⟩ h (fun r1 M2 h => ?_)
  refine G_istore_n (L' := [(1, .inl r1), (0, .inr (.inr 52))]) rfl (mfx.lt mf189 (Nat.le_of_ble_eq_true rfl)) rfl (ck dc189 (i := 2) rfl) ?_
  refine G_aload_n 1 rfl rfl (ck dc189 (i := 3) rfl) ?_
  refine G_iconst (ck dc189 (i := 4) rfl) ?_
  refine H_putI mf189 (ck dc189 (i := 5) rfl) fw_Model_128 fc11_6 ly52 ra52 (Or.inl rfl) ?_
  refine G_iconst (ck dc189 (i := 6) rfl) ?_
  refine G_istore_n (L' := [(2, .inl 0), (1, .inl r1), (0, .inr (.inr 52))]) rfl (mfx.lt mf189 (Nat.le_of_ble_eq_true rfl)) rfl (ck dc189 (i := 7) rfl) ?_
  exact G_sub [2, 1, 0] rfl h
theorem g_m_read_12 (K : Nat) (l1 l2 : Int) (M : PM) (Q : Option PV → PM → Prop)
    (h : R32 l2 ∧ R32 l1 ∧ (l1 ≤ l2 → Q (some (.inl l1)) M) ∧ (¬ l1 ≤ l2 → (0 ≤ (2 * l2) ∧ (2 * l2) < 120) ∧ (0 ≤ ((2 * l2) + 1) ∧ ((2 * l2) + 1) < 120) ∧ Call K jModel_tells [.inr (.inr 52), .inl (M 57 (2 * l2)), .inl (M 57 ((2 * l2) + 1))] P0 P0 M (retI fun r5 M6 => G none (K + 1) jModel_read 12 [(0, .inr (.inr 52)), (1, .inl l1), (2, .inl (l2 + 1))] [] P0 P0 M6 Q))) : G none (K + 1) jModel_read 12 [(0, .inr (.inr 52)), (1, .inl l1), (2, .inl l2)] [] P0 P0 M Q := by
  refine G_iload_n 2 rfl rfl (ck dc189 (i := 8) rfl) ?_
  refine G_iload_n 1 rfl rfl (ck dc189 (i := 9) rfl) ?_
  obtain ⟨o1, h⟩ := h
  obtain ⟨o2, h⟩ := h
  refine G_icmp_ge (tgt := 46) (by decide) o1 o2 (ck dc189 (i := 10) rfl) (fun c => ?_) (fun c => ?_)
  · replace h := h.1 c
    refine G_iload_n 1 rfl rfl (ck dc189 (i := 30) rfl) ?_
    exact H_iretI mf189 (ck dc189 (i := 31) rfl) rfl h
  · replace h := h.2 c
    refine G_aload_n 0 rfl rfl (ck dc189 (i := 11) rfl) ?_
    refine G_aload_n 0 rfl rfl (ck dc189 (i := 12) rfl) ?_
    refine H_getR mf189 (ck dc189 (i := 13) rfl) fw_Model_35 fc11_8 ly52 ra52 rf52_8 (by decide) ?_
    refine G_iconst (ck dc189 (i := 14) rfl) ?_
    refine G_iload_n 2 rfl rfl (ck dc189 (i := 15) rfl) ?_
    refine G_imul (ck dc189 (i := 16) rfl) ?_
    obtain ⟨o3, h⟩ := h
    refine H_iald (ck dc189 (i := 17) rfl) ly57 (by decide) ra57 o3 (x := (M 57 (2 * l2))) rfl ?_
    refine G_aload_n 0 rfl rfl (ck dc189 (i := 18) rfl) ?_
    refine H_getR mf189 (ck dc189 (i := 19) rfl) fw_Model_35 fc11_8 ly52 ra52 rf52_8 (by decide) ?_
    refine G_iconst (ck dc189 (i := 20) rfl) ?_
    refine G_iload_n 2 rfl rfl (ck dc189 (i := 21) rfl) ?_
    refine G_imul (ck dc189 (i := 22) rfl) ?_
    refine G_iconst (ck dc189 (i := 23) rfl) ?_
    refine G_iadd (ck dc189 (i := 24) rfl) ?_
    obtain ⟨o4, h⟩ := h
    refine H_iald (ck dc189 (i := 25) rfl) ly57 (by decide) ra57 o4 (x := (M 57 ((2 * l2) + 1))) rfl ?_
    refine H_vI mf189 (As := [.inl (M 57 (2 * l2)), .inl (M 57 ((2 * l2) + 1))]) (st := []) (ck dc189 (i := 26) rfl) lk_Model_114 rfl rfl (Nat.le_of_ble_eq_true rfl) ly52 ra52 ⟨Nat.le_refl _, Nat.le_refl _⟩ h (fun r5 M6 h => ?_)
    refine G_pop rfl (ck dc189 (i := 27) rfl) ?_
    refine G_iinc (L' := [(2, .inl (l2 + 1)), (0, .inr (.inr 52)), (1, .inl l1)]) 2 rfl (mfx.lt mf189 (Nat.le_of_ble_eq_true rfl)) rfl (ck dc189 (i := 28) rfl) ?_
    refine G_goto (tgt := 12) (by decide) (ck dc189 (i := 29) rfl) ?_
    exact G_sub [1, 2, 0] rfl h
theorem c_m_supposesCash (K : Nat) (M : PM) (Q : Option PV → PM → Prop)
    (h : G none (K + 1) jModel_supposesCash 2 [(0, .inr (.inr 52)), (1, .inl 0)] [] P0 P0 M Q) : Call (K + 1) jModel_supposesCash [.inr (.inr 52)] P0 P0 M Q := by
  refine Call.intro (by decide +kernel) (mfx.le mf196 (Nat.le_of_ble_eq_true rfl)) (Nat.le_refl _) rfl ?_
  refine G_iconst (ck dc196 (i := 0) rfl) ?_
  refine G_istore_n (L' := [(1, .inl 0), (0, .inr (.inr 52))]) rfl (mfx.lt mf196 (Nat.le_of_ble_eq_true rfl)) rfl (ck dc196 (i := 1) rfl) ?_
  exact G_sub [1, 0] rfl h
theorem g_m_supposesCash_2 (K : Nat) (l1 : Int) (M : PM) (Q : Option PV → PM → Prop)
    (h : R32 l1 ∧ (5 ≤ l1 → Q none (mset M 52 4 0)) ∧ (¬ 5 ≤ l1 → (0 ≤ (3 + l1) ∧ (3 + l1) < 83) ∧ (0 ≤ l1 ∧ l1 < 5) ∧ G none (K + 1) jModel_supposesCash 2 [(0, .inr (.inr 52)), (1, .inl (l1 + 1))] [] P0 P0 (mset M 61 l1 (M 55 (3 + l1))) Q)) : G none (K + 1) jModel_supposesCash 2 [(0, .inr (.inr 52)), (1, .inl l1)] [] P0 P0 M Q := by
  refine G_iload_n 1 rfl rfl (ck dc196 (i := 2) rfl) ?_
  refine G_iconst (ck dc196 (i := 3) rfl) ?_
  obtain ⟨o1, h⟩ := h
  refine G_icmp_ge (tgt := 27) (by decide) o1 (by decide) (ck dc196 (i := 4) rfl) (fun c => ?_) (fun c => ?_)
  · replace h := h.1 c
    refine G_aload_n 0 rfl rfl (ck dc196 (i := 17) rfl) ?_
    refine G_iconst (ck dc196 (i := 18) rfl) ?_
    refine H_putZ mf196 (ck dc196 (i := 19) rfl) fw_Model_95 fc11_4 ly52 ra52 (Or.inl rfl) (Or.inl rfl) ?_
    exact H_vret mf196 (ck dc196 (i := 20) rfl) rfl h
  · replace h := h.2 c
    refine G_aload_n 0 rfl rfl (ck dc196 (i := 5) rfl) ?_
    refine H_getR mf196 (ck dc196 (i := 6) rfl) fw_Model_47 fc11_14 ly52 ra52 rf52_14 (by decide) ?_
    refine G_iload_n 1 rfl rfl (ck dc196 (i := 7) rfl) ?_
    refine G_aload_n 0 rfl rfl (ck dc196 (i := 8) rfl) ?_
    refine H_getR mf196 (ck dc196 (i := 9) rfl) fw_Model_5 fc11_3 ly52 ra52 rf52_3 (by decide) ?_
    refine G_iconst (ck dc196 (i := 10) rfl) ?_
    refine G_iload_n 1 rfl rfl (ck dc196 (i := 11) rfl) ?_
    refine G_iadd (ck dc196 (i := 12) rfl) ?_
    obtain ⟨o2, h⟩ := h
    refine H_iald (ck dc196 (i := 13) rfl) ly55 (by decide) ra55 o2 (x := (M 55 (3 + l1))) rfl ?_
    obtain ⟨o3, h⟩ := h
    refine G_iast (ck dc196 (i := 14) rfl) ra61 ly61 (by decide) o3 ?_
    refine G_iinc (L' := [(1, .inl (l1 + 1)), (0, .inr (.inr 52))]) 1 rfl (mfx.lt mf196 (Nat.le_of_ble_eq_true rfl)) rfl (ck dc196 (i := 15) rfl) ?_
    refine G_goto (tgt := 2) (by decide) (ck dc196 (i := 16) rfl) ?_
    exact G_sub [1, 0] rfl h
theorem c_model_isIn (K : Nat) (a1 a2 : Int) (M : PM) (Q : Option PV → PM → Prop)
    (h : R32 (bAnd (bShr a1 a2) 1) ∧ (¬ (bAnd (bShr a1 a2) 1) = 1 → Q (some (.inl 0)) M) ∧ ((bAnd (bShr a1 a2) 1) = 1 → Q (some (.inl 1)) M)) : Call (K + 1) jModel_isIn [.inl a1, .inl a2] P0 P0 M Q := by
  refine Call.intro (by decide +kernel) (mfx.le mf200 (Nat.le_of_ble_eq_true rfl)) (Nat.le_refl _) rfl ?_
  refine G_iload_n 0 rfl rfl (ck dc200 (i := 0) rfl) ?_
  refine G_iload_n 1 rfl rfl (ck dc200 (i := 1) rfl) ?_
  refine G_ishr (ck dc200 (i := 2) rfl) ?_
  refine G_iconst (ck dc200 (i := 3) rfl) ?_
  refine G_iand (ck dc200 (i := 4) rfl) ?_
  refine G_iconst (ck dc200 (i := 5) rfl) ?_
  obtain ⟨o1, h⟩ := h
  refine G_icmp_ne (tgt := 13) (by decide) o1 (by decide) (ck dc200 (i := 6) rfl) (fun c => ?_) (fun c => ?_)
  · replace h := h.1 c
    refine G_iconst (ck dc200 (i := 9) rfl) ?_
    exact H_iretZ mf200 (ck dc200 (i := 10) rfl) rfl (Or.inl rfl) h
  · replace h := h.2 c
    refine G_iconst (ck dc200 (i := 7) rfl) ?_
    refine G_goto (tgt := 14) (by decide) (ck dc200 (i := 8) rfl) ?_
    exact H_iretZ mf200 (ck dc200 (i := 10) rfl) rfl (Or.inr rfl) h
theorem c_m_isOpen (K : Nat) (a1 : Int) (M : PM) (Q : Option PV → PM → Prop)
    (h : G none (K + 1) jModel_isOpen 2 [(0, .inr (.inr 52)), (1, .inl a1), (2, .inl 0)] [] P0 P0 M Q) : Call (K + 1) jModel_isOpen [.inr (.inr 52), .inl a1] P0 P0 M Q := by
  refine Call.intro (by decide +kernel) (mfx.le mf201 (Nat.le_of_ble_eq_true rfl)) (Nat.le_refl _) rfl ?_
  refine G_iconst (ck dc201 (i := 0) rfl) ?_
  refine G_istore_n (L' := [(2, .inl 0), (0, .inr (.inr 52)), (1, .inl a1)]) rfl (mfx.lt mf201 (Nat.le_of_ble_eq_true rfl)) rfl (ck dc201 (i := 1) rfl) ?_
  exact G_sub [1, 2, 0] rfl h
theorem g_m_isOpen_2 (K : Nat) (l1 l2 : Int) (M : PM) (Q : Option PV → PM → Prop)
    (h : R32 l2 ∧ R32 (M 52 17) ∧ ((M 52 17) ≤ l2 → Q (some (.inl 0)) M) ∧ (¬ (M 52 17) ≤ l2 → (0 ≤ l2 ∧ l2 < 5) ∧ R32 (M 63 l2) ∧ R32 l1 ∧ (¬ (M 63 l2) = l1 → G none (K + 1) jModel_isOpen 2 [(0, .inr (.inr 52)), (1, .inl l1), (2, .inl (l2 + 1))] [] P0 P0 M Q) ∧ ((M 63 l2) = l1 → Q (some (.inl 1)) M))) : G none (K + 1) jModel_isOpen 2 [(0, .inr (.inr 52)), (1, .inl l1), (2, .inl l2)] [] P0 P0 M Q := by
  refine G_iload_n 2 rfl rfl (ck dc201 (i := 2) rfl) ?_
  refine G_aload_n 0 rfl rfl (ck dc201 (i := 3) rfl) ?_
  refine H_getI mf201 (ck dc201 (i := 4) rfl) fw_Model_158 (Or.inl fc11_17) ly52 ra52 (x := (M 52 17)) rfl ?_
  obtain ⟨o1, h⟩ := h
  obtain ⟨o2, h⟩ := h
  refine G_icmp_ge (tgt := 28) (by decide) o1 o2 (ck dc201 (i := 5) rfl) (fun c => ?_) (fun c => ?_)
  · replace h := h.1 c
    refine G_iconst (ck dc201 (i := 16) rfl) ?_
    exact H_iretZ mf201 (ck dc201 (i := 17) rfl) rfl (Or.inl rfl) h
  · replace h := h.2 c
    refine G_aload_n 0 rfl rfl (ck dc201 (i := 6) rfl) ?_
    refine H_getR mf201 (ck dc201 (i := 7) rfl) fw_Model_53 fc11_16 ly52 ra52 rf52_16 (by decide) ?_
    refine G_iload_n 2 rfl rfl (ck dc201 (i := 8) rfl) ?_
    obtain ⟨o3, h⟩ := h
    refine H_iald (ck dc201 (i := 9) rfl) ly63 (by decide) ra63 o3 (x := (M 63 l2)) rfl ?_
    refine G_iload_n 1 rfl rfl (ck dc201 (i := 10) rfl) ?_
    obtain ⟨o4, h⟩ := h
    obtain ⟨o5, h⟩ := h
    refine G_icmp_ne (tgt := 22) (by decide) o4 o5 (ck dc201 (i := 11) rfl) (fun c => ?_) (fun c => ?_)
    · replace h := h.1 c
      refine G_iinc (L' := [(2, .inl (l2 + 1)), (0, .inr (.inr 52)), (1, .inl l1)]) 2 rfl (mfx.lt mf201 (Nat.le_of_ble_eq_true rfl)) rfl (ck dc201 (i := 14) rfl) ?_
      refine G_goto (tgt := 2) (by decide) (ck dc201 (i := 15) rfl) ?_
      exact G_sub [1, 2, 0] rfl h
    · replace h := h.2 c
      refine G_iconst (ck dc201 (i := 12) rfl) ?_
      exact H_iretZ mf201 (ck dc201 (i := 13) rfl) rfl (Or.inr rfl) h
theorem c_m_due (K : Nat) (a1 a2 : Int) (M : PM) (Q : Option PV → PM → Prop)
    (h : G none (K + 1) jModel_due 5 [(0, .inr (.inr 52)), (1, .inl a1), (2, .inl a2), (3, .inl 0), (4, .inl 0)] [] P0 P0 M Q) : Call (K + 1) jModel_due [.inr (.inr 52), .inl a1, .inl a2] P0 P0 M Q := by
  refine Call.intro (by decide +kernel) (mfx.le mf204 (Nat.le_of_ble_eq_true rfl)) (Nat.le_refl _) rfl ?_
  refine G_iconst (ck dc204 (i := 0) rfl) ?_
  refine G_istore_n (L' := [(3, .inl 0), (0, .inr (.inr 52)), (1, .inl a1), (2, .inl a2)]) rfl (mfx.lt mf204 (Nat.le_of_ble_eq_true rfl)) rfl (ck dc204 (i := 1) rfl) ?_
  refine G_iconst (ck dc204 (i := 2) rfl) ?_
  refine G_istore (L' := [(4, .inl 0), (3, .inl 0), (0, .inr (.inr 52)), (1, .inl a1), (2, .inl a2)]) (mfx.lt mf204 (Nat.le_of_ble_eq_true rfl)) rfl (ck dc204 (i := 3) rfl) ?_
  exact G_sub [2, 3, 4, 1, 0] rfl h
theorem g_m_due_5 (K : Nat) (l1 l2 l3 l4 : Int) (M : PM) (Q : Option PV → PM → Prop)
    (h : R32 l4 ∧ (5 ≤ l4 → Q (some (.inl l3)) M) ∧ (¬ 5 ≤ l4 → Call K jModel_owes [.inr (.inr 52), .inl l1, .inl l4, .inl l2] P0 P0 M (retI fun r2 M3 => G none (K + 1) jModel_due 5 [(0, .inr (.inr 52)), (1, .inl l1), (2, .inl l2), (3, .inl (l3 + r2)), (4, .inl (l4 + 1))] [] P0 P0 M3 Q))) : G none (K + 1) jModel_due 5 [(0, .inr (.inr 52)), (1, .inl l1), (2, .inl l2), (3, .inl l3), (4, .inl l4)] [] P0 P0 M Q := by
  refine G_iload 4 rfl (ck dc204 (i := 4) rfl) ?_
  refine G_iconst (ck dc204 (i := 5) rfl) ?_
  obtain ⟨o1, h⟩ := h
  refine G_icmp_ge (tgt := 28) (by decide) o1 (by decide) (ck dc204 (i := 6) rfl) (fun c => ?_) (fun c => ?_)
  · replace h := h.1 c
    refine G_iload_n 3 rfl rfl (ck dc204 (i := 17) rfl) ?_
    exact H_iretI mf204 (ck dc204 (i := 18) rfl) rfl h
  · replace h := h.2 c
    refine G_iload_n 3 rfl rfl (ck dc204 (i := 7) rfl) ?_
    refine G_aload_n 0 rfl rfl (ck dc204 (i := 8) rfl) ?_
    refine G_iload_n 1 rfl rfl (ck dc204 (i := 9) rfl) ?_
    refine G_iload 4 rfl (ck dc204 (i := 10) rfl) ?_
    refine G_iload_n 2 rfl rfl (ck dc204 (i := 11) rfl) ?_
    refine H_vI mf204 (As := [.inl l1, .inl l4, .inl l2]) (st := [.inl l3]) (ck dc204 (i := 12) rfl) lk_Model_103 rfl rfl (Nat.le_of_ble_eq_true rfl) ly52 ra52 ⟨Nat.le_refl _, Nat.le_refl _⟩ h (fun r2 M3 h => ?_)
    refine G_iadd (ck dc204 (i := 13) rfl) ?_
    refine G_istore_n (L' := [(3, .inl (l3 + r2)), (0, .inr (.inr 52)), (1, .inl l1), (2, .inl l2), (4, .inl l4)]) rfl (mfx.lt mf204 (Nat.le_of_ble_eq_true rfl)) rfl (ck dc204 (i := 14) rfl) ?_
    refine G_iinc (L' := [(4, .inl (l4 + 1)), (3, .inl (l3 + r2)), (0, .inr (.inr 52)), (1, .inl l1), (2, .inl l2)]) 4 rfl (mfx.lt mf204 (Nat.le_of_ble_eq_true rfl)) rfl (ck dc204 (i := 15) rfl) ?_
    refine G_goto (tgt := 5) (by decide) (ck dc204 (i := 16) rfl) ?_
    exact G_sub [2, 3, 4, 1, 0] rfl h
theorem c_m_beyond (K : Nat) (a1 : Int) (M : PM) (Q : Option PV → PM → Prop)
    (h : G none (K + 1) jModel_beyond 7 [(0, .inr (.inr 52)), (1, .inl a1), (2, .inl 0), (3, .inl 0), (4, .inl 0)] [] P0 P0 M Q) : Call (K + 1) jModel_beyond [.inr (.inr 52), .inl a1] P0 P0 M Q := by
  refine Call.intro (by decide +kernel) (mfx.le mf203 (Nat.le_of_ble_eq_true rfl)) (Nat.le_refl _) rfl ?_
  refine G_iconst (ck dc203 (i := 0) rfl) ?_
  refine G_istore_n (L' := [(2, .inl 0), (0, .inr (.inr 52)), (1, .inl a1)]) rfl (mfx.lt mf203 (Nat.le_of_ble_eq_true rfl)) rfl (ck dc203 (i := 1) rfl) ?_
  refine G_iconst (ck dc203 (i := 2) rfl) ?_
  refine G_istore_n (L' := [(3, .inl 0), (2, .inl 0), (0, .inr (.inr 52)), (1, .inl a1)]) rfl (mfx.lt mf203 (Nat.le_of_ble_eq_true rfl)) rfl (ck dc203 (i := 3) rfl) ?_
  refine G_iconst (ck dc203 (i := 4) rfl) ?_
  refine G_istore (L' := [(4, .inl 0), (3, .inl 0), (2, .inl 0), (0, .inr (.inr 52)), (1, .inl a1)]) (mfx.lt mf203 (Nat.le_of_ble_eq_true rfl)) rfl (ck dc203 (i := 5) rfl) ?_
  exact G_sub [3, 4, 2, 1, 0] rfl h
theorem g_m_beyond_7 (K : Nat) (l1 l2 l3 l4 : Int) (M : PM) (Q : Option PV → PM → Prop)
    (h : R32 l4 ∧ (5 ≤ l4 → G none (K + 1) jModel_beyond 55 [(0, .inr (.inr 52)), (1, .inl l1), (2, .inl l2), (3, .inl l3), (4, .inl 0)] [] P0 P0 M Q) ∧ (¬ 5 ≤ l4 → G none (K + 1) jModel_beyond 16 [(0, .inr (.inr 52)), (1, .inl l1), (2, .inl l2), (3, .inl l3), (4, .inl l4), (5, .inl 0)] [] P0 P0 M Q)) : G none (K + 1) jModel_beyond 7 [(0, .inr (.inr 52)), (1, .inl l1), (2, .inl l2), (3, .inl l3), (4, .inl l4)] [] P0 P0 M Q := by
  refine G_iload 4 rfl (ck dc203 (i := 6) rfl) ?_
  refine G_iconst (ck dc203 (i := 7) rfl) ?_
  obtain ⟨o1, h⟩ := h
  refine G_icmp_ge (tgt := 52) (by decide) o1 (by decide) (ck dc203 (i := 8) rfl) (fun c => ?_) (fun c => ?_)
  · replace h := h.1 c
    refine G_iconst (ck dc203 (i := 29) rfl) ?_
    refine G_istore (L' := [(4, .inl 0), (0, .inr (.inr 52)), (1, .inl l1), (2, .inl l2), (3, .inl l3)]) (mfx.lt mf203 (Nat.le_of_ble_eq_true rfl)) rfl (ck dc203 (i := 30) rfl) ?_
    exact G_sub [1, 2, 3, 4, 0] rfl h
  · replace h := h.2 c
    refine G_iconst (ck dc203 (i := 9) rfl) ?_
    refine G_istore (L' := [(5, .inl 0), (0, .inr (.inr 52)), (1, .inl l1), (2, .inl l2), (3, .inl l3), (4, .inl l4)]) (mfx.lt mf203 (Nat.le_of_ble_eq_true rfl)) rfl (ck dc203 (i := 10) rfl) ?_
    exact G_sub [1, 2, 3, 4, 5, 0] rfl h
theorem g_m_beyond_16 (K : Nat) (l1 l2 l3 l4 l5 : Int) (M : PM) (Q : Option PV → PM → Prop)
    (h : (0 ≤ l4 ∧ l4 < 5) ∧ R32 l5 ∧ R32 (M 62 l4) ∧ ((M 62 l4) ≤ l5 → G none (K + 1) jModel_beyond 7 [(0, .inr (.inr 52)), (1, .inl l1), (2, .inl l2), (3, .inl l3), (4, .inl (l4 + 1))] [] P0 P0 M Q) ∧ (¬ (M 62 l4) ≤ l5 → Call K jModel_owes [.inr (.inr 52), .inl l4, .inl l1, .inl l5] P0 P0 M (retI fun r4 M5 => G none (K + 1) jModel_beyond 16 [(0, .inr (.inr 52)), (1, .inl l1), (2, .inl (l2 + r4)), (3, .inl l3), (4, .inl l4), (5, .inl (l5 + 1))] [] P0 P0 M5 Q))) : G none (K + 1) jModel_beyond 16 [(0, .inr (.inr 52)), (1, .inl l1), (2, .inl l2), (3, .inl l3), (4, .inl l4), (5, .inl l5)] [] P0 P0 M Q := by
  refine G_iload 5 rfl (ck dc203 (i := 11) rfl) ?_
  refine G_aload_n 0 rfl rfl (ck dc203 (i := 12) rfl) ?_
  refine H_getR mf203 (ck dc203 (i := 13) rfl) fw_Model_50 fc11_15 ly52 ra52 rf52_15 (by decide) ?_
  refine G_iload 4 rfl (ck dc203 (i := 14) rfl) ?_
  obtain ⟨o1, h⟩ := h
  refine H_iald (ck dc203 (i := 15) rfl) ly62 (by decide) ra62 o1 (x := (M 62 l4)) rfl ?_
  obtain ⟨o2, h⟩ := h
  obtain ⟨o3, h⟩ := h
  refine G_icmp_ge (tgt := 46) (by decide) o2 o3 (ck dc203 (i := 16) rfl) (fun c => ?_) (fun c => ?_)
  · replace h := h.1 c
    refine G_iinc (L' := [(4, .inl (l4 + 1)), (0, .inr (.inr 52)), (1, .inl l1), (2, .inl l2), (3, .inl l3), (5, .inl l5)]) 4 rfl (mfx.lt mf203 (Nat.le_of_ble_eq_true rfl)) rfl (ck dc203 (i := 27) rfl) ?_
    refine G_goto (tgt := 7) (by decide) (ck dc203 (i := 28) rfl) ?_
    exact G_sub [1, 2, 3, 4, 0] rfl h
  · replace h := h.2 c
    refine G_iload_n 2 rfl rfl (ck dc203 (i := 17) rfl) ?_
    refine G_aload_n 0 rfl rfl (ck dc203 (i := 18) rfl) ?_
    refine G_iload 4 rfl (ck dc203 (i := 19) rfl) ?_
    refine G_iload_n 1 rfl rfl (ck dc203 (i := 20) rfl) ?_
    refine G_iload 5 rfl (ck dc203 (i := 21) rfl) ?_
    refine H_vI mf203 (As := [.inl l4, .inl l1, .inl l5]) (st := [.inl l2]) (ck dc203 (i := 22) rfl) lk_Model_103 rfl rfl (Nat.le_of_ble_eq_true rfl) ly52 ra52 ⟨Nat.le_refl _, Nat.le_refl _⟩ h (fun r4 M5 h => ?_)
    refine G_iadd (ck dc203 (i := 23) rfl) ?_
    refine G_istore_n (L' := [(2, .inl (l2 + r4)), (0, .inr (.inr 52)), (1, .inl l1), (3, .inl l3), (4, .inl l4), (5, .inl l5)]) rfl (mfx.lt mf203 (Nat.le_of_ble_eq_true rfl)) rfl (ck dc203 (i := 24) rfl) ?_
    refine G_iinc (L' := [(5, .inl (l5 + 1)), (2, .inl (l2 + r4)), (0, .inr (.inr 52)), (1, .inl l1), (3, .inl l3), (4, .inl l4)]) 5 rfl (mfx.lt mf203 (Nat.le_of_ble_eq_true rfl)) rfl (ck dc203 (i := 25) rfl) ?_
    refine G_goto (tgt := 16) (by decide) (ck dc203 (i := 26) rfl) ?_
    exact G_sub [2, 3, 1, 4, 5, 0] rfl h
set_option maxHeartbeats 20000000 in
theorem g_m_beyond_55 (K : Nat) (l1 l2 l3 l4 : Int) (M : PM) (Q : Option PV → PM → Prop)
    (h : (0 ≤ l1 ∧ l1 < 5) ∧ R32 l4 ∧ R32 (M 62 l1) ∧ ((M 62 l1) ≤ l4 → R32 (M 55 1) ∧ R32 (M 61 l1) ∧ R32 (M 55 2) ∧ R32 l2 ∧ R32 l3 ∧ Q (some (.inr (.inl ((((M 55 1) * (M 61 l1)) + ((M 55 2) * l2)) - (10 * l3))))) M) ∧ (¬ (M 62 l1) ≤ l4 → Call K jModel_due [.inr (.inr 52), .inl l1, .inl l4] P0 P0 M (retI fun r9 M10 => G none (K + 1) jModel_beyond 55 [(0, .inr (.inr 52)), (1, .inl l1), (2, .inl l2), (3, .inl (l3 + r9)), (4, .inl (l4 + 1))] [] P0 P0 M10 Q))) : G none (K + 1) jModel_beyond 55 [(0, .inr (.inr 52)), (1, .inl l1), (2, .inl l2), (3, .inl l3), (4, .inl l4)] [] P0 P0 M Q := by
  refine G_iload 4 rfl (ck dc203 (i := 31) rfl) ?_
  refine G_aload_n 0 rfl rfl (ck dc203 (i := 32) rfl) ?_
  refine H_getR mf203 (ck dc203 (i := 33) rfl) fw_Model_50 fc11_15 ly52 ra52 rf52_15 (by decide) ?_
  refine G_iload_n 1 rfl rfl (ck dc203 (i := 34) rfl) ?_
  obtain ⟨o1, h⟩ := h
  refine H_iald (ck dc203 (i := 35) rfl) ly62 (by decide) ra62 o1 (x := (M 62 l1)) rfl ?_
  obtain ⟨o2, h⟩ := h
  obtain ⟨o3, h⟩ := h
  refine G_icmp_ge (tgt := 82) (by decide) o2 o3 (ck dc203 (i := 36) rfl) (fun c => ?_) (fun c => ?_)
  · replace h := h.1 c
    refine G_aload_n 0 rfl rfl (ck dc203 (i := 46) rfl) ?_
    refine H_getR mf203 (ck dc203 (i := 47) rfl) fw_Model_5 fc11_3 ly52 ra52 rf52_3 (by decide) ?_
    refine G_iconst (ck dc203 (i := 48) rfl) ?_
    refine H_iald (ck dc203 (i := 49) rfl) ly55 (by decide) ra55 (by decide) (x := (M 55 1)) rfl ?_
    obtain ⟨o4, h⟩ := h
    refine G_i2l o4 (ck dc203 (i := 50) rfl) ?_
    refine G_aload_n 0 rfl rfl (ck dc203 (i := 51) rfl) ?_
    refine H_getR mf203 (ck dc203 (i := 52) rfl) fw_Model_47 fc11_14 ly52 ra52 rf52_14 (by decide) ?_
    refine G_iload_n 1 rfl rfl (ck dc203 (i := 53) rfl) ?_
    refine H_iald (ck dc203 (i := 54) rfl) ly61 (by decide) ra61 o1 (x := (M 61 l1)) rfl ?_
    obtain ⟨o5, h⟩ := h
    refine G_i2l o5 (ck dc203 (i := 55) rfl) ?_
    refine G_lmul (ck dc203 (i := 56) rfl) ?_
    refine G_aload_n 0 rfl rfl (ck dc203 (i := 57) rfl) ?_
    refine H_getR mf203 (ck dc203 (i := 58) rfl) fw_Model_5 fc11_3 ly52 ra52 rf52_3 (by decide) ?_
    refine G_iconst (ck dc203 (i := 59) rfl) ?_
    refine H_iald (ck dc203 (i := 60) rfl) ly55 (by decide) ra55 (by decide) (x := (M 55 2)) rfl ?_
    obtain ⟨o6, h⟩ := h
    refine G_i2l o6 (ck dc203 (i := 61) rfl) ?_
    refine G_iload_n 2 rfl rfl (ck dc203 (i := 62) rfl) ?_
    obtain ⟨o7, h⟩ := h
    refine G_i2l o7 (ck dc203 (i := 63) rfl) ?_
    refine G_lmul (ck dc203 (i := 64) rfl) ?_
    refine G_ladd (ck dc203 (i := 65) rfl) ?_
    refine H_ldc2 mf203 (v := 10) (ck dc203 (i := 66) rfl) kl_Model_90 ?_
    refine G_iload_n 3 rfl rfl (ck dc203 (i := 67) rfl) ?_
    obtain ⟨o8, h⟩ := h
    refine G_i2l o8 (ck dc203 (i := 68) rfl) ?_
    refine G_lmul (ck dc203 (i := 69) rfl) ?_
    refine G_lsub (ck dc203 (i := 70) rfl) ?_
    exact H_lret mf203 (ck dc203 (i := 71) rfl) rfl h
  · replace h := h.2 c
    refine G_iload_n 3 rfl rfl (ck dc203 (i := 37) rfl) ?_
    refine G_aload_n 0 rfl rfl (ck dc203 (i := 38) rfl) ?_
    refine G_iload_n 1 rfl rfl (ck dc203 (i := 39) rfl) ?_
    refine G_iload 4 rfl (ck dc203 (i := 40) rfl) ?_
    refine H_vI mf203 (As := [.inl l1, .inl l4]) (st := [.inl l3]) (ck dc203 (i := 41) rfl) lk_Model_106 rfl rfl (Nat.le_of_ble_eq_true rfl) ly52 ra52 ⟨Nat.le_refl _, Nat.le_refl _⟩ h (fun r9 M10 h => ?_)
    refine G_iadd (ck dc203 (i := 42) rfl) ?_
    refine G_istore_n (L' := [(3, .inl (l3 + r9)), (0, .inr (.inr 52)), (1, .inl l1), (2, .inl l2), (4, .inl l4)]) rfl (mfx.lt mf203 (Nat.le_of_ble_eq_true rfl)) rfl (ck dc203 (i := 43) rfl) ?_
    refine G_iinc (L' := [(4, .inl (l4 + 1)), (3, .inl (l3 + r9)), (0, .inr (.inr 52)), (1, .inl l1), (2, .inl l2)]) 4 rfl (mfx.lt mf203 (Nat.le_of_ble_eq_true rfl)) rfl (ck dc203 (i := 44) rfl) ?_
    refine G_goto (tgt := 55) (by decide) (ck dc203 (i := 45) rfl) ?_
    exact G_sub [2, 3, 4, 1, 0] rfl h
theorem c_m_beyondAll (K : Nat) (a1 : Int) (M : PM) (Q : Option PV → PM → Prop)
    (h : Call K jModel_beyond [.inr (.inr 52), .inl a1] P0 P0 M (retL fun r1 M2 => G none (K + 1) jModel_beyondAll 14 [(0, .inr (.inr 52)), (1, .inl a1), (2, .inr (.inl (r1 * (M2 52 21)))), (4, .inl 0)] [] P0 P0 M2 Q)) : Call (K + 1) jModel_beyondAll [.inr (.inr 52), .inl a1] P0 P0 M Q := by
  refine Call.intro (by decide +kernel) (mfx.le mf202 (Nat.le_of_ble_eq_true rfl)) (Nat.le_refl _) rfl ?_
  refine G_aload_n 0 rfl rfl (ck dc202 (i := 0) rfl) ?_
  refine G_iload_n 1 rfl rfl (ck dc202 (i := 1) rfl) ?_
  refine H_vL mf202 (As := [.inl a1]) (st := []) (ck dc202 (i := 2) rfl) lk_Model_168 rfl rfl (Nat.le_of_ble_eq_true rfl) ly52 ra52 ⟨Nat.le_refl _, Nat.le_refl _⟩ h (fun r1 M2 h => ?_)
  refine G_aload_n 0 rfl rfl (ck dc202 (i := 3) rfl) ?_
  refine H_getL mf202 (ck dc202 (i := 4) rfl) fw_Model_172 fc11_21 ly52 ra52 (x := (M2 52 21)) rfl ?_
  refine G_lmul (ck dc202 (i := 5) rfl) ?_
  refine G_lstore_n (L' := [(2, .inr (.inl (r1 * (M2 52 21)))), (0, .inr (.inr 52)), (1, .inl a1)]) rfl (mfx.lt mf202 (Nat.le_of_ble_eq_true rfl)) rfl (ck dc202 (i := 6) rfl) ?_
  refine G_iconst (ck dc202 (i := 7) rfl) ?_
  refine G_istore (L' := [(4, .inl 0), (2, .inr (.inl (r1 * (M2 52 21)))), (0, .inr (.inr 52)), (1, .inl a1)]) (mfx.lt mf202 (Nat.le_of_ble_eq_true rfl)) rfl (ck dc202 (i := 8) rfl) ?_
  exact G_sub [2, 3, 1, 0] rfl h
set_option maxHeartbeats 20000000 in
theorem g_m_beyondAll_14 (K : Nat) (l1 l2 l4 : Int) (M : PM) (Q : Option PV → PM → Prop)
    (h : R32 l4 ∧ R32 (M 52 17) ∧ ((M 52 17) ≤ l4 → Q (some (.inr (.inl l2))) M) ∧ (¬ (M 52 17) ≤ l4 → R32 (M 55 2) ∧ (0 ≤ l4 ∧ l4 < 5) ∧ (0 ≤ (M 63 l4) ∧ (M 63 l4) < 5) ∧ Call K jModel_owes [.inr (.inr 52), .inl (M 63 l4), .inl l1, .inl (M 62 (M 63 l4))] P0 P0 M (retI fun r6 M7 => R32 r6 ∧ (0 ≤ (M7 63 l4) ∧ (M7 63 l4) < 5) ∧ G none (K + 1) jModel_beyondAll 14 [(0, .inr (.inr 52)), (1, .inl l1), (2, .inr (.inl (l2 + (((M 55 2) * r6) * (M7 66 (M7 63 l4)))))), (4, .inl (l4 + 1))] [] P0 P0 M7 Q))) : G none (K + 1) jModel_beyondAll 14 [(0, .inr (.inr 52)), (1, .inl l1), (2, .inr (.inl l2)), (4, .inl l4)] [] P0 P0 M Q := by
  refine G_iload 3 rfl (ck dc202 (i := 9) rfl) ?_
  refine G_aload_n 0 rfl rfl (ck dc202 (i := 10) rfl) ?_
  refine H_getI mf202 (ck dc202 (i := 11) rfl) fw_Model_158 (Or.inl fc11_17) ly52 ra52 (x := (M 52 17)) rfl ?_
  obtain ⟨o1, h⟩ := h
  obtain ⟨o2, h⟩ := h
  refine G_icmp_ge (tgt := 78) (by decide) o1 o2 (ck dc202 (i := 12) rfl) (fun c => ?_) (fun c => ?_)
  · replace h := h.1 c
    refine G_lload_n 2 rfl rfl (ck dc202 (i := 47) rfl) ?_
    exact H_lret mf202 (ck dc202 (i := 48) rfl) rfl h
  · replace h := h.2 c
    refine G_lload_n 2 rfl rfl (ck dc202 (i := 13) rfl) ?_
    refine G_aload_n 0 rfl rfl (ck dc202 (i := 14) rfl) ?_
    refine H_getR mf202 (ck dc202 (i := 15) rfl) fw_Model_5 fc11_3 ly52 ra52 rf52_3 (by decide) ?_
    refine G_iconst (ck dc202 (i := 16) rfl) ?_
    refine H_iald (ck dc202 (i := 17) rfl) ly55 (by decide) ra55 (by decide) (x := (M 55 2)) rfl ?_
    obtain ⟨o3, h⟩ := h
    refine G_i2l o3 (ck dc202 (i := 18) rfl) ?_
    refine G_aload_n 0 rfl rfl (ck dc202 (i := 19) rfl) ?_
    refine G_aload_n 0 rfl rfl (ck dc202 (i := 20) rfl) ?_
    refine H_getR mf202 (ck dc202 (i := 21) rfl) fw_Model_53 fc11_16 ly52 ra52 rf52_16 (by decide) ?_
    refine G_iload 3 rfl (ck dc202 (i := 22) rfl) ?_
    obtain ⟨o4, h⟩ := h
    refine H_iald (ck dc202 (i := 23) rfl) ly63 (by decide) ra63 o4 (x := (M 63 l4)) rfl ?_
    refine G_iload_n 1 rfl rfl (ck dc202 (i := 24) rfl) ?_
    refine G_aload_n 0 rfl rfl (ck dc202 (i := 25) rfl) ?_
    refine H_getR mf202 (ck dc202 (i := 26) rfl) fw_Model_50 fc11_15 ly52 ra52 rf52_15 (by decide) ?_
    refine G_aload_n 0 rfl rfl (ck dc202 (i := 27) rfl) ?_
    refine H_getR mf202 (ck dc202 (i := 28) rfl) fw_Model_53 fc11_16 ly52 ra52 rf52_16 (by decide) ?_
    refine G_iload 3 rfl (ck dc202 (i := 29) rfl) ?_
    refine H_iald (ck dc202 (i := 30) rfl) ly63 (by decide) ra63 o4 (x := (M 63 l4)) rfl ?_
    obtain ⟨o5, h⟩ := h
    refine H_iald (ck dc202 (i := 31) rfl) ly62 (by decide) ra62 o5 (x := (M 62 (M 63 l4))) rfl ?_
    refine H_vI mf202 (As := [.inl (M 63 l4), .inl l1, .inl (M 62 (M 63 l4))]) (st := [.inr (.inl (M 55 2)), .inr (.inl l2)]) (ck dc202 (i := 32) rfl) lk_Model_103 rfl rfl (Nat.le_of_ble_eq_true rfl) ly52 ra52 ⟨Nat.le_refl _, Nat.le_refl _⟩ h (fun r6 M7 h => ?_)
    obtain ⟨o8, h⟩ := h
    refine G_i2l o8 (ck dc202 (i := 33) rfl) ?_
    refine G_lmul (ck dc202 (i := 34) rfl) ?_
    refine G_aload_n 0 rfl rfl (ck dc202 (i := 35) rfl) ?_
    refine H_getR mf202 (ck dc202 (i := 36) rfl) fw_Model_62 fc11_20 ly52 ra52 rf52_20 (by decide) ?_
    refine G_aload_n 0 rfl rfl (ck dc202 (i := 37) rfl) ?_
    refine H_getR mf202 (ck dc202 (i := 38) rfl) fw_Model_53 fc11_16 ly52 ra52 rf52_16 (by decide) ?_
    refine G_iload 3 rfl (ck dc202 (i := 39) rfl) ?_
    refine H_iald (ck dc202 (i := 40) rfl) ly63 (by decide) ra63 o4 (x := (M7 63 l4)) rfl ?_
    obtain ⟨o9, h⟩ := h
    refine H_lald (ck dc202 (i := 41) rfl) ly66 (by decide) ra66 o9 (x := (M7 66 (M7 63 l4))) rfl ?_
    refine G_lmul (ck dc202 (i := 42) rfl) ?_
    refine G_ladd (ck dc202 (i := 43) rfl) ?_
    refine G_lstore_n (L' := [(2, .inr (.inl (l2 + (((M 55 2) * r6) * (M7 66 (M7 63 l4)))))), (0, .inr (.inr 52)), (1, .inl l1), (4, .inl l4)]) rfl (mfx.lt mf202 (Nat.le_of_ble_eq_true rfl)) rfl (ck dc202 (i := 44) rfl) ?_
    refine G_iinc (L' := [(4, .inl (l4 + 1)), (2, .inr (.inl (l2 + (((M 55 2) * r6) * (M7 66 (M7 63 l4)))))), (0, .inr (.inr 52)), (1, .inl l1)]) 3 rfl (mfx.lt mf202 (Nat.le_of_ble_eq_true rfl)) rfl (ck dc202 (i := 45) rfl) ?_
    refine G_goto (tgt := 14) (by decide) (ck dc202 (i := 46) rfl) ?_
    exact G_sub [2, 3, 1, 0] rfl h
theorem c_m_determinant (K : Nat) (a1 a2 a3 : Int) (M : PM) (Q : Option PV → PM → Prop)
    (h : R32 a1 ∧ R32 (M 52 17) ∧ (¬ a1 = (M 52 17) → G none (K + 1) jModel_determinant 19 [(0, .inr (.inr 52)), (1, .inl a1), (2, .inl a2), (3, .inl a3), (4, .inr (.inl 0)), (6, .inr (.inl 1)), (8, .inl 0)] [] P0 P0 M Q) ∧ (a1 = (M 52 17) → Q (some (.inr (.inl 1))) M)) : Call (K + 1) jModel_determinant [.inr (.inr 52), .inl a1, .inl a2, .inl a3] P0 P0 M Q := by
  refine Call.intro (by decide +kernel) (mfx.le mf206 (Nat.le_of_ble_eq_true rfl)) (Nat.le_refl _) rfl ?_
  refine G_iload_n 1 rfl rfl (ck dc206 (i := 0) rfl) ?_
  refine G_aload_n 0 rfl rfl (ck dc206 (i := 1) rfl) ?_
  refine H_getI mf206 (ck dc206 (i := 2) rfl) fw_Model_158 (Or.inl fc11_17) ly52 ra52 (x := (M 52 17)) rfl ?_
  obtain ⟨o1, h⟩ := h
  obtain ⟨o2, h⟩ := h
  refine G_icmp_ne (tgt := 10) (by decide) o1 o2 (ck dc206 (i := 3) rfl) (fun c => ?_) (fun c => ?_)
  · replace h := h.1 c
    refine G_lconst (v := 0) rfl (ck dc206 (i := 6) rfl) ?_
    refine G_lstore (L' := [(4, .inr (.inl 0)), (0, .inr (.inr 52)), (1, .inl a1), (2, .inl a2), (3, .inl a3)]) (mfx.lt mf206 (Nat.le_of_ble_eq_true rfl)) rfl (ck dc206 (i := 7) rfl) ?_
    refine G_lconst (v := 1) rfl (ck dc206 (i := 8) rfl) ?_
    refine G_lstore (L' := [(6, .inr (.inl 1)), (4, .inr (.inl 0)), (0, .inr (.inr 52)), (1, .inl a1), (2, .inl a2), (3, .inl a3)]) (mfx.lt mf206 (Nat.le_of_ble_eq_true rfl)) rfl (ck dc206 (i := 9) rfl) ?_
    refine G_iconst (ck dc206 (i := 10) rfl) ?_
    refine G_istore (L' := [(8, .inl 0), (6, .inr (.inl 1)), (4, .inr (.inl 0)), (0, .inr (.inr 52)), (1, .inl a1), (2, .inl a2), (3, .inl a3)]) (mfx.lt mf206 (Nat.le_of_ble_eq_true rfl)) rfl (ck dc206 (i := 11) rfl) ?_
    exact G_sub [3, 4, 5, 6, 2, 1, 0] rfl h
  · replace h := h.2 c
    refine G_lconst (v := 1) rfl (ck dc206 (i := 4) rfl) ?_
    exact H_lret mf206 (ck dc206 (i := 5) rfl) rfl h
set_option maxHeartbeats 20000000 in
theorem g_m_determinant_19 (K : Nat) (l1 l2 l3 l4 l6 l8 : Int) (M : PM) (Q : Option PV → PM → Prop)
    (h : R32 l8 ∧ R32 (M 52 17) ∧ ((M 52 17) ≤ l8 → Q (some (.inr (.inl l4))) M) ∧ (¬ (M 52 17) ≤ l8 → Call K jModel_isIn [.inl l2, .inl l8] P0 P0 M (retI fun r3 M4 => R32 r3 ∧ (r3 = 0 → G none (K + 1) jModel_determinant 19 [(0, .inr (.inr 52)), (1, .inl l1), (2, .inl l2), (3, .inl l3), (4, .inr (.inl l4)), (6, .inr (.inl l6)), (8, .inl (l8 + 1))] [] P0 P0 M4 Q) ∧ (¬ r3 = 0 → R32 l3 ∧ (¬ l8 = l3 → (0 ≤ ((5 * l1) + l8) ∧ ((5 * l1) + l8) < 25) ∧ R64 (M4 64 ((5 * l1) + l8)) ∧ (¬ (M4 64 ((5 * l1) + l8)) = 0 → Call K jModel_determinant [.inr (.inr 52), .inl (l1 + 1), .inl (l2 - (bShl 1 l8)), .inl l3] P0 P0 M4 (retL fun r9 M10 => G none (K + 1) jModel_determinant 19 [(0, .inr (.inr 52)), (1, .inl l1), (2, .inl l2), (3, .inl l3), (4, .inr (.inl (l4 + ((l6 * (M4 64 ((5 * l1) + l8))) * r9)))), (6, .inr (.inl (-l6))), (8, .inl (l8 + 1))] [] P0 P0 M10 Q)) ∧ ((M4 64 ((5 * l1) + l8)) = 0 → G none (K + 1) jModel_determinant 19 [(0, .inr (.inr 52)), (1, .inl l1), (2, .inl l2), (3, .inl l3), (4, .inr (.inl (l4 + 0))), (6, .inr (.inl (-l6))), (8, .inl (l8 + 1))] [] P0 P0 M4 Q)) ∧ (l8 = l3 → (0 ≤ l1 ∧ l1 < 5) ∧ R64 (M4 65 l1) ∧ (¬ (M4 65 l1) = 0 → Call K jModel_determinant [.inr (.inr 52), .inl (l1 + 1), .inl (l2 - (bShl 1 l8)), .inl l3] P0 P0 M4 (retL fun r13 M14 => G none (K + 1) jModel_determinant 19 [(0, .inr (.inr 52)), (1, .inl l1), (2, .inl l2), (3, .inl l3), (4, .inr (.inl (l4 + ((l6 * (M4 65 l1)) * r13)))), (6, .inr (.inl (-l6))), (8, .inl (l8 + 1))] [] P0 P0 M14 Q)) ∧ ((M4 65 l1) = 0 → G none (K + 1) jModel_determinant 19 [(0, .inr (.inr 52)), (1, .inl l1), (2, .inl l2), (3, .inl l3), (4, .inr (.inl (l4 + 0))), (6, .inr (.inl (-l6))), (8, .inl (l8 + 1))] [] P0 P0 M4 Q)))))) : G none (K + 1) jModel_determinant 19 [(0, .inr (.inr 52)), (1, .inl l1), (2, .inl l2), (3, .inl l3), (4, .inr (.inl l4)), (6, .inr (.inl l6)), (8, .inl l8)] [] P0 P0 M Q := by
  refine G_iload 6 rfl (ck dc206 (i := 12) rfl) ?_
  refine G_aload_n 0 rfl rfl (ck dc206 (i := 13) rfl) ?_
  refine H_getI mf206 (ck dc206 (i := 14) rfl) fw_Model_158 (Or.inl fc11_17) ly52 ra52 (x := (M 52 17)) rfl ?_
  obtain ⟨o1, h⟩ := h
  obtain ⟨o2, h⟩ := h
  refine G_icmp_ge (tgt := 112) (by decide) o1 o2 (ck dc206 (i := 15) rfl) (fun c => ?_) (fun c => ?_)
  · replace h := h.1 c
    refine G_lload 4 rfl (ck dc206 (i := 66) rfl) ?_
    exact H_lret mf206 (ck dc206 (i := 67) rfl) rfl h
  · replace h := h.2 c
    refine G_iload_n 2 rfl rfl (ck dc206 (i := 16) rfl) ?_
    refine G_iload 6 rfl (ck dc206 (i := 17) rfl) ?_
    refine H_sZ mf206 (As := [.inl l2, .inl l8]) (st := []) (ck dc206 (i := 18) rfl) lk_Model_161 rfl rfl (Nat.le_of_ble_eq_true rfl) ⟨Nat.le_refl _, Nat.le_refl _⟩ h (fun r3 M4 h => ?_)
    obtain ⟨o5, h⟩ := h
    refine G_if_eq (tgt := 106) (by decide) o5 (ck dc206 (i := 19) rfl) (fun c => ?_) (fun c => ?_)
    · replace h := h.1 c
      refine G_iinc (L' := [(8, .inl (l8 + 1)), (0, .inr (.inr 52)), (1, .inl l1), (2, .inl l2), (3, .inl l3), (4, .inr (.inl l4)), (6, .inr (.inl l6))]) 6 rfl (mfx.lt mf206 (Nat.le_of_ble_eq_true rfl)) rfl (ck dc206 (i := 64) rfl) ?_
      refine G_goto (tgt := 19) (by decide) (ck dc206 (i := 65) rfl) ?_
      exact G_sub [1, 2, 3, 4, 5, 6, 0] rfl h
    · replace h := h.2 c
      refine G_iload 6 rfl (ck dc206 (i := 20) rfl) ?_
      refine G_iload_n 3 rfl rfl (ck dc206 (i := 21) rfl) ?_
      obtain ⟨o6, h⟩ := h
      refine G_icmp_ne (tgt := 52) (by decide) o1 o6 (ck dc206 (i := 22) rfl) (fun c => ?_) (fun c => ?_)
      · replace h := h.1 c
        refine G_aload_n 0 rfl rfl (ck dc206 (i := 28) rfl) ?_
        refine H_getR mf206 (ck dc206 (i := 29) rfl) fw_Model_56 fc11_18 ly52 ra52 rf52_18 (by decide) ?_
        refine G_iconst (ck dc206 (i := 30) rfl) ?_
        refine G_iload_n 1 rfl rfl (ck dc206 (i := 31) rfl) ?_
        refine G_imul (ck dc206 (i := 32) rfl) ?_
        refine G_iload 6 rfl (ck dc206 (i := 33) rfl) ?_
        refine G_iadd (ck dc206 (i := 34) rfl) ?_
        obtain ⟨o7, h⟩ := h
        refine H_lald (ck dc206 (i := 35) rfl) ly64 (by decide) ra64 o7 (x := (M4 64 ((5 * l1) + l8))) rfl ?_
        refine G_lstore (L' := [(9, .inr (.inl (M4 64 ((5 * l1) + l8)))), (0, .inr (.inr 52)), (1, .inl l1), (2, .inl l2), (3, .inl l3), (4, .inr (.inl l4)), (6, .inr (.inl l6)), (8, .inl l8)]) (mfx.lt mf206 (Nat.le_of_ble_eq_true rfl)) rfl (ck dc206 (i := 36) rfl) ?_
        refine G_lload 5 rfl (ck dc206 (i := 37) rfl) ?_
        refine G_lload 0 rfl (ck dc206 (i := 38) rfl) ?_
        refine G_lconst (v := 0) rfl (ck dc206 (i := 39) rfl) ?_
        obtain ⟨o8, h⟩ := h
        refine G_lif_ne (tgt := 78) (ck dc206 (i := 41) rfl) (by decide) o8 (by decide) (ck dc206 (i := 40) rfl) (fun c => ?_) (fun c => ?_)
        · replace h := h.1 c
          refine G_lload 6 rfl (ck dc206 (i := 44) rfl) ?_
          refine G_lload 0 rfl (ck dc206 (i := 45) rfl) ?_
          refine G_lmul (ck dc206 (i := 46) rfl) ?_
          refine G_aload_n 1 rfl rfl (ck dc206 (i := 47) rfl) ?_
          refine G_iload_n 2 rfl rfl (ck dc206 (i := 48) rfl) ?_
          refine G_iconst (ck dc206 (i := 49) rfl) ?_
          refine G_iadd (ck dc206 (i := 50) rfl) ?_
          refine G_iload_n 3 rfl rfl (ck dc206 (i := 51) rfl) ?_
          refine G_iconst (ck dc206 (i := 52) rfl) ?_
          refine G_iload 7 rfl (ck dc206 (i := 53) rfl) ?_
          refine G_ishl (ck dc206 (i := 54) rfl) ?_
          refine G_isub (ck dc206 (i := 55) rfl) ?_
          refine G_iload_n 4 rfl rfl (ck dc206 (i := 56) rfl) ?_
          refine H_vL mf206 (As := [.inl (l1 + 1), .inl (l2 - (bShl 1 l8)), .inl l3]) (st := [.inr (.inl (l6 * (M4 64 ((5 * l1) + l8)))), .inr (.inl l4)]) (ck dc206 (i := 57) rfl) lk_Model_164 rfl rfl (Nat.le_of_ble_eq_true rfl) ly52 ra52 ⟨Nat.le_refl _, Nat.le_refl _⟩ h (fun r9 M10 h => ?_)
          refine G_lmul (ck dc206 (i := 58) rfl) ?_
          refine G_ladd (ck dc206 (i := 59) rfl) ?_
          refine G_lstore (L' := [(4, .inr (.inl (l4 + ((l6 * (M4 64 ((5 * l1) + l8))) * r9)))), (9, .inr (.inl (M4 64 ((5 * l1) + l8)))), (0, .inr (.inr 52)), (1, .inl l1), (2, .inl l2), (3, .inl l3), (6, .inr (.inl l6)), (8, .inl l8)]) (mfx.lt mf206 (Nat.le_of_ble_eq_true rfl)) rfl (ck dc206 (i := 60) rfl) ?_
          refine G_lload 6 rfl (ck dc206 (i := 61) rfl) ?_
          refine G_lneg (ck dc206 (i := 62) rfl) ?_
          refine G_lstore (L' := [(6, .inr (.inl (-l6))), (4, .inr (.inl (l4 + ((l6 * (M4 64 ((5 * l1) + l8))) * r9)))), (9, .inr (.inl (M4 64 ((5 * l1) + l8)))), (0, .inr (.inr 52)), (1, .inl l1), (2, .inl l2), (3, .inl l3), (8, .inl l8)]) (mfx.lt mf206 (Nat.le_of_ble_eq_true rfl)) rfl (ck dc206 (i := 63) rfl) ?_
          refine G_iinc (L' := [(8, .inl (l8 + 1)), (6, .inr (.inl (-l6))), (4, .inr (.inl (l4 + ((l6 * (M4 64 ((5 * l1) + l8))) * r9)))), (9, .inr (.inl (M4 64 ((5 * l1) + l8)))), (0, .inr (.inr 52)), (1, .inl l1), (2, .inl l2), (3, .inl l3)]) 7 rfl (mfx.lt mf206 (Nat.le_of_ble_eq_true rfl)) rfl (ck dc206 (i := 64) rfl) ?_
          refine G_goto (tgt := 19) (by decide) (ck dc206 (i := 65) rfl) ?_
          exact G_sub [4, 5, 6, 7, 2, 1, 0] rfl h
        · replace h := h.2 c
          refine G_lconst (v := 0) rfl (ck dc206 (i := 42) rfl) ?_
          refine G_goto (tgt := 98) (by decide) (ck dc206 (i := 43) rfl) ?_
          refine G_ladd (ck dc206 (i := 59) rfl) ?_
          refine G_lstore (L' := [(4, .inr (.inl (l4 + 0))), (9, .inr (.inl (M4 64 ((5 * l1) + l8)))), (0, .inr (.inr 52)), (1, .inl l1), (2, .inl l2), (3, .inl l3), (6, .inr (.inl l6)), (8, .inl l8)]) (mfx.lt mf206 (Nat.le_of_ble_eq_true rfl)) rfl (ck dc206 (i := 60) rfl) ?_
          refine G_lload 6 rfl (ck dc206 (i := 61) rfl) ?_
          refine G_lneg (ck dc206 (i := 62) rfl) ?_
          refine G_lstore (L' := [(6, .inr (.inl (-l6))), (4, .inr (.inl (l4 + 0))), (9, .inr (.inl (M4 64 ((5 * l1) + l8)))), (0, .inr (.inr 52)), (1, .inl l1), (2, .inl l2), (3, .inl l3), (8, .inl l8)]) (mfx.lt mf206 (Nat.le_of_ble_eq_true rfl)) rfl (ck dc206 (i := 63) rfl) ?_
          refine G_iinc (L' := [(8, .inl (l8 + 1)), (6, .inr (.inl (-l6))), (4, .inr (.inl (l4 + 0))), (9, .inr (.inl (M4 64 ((5 * l1) + l8)))), (0, .inr (.inr 52)), (1, .inl l1), (2, .inl l2), (3, .inl l3)]) 7 rfl (mfx.lt mf206 (Nat.le_of_ble_eq_true rfl)) rfl (ck dc206 (i := 64) rfl) ?_
          refine G_goto (tgt := 19) (by decide) (ck dc206 (i := 65) rfl) ?_
          exact G_sub [4, 5, 6, 7, 2, 1, 0] rfl h
      · replace h := h.2 c
        refine G_aload_n 0 rfl rfl (ck dc206 (i := 23) rfl) ?_
        refine H_getR mf206 (ck dc206 (i := 24) rfl) fw_Model_59 fc11_19 ly52 ra52 rf52_19 (by decide) ?_
        refine G_iload_n 1 rfl rfl (ck dc206 (i := 25) rfl) ?_
        obtain ⟨o11, h⟩ := h
        refine H_lald (ck dc206 (i := 26) rfl) ly65 (by decide) ra65 o11 (x := (M4 65 l1)) rfl ?_
        refine G_goto (tgt := 63) (by decide) (ck dc206 (i := 27) rfl) ?_
        refine G_lstore (L' := [(9, .inr (.inl (M4 65 l1))), (0, .inr (.inr 52)), (1, .inl l1), (2, .inl l2), (3, .inl l3), (4, .inr (.inl l4)), (6, .inr (.inl l6)), (8, .inl l8)]) (mfx.lt mf206 (Nat.le_of_ble_eq_true rfl)) rfl (ck dc206 (i := 36) rfl) ?_
        refine G_lload 5 rfl (ck dc206 (i := 37) rfl) ?_
        refine G_lload 0 rfl (ck dc206 (i := 38) rfl) ?_
        refine G_lconst (v := 0) rfl (ck dc206 (i := 39) rfl) ?_
        obtain ⟨o12, h⟩ := h
        refine G_lif_ne (tgt := 78) (ck dc206 (i := 41) rfl) (by decide) o12 (by decide) (ck dc206 (i := 40) rfl) (fun c => ?_) (fun c => ?_)
        · replace h := h.1 c
          refine G_lload 6 rfl (ck dc206 (i := 44) rfl) ?_
          refine G_lload 0 rfl (ck dc206 (i := 45) rfl) ?_
          refine G_lmul (ck dc206 (i := 46) rfl) ?_
          refine G_aload_n 1 rfl rfl (ck dc206 (i := 47) rfl) ?_
          refine G_iload_n 2 rfl rfl (ck dc206 (i := 48) rfl) ?_
          refine G_iconst (ck dc206 (i := 49) rfl) ?_
          refine G_iadd (ck dc206 (i := 50) rfl) ?_
          refine G_iload_n 3 rfl rfl (ck dc206 (i := 51) rfl) ?_
          refine G_iconst (ck dc206 (i := 52) rfl) ?_
          refine G_iload 7 rfl (ck dc206 (i := 53) rfl) ?_
          refine G_ishl (ck dc206 (i := 54) rfl) ?_
          refine G_isub (ck dc206 (i := 55) rfl) ?_
          refine G_iload_n 4 rfl rfl (ck dc206 (i := 56) rfl) ?_
          refine H_vL mf206 (As := [.inl (l1 + 1), .inl (l2 - (bShl 1 l8)), .inl l3]) (st := [.inr (.inl (l6 * (M4 65 l1))), .inr (.inl l4)]) (ck dc206 (i := 57) rfl) lk_Model_164 rfl rfl (Nat.le_of_ble_eq_true rfl) ly52 ra52 ⟨Nat.le_refl _, Nat.le_refl _⟩ h (fun r13 M14 h => ?_)
          refine G_lmul (ck dc206 (i := 58) rfl) ?_
          refine G_ladd (ck dc206 (i := 59) rfl) ?_
          refine G_lstore (L' := [(4, .inr (.inl (l4 + ((l6 * (M4 65 l1)) * r13)))), (9, .inr (.inl (M4 65 l1))), (0, .inr (.inr 52)), (1, .inl l1), (2, .inl l2), (3, .inl l3), (6, .inr (.inl l6)), (8, .inl l8)]) (mfx.lt mf206 (Nat.le_of_ble_eq_true rfl)) rfl (ck dc206 (i := 60) rfl) ?_
          refine G_lload 6 rfl (ck dc206 (i := 61) rfl) ?_
          refine G_lneg (ck dc206 (i := 62) rfl) ?_
          refine G_lstore (L' := [(6, .inr (.inl (-l6))), (4, .inr (.inl (l4 + ((l6 * (M4 65 l1)) * r13)))), (9, .inr (.inl (M4 65 l1))), (0, .inr (.inr 52)), (1, .inl l1), (2, .inl l2), (3, .inl l3), (8, .inl l8)]) (mfx.lt mf206 (Nat.le_of_ble_eq_true rfl)) rfl (ck dc206 (i := 63) rfl) ?_
          refine G_iinc (L' := [(8, .inl (l8 + 1)), (6, .inr (.inl (-l6))), (4, .inr (.inl (l4 + ((l6 * (M4 65 l1)) * r13)))), (9, .inr (.inl (M4 65 l1))), (0, .inr (.inr 52)), (1, .inl l1), (2, .inl l2), (3, .inl l3)]) 7 rfl (mfx.lt mf206 (Nat.le_of_ble_eq_true rfl)) rfl (ck dc206 (i := 64) rfl) ?_
          refine G_goto (tgt := 19) (by decide) (ck dc206 (i := 65) rfl) ?_
          exact G_sub [4, 5, 6, 7, 2, 1, 0] rfl h
        · replace h := h.2 c
          refine G_lconst (v := 0) rfl (ck dc206 (i := 42) rfl) ?_
          refine G_goto (tgt := 98) (by decide) (ck dc206 (i := 43) rfl) ?_
          refine G_ladd (ck dc206 (i := 59) rfl) ?_
          refine G_lstore (L' := [(4, .inr (.inl (l4 + 0))), (9, .inr (.inl (M4 65 l1))), (0, .inr (.inr 52)), (1, .inl l1), (2, .inl l2), (3, .inl l3), (6, .inr (.inl l6)), (8, .inl l8)]) (mfx.lt mf206 (Nat.le_of_ble_eq_true rfl)) rfl (ck dc206 (i := 60) rfl) ?_
          refine G_lload 6 rfl (ck dc206 (i := 61) rfl) ?_
          refine G_lneg (ck dc206 (i := 62) rfl) ?_
          refine G_lstore (L' := [(6, .inr (.inl (-l6))), (4, .inr (.inl (l4 + 0))), (9, .inr (.inl (M4 65 l1))), (0, .inr (.inr 52)), (1, .inl l1), (2, .inl l2), (3, .inl l3), (8, .inl l8)]) (mfx.lt mf206 (Nat.le_of_ble_eq_true rfl)) rfl (ck dc206 (i := 63) rfl) ?_
          refine G_iinc (L' := [(8, .inl (l8 + 1)), (6, .inr (.inl (-l6))), (4, .inr (.inl (l4 + 0))), (9, .inr (.inl (M4 65 l1))), (0, .inr (.inr 52)), (1, .inl l1), (2, .inl l2), (3, .inl l3)]) 7 rfl (mfx.lt mf206 (Nat.le_of_ble_eq_true rfl)) rfl (ck dc206 (i := 64) rfl) ?_
          refine G_goto (tgt := 19) (by decide) (ck dc206 (i := 65) rfl) ?_
          exact G_sub [4, 5, 6, 7, 2, 1, 0] rfl h
