set_option maxHeartbeats 20000000 in
theorem c_m_lostOf (K : Nat) (a1 : Int) (M : PM) (Q : Option PV → PM → Prop)
    (h : Call K jModel_isIn [.inl (M 52 13), .inl a1] P0 P0 M (retI fun r1 M2 => R32 r1 ∧ (r1 = 0 → Q (some (.inr (.inl 0))) M2) ∧ (¬ r1 = 0 → R32 (M2 55 1) ∧ (0 ≤ a1 ∧ a1 < 5) ∧ R32 (M2 61 a1) ∧ (0 ≤ (M2 52 9) ∧ (M2 52 9) < 6) ∧ R32 (M2 55 2) ∧ Call K jModel_getsIn [.inr (.inr 52), .inl (M2 52 9), .inl a1] P0 P0 M2 (retL fun r9 M10 => Q (some (.inr (.inl ((((10 - (M2 55 1)) * (M2 61 a1)) * (M2 59 (M2 52 9))) + ((10 - (M2 55 2)) * r9))))) M10)))) : Call (K + 1) jModel_lostOf [.inr (.inr 52), .inl a1] P0 P0 M Q := by
  refine Call.intro (by decide +kernel) (mfx.le mf226 (Nat.le_of_ble_eq_true rfl)) (Nat.le_refl _) rfl ?_
  refine G_aload_n 0 rfl rfl (ck dc226 (i := 0) rfl) ?_
  refine H_getI mf226 (ck dc226 (i := 1) rfl) fw_Model_176 (Or.inl fc11_13) ly52 ra52 (x := (M 52 13)) rfl ?_
  refine G_iload_n 1 rfl rfl (ck dc226 (i := 2) rfl) ?_
  refine H_sZ mf226 (As := [.inl (M 52 13), .inl a1]) (st := []) (ck dc226 (i := 3) rfl) lk_Model_161 rfl rfl (Nat.le_of_ble_eq_true rfl) ⟨Nat.le_refl _, Nat.le_refl _⟩ h (fun r1 M2 h => ?_)
  obtain ⟨o3, h⟩ := h
  refine G_if_eq (tgt := 65) (by decide) o3 (ck dc226 (i := 4) rfl) (fun c => ?_) (fun c => ?_)
  · replace h := h.1 c
    refine G_lconst (v := 0) rfl (ck dc226 (i := 39) rfl) ?_
    exact H_lret mf226 (ck dc226 (i := 40) rfl) rfl h
  · replace h := h.2 c
    refine H_ldc2 mf226 (v := 10) (ck dc226 (i := 5) rfl) kl_Model_90 ?_
    refine G_aload_n 0 rfl rfl (ck dc226 (i := 6) rfl) ?_
    refine H_getR mf226 (ck dc226 (i := 7) rfl) fw_Model_5 fc11_3 ly52 ra52 rf52_3 (by decide) ?_
    refine G_iconst (ck dc226 (i := 8) rfl) ?_
    refine H_iald (ck dc226 (i := 9) rfl) ly55 (by decide) ra55 (by decide) (x := (M2 55 1)) rfl ?_
    obtain ⟨o4, h⟩ := h
    refine G_i2l o4 (ck dc226 (i := 10) rfl) ?_
    refine G_lsub (ck dc226 (i := 11) rfl) ?_
    refine G_aload_n 0 rfl rfl (ck dc226 (i := 12) rfl) ?_
    refine H_getR mf226 (ck dc226 (i := 13) rfl) fw_Model_47 fc11_14 ly52 ra52 rf52_14 (by decide) ?_
    refine G_iload_n 1 rfl rfl (ck dc226 (i := 14) rfl) ?_
    obtain ⟨o5, h⟩ := h
    refine H_iald (ck dc226 (i := 15) rfl) ly61 (by decide) ra61 o5 (x := (M2 61 a1)) rfl ?_
    obtain ⟨o6, h⟩ := h
    refine G_i2l o6 (ck dc226 (i := 16) rfl) ?_
    refine G_lmul (ck dc226 (i := 17) rfl) ?_
    refine G_aload_n 0 rfl rfl (ck dc226 (i := 18) rfl) ?_
    refine H_getR mf226 (ck dc226 (i := 19) rfl) fw_Model_41 fc11_11 ly52 ra52 rf52_11 (by decide) ?_
    refine G_aload_n 0 rfl rfl (ck dc226 (i := 20) rfl) ?_
    refine H_getI mf226 (ck dc226 (i := 21) rfl) fw_Model_206 (Or.inl fc11_9) ly52 ra52 (x := (M2 52 9)) rfl ?_
    obtain ⟨o7, h⟩ := h
    refine H_lald (ck dc226 (i := 22) rfl) ly59 (by decide) ra59 o7 (x := (M2 59 (M2 52 9))) rfl ?_
    refine G_lmul (ck dc226 (i := 23) rfl) ?_
    refine H_ldc2 mf226 (v := 10) (ck dc226 (i := 24) rfl) kl_Model_90 ?_
    refine G_aload_n 0 rfl rfl (ck dc226 (i := 25) rfl) ?_
    refine H_getR mf226 (ck dc226 (i := 26) rfl) fw_Model_5 fc11_3 ly52 ra52 rf52_3 (by decide) ?_
    refine G_iconst (ck dc226 (i := 27) rfl) ?_
    refine H_iald (ck dc226 (i := 28) rfl) ly55 (by decide) ra55 (by decide) (x := (M2 55 2)) rfl ?_
    obtain ⟨o8, h⟩ := h
    refine G_i2l o8 (ck dc226 (i := 29) rfl) ?_
    refine G_lsub (ck dc226 (i := 30) rfl) ?_
    refine G_aload_n 0 rfl rfl (ck dc226 (i := 31) rfl) ?_
    refine G_aload_n 0 rfl rfl (ck dc226 (i := 32) rfl) ?_
    refine H_getI mf226 (ck dc226 (i := 33) rfl) fw_Model_206 (Or.inl fc11_9) ly52 ra52 (x := (M2 52 9)) rfl ?_
    refine G_iload_n 1 rfl rfl (ck dc226 (i := 34) rfl) ?_
    refine H_vL mf226 (As := [.inl (M2 52 9), .inl a1]) (st := [.inr (.inl (10 - (M2 55 2))), .inr (.inl (((10 - (M2 55 1)) * (M2 61 a1)) * (M2 59 (M2 52 9))))]) (ck dc226 (i := 35) rfl) lk_Model_202 rfl rfl (Nat.le_of_ble_eq_true rfl) ly52 ra52 ⟨Nat.le_refl _, Nat.le_refl _⟩ h (fun r9 M10 h => ?_)
    refine G_lmul (ck dc226 (i := 36) rfl) ?_
    refine G_ladd (ck dc226 (i := 37) rfl) ?_
    refine G_goto (tgt := 66) (by decide) (ck dc226 (i := 38) rfl) ?_
    exact H_lret mf226 (ck dc226 (i := 40) rfl) rfl h
theorem c_m_lost (K : Nat) (a1 a2 : Int) (M : PM) (Q : Option PV → PM → Prop)
    (h : Call K jModel_isHouse [.inr (.inr 52), .inl a1] P0 P0 M (retI fun r1 M2 => R32 r1 ∧ (r1 = 0 → Q (some (.inr (.inl (-9223372036854775808)))) M2) ∧ (¬ r1 = 0 → Call K jModel_isSide [.inl a2] P0 P0 M2 (retI fun r4 M5 => R32 r4 ∧ (¬ r4 = 0 → Call K jModel_clears [.inr (.inr 52)] P0 P0 M5 (retV fun M8 => Call K jModel_lostOf [.inr (.inr 52), .inl a1] P0 P0 M8 (retL fun r9 M10 => (0 ≤ (M10 52 9) ∧ (M10 52 9) < 6) ∧ Call K jModel_lowest [.inr (.inl r9), .inr (.inl (10 * (M10 59 (M10 52 9)))), .inl a2] P0 P0 M10 (retL fun r12 M13 => Q (some (.inr (.inl r12))) M13)))) ∧ (r4 = 0 → Q (some (.inr (.inl (-9223372036854775808)))) M5))))) : Call (K + 1) jModel_lost [.inr (.inr 52), .inl a1, .inl a2] P0 P0 M Q := by
  refine Call.intro (by decide +kernel) (mfx.le mf225 (Nat.le_of_ble_eq_true rfl)) (Nat.le_refl _) rfl ?_
  refine G_aload_n 0 rfl rfl (ck dc225 (i := 0) rfl) ?_
  refine G_iload_n 1 rfl rfl (ck dc225 (i := 1) rfl) ?_
  refine H_vZ mf225 (As := [.inl a1]) (st := []) (ck dc225 (i := 2) rfl) lk_Model_13 rfl rfl (Nat.le_of_ble_eq_true rfl) ly52 ra52 ⟨Nat.le_refl _, Nat.le_refl _⟩ h (fun r1 M2 h => ?_)
  obtain ⟨o3, h⟩ := h
  refine G_if_eq (tgt := 15) (by decide) o3 (ck dc225 (i := 3) rfl) (fun c => ?_) (fun c => ?_)
  · replace h := h.1 c
    refine H_ldc2 mf225 (v := (-9223372036854775808)) (ck dc225 (i := 7) rfl) kl_Model_240 ?_
    exact H_lret mf225 (ck dc225 (i := 8) rfl) rfl h
  · replace h := h.2 c
    refine G_iload_n 2 rfl rfl (ck dc225 (i := 4) rfl) ?_
    refine H_sZ mf225 (As := [.inl a2]) (st := []) (ck dc225 (i := 5) rfl) lk_Model_237 rfl rfl (Nat.le_of_ble_eq_true rfl) ⟨Nat.le_refl _, Nat.le_refl _⟩ h (fun r4 M5 h => ?_)
    obtain ⟨o6, h⟩ := h
    refine G_if_ne (tgt := 19) (by decide) o6 (ck dc225 (i := 6) rfl) (fun c => ?_) (fun c => ?_)
    · replace h := h.1 c
      refine G_aload_n 0 rfl rfl (ck dc225 (i := 9) rfl) ?_
      refine H_vV mf225 (As := []) (st := []) (ck dc225 (i := 10) rfl) lk_Model_230 rfl rfl (Nat.le_of_ble_eq_true rfl) ly52 ra52 ⟨Nat.le_refl _, Nat.le_refl _⟩ h (fun M8 h => ?_)
      refine G_aload_n 0 rfl rfl (ck dc225 (i := 11) rfl) ?_
      refine G_iload_n 1 rfl rfl (ck dc225 (i := 12) rfl) ?_
      refine H_vL mf225 (As := [.inl a1]) (st := []) (ck dc225 (i := 13) rfl) lk_Model_249 rfl rfl (Nat.le_of_ble_eq_true rfl) ly52 ra52 ⟨Nat.le_refl _, Nat.le_refl _⟩ h (fun r9 M10 h => ?_)
      refine H_ldc2 mf225 (v := 10) (ck dc225 (i := 14) rfl) kl_Model_90 ?_
      refine G_aload_n 0 rfl rfl (ck dc225 (i := 15) rfl) ?_
      refine H_getR mf225 (ck dc225 (i := 16) rfl) fw_Model_41 fc11_11 ly52 ra52 rf52_11 (by decide) ?_
      refine G_aload_n 0 rfl rfl (ck dc225 (i := 17) rfl) ?_
      refine H_getI mf225 (ck dc225 (i := 18) rfl) fw_Model_206 (Or.inl fc11_9) ly52 ra52 (x := (M10 52 9)) rfl ?_
      obtain ⟨o11, h⟩ := h
      refine H_lald (ck dc225 (i := 19) rfl) ly59 (by decide) ra59 o11 (x := (M10 59 (M10 52 9))) rfl ?_
      refine G_lmul (ck dc225 (i := 20) rfl) ?_
      refine G_iload_n 2 rfl rfl (ck dc225 (i := 21) rfl) ?_
      refine H_sL mf225 (As := [.inr (.inl r9), .inr (.inl (10 * (M10 59 (M10 52 9)))), .inl a2]) (st := []) (ck dc225 (i := 22) rfl) lk_Model_242 rfl rfl (Nat.le_of_ble_eq_true rfl) ⟨Nat.le_refl _, Nat.le_refl _⟩ h (fun r12 M13 h => ?_)
      exact H_lret mf225 (ck dc225 (i := 23) rfl) rfl h
    · replace h := h.2 c
      refine H_ldc2 mf225 (v := (-9223372036854775808)) (ck dc225 (i := 7) rfl) kl_Model_240 ?_
      exact H_lret mf225 (ck dc225 (i := 8) rfl) rfl h
theorem c_m_lacksIn (K : Nat) (a1 a2 a3 : Int) (M : PM) (Q : Option PV → PM → Prop)
    (h : G none (K + 1) jModel_lacksIn 6 [(0, .inr (.inr 52)), (1, .inl a1), (2, .inl a2), (3, .inl a3), (4, .inr (.inl 0)), (6, .inl 0)] [] P0 P0 M Q) : Call (K + 1) jModel_lacksIn [.inr (.inr 52), .inl a1, .inl a2, .inl a3] P0 P0 M Q := by
  refine Call.intro (by decide +kernel) (mfx.le mf228 (Nat.le_of_ble_eq_true rfl)) (Nat.le_refl _) rfl ?_
  refine G_lconst (v := 0) rfl (ck dc228 (i := 0) rfl) ?_
  refine G_lstore (L' := [(4, .inr (.inl 0)), (0, .inr (.inr 52)), (1, .inl a1), (2, .inl a2), (3, .inl a3)]) (mfx.lt mf228 (Nat.le_of_ble_eq_true rfl)) rfl (ck dc228 (i := 1) rfl) ?_
  refine G_iconst (ck dc228 (i := 2) rfl) ?_
  refine G_istore (L' := [(6, .inl 0), (4, .inr (.inl 0)), (0, .inr (.inr 52)), (1, .inl a1), (2, .inl a2), (3, .inl a3)]) (mfx.lt mf228 (Nat.le_of_ble_eq_true rfl)) rfl (ck dc228 (i := 3) rfl) ?_
  exact G_sub [2, 3, 4, 5, 1, 0] rfl h
theorem g_m_lacksIn_6 (K : Nat) (l1 l2 l3 l4 l6 : Int) (M : PM) (Q : Option PV → PM → Prop)
    (h : R32 l6 ∧ (3 ≤ l6 → Q (some (.inr (.inl l4))) M) ∧ (¬ 3 ≤ l6 → Call K jModel_owes [.inr (.inr 52), .inl l3, .inl l2, .inl l6] P0 P0 M (retI fun r2 M3 => R32 r2 ∧ (0 ≤ l1 ∧ l1 < 6) ∧ Call K jModel_partAt [.inr (.inr 52), .inl l1, .inl l3, .inl l6] P0 P0 M3 (retL fun r6 M7 => G none (K + 1) jModel_lacksIn 6 [(0, .inr (.inr 52)), (1, .inl l1), (2, .inl l2), (3, .inl l3), (4, .inr (.inl (l4 + (r2 * ((M3 59 l1) - r6))))), (6, .inl (l6 + 1))] [] P0 P0 M7 Q)))) : G none (K + 1) jModel_lacksIn 6 [(0, .inr (.inr 52)), (1, .inl l1), (2, .inl l2), (3, .inl l3), (4, .inr (.inl l4)), (6, .inl l6)] [] P0 P0 M Q := by
  refine G_iload 5 rfl (ck dc228 (i := 4) rfl) ?_
  refine G_iconst (ck dc228 (i := 5) rfl) ?_
  obtain ⟨o1, h⟩ := h
  refine G_icmp_ge (tgt := 48) (by decide) o1 (by decide) (ck dc228 (i := 6) rfl) (fun c => ?_) (fun c => ?_)
  · replace h := h.1 c
    refine G_lload 4 rfl (ck dc228 (i := 29) rfl) ?_
    exact H_lret mf228 (ck dc228 (i := 30) rfl) rfl h
  · replace h := h.2 c
    refine G_lload 4 rfl (ck dc228 (i := 7) rfl) ?_
    refine G_aload_n 0 rfl rfl (ck dc228 (i := 8) rfl) ?_
    refine G_iload_n 3 rfl rfl (ck dc228 (i := 9) rfl) ?_
    refine G_iload_n 2 rfl rfl (ck dc228 (i := 10) rfl) ?_
    refine G_iload 5 rfl (ck dc228 (i := 11) rfl) ?_
    refine H_vI mf228 (As := [.inl l3, .inl l2, .inl l6]) (st := [.inr (.inl l4)]) (ck dc228 (i := 12) rfl) lk_Model_103 rfl rfl (Nat.le_of_ble_eq_true rfl) ly52 ra52 ⟨Nat.le_refl _, Nat.le_refl _⟩ h (fun r2 M3 h => ?_)
    obtain ⟨o4, h⟩ := h
    refine G_i2l o4 (ck dc228 (i := 13) rfl) ?_
    refine G_aload_n 0 rfl rfl (ck dc228 (i := 14) rfl) ?_
    refine H_getR mf228 (ck dc228 (i := 15) rfl) fw_Model_41 fc11_11 ly52 ra52 rf52_11 (by decide) ?_
    refine G_iload_n 1 rfl rfl (ck dc228 (i := 16) rfl) ?_
    obtain ⟨o5, h⟩ := h
    refine H_lald (ck dc228 (i := 17) rfl) ly59 (by decide) ra59 o5 (x := (M3 59 l1)) rfl ?_
    refine G_aload_n 0 rfl rfl (ck dc228 (i := 18) rfl) ?_
    refine G_iload_n 1 rfl rfl (ck dc228 (i := 19) rfl) ?_
    refine G_iload_n 3 rfl rfl (ck dc228 (i := 20) rfl) ?_
    refine G_iload 5 rfl (ck dc228 (i := 21) rfl) ?_
    refine H_vL mf228 (As := [.inl l1, .inl l3, .inl l6]) (st := [.inr (.inl (M3 59 l1)), .inr (.inl r2), .inr (.inl l4)]) (ck dc228 (i := 22) rfl) lk_Model_199 rfl rfl (Nat.le_of_ble_eq_true rfl) ly52 ra52 ⟨Nat.le_refl _, Nat.le_refl _⟩ h (fun r6 M7 h => ?_)
    refine G_lsub (ck dc228 (i := 23) rfl) ?_
    refine G_lmul (ck dc228 (i := 24) rfl) ?_
    refine G_ladd (ck dc228 (i := 25) rfl) ?_
    refine G_lstore (L' := [(4, .inr (.inl (l4 + (r2 * ((M3 59 l1) - r6))))), (0, .inr (.inr 52)), (1, .inl l1), (2, .inl l2), (3, .inl l3), (6, .inl l6)]) (mfx.lt mf228 (Nat.le_of_ble_eq_true rfl)) rfl (ck dc228 (i := 26) rfl) ?_
    refine G_iinc (L' := [(6, .inl (l6 + 1)), (4, .inr (.inl (l4 + (r2 * ((M3 59 l1) - r6))))), (0, .inr (.inr 52)), (1, .inl l1), (2, .inl l2), (3, .inl l3)]) 5 rfl (mfx.lt mf228 (Nat.le_of_ble_eq_true rfl)) rfl (ck dc228 (i := 27) rfl) ?_
    refine G_goto (tgt := 6) (by decide) (ck dc228 (i := 28) rfl) ?_
    exact G_sub [2, 3, 4, 5, 1, 0] rfl h
theorem c_m_lacks (K : Nat) (a1 a2 a3 : Int) (M : PM) (Q : Option PV → PM → Prop)
    (h : Call K jModel_arePair [.inr (.inr 52), .inl a1, .inl a2] P0 P0 M (retI fun r1 M2 => R32 r1 ∧ (r1 = 0 → Q (some (.inr (.inl (-9223372036854775808)))) M2) ∧ (¬ r1 = 0 → Call K jModel_isSide [.inl a3] P0 P0 M2 (retI fun r4 M5 => R32 r4 ∧ (¬ r4 = 0 → Call K jModel_clears [.inr (.inr 52)] P0 P0 M5 (retV fun M8 => Call K jModel_lacksIn [.inr (.inr 52), .inl (M8 52 9), .inl a1, .inl a2] P0 P0 M8 (retL fun r9 M10 => (0 ≤ (M10 52 9) ∧ (M10 52 9) < 6) ∧ Call K jModel_lowest [.inr (.inl r9), .inr (.inl (M10 59 (M10 52 9))), .inl a3] P0 P0 M10 (retL fun r12 M13 => Q (some (.inr (.inl r12))) M13)))) ∧ (r4 = 0 → Q (some (.inr (.inl (-9223372036854775808)))) M5))))) : Call (K + 1) jModel_lacks [.inr (.inr 52), .inl a1, .inl a2, .inl a3] P0 P0 M Q := by
  refine Call.intro (by decide +kernel) (mfx.le mf227 (Nat.le_of_ble_eq_true rfl)) (Nat.le_refl _) rfl ?_
  refine G_aload_n 0 rfl rfl (ck dc227 (i := 0) rfl) ?_
  refine G_iload_n 1 rfl rfl (ck dc227 (i := 1) rfl) ?_
  refine G_iload_n 2 rfl rfl (ck dc227 (i := 2) rfl) ?_
  refine H_vZ mf227 (As := [.inl a1, .inl a2]) (st := []) (ck dc227 (i := 3) rfl) lk_Model_117 rfl rfl (Nat.le_of_ble_eq_true rfl) ly52 ra52 ⟨Nat.le_refl _, Nat.le_refl _⟩ h (fun r1 M2 h => ?_)
  obtain ⟨o3, h⟩ := h
  refine G_if_eq (tgt := 16) (by decide) o3 (ck dc227 (i := 4) rfl) (fun c => ?_) (fun c => ?_)
  · replace h := h.1 c
    refine H_ldc2 mf227 (v := (-9223372036854775808)) (ck dc227 (i := 8) rfl) kl_Model_240 ?_
    exact H_lret mf227 (ck dc227 (i := 9) rfl) rfl h
  · replace h := h.2 c
    refine G_iload_n 3 rfl rfl (ck dc227 (i := 5) rfl) ?_
    refine H_sZ mf227 (As := [.inl a3]) (st := []) (ck dc227 (i := 6) rfl) lk_Model_237 rfl rfl (Nat.le_of_ble_eq_true rfl) ⟨Nat.le_refl _, Nat.le_refl _⟩ h (fun r4 M5 h => ?_)
    obtain ⟨o6, h⟩ := h
    refine G_if_ne (tgt := 20) (by decide) o6 (ck dc227 (i := 7) rfl) (fun c => ?_) (fun c => ?_)
    · replace h := h.1 c
      refine G_aload_n 0 rfl rfl (ck dc227 (i := 10) rfl) ?_
      refine H_vV mf227 (As := []) (st := []) (ck dc227 (i := 11) rfl) lk_Model_230 rfl rfl (Nat.le_of_ble_eq_true rfl) ly52 ra52 ⟨Nat.le_refl _, Nat.le_refl _⟩ h (fun M8 h => ?_)
      refine G_aload_n 0 rfl rfl (ck dc227 (i := 12) rfl) ?_
      refine G_aload_n 0 rfl rfl (ck dc227 (i := 13) rfl) ?_
      refine H_getI mf227 (ck dc227 (i := 14) rfl) fw_Model_206 (Or.inl fc11_9) ly52 ra52 (x := (M8 52 9)) rfl ?_
      refine G_iload_n 1 rfl rfl (ck dc227 (i := 15) rfl) ?_
      refine G_iload_n 2 rfl rfl (ck dc227 (i := 16) rfl) ?_
      refine H_vL mf227 (As := [.inl (M8 52 9), .inl a1, .inl a2]) (st := []) (ck dc227 (i := 17) rfl) lk_Model_252 rfl rfl (Nat.le_of_ble_eq_true rfl) ly52 ra52 ⟨Nat.le_refl _, Nat.le_refl _⟩ h (fun r9 M10 h => ?_)
      refine G_aload_n 0 rfl rfl (ck dc227 (i := 18) rfl) ?_
      refine H_getR mf227 (ck dc227 (i := 19) rfl) fw_Model_41 fc11_11 ly52 ra52 rf52_11 (by decide) ?_
      refine G_aload_n 0 rfl rfl (ck dc227 (i := 20) rfl) ?_
      refine H_getI mf227 (ck dc227 (i := 21) rfl) fw_Model_206 (Or.inl fc11_9) ly52 ra52 (x := (M10 52 9)) rfl ?_
      obtain ⟨o11, h⟩ := h
      refine H_lald (ck dc227 (i := 22) rfl) ly59 (by decide) ra59 o11 (x := (M10 59 (M10 52 9))) rfl ?_
      refine G_iload_n 3 rfl rfl (ck dc227 (i := 23) rfl) ?_
      refine H_sL mf227 (As := [.inr (.inl r9), .inr (.inl (M10 59 (M10 52 9))), .inl a3]) (st := []) (ck dc227 (i := 24) rfl) lk_Model_242 rfl rfl (Nat.le_of_ble_eq_true rfl) ⟨Nat.le_refl _, Nat.le_refl _⟩ h (fun r12 M13 h => ?_)
      exact H_lret mf227 (ck dc227 (i := 25) rfl) rfl h
    · replace h := h.2 c
      refine H_ldc2 mf227 (v := (-9223372036854775808)) (ck dc227 (i := 8) rfl) kl_Model_240 ?_
      exact H_lret mf227 (ck dc227 (i := 9) rfl) rfl h
theorem c_m_allPaid (K : Nat) (M : PM) (Q : Option PV → PM → Prop)
    (h : G none (K + 1) jModel_allPaid 4 [(0, .inr (.inr 52)), (1, .inr (.inl 0)), (3, .inl 0)] [] P0 P0 M Q) : Call (K + 1) jModel_allPaid [.inr (.inr 52)] P0 P0 M Q := by
  refine Call.intro (by decide +kernel) (mfx.le mf230 (Nat.le_of_ble_eq_true rfl)) (Nat.le_refl _) rfl ?_
  refine G_lconst (v := 0) rfl (ck dc230 (i := 0) rfl) ?_
  refine G_lstore_n (L' := [(1, .inr (.inl 0)), (0, .inr (.inr 52))]) rfl (mfx.lt mf230 (Nat.le_of_ble_eq_true rfl)) rfl (ck dc230 (i := 1) rfl) ?_
  refine G_iconst (ck dc230 (i := 2) rfl) ?_
  refine G_istore_n (L' := [(3, .inl 0), (1, .inr (.inl 0)), (0, .inr (.inr 52))]) rfl (mfx.lt mf230 (Nat.le_of_ble_eq_true rfl)) rfl (ck dc230 (i := 3) rfl) ?_
  exact G_sub [2, 1, 0] rfl h
theorem g_m_allPaid_4 (K : Nat) (l1 l3 : Int) (M : PM) (Q : Option PV → PM → Prop)
    (h : R32 l3 ∧ R32 (M 55 0) ∧ ((M 55 0) ≤ l3 → Q (some (.inr (.inl l1))) M) ∧ (¬ (M 55 0) ≤ l3 → Call K jModel_getsIn [.inr (.inr 52), .inl (M 52 9), .inl l3] P0 P0 M (retL fun r3 M4 => G none (K + 1) jModel_allPaid 4 [(0, .inr (.inr 52)), (1, .inr (.inl (l1 + r3))), (3, .inl (l3 + 1))] [] P0 P0 M4 Q))) : G none (K + 1) jModel_allPaid 4 [(0, .inr (.inr 52)), (1, .inr (.inl l1)), (3, .inl l3)] [] P0 P0 M Q := by
  refine G_iload_n 2 rfl rfl (ck dc230 (i := 4) rfl) ?_
  refine G_aload_n 0 rfl rfl (ck dc230 (i := 5) rfl) ?_
  refine H_getR mf230 (ck dc230 (i := 6) rfl) fw_Model_5 fc11_3 ly52 ra52 rf52_3 (by decide) ?_
  refine G_iconst (ck dc230 (i := 7) rfl) ?_
  refine H_iald (ck dc230 (i := 8) rfl) ly55 (by decide) ra55 (by decide) (x := (M 55 0)) rfl ?_
  obtain ⟨o1, h⟩ := h
  obtain ⟨o2, h⟩ := h
  refine G_icmp_ge (tgt := 32) (by decide) o1 o2 (ck dc230 (i := 9) rfl) (fun c => ?_) (fun c => ?_)
  · replace h := h.1 c
    refine G_lload_n 1 rfl rfl (ck dc230 (i := 20) rfl) ?_
    exact H_lret mf230 (ck dc230 (i := 21) rfl) rfl h
  · replace h := h.2 c
    refine G_lload_n 1 rfl rfl (ck dc230 (i := 10) rfl) ?_
    refine G_aload_n 0 rfl rfl (ck dc230 (i := 11) rfl) ?_
    refine G_aload_n 0 rfl rfl (ck dc230 (i := 12) rfl) ?_
    refine H_getI mf230 (ck dc230 (i := 13) rfl) fw_Model_206 (Or.inl fc11_9) ly52 ra52 (x := (M 52 9)) rfl ?_
    refine G_iload_n 2 rfl rfl (ck dc230 (i := 14) rfl) ?_
    refine H_vL mf230 (As := [.inl (M 52 9), .inl l3]) (st := [.inr (.inl l1)]) (ck dc230 (i := 15) rfl) lk_Model_202 rfl rfl (Nat.le_of_ble_eq_true rfl) ly52 ra52 ⟨Nat.le_refl _, Nat.le_refl _⟩ h (fun r3 M4 h => ?_)
    refine G_ladd (ck dc230 (i := 16) rfl) ?_
    refine G_lstore_n (L' := [(1, .inr (.inl (l1 + r3))), (0, .inr (.inr 52)), (3, .inl l3)]) rfl (mfx.lt mf230 (Nat.le_of_ble_eq_true rfl)) rfl (ck dc230 (i := 17) rfl) ?_
    refine G_iinc (L' := [(3, .inl (l3 + 1)), (1, .inr (.inl (l1 + r3))), (0, .inr (.inr 52))]) 2 rfl (mfx.lt mf230 (Nat.le_of_ble_eq_true rfl)) rfl (ck dc230 (i := 18) rfl) ?_
    refine G_goto (tgt := 4) (by decide) (ck dc230 (i := 19) rfl) ?_
    exact G_sub [2, 1, 0] rfl h
theorem c_m_all (K : Nat) (a1 a2 : Int) (M : PM) (Q : Option PV → PM → Prop)
    (h : R32 a1 ∧ Call K jModel_within [.inr (.inl a1), .inr (.inl 0), .inr (.inl 2)] P0 P0 M (retI fun r2 M3 => R32 r2 ∧ (r2 = 0 → Q (some (.inr (.inl (-9223372036854775808)))) M3) ∧ (¬ r2 = 0 → Call K jModel_isSide [.inl a2] P0 P0 M3 (retI fun r5 M6 => R32 r5 ∧ (¬ r5 = 0 → Call K jModel_clears [.inr (.inr 52)] P0 P0 M6 (retV fun M9 => (¬ a1 = 0 → G none (K + 1) jModel_all 54 [(0, .inr (.inr 52)), (1, .inl a1), (2, .inl a2), (3, .inr (.inl 0)), (5, .inl 0)] [] P0 P0 M9 Q) ∧ (a1 = 0 → Call K jModel_allPaid [.inr (.inr 52)] P0 P0 M9 (retL fun r10 M11 => (0 ≤ (M11 52 9) ∧ (M11 52 9) < 6) ∧ Call K jModel_lowest [.inr (.inl r10), .inr (.inl (M11 59 (M11 52 9))), .inl a2] P0 P0 M11 (retL fun r13 M14 => Q (some (.inr (.inl r13))) M14))))) ∧ (r5 = 0 → Q (some (.inr (.inl (-9223372036854775808)))) M6))))) : Call (K + 1) jModel_all [.inr (.inr 52), .inl a1, .inl a2] P0 P0 M Q := by
  refine Call.intro (by decide +kernel) (mfx.le mf229 (Nat.le_of_ble_eq_true rfl)) (Nat.le_refl _) rfl ?_
  refine G_iload_n 1 rfl rfl (ck dc229 (i := 0) rfl) ?_
  obtain ⟨o1, h⟩ := h
  refine G_i2l o1 (ck dc229 (i := 1) rfl) ?_
  refine G_lconst (v := 0) rfl (ck dc229 (i := 2) rfl) ?_
  refine H_ldc2 mf229 (v := 2) (ck dc229 (i := 3) rfl) kl_Model_17 ?_
  refine H_sZ mf229 (As := [.inr (.inl a1), .inr (.inl 0), .inr (.inl 2)]) (st := []) (ck dc229 (i := 4) rfl) lk_Model_9 rfl rfl (Nat.le_of_ble_eq_true rfl) ⟨Nat.le_refl _, Nat.le_refl _⟩ h (fun r2 M3 h => ?_)
  obtain ⟨o4, h⟩ := h
  refine G_if_eq (tgt := 19) (by decide) o4 (ck dc229 (i := 5) rfl) (fun c => ?_) (fun c => ?_)
  · replace h := h.1 c
    refine H_ldc2 mf229 (v := (-9223372036854775808)) (ck dc229 (i := 9) rfl) kl_Model_240 ?_
    exact H_lret mf229 (ck dc229 (i := 10) rfl) rfl h
  · replace h := h.2 c
    refine G_iload_n 2 rfl rfl (ck dc229 (i := 6) rfl) ?_
    refine H_sZ mf229 (As := [.inl a2]) (st := []) (ck dc229 (i := 7) rfl) lk_Model_237 rfl rfl (Nat.le_of_ble_eq_true rfl) ⟨Nat.le_refl _, Nat.le_refl _⟩ h (fun r5 M6 h => ?_)
    obtain ⟨o7, h⟩ := h
    refine G_if_ne (tgt := 23) (by decide) o7 (ck dc229 (i := 8) rfl) (fun c => ?_) (fun c => ?_)
    · replace h := h.1 c
      refine G_aload_n 0 rfl rfl (ck dc229 (i := 11) rfl) ?_
      refine H_vV mf229 (As := []) (st := []) (ck dc229 (i := 12) rfl) lk_Model_230 rfl rfl (Nat.le_of_ble_eq_true rfl) ly52 ra52 ⟨Nat.le_refl _, Nat.le_refl _⟩ h (fun M9 h => ?_)
      refine G_iload_n 1 rfl rfl (ck dc229 (i := 13) rfl) ?_
      refine G_if_ne (tgt := 49) (by decide) o1 (ck dc229 (i := 14) rfl) (fun c => ?_) (fun c => ?_)
      · replace h := h.1 c
        refine G_lconst (v := 0) rfl (ck dc229 (i := 25) rfl) ?_
        refine G_lstore_n (L' := [(3, .inr (.inl 0)), (0, .inr (.inr 52)), (1, .inl a1), (2, .inl a2)]) rfl (mfx.lt mf229 (Nat.le_of_ble_eq_true rfl)) rfl (ck dc229 (i := 26) rfl) ?_
        refine G_iconst (ck dc229 (i := 27) rfl) ?_
        refine G_istore (L' := [(5, .inl 0), (3, .inr (.inl 0)), (0, .inr (.inr 52)), (1, .inl a1), (2, .inl a2)]) (mfx.lt mf229 (Nat.le_of_ble_eq_true rfl)) rfl (ck dc229 (i := 28) rfl) ?_
        exact G_sub [2, 3, 4, 1, 0] rfl h
      · replace h := h.2 c
        refine G_aload_n 0 rfl rfl (ck dc229 (i := 15) rfl) ?_
        refine H_vL mf229 (As := []) (st := []) (ck dc229 (i := 16) rfl) lk_Model_255 rfl rfl (Nat.le_of_ble_eq_true rfl) ly52 ra52 ⟨Nat.le_refl _, Nat.le_refl _⟩ h (fun r10 M11 h => ?_)
        refine G_aload_n 0 rfl rfl (ck dc229 (i := 17) rfl) ?_
        refine H_getR mf229 (ck dc229 (i := 18) rfl) fw_Model_41 fc11_11 ly52 ra52 rf52_11 (by decide) ?_
        refine G_aload_n 0 rfl rfl (ck dc229 (i := 19) rfl) ?_
        refine H_getI mf229 (ck dc229 (i := 20) rfl) fw_Model_206 (Or.inl fc11_9) ly52 ra52 (x := (M11 52 9)) rfl ?_
        obtain ⟨o12, h⟩ := h
        refine H_lald (ck dc229 (i := 21) rfl) ly59 (by decide) ra59 o12 (x := (M11 59 (M11 52 9))) rfl ?_
        refine G_iload_n 2 rfl rfl (ck dc229 (i := 22) rfl) ?_
        refine H_sL mf229 (As := [.inr (.inl r10), .inr (.inl (M11 59 (M11 52 9))), .inl a2]) (st := []) (ck dc229 (i := 23) rfl) lk_Model_242 rfl rfl (Nat.le_of_ble_eq_true rfl) ⟨Nat.le_refl _, Nat.le_refl _⟩ h (fun r13 M14 h => ?_)
        exact H_lret mf229 (ck dc229 (i := 24) rfl) rfl h
    · replace h := h.2 c
      refine H_ldc2 mf229 (v := (-9223372036854775808)) (ck dc229 (i := 9) rfl) kl_Model_240 ?_
      exact H_lret mf229 (ck dc229 (i := 10) rfl) rfl h
set_option maxHeartbeats 20000000 in
theorem g_m_all_54 (K : Nat) (l1 l2 l3 l5 : Int) (M : PM) (Q : Option PV → PM → Prop)
    (h : R32 l5 ∧ R32 (M 55 0) ∧ ((M 55 0) ≤ l5 → R32 l1 ∧ (¬ l1 = 1 → (0 ≤ (M 52 9) ∧ (M 52 9) < 6) ∧ Call K jModel_lowest [.inr (.inl l3), .inr (.inl (10 * (M 59 (M 52 9)))), .inl l2] P0 P0 M (retL fun r5 M6 => Q (some (.inr (.inl r5))) M6)) ∧ (l1 = 1 → (0 ≤ (M 52 9) ∧ (M 52 9) < 6) ∧ Call K jModel_lowest [.inr (.inl l3), .inr (.inl (M 59 (M 52 9))), .inl l2] P0 P0 M (retL fun r8 M9 => Q (some (.inr (.inl r8))) M9))) ∧ (¬ (M 55 0) ≤ l5 → R32 l1 ∧ (¬ l1 = 1 → Call K jModel_lostOf [.inr (.inr 52), .inl l5] P0 P0 M (retL fun r11 M12 => G none (K + 1) jModel_all 54 [(0, .inr (.inr 52)), (1, .inl l1), (2, .inl l2), (3, .inr (.inl (l3 + r11))), (5, .inl (l5 + 1))] [] P0 P0 M12 Q)) ∧ (l1 = 1 → Call K jModel_leftOf [.inr (.inr 52), .inl l5] P0 P0 M (retL fun r13 M14 => G none (K + 1) jModel_all 54 [(0, .inr (.inr 52)), (1, .inl l1), (2, .inl l2), (3, .inr (.inl (l3 + r13))), (5, .inl (l5 + 1))] [] P0 P0 M14 Q)))) : G none (K + 1) jModel_all 54 [(0, .inr (.inr 52)), (1, .inl l1), (2, .inl l2), (3, .inr (.inl l3)), (5, .inl l5)] [] P0 P0 M Q := by
  refine G_iload 4 rfl (ck dc229 (i := 29) rfl) ?_
  refine G_aload_n 0 rfl rfl (ck dc229 (i := 30) rfl) ?_
  refine H_getR mf229 (ck dc229 (i := 31) rfl) fw_Model_5 fc11_3 ly52 ra52 rf52_3 (by decide) ?_
  refine G_iconst (ck dc229 (i := 32) rfl) ?_
  refine H_iald (ck dc229 (i := 33) rfl) ly55 (by decide) ra55 (by decide) (x := (M 55 0)) rfl ?_
  obtain ⟨o1, h⟩ := h
  obtain ⟨o2, h⟩ := h
  refine G_icmp_ge (tgt := 94) (by decide) o1 o2 (ck dc229 (i := 34) rfl) (fun c => ?_) (fun c => ?_)
  · replace h := h.1 c
    refine G_lload_n 3 rfl rfl (ck dc229 (i := 50) rfl) ?_
    refine G_iload_n 1 rfl rfl (ck dc229 (i := 51) rfl) ?_
    refine G_iconst (ck dc229 (i := 52) rfl) ?_
    obtain ⟨o3, h⟩ := h
    refine G_icmp_ne (tgt := 112) (by decide) o3 (by decide) (ck dc229 (i := 53) rfl) (fun c => ?_) (fun c => ?_)
    · replace h := h.1 c
      refine H_ldc2 mf229 (v := 10) (ck dc229 (i := 60) rfl) kl_Model_90 ?_
      refine G_aload_n 0 rfl rfl (ck dc229 (i := 61) rfl) ?_
      refine H_getR mf229 (ck dc229 (i := 62) rfl) fw_Model_41 fc11_11 ly52 ra52 rf52_11 (by decide) ?_
      refine G_aload_n 0 rfl rfl (ck dc229 (i := 63) rfl) ?_
      refine H_getI mf229 (ck dc229 (i := 64) rfl) fw_Model_206 (Or.inl fc11_9) ly52 ra52 (x := (M 52 9)) rfl ?_
      obtain ⟨o4, h⟩ := h
      refine H_lald (ck dc229 (i := 65) rfl) ly59 (by decide) ra59 o4 (x := (M 59 (M 52 9))) rfl ?_
      refine G_lmul (ck dc229 (i := 66) rfl) ?_
      refine G_iload_n 2 rfl rfl (ck dc229 (i := 67) rfl) ?_
      refine H_sL mf229 (As := [.inr (.inl l3), .inr (.inl (10 * (M 59 (M 52 9)))), .inl l2]) (st := []) (ck dc229 (i := 68) rfl) lk_Model_242 rfl rfl (Nat.le_of_ble_eq_true rfl) ⟨Nat.le_refl _, Nat.le_refl _⟩ h (fun r5 M6 h => ?_)
      exact H_lret mf229 (ck dc229 (i := 69) rfl) rfl h
    · replace h := h.2 c
      refine G_aload_n 0 rfl rfl (ck dc229 (i := 54) rfl) ?_
      refine H_getR mf229 (ck dc229 (i := 55) rfl) fw_Model_41 fc11_11 ly52 ra52 rf52_11 (by decide) ?_
      refine G_aload_n 0 rfl rfl (ck dc229 (i := 56) rfl) ?_
      refine H_getI mf229 (ck dc229 (i := 57) rfl) fw_Model_206 (Or.inl fc11_9) ly52 ra52 (x := (M 52 9)) rfl ?_
      obtain ⟨o7, h⟩ := h
      refine H_lald (ck dc229 (i := 58) rfl) ly59 (by decide) ra59 o7 (x := (M 59 (M 52 9))) rfl ?_
      refine G_goto (tgt := 125) (by decide) (ck dc229 (i := 59) rfl) ?_
      refine G_iload_n 2 rfl rfl (ck dc229 (i := 67) rfl) ?_
      refine H_sL mf229 (As := [.inr (.inl l3), .inr (.inl (M 59 (M 52 9))), .inl l2]) (st := []) (ck dc229 (i := 68) rfl) lk_Model_242 rfl rfl (Nat.le_of_ble_eq_true rfl) ⟨Nat.le_refl _, Nat.le_refl _⟩ h (fun r8 M9 h => ?_)
      exact H_lret mf229 (ck dc229 (i := 69) rfl) rfl h
  · replace h := h.2 c
    refine G_lload_n 3 rfl rfl (ck dc229 (i := 35) rfl) ?_
    refine G_iload_n 1 rfl rfl (ck dc229 (i := 36) rfl) ?_
    refine G_iconst (ck dc229 (i := 37) rfl) ?_
    obtain ⟨o10, h⟩ := h
    refine G_icmp_ne (tgt := 80) (by decide) o10 (by decide) (ck dc229 (i := 38) rfl) (fun c => ?_) (fun c => ?_)
    · replace h := h.1 c
      refine G_aload_n 0 rfl rfl (ck dc229 (i := 43) rfl) ?_
      refine G_iload 4 rfl (ck dc229 (i := 44) rfl) ?_
      refine H_vL mf229 (As := [.inl l5]) (st := [.inr (.inl l3)]) (ck dc229 (i := 45) rfl) lk_Model_249 rfl rfl (Nat.le_of_ble_eq_true rfl) ly52 ra52 ⟨Nat.le_refl _, Nat.le_refl _⟩ h (fun r11 M12 h => ?_)
      refine G_ladd (ck dc229 (i := 46) rfl) ?_
      refine G_lstore_n (L' := [(3, .inr (.inl (l3 + r11))), (0, .inr (.inr 52)), (1, .inl l1), (2, .inl l2), (5, .inl l5)]) rfl (mfx.lt mf229 (Nat.le_of_ble_eq_true rfl)) rfl (ck dc229 (i := 47) rfl) ?_
      refine G_iinc (L' := [(5, .inl (l5 + 1)), (3, .inr (.inl (l3 + r11))), (0, .inr (.inr 52)), (1, .inl l1), (2, .inl l2)]) 4 rfl (mfx.lt mf229 (Nat.le_of_ble_eq_true rfl)) rfl (ck dc229 (i := 48) rfl) ?_
      refine G_goto (tgt := 54) (by decide) (ck dc229 (i := 49) rfl) ?_
      exact G_sub [2, 3, 4, 1, 0] rfl h
    · replace h := h.2 c
      refine G_aload_n 0 rfl rfl (ck dc229 (i := 39) rfl) ?_
      refine G_iload 4 rfl (ck dc229 (i := 40) rfl) ?_
      refine H_vL mf229 (As := [.inl l5]) (st := [.inr (.inl l3)]) (ck dc229 (i := 41) rfl) lk_Model_246 rfl rfl (Nat.le_of_ble_eq_true rfl) ly52 ra52 ⟨Nat.le_refl _, Nat.le_refl _⟩ h (fun r13 M14 h => ?_)
      refine G_goto (tgt := 86) (by decide) (ck dc229 (i := 42) rfl) ?_
      refine G_ladd (ck dc229 (i := 46) rfl) ?_
      refine G_lstore_n (L' := [(3, .inr (.inl (l3 + r13))), (0, .inr (.inr 52)), (1, .inl l1), (2, .inl l2), (5, .inl l5)]) rfl (mfx.lt mf229 (Nat.le_of_ble_eq_true rfl)) rfl (ck dc229 (i := 47) rfl) ?_
      refine G_iinc (L' := [(5, .inl (l5 + 1)), (3, .inr (.inl (l3 + r13))), (0, .inr (.inr 52)), (1, .inl l1), (2, .inl l2)]) 4 rfl (mfx.lt mf229 (Nat.le_of_ble_eq_true rfl)) rfl (ck dc229 (i := 48) rfl) ?_
      refine G_goto (tgt := 54) (by decide) (ck dc229 (i := 49) rfl) ?_
      exact G_sub [2, 3, 4, 1, 0] rfl h
theorem c_m_refusal (K : Nat) (a1 : Int) (M : PM) (Q : Option PV → PM → Prop)
    (h : Call K jModel_isHouse [.inr (.inr 52), .inl a1] P0 P0 M (retI fun r1 M2 => R32 r1 ∧ (¬ r1 = 0 → Call K jModel_clears [.inr (.inr 52)] P0 P0 M2 (retV fun M5 => (0 ≤ a1 ∧ a1 < 5) ∧ R32 (M5 60 a1) ∧ (¬ (M5 60 a1) = 0 → Q (some (.inl 0)) M5) ∧ ((M5 60 a1) = 0 → Q (some (.inl (-3))) M5))) ∧ (r1 = 0 → Q (some (.inl (-1))) M2))) : Call (K + 1) jModel_refusal [.inr (.inr 52), .inl a1] P0 P0 M Q := by
  refine Call.intro (by decide +kernel) (mfx.le mf232 (Nat.le_of_ble_eq_true rfl)) (Nat.le_refl _) rfl ?_
  refine G_aload_n 0 rfl rfl (ck dc232 (i := 0) rfl) ?_
  refine G_iload_n 1 rfl rfl (ck dc232 (i := 1) rfl) ?_
  refine H_vZ mf232 (As := [.inl a1]) (st := []) (ck dc232 (i := 2) rfl) lk_Model_13 rfl rfl (Nat.le_of_ble_eq_true rfl) ly52 ra52 ⟨Nat.le_refl _, Nat.le_refl _⟩ h (fun r1 M2 h => ?_)
  obtain ⟨o3, h⟩ := h
  refine G_if_ne (tgt := 10) (by decide) o3 (ck dc232 (i := 3) rfl) (fun c => ?_) (fun c => ?_)
  · replace h := h.1 c
    refine G_aload_n 0 rfl rfl (ck dc232 (i := 6) rfl) ?_
    refine H_vV mf232 (As := []) (st := []) (ck dc232 (i := 7) rfl) lk_Model_230 rfl rfl (Nat.le_of_ble_eq_true rfl) ly52 ra52 ⟨Nat.le_refl _, Nat.le_refl _⟩ h (fun M5 h => ?_)
    refine G_aload_n 0 rfl rfl (ck dc232 (i := 8) rfl) ?_
    refine H_getR mf232 (ck dc232 (i := 9) rfl) fw_Model_44 fc11_12 ly52 ra52 rf52_12 (by decide) ?_
    refine G_iload_n 1 rfl rfl (ck dc232 (i := 10) rfl) ?_
    obtain ⟨o6, h⟩ := h
    refine H_iald (ck dc232 (i := 11) rfl) ly60 (by decide) ra60 o6 (x := (M5 60 a1)) rfl ?_
    obtain ⟨o7, h⟩ := h
    refine G_if_ne (tgt := 28) (by decide) o7 (ck dc232 (i := 12) rfl) (fun c => ?_) (fun c => ?_)
    · replace h := h.1 c
      refine G_iconst (ck dc232 (i := 15) rfl) ?_
      exact H_iretI mf232 (ck dc232 (i := 16) rfl) rfl h
    · replace h := h.2 c
      refine G_bipush (n := (-3)) rfl (ck dc232 (i := 13) rfl) ?_
      refine G_goto (tgt := 29) (by decide) (ck dc232 (i := 14) rfl) ?_
      exact H_iretI mf232 (ck dc232 (i := 16) rfl) rfl h
  · replace h := h.2 c
    refine G_iconst (ck dc232 (i := 4) rfl) ?_
    exact H_iretI mf232 (ck dc232 (i := 5) rfl) rfl h
theorem c_m_causeOf (K : Nat) (a1 : Int) (M : PM) (Q : Option PV → PM → Prop)
    (h : G none (K + 1) jModel_causeOf 5 [(0, .inr (.inr 52)), (1, .inl a1), (2, .inl (-5)), (3, .inl 0)] [] P0 P0 M Q) : Call (K + 1) jModel_causeOf [.inr (.inr 52), .inl a1] P0 P0 M Q := by
  refine Call.intro (by decide +kernel) (mfx.le mf233 (Nat.le_of_ble_eq_true rfl)) (Nat.le_refl _) rfl ?_
  refine G_bipush (n := (-5)) rfl (ck dc233 (i := 0) rfl) ?_
  refine G_istore_n (L' := [(2, .inl (-5)), (0, .inr (.inr 52)), (1, .inl a1)]) rfl (mfx.lt mf233 (Nat.le_of_ble_eq_true rfl)) rfl (ck dc233 (i := 1) rfl) ?_
  refine G_iconst (ck dc233 (i := 2) rfl) ?_
  refine G_istore_n (L' := [(3, .inl 0), (2, .inl (-5)), (0, .inr (.inr 52)), (1, .inl a1)]) rfl (mfx.lt mf233 (Nat.le_of_ble_eq_true rfl)) rfl (ck dc233 (i := 3) rfl) ?_
  exact G_sub [2, 3, 1, 0] rfl h
set_option maxHeartbeats 20000000 in
theorem g_m_causeOf_5 (K : Nat) (l1 l2 l3 : Int) (M : PM) (Q : Option PV → PM → Prop)
    (h : R32 l3 ∧ R32 (M 55 0) ∧ ((M 55 0) ≤ l3 → Q (some (.inl l2)) M) ∧ (¬ (M 55 0) ≤ l3 → (0 ≤ l3 ∧ l3 < 5) ∧ R32 (M 60 l3) ∧ ((M 60 l3) ≤ 0 → G none (K + 1) jModel_causeOf 5 [(0, .inr (.inr 52)), (1, .inl l1), (2, .inl l2), (3, .inl (l3 + 1))] [] P0 P0 M Q) ∧ (¬ (M 60 l3) ≤ 0 → (0 ≤ l1 ∧ l1 < 5) ∧ R32 (M 60 l1) ∧ ((M 60 l1) ≤ (M 60 l3) → G none (K + 1) jModel_causeOf 5 [(0, .inr (.inr 52)), (1, .inl l1), (2, .inl l2), (3, .inl (l3 + 1))] [] P0 P0 M Q) ∧ (¬ (M 60 l1) ≤ (M 60 l3) → R32 l2 ∧ (l2 < 0 → G none (K + 1) jModel_causeOf 5 [(0, .inr (.inr 52)), (1, .inl l1), (2, .inl l3), (3, .inl (l3 + 1))] [] P0 P0 M Q) ∧ (¬ l2 < 0 → Call K jModel_lacksIn [.inr (.inr 52), .inl ((M 60 l1) - 1), .inl l1, .inl l3] P0 P0 M (retL fun r8 M9 => Call K jModel_lacksIn [.inr (.inr 52), .inl ((M9 60 l1) - 1), .inl l1, .inl l2] P0 P0 M9 (retL fun r10 M11 => R64 r8 ∧ R64 r10 ∧ (r8 ≤ r10 → G none (K + 1) jModel_causeOf 5 [(0, .inr (.inr 52)), (1, .inl l1), (2, .inl l2), (3, .inl (l3 + 1))] [] P0 P0 M11 Q) ∧ (¬ r8 ≤ r10 → G none (K + 1) jModel_causeOf 5 [(0, .inr (.inr 52)), (1, .inl l1), (2, .inl l3), (3, .inl (l3 + 1))] [] P0 P0 M11 Q)))))))) : G none (K + 1) jModel_causeOf 5 [(0, .inr (.inr 52)), (1, .inl l1), (2, .inl l2), (3, .inl l3)] [] P0 P0 M Q := by
  refine G_iload_n 3 rfl rfl (ck dc233 (i := 4) rfl) ?_
  refine G_aload_n 0 rfl rfl (ck dc233 (i := 5) rfl) ?_
  refine H_getR mf233 (ck dc233 (i := 6) rfl) fw_Model_5 fc11_3 ly52 ra52 rf52_3 (by decide) ?_
  refine G_iconst (ck dc233 (i := 7) rfl) ?_
  refine H_iald (ck dc233 (i := 8) rfl) ly55 (by decide) ra55 (by decide) (x := (M 55 0)) rfl ?_
  obtain ⟨o1, h⟩ := h
  obtain ⟨o2, h⟩ := h
  refine G_icmp_ge (tgt := 83) (by decide) o1 o2 (ck dc233 (i := 9) rfl) (fun c => ?_) (fun c => ?_)
  · replace h := h.1 c
    refine G_iload_n 2 rfl rfl (ck dc233 (i := 52) rfl) ?_
    exact H_iretI mf233 (ck dc233 (i := 53) rfl) rfl h
  · replace h := h.2 c
    refine G_aload_n 0 rfl rfl (ck dc233 (i := 10) rfl) ?_
    refine H_getR mf233 (ck dc233 (i := 11) rfl) fw_Model_44 fc11_12 ly52 ra52 rf52_12 (by decide) ?_
    refine G_iload_n 3 rfl rfl (ck dc233 (i := 12) rfl) ?_
    obtain ⟨o3, h⟩ := h
    refine H_iald (ck dc233 (i := 13) rfl) ly60 (by decide) ra60 o3 (x := (M 60 l3)) rfl ?_
    obtain ⟨o4, h⟩ := h
    refine G_if_le (tgt := 77) (by decide) o4 (ck dc233 (i := 14) rfl) (fun c => ?_) (fun c => ?_)
    · replace h := h.1 c
      refine G_iinc (L' := [(3, .inl (l3 + 1)), (0, .inr (.inr 52)), (1, .inl l1), (2, .inl l2)]) 3 rfl (mfx.lt mf233 (Nat.le_of_ble_eq_true rfl)) rfl (ck dc233 (i := 50) rfl) ?_
      refine G_goto (tgt := 5) (by decide) (ck dc233 (i := 51) rfl) ?_
      exact G_sub [1, 2, 3, 0] rfl h
    · replace h := h.2 c
      refine G_aload_n 0 rfl rfl (ck dc233 (i := 15) rfl) ?_
      refine H_getR mf233 (ck dc233 (i := 16) rfl) fw_Model_44 fc11_12 ly52 ra52 rf52_12 (by decide) ?_
      refine G_iload_n 3 rfl rfl (ck dc233 (i := 17) rfl) ?_
      refine H_iald (ck dc233 (i := 18) rfl) ly60 (by decide) ra60 o3 (x := (M 60 l3)) rfl ?_
      refine G_aload_n 0 rfl rfl (ck dc233 (i := 19) rfl) ?_
      refine H_getR mf233 (ck dc233 (i := 20) rfl) fw_Model_44 fc11_12 ly52 ra52 rf52_12 (by decide) ?_
      refine G_iload_n 1 rfl rfl (ck dc233 (i := 21) rfl) ?_
      obtain ⟨o5, h⟩ := h
      refine H_iald (ck dc233 (i := 22) rfl) ly60 (by decide) ra60 o5 (x := (M 60 l1)) rfl ?_
      obtain ⟨o6, h⟩ := h
      refine G_icmp_ge (tgt := 77) (by decide) o4 o6 (ck dc233 (i := 23) rfl) (fun c => ?_) (fun c => ?_)
      · replace h := h.1 c
        refine G_iinc (L' := [(3, .inl (l3 + 1)), (0, .inr (.inr 52)), (1, .inl l1), (2, .inl l2)]) 3 rfl (mfx.lt mf233 (Nat.le_of_ble_eq_true rfl)) rfl (ck dc233 (i := 50) rfl) ?_
        refine G_goto (tgt := 5) (by decide) (ck dc233 (i := 51) rfl) ?_
        exact G_sub [1, 2, 3, 0] rfl h
      · replace h := h.2 c
        refine G_iload_n 2 rfl rfl (ck dc233 (i := 24) rfl) ?_
        obtain ⟨o7, h⟩ := h
        refine G_if_lt (tgt := 75) (by decide) o7 (ck dc233 (i := 25) rfl) (fun c => ?_) (fun c => ?_)
        · replace h := h.1 c
          refine G_iload_n 3 rfl rfl (ck dc233 (i := 48) rfl) ?_
          refine G_istore_n (L' := [(2, .inl l3), (0, .inr (.inr 52)), (1, .inl l1), (3, .inl l3)]) rfl (mfx.lt mf233 (Nat.le_of_ble_eq_true rfl)) rfl (ck dc233 (i := 49) rfl) ?_
          refine G_iinc (L' := [(3, .inl (l3 + 1)), (2, .inl l3), (0, .inr (.inr 52)), (1, .inl l1)]) 3 rfl (mfx.lt mf233 (Nat.le_of_ble_eq_true rfl)) rfl (ck dc233 (i := 50) rfl) ?_
          refine G_goto (tgt := 5) (by decide) (ck dc233 (i := 51) rfl) ?_
          exact G_sub [2, 3, 1, 0] rfl h
        · replace h := h.2 c
          refine G_aload_n 0 rfl rfl (ck dc233 (i := 26) rfl) ?_
          refine G_aload_n 0 rfl rfl (ck dc233 (i := 27) rfl) ?_
          refine H_getR mf233 (ck dc233 (i := 28) rfl) fw_Model_44 fc11_12 ly52 ra52 rf52_12 (by decide) ?_
          refine G_iload_n 1 rfl rfl (ck dc233 (i := 29) rfl) ?_
          refine H_iald (ck dc233 (i := 30) rfl) ly60 (by decide) ra60 o5 (x := (M 60 l1)) rfl ?_
          refine G_iconst (ck dc233 (i := 31) rfl) ?_
          refine G_isub (ck dc233 (i := 32) rfl) ?_
          refine G_iload_n 1 rfl rfl (ck dc233 (i := 33) rfl) ?_
          refine G_iload_n 3 rfl rfl (ck dc233 (i := 34) rfl) ?_
          refine H_vL mf233 (As := [.inl ((M 60 l1) - 1), .inl l1, .inl l3]) (st := []) (ck dc233 (i := 35) rfl) lk_Model_252 rfl rfl (Nat.le_of_ble_eq_true rfl) ly52 ra52 ⟨Nat.le_refl _, Nat.le_refl _⟩ h (fun r8 M9 h => ?_)
          refine G_aload_n 0 rfl rfl (ck dc233 (i := 36) rfl) ?_
          refine G_aload_n 0 rfl rfl (ck dc233 (i := 37) rfl) ?_
          refine H_getR mf233 (ck dc233 (i := 38) rfl) fw_Model_44 fc11_12 ly52 ra52 rf52_12 (by decide) ?_
          refine G_iload_n 1 rfl rfl (ck dc233 (i := 39) rfl) ?_
          refine H_iald (ck dc233 (i := 40) rfl) ly60 (by decide) ra60 o5 (x := (M9 60 l1)) rfl ?_
          refine G_iconst (ck dc233 (i := 41) rfl) ?_
          refine G_isub (ck dc233 (i := 42) rfl) ?_
          refine G_iload_n 1 rfl rfl (ck dc233 (i := 43) rfl) ?_
          refine G_iload_n 2 rfl rfl (ck dc233 (i := 44) rfl) ?_
          refine H_vL mf233 (As := [.inl ((M9 60 l1) - 1), .inl l1, .inl l2]) (st := [.inr (.inl r8)]) (ck dc233 (i := 45) rfl) lk_Model_252 rfl rfl (Nat.le_of_ble_eq_true rfl) ly52 ra52 ⟨Nat.le_refl _, Nat.le_refl _⟩ h (fun r10 M11 h => ?_)
          obtain ⟨o12, h⟩ := h
          obtain ⟨o13, h⟩ := h
          refine G_lif_le (tgt := 77) (ck dc233 (i := 47) rfl) (by decide) o12 o13 (ck dc233 (i := 46) rfl) (fun c => ?_) (fun c => ?_)
          · replace h := h.1 c
            refine G_iinc (L' := [(3, .inl (l3 + 1)), (0, .inr (.inr 52)), (1, .inl l1), (2, .inl l2)]) 3 rfl (mfx.lt mf233 (Nat.le_of_ble_eq_true rfl)) rfl (ck dc233 (i := 50) rfl) ?_
            refine G_goto (tgt := 5) (by decide) (ck dc233 (i := 51) rfl) ?_
            exact G_sub [1, 2, 3, 0] rfl h
          · replace h := h.2 c
            refine G_iload_n 3 rfl rfl (ck dc233 (i := 48) rfl) ?_
            refine G_istore_n (L' := [(2, .inl l3), (0, .inr (.inr 52)), (1, .inl l1), (3, .inl l3)]) rfl (mfx.lt mf233 (Nat.le_of_ble_eq_true rfl)) rfl (ck dc233 (i := 49) rfl) ?_
            refine G_iinc (L' := [(3, .inl (l3 + 1)), (2, .inl l3), (0, .inr (.inr 52)), (1, .inl l1)]) 3 rfl (mfx.lt mf233 (Nat.le_of_ble_eq_true rfl)) rfl (ck dc233 (i := 50) rfl) ?_
            refine G_goto (tgt := 5) (by decide) (ck dc233 (i := 51) rfl) ?_
            exact G_sub [2, 3, 1, 0] rfl h
theorem c_m_cause (K : Nat) (a1 : Int) (M : PM) (Q : Option PV → PM → Prop)
    (h : Call K jModel_refusal [.inr (.inr 52), .inl a1] P0 P0 M (retI fun r1 M2 => R32 r1 ∧ (0 ≤ r1 → Call K jModel_causeOf [.inr (.inr 52), .inl a1] P0 P0 M2 (retI fun r4 M5 => Q (some (.inl r4)) M5)) ∧ (¬ 0 ≤ r1 → Q (some (.inl r1)) M2))) : Call (K + 1) jModel_cause [.inr (.inr 52), .inl a1] P0 P0 M Q := by
  refine Call.intro (by decide +kernel) (mfx.le mf231 (Nat.le_of_ble_eq_true rfl)) (Nat.le_refl _) rfl ?_
  refine G_aload_n 0 rfl rfl (ck dc231 (i := 0) rfl) ?_
  refine G_iload_n 1 rfl rfl (ck dc231 (i := 1) rfl) ?_
  refine H_vI mf231 (As := [.inl a1]) (st := []) (ck dc231 (i := 2) rfl) lk_Model_259 rfl rfl (Nat.le_of_ble_eq_true rfl) ly52 ra52 ⟨Nat.le_refl _, Nat.le_refl _⟩ h (fun r1 M2 h => ?_)
  refine G_istore_n (L' := [(2, .inl r1), (0, .inr (.inr 52)), (1, .inl a1)]) rfl (mfx.lt mf231 (Nat.le_of_ble_eq_true rfl)) rfl (ck dc231 (i := 3) rfl) ?_
  refine G_iload_n 0 rfl rfl (ck dc231 (i := 4) rfl) ?_
  obtain ⟨o3, h⟩ := h
  refine G_if_ge (tgt := 14) (by decide) o3 (ck dc231 (i := 5) rfl) (fun c => ?_) (fun c => ?_)
  · replace h := h.1 c
    refine G_aload_n 1 rfl rfl (ck dc231 (i := 8) rfl) ?_
    refine G_iload_n 2 rfl rfl (ck dc231 (i := 9) rfl) ?_
    refine H_vI mf231 (As := [.inl a1]) (st := []) (ck dc231 (i := 10) rfl) lk_Model_262 rfl rfl (Nat.le_of_ble_eq_true rfl) ly52 ra52 ⟨Nat.le_refl _, Nat.le_refl _⟩ h (fun r4 M5 h => ?_)
    exact H_iretI mf231 (ck dc231 (i := 11) rfl) rfl h
  · replace h := h.2 c
    refine G_iload_n 0 rfl rfl (ck dc231 (i := 6) rfl) ?_
    refine G_goto (tgt := 19) (by decide) (ck dc231 (i := 7) rfl) ?_
    exact H_iretI mf231 (ck dc231 (i := 11) rfl) rfl h
theorem c_m_chain (K : Nat) (a1 a2 : Int) (M : PM) (Q : Option PV → PM → Prop)
    (h : R32 a2 ∧ Call K jModel_within [.inr (.inl a2), .inr (.inl 0), .inr (.inl 4)] P0 P0 M (retI fun r2 M3 => R32 r2 ∧ (¬ r2 = 0 → Call K jModel_refusal [.inr (.inr 52), .inl a1] P0 P0 M3 (retI fun r5 M6 => R32 r5 ∧ (0 ≤ r5 → G none (K + 1) jModel_chain 32 [(0, .inr (.inr 52)), (2, .inl a2), (4, .inl a1), (5, .inl 0)] [] P0 P0 M6 Q) ∧ (¬ 0 ≤ r5 → Q (some (.inl r5)) M6))) ∧ (r2 = 0 → Q (some (.inl (-1))) M3))) : Call (K + 1) jModel_chain [.inr (.inr 52), .inl a1, .inl a2] P0 P0 M Q := by
  refine Call.intro (by decide +kernel) (mfx.le mf234 (Nat.le_of_ble_eq_true rfl)) (Nat.le_refl _) rfl ?_
  refine G_iload_n 2 rfl rfl (ck dc234 (i := 0) rfl) ?_
  obtain ⟨o1, h⟩ := h
  refine G_i2l o1 (ck dc234 (i := 1) rfl) ?_
  refine G_lconst (v := 0) rfl (ck dc234 (i := 2) rfl) ?_
  refine H_ldc2 mf234 (v := 4) (ck dc234 (i := 3) rfl) kl_Model_265 ?_
  refine H_sZ mf234 (As := [.inr (.inl a2), .inr (.inl 0), .inr (.inl 4)]) (st := []) (ck dc234 (i := 4) rfl) lk_Model_9 rfl rfl (Nat.le_of_ble_eq_true rfl) ⟨Nat.le_refl _, Nat.le_refl _⟩ h (fun r2 M3 h => ?_)
  obtain ⟨o4, h⟩ := h
  refine G_if_ne (tgt := 14) (by decide) o4 (ck dc234 (i := 5) rfl) (fun c => ?_) (fun c => ?_)
  · replace h := h.1 c
    refine G_aload_n 0 rfl rfl (ck dc234 (i := 8) rfl) ?_
    refine G_iload_n 1 rfl rfl (ck dc234 (i := 9) rfl) ?_
    refine H_vI mf234 (As := [.inl a1]) (st := []) (ck dc234 (i := 10) rfl) lk_Model_259 rfl rfl (Nat.le_of_ble_eq_true rfl) ly52 ra52 ⟨Nat.le_refl _, Nat.le_refl _⟩ h (fun r5 M6 h => ?_)
    refine G_istore_n (L' := [(3, .inl r5), (0, .inr (.inr 52)), (1, .inl a1), (2, .inl a2)]) rfl (mfx.lt mf234 (Nat.le_of_ble_eq_true rfl)) rfl (ck dc234 (i := 11) rfl) ?_
    refine G_iload_n 0 rfl rfl (ck dc234 (i := 12) rfl) ?_
    obtain ⟨o7, h⟩ := h
    refine G_if_ge (tgt := 26) (by decide) o7 (ck dc234 (i := 13) rfl) (fun c => ?_) (fun c => ?_)
    · replace h := h.1 c
      refine G_iload_n 2 rfl rfl (ck dc234 (i := 16) rfl) ?_
      refine G_istore (L' := [(4, .inl a1), (3, .inl r5), (0, .inr (.inr 52)), (1, .inl a1), (2, .inl a2)]) (mfx.lt mf234 (Nat.le_of_ble_eq_true rfl)) rfl (ck dc234 (i := 17) rfl) ?_
      refine G_iconst (ck dc234 (i := 18) rfl) ?_
      refine G_istore (L' := [(5, .inl 0), (4, .inl a1), (3, .inl r5), (0, .inr (.inr 52)), (1, .inl a1), (2, .inl a2)]) (mfx.lt mf234 (Nat.le_of_ble_eq_true rfl)) rfl (ck dc234 (i := 19) rfl) ?_
      exact G_sub [3, 5, 1, 0] rfl h
    · replace h := h.2 c
      refine G_iload_n 0 rfl rfl (ck dc234 (i := 14) rfl) ?_
      exact H_iretI mf234 (ck dc234 (i := 15) rfl) rfl h
  · replace h := h.2 c
    refine G_iconst (ck dc234 (i := 6) rfl) ?_
    exact H_iretI mf234 (ck dc234 (i := 7) rfl) rfl h
theorem g_m_chain_32 (K : Nat) (l2 l4 l5 : Int) (M : PM) (Q : Option PV → PM → Prop)
    (h : R32 l5 ∧ R32 l2 ∧ (l2 ≤ l5 → Q (some (.inl l4)) M) ∧ (¬ l2 ≤ l5 → R32 l4 ∧ (l4 < 0 → Q (some (.inl l4)) M) ∧ (¬ l4 < 0 → Call K jModel_causeOf [.inr (.inr 52), .inl l4] P0 P0 M (retI fun r4 M5 => G none (K + 1) jModel_chain 32 [(0, .inr (.inr 52)), (2, .inl l2), (4, .inl r4), (5, .inl (l5 + 1))] [] P0 P0 M5 Q)))) : G none (K + 1) jModel_chain 32 [(0, .inr (.inr 52)), (2, .inl l2), (4, .inl l4), (5, .inl l5)] [] P0 P0 M Q := by
  refine G_iload 3 rfl (ck dc234 (i := 20) rfl) ?_
  refine G_iload_n 1 rfl rfl (ck dc234 (i := 21) rfl) ?_
  obtain ⟨o1, h⟩ := h
  obtain ⟨o2, h⟩ := h
  refine G_icmp_ge (tgt := 57) (by decide) o1 o2 (ck dc234 (i := 22) rfl) (fun c => ?_) (fun c => ?_)
  · replace h := h.1 c
    refine G_iload 2 rfl (ck dc234 (i := 31) rfl) ?_
    exact H_iretI mf234 (ck dc234 (i := 32) rfl) rfl h
  · replace h := h.2 c
    refine G_iload 2 rfl (ck dc234 (i := 23) rfl) ?_
    obtain ⟨o3, h⟩ := h
    refine G_if_lt (tgt := 57) (by decide) o3 (ck dc234 (i := 24) rfl) (fun c => ?_) (fun c => ?_)
    · replace h := h.1 c
      refine G_iload 2 rfl (ck dc234 (i := 31) rfl) ?_
      exact H_iretI mf234 (ck dc234 (i := 32) rfl) rfl h
    · replace h := h.2 c
      refine G_aload_n 0 rfl rfl (ck dc234 (i := 25) rfl) ?_
      refine G_iload 2 rfl (ck dc234 (i := 26) rfl) ?_
      refine H_vI mf234 (As := [.inl l4]) (st := []) (ck dc234 (i := 27) rfl) lk_Model_262 rfl rfl (Nat.le_of_ble_eq_true rfl) ly52 ra52 ⟨Nat.le_refl _, Nat.le_refl _⟩ h (fun r4 M5 h => ?_)
      refine G_istore (L' := [(4, .inl r4), (0, .inr (.inr 52)), (2, .inl l2), (5, .inl l5)]) (mfx.lt mf234 (Nat.le_of_ble_eq_true rfl)) rfl (ck dc234 (i := 28) rfl) ?_
      refine G_iinc (L' := [(5, .inl (l5 + 1)), (4, .inl r4), (0, .inr (.inr 52)), (2, .inl l2)]) 3 rfl (mfx.lt mf234 (Nat.le_of_ble_eq_true rfl)) rfl (ck dc234 (i := 29) rfl) ?_
      refine G_goto (tgt := 32) (by decide) (ck dc234 (i := 30) rfl) ?_
      exact G_sub [2, 3, 1, 0] rfl h
theorem c_m_rootOf (K : Nat) (a1 : Int) (M : PM) (Q : Option PV → PM → Prop)
    (h : G none (K + 1) jModel_rootOf 2 [(0, .inr (.inr 52)), (2, .inl a1)] [] P0 P0 M Q) : Call (K + 1) jModel_rootOf [.inr (.inr 52), .inl a1] P0 P0 M Q := by
  refine Call.intro (by decide +kernel) (mfx.le mf236 (Nat.le_of_ble_eq_true rfl)) (Nat.le_refl _) rfl ?_
  refine G_iload_n 1 rfl rfl (ck dc236 (i := 0) rfl) ?_
  refine G_istore_n (L' := [(2, .inl a1), (0, .inr (.inr 52)), (1, .inl a1)]) rfl (mfx.lt mf236 (Nat.le_of_ble_eq_true rfl)) rfl (ck dc236 (i := 1) rfl) ?_
  exact G_sub [1, 0] rfl h
theorem g_m_rootOf_2 (K : Nat) (l2 : Int) (M : PM) (Q : Option PV → PM → Prop)
    (h : (0 ≤ l2 ∧ l2 < 5) ∧ R32 (M 60 l2) ∧ ((M 60 l2) ≤ 1 → Q (some (.inl l2)) M) ∧ (¬ (M 60 l2) ≤ 1 → Call K jModel_causeOf [.inr (.inr 52), .inl l2] P0 P0 M (retI fun r3 M4 => G none (K + 1) jModel_rootOf 2 [(0, .inr (.inr 52)), (2, .inl r3)] [] P0 P0 M4 Q))) : G none (K + 1) jModel_rootOf 2 [(0, .inr (.inr 52)), (2, .inl l2)] [] P0 P0 M Q := by
  refine G_aload_n 0 rfl rfl (ck dc236 (i := 2) rfl) ?_
  refine H_getR mf236 (ck dc236 (i := 3) rfl) fw_Model_44 fc11_12 ly52 ra52 rf52_12 (by decide) ?_
  refine G_iload_n 1 rfl rfl (ck dc236 (i := 4) rfl) ?_
  obtain ⟨o1, h⟩ := h
  refine H_iald (ck dc236 (i := 5) rfl) ly60 (by decide) ra60 o1 (x := (M 60 l2)) rfl ?_
  refine G_iconst (ck dc236 (i := 6) rfl) ?_
  obtain ⟨o2, h⟩ := h
  refine G_icmp_le (tgt := 21) (by decide) o2 (by decide) (ck dc236 (i := 7) rfl) (fun c => ?_) (fun c => ?_)
  · replace h := h.1 c
    refine G_iload_n 1 rfl rfl (ck dc236 (i := 13) rfl) ?_
    exact H_iretI mf236 (ck dc236 (i := 14) rfl) rfl h
  · replace h := h.2 c
    refine G_aload_n 0 rfl rfl (ck dc236 (i := 8) rfl) ?_
    refine G_iload_n 1 rfl rfl (ck dc236 (i := 9) rfl) ?_
    refine H_vI mf236 (As := [.inl l2]) (st := []) (ck dc236 (i := 10) rfl) lk_Model_262 rfl rfl (Nat.le_of_ble_eq_true rfl) ly52 ra52 ⟨Nat.le_refl _, Nat.le_refl _⟩ h (fun r3 M4 h => ?_)
    refine G_istore_n (L' := [(2, .inl r3), (0, .inr (.inr 52))]) rfl (mfx.lt mf236 (Nat.le_of_ble_eq_true rfl)) rfl (ck dc236 (i := 11) rfl) ?_
    refine G_goto (tgt := 2) (by decide) (ck dc236 (i := 12) rfl) ?_
    exact G_sub [1, 0] rfl h
theorem c_m_root (K : Nat) (a1 : Int) (M : PM) (Q : Option PV → PM → Prop)
    (h : Call K jModel_refusal [.inr (.inr 52), .inl a1] P0 P0 M (retI fun r1 M2 => R32 r1 ∧ (0 ≤ r1 → Call K jModel_rootOf [.inr (.inr 52), .inl a1] P0 P0 M2 (retI fun r4 M5 => Q (some (.inl r4)) M5)) ∧ (¬ 0 ≤ r1 → Q (some (.inl r1)) M2))) : Call (K + 1) jModel_root [.inr (.inr 52), .inl a1] P0 P0 M Q := by
  refine Call.intro (by decide +kernel) (mfx.le mf235 (Nat.le_of_ble_eq_true rfl)) (Nat.le_refl _) rfl ?_
  refine G_aload_n 0 rfl rfl (ck dc235 (i := 0) rfl) ?_
  refine G_iload_n 1 rfl rfl (ck dc235 (i := 1) rfl) ?_
  refine H_vI mf235 (As := [.inl a1]) (st := []) (ck dc235 (i := 2) rfl) lk_Model_259 rfl rfl (Nat.le_of_ble_eq_true rfl) ly52 ra52 ⟨Nat.le_refl _, Nat.le_refl _⟩ h (fun r1 M2 h => ?_)
  refine G_istore_n (L' := [(2, .inl r1), (0, .inr (.inr 52)), (1, .inl a1)]) rfl (mfx.lt mf235 (Nat.le_of_ble_eq_true rfl)) rfl (ck dc235 (i := 3) rfl) ?_
  refine G_iload_n 0 rfl rfl (ck dc235 (i := 4) rfl) ?_
  obtain ⟨o3, h⟩ := h
  refine G_if_ge (tgt := 14) (by decide) o3 (ck dc235 (i := 5) rfl) (fun c => ?_) (fun c => ?_)
  · replace h := h.1 c
    refine G_aload_n 1 rfl rfl (ck dc235 (i := 8) rfl) ?_
    refine G_iload_n 2 rfl rfl (ck dc235 (i := 9) rfl) ?_
    refine H_vI mf235 (As := [.inl a1]) (st := []) (ck dc235 (i := 10) rfl) lk_Model_267 rfl rfl (Nat.le_of_ble_eq_true rfl) ly52 ra52 ⟨Nat.le_refl _, Nat.le_refl _⟩ h (fun r4 M5 h => ?_)
    exact H_iretI mf235 (ck dc235 (i := 11) rfl) rfl h
  · replace h := h.2 c
    refine G_iload_n 0 rfl rfl (ck dc235 (i := 6) rfl) ?_
    refine G_goto (tgt := 19) (by decide) (ck dc235 (i := 7) rfl) ?_
    exact H_iretI mf235 (ck dc235 (i := 11) rfl) rfl h
theorem c_m_pulls (K : Nat) (a1 : Int) (M : PM) (Q : Option PV → PM → Prop)
    (h : Call K jModel_isHouse [.inr (.inr 52), .inl a1] P0 P0 M (retI fun r1 M2 => R32 r1 ∧ (¬ r1 = 0 → Call K jModel_clears [.inr (.inr 52)] P0 P0 M2 (retV fun M5 => G none (K + 1) jModel_pulls 18 [(0, .inr (.inr 52)), (1, .inl a1), (2, .inl 0), (3, .inl 0)] [] P0 P0 M5 Q)) ∧ (r1 = 0 → Q (some (.inl (-1))) M2))) : Call (K + 1) jModel_pulls [.inr (.inr 52), .inl a1] P0 P0 M Q := by
  refine Call.intro (by decide +kernel) (mfx.le mf237 (Nat.le_of_ble_eq_true rfl)) (Nat.le_refl _) rfl ?_
  refine G_aload_n 0 rfl rfl (ck dc237 (i := 0) rfl) ?_
  refine G_iload_n 1 rfl rfl (ck dc237 (i := 1) rfl) ?_
  refine H_vZ mf237 (As := [.inl a1]) (st := []) (ck dc237 (i := 2) rfl) lk_Model_13 rfl rfl (Nat.le_of_ble_eq_true rfl) ly52 ra52 ⟨Nat.le_refl _, Nat.le_refl _⟩ h (fun r1 M2 h => ?_)
  obtain ⟨o3, h⟩ := h
  refine G_if_ne (tgt := 10) (by decide) o3 (ck dc237 (i := 3) rfl) (fun c => ?_) (fun c => ?_)
  · replace h := h.1 c
    refine G_aload_n 0 rfl rfl (ck dc237 (i := 6) rfl) ?_
    refine H_vV mf237 (As := []) (st := []) (ck dc237 (i := 7) rfl) lk_Model_230 rfl rfl (Nat.le_of_ble_eq_true rfl) ly52 ra52 ⟨Nat.le_refl _, Nat.le_refl _⟩ h (fun M5 h => ?_)
    refine G_iconst (ck dc237 (i := 8) rfl) ?_
    refine G_istore_n (L' := [(2, .inl 0), (0, .inr (.inr 52)), (1, .inl a1)]) rfl (mfx.lt mf237 (Nat.le_of_ble_eq_true rfl)) rfl (ck dc237 (i := 9) rfl) ?_
    refine G_iconst (ck dc237 (i := 10) rfl) ?_
    refine G_istore_n (L' := [(3, .inl 0), (2, .inl 0), (0, .inr (.inr 52)), (1, .inl a1)]) rfl (mfx.lt mf237 (Nat.le_of_ble_eq_true rfl)) rfl (ck dc237 (i := 11) rfl) ?_
    exact G_sub [2, 3, 1, 0] rfl h
  · replace h := h.2 c
    refine G_iconst (ck dc237 (i := 4) rfl) ?_
    exact H_iretI mf237 (ck dc237 (i := 5) rfl) rfl h
theorem g_m_pulls_18 (K : Nat) (l1 l2 l3 : Int) (M : PM) (Q : Option PV → PM → Prop)
    (h : R32 l3 ∧ R32 (M 55 0) ∧ ((M 55 0) ≤ l3 → Q (some (.inl l2)) M) ∧ (¬ (M 55 0) ≤ l3 → (0 ≤ l3 ∧ l3 < 5) ∧ R32 (M 60 l3) ∧ ((M 60 l3) ≤ 0 → G none (K + 1) jModel_pulls 45 [(0, .inr (.inr 52)), (1, .inl l1), (2, .inl l2), (3, .inl l3), (4, .inl (-5))] [] P0 P0 M Q) ∧ (¬ (M 60 l3) ≤ 0 → G none (K + 1) jModel_pulls 45 [(0, .inr (.inr 52)), (1, .inl l1), (2, .inl l2), (3, .inl l3), (4, .inl l3)] [] P0 P0 M Q))) : G none (K + 1) jModel_pulls 18 [(0, .inr (.inr 52)), (1, .inl l1), (2, .inl l2), (3, .inl l3)] [] P0 P0 M Q := by
  refine G_iload_n 3 rfl rfl (ck dc237 (i := 12) rfl) ?_
  refine G_aload_n 0 rfl rfl (ck dc237 (i := 13) rfl) ?_
  refine H_getR mf237 (ck dc237 (i := 14) rfl) fw_Model_5 fc11_3 ly52 ra52 rf52_3 (by decide) ?_
  refine G_iconst (ck dc237 (i := 15) rfl) ?_
  refine H_iald (ck dc237 (i := 16) rfl) ly55 (by decide) ra55 (by decide) (x := (M 55 0)) rfl ?_
  obtain ⟨o1, h⟩ := h
  obtain ⟨o2, h⟩ := h
  refine G_icmp_ge (tgt := 87) (by decide) o1 o2 (ck dc237 (i := 17) rfl) (fun c => ?_) (fun c => ?_)
  · replace h := h.1 c
    refine G_iload_n 2 rfl rfl (ck dc237 (i := 48) rfl) ?_
    exact H_iretI mf237 (ck dc237 (i := 49) rfl) rfl h
  · replace h := h.2 c
    refine G_aload_n 0 rfl rfl (ck dc237 (i := 18) rfl) ?_
    refine H_getR mf237 (ck dc237 (i := 19) rfl) fw_Model_44 fc11_12 ly52 ra52 rf52_12 (by decide) ?_
    refine G_iload_n 3 rfl rfl (ck dc237 (i := 20) rfl) ?_
    obtain ⟨o3, h⟩ := h
    refine H_iald (ck dc237 (i := 21) rfl) ly60 (by decide) ra60 o3 (x := (M 60 l3)) rfl ?_
    obtain ⟨o4, h⟩ := h
    refine G_if_le (tgt := 41) (by decide) o4 (ck dc237 (i := 22) rfl) (fun c => ?_) (fun c => ?_)
    · replace h := h.1 c
      refine G_bipush (n := (-5)) rfl (ck dc237 (i := 25) rfl) ?_
      refine G_istore (L' := [(4, .inl (-5)), (0, .inr (.inr 52)), (1, .inl l1), (2, .inl l2), (3, .inl l3)]) (mfx.lt mf237 (Nat.le_of_ble_eq_true rfl)) rfl (ck dc237 (i := 26) rfl) ?_
      exact G_sub [1, 2, 3, 4, 0] rfl h
    · replace h := h.2 c
      refine G_iload_n 3 rfl rfl (ck dc237 (i := 23) rfl) ?_
      refine G_goto (tgt := 43) (by decide) (ck dc237 (i := 24) rfl) ?_
      refine G_istore (L' := [(4, .inl l3), (0, .inr (.inr 52)), (1, .inl l1), (2, .inl l2), (3, .inl l3)]) (mfx.lt mf237 (Nat.le_of_ble_eq_true rfl)) rfl (ck dc237 (i := 26) rfl) ?_
      exact G_sub [1, 2, 3, 4, 0] rfl h
set_option maxHeartbeats 20000000 in
theorem g_m_pulls_45 (K : Nat) (l1 l2 l3 l4 : Int) (M : PM) (Q : Option PV → PM → Prop)
    (h : R32 l4 ∧ (l4 < 0 → R32 l1 ∧ (¬ l4 = l1 → G none (K + 1) jModel_pulls 18 [(0, .inr (.inr 52)), (1, .inl l1), (2, .inl (l2 + 0)), (3, .inl (l3 + 1))] [] P0 P0 M Q) ∧ (l4 = l1 → G none (K + 1) jModel_pulls 18 [(0, .inr (.inr 52)), (1, .inl l1), (2, .inl (l2 + 1)), (3, .inl (l3 + 1))] [] P0 P0 M Q)) ∧ (¬ l4 < 0 → R32 l1 ∧ (l4 = l1 → (¬ l4 = l1 → G none (K + 1) jModel_pulls 18 [(0, .inr (.inr 52)), (1, .inl l1), (2, .inl (l2 + 0)), (3, .inl (l3 + 1))] [] P0 P0 M Q) ∧ (l4 = l1 → G none (K + 1) jModel_pulls 18 [(0, .inr (.inr 52)), (1, .inl l1), (2, .inl (l2 + 1)), (3, .inl (l3 + 1))] [] P0 P0 M Q)) ∧ (¬ l4 = l1 → Call K jModel_causeOf [.inr (.inr 52), .inl l4] P0 P0 M (retI fun r4 M5 => G none (K + 1) jModel_pulls 45 [(0, .inr (.inr 52)), (1, .inl l1), (2, .inl l2), (3, .inl l3), (4, .inl r4)] [] P0 P0 M5 Q)))) : G none (K + 1) jModel_pulls 45 [(0, .inr (.inr 52)), (1, .inl l1), (2, .inl l2), (3, .inl l3), (4, .inl l4)] [] P0 P0 M Q := by
  refine G_iload 4 rfl (ck dc237 (i := 27) rfl) ?_
  obtain ⟨o1, h⟩ := h
  refine G_if_lt (tgt := 67) (by decide) o1 (ck dc237 (i := 28) rfl) (fun c => ?_) (fun c => ?_)
  · replace h := h.1 c
    refine G_iload_n 2 rfl rfl (ck dc237 (i := 37) rfl) ?_
    refine G_iload 4 rfl (ck dc237 (i := 38) rfl) ?_
    refine G_iload_n 1 rfl rfl (ck dc237 (i := 39) rfl) ?_
    obtain ⟨o2, h⟩ := h
    refine G_icmp_ne (tgt := 78) (by decide) o1 o2 (ck dc237 (i := 40) rfl) (fun c => ?_) (fun c => ?_)
    · replace h := h.1 c
      refine G_iconst (ck dc237 (i := 43) rfl) ?_
      refine G_iadd (ck dc237 (i := 44) rfl) ?_
      refine G_istore_n (L' := [(2, .inl (l2 + 0)), (0, .inr (.inr 52)), (1, .inl l1), (3, .inl l3), (4, .inl l4)]) rfl (mfx.lt mf237 (Nat.le_of_ble_eq_true rfl)) rfl (ck dc237 (i := 45) rfl) ?_
      refine G_iinc (L' := [(3, .inl (l3 + 1)), (2, .inl (l2 + 0)), (0, .inr (.inr 52)), (1, .inl l1), (4, .inl l4)]) 3 rfl (mfx.lt mf237 (Nat.le_of_ble_eq_true rfl)) rfl (ck dc237 (i := 46) rfl) ?_
      refine G_goto (tgt := 18) (by decide) (ck dc237 (i := 47) rfl) ?_
      exact G_sub [2, 3, 1, 0] rfl h
    · replace h := h.2 c
      refine G_iconst (ck dc237 (i := 41) rfl) ?_
      refine G_goto (tgt := 79) (by decide) (ck dc237 (i := 42) rfl) ?_
      refine G_iadd (ck dc237 (i := 44) rfl) ?_
      refine G_istore_n (L' := [(2, .inl (l2 + 1)), (0, .inr (.inr 52)), (1, .inl l1), (3, .inl l3), (4, .inl l4)]) rfl (mfx.lt mf237 (Nat.le_of_ble_eq_true rfl)) rfl (ck dc237 (i := 45) rfl) ?_
      refine G_iinc (L' := [(3, .inl (l3 + 1)), (2, .inl (l2 + 1)), (0, .inr (.inr 52)), (1, .inl l1), (4, .inl l4)]) 3 rfl (mfx.lt mf237 (Nat.le_of_ble_eq_true rfl)) rfl (ck dc237 (i := 46) rfl) ?_
      refine G_goto (tgt := 18) (by decide) (ck dc237 (i := 47) rfl) ?_
      exact G_sub [2, 3, 1, 0] rfl h
  · replace h := h.2 c
    refine G_iload 4 rfl (ck dc237 (i := 29) rfl) ?_
    refine G_iload_n 1 rfl rfl (ck dc237 (i := 30) rfl) ?_
    obtain ⟨o3, h⟩ := h
    refine G_icmp_eq (tgt := 67) (by decide) o1 o3 (ck dc237 (i := 31) rfl) (fun c => ?_) (fun c => ?_)
    · replace h := h.1 c
      refine G_iload_n 2 rfl rfl (ck dc237 (i := 37) rfl) ?_
      refine G_iload 4 rfl (ck dc237 (i := 38) rfl) ?_
      refine G_iload_n 1 rfl rfl (ck dc237 (i := 39) rfl) ?_
      refine G_icmp_ne (tgt := 78) (by decide) o1 o3 (ck dc237 (i := 40) rfl) (fun c => ?_) (fun c => ?_)
      · replace h := h.1 c
        refine G_iconst (ck dc237 (i := 43) rfl) ?_
        refine G_iadd (ck dc237 (i := 44) rfl) ?_
        refine G_istore_n (L' := [(2, .inl (l2 + 0)), (0, .inr (.inr 52)), (1, .inl l1), (3, .inl l3), (4, .inl l4)]) rfl (mfx.lt mf237 (Nat.le_of_ble_eq_true rfl)) rfl (ck dc237 (i := 45) rfl) ?_
        refine G_iinc (L' := [(3, .inl (l3 + 1)), (2, .inl (l2 + 0)), (0, .inr (.inr 52)), (1, .inl l1), (4, .inl l4)]) 3 rfl (mfx.lt mf237 (Nat.le_of_ble_eq_true rfl)) rfl (ck dc237 (i := 46) rfl) ?_
        refine G_goto (tgt := 18) (by decide) (ck dc237 (i := 47) rfl) ?_
        exact G_sub [2, 3, 1, 0] rfl h
      · replace h := h.2 c
        refine G_iconst (ck dc237 (i := 41) rfl) ?_
        refine G_goto (tgt := 79) (by decide) (ck dc237 (i := 42) rfl) ?_
        refine G_iadd (ck dc237 (i := 44) rfl) ?_
        refine G_istore_n (L' := [(2, .inl (l2 + 1)), (0, .inr (.inr 52)), (1, .inl l1), (3, .inl l3), (4, .inl l4)]) rfl (mfx.lt mf237 (Nat.le_of_ble_eq_true rfl)) rfl (ck dc237 (i := 45) rfl) ?_
        refine G_iinc (L' := [(3, .inl (l3 + 1)), (2, .inl (l2 + 1)), (0, .inr (.inr 52)), (1, .inl l1), (4, .inl l4)]) 3 rfl (mfx.lt mf237 (Nat.le_of_ble_eq_true rfl)) rfl (ck dc237 (i := 46) rfl) ?_
        refine G_goto (tgt := 18) (by decide) (ck dc237 (i := 47) rfl) ?_
        exact G_sub [2, 3, 1, 0] rfl h
    · replace h := h.2 c
      refine G_aload_n 0 rfl rfl (ck dc237 (i := 32) rfl) ?_
      refine G_iload 4 rfl (ck dc237 (i := 33) rfl) ?_
      refine H_vI mf237 (As := [.inl l4]) (st := []) (ck dc237 (i := 34) rfl) lk_Model_262 rfl rfl (Nat.le_of_ble_eq_true rfl) ly52 ra52 ⟨Nat.le_refl _, Nat.le_refl _⟩ h (fun r4 M5 h => ?_)
      refine G_istore (L' := [(4, .inl r4), (0, .inr (.inr 52)), (1, .inl l1), (2, .inl l2), (3, .inl l3)]) (mfx.lt mf237 (Nat.le_of_ble_eq_true rfl)) rfl (ck dc237 (i := 35) rfl) ?_
      refine G_goto (tgt := 45) (by decide) (ck dc237 (i := 36) rfl) ?_
      exact G_sub [1, 2, 3, 4, 0] rfl h
theorem c_model_coinAt (K : Nat) (a1 a2 a3 : Int) (M : PM) (Q : Option PV → PM → Prop)
    (h : Q (some (.inl ((((5 * a1) + a2) * 3) + a3))) M) : Call (K + 1) jModel_coinAt [.inl a1, .inl a2, .inl a3] P0 P0 M Q := by
  refine Call.intro (by decide +kernel) (mfx.le mf242 (Nat.le_of_ble_eq_true rfl)) (Nat.le_refl _) rfl ?_
  refine G_iconst (ck dc242 (i := 0) rfl) ?_
  refine G_iload_n 0 rfl rfl (ck dc242 (i := 1) rfl) ?_
  refine G_imul (ck dc242 (i := 2) rfl) ?_
  refine G_iload_n 1 rfl rfl (ck dc242 (i := 3) rfl) ?_
  refine G_iadd (ck dc242 (i := 4) rfl) ?_
  refine G_iconst (ck dc242 (i := 5) rfl) ?_
  refine G_imul (ck dc242 (i := 6) rfl) ?_
  refine G_iload_n 2 rfl rfl (ck dc242 (i := 7) rfl) ?_
  refine G_iadd (ck dc242 (i := 8) rfl) ?_
  exact H_iretI mf242 (ck dc242 (i := 9) rfl) rfl h
theorem c_m_coinsFor_68 (K : Nat) (a1 : Int) (M : PM) (Q : Option PV → PM → Prop)
    (h : G none (K + 1) jModel_coinsFor 5 [(1, .inl a1), (2, .inr (.inr 68)), (3, .inl 0), (4, .inl 0)] [] P0 P0 M Q) : Call (K + 1) jModel_coinsFor [.inr (.inr 52), .inl a1, .inr (.inr 68)] P0 P0 M Q := by
  refine Call.intro (by decide +kernel) (mfx.le mf241 (Nat.le_of_ble_eq_true rfl)) (Nat.le_refl _) rfl ?_
  refine G_iconst (ck dc241 (i := 0) rfl) ?_
  refine G_istore_n (L' := [(3, .inl 0), (0, .inr (.inr 52)), (1, .inl a1), (2, .inr (.inr 68))]) rfl (mfx.lt mf241 (Nat.le_of_ble_eq_true rfl)) rfl (ck dc241 (i := 1) rfl) ?_
  refine G_iconst (ck dc241 (i := 2) rfl) ?_
  refine G_istore (L' := [(4, .inl 0), (3, .inl 0), (0, .inr (.inr 52)), (1, .inl a1), (2, .inr (.inr 68))]) (mfx.lt mf241 (Nat.le_of_ble_eq_true rfl)) rfl (ck dc241 (i := 3) rfl) ?_
  exact G_sub [3, 4, 1, 0] rfl h
theorem g_m_coinsFor_68_5 (K : Nat) (l1 l3 l4 : Int) (M : PM) (Q : Option PV → PM → Prop)
    (h : R32 l4 ∧ (5 ≤ l4 → Q (some (.inl l3)) M) ∧ (¬ 5 ≤ l4 → G none (K + 1) jModel_coinsFor 14 [(1, .inl l1), (2, .inr (.inr 68)), (3, .inl l3), (4, .inl l4), (5, .inl 0)] [] P0 P0 M Q)) : G none (K + 1) jModel_coinsFor 5 [(1, .inl l1), (2, .inr (.inr 68)), (3, .inl l3), (4, .inl l4)] [] P0 P0 M Q := by
  refine G_iload 3 rfl (ck dc241 (i := 4) rfl) ?_
  refine G_iconst (ck dc241 (i := 5) rfl) ?_
  obtain ⟨o1, h⟩ := h
  refine G_icmp_ge (tgt := 45) (by decide) o1 (by decide) (ck dc241 (i := 6) rfl) (fun c => ?_) (fun c => ?_)
  · replace h := h.1 c
    refine G_iload_n 2 rfl rfl (ck dc241 (i := 25) rfl) ?_
    exact H_iretI mf241 (ck dc241 (i := 26) rfl) rfl h
  · replace h := h.2 c
    refine G_iconst (ck dc241 (i := 7) rfl) ?_
    refine G_istore (L' := [(5, .inl 0), (1, .inl l1), (2, .inr (.inr 68)), (3, .inl l3), (4, .inl l4)]) (mfx.lt mf241 (Nat.le_of_ble_eq_true rfl)) rfl (ck dc241 (i := 8) rfl) ?_
    exact G_sub [1, 2, 3, 4, 0] rfl h
theorem g_m_coinsFor_68_14 (K : Nat) (l1 l3 l4 l5 : Int) (M : PM) (Q : Option PV → PM → Prop)
    (h : R32 l5 ∧ (3 ≤ l5 → G none (K + 1) jModel_coinsFor 5 [(1, .inl l1), (2, .inr (.inr 68)), (3, .inl l3), (4, .inl (l4 + 1))] [] P0 P0 M Q) ∧ (¬ 3 ≤ l5 → Call K jModel_coinAt [.inl l4, .inl l1, .inl l5] P0 P0 M (retI fun r2 M3 => (0 ≤ r2 ∧ r2 < 75) ∧ G none (K + 1) jModel_coinsFor 14 [(1, .inl l1), (2, .inr (.inr 68)), (3, .inl (l3 + (M3 68 r2))), (4, .inl l4), (5, .inl (l5 + 1))] [] P0 P0 M3 Q))) : G none (K + 1) jModel_coinsFor 14 [(1, .inl l1), (2, .inr (.inr 68)), (3, .inl l3), (4, .inl l4), (5, .inl l5)] [] P0 P0 M Q := by
  refine G_iload 4 rfl (ck dc241 (i := 9) rfl) ?_
  refine G_iconst (ck dc241 (i := 10) rfl) ?_
  obtain ⟨o1, h⟩ := h
  refine G_icmp_ge (tgt := 39) (by decide) o1 (by decide) (ck dc241 (i := 11) rfl) (fun c => ?_) (fun c => ?_)
  · replace h := h.1 c
    refine G_iinc (L' := [(4, .inl (l4 + 1)), (1, .inl l1), (2, .inr (.inr 68)), (3, .inl l3), (5, .inl l5)]) 3 rfl (mfx.lt mf241 (Nat.le_of_ble_eq_true rfl)) rfl (ck dc241 (i := 23) rfl) ?_
    refine G_goto (tgt := 5) (by decide) (ck dc241 (i := 24) rfl) ?_
    exact G_sub [1, 2, 3, 0] rfl h
  · replace h := h.2 c
    refine G_iload_n 2 rfl rfl (ck dc241 (i := 12) rfl) ?_
    refine G_aload_n 1 rfl rfl (ck dc241 (i := 13) rfl) ?_
    refine G_iload 3 rfl (ck dc241 (i := 14) rfl) ?_
    refine G_iload_n 0 rfl rfl (ck dc241 (i := 15) rfl) ?_
    refine G_iload 4 rfl (ck dc241 (i := 16) rfl) ?_
    refine H_sI mf241 (As := [.inl l4, .inl l1, .inl l5]) (st := [.inr (.inr 68), .inl l3]) (ck dc241 (i := 17) rfl) lk_Model_270 rfl rfl (Nat.le_of_ble_eq_true rfl) ⟨Nat.le_refl _, Nat.le_refl _⟩ h (fun r2 M3 h => ?_)
    obtain ⟨o4, h⟩ := h
    refine H_iald (ck dc241 (i := 18) rfl) ly68 (by decide) ra68 o4 (x := (M3 68 r2)) rfl ?_
    refine G_iadd (ck dc241 (i := 19) rfl) ?_
    refine G_istore_n (L' := [(3, .inl (l3 + (M3 68 r2))), (1, .inl l1), (2, .inr (.inr 68)), (4, .inl l4), (5, .inl l5)]) rfl (mfx.lt mf241 (Nat.le_of_ble_eq_true rfl)) rfl (ck dc241 (i := 20) rfl) ?_
    refine G_iinc (L' := [(5, .inl (l5 + 1)), (3, .inl (l3 + (M3 68 r2))), (1, .inl l1), (2, .inr (.inr 68)), (4, .inl l4)]) 4 rfl (mfx.lt mf241 (Nat.le_of_ble_eq_true rfl)) rfl (ck dc241 (i := 21) rfl) ?_
    refine G_goto (tgt := 14) (by decide) (ck dc241 (i := 22) rfl) ?_
    exact G_sub [2, 3, 1, 4, 0] rfl h
theorem c_m_restOf (K : Nat) (a1 a2 : Int) (M : PM) (Q : Option PV → PM → Prop)
    (h : (0 ≤ (3 + a1) ∧ (3 + a1) < 83) ∧ R32 (((M 55 1) * (M 55 (3 + a1))) + ((M 55 2) * a2)) ∧ Q (some (.inl (Int.tdiv (((M 55 1) * (M 55 (3 + a1))) + ((M 55 2) * a2)) 10))) M) : Call (K + 1) jModel_restOf [.inr (.inr 52), .inl a1, .inl a2] P0 P0 M Q := by
  refine Call.intro (by decide +kernel) (mfx.le mf243 (Nat.le_of_ble_eq_true rfl)) (Nat.le_refl _) rfl ?_
  refine G_aload_n 0 rfl rfl (ck dc243 (i := 0) rfl) ?_
  refine H_getR mf243 (ck dc243 (i := 1) rfl) fw_Model_5 fc11_3 ly52 ra52 rf52_3 (by decide) ?_
  refine G_iconst (ck dc243 (i := 2) rfl) ?_
  refine H_iald (ck dc243 (i := 3) rfl) ly55 (by decide) ra55 (by decide) (x := (M 55 1)) rfl ?_
  refine G_aload_n 0 rfl rfl (ck dc243 (i := 4) rfl) ?_
  refine H_getR mf243 (ck dc243 (i := 5) rfl) fw_Model_5 fc11_3 ly52 ra52 rf52_3 (by decide) ?_
  refine G_iconst (ck dc243 (i := 6) rfl) ?_
  refine G_iload_n 1 rfl rfl (ck dc243 (i := 7) rfl) ?_
  refine G_iadd (ck dc243 (i := 8) rfl) ?_
  obtain ⟨o1, h⟩ := h
  refine H_iald (ck dc243 (i := 9) rfl) ly55 (by decide) ra55 o1 (x := (M 55 (3 + a1))) rfl ?_
  refine G_imul (ck dc243 (i := 10) rfl) ?_
  refine G_aload_n 0 rfl rfl (ck dc243 (i := 11) rfl) ?_
  refine H_getR mf243 (ck dc243 (i := 12) rfl) fw_Model_5 fc11_3 ly52 ra52 rf52_3 (by decide) ?_
  refine G_iconst (ck dc243 (i := 13) rfl) ?_
  refine H_iald (ck dc243 (i := 14) rfl) ly55 (by decide) ra55 (by decide) (x := (M 55 2)) rfl ?_
  refine G_iload_n 2 rfl rfl (ck dc243 (i := 15) rfl) ?_
  refine G_imul (ck dc243 (i := 16) rfl) ?_
  refine G_iadd (ck dc243 (i := 17) rfl) ?_
  refine G_bipush (n := 10) rfl (ck dc243 (i := 18) rfl) ?_
  obtain ⟨o2, h⟩ := h
  refine G_idiv o2 (by decide) (by decide) (ck dc243 (i := 19) rfl) ?_
  exact H_iretI mf243 (ck dc243 (i := 20) rfl) rfl h
theorem c_m_paysCoins (K : Nat) (a1 : Int) (M : PM) (Q : Option PV → PM → Prop)
    (h : Call K jModel_coinsFor [.inr (.inr 52), .inl a1, .inr (.inr 68)] P0 P0 M (retI fun r1 M2 => (0 ≤ (3 + a1) ∧ (3 + a1) < 83) ∧ Call K jModel_dueInAll [.inr (.inr 52), .inl a1] P0 P0 M2 (retI fun r4 M5 => R32 ((M2 55 (3 + a1)) + r1) ∧ R32 r4 ∧ (r4 ≤ ((M2 55 (3 + a1)) + r1) → Call K jModel_dueInAll [.inr (.inr 52), .inl a1] P0 P0 M5 (retI fun r8 M9 => G none (K + 1) jModel_paysCoins 46 [(0, .inr (.inr 52)), (1, .inl a1), (3, .inl r8), (4, .inl 0)] [] P0 P0 M9 Q)) ∧ (¬ r4 ≤ ((M2 55 (3 + a1)) + r1) → Call K jModel_restOf [.inr (.inr 52), .inl a1, .inl r1] P0 P0 M5 (retI fun r10 M11 => G none (K + 1) jModel_paysCoins 46 [(0, .inr (.inr 52)), (1, .inl a1), (3, .inl r10), (4, .inl 0)] [] P0 P0 M11 Q))))) : Call (K + 1) jModel_paysCoins [.inr (.inr 52), .inl a1] P0 P0 M Q := by
  refine Call.intro (by decide +kernel) (mfx.le mf240 (Nat.le_of_ble_eq_true rfl)) (Nat.le_refl _) rfl ?_
  refine G_aload_n 0 rfl rfl (ck dc240 (i := 0) rfl) ?_
  refine G_iload_n 1 rfl rfl (ck dc240 (i := 1) rfl) ?_
  refine G_aload_n 0 rfl rfl (ck dc240 (i := 2) rfl) ?_
  refine H_getR mf240 (ck dc240 (i := 3) rfl) fw_Model_68 fc11_23 ly52 ra52 rf52_23 (by decide) ?_
  refine H_vI mf240 (As := [.inl a1, .inr (.inr 68)]) (st := []) (ck dc240 (i := 4) rfl) lk_Model_273 rfl rfl (Nat.le_of_ble_eq_true rfl) ly52 ra52 ⟨Nat.le_refl _, Nat.le_refl _⟩ h (fun r1 M2 h => ?_)
  refine G_istore_n (L' := [(2, .inl r1), (0, .inr (.inr 52)), (1, .inl a1)]) rfl (mfx.lt mf240 (Nat.le_of_ble_eq_true rfl)) rfl (ck dc240 (i := 5) rfl) ?_
  refine G_aload_n 1 rfl rfl (ck dc240 (i := 6) rfl) ?_
  refine H_getR mf240 (ck dc240 (i := 7) rfl) fw_Model_5 fc11_3 ly52 ra52 rf52_3 (by decide) ?_
  refine G_iconst (ck dc240 (i := 8) rfl) ?_
  refine G_iload_n 2 rfl rfl (ck dc240 (i := 9) rfl) ?_
  refine G_iadd (ck dc240 (i := 10) rfl) ?_
  obtain ⟨o3, h⟩ := h
  refine H_iald (ck dc240 (i := 11) rfl) ly55 (by decide) ra55 o3 (x := (M2 55 (3 + a1))) rfl ?_
  refine G_iload_n 0 rfl rfl (ck dc240 (i := 12) rfl) ?_
  refine G_iadd (ck dc240 (i := 13) rfl) ?_
  refine G_aload_n 1 rfl rfl (ck dc240 (i := 14) rfl) ?_
  refine G_iload_n 2 rfl rfl (ck dc240 (i := 15) rfl) ?_
  refine H_vI mf240 (As := [.inl a1]) (st := [.inl ((M2 55 (3 + a1)) + r1)]) (ck dc240 (i := 16) rfl) lk_Model_218 rfl rfl (Nat.le_of_ble_eq_true rfl) ly52 ra52 ⟨Nat.le_refl _, Nat.le_refl _⟩ h (fun r4 M5 h => ?_)
  obtain ⟨o6, h⟩ := h
  obtain ⟨o7, h⟩ := h
  refine G_icmp_ge (tgt := 37) (by decide) o6 o7 (ck dc240 (i := 17) rfl) (fun c => ?_) (fun c => ?_)
  · replace h := h.1 c
    refine G_aload_n 1 rfl rfl (ck dc240 (i := 23) rfl) ?_
    refine G_iload_n 2 rfl rfl (ck dc240 (i := 24) rfl) ?_
    refine H_vI mf240 (As := [.inl a1]) (st := []) (ck dc240 (i := 25) rfl) lk_Model_218 rfl rfl (Nat.le_of_ble_eq_true rfl) ly52 ra52 ⟨Nat.le_refl _, Nat.le_refl _⟩ h (fun r8 M9 h => ?_)
    refine G_istore_n (L' := [(3, .inl r8), (2, .inl r1), (0, .inr (.inr 52)), (1, .inl a1)]) rfl (mfx.lt mf240 (Nat.le_of_ble_eq_true rfl)) rfl (ck dc240 (i := 26) rfl) ?_
    refine G_iconst (ck dc240 (i := 27) rfl) ?_
    refine G_istore (L' := [(4, .inl 0), (3, .inl r8), (2, .inl r1), (0, .inr (.inr 52)), (1, .inl a1)]) (mfx.lt mf240 (Nat.le_of_ble_eq_true rfl)) rfl (ck dc240 (i := 28) rfl) ?_
    exact G_sub [3, 4, 1, 0] rfl h
  · replace h := h.2 c
    refine G_aload_n 1 rfl rfl (ck dc240 (i := 18) rfl) ?_
    refine G_iload_n 2 rfl rfl (ck dc240 (i := 19) rfl) ?_
    refine G_iload_n 0 rfl rfl (ck dc240 (i := 20) rfl) ?_
    refine H_vI mf240 (As := [.inl a1, .inl r1]) (st := []) (ck dc240 (i := 21) rfl) lk_Model_277 rfl rfl (Nat.le_of_ble_eq_true rfl) ly52 ra52 ⟨Nat.le_refl _, Nat.le_refl _⟩ h (fun r10 M11 h => ?_)
    refine G_goto (tgt := 42) (by decide) (ck dc240 (i := 22) rfl) ?_
    refine G_istore_n (L' := [(3, .inl r10), (2, .inl r1), (0, .inr (.inr 52)), (1, .inl a1)]) rfl (mfx.lt mf240 (Nat.le_of_ble_eq_true rfl)) rfl (ck dc240 (i := 26) rfl) ?_
    refine G_iconst (ck dc240 (i := 27) rfl) ?_
    refine G_istore (L' := [(4, .inl 0), (3, .inl r10), (2, .inl r1), (0, .inr (.inr 52)), (1, .inl a1)]) (mfx.lt mf240 (Nat.le_of_ble_eq_true rfl)) rfl (ck dc240 (i := 28) rfl) ?_
    exact G_sub [3, 4, 1, 0] rfl h
theorem g_m_paysCoins_46 (K : Nat) (l1 l3 l4 : Int) (M : PM) (Q : Option PV → PM → Prop)
    (h : R32 l4 ∧ (3 ≤ l4 → Q none M) ∧ (¬ 3 ≤ l4 → Call K jModel_due [.inr (.inr 52), .inl l1, .inl l4] P0 P0 M (retI fun r2 M3 => R32 l3 ∧ R32 r2 ∧ G none (K + 1) jModel_paysCoins 72 [(0, .inr (.inr 52)), (1, .inl l1), (3, .inl l3), (4, .inl l4), (5, .inl r2), (6, .inl (mn2 l3 r2)), (7, .inl 0)] [] P0 P0 M3 Q))) : G none (K + 1) jModel_paysCoins 46 [(0, .inr (.inr 52)), (1, .inl l1), (3, .inl l3), (4, .inl l4)] [] P0 P0 M Q := by
  refine G_iload 3 rfl (ck dc240 (i := 29) rfl) ?_
  refine G_iconst (ck dc240 (i := 30) rfl) ?_
  obtain ⟨o1, h⟩ := h
  refine G_icmp_ge (tgt := 128) (by decide) o1 (by decide) (ck dc240 (i := 31) rfl) (fun c => ?_) (fun c => ?_)
  · replace h := h.1 c
    exact H_vret mf240 (ck dc240 (i := 72) rfl) rfl h
  · replace h := h.2 c
    refine G_aload_n 0 rfl rfl (ck dc240 (i := 32) rfl) ?_
    refine G_iload_n 1 rfl rfl (ck dc240 (i := 33) rfl) ?_
    refine G_iload 3 rfl (ck dc240 (i := 34) rfl) ?_
    refine H_vI mf240 (As := [.inl l1, .inl l4]) (st := []) (ck dc240 (i := 35) rfl) lk_Model_106 rfl rfl (Nat.le_of_ble_eq_true rfl) ly52 ra52 ⟨Nat.le_refl _, Nat.le_refl _⟩ h (fun r2 M3 h => ?_)
    refine G_istore (L' := [(5, .inl r2), (0, .inr (.inr 52)), (1, .inl l1), (3, .inl l3), (4, .inl l4)]) (mfx.lt mf240 (Nat.le_of_ble_eq_true rfl)) rfl (ck dc240 (i := 36) rfl) ?_
    refine G_iload_n 3 rfl rfl (ck dc240 (i := 37) rfl) ?_
    refine G_iload 0 rfl (ck dc240 (i := 38) rfl) ?_
    obtain ⟨o4, h⟩ := h
    obtain ⟨o5, h⟩ := h
    refine H_mmin mf240 (ck dc240 (i := 39) rfl) lm_Model_146 (Nat.le_refl _) (Nat.le_of_ble_eq_true rfl) o4 o5 ?_
    refine G_istore (L' := [(6, .inl (mn2 l3 r2)), (5, .inl r2), (0, .inr (.inr 52)), (1, .inl l1), (3, .inl l3), (4, .inl l4)]) (mfx.lt mf240 (Nat.le_of_ble_eq_true rfl)) rfl (ck dc240 (i := 40) rfl) ?_
    refine G_iconst (ck dc240 (i := 41) rfl) ?_
    refine G_istore (L' := [(7, .inl 0), (6, .inl (mn2 l3 r2)), (5, .inl r2), (0, .inr (.inr 52)), (1, .inl l1), (3, .inl l3), (4, .inl l4)]) (mfx.lt mf240 (Nat.le_of_ble_eq_true rfl)) rfl (ck dc240 (i := 42) rfl) ?_
    exact G_sub [3, 4, 5, 6, 2, 1, 0] rfl h
set_option maxHeartbeats 20000000 in
theorem g_m_paysCoins_72 (K : Nat) (l1 l3 l4 l5 l6 l7 : Int) (M : PM) (Q : Option PV → PM → Prop)
    (h : R32 l7 ∧ (5 ≤ l7 → G none (K + 1) jModel_paysCoins 46 [(0, .inr (.inr 52)), (1, .inl l1), (3, .inl (l3 - l6)), (4, .inl (l4 + 1))] [] P0 P0 M Q) ∧ (¬ 5 ≤ l7 → R32 l5 ∧ (l5 ≤ 0 → G none (K + 1) jModel_paysCoins 46 [(0, .inr (.inr 52)), (1, .inl l1), (3, .inl (l3 - l6)), (4, .inl (l4 + 1))] [] P0 P0 M Q) ∧ (¬ l5 ≤ 0 → Call K jModel_coinAt [.inl l1, .inl l7, .inl l4] P0 P0 M (retI fun r3 M4 => Call K jModel_owes [.inr (.inr 52), .inl l1, .inl l7, .inl l4] P0 P0 M4 (retI fun r5 M6 => R32 (r5 * l6) ∧ l5 ≠ 0 ∧ (0 ≤ r3 ∧ r3 < 75) ∧ G none (K + 1) jModel_paysCoins 72 [(0, .inr (.inr 52)), (1, .inl l1), (3, .inl l3), (4, .inl l4), (5, .inl l5), (6, .inl l6), (7, .inl (l7 + 1))] [] P0 P0 (mset M6 67 r3 (Int.tdiv (r5 * l6) l5)) Q))))) : G none (K + 1) jModel_paysCoins 72 [(0, .inr (.inr 52)), (1, .inl l1), (3, .inl l3), (4, .inl l4), (5, .inl l5), (6, .inl l6), (7, .inl l7)] [] P0 P0 M Q := by
  refine G_iload 6 rfl (ck dc240 (i := 43) rfl) ?_
  refine G_iconst (ck dc240 (i := 44) rfl) ?_
  obtain ⟨o1, h⟩ := h
  refine G_icmp_ge (tgt := 117) (by decide) o1 (by decide) (ck dc240 (i := 45) rfl) (fun c => ?_) (fun c => ?_)
  · replace h := h.1 c
    refine G_iload_n 2 rfl rfl (ck dc240 (i := 66) rfl) ?_
    refine G_iload 5 rfl (ck dc240 (i := 67) rfl) ?_
    refine G_isub (ck dc240 (i := 68) rfl) ?_
    refine G_istore_n (L' := [(3, .inl (l3 - l6)), (0, .inr (.inr 52)), (1, .inl l1), (4, .inl l4), (5, .inl l5), (6, .inl l6), (7, .inl l7)]) rfl (mfx.lt mf240 (Nat.le_of_ble_eq_true rfl)) rfl (ck dc240 (i := 69) rfl) ?_
    refine G_iinc (L' := [(4, .inl (l4 + 1)), (3, .inl (l3 - l6)), (0, .inr (.inr 52)), (1, .inl l1), (5, .inl l5), (6, .inl l6), (7, .inl l7)]) 3 rfl (mfx.lt mf240 (Nat.le_of_ble_eq_true rfl)) rfl (ck dc240 (i := 70) rfl) ?_
    refine G_goto (tgt := 46) (by decide) (ck dc240 (i := 71) rfl) ?_
    exact G_sub [2, 3, 1, 0] rfl h
  · replace h := h.2 c
    refine G_iload 4 rfl (ck dc240 (i := 46) rfl) ?_
    obtain ⟨o2, h⟩ := h
    refine G_if_le (tgt := 117) (by decide) o2 (ck dc240 (i := 47) rfl) (fun c => ?_) (fun c => ?_)
    · replace h := h.1 c
      refine G_iload_n 2 rfl rfl (ck dc240 (i := 66) rfl) ?_
      refine G_iload 5 rfl (ck dc240 (i := 67) rfl) ?_
      refine G_isub (ck dc240 (i := 68) rfl) ?_
      refine G_istore_n (L' := [(3, .inl (l3 - l6)), (0, .inr (.inr 52)), (1, .inl l1), (4, .inl l4), (5, .inl l5), (6, .inl l6), (7, .inl l7)]) rfl (mfx.lt mf240 (Nat.le_of_ble_eq_true rfl)) rfl (ck dc240 (i := 69) rfl) ?_
      refine G_iinc (L' := [(4, .inl (l4 + 1)), (3, .inl (l3 - l6)), (0, .inr (.inr 52)), (1, .inl l1), (5, .inl l5), (6, .inl l6), (7, .inl l7)]) 3 rfl (mfx.lt mf240 (Nat.le_of_ble_eq_true rfl)) rfl (ck dc240 (i := 70) rfl) ?_
      refine G_goto (tgt := 46) (by decide) (ck dc240 (i := 71) rfl) ?_
      exact G_sub [2, 3, 1, 0] rfl h
    · replace h := h.2 c
      refine G_aload_n 0 rfl rfl (ck dc240 (i := 48) rfl) ?_
      refine H_getR mf240 (ck dc240 (i := 49) rfl) fw_Model_65 fc11_22 ly52 ra52 rf52_22 (by decide) ?_
      refine G_iload_n 1 rfl rfl (ck dc240 (i := 50) rfl) ?_
      refine G_iload 6 rfl (ck dc240 (i := 51) rfl) ?_
      refine G_iload 3 rfl (ck dc240 (i := 52) rfl) ?_
      refine H_sI mf240 (As := [.inl l1, .inl l7, .inl l4]) (st := [.inr (.inr 67)]) (ck dc240 (i := 53) rfl) lk_Model_270 rfl rfl (Nat.le_of_ble_eq_true rfl) ⟨Nat.le_refl _, Nat.le_refl _⟩ h (fun r3 M4 h => ?_)
      refine G_aload_n 0 rfl rfl (ck dc240 (i := 54) rfl) ?_
      refine G_iload_n 1 rfl rfl (ck dc240 (i := 55) rfl) ?_
      refine G_iload 6 rfl (ck dc240 (i := 56) rfl) ?_
      refine G_iload 3 rfl (ck dc240 (i := 57) rfl) ?_
      refine H_vI mf240 (As := [.inl l1, .inl l7, .inl l4]) (st := [.inl r3, .inr (.inr 67)]) (ck dc240 (i := 58) rfl) lk_Model_103 rfl rfl (Nat.le_of_ble_eq_true rfl) ly52 ra52 ⟨Nat.le_refl _, Nat.le_refl _⟩ h (fun r5 M6 h => ?_)
      refine G_iload 5 rfl (ck dc240 (i := 59) rfl) ?_
      refine G_imul (ck dc240 (i := 60) rfl) ?_
      refine G_iload 4 rfl (ck dc240 (i := 61) rfl) ?_
      obtain ⟨o7, h⟩ := h
      obtain ⟨o8, h⟩ := h
      refine G_idiv o7 o2 o8 (ck dc240 (i := 62) rfl) ?_
      obtain ⟨o9, h⟩ := h
      refine G_iast (ck dc240 (i := 63) rfl) ra67 ly67 (by decide) o9 ?_
      refine G_iinc (L' := [(7, .inl (l7 + 1)), (0, .inr (.inr 52)), (1, .inl l1), (3, .inl l3), (4, .inl l4), (5, .inl l5), (6, .inl l6)]) 6 rfl (mfx.lt mf240 (Nat.le_of_ble_eq_true rfl)) rfl (ck dc240 (i := 64) rfl) ?_
      refine G_goto (tgt := 72) (by decide) (ck dc240 (i := 65) rfl) ?_
      exact G_sub [1, 2, 3, 4, 5, 6, 0] rfl h
theorem c_m_stepsOn (K : Nat) (M : PM) (Q : Option PV → PM → Prop)
    (h : G none (K + 1) jModel_stepsOn 2 [(0, .inr (.inr 52)), (1, .inl 0)] [] P0 P0 M Q) : Call (K + 1) jModel_stepsOn [.inr (.inr 52)] P0 P0 M Q := by
  refine Call.intro (by decide +kernel) (mfx.le mf239 (Nat.le_of_ble_eq_true rfl)) (Nat.le_refl _) rfl ?_
  refine G_iconst (ck dc239 (i := 0) rfl) ?_
  refine G_istore_n (L' := [(1, .inl 0), (0, .inr (.inr 52))]) rfl (mfx.lt mf239 (Nat.le_of_ble_eq_true rfl)) rfl (ck dc239 (i := 1) rfl) ?_
  exact G_sub [1, 0] rfl h
theorem g_m_stepsOn_2 (K : Nat) (l1 : Int) (M : PM) (Q : Option PV → PM → Prop)
    (h : R32 l1 ∧ (75 ≤ l1 → G none (K + 1) jModel_stepsOn 36 [(0, .inr (.inr 52)), (1, .inl 1)] [] P0 P0 (mset M 52 24 (-1)) Q) ∧ (¬ 75 ≤ l1 → (0 ≤ (8 + l1) ∧ (8 + l1) < 83) ∧ (0 ≤ l1 ∧ l1 < 75) ∧ G none (K + 1) jModel_stepsOn 2 [(0, .inr (.inr 52)), (1, .inl (l1 + 1))] [] P0 P0 (mset M 67 l1 (M 55 (8 + l1))) Q)) : G none (K + 1) jModel_stepsOn 2 [(0, .inr (.inr 52)), (1, .inl l1)] [] P0 P0 M Q := by
  refine G_iload_n 1 rfl rfl (ck dc239 (i := 2) rfl) ?_
  refine G_bipush (n := 75) rfl (ck dc239 (i := 3) rfl) ?_
  obtain ⟨o1, h⟩ := h
  refine G_icmp_ge (tgt := 29) (by decide) o1 (by decide) (ck dc239 (i := 4) rfl) (fun c => ?_) (fun c => ?_)
  · replace h := h.1 c
    refine G_aload_n 0 rfl rfl (ck dc239 (i := 17) rfl) ?_
    refine G_iconst (ck dc239 (i := 18) rfl) ?_
    refine H_putI mf239 (ck dc239 (i := 19) rfl) fw_Model_280 fc11_24 ly52 ra52 (Or.inl rfl) ?_
    refine G_iconst (ck dc239 (i := 20) rfl) ?_
    refine G_istore_n (L' := [(1, .inl 1), (0, .inr (.inr 52))]) rfl (mfx.lt mf239 (Nat.le_of_ble_eq_true rfl)) rfl (ck dc239 (i := 21) rfl) ?_
    exact G_sub [1, 0] rfl h
  · replace h := h.2 c
    refine G_aload_n 0 rfl rfl (ck dc239 (i := 5) rfl) ?_
    refine H_getR mf239 (ck dc239 (i := 6) rfl) fw_Model_65 fc11_22 ly52 ra52 rf52_22 (by decide) ?_
    refine G_iload_n 1 rfl rfl (ck dc239 (i := 7) rfl) ?_
    refine G_aload_n 0 rfl rfl (ck dc239 (i := 8) rfl) ?_
    refine H_getR mf239 (ck dc239 (i := 9) rfl) fw_Model_5 fc11_3 ly52 ra52 rf52_3 (by decide) ?_
    refine G_bipush (n := 8) rfl (ck dc239 (i := 10) rfl) ?_
    refine G_iload_n 1 rfl rfl (ck dc239 (i := 11) rfl) ?_
    refine G_iadd (ck dc239 (i := 12) rfl) ?_
    obtain ⟨o2, h⟩ := h
    refine H_iald (ck dc239 (i := 13) rfl) ly55 (by decide) ra55 o2 (x := (M 55 (8 + l1))) rfl ?_
    obtain ⟨o3, h⟩ := h
    refine G_iast (ck dc239 (i := 14) rfl) ra67 ly67 (by decide) o3 ?_
    refine G_iinc (L' := [(1, .inl (l1 + 1)), (0, .inr (.inr 52))]) 1 rfl (mfx.lt mf239 (Nat.le_of_ble_eq_true rfl)) rfl (ck dc239 (i := 15) rfl) ?_
    refine G_goto (tgt := 2) (by decide) (ck dc239 (i := 16) rfl) ?_
    exact G_sub [1, 0] rfl h
theorem g_m_stepsOn_36 (K : Nat) (l1 : Int) (M : PM) (Q : Option PV → PM → Prop)
    (h : R32 l1 ∧ (l1 = 0 → Q (some (.inl (M 52 24))) M) ∧ (¬ l1 = 0 → G none (K + 1) jModel_stepsOn 57 [(0, .inr (.inr 52)), (2, .inl 0)] [] P0 P0 (mcpy M 67 68 75) Q)) : G none (K + 1) jModel_stepsOn 36 [(0, .inr (.inr 52)), (1, .inl l1)] [] P0 P0 M Q := by
  refine G_iload_n 1 rfl rfl (ck dc239 (i := 22) rfl) ?_
  obtain ⟨o1, h⟩ := h
  refine G_if_eq (tgt := 132) (by decide) o1 (ck dc239 (i := 23) rfl) (fun c => ?_) (fun c => ?_)
  · replace h := h.1 c
    refine G_aload_n 0 rfl rfl (ck dc239 (i := 76) rfl) ?_
    refine H_getI mf239 (ck dc239 (i := 77) rfl) fw_Model_280 (Or.inl fc11_24) ly52 ra52 (x := (M 52 24)) rfl ?_
    exact H_iretI mf239 (ck dc239 (i := 78) rfl) rfl h
  · replace h := h.2 c
    refine G_aload_n 0 rfl rfl (ck dc239 (i := 24) rfl) ?_
    refine H_getR mf239 (ck dc239 (i := 25) rfl) fw_Model_65 fc11_22 ly52 ra52 rf52_22 (by decide) ?_
    refine G_iconst (ck dc239 (i := 26) rfl) ?_
    refine G_aload_n 0 rfl rfl (ck dc239 (i := 27) rfl) ?_
    refine H_getR mf239 (ck dc239 (i := 28) rfl) fw_Model_68 fc11_23 ly52 ra52 rf52_23 (by decide) ?_
    refine G_iconst (ck dc239 (i := 29) rfl) ?_
    refine G_bipush (n := 75) rfl (ck dc239 (i := 30) rfl) ?_
    refine H_cpyi mf239 (n := 75) (ck dc239 (i := 31) rfl) la_Model_283 (by decide) ly67 ly68 ra67 ra68 (by decide) (by decide) (by decide) (Nat.le_of_ble_eq_true rfl) ?_
    refine G_iconst (ck dc239 (i := 32) rfl) ?_
    refine G_istore_n (L' := [(2, .inl 0), (0, .inr (.inr 52)), (1, .inl l1)]) rfl (mfx.lt mf239 (Nat.le_of_ble_eq_true rfl)) rfl (ck dc239 (i := 33) rfl) ?_
    exact G_sub [1, 0] rfl h
theorem g_m_stepsOn_57 (K : Nat) (l2 : Int) (M : PM) (Q : Option PV → PM → Prop)
    (h : R32 l2 ∧ R32 (M 55 0) ∧ ((M 55 0) ≤ l2 → G none (K + 1) jModel_stepsOn 92 [(0, .inr (.inr 52)), (1, .inl 0), (2, .inl 0)] [] P0 P0 (mset M 52 24 ((M 52 24) + 1)) Q) ∧ (¬ (M 55 0) ≤ l2 → Call K jModel_paysCoins [.inr (.inr 52), .inl l2] P0 P0 M (retV fun M4 => G none (K + 1) jModel_stepsOn 57 [(0, .inr (.inr 52)), (2, .inl (l2 + 1))] [] P0 P0 M4 Q))) : G none (K + 1) jModel_stepsOn 57 [(0, .inr (.inr 52)), (2, .inl l2)] [] P0 P0 M Q := by
  refine G_iload_n 1 rfl rfl (ck dc239 (i := 34) rfl) ?_
  refine G_aload_n 0 rfl rfl (ck dc239 (i := 35) rfl) ?_
  refine H_getR mf239 (ck dc239 (i := 36) rfl) fw_Model_5 fc11_3 ly52 ra52 rf52_3 (by decide) ?_
  refine G_iconst (ck dc239 (i := 37) rfl) ?_
  refine H_iald (ck dc239 (i := 38) rfl) ly55 (by decide) ra55 (by decide) (x := (M 55 0)) rfl ?_
  obtain ⟨o1, h⟩ := h
  obtain ⟨o2, h⟩ := h
  refine G_icmp_ge (tgt := 78) (by decide) o1 o2 (ck dc239 (i := 39) rfl) (fun c => ?_) (fun c => ?_)
  · replace h := h.1 c
    refine G_aload_n 0 rfl rfl (ck dc239 (i := 45) rfl) ?_
    refine G_dup rfl (ck dc239 (i := 46) rfl) ?_
    refine H_getI mf239 (ck dc239 (i := 47) rfl) fw_Model_280 (Or.inl fc11_24) ly52 ra52 (x := (M 52 24)) rfl ?_
    refine G_iconst (ck dc239 (i := 48) rfl) ?_
    refine G_iadd (ck dc239 (i := 49) rfl) ?_
    refine H_putI mf239 (ck dc239 (i := 50) rfl) fw_Model_280 fc11_24 ly52 ra52 (Or.inl rfl) ?_
    refine G_iconst (ck dc239 (i := 51) rfl) ?_
    refine G_istore_n (L' := [(1, .inl 0), (0, .inr (.inr 52)), (2, .inl l2)]) rfl (mfx.lt mf239 (Nat.le_of_ble_eq_true rfl)) rfl (ck dc239 (i := 52) rfl) ?_
    refine G_iconst (ck dc239 (i := 53) rfl) ?_
    refine G_istore_n (L' := [(2, .inl 0), (1, .inl 0), (0, .inr (.inr 52))]) rfl (mfx.lt mf239 (Nat.le_of_ble_eq_true rfl)) rfl (ck dc239 (i := 54) rfl) ?_
    exact G_sub [2, 1, 0] rfl h
  · replace h := h.2 c
    refine G_aload_n 0 rfl rfl (ck dc239 (i := 40) rfl) ?_
    refine G_iload_n 1 rfl rfl (ck dc239 (i := 41) rfl) ?_
    refine H_vV mf239 (As := [.inl l2]) (st := []) (ck dc239 (i := 42) rfl) lk_Model_289 rfl rfl (Nat.le_of_ble_eq_true rfl) ly52 ra52 ⟨Nat.le_refl _, Nat.le_refl _⟩ h (fun M4 h => ?_)
    refine G_iinc (L' := [(2, .inl (l2 + 1)), (0, .inr (.inr 52))]) 1 rfl (mfx.lt mf239 (Nat.le_of_ble_eq_true rfl)) rfl (ck dc239 (i := 43) rfl) ?_
    refine G_goto (tgt := 57) (by decide) (ck dc239 (i := 44) rfl) ?_
    exact G_sub [1, 0] rfl h
theorem g_m_stepsOn_92 (K : Nat) (l1 l2 : Int) (M : PM) (Q : Option PV → PM → Prop)
    (h : R32 l2 ∧ (75 ≤ l2 → G none (K + 1) jModel_stepsOn 36 [(0, .inr (.inr 52)), (1, .inl l1)] [] P0 P0 M Q) ∧ (¬ 75 ≤ l2 → R32 l1 ∧ (¬ l1 = 0 → G none (K + 1) jModel_stepsOn 92 [(0, .inr (.inr 52)), (1, .inl 1), (2, .inl (l2 + 1))] [] P0 P0 M Q) ∧ (l1 = 0 → (0 ≤ l2 ∧ l2 < 75) ∧ R32 (M 67 l2) ∧ R32 (M 68 l2) ∧ ((M 67 l2) = (M 68 l2) → G none (K + 1) jModel_stepsOn 92 [(0, .inr (.inr 52)), (1, .inl 0), (2, .inl (l2 + 1))] [] P0 P0 M Q) ∧ (¬ (M 67 l2) = (M 68 l2) → G none (K + 1) jModel_stepsOn 92 [(0, .inr (.inr 52)), (1, .inl 1), (2, .inl (l2 + 1))] [] P0 P0 M Q)))) : G none (K + 1) jModel_stepsOn 92 [(0, .inr (.inr 52)), (1, .inl l1), (2, .inl l2)] [] P0 P0 M Q := by
  refine G_iload_n 2 rfl rfl (ck dc239 (i := 55) rfl) ?_
  refine G_bipush (n := 75) rfl (ck dc239 (i := 56) rfl) ?_
  obtain ⟨o1, h⟩ := h
  refine G_icmp_ge (tgt := 129) (by decide) o1 (by decide) (ck dc239 (i := 57) rfl) (fun c => ?_) (fun c => ?_)
  · replace h := h.1 c
    refine G_goto (tgt := 36) (by decide) (ck dc239 (i := 75) rfl) ?_
    exact G_sub [0, 1] rfl h
  · replace h := h.2 c
    refine G_iload_n 1 rfl rfl (ck dc239 (i := 58) rfl) ?_
    obtain ⟨o2, h⟩ := h
    refine G_if_ne (tgt := 117) (by decide) o2 (ck dc239 (i := 59) rfl) (fun c => ?_) (fun c => ?_)
    · replace h := h.1 c
      refine G_iconst (ck dc239 (i := 69) rfl) ?_
      refine G_goto (tgt := 122) (by decide) (ck dc239 (i := 70) rfl) ?_
      refine G_istore_n (L' := [(1, .inl 1), (0, .inr (.inr 52)), (2, .inl l2)]) rfl (mfx.lt mf239 (Nat.le_of_ble_eq_true rfl)) rfl (ck dc239 (i := 72) rfl) ?_
      refine G_iinc (L' := [(2, .inl (l2 + 1)), (1, .inl 1), (0, .inr (.inr 52))]) 2 rfl (mfx.lt mf239 (Nat.le_of_ble_eq_true rfl)) rfl (ck dc239 (i := 73) rfl) ?_
      refine G_goto (tgt := 92) (by decide) (ck dc239 (i := 74) rfl) ?_
      exact G_sub [2, 1, 0] rfl h
    · replace h := h.2 c
      refine G_aload_n 0 rfl rfl (ck dc239 (i := 60) rfl) ?_
      refine H_getR mf239 (ck dc239 (i := 61) rfl) fw_Model_65 fc11_22 ly52 ra52 rf52_22 (by decide) ?_
      refine G_iload_n 2 rfl rfl (ck dc239 (i := 62) rfl) ?_
      obtain ⟨o3, h⟩ := h
      refine H_iald (ck dc239 (i := 63) rfl) ly67 (by decide) ra67 o3 (x := (M 67 l2)) rfl ?_
      refine G_aload_n 0 rfl rfl (ck dc239 (i := 64) rfl) ?_
      refine H_getR mf239 (ck dc239 (i := 65) rfl) fw_Model_68 fc11_23 ly52 ra52 rf52_23 (by decide) ?_
      refine G_iload_n 2 rfl rfl (ck dc239 (i := 66) rfl) ?_
      refine H_iald (ck dc239 (i := 67) rfl) ly68 (by decide) ra68 o3 (x := (M 68 l2)) rfl ?_
      obtain ⟨o4, h⟩ := h
      obtain ⟨o5, h⟩ := h
      refine G_icmp_eq (tgt := 121) (by decide) o4 o5 (ck dc239 (i := 68) rfl) (fun c => ?_) (fun c => ?_)
      · replace h := h.1 c
        refine G_iconst (ck dc239 (i := 71) rfl) ?_
        refine G_istore_n (L' := [(1, .inl 0), (0, .inr (.inr 52)), (2, .inl l2)]) rfl (mfx.lt mf239 (Nat.le_of_ble_eq_true rfl)) rfl (ck dc239 (i := 72) rfl) ?_
        refine G_iinc (L' := [(2, .inl (l2 + 1)), (1, .inl 0), (0, .inr (.inr 52))]) 2 rfl (mfx.lt mf239 (Nat.le_of_ble_eq_true rfl)) rfl (ck dc239 (i := 73) rfl) ?_
        refine G_goto (tgt := 92) (by decide) (ck dc239 (i := 74) rfl) ?_
        exact G_sub [2, 1, 0] rfl h
      · replace h := h.2 c
        refine G_iconst (ck dc239 (i := 69) rfl) ?_
        refine G_goto (tgt := 122) (by decide) (ck dc239 (i := 70) rfl) ?_
        refine G_istore_n (L' := [(1, .inl 1), (0, .inr (.inr 52)), (2, .inl l2)]) rfl (mfx.lt mf239 (Nat.le_of_ble_eq_true rfl)) rfl (ck dc239 (i := 72) rfl) ?_
        refine G_iinc (L' := [(2, .inl (l2 + 1)), (1, .inl 1), (0, .inr (.inr 52))]) 2 rfl (mfx.lt mf239 (Nat.le_of_ble_eq_true rfl)) rfl (ck dc239 (i := 73) rfl) ?_
        refine G_goto (tgt := 92) (by decide) (ck dc239 (i := 74) rfl) ?_
        exact G_sub [2, 1, 0] rfl h
theorem c_m_coin (K : Nat) (a1 a2 a3 : Int) (M : PM) (Q : Option PV → PM → Prop)
    (h : Call K jModel_arePair [.inr (.inr 52), .inl a1, .inl a2] P0 P0 M (retI fun r1 M2 => R32 r1 ∧ (r1 = 0 → Q (some (.inl (-1))) M2) ∧ (¬ r1 = 0 → Call K jModel_isClass [.inl a3] P0 P0 M2 (retI fun r4 M5 => R32 r4 ∧ (¬ r4 = 0 → Call K jModel_stepsOn [.inr (.inr 52)] P0 P0 M5 (retI fun r7 M8 => Call K jModel_coinAt [.inl a1, .inl a2, .inl a3] P0 P0 M8 (retI fun r9 M10 => (0 ≤ r9 ∧ r9 < 75) ∧ Q (some (.inl (M10 67 r9))) M10))) ∧ (r4 = 0 → Q (some (.inl (-1))) M5))))) : Call (K + 1) jModel_coin [.inr (.inr 52), .inl a1, .inl a2, .inl a3] P0 P0 M Q := by
  refine Call.intro (by decide +kernel) (mfx.le mf238 (Nat.le_of_ble_eq_true rfl)) (Nat.le_refl _) rfl ?_
  refine G_aload_n 0 rfl rfl (ck dc238 (i := 0) rfl) ?_
  refine G_iload_n 1 rfl rfl (ck dc238 (i := 1) rfl) ?_
  refine G_iload_n 2 rfl rfl (ck dc238 (i := 2) rfl) ?_
  refine H_vZ mf238 (As := [.inl a1, .inl a2]) (st := []) (ck dc238 (i := 3) rfl) lk_Model_117 rfl rfl (Nat.le_of_ble_eq_true rfl) ly52 ra52 ⟨Nat.le_refl _, Nat.le_refl _⟩ h (fun r1 M2 h => ?_)
  obtain ⟨o3, h⟩ := h
  refine G_if_eq (tgt := 16) (by decide) o3 (ck dc238 (i := 4) rfl) (fun c => ?_) (fun c => ?_)
  · replace h := h.1 c
    refine G_iconst (ck dc238 (i := 8) rfl) ?_
    exact H_iretI mf238 (ck dc238 (i := 9) rfl) rfl h
  · replace h := h.2 c
    refine G_iload_n 3 rfl rfl (ck dc238 (i := 5) rfl) ?_
    refine H_sZ mf238 (As := [.inl a3]) (st := []) (ck dc238 (i := 6) rfl) lk_Model_121 rfl rfl (Nat.le_of_ble_eq_true rfl) ⟨Nat.le_refl _, Nat.le_refl _⟩ h (fun r4 M5 h => ?_)
    obtain ⟨o6, h⟩ := h
    refine G_if_ne (tgt := 18) (by decide) o6 (ck dc238 (i := 7) rfl) (fun c => ?_) (fun c => ?_)
    · replace h := h.1 c
      refine G_aload_n 0 rfl rfl (ck dc238 (i := 10) rfl) ?_
      refine H_vI mf238 (As := []) (st := []) (ck dc238 (i := 11) rfl) lk_Model_292 rfl rfl (Nat.le_of_ble_eq_true rfl) ly52 ra52 ⟨Nat.le_refl _, Nat.le_refl _⟩ h (fun r7 M8 h => ?_)
      refine G_pop rfl (ck dc238 (i := 12) rfl) ?_
      refine G_aload_n 0 rfl rfl (ck dc238 (i := 13) rfl) ?_
      refine H_getR mf238 (ck dc238 (i := 14) rfl) fw_Model_65 fc11_22 ly52 ra52 rf52_22 (by decide) ?_
      refine G_iload_n 1 rfl rfl (ck dc238 (i := 15) rfl) ?_
      refine G_iload_n 2 rfl rfl (ck dc238 (i := 16) rfl) ?_
      refine G_iload_n 3 rfl rfl (ck dc238 (i := 17) rfl) ?_
      refine H_sI mf238 (As := [.inl a1, .inl a2, .inl a3]) (st := [.inr (.inr 67)]) (ck dc238 (i := 18) rfl) lk_Model_270 rfl rfl (Nat.le_of_ble_eq_true rfl) ⟨Nat.le_refl _, Nat.le_refl _⟩ h (fun r9 M10 h => ?_)
      obtain ⟨o11, h⟩ := h
      refine H_iald (ck dc238 (i := 19) rfl) ly67 (by decide) ra67 o11 (x := (M10 67 r9)) rfl ?_
      exact H_iretI mf238 (ck dc238 (i := 20) rfl) rfl h
    · replace h := h.2 c
      refine G_iconst (ck dc238 (i := 8) rfl) ?_
      exact H_iretI mf238 (ck dc238 (i := 9) rfl) rfl h
theorem c_m_steps (K : Nat) (M : PM) (Q : Option PV → PM → Prop)
    (h : Call K jModel_stepsOn [.inr (.inr 52)] P0 P0 M (retI fun r1 M2 => Q (some (.inl r1)) M2)) : Call (K + 1) jModel_steps [.inr (.inr 52)] P0 P0 M Q := by
  refine Call.intro (by decide +kernel) (mfx.le mf244 (Nat.le_of_ble_eq_true rfl)) (Nat.le_refl _) rfl ?_
  refine G_aload_n 0 rfl rfl (ck dc244 (i := 0) rfl) ?_
  refine H_vI mf244 (As := []) (st := []) (ck dc244 (i := 1) rfl) lk_Model_292 rfl rfl (Nat.le_of_ble_eq_true rfl) ly52 ra52 ⟨Nat.le_refl _, Nat.le_refl _⟩ h (fun r1 M2 h => ?_)
  exact H_iretI mf244 (ck dc244 (i := 2) rfl) rfl h
theorem c_m_coinsFor_67 (K : Nat) (a1 : Int) (M : PM) (Q : Option PV → PM → Prop)
    (h : G none (K + 1) jModel_coinsFor 5 [(1, .inl a1), (2, .inr (.inr 67)), (3, .inl 0), (4, .inl 0)] [] P0 P0 M Q) : Call (K + 1) jModel_coinsFor [.inr (.inr 52), .inl a1, .inr (.inr 67)] P0 P0 M Q := by
  refine Call.intro (by decide +kernel) (mfx.le mf241 (Nat.le_of_ble_eq_true rfl)) (Nat.le_refl _) rfl ?_
  refine G_iconst (ck dc241 (i := 0) rfl) ?_
  refine G_istore_n (L' := [(3, .inl 0), (0, .inr (.inr 52)), (1, .inl a1), (2, .inr (.inr 67))]) rfl (mfx.lt mf241 (Nat.le_of_ble_eq_true rfl)) rfl (ck dc241 (i := 1) rfl) ?_
  refine G_iconst (ck dc241 (i := 2) rfl) ?_
  refine G_istore (L' := [(4, .inl 0), (3, .inl 0), (0, .inr (.inr 52)), (1, .inl a1), (2, .inr (.inr 67))]) (mfx.lt mf241 (Nat.le_of_ble_eq_true rfl)) rfl (ck dc241 (i := 3) rfl) ?_
  exact G_sub [3, 4, 1, 0] rfl h
theorem g_m_coinsFor_67_5 (K : Nat) (l1 l3 l4 : Int) (M : PM) (Q : Option PV → PM → Prop)
    (h : R32 l4 ∧ (5 ≤ l4 → Q (some (.inl l3)) M) ∧ (¬ 5 ≤ l4 → G none (K + 1) jModel_coinsFor 14 [(1, .inl l1), (2, .inr (.inr 67)), (3, .inl l3), (4, .inl l4), (5, .inl 0)] [] P0 P0 M Q)) : G none (K + 1) jModel_coinsFor 5 [(1, .inl l1), (2, .inr (.inr 67)), (3, .inl l3), (4, .inl l4)] [] P0 P0 M Q := by
  refine G_iload 3 rfl (ck dc241 (i := 4) rfl) ?_
  refine G_iconst (ck dc241 (i := 5) rfl) ?_
  obtain ⟨o1, h⟩ := h
  refine G_icmp_ge (tgt := 45) (by decide) o1 (by decide) (ck dc241 (i := 6) rfl) (fun c => ?_) (fun c => ?_)
  · replace h := h.1 c
    refine G_iload_n 2 rfl rfl (ck dc241 (i := 25) rfl) ?_
    exact H_iretI mf241 (ck dc241 (i := 26) rfl) rfl h
  · replace h := h.2 c
    refine G_iconst (ck dc241 (i := 7) rfl) ?_
    refine G_istore (L' := [(5, .inl 0), (1, .inl l1), (2, .inr (.inr 67)), (3, .inl l3), (4, .inl l4)]) (mfx.lt mf241 (Nat.le_of_ble_eq_true rfl)) rfl (ck dc241 (i := 8) rfl) ?_
    exact G_sub [1, 2, 3, 4, 0] rfl h
theorem g_m_coinsFor_67_14 (K : Nat) (l1 l3 l4 l5 : Int) (M : PM) (Q : Option PV → PM → Prop)
    (h : R32 l5 ∧ (3 ≤ l5 → G none (K + 1) jModel_coinsFor 5 [(1, .inl l1), (2, .inr (.inr 67)), (3, .inl l3), (4, .inl (l4 + 1))] [] P0 P0 M Q) ∧ (¬ 3 ≤ l5 → Call K jModel_coinAt [.inl l4, .inl l1, .inl l5] P0 P0 M (retI fun r2 M3 => (0 ≤ r2 ∧ r2 < 75) ∧ G none (K + 1) jModel_coinsFor 14 [(1, .inl l1), (2, .inr (.inr 67)), (3, .inl (l3 + (M3 67 r2))), (4, .inl l4), (5, .inl (l5 + 1))] [] P0 P0 M3 Q))) : G none (K + 1) jModel_coinsFor 14 [(1, .inl l1), (2, .inr (.inr 67)), (3, .inl l3), (4, .inl l4), (5, .inl l5)] [] P0 P0 M Q := by
  refine G_iload 4 rfl (ck dc241 (i := 9) rfl) ?_
  refine G_iconst (ck dc241 (i := 10) rfl) ?_
  obtain ⟨o1, h⟩ := h
  refine G_icmp_ge (tgt := 39) (by decide) o1 (by decide) (ck dc241 (i := 11) rfl) (fun c => ?_) (fun c => ?_)
  · replace h := h.1 c
    refine G_iinc (L' := [(4, .inl (l4 + 1)), (1, .inl l1), (2, .inr (.inr 67)), (3, .inl l3), (5, .inl l5)]) 3 rfl (mfx.lt mf241 (Nat.le_of_ble_eq_true rfl)) rfl (ck dc241 (i := 23) rfl) ?_
    refine G_goto (tgt := 5) (by decide) (ck dc241 (i := 24) rfl) ?_
    exact G_sub [1, 2, 3, 0] rfl h
  · replace h := h.2 c
    refine G_iload_n 2 rfl rfl (ck dc241 (i := 12) rfl) ?_
    refine G_aload_n 1 rfl rfl (ck dc241 (i := 13) rfl) ?_
    refine G_iload 3 rfl (ck dc241 (i := 14) rfl) ?_
    refine G_iload_n 0 rfl rfl (ck dc241 (i := 15) rfl) ?_
    refine G_iload 4 rfl (ck dc241 (i := 16) rfl) ?_
    refine H_sI mf241 (As := [.inl l4, .inl l1, .inl l5]) (st := [.inr (.inr 67), .inl l3]) (ck dc241 (i := 17) rfl) lk_Model_270 rfl rfl (Nat.le_of_ble_eq_true rfl) ⟨Nat.le_refl _, Nat.le_refl _⟩ h (fun r2 M3 h => ?_)
    obtain ⟨o4, h⟩ := h
    refine H_iald (ck dc241 (i := 18) rfl) ly67 (by decide) ra67 o4 (x := (M3 67 r2)) rfl ?_
    refine G_iadd (ck dc241 (i := 19) rfl) ?_
    refine G_istore_n (L' := [(3, .inl (l3 + (M3 67 r2))), (1, .inl l1), (2, .inr (.inr 67)), (4, .inl l4), (5, .inl l5)]) rfl (mfx.lt mf241 (Nat.le_of_ble_eq_true rfl)) rfl (ck dc241 (i := 20) rfl) ?_
    refine G_iinc (L' := [(5, .inl (l5 + 1)), (3, .inl (l3 + (M3 67 r2))), (1, .inl l1), (2, .inr (.inr 67)), (4, .inl l4)]) 4 rfl (mfx.lt mf241 (Nat.le_of_ble_eq_true rfl)) rfl (ck dc241 (i := 21) rfl) ?_
    refine G_goto (tgt := 14) (by decide) (ck dc241 (i := 22) rfl) ?_
    exact G_sub [2, 3, 1, 4, 0] rfl h
theorem c_m_coinFails (K : Nat) (M : PM) (Q : Option PV → PM → Prop)
    (h : Call K jModel_stepsOn [.inr (.inr 52)] P0 P0 M (retI fun r1 M2 => G none (K + 1) jModel_coinFails 9 [(0, .inr (.inr 52)), (1, .inl 0), (2, .inl 0)] [] P0 P0 M2 Q)) : Call (K + 1) jModel_coinFails [.inr (.inr 52)] P0 P0 M Q := by
  refine Call.intro (by decide +kernel) (mfx.le mf245 (Nat.le_of_ble_eq_true rfl)) (Nat.le_refl _) rfl ?_
  refine G_aload_n 0 rfl rfl (ck dc245 (i := 0) rfl) ?_
  refine H_vI mf245 (As := []) (st := []) (ck dc245 (i := 1) rfl) lk_Model_292 rfl rfl (Nat.le_of_ble_eq_true rfl) ly52 ra52 ⟨Nat.le_refl _, Nat.le_refl _⟩ h (fun r1 M2 h => ?_)
  refine G_pop rfl (ck dc245 (i := 2) rfl) ?_
  refine G_iconst (ck dc245 (i := 3) rfl) ?_
  refine G_istore_n (L' := [(1, .inl 0), (0, .inr (.inr 52))]) rfl (mfx.lt mf245 (Nat.le_of_ble_eq_true rfl)) rfl (ck dc245 (i := 4) rfl) ?_
  refine G_iconst (ck dc245 (i := 5) rfl) ?_
  refine G_istore_n (L' := [(2, .inl 0), (1, .inl 0), (0, .inr (.inr 52))]) rfl (mfx.lt mf245 (Nat.le_of_ble_eq_true rfl)) rfl (ck dc245 (i := 6) rfl) ?_
  exact G_sub [2, 1, 0] rfl h
set_option maxHeartbeats 20000000 in
theorem g_m_coinFails_9 (K : Nat) (l1 l2 : Int) (M : PM) (Q : Option PV → PM → Prop)
    (h : R32 l2 ∧ R32 (M 55 0) ∧ ((M 55 0) ≤ l2 → Q (some (.inl l1)) M) ∧ (¬ (M 55 0) ≤ l2 → (0 ≤ (3 + l2) ∧ (3 + l2) < 83) ∧ Call K jModel_coinsFor [.inr (.inr 52), .inl l2, .inr (.inr 67)] P0 P0 M (retI fun r4 M5 => Call K jModel_dueInAll [.inr (.inr 52), .inl l2] P0 P0 M5 (retI fun r6 M7 => R32 ((M 55 (3 + l2)) + r4) ∧ R32 r6 ∧ (r6 ≤ ((M 55 (3 + l2)) + r4) → G none (K + 1) jModel_coinFails 9 [(0, .inr (.inr 52)), (1, .inl (bOr l1 0)), (2, .inl (l2 + 1))] [] P0 P0 M7 Q) ∧ (¬ r6 ≤ ((M 55 (3 + l2)) + r4) → G none (K + 1) jModel_coinFails 9 [(0, .inr (.inr 52)), (1, .inl (bOr l1 (bShl 1 l2))), (2, .inl (l2 + 1))] [] P0 P0 M7 Q))))) : G none (K + 1) jModel_coinFails 9 [(0, .inr (.inr 52)), (1, .inl l1), (2, .inl l2)] [] P0 P0 M Q := by
  refine G_iload_n 2 rfl rfl (ck dc245 (i := 7) rfl) ?_
  refine G_aload_n 0 rfl rfl (ck dc245 (i := 8) rfl) ?_
  refine H_getR mf245 (ck dc245 (i := 9) rfl) fw_Model_5 fc11_3 ly52 ra52 rf52_3 (by decide) ?_
  refine G_iconst (ck dc245 (i := 10) rfl) ?_
  refine H_iald (ck dc245 (i := 11) rfl) ly55 (by decide) ra55 (by decide) (x := (M 55 0)) rfl ?_
  obtain ⟨o1, h⟩ := h
  obtain ⟨o2, h⟩ := h
  refine G_icmp_ge (tgt := 61) (by decide) o1 o2 (ck dc245 (i := 12) rfl) (fun c => ?_) (fun c => ?_)
  · replace h := h.1 c
    refine G_iload_n 1 rfl rfl (ck dc245 (i := 39) rfl) ?_
    exact H_iretI mf245 (ck dc245 (i := 40) rfl) rfl h
  · replace h := h.2 c
    refine G_iload_n 1 rfl rfl (ck dc245 (i := 13) rfl) ?_
    refine G_aload_n 0 rfl rfl (ck dc245 (i := 14) rfl) ?_
    refine H_getR mf245 (ck dc245 (i := 15) rfl) fw_Model_5 fc11_3 ly52 ra52 rf52_3 (by decide) ?_
    refine G_iconst (ck dc245 (i := 16) rfl) ?_
    refine G_iload_n 2 rfl rfl (ck dc245 (i := 17) rfl) ?_
    refine G_iadd (ck dc245 (i := 18) rfl) ?_
    obtain ⟨o3, h⟩ := h
    refine H_iald (ck dc245 (i := 19) rfl) ly55 (by decide) ra55 o3 (x := (M 55 (3 + l2))) rfl ?_
    refine G_aload_n 0 rfl rfl (ck dc245 (i := 20) rfl) ?_
    refine G_iload_n 2 rfl rfl (ck dc245 (i := 21) rfl) ?_
    refine G_aload_n 0 rfl rfl (ck dc245 (i := 22) rfl) ?_
    refine H_getR mf245 (ck dc245 (i := 23) rfl) fw_Model_65 fc11_22 ly52 ra52 rf52_22 (by decide) ?_
    refine H_vI mf245 (As := [.inl l2, .inr (.inr 67)]) (st := [.inl (M 55 (3 + l2)), .inl l1]) (ck dc245 (i := 24) rfl) lk_Model_273 rfl rfl (Nat.le_of_ble_eq_true rfl) ly52 ra52 ⟨Nat.le_refl _, Nat.le_refl _⟩ h (fun r4 M5 h => ?_)
    refine G_iadd (ck dc245 (i := 25) rfl) ?_
    refine G_aload_n 0 rfl rfl (ck dc245 (i := 26) rfl) ?_
    refine G_iload_n 2 rfl rfl (ck dc245 (i := 27) rfl) ?_
    refine H_vI mf245 (As := [.inl l2]) (st := [.inl ((M 55 (3 + l2)) + r4), .inl l1]) (ck dc245 (i := 28) rfl) lk_Model_218 rfl rfl (Nat.le_of_ble_eq_true rfl) ly52 ra52 ⟨Nat.le_refl _, Nat.le_refl _⟩ h (fun r6 M7 h => ?_)
    obtain ⟨o8, h⟩ := h
    obtain ⟨o9, h⟩ := h
    refine G_icmp_ge (tgt := 52) (by decide) o8 o9 (ck dc245 (i := 29) rfl) (fun c => ?_) (fun c => ?_)
    · replace h := h.1 c
      refine G_iconst (ck dc245 (i := 34) rfl) ?_
      refine G_ior (ck dc245 (i := 35) rfl) ?_
      refine G_istore_n (L' := [(1, .inl (bOr l1 0)), (0, .inr (.inr 52)), (2, .inl l2)]) rfl (mfx.lt mf245 (Nat.le_of_ble_eq_true rfl)) rfl (ck dc245 (i := 36) rfl) ?_
      refine G_iinc (L' := [(2, .inl (l2 + 1)), (1, .inl (bOr l1 0)), (0, .inr (.inr 52))]) 2 rfl (mfx.lt mf245 (Nat.le_of_ble_eq_true rfl)) rfl (ck dc245 (i := 37) rfl) ?_
      refine G_goto (tgt := 9) (by decide) (ck dc245 (i := 38) rfl) ?_
      exact G_sub [2, 1, 0] rfl h
    · replace h := h.2 c
      refine G_iconst (ck dc245 (i := 30) rfl) ?_
      refine G_iload_n 2 rfl rfl (ck dc245 (i := 31) rfl) ?_
      refine G_ishl (ck dc245 (i := 32) rfl) ?_
      refine G_goto (tgt := 53) (by decide) (ck dc245 (i := 33) rfl) ?_
      refine G_ior (ck dc245 (i := 35) rfl) ?_
      refine G_istore_n (L' := [(1, .inl (bOr l1 (bShl 1 l2))), (0, .inr (.inr 52)), (2, .inl l2)]) rfl (mfx.lt mf245 (Nat.le_of_ble_eq_true rfl)) rfl (ck dc245 (i := 36) rfl) ?_
      refine G_iinc (L' := [(2, .inl (l2 + 1)), (1, .inl (bOr l1 (bShl 1 l2))), (0, .inr (.inr 52))]) 2 rfl (mfx.lt mf245 (Nat.le_of_ble_eq_true rfl)) rfl (ck dc245 (i := 37) rfl) ?_
      refine G_goto (tgt := 9) (by decide) (ck dc245 (i := 38) rfl) ?_
      exact G_sub [2, 1, 0] rfl h
theorem c_m_gone (K : Nat) (M : PM) (Q : Option PV → PM → Prop)
    (h : Call K jModel_stepsOn [.inr (.inr 52)] P0 P0 M (retI fun r1 M2 => G none (K + 1) jModel_gone 9 [(0, .inr (.inr 52)), (1, .inl 0), (2, .inl 0)] [] P0 P0 M2 Q)) : Call (K + 1) jModel_gone [.inr (.inr 52)] P0 P0 M Q := by
  refine Call.intro (by decide +kernel) (mfx.le mf246 (Nat.le_of_ble_eq_true rfl)) (Nat.le_refl _) rfl ?_
  refine G_aload_n 0 rfl rfl (ck dc246 (i := 0) rfl) ?_
  refine H_vI mf246 (As := []) (st := []) (ck dc246 (i := 1) rfl) lk_Model_292 rfl rfl (Nat.le_of_ble_eq_true rfl) ly52 ra52 ⟨Nat.le_refl _, Nat.le_refl _⟩ h (fun r1 M2 h => ?_)
  refine G_pop rfl (ck dc246 (i := 2) rfl) ?_
  refine G_iconst (ck dc246 (i := 3) rfl) ?_
  refine G_istore_n (L' := [(1, .inl 0), (0, .inr (.inr 52))]) rfl (mfx.lt mf246 (Nat.le_of_ble_eq_true rfl)) rfl (ck dc246 (i := 4) rfl) ?_
  refine G_iconst (ck dc246 (i := 5) rfl) ?_
  refine G_istore_n (L' := [(2, .inl 0), (1, .inl 0), (0, .inr (.inr 52))]) rfl (mfx.lt mf246 (Nat.le_of_ble_eq_true rfl)) rfl (ck dc246 (i := 6) rfl) ?_
  exact G_sub [2, 1, 0] rfl h
set_option maxHeartbeats 20000000 in
theorem g_m_gone_9 (K : Nat) (l1 l2 : Int) (M : PM) (Q : Option PV → PM → Prop)
    (h : R32 l2 ∧ R32 (M 55 0) ∧ ((M 55 0) ≤ l2 → Q (some (.inl l1)) M) ∧ (¬ (M 55 0) ≤ l2 → Call K jModel_coinsFor [.inr (.inr 52), .inl l2, .inr (.inr 67)] P0 P0 M (retI fun r3 M4 => (0 ≤ (3 + l2) ∧ (3 + l2) < 83) ∧ Call K jModel_dueInAll [.inr (.inr 52), .inl l2] P0 P0 M4 (retI fun r6 M7 => R32 ((M4 55 (3 + l2)) + r3) ∧ R32 r6 ∧ (r6 ≤ ((M4 55 (3 + l2)) + r3) → G none (K + 1) jModel_gone 70 [(0, .inr (.inr 52)), (1, .inl l1), (2, .inl l2), (4, .inl ((M4 55 (3 + l2)) + r3)), (5, .inl 0), (6, .inl 0)] [] P0 P0 M7 Q) ∧ (¬ r6 ≤ ((M4 55 (3 + l2)) + r3) → Call K jModel_restOf [.inr (.inr 52), .inl l2, .inl r3] P0 P0 M7 (retI fun r10 M11 => G none (K + 1) jModel_gone 70 [(0, .inr (.inr 52)), (1, .inl l1), (2, .inl l2), (4, .inl r10), (5, .inl 0), (6, .inl 0)] [] P0 P0 M11 Q)))))) : G none (K + 1) jModel_gone 9 [(0, .inr (.inr 52)), (1, .inl l1), (2, .inl l2)] [] P0 P0 M Q := by
  refine G_iload_n 2 rfl rfl (ck dc246 (i := 7) rfl) ?_
  refine G_aload_n 0 rfl rfl (ck dc246 (i := 8) rfl) ?_
  refine H_getR mf246 (ck dc246 (i := 9) rfl) fw_Model_5 fc11_3 ly52 ra52 rf52_3 (by decide) ?_
  refine G_iconst (ck dc246 (i := 10) rfl) ?_
  refine H_iald (ck dc246 (i := 11) rfl) ly55 (by decide) ra55 (by decide) (x := (M 55 0)) rfl ?_
  obtain ⟨o1, h⟩ := h
  obtain ⟨o2, h⟩ := h
  refine G_icmp_ge (tgt := 123) (by decide) o1 o2 (ck dc246 (i := 12) rfl) (fun c => ?_) (fun c => ?_)
  · replace h := h.1 c
    refine G_iload_n 1 rfl rfl (ck dc246 (i := 75) rfl) ?_
    exact H_iretI mf246 (ck dc246 (i := 76) rfl) rfl h
  · replace h := h.2 c
    refine G_aload_n 0 rfl rfl (ck dc246 (i := 13) rfl) ?_
    refine G_iload_n 2 rfl rfl (ck dc246 (i := 14) rfl) ?_
    refine G_aload_n 0 rfl rfl (ck dc246 (i := 15) rfl) ?_
    refine H_getR mf246 (ck dc246 (i := 16) rfl) fw_Model_65 fc11_22 ly52 ra52 rf52_22 (by decide) ?_
    refine H_vI mf246 (As := [.inl l2, .inr (.inr 67)]) (st := []) (ck dc246 (i := 17) rfl) lk_Model_273 rfl rfl (Nat.le_of_ble_eq_true rfl) ly52 ra52 ⟨Nat.le_refl _, Nat.le_refl _⟩ h (fun r3 M4 h => ?_)
    refine G_istore_n (L' := [(3, .inl r3), (0, .inr (.inr 52)), (1, .inl l1), (2, .inl l2)]) rfl (mfx.lt mf246 (Nat.le_of_ble_eq_true rfl)) rfl (ck dc246 (i := 18) rfl) ?_
    refine G_aload_n 1 rfl rfl (ck dc246 (i := 19) rfl) ?_
    refine H_getR mf246 (ck dc246 (i := 20) rfl) fw_Model_5 fc11_3 ly52 ra52 rf52_3 (by decide) ?_
    refine G_iconst (ck dc246 (i := 21) rfl) ?_
    refine G_iload_n 3 rfl rfl (ck dc246 (i := 22) rfl) ?_
    refine G_iadd (ck dc246 (i := 23) rfl) ?_
    obtain ⟨o5, h⟩ := h
    refine H_iald (ck dc246 (i := 24) rfl) ly55 (by decide) ra55 o5 (x := (M4 55 (3 + l2))) rfl ?_
    refine G_iload_n 0 rfl rfl (ck dc246 (i := 25) rfl) ?_
    refine G_iadd (ck dc246 (i := 26) rfl) ?_
    refine G_istore (L' := [(4, .inl ((M4 55 (3 + l2)) + r3)), (3, .inl r3), (0, .inr (.inr 52)), (1, .inl l1), (2, .inl l2)]) (mfx.lt mf246 (Nat.le_of_ble_eq_true rfl)) rfl (ck dc246 (i := 27) rfl) ?_
    refine G_iload 0 rfl (ck dc246 (i := 28) rfl) ?_
    refine G_aload_n 2 rfl rfl (ck dc246 (i := 29) rfl) ?_
    refine G_iload_n 4 rfl rfl (ck dc246 (i := 30) rfl) ?_
    refine H_vI mf246 (As := [.inl l2]) (st := [.inl ((M4 55 (3 + l2)) + r3)]) (ck dc246 (i := 31) rfl) lk_Model_218 rfl rfl (Nat.le_of_ble_eq_true rfl) ly52 ra52 ⟨Nat.le_refl _, Nat.le_refl _⟩ h (fun r6 M7 h => ?_)
    obtain ⟨o8, h⟩ := h
    obtain ⟨o9, h⟩ := h
    refine G_icmp_ge (tgt := 60) (by decide) o8 o9 (ck dc246 (i := 32) rfl) (fun c => ?_) (fun c => ?_)
    · replace h := h.1 c
      refine G_iload 0 rfl (ck dc246 (i := 38) rfl) ?_
      refine G_istore (L' := [(4, .inl ((M4 55 (3 + l2)) + r3)), (3, .inl r3), (0, .inr (.inr 52)), (1, .inl l1), (2, .inl l2)]) (mfx.lt mf246 (Nat.le_of_ble_eq_true rfl)) rfl (ck dc246 (i := 39) rfl) ?_
      refine G_iconst (ck dc246 (i := 40) rfl) ?_
      refine G_istore (L' := [(5, .inl 0), (4, .inl ((M4 55 (3 + l2)) + r3)), (3, .inl r3), (0, .inr (.inr 52)), (1, .inl l1), (2, .inl l2)]) (mfx.lt mf246 (Nat.le_of_ble_eq_true rfl)) rfl (ck dc246 (i := 41) rfl) ?_
      refine G_iconst (ck dc246 (i := 42) rfl) ?_
      refine G_istore (L' := [(6, .inl 0), (5, .inl 0), (4, .inl ((M4 55 (3 + l2)) + r3)), (3, .inl r3), (0, .inr (.inr 52)), (1, .inl l1), (2, .inl l2)]) (mfx.lt mf246 (Nat.le_of_ble_eq_true rfl)) rfl (ck dc246 (i := 43) rfl) ?_
      exact G_sub [4, 5, 6, 2, 1, 0] rfl h
    · replace h := h.2 c
      refine G_aload_n 2 rfl rfl (ck dc246 (i := 33) rfl) ?_
      refine G_iload_n 4 rfl rfl (ck dc246 (i := 34) rfl) ?_
      refine G_iload_n 1 rfl rfl (ck dc246 (i := 35) rfl) ?_
      refine H_vI mf246 (As := [.inl l2, .inl r3]) (st := []) (ck dc246 (i := 36) rfl) lk_Model_277 rfl rfl (Nat.le_of_ble_eq_true rfl) ly52 ra52 ⟨Nat.le_refl _, Nat.le_refl _⟩ h (fun r10 M11 h => ?_)
      refine G_goto (tgt := 62) (by decide) (ck dc246 (i := 37) rfl) ?_
      refine G_istore (L' := [(4, .inl r10), (3, .inl r3), (0, .inr (.inr 52)), (1, .inl l1), (2, .inl l2)]) (mfx.lt mf246 (Nat.le_of_ble_eq_true rfl)) rfl (ck dc246 (i := 39) rfl) ?_
      refine G_iconst (ck dc246 (i := 40) rfl) ?_
      refine G_istore (L' := [(5, .inl 0), (4, .inl r10), (3, .inl r3), (0, .inr (.inr 52)), (1, .inl l1), (2, .inl l2)]) (mfx.lt mf246 (Nat.le_of_ble_eq_true rfl)) rfl (ck dc246 (i := 41) rfl) ?_
      refine G_iconst (ck dc246 (i := 42) rfl) ?_
      refine G_istore (L' := [(6, .inl 0), (5, .inl 0), (4, .inl r10), (3, .inl r3), (0, .inr (.inr 52)), (1, .inl l1), (2, .inl l2)]) (mfx.lt mf246 (Nat.le_of_ble_eq_true rfl)) rfl (ck dc246 (i := 43) rfl) ?_
      exact G_sub [4, 5, 6, 2, 1, 0] rfl h
theorem g_m_gone_70 (K : Nat) (l1 l2 l4 l5 l6 : Int) (M : PM) (Q : Option PV → PM → Prop)
    (h : R32 l6 ∧ (15 ≤ l6 → (0 ≤ (3 + l2) ∧ (3 + l2) < 83) ∧ G none (K + 1) jModel_gone 9 [(0, .inr (.inr 52)), (1, .inl (l1 + (((M 55 (3 + l2)) - l4) + l5))), (2, .inl (l2 + 1))] [] P0 P0 M Q) ∧ (¬ 15 ≤ l6 → (0 ≤ ((15 * l2) + l6) ∧ ((15 * l2) + l6) < 75) ∧ G none (K + 1) jModel_gone 70 [(0, .inr (.inr 52)), (1, .inl l1), (2, .inl l2), (4, .inl l4), (5, .inl (l5 + (M 67 ((15 * l2) + l6)))), (6, .inl (l6 + 1))] [] P0 P0 M Q)) : G none (K + 1) jModel_gone 70 [(0, .inr (.inr 52)), (1, .inl l1), (2, .inl l2), (4, .inl l4), (5, .inl l5), (6, .inl l6)] [] P0 P0 M Q := by
  refine G_iload 5 rfl (ck dc246 (i := 44) rfl) ?_
  refine G_bipush (n := 15) rfl (ck dc246 (i := 45) rfl) ?_
  obtain ⟨o1, h⟩ := h
  refine G_icmp_ge (tgt := 100) (by decide) o1 (by decide) (ck dc246 (i := 46) rfl) (fun c => ?_) (fun c => ?_)
  · replace h := h.1 c
    refine G_iload_n 1 rfl rfl (ck dc246 (i := 60) rfl) ?_
    refine G_aload_n 0 rfl rfl (ck dc246 (i := 61) rfl) ?_
    refine H_getR mf246 (ck dc246 (i := 62) rfl) fw_Model_5 fc11_3 ly52 ra52 rf52_3 (by decide) ?_
    refine G_iconst (ck dc246 (i := 63) rfl) ?_
    refine G_iload_n 2 rfl rfl (ck dc246 (i := 64) rfl) ?_
    refine G_iadd (ck dc246 (i := 65) rfl) ?_
    obtain ⟨o2, h⟩ := h
    refine H_iald (ck dc246 (i := 66) rfl) ly55 (by decide) ra55 o2 (x := (M 55 (3 + l2))) rfl ?_
    refine G_iload 3 rfl (ck dc246 (i := 67) rfl) ?_
    refine G_isub (ck dc246 (i := 68) rfl) ?_
    refine G_iload 4 rfl (ck dc246 (i := 69) rfl) ?_
    refine G_iadd (ck dc246 (i := 70) rfl) ?_
    refine G_iadd (ck dc246 (i := 71) rfl) ?_
    refine G_istore_n (L' := [(1, .inl (l1 + (((M 55 (3 + l2)) - l4) + l5))), (0, .inr (.inr 52)), (2, .inl l2), (4, .inl l4), (5, .inl l5), (6, .inl l6)]) rfl (mfx.lt mf246 (Nat.le_of_ble_eq_true rfl)) rfl (ck dc246 (i := 72) rfl) ?_
    refine G_iinc (L' := [(2, .inl (l2 + 1)), (1, .inl (l1 + (((M 55 (3 + l2)) - l4) + l5))), (0, .inr (.inr 52)), (4, .inl l4), (5, .inl l5), (6, .inl l6)]) 2 rfl (mfx.lt mf246 (Nat.le_of_ble_eq_true rfl)) rfl (ck dc246 (i := 73) rfl) ?_
    refine G_goto (tgt := 9) (by decide) (ck dc246 (i := 74) rfl) ?_
    exact G_sub [2, 1, 0] rfl h
  · replace h := h.2 c
    refine G_iload 4 rfl (ck dc246 (i := 47) rfl) ?_
    refine G_aload_n 0 rfl rfl (ck dc246 (i := 48) rfl) ?_
    refine H_getR mf246 (ck dc246 (i := 49) rfl) fw_Model_65 fc11_22 ly52 ra52 rf52_22 (by decide) ?_
    refine G_bipush (n := 15) rfl (ck dc246 (i := 50) rfl) ?_
    refine G_iload_n 2 rfl rfl (ck dc246 (i := 51) rfl) ?_
    refine G_imul (ck dc246 (i := 52) rfl) ?_
    refine G_iload 5 rfl (ck dc246 (i := 53) rfl) ?_
    refine G_iadd (ck dc246 (i := 54) rfl) ?_
    obtain ⟨o3, h⟩ := h
    refine H_iald (ck dc246 (i := 55) rfl) ly67 (by decide) ra67 o3 (x := (M 67 ((15 * l2) + l6))) rfl ?_
    refine G_iadd (ck dc246 (i := 56) rfl) ?_
    refine G_istore (L' := [(5, .inl (l5 + (M 67 ((15 * l2) + l6)))), (0, .inr (.inr 52)), (1, .inl l1), (2, .inl l2), (4, .inl l4), (6, .inl l6)]) (mfx.lt mf246 (Nat.le_of_ble_eq_true rfl)) rfl (ck dc246 (i := 57) rfl) ?_
    refine G_iinc (L' := [(6, .inl (l6 + 1)), (5, .inl (l5 + (M 67 ((15 * l2) + l6)))), (0, .inr (.inr 52)), (1, .inl l1), (2, .inl l2), (4, .inl l4)]) 5 rfl (mfx.lt mf246 (Nat.le_of_ble_eq_true rfl)) rfl (ck dc246 (i := 58) rfl) ?_
    refine G_goto (tgt := 70) (by decide) (ck dc246 (i := 59) rfl) ?_
    exact G_sub [2, 3, 4, 5, 1, 0] rfl h
theorem c_model_isGift (K : Nat) (a1 : Int) (M : PM) (Q : Option PV → PM → Prop)
    (h : R32 a1 ∧ Call K jModel_within [.inr (.inl a1), .inr (.inl 0), .inr (.inl 200)] P0 P0 M (retI fun r2 M3 => (r2 = 0 ∨ r2 = 1) ∧ Q (some (.inl r2)) M3)) : Call (K + 1) jModel_isGift [.inl a1] P0 P0 M Q := by
  refine Call.intro (by decide +kernel) (mfx.le mf248 (Nat.le_of_ble_eq_true rfl)) (Nat.le_refl _) rfl ?_
  refine G_iload_n 0 rfl rfl (ck dc248 (i := 0) rfl) ?_
  obtain ⟨o1, h⟩ := h
  refine G_i2l o1 (ck dc248 (i := 1) rfl) ?_
  refine G_lconst (v := 0) rfl (ck dc248 (i := 2) rfl) ?_
  refine H_ldc2 mf248 (v := 200) (ck dc248 (i := 3) rfl) kl_Model_112 ?_
  refine H_sZ mf248 (As := [.inr (.inl a1), .inr (.inl 0), .inr (.inl 200)]) (st := []) (ck dc248 (i := 4) rfl) lk_Model_9 rfl rfl (Nat.le_of_ble_eq_true rfl) ⟨Nat.le_refl _, Nat.le_refl _⟩ h (fun r2 M3 h => ?_)
  obtain ⟨o4, h⟩ := h
  exact H_iretZ mf248 (ck dc248 (i := 5) rfl) rfl o4 h
theorem c_m_failsIf (K : Nat) (a1 a2 : Int) (M : PM) (Q : Option PV → PM → Prop)
    (h : Call K jModel_supposesCash [.inr (.inr 52)] P0 P0 M (retV fun M2 => (0 ≤ a2 ∧ a2 < 5) ∧ R32 ((M2 61 a2) + a1) ∧ Call K jModel_goesRound [.inr (.inr 52)] P0 P0 (mset M2 61 a2 (mx2 0 ((M2 61 a2) + a1))) (retV fun M6 => Q (some (.inl (M6 52 13))) M6))) : Call (K + 1) jModel_failsIf [.inr (.inr 52), .inl a1, .inl a2] P0 P0 M Q := by
  refine Call.intro (by decide +kernel) (mfx.le mf249 (Nat.le_of_ble_eq_true rfl)) (Nat.le_refl _) rfl ?_
  refine G_aload_n 0 rfl rfl (ck dc249 (i := 0) rfl) ?_
  refine H_vV mf249 (As := []) (st := []) (ck dc249 (i := 1) rfl) lk_Model_221 rfl rfl (Nat.le_of_ble_eq_true rfl) ly52 ra52 ⟨Nat.le_refl _, Nat.le_refl _⟩ h (fun M2 h => ?_)
  refine G_aload_n 0 rfl rfl (ck dc249 (i := 2) rfl) ?_
  refine H_getR mf249 (ck dc249 (i := 3) rfl) fw_Model_47 fc11_14 ly52 ra52 rf52_14 (by decide) ?_
  refine G_iload_n 2 rfl rfl (ck dc249 (i := 4) rfl) ?_
  refine G_iconst (ck dc249 (i := 5) rfl) ?_
  refine G_aload_n 0 rfl rfl (ck dc249 (i := 6) rfl) ?_
  refine H_getR mf249 (ck dc249 (i := 7) rfl) fw_Model_47 fc11_14 ly52 ra52 rf52_14 (by decide) ?_
  refine G_iload_n 2 rfl rfl (ck dc249 (i := 8) rfl) ?_
  obtain ⟨o3, h⟩ := h
  refine H_iald (ck dc249 (i := 9) rfl) ly61 (by decide) ra61 o3 (x := (M2 61 a2)) rfl ?_
  refine G_iload_n 1 rfl rfl (ck dc249 (i := 10) rfl) ?_
  refine G_iadd (ck dc249 (i := 11) rfl) ?_
  obtain ⟨o4, h⟩ := h
  refine H_mmax mf249 (ck dc249 (i := 12) rfl) lm_Model_227 (Nat.le_refl _) (Nat.le_of_ble_eq_true rfl) (by decide) o4 ?_
  refine G_iast (ck dc249 (i := 13) rfl) ra61 ly61 (by decide) o3 ?_
  refine G_aload_n 0 rfl rfl (ck dc249 (i := 14) rfl) ?_
  refine H_vV mf249 (As := []) (st := []) (ck dc249 (i := 15) rfl) lk_Model_224 rfl rfl (Nat.le_of_ble_eq_true rfl) ly52 ra52 ⟨Nat.le_refl _, Nat.le_refl _⟩ h (fun M6 h => ?_)
  refine G_aload_n 0 rfl rfl (ck dc249 (i := 16) rfl) ?_
  refine H_getI mf249 (ck dc249 (i := 17) rfl) fw_Model_176 (Or.inl fc11_13) ly52 ra52 (x := (M6 52 13)) rfl ?_
  exact H_iretI mf249 (ck dc249 (i := 18) rfl) rfl h
theorem c_m_saved (K : Nat) (a1 a2 : Int) (M : PM) (Q : Option PV → PM → Prop)
    (h : Call K jModel_isHouse [.inr (.inr 52), .inl a2] P0 P0 M (retI fun r1 M2 => R32 r1 ∧ (¬ r1 = 0 → Call K jModel_isGift [.inl a1] P0 P0 M2 (retI fun r4 M5 => R32 r4 ∧ (r4 = 0 → Q (some (.inl (-2))) M5) ∧ (¬ r4 = 0 → Call K jModel_failsIf [.inr (.inr 52), .inl a1, .inl a2] P0 P0 M5 (retI fun r7 M8 => Q (some (.inl r7)) M8)))) ∧ (r1 = 0 → Q (some (.inl (-1))) M2))) : Call (K + 1) jModel_saved [.inr (.inr 52), .inl a1, .inl a2] P0 P0 M Q := by
  refine Call.intro (by decide +kernel) (mfx.le mf247 (Nat.le_of_ble_eq_true rfl)) (Nat.le_refl _) rfl ?_
  refine G_aload_n 0 rfl rfl (ck dc247 (i := 0) rfl) ?_
  refine G_iload_n 2 rfl rfl (ck dc247 (i := 1) rfl) ?_
  refine H_vZ mf247 (As := [.inl a2]) (st := []) (ck dc247 (i := 2) rfl) lk_Model_13 rfl rfl (Nat.le_of_ble_eq_true rfl) ly52 ra52 ⟨Nat.le_refl _, Nat.le_refl _⟩ h (fun r1 M2 h => ?_)
  obtain ⟨o3, h⟩ := h
  refine G_if_ne (tgt := 10) (by decide) o3 (ck dc247 (i := 3) rfl) (fun c => ?_) (fun c => ?_)
  · replace h := h.1 c
    refine G_iload_n 1 rfl rfl (ck dc247 (i := 6) rfl) ?_
    refine H_sZ mf247 (As := [.inl a1]) (st := []) (ck dc247 (i := 7) rfl) lk_Model_295 rfl rfl (Nat.le_of_ble_eq_true rfl) ⟨Nat.le_refl _, Nat.le_refl _⟩ h (fun r4 M5 h => ?_)
    obtain ⟨o6, h⟩ := h
    refine G_if_eq (tgt := 26) (by decide) o6 (ck dc247 (i := 8) rfl) (fun c => ?_) (fun c => ?_)
    · replace h := h.1 c
      refine G_bipush (n := (-2)) rfl (ck dc247 (i := 14) rfl) ?_
      exact H_iretI mf247 (ck dc247 (i := 15) rfl) rfl h
    · replace h := h.2 c
      refine G_aload_n 0 rfl rfl (ck dc247 (i := 9) rfl) ?_
      refine G_iload_n 1 rfl rfl (ck dc247 (i := 10) rfl) ?_
      refine G_iload_n 2 rfl rfl (ck dc247 (i := 11) rfl) ?_
      refine H_vI mf247 (As := [.inl a1, .inl a2]) (st := []) (ck dc247 (i := 12) rfl) lk_Model_298 rfl rfl (Nat.le_of_ble_eq_true rfl) ly52 ra52 ⟨Nat.le_refl _, Nat.le_refl _⟩ h (fun r7 M8 h => ?_)
      refine G_goto (tgt := 28) (by decide) (ck dc247 (i := 13) rfl) ?_
      exact H_iretI mf247 (ck dc247 (i := 15) rfl) rfl h
  · replace h := h.2 c
    refine G_iconst (ck dc247 (i := 4) rfl) ?_
    exact H_iretI mf247 (ck dc247 (i := 5) rfl) rfl h
theorem c_m_struck (K : Nat) (a1 a2 : Int) (M : PM) (Q : Option PV → PM → Prop)
    (h : Call K jModel_isHouse [.inr (.inr 52), .inl a2] P0 P0 M (retI fun r1 M2 => R32 r1 ∧ (¬ r1 = 0 → Call K jModel_isGift [.inl a1] P0 P0 M2 (retI fun r4 M5 => R32 r4 ∧ (r4 = 0 → Q (some (.inl (-2))) M5) ∧ (¬ r4 = 0 → Call K jModel_failsIf [.inr (.inr 52), .inl (-a1), .inl a2] P0 P0 M5 (retI fun r7 M8 => Q (some (.inl r7)) M8)))) ∧ (r1 = 0 → Q (some (.inl (-1))) M2))) : Call (K + 1) jModel_struck [.inr (.inr 52), .inl a1, .inl a2] P0 P0 M Q := by
  refine Call.intro (by decide +kernel) (mfx.le mf250 (Nat.le_of_ble_eq_true rfl)) (Nat.le_refl _) rfl ?_
  refine G_aload_n 0 rfl rfl (ck dc250 (i := 0) rfl) ?_
  refine G_iload_n 2 rfl rfl (ck dc250 (i := 1) rfl) ?_
  refine H_vZ mf250 (As := [.inl a2]) (st := []) (ck dc250 (i := 2) rfl) lk_Model_13 rfl rfl (Nat.le_of_ble_eq_true rfl) ly52 ra52 ⟨Nat.le_refl _, Nat.le_refl _⟩ h (fun r1 M2 h => ?_)
  obtain ⟨o3, h⟩ := h
  refine G_if_ne (tgt := 10) (by decide) o3 (ck dc250 (i := 3) rfl) (fun c => ?_) (fun c => ?_)
  · replace h := h.1 c
    refine G_iload_n 1 rfl rfl (ck dc250 (i := 6) rfl) ?_
    refine H_sZ mf250 (As := [.inl a1]) (st := []) (ck dc250 (i := 7) rfl) lk_Model_295 rfl rfl (Nat.le_of_ble_eq_true rfl) ⟨Nat.le_refl _, Nat.le_refl _⟩ h (fun r4 M5 h => ?_)
    obtain ⟨o6, h⟩ := h
    refine G_if_eq (tgt := 27) (by decide) o6 (ck dc250 (i := 8) rfl) (fun c => ?_) (fun c => ?_)
    · replace h := h.1 c
      refine G_bipush (n := (-2)) rfl (ck dc250 (i := 15) rfl) ?_
      exact H_iretI mf250 (ck dc250 (i := 16) rfl) rfl h
    · replace h := h.2 c
      refine G_aload_n 0 rfl rfl (ck dc250 (i := 9) rfl) ?_
      refine G_iload_n 1 rfl rfl (ck dc250 (i := 10) rfl) ?_
      refine G_ineg (ck dc250 (i := 11) rfl) ?_
      refine G_iload_n 2 rfl rfl (ck dc250 (i := 12) rfl) ?_
      refine H_vI mf250 (As := [.inl (-a1), .inl a2]) (st := []) (ck dc250 (i := 13) rfl) lk_Model_298 rfl rfl (Nat.le_of_ble_eq_true rfl) ly52 ra52 ⟨Nat.le_refl _, Nat.le_refl _⟩ h (fun r7 M8 h => ?_)
      refine G_goto (tgt := 29) (by decide) (ck dc250 (i := 14) rfl) ?_
      exact H_iretI mf250 (ck dc250 (i := 16) rfl) rfl h
  · replace h := h.2 c
    refine G_iconst (ck dc250 (i := 4) rfl) ?_
    exact H_iretI mf250 (ck dc250 (i := 5) rfl) rfl h
