set_option maxHeartbeats 20000000 in
theorem g_m_paysSo_171 (K : Nat) (l1 l2 l3 l8 l10 : Int) (M : PM) (Q : Option PV → PM → Prop)
    (h : R32 l10 ∧ (3 ≤ l10 → Q (some (.inl 1)) M) ∧ (¬ 3 ≤ l10 → Call K jModel_due [.inr (.inr 52), .inl l2, .inl l10] P0 P0 M (retI fun r2 M3 => R32 r2 ∧ R64 l8 ∧ R64 ((10 * r2) * l3) ∧ (0 ≤ ((l1 + (3 * l2)) + l10) ∧ ((l1 + (3 * l2)) + l10) < 80) ∧ (¬ ((10 * r2) * l3) = 0 → Call K jModel_due [.inr (.inr 52), .inl l2, .inl l10] P0 P0 M3 (retI fun r8 M9 => R32 r8 ∧ R64 ((10 * r8) * (M3 72 ((l1 + (3 * l2)) + l10))) ∧ R64 (mn2 l8 ((10 * r2) * l3)) ∧ (((10 * r8) * (M3 72 ((l1 + (3 * l2)) + l10))) = (mn2 l8 ((10 * r2) * l3)) → G none (K + 1) jModel_paysSo 171 [(0, .inr (.inr 52)), (1, .inl l1), (2, .inl l2), (3, .inr (.inl l3)), (8, .inr (.inl (l8 - (mn2 l8 ((10 * r2) * l3))))), (10, .inl (l10 + 1))] [] P0 P0 M9 Q) ∧ (¬ ((10 * r8) * (M3 72 ((l1 + (3 * l2)) + l10))) = (mn2 l8 ((10 * r2) * l3)) → Q (some (.inl 0)) M9))) ∧ (((10 * r2) * l3) = 0 → R64 (M3 72 ((l1 + (3 * l2)) + l10)) ∧ R64 l3 ∧ ((M3 72 ((l1 + (3 * l2)) + l10)) = l3 → G none (K + 1) jModel_paysSo 171 [(0, .inr (.inr 52)), (1, .inl l1), (2, .inl l2), (3, .inr (.inl l3)), (8, .inr (.inl (l8 - (mn2 l8 ((10 * r2) * l3))))), (10, .inl (l10 + 1))] [] P0 P0 M3 Q) ∧ (¬ (M3 72 ((l1 + (3 * l2)) + l10)) = l3 → Q (some (.inl 0)) M3))))) : G none (K + 1) jModel_paysSo 171 [(0, .inr (.inr 52)), (1, .inl l1), (2, .inl l2), (3, .inr (.inl l3)), (8, .inr (.inl l8)), (10, .inl l10)] [] P0 P0 M Q := by
  refine G_iload 5 rfl (ck dc293 (i := 110) rfl) ?_
  refine G_iconst (ck dc293 (i := 111) rfl) ?_
  obtain ⟨o1, h⟩ := h
  refine G_icmp_ge (tgt := 270) (by decide) o1 (by decide) (ck dc293 (i := 112) rfl) (fun c => ?_) (fun c => ?_)
  · replace h := h.1 c
    refine G_iconst (ck dc293 (i := 167) rfl) ?_
    exact H_iretZ mf293 (ck dc293 (i := 168) rfl) rfl (Or.inr rfl) h
  · replace h := h.2 c
    refine H_ldc2 mf293 (v := 10) (ck dc293 (i := 113) rfl) kl_Model_90 ?_
    refine G_aload_n 0 rfl rfl (ck dc293 (i := 114) rfl) ?_
    refine G_iload_n 2 rfl rfl (ck dc293 (i := 115) rfl) ?_
    refine G_iload 5 rfl (ck dc293 (i := 116) rfl) ?_
    refine H_vI mf293 (As := [.inl l2, .inl l10]) (st := [.inr (.inl 10)]) (ck dc293 (i := 117) rfl) lk_Model_106 rfl rfl (Nat.le_of_ble_eq_true rfl) ly52 ra52 ⟨Nat.le_refl _, Nat.le_refl _⟩ h (fun r2 M3 h => ?_)
    obtain ⟨o4, h⟩ := h
    refine G_i2l o4 (ck dc293 (i := 118) rfl) ?_
    refine G_lmul (ck dc293 (i := 119) rfl) ?_
    refine G_lload_n 3 rfl rfl (ck dc293 (i := 120) rfl) ?_
    refine G_lmul (ck dc293 (i := 121) rfl) ?_
    refine G_lstore (L' := [(11, .inr (.inl ((10 * r2) * l3))), (0, .inr (.inr 52)), (1, .inl l1), (2, .inl l2), (3, .inr (.inl l3)), (8, .inr (.inl l8)), (10, .inl l10)]) (mfx.lt mf293 (Nat.le_of_ble_eq_true rfl)) rfl (ck dc293 (i := 122) rfl) ?_
    refine G_lload 5 rfl (ck dc293 (i := 123) rfl) ?_
    refine G_lload 0 rfl (ck dc293 (i := 124) rfl) ?_
    obtain ⟨o5, h⟩ := h
    obtain ⟨o6, h⟩ := h
    refine H_mminl mf293 (ck dc293 (i := 125) rfl) lm_Model_408 (Nat.le_refl _) (Nat.le_of_ble_eq_true rfl) o5 o6 ?_
    refine G_lstore (L' := [(13, .inr (.inl (mn2 l8 ((10 * r2) * l3)))), (11, .inr (.inl ((10 * r2) * l3))), (0, .inr (.inr 52)), (1, .inl l1), (2, .inl l2), (3, .inr (.inl l3)), (8, .inr (.inl l8)), (10, .inl l10)]) (mfx.lt mf293 (Nat.le_of_ble_eq_true rfl)) rfl (ck dc293 (i := 126) rfl) ?_
    refine G_aload_n 2 rfl rfl (ck dc293 (i := 127) rfl) ?_
    refine H_getR mf293 (ck dc293 (i := 128) rfl) fw_Model_80 fc11_33 ly52 ra52 rf52_33 (by decide) ?_
    refine G_iload_n 3 rfl rfl (ck dc293 (i := 129) rfl) ?_
    refine G_iconst (ck dc293 (i := 130) rfl) ?_
    refine G_iload_n 4 rfl rfl (ck dc293 (i := 131) rfl) ?_
    refine G_imul (ck dc293 (i := 132) rfl) ?_
    refine G_iadd (ck dc293 (i := 133) rfl) ?_
    refine G_iload 7 rfl (ck dc293 (i := 134) rfl) ?_
    refine G_iadd (ck dc293 (i := 135) rfl) ?_
    obtain ⟨o7, h⟩ := h
    refine H_lald (ck dc293 (i := 136) rfl) ly72 (by decide) ra72 o7 (x := (M3 72 ((l1 + (3 * l2)) + l10))) rfl ?_
    refine G_lstore (L' := [(15, .inr (.inl (M3 72 ((l1 + (3 * l2)) + l10)))), (13, .inr (.inl (mn2 l8 ((10 * r2) * l3)))), (11, .inr (.inl ((10 * r2) * l3))), (0, .inr (.inr 52)), (1, .inl l1), (2, .inl l2), (3, .inr (.inl l3)), (8, .inr (.inl l8)), (10, .inl l10)]) (mfx.lt mf293 (Nat.le_of_ble_eq_true rfl)) rfl (ck dc293 (i := 137) rfl) ?_
    refine G_lload 2 rfl (ck dc293 (i := 138) rfl) ?_
    refine G_lconst (v := 0) rfl (ck dc293 (i := 139) rfl) ?_
    refine G_lif_ne (tgt := 234) (ck dc293 (i := 141) rfl) (by decide) o6 (by decide) (ck dc293 (i := 140) rfl) (fun c => ?_) (fun c => ?_)
    · replace h := h.1 c
      refine H_ldc2 mf293 (v := 10) (ck dc293 (i := 147) rfl) kl_Model_90 ?_
      refine G_aload_n 3 rfl rfl (ck dc293 (i := 148) rfl) ?_
      refine G_iload_n 5 rfl rfl (ck dc293 (i := 149) rfl) ?_
      refine G_iload 8 rfl (ck dc293 (i := 150) rfl) ?_
      refine H_vI mf293 (As := [.inl l2, .inl l10]) (st := [.inr (.inl 10)]) (ck dc293 (i := 151) rfl) lk_Model_106 rfl rfl (Nat.le_of_ble_eq_true rfl) ly52 ra52 ⟨Nat.le_refl _, Nat.le_refl _⟩ h (fun r8 M9 h => ?_)
      obtain ⟨o10, h⟩ := h
      refine G_i2l o10 (ck dc293 (i := 152) rfl) ?_
      refine G_lmul (ck dc293 (i := 153) rfl) ?_
      refine G_lload 0 rfl (ck dc293 (i := 154) rfl) ?_
      refine G_lmul (ck dc293 (i := 155) rfl) ?_
      refine G_lload 1 rfl (ck dc293 (i := 156) rfl) ?_
      obtain ⟨o11, h⟩ := h
      obtain ⟨o12, h⟩ := h
      refine G_lif_eq (tgt := 257) (ck dc293 (i := 158) rfl) (by decide) o11 o12 (ck dc293 (i := 157) rfl) (fun c => ?_) (fun c => ?_)
      · replace h := h.1 c
        refine G_lload 7 rfl (ck dc293 (i := 161) rfl) ?_
        refine G_lload 1 rfl (ck dc293 (i := 162) rfl) ?_
        refine G_lsub (ck dc293 (i := 163) rfl) ?_
        refine G_lstore (L' := [(8, .inr (.inl (l8 - (mn2 l8 ((10 * r2) * l3))))), (15, .inr (.inl (M3 72 ((l1 + (3 * l2)) + l10)))), (13, .inr (.inl (mn2 l8 ((10 * r2) * l3)))), (11, .inr (.inl ((10 * r2) * l3))), (0, .inr (.inr 52)), (1, .inl l1), (2, .inl l2), (3, .inr (.inl l3)), (10, .inl l10)]) (mfx.lt mf293 (Nat.le_of_ble_eq_true rfl)) rfl (ck dc293 (i := 164) rfl) ?_
        refine G_iinc (L' := [(10, .inl (l10 + 1)), (8, .inr (.inl (l8 - (mn2 l8 ((10 * r2) * l3))))), (15, .inr (.inl (M3 72 ((l1 + (3 * l2)) + l10)))), (13, .inr (.inl (mn2 l8 ((10 * r2) * l3)))), (11, .inr (.inl ((10 * r2) * l3))), (0, .inr (.inr 52)), (1, .inl l1), (2, .inl l2), (3, .inr (.inl l3))]) 8 rfl (mfx.lt mf293 (Nat.le_of_ble_eq_true rfl)) rfl (ck dc293 (i := 165) rfl) ?_
        refine G_goto (tgt := 171) (by decide) (ck dc293 (i := 166) rfl) ?_
        exact G_sub [5, 6, 7, 8, 1, 0] rfl h
      · replace h := h.2 c
        refine G_iconst (ck dc293 (i := 159) rfl) ?_
        exact H_iretZ mf293 (ck dc293 (i := 160) rfl) rfl (Or.inl rfl) h
    · replace h := h.2 c
      refine G_lload 0 rfl (ck dc293 (i := 142) rfl) ?_
      refine G_lload_n 6 rfl rfl (ck dc293 (i := 143) rfl) ?_
      obtain ⟨o13, h⟩ := h
      obtain ⟨o14, h⟩ := h
      refine G_lif_eq (tgt := 257) (ck dc293 (i := 145) rfl) (by decide) o13 o14 (ck dc293 (i := 144) rfl) (fun c => ?_) (fun c => ?_)
      · replace h := h.1 c
        refine G_lload 7 rfl (ck dc293 (i := 161) rfl) ?_
        refine G_lload 1 rfl (ck dc293 (i := 162) rfl) ?_
        refine G_lsub (ck dc293 (i := 163) rfl) ?_
        refine G_lstore (L' := [(8, .inr (.inl (l8 - (mn2 l8 ((10 * r2) * l3))))), (15, .inr (.inl (M3 72 ((l1 + (3 * l2)) + l10)))), (13, .inr (.inl (mn2 l8 ((10 * r2) * l3)))), (11, .inr (.inl ((10 * r2) * l3))), (0, .inr (.inr 52)), (1, .inl l1), (2, .inl l2), (3, .inr (.inl l3)), (10, .inl l10)]) (mfx.lt mf293 (Nat.le_of_ble_eq_true rfl)) rfl (ck dc293 (i := 164) rfl) ?_
        refine G_iinc (L' := [(10, .inl (l10 + 1)), (8, .inr (.inl (l8 - (mn2 l8 ((10 * r2) * l3))))), (15, .inr (.inl (M3 72 ((l1 + (3 * l2)) + l10)))), (13, .inr (.inl (mn2 l8 ((10 * r2) * l3)))), (11, .inr (.inl ((10 * r2) * l3))), (0, .inr (.inr 52)), (1, .inl l1), (2, .inl l2), (3, .inr (.inl l3))]) 8 rfl (mfx.lt mf293 (Nat.le_of_ble_eq_true rfl)) rfl (ck dc293 (i := 165) rfl) ?_
        refine G_goto (tgt := 171) (by decide) (ck dc293 (i := 166) rfl) ?_
        exact G_sub [5, 6, 7, 8, 1, 0] rfl h
      · replace h := h.2 c
        refine G_goto (tgt := 255) (by decide) (ck dc293 (i := 146) rfl) ?_
        refine G_iconst (ck dc293 (i := 159) rfl) ?_
        exact H_iretZ mf293 (ck dc293 (i := 160) rfl) rfl (Or.inl rfl) h
set_option maxHeartbeats 20000000 in
theorem c_m_judge (K : Nat) (a1 a2 : Int) (M : PM) (Q : Option PV → PM → Prop)
    (h : Call K jModel_isRow [.inl a1] P0 P0 M (retI fun r1 M2 => R32 r1 ∧ (¬ r1 = 0 → Call K jModel_hasPlace [.inr (.inr 52), .inl a1, .inl a2, .inl (3 * (M2 55 0))] P0 P0 M2 (retI fun r4 M5 => R32 r4 ∧ (¬ r4 = 0 → (0 ≤ (((20 * a1) + a2) + (3 * (M2 55 0))) ∧ (((20 * a1) + a2) + (3 * (M2 55 0))) < 80) ∧ Call K jModel_within [.inr (.inl (M5 72 (((20 * a1) + a2) + (3 * (M2 55 0))))), .inr (.inl 1), .inr (.inl 1000000000000000)] P0 P0 M5 (retI fun r8 M9 => R32 r8 ∧ (¬ r8 = 0 → G none (K + 1) jModel_judge 68 [(0, .inr (.inr 52)), (3, .inl (3 * (M2 55 0))), (4, .inl ((20 * a1) + a2)), (5, .inr (.inl (M5 72 (((20 * a1) + a2) + (3 * (M2 55 0)))))), (7, .inl 0)] [] P0 P0 M9 Q) ∧ (r8 = 0 → Q (some (.inl (-2))) M9))) ∧ (r4 = 0 → Q (some (.inl (-3))) M5))) ∧ (r1 = 0 → Q (some (.inl (-1))) M2))) : Call (K + 1) jModel_judge [.inr (.inr 52), .inl a1, .inl a2] P0 P0 M Q := by
  refine Call.intro (by decide +kernel) (mfx.le mf292 (Nat.le_of_ble_eq_true rfl)) (Nat.le_refl _) rfl ?_
  refine G_iload_n 1 rfl rfl (ck dc292 (i := 0) rfl) ?_
  refine H_sZ mf292 (As := [.inl a1]) (st := []) (ck dc292 (i := 1) rfl) lk_Model_318 rfl rfl (Nat.le_of_ble_eq_true rfl) ⟨Nat.le_refl _, Nat.le_refl _⟩ h (fun r1 M2 h => ?_)
  obtain ⟨o3, h⟩ := h
  refine G_if_ne (tgt := 9) (by decide) o3 (ck dc292 (i := 2) rfl) (fun c => ?_) (fun c => ?_)
  · replace h := h.1 c
    refine G_iconst (ck dc292 (i := 5) rfl) ?_
    refine G_aload_n 0 rfl rfl (ck dc292 (i := 6) rfl) ?_
    refine H_getR mf292 (ck dc292 (i := 7) rfl) fw_Model_5 fc11_3 ly52 ra52 rf52_3 (by decide) ?_
    refine G_iconst (ck dc292 (i := 8) rfl) ?_
    refine H_iald (ck dc292 (i := 9) rfl) ly55 (by decide) ra55 (by decide) (x := (M2 55 0)) rfl ?_
    refine G_imul (ck dc292 (i := 10) rfl) ?_
    refine G_istore_n (L' := [(3, .inl (3 * (M2 55 0))), (0, .inr (.inr 52)), (1, .inl a1), (2, .inl a2)]) rfl (mfx.lt mf292 (Nat.le_of_ble_eq_true rfl)) rfl (ck dc292 (i := 11) rfl) ?_
    refine G_aload_n 1 rfl rfl (ck dc292 (i := 12) rfl) ?_
    refine G_iload_n 2 rfl rfl (ck dc292 (i := 13) rfl) ?_
    refine G_iload_n 3 rfl rfl (ck dc292 (i := 14) rfl) ?_
    refine G_iload_n 0 rfl rfl (ck dc292 (i := 15) rfl) ?_
    refine H_vZ mf292 (As := [.inl a1, .inl a2, .inl (3 * (M2 55 0))]) (st := []) (ck dc292 (i := 16) rfl) lk_Model_325 rfl rfl (Nat.le_of_ble_eq_true rfl) ly52 ra52 ⟨Nat.le_refl _, Nat.le_refl _⟩ h (fun r4 M5 h => ?_)
    obtain ⟨o6, h⟩ := h
    refine G_if_ne (tgt := 31) (by decide) o6 (ck dc292 (i := 17) rfl) (fun c => ?_) (fun c => ?_)
    · replace h := h.1 c
      refine G_bipush (n := 20) rfl (ck dc292 (i := 20) rfl) ?_
      refine G_iload_n 2 rfl rfl (ck dc292 (i := 21) rfl) ?_
      refine G_imul (ck dc292 (i := 22) rfl) ?_
      refine G_iload_n 3 rfl rfl (ck dc292 (i := 23) rfl) ?_
      refine G_iadd (ck dc292 (i := 24) rfl) ?_
      refine G_istore (L' := [(4, .inl ((20 * a1) + a2)), (3, .inl (3 * (M2 55 0))), (0, .inr (.inr 52)), (1, .inl a1), (2, .inl a2)]) (mfx.lt mf292 (Nat.le_of_ble_eq_true rfl)) rfl (ck dc292 (i := 25) rfl) ?_
      refine G_aload_n 2 rfl rfl (ck dc292 (i := 26) rfl) ?_
      refine H_getR mf292 (ck dc292 (i := 27) rfl) fw_Model_80 fc11_33 ly52 ra52 rf52_33 (by decide) ?_
      refine G_iload 0 rfl (ck dc292 (i := 28) rfl) ?_
      refine G_iload_n 1 rfl rfl (ck dc292 (i := 29) rfl) ?_
      refine G_iadd (ck dc292 (i := 30) rfl) ?_
      obtain ⟨o7, h⟩ := h
      refine H_lald (ck dc292 (i := 31) rfl) ly72 (by decide) ra72 o7 (x := (M5 72 (((20 * a1) + a2) + (3 * (M2 55 0))))) rfl ?_
      refine G_lstore (L' := [(5, .inr (.inl (M5 72 (((20 * a1) + a2) + (3 * (M2 55 0)))))), (4, .inl ((20 * a1) + a2)), (3, .inl (3 * (M2 55 0))), (0, .inr (.inr 52)), (1, .inl a1), (2, .inl a2)]) (mfx.lt mf292 (Nat.le_of_ble_eq_true rfl)) rfl (ck dc292 (i := 32) rfl) ?_
      refine G_lload 0 rfl (ck dc292 (i := 33) rfl) ?_
      refine G_lconst (v := 1) rfl (ck dc292 (i := 34) rfl) ?_
      refine H_ldc2 mf292 (v := 1000000000000000) (ck dc292 (i := 35) rfl) kl_Model_410 ?_
      refine H_sZ mf292 (As := [.inr (.inl (M5 72 (((20 * a1) + a2) + (3 * (M2 55 0))))), .inr (.inl 1), .inr (.inl 1000000000000000)]) (st := []) (ck dc292 (i := 36) rfl) lk_Model_9 rfl rfl (Nat.le_of_ble_eq_true rfl) ⟨Nat.le_refl _, Nat.le_refl _⟩ h (fun r8 M9 h => ?_)
      obtain ⟨o10, h⟩ := h
      refine G_if_ne (tgt := 65) (by decide) o10 (ck dc292 (i := 37) rfl) (fun c => ?_) (fun c => ?_)
      · replace h := h.1 c
        refine G_iconst (ck dc292 (i := 40) rfl) ?_
        refine G_istore (L' := [(7, .inl 0), (5, .inr (.inl (M5 72 (((20 * a1) + a2) + (3 * (M2 55 0)))))), (4, .inl ((20 * a1) + a2)), (3, .inl (3 * (M2 55 0))), (0, .inr (.inr 52)), (1, .inl a1), (2, .inl a2)]) (mfx.lt mf292 (Nat.le_of_ble_eq_true rfl)) rfl (ck dc292 (i := 41) rfl) ?_
        exact G_sub [4, 3, 2, 1, 0] rfl h
      · replace h := h.2 c
        refine G_bipush (n := (-2)) rfl (ck dc292 (i := 38) rfl) ?_
        exact H_iretI mf292 (ck dc292 (i := 39) rfl) rfl h
    · replace h := h.2 c
      refine G_bipush (n := (-3)) rfl (ck dc292 (i := 18) rfl) ?_
      exact H_iretI mf292 (ck dc292 (i := 19) rfl) rfl h
  · replace h := h.2 c
    refine G_iconst (ck dc292 (i := 3) rfl) ?_
    exact H_iretI mf292 (ck dc292 (i := 4) rfl) rfl h
theorem g_m_judge_68 (K : Nat) (l3 l4 l5 l7 : Int) (M : PM) (Q : Option PV → PM → Prop)
    (h : R32 l7 ∧ R32 l3 ∧ (l3 ≤ l7 → G none (K + 1) jModel_judge 105 [(0, .inr (.inr 52)), (4, .inl l4), (7, .inl 0)] [] P0 P0 M Q) ∧ (¬ l3 ≤ l7 → (0 ≤ (l4 + l7) ∧ (l4 + l7) < 80) ∧ Call K jModel_within [.inr (.inl (M 72 (l4 + l7))), .inr (.inl 0), .inr (.inl l5)] P0 P0 M (retI fun r4 M5 => R32 r4 ∧ (¬ r4 = 0 → G none (K + 1) jModel_judge 68 [(0, .inr (.inr 52)), (3, .inl l3), (4, .inl l4), (5, .inr (.inl l5)), (7, .inl (l7 + 1))] [] P0 P0 M5 Q) ∧ (r4 = 0 → Q (some (.inl (-2))) M5)))) : G none (K + 1) jModel_judge 68 [(0, .inr (.inr 52)), (3, .inl l3), (4, .inl l4), (5, .inr (.inl l5)), (7, .inl l7)] [] P0 P0 M Q := by
  refine G_iload 4 rfl (ck dc292 (i := 42) rfl) ?_
  refine G_iload_n 1 rfl rfl (ck dc292 (i := 43) rfl) ?_
  obtain ⟨o1, h⟩ := h
  obtain ⟨o2, h⟩ := h
  refine G_icmp_ge (tgt := 102) (by decide) o1 o2 (ck dc292 (i := 44) rfl) (fun c => ?_) (fun c => ?_)
  · replace h := h.1 c
    refine G_iconst (ck dc292 (i := 59) rfl) ?_
    refine G_istore (L' := [(7, .inl 0), (0, .inr (.inr 52)), (3, .inl l3), (4, .inl l4), (5, .inr (.inl l5))]) (mfx.lt mf292 (Nat.le_of_ble_eq_true rfl)) rfl (ck dc292 (i := 60) rfl) ?_
    exact G_sub [1, 3, 0] rfl h
  · replace h := h.2 c
    refine G_aload_n 0 rfl rfl (ck dc292 (i := 45) rfl) ?_
    refine H_getR mf292 (ck dc292 (i := 46) rfl) fw_Model_80 fc11_33 ly52 ra52 rf52_33 (by decide) ?_
    refine G_iload 2 rfl (ck dc292 (i := 47) rfl) ?_
    refine G_iload 4 rfl (ck dc292 (i := 48) rfl) ?_
    refine G_iadd (ck dc292 (i := 49) rfl) ?_
    obtain ⟨o3, h⟩ := h
    refine H_lald (ck dc292 (i := 50) rfl) ly72 (by decide) ra72 o3 (x := (M 72 (l4 + l7))) rfl ?_
    refine G_lconst (v := 0) rfl (ck dc292 (i := 51) rfl) ?_
    refine G_lload 3 rfl (ck dc292 (i := 52) rfl) ?_
    refine H_sZ mf292 (As := [.inr (.inl (M 72 (l4 + l7))), .inr (.inl 0), .inr (.inl l5)]) (st := []) (ck dc292 (i := 53) rfl) lk_Model_9 rfl rfl (Nat.le_of_ble_eq_true rfl) ⟨Nat.le_refl _, Nat.le_refl _⟩ h (fun r4 M5 h => ?_)
    obtain ⟨o6, h⟩ := h
    refine G_if_ne (tgt := 96) (by decide) o6 (ck dc292 (i := 54) rfl) (fun c => ?_) (fun c => ?_)
    · replace h := h.1 c
      refine G_iinc (L' := [(7, .inl (l7 + 1)), (0, .inr (.inr 52)), (3, .inl l3), (4, .inl l4), (5, .inr (.inl l5))]) 4 rfl (mfx.lt mf292 (Nat.le_of_ble_eq_true rfl)) rfl (ck dc292 (i := 57) rfl) ?_
      refine G_goto (tgt := 68) (by decide) (ck dc292 (i := 58) rfl) ?_
      exact G_sub [1, 2, 3, 4, 0] rfl h
    · replace h := h.2 c
      refine G_bipush (n := (-2)) rfl (ck dc292 (i := 55) rfl) ?_
      exact H_iretI mf292 (ck dc292 (i := 56) rfl) rfl h
theorem g_m_judge_105 (K : Nat) (l4 l7 : Int) (M : PM) (Q : Option PV → PM → Prop)
    (h : R32 l7 ∧ R32 (M 55 0) ∧ ((M 55 0) ≤ l7 → Call K jModel_isOfClearing [.inr (.inr 52), .inl l4] P0 P0 M (retI fun r3 M4 => R32 r3 ∧ (r3 = 0 → Q (some (.inl 1)) M4) ∧ (¬ r3 = 0 → Q (some (.inl 2)) M4))) ∧ (¬ (M 55 0) ≤ l7 → Call K jModel_paysSo [.inr (.inr 52), .inl l4, .inl l7] P0 P0 M (retI fun r6 M7 => R32 r6 ∧ (¬ r6 = 0 → G none (K + 1) jModel_judge 105 [(0, .inr (.inr 52)), (4, .inl l4), (7, .inl (l7 + 1))] [] P0 P0 M7 Q) ∧ (r6 = 0 → Q (some (.inl 0)) M7)))) : G none (K + 1) jModel_judge 105 [(0, .inr (.inr 52)), (4, .inl l4), (7, .inl l7)] [] P0 P0 M Q := by
  refine G_iload 2 rfl (ck dc292 (i := 61) rfl) ?_
  refine G_aload_n 0 rfl rfl (ck dc292 (i := 62) rfl) ?_
  refine H_getR mf292 (ck dc292 (i := 63) rfl) fw_Model_5 fc11_3 ly52 ra52 rf52_3 (by decide) ?_
  refine G_iconst (ck dc292 (i := 64) rfl) ?_
  refine H_iald (ck dc292 (i := 65) rfl) ly55 (by decide) ra55 (by decide) (x := (M 55 0)) rfl ?_
  obtain ⟨o1, h⟩ := h
  obtain ⟨o2, h⟩ := h
  refine G_icmp_ge (tgt := 135) (by decide) o1 o2 (ck dc292 (i := 66) rfl) (fun c => ?_) (fun c => ?_)
  · replace h := h.1 c
    refine G_aload_n 0 rfl rfl (ck dc292 (i := 76) rfl) ?_
    refine G_iload 1 rfl (ck dc292 (i := 77) rfl) ?_
    refine H_vZ mf292 (As := [.inl l4]) (st := []) (ck dc292 (i := 78) rfl) lk_Model_415 rfl rfl (Nat.le_of_ble_eq_true rfl) ly52 ra52 ⟨Nat.le_refl _, Nat.le_refl _⟩ h (fun r3 M4 h => ?_)
    obtain ⟨o5, h⟩ := h
    refine G_if_eq (tgt := 148) (by decide) o5 (ck dc292 (i := 79) rfl) (fun c => ?_) (fun c => ?_)
    · replace h := h.1 c
      refine G_iconst (ck dc292 (i := 82) rfl) ?_
      exact H_iretI mf292 (ck dc292 (i := 83) rfl) rfl h
    · replace h := h.2 c
      refine G_iconst (ck dc292 (i := 80) rfl) ?_
      refine G_goto (tgt := 149) (by decide) (ck dc292 (i := 81) rfl) ?_
      exact H_iretI mf292 (ck dc292 (i := 83) rfl) rfl h
  · replace h := h.2 c
    refine G_aload_n 0 rfl rfl (ck dc292 (i := 67) rfl) ?_
    refine G_iload 1 rfl (ck dc292 (i := 68) rfl) ?_
    refine G_iload 2 rfl (ck dc292 (i := 69) rfl) ?_
    refine H_vZ mf292 (As := [.inl l4, .inl l7]) (st := []) (ck dc292 (i := 70) rfl) lk_Model_412 rfl rfl (Nat.le_of_ble_eq_true rfl) ly52 ra52 ⟨Nat.le_refl _, Nat.le_refl _⟩ h (fun r6 M7 h => ?_)
    obtain ⟨o8, h⟩ := h
    refine G_if_ne (tgt := 129) (by decide) o8 (ck dc292 (i := 71) rfl) (fun c => ?_) (fun c => ?_)
    · replace h := h.1 c
      refine G_iinc (L' := [(7, .inl (l7 + 1)), (0, .inr (.inr 52)), (4, .inl l4)]) 2 rfl (mfx.lt mf292 (Nat.le_of_ble_eq_true rfl)) rfl (ck dc292 (i := 74) rfl) ?_
      refine G_goto (tgt := 105) (by decide) (ck dc292 (i := 75) rfl) ?_
      exact G_sub [1, 2, 0] rfl h
    · replace h := h.2 c
      refine G_iconst (ck dc292 (i := 72) rfl) ?_
      exact H_iretI mf292 (ck dc292 (i := 73) rfl) rfl h
theorem c_m_image (K : Nat) (M : PM) (Q : Option PV → PM → Prop)
    (h : Q (some (.inl (M 55 0))) (mset (mcpy M 53 54 128) 52 2 1)) : Call (K + 1) jModel_image [.inr (.inr 52)] P0 P0 M Q := by
  refine Call.intro (by decide +kernel) (mfx.le mf295 (Nat.le_of_ble_eq_true rfl)) (Nat.le_refl _) rfl ?_
  refine G_aload_n 0 rfl rfl (ck dc295 (i := 0) rfl) ?_
  refine H_getR mf295 (ck dc295 (i := 1) rfl) fw_Model_25 fc11_0 ly52 ra52 rf52_0 (by decide) ?_
  refine G_iconst (ck dc295 (i := 2) rfl) ?_
  refine G_aload_n 0 rfl rfl (ck dc295 (i := 3) rfl) ?_
  refine H_getR mf295 (ck dc295 (i := 4) rfl) fw_Model_29 fc11_1 ly52 ra52 rf52_1 (by decide) ?_
  refine G_iconst (ck dc295 (i := 5) rfl) ?_
  refine G_sipush (n := 128) rfl (ck dc295 (i := 6) rfl) ?_
  refine H_cpyl mf295 (n := 128) (ck dc295 (i := 7) rfl) la_Model_283 (by decide) ly53 ly54 ra53 ra54 (by decide) (by decide) (by decide) (Nat.le_of_ble_eq_true rfl) ?_
  refine G_aload_n 0 rfl rfl (ck dc295 (i := 8) rfl) ?_
  refine G_iconst (ck dc295 (i := 9) rfl) ?_
  refine H_putZ mf295 (ck dc295 (i := 10) rfl) fw_Model_418 fc11_2 ly52 ra52 (Or.inl rfl) (Or.inr rfl) ?_
  refine G_aload_n 0 rfl rfl (ck dc295 (i := 11) rfl) ?_
  refine H_getR mf295 (ck dc295 (i := 12) rfl) fw_Model_5 fc11_3 ly52 ra52 rf52_3 (by decide) ?_
  refine G_iconst (ck dc295 (i := 13) rfl) ?_
  refine H_iald (ck dc295 (i := 14) rfl) ly55 (by decide) ra55 (by decide) (x := (M 55 0)) (by simp [mset, mcpy, mclr]) ?_
  exact H_iretI mf295 (ck dc295 (i := 15) rfl) rfl h
theorem c_m_undo (K : Nat) (M : PM) (Q : Option PV → PM → Prop)
    (h : R32 (M 52 2) ∧ (¬ (M 52 2) = 0 → Call K jModel_reads [.inr (.inr 52)] P0 P0 (mcpy M 54 53 128) (retV fun M3 => Q (some (.inl (M3 55 0))) M3)) ∧ ((M 52 2) = 0 → Q (some (.inl (-3))) M)) : Call (K + 1) jModel_undo [.inr (.inr 52)] P0 P0 M Q := by
  refine Call.intro (by decide +kernel) (mfx.le mf296 (Nat.le_of_ble_eq_true rfl)) (Nat.le_refl _) rfl ?_
  refine G_aload_n 0 rfl rfl (ck dc296 (i := 0) rfl) ?_
  refine H_getI mf296 (ck dc296 (i := 1) rfl) fw_Model_418 (Or.inr fc11_2) ly52 ra52 (x := (M 52 2)) rfl ?_
  obtain ⟨o1, h⟩ := h
  refine G_if_ne (tgt := 10) (by decide) o1 (ck dc296 (i := 2) rfl) (fun c => ?_) (fun c => ?_)
  · replace h := h.1 c
    refine G_aload_n 0 rfl rfl (ck dc296 (i := 5) rfl) ?_
    refine H_getR mf296 (ck dc296 (i := 6) rfl) fw_Model_29 fc11_1 ly52 ra52 rf52_1 (by decide) ?_
    refine G_iconst (ck dc296 (i := 7) rfl) ?_
    refine G_aload_n 0 rfl rfl (ck dc296 (i := 8) rfl) ?_
    refine H_getR mf296 (ck dc296 (i := 9) rfl) fw_Model_25 fc11_0 ly52 ra52 rf52_0 (by decide) ?_
    refine G_iconst (ck dc296 (i := 10) rfl) ?_
    refine G_sipush (n := 128) rfl (ck dc296 (i := 11) rfl) ?_
    refine H_cpyl mf296 (n := 128) (ck dc296 (i := 12) rfl) la_Model_283 (by decide) ly54 ly53 ra54 ra53 (by decide) (by decide) (by decide) (Nat.le_of_ble_eq_true rfl) ?_
    refine G_aload_n 0 rfl rfl (ck dc296 (i := 13) rfl) ?_
    refine H_vV mf296 (As := []) (st := []) (ck dc296 (i := 14) rfl) lk_Model_92 rfl rfl (Nat.le_of_ble_eq_true rfl) ly52 ra52 ⟨Nat.le_refl _, Nat.le_refl _⟩ h (fun M3 h => ?_)
    refine G_aload_n 0 rfl rfl (ck dc296 (i := 15) rfl) ?_
    refine H_getR mf296 (ck dc296 (i := 16) rfl) fw_Model_5 fc11_3 ly52 ra52 rf52_3 (by decide) ?_
    refine G_iconst (ck dc296 (i := 17) rfl) ?_
    refine H_iald (ck dc296 (i := 18) rfl) ly55 (by decide) ra55 (by decide) (x := (M3 55 0)) rfl ?_
    exact H_iretI mf296 (ck dc296 (i := 19) rfl) rfl h
  · replace h := h.2 c
    refine G_bipush (n := (-3)) rfl (ck dc296 (i := 3) rfl) ?_
    exact H_iretI mf296 (ck dc296 (i := 4) rfl) rfl h
