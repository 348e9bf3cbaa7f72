/-! THE LAW: from its entry to the loop -/
set_option maxHeartbeats 20000000 in
theorem g_law_0 (K : Nat) (n : Nat) (f : Nat → Int) (M : PM) (Q : Option PV → PM → Prop)
    (h : Call K jClearingWaves_init [.inr (.inr 0)] (phx 1 78) (phx 52 21) (mclr M 0) (retV fun M2 => Call K jModel_init [.inr (.inr 52)] (phx 53 21) (phx 74 0) (mclr M2 52) (retV fun M4 => G (some (n, f)) (K + 1) jLaw_law 18 [(0, .inr (.inr 1000000)), (1, .inr (.inr 0)), (2, .inr (.inr 52)), (3, .inl 0)] [] (phx 74 0) (phx 74 0) M4 Q))) : G (some (n, f)) (K + 1) jLaw_law 0 [(0, .inr (.inr 1000000))] [] (phx 0 78) (phx 74 0) M Q := by
  refine H_new mf297 (ck dc297_0 (i := 0) rfl) cok_10 ly0 kn_Law_7.1 kn_Law_7.2.1 kn_Law_7.2.2 (by decide +kernel) (by decide +kernel) (by decide +kernel) (by decide +kernel) (by decide +kernel) (ph2 := phx 1 78) rfl ?_
  refine G_dup rfl (ck dc297_0 (i := 1) rfl) ?_
  refine H_i mf297 (As := []) (st := [.inr (.inr 0)]) (ck dc297_0 (i := 2) rfl) lk_Law_9 rfl rfl (Nat.le_of_ble_eq_true rfl) (by decide) (by decide +kernel) h (fun M2 h => ?_)
  refine G_astore_n (L' := [(1, .inr (.inr 0)), (0, .inr (.inr 1000000))]) rfl (mfx.lt mf297 (Nat.le_of_ble_eq_true rfl)) rfl (ck dc297_0 (i := 3) rfl) ?_
  refine H_new mf297 (ck dc297_0 (i := 4) rfl) cok_11 ly52 kn_Law_10.1 kn_Law_10.2.1 kn_Law_10.2.2 (by decide +kernel) (by decide +kernel) (by decide +kernel) (by decide +kernel) (by decide +kernel) (ph2 := phx 53 21) rfl ?_
  refine G_dup rfl (ck dc297_0 (i := 5) rfl) ?_
  refine H_i mf297 (As := []) (st := [.inr (.inr 52)]) (ck dc297_0 (i := 6) rfl) lk_Law_12 rfl rfl (Nat.le_of_ble_eq_true rfl) (by decide) (by decide +kernel) h (fun M4 h => ?_)
  refine G_astore_n (L' := [(2, .inr (.inr 52)), (1, .inr (.inr 0)), (0, .inr (.inr 1000000))]) rfl (mfx.lt mf297 (Nat.le_of_ble_eq_true rfl)) rfl (ck dc297_0 (i := 7) rfl) ?_
  refine G_iconst (ck dc297_0 (i := 8) rfl) ?_
  refine G_istore_n (L' := [(3, .inl 0), (2, .inr (.inr 52)), (1, .inr (.inr 0)), (0, .inr (.inr 1000000))]) rfl (mfx.lt mf297 (Nat.le_of_ble_eq_true rfl)) rfl (ck dc297_0 (i := 9) rfl) ?_
  exact G_sub [3, 2, 1, 0] rfl h
