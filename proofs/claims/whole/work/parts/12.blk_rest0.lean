theorem c_bk_begin (K : Nat) (ph : PH) (hp : phk_1 ph) (a1 : Int) (M : PM) (Q : Option PV → PM → Prop)
    (h : G none (K + 1) jBook_begin 19 [(0, .inr (.inr 1)), (2, .inl 0)] [] ph ph (mset (mset (mset M 1 0 a1) 1 1 10) 1 2 10) Q) : Call (K + 1) jBook_begin [.inr (.inr 1), .inl a1] ph ph M Q := by
  refine Call.intro (by decide +kernel) (mfx.le mf2 (Nat.le_of_ble_eq_true rfl)) (Nat.le_refl _) rfl ?_
  refine G_aload_n 0 rfl rfl (ck dc2 (i := 0) rfl) ?_
  refine G_iload_n 1 rfl rfl (ck dc2 (i := 1) rfl) ?_
  refine H_putI mf2 (ck dc2 (i := 2) rfl) fw_Book_26 fc0_0 ly1 (hp.lt (a := 1) (Nat.le_of_ble_eq_true rfl) (Nat.le_of_ble_eq_true rfl)) (Or.inl rfl) ?_
  refine G_aload_n 0 rfl rfl (ck dc2 (i := 3) rfl) ?_
  refine G_bipush (n := 10) rfl (ck dc2 (i := 4) rfl) ?_
  refine H_putI mf2 (ck dc2 (i := 5) rfl) fw_Book_30 fc0_1 ly1 (hp.lt (a := 1) (Nat.le_of_ble_eq_true rfl) (Nat.le_of_ble_eq_true rfl)) (Or.inl rfl) ?_
  refine G_aload_n 0 rfl rfl (ck dc2 (i := 6) rfl) ?_
  refine G_bipush (n := 10) rfl (ck dc2 (i := 7) rfl) ?_
  refine H_putI mf2 (ck dc2 (i := 8) rfl) fw_Book_33 fc0_2 ly1 (hp.lt (a := 1) (Nat.le_of_ble_eq_true rfl) (Nat.le_of_ble_eq_true rfl)) (Or.inl rfl) ?_
  refine G_iconst (ck dc2 (i := 9) rfl) ?_
  refine G_istore_n (L' := [(2, .inl 0), (0, .inr (.inr 1)), (1, .inl a1)]) rfl (mfx.lt mf2 (Nat.le_of_ble_eq_true rfl)) rfl (ck dc2 (i := 10) rfl) ?_
  exact G_sub [1, 0] rfl h
theorem g_bk_begin_19 (K : Nat) (ph : PH) (hp : phk_1 ph) (l2 : Int) (M : PM) (Q : Option PV → PM → Prop)
    (h : R32 l2 ∧ (5 ≤ l2 → G none (K + 1) jBook_begin 43 [(0, .inr (.inr 1)), (2, .inl 0)] [] ph ph M Q) ∧ (¬ 5 ≤ l2 → (0 ≤ l2 ∧ l2 < 5) ∧ G none (K + 1) jBook_begin 19 [(0, .inr (.inr 1)), (2, .inl (l2 + 1))] [] ph ph (mset M 2 l2 0) Q)) : G none (K + 1) jBook_begin 19 [(0, .inr (.inr 1)), (2, .inl l2)] [] ph ph M Q := by
  refine G_iload_n 1 rfl rfl (ck dc2 (i := 11) rfl) ?_
  refine G_aload_n 0 rfl rfl (ck dc2 (i := 12) rfl) ?_
  refine H_getR mf2 (ck dc2 (i := 13) rfl) fw_Book_9 fc0_3 ly1 (hp.lt (a := 1) (Nat.le_of_ble_eq_true rfl) (Nat.le_of_ble_eq_true rfl)) (hp.2 (1, 3, 2) (by decide)) (by decide) ?_
  refine G_alen (ck dc2 (i := 14) rfl) (hp.lt (a := 2) (Nat.le_of_ble_eq_true rfl) (Nat.le_of_ble_eq_true rfl)) ly2 (by decide) ?_
  obtain ⟨o1, h⟩ := h
  refine G_icmp_ge (tgt := 41) (by decide) o1 (by decide) (ck dc2 (i := 15) rfl) (fun c => ?_) (fun c => ?_)
  · replace h := h.1 c
    refine G_iconst (ck dc2 (i := 23) rfl) ?_
    refine G_istore_n (L' := [(2, .inl 0), (0, .inr (.inr 1))]) rfl (mfx.lt mf2 (Nat.le_of_ble_eq_true rfl)) rfl (ck dc2 (i := 24) rfl) ?_
    exact G_sub [1, 0] rfl h
  · replace h := h.2 c
    refine G_aload_n 0 rfl rfl (ck dc2 (i := 16) rfl) ?_
    refine H_getR mf2 (ck dc2 (i := 17) rfl) fw_Book_9 fc0_3 ly1 (hp.lt (a := 1) (Nat.le_of_ble_eq_true rfl) (Nat.le_of_ble_eq_true rfl)) (hp.2 (1, 3, 2) (by decide)) (by decide) ?_
    refine G_iload_n 1 rfl rfl (ck dc2 (i := 18) rfl) ?_
    refine G_iconst (ck dc2 (i := 19) rfl) ?_
    obtain ⟨o2, h⟩ := h
    refine G_iast (ck dc2 (i := 20) rfl) (hp.lt (a := 2) (Nat.le_of_ble_eq_true rfl) (Nat.le_of_ble_eq_true rfl)) ly2 (by decide) o2 ?_
    refine G_iinc (L' := [(2, .inl (l2 + 1)), (0, .inr (.inr 1))]) 1 rfl (mfx.lt mf2 (Nat.le_of_ble_eq_true rfl)) rfl (ck dc2 (i := 21) rfl) ?_
    refine G_goto (tgt := 19) (by decide) (ck dc2 (i := 22) rfl) ?_
    exact G_sub [1, 0] rfl h
theorem g_bk_begin_43 (K : Nat) (ph : PH) (hp : phk_1 ph) (l2 : Int) (M : PM) (Q : Option PV → PM → Prop)
    (h : R32 l2 ∧ (75 ≤ l2 → G none (K + 1) jBook_begin 67 [(0, .inr (.inr 1)), (2, .inl 0)] [] ph ph M Q) ∧ (¬ 75 ≤ l2 → (0 ≤ l2 ∧ l2 < 75) ∧ G none (K + 1) jBook_begin 43 [(0, .inr (.inr 1)), (2, .inl (l2 + 1))] [] ph ph (mset M 3 l2 0) Q)) : G none (K + 1) jBook_begin 43 [(0, .inr (.inr 1)), (2, .inl l2)] [] ph ph M Q := by
  refine G_iload_n 1 rfl rfl (ck dc2 (i := 25) rfl) ?_
  refine G_aload_n 0 rfl rfl (ck dc2 (i := 26) rfl) ?_
  refine H_getR mf2 (ck dc2 (i := 27) rfl) fw_Book_15 fc0_4 ly1 (hp.lt (a := 1) (Nat.le_of_ble_eq_true rfl) (Nat.le_of_ble_eq_true rfl)) (hp.2 (1, 4, 3) (by decide)) (by decide) ?_
  refine G_alen (ck dc2 (i := 28) rfl) (hp.lt (a := 3) (Nat.le_of_ble_eq_true rfl) (Nat.le_of_ble_eq_true rfl)) ly3 (by decide) ?_
  obtain ⟨o1, h⟩ := h
  refine G_icmp_ge (tgt := 65) (by decide) o1 (by decide) (ck dc2 (i := 29) rfl) (fun c => ?_) (fun c => ?_)
  · replace h := h.1 c
    refine G_iconst (ck dc2 (i := 37) rfl) ?_
    refine G_istore_n (L' := [(2, .inl 0), (0, .inr (.inr 1))]) rfl (mfx.lt mf2 (Nat.le_of_ble_eq_true rfl)) rfl (ck dc2 (i := 38) rfl) ?_
    exact G_sub [1, 0] rfl h
  · replace h := h.2 c
    refine G_aload_n 0 rfl rfl (ck dc2 (i := 30) rfl) ?_
    refine H_getR mf2 (ck dc2 (i := 31) rfl) fw_Book_15 fc0_4 ly1 (hp.lt (a := 1) (Nat.le_of_ble_eq_true rfl) (Nat.le_of_ble_eq_true rfl)) (hp.2 (1, 4, 3) (by decide)) (by decide) ?_
    refine G_iload_n 1 rfl rfl (ck dc2 (i := 32) rfl) ?_
    refine G_iconst (ck dc2 (i := 33) rfl) ?_
    obtain ⟨o2, h⟩ := h
    refine G_iast (ck dc2 (i := 34) rfl) (hp.lt (a := 3) (Nat.le_of_ble_eq_true rfl) (Nat.le_of_ble_eq_true rfl)) ly3 (by decide) o2 ?_
    refine G_iinc (L' := [(2, .inl (l2 + 1)), (0, .inr (.inr 1))]) 1 rfl (mfx.lt mf2 (Nat.le_of_ble_eq_true rfl)) rfl (ck dc2 (i := 35) rfl) ?_
    refine G_goto (tgt := 43) (by decide) (ck dc2 (i := 36) rfl) ?_
    exact G_sub [1, 0] rfl h
theorem g_bk_begin_67 (K : Nat) (ph : PH) (hp : phk_1 ph) (l2 : Int) (M : PM) (Q : Option PV → PM → Prop)
    (h : R32 l2 ∧ (45 ≤ l2 → Q none M) ∧ (¬ 45 ≤ l2 → (0 ≤ l2 ∧ l2 < 45) ∧ G none (K + 1) jBook_begin 67 [(0, .inr (.inr 1)), (2, .inl (l2 + 1))] [] ph ph (mset M 4 l2 0) Q)) : G none (K + 1) jBook_begin 67 [(0, .inr (.inr 1)), (2, .inl l2)] [] ph ph M Q := by
  refine G_iload_n 1 rfl rfl (ck dc2 (i := 39) rfl) ?_
  refine G_aload_n 0 rfl rfl (ck dc2 (i := 40) rfl) ?_
  refine H_getR mf2 (ck dc2 (i := 41) rfl) fw_Book_18 fc0_5 ly1 (hp.lt (a := 1) (Nat.le_of_ble_eq_true rfl) (Nat.le_of_ble_eq_true rfl)) (hp.2 (1, 5, 4) (by decide)) (by decide) ?_
  refine G_alen (ck dc2 (i := 42) rfl) (hp.lt (a := 4) (Nat.le_of_ble_eq_true rfl) (Nat.le_of_ble_eq_true rfl)) ly4 (by decide) ?_
  obtain ⟨o1, h⟩ := h
  refine G_icmp_ge (tgt := 89) (by decide) o1 (by decide) (ck dc2 (i := 43) rfl) (fun c => ?_) (fun c => ?_)
  · replace h := h.1 c
    exact H_vret mf2 (ck dc2 (i := 51) rfl) rfl h
  · replace h := h.2 c
    refine G_aload_n 0 rfl rfl (ck dc2 (i := 44) rfl) ?_
    refine H_getR mf2 (ck dc2 (i := 45) rfl) fw_Book_18 fc0_5 ly1 (hp.lt (a := 1) (Nat.le_of_ble_eq_true rfl) (Nat.le_of_ble_eq_true rfl)) (hp.2 (1, 5, 4) (by decide)) (by decide) ?_
    refine G_iload_n 1 rfl rfl (ck dc2 (i := 46) rfl) ?_
    refine G_lconst (v := 0) rfl (ck dc2 (i := 47) rfl) ?_
    obtain ⟨o2, h⟩ := h
    refine G_last (ck dc2 (i := 48) rfl) (hp.lt (a := 4) (Nat.le_of_ble_eq_true rfl) (Nat.le_of_ble_eq_true rfl)) ly4 (by decide) o2 ?_
    refine G_iinc (L' := [(2, .inl (l2 + 1)), (0, .inr (.inr 1))]) 1 rfl (mfx.lt mf2 (Nat.le_of_ble_eq_true rfl)) rfl (ck dc2 (i := 49) rfl) ?_
    refine G_goto (tgt := 67) (by decide) (ck dc2 (i := 50) rfl) ?_
    exact G_sub [1, 0] rfl h
theorem c_kp_begin (K : Nat) (ph : PH) (hp : phk_5 ph) (a1 : Int) (M : PM) (Q : Option PV → PM → Prop)
    (h : G none (K + 1) jBook_begin 19 [(0, .inr (.inr 5)), (2, .inl 0)] [] ph ph (mset (mset (mset M 5 0 a1) 5 1 10) 5 2 10) Q) : Call (K + 1) jBook_begin [.inr (.inr 5), .inl a1] ph ph M Q := by
  refine Call.intro (by decide +kernel) (mfx.le mf2 (Nat.le_of_ble_eq_true rfl)) (Nat.le_refl _) rfl ?_
  refine G_aload_n 0 rfl rfl (ck dc2 (i := 0) rfl) ?_
  refine G_iload_n 1 rfl rfl (ck dc2 (i := 1) rfl) ?_
  refine H_putI mf2 (ck dc2 (i := 2) rfl) fw_Book_26 fc0_0 ly5 (hp.lt (a := 5) (Nat.le_of_ble_eq_true rfl) (Nat.le_of_ble_eq_true rfl)) (Or.inl rfl) ?_
  refine G_aload_n 0 rfl rfl (ck dc2 (i := 3) rfl) ?_
  refine G_bipush (n := 10) rfl (ck dc2 (i := 4) rfl) ?_
  refine H_putI mf2 (ck dc2 (i := 5) rfl) fw_Book_30 fc0_1 ly5 (hp.lt (a := 5) (Nat.le_of_ble_eq_true rfl) (Nat.le_of_ble_eq_true rfl)) (Or.inl rfl) ?_
  refine G_aload_n 0 rfl rfl (ck dc2 (i := 6) rfl) ?_
  refine G_bipush (n := 10) rfl (ck dc2 (i := 7) rfl) ?_
  refine H_putI mf2 (ck dc2 (i := 8) rfl) fw_Book_33 fc0_2 ly5 (hp.lt (a := 5) (Nat.le_of_ble_eq_true rfl) (Nat.le_of_ble_eq_true rfl)) (Or.inl rfl) ?_
  refine G_iconst (ck dc2 (i := 9) rfl) ?_
  refine G_istore_n (L' := [(2, .inl 0), (0, .inr (.inr 5)), (1, .inl a1)]) rfl (mfx.lt mf2 (Nat.le_of_ble_eq_true rfl)) rfl (ck dc2 (i := 10) rfl) ?_
  exact G_sub [1, 0] rfl h
theorem g_kp_begin_19 (K : Nat) (ph : PH) (hp : phk_5 ph) (l2 : Int) (M : PM) (Q : Option PV → PM → Prop)
    (h : R32 l2 ∧ (5 ≤ l2 → G none (K + 1) jBook_begin 43 [(0, .inr (.inr 5)), (2, .inl 0)] [] ph ph M Q) ∧ (¬ 5 ≤ l2 → (0 ≤ l2 ∧ l2 < 5) ∧ G none (K + 1) jBook_begin 19 [(0, .inr (.inr 5)), (2, .inl (l2 + 1))] [] ph ph (mset M 6 l2 0) Q)) : G none (K + 1) jBook_begin 19 [(0, .inr (.inr 5)), (2, .inl l2)] [] ph ph M Q := by
  refine G_iload_n 1 rfl rfl (ck dc2 (i := 11) rfl) ?_
  refine G_aload_n 0 rfl rfl (ck dc2 (i := 12) rfl) ?_
  refine H_getR mf2 (ck dc2 (i := 13) rfl) fw_Book_9 fc0_3 ly5 (hp.lt (a := 5) (Nat.le_of_ble_eq_true rfl) (Nat.le_of_ble_eq_true rfl)) (hp.2 (5, 3, 6) (by decide)) (by decide) ?_
  refine G_alen (ck dc2 (i := 14) rfl) (hp.lt (a := 6) (Nat.le_of_ble_eq_true rfl) (Nat.le_of_ble_eq_true rfl)) ly6 (by decide) ?_
  obtain ⟨o1, h⟩ := h
  refine G_icmp_ge (tgt := 41) (by decide) o1 (by decide) (ck dc2 (i := 15) rfl) (fun c => ?_) (fun c => ?_)
  · replace h := h.1 c
    refine G_iconst (ck dc2 (i := 23) rfl) ?_
    refine G_istore_n (L' := [(2, .inl 0), (0, .inr (.inr 5))]) rfl (mfx.lt mf2 (Nat.le_of_ble_eq_true rfl)) rfl (ck dc2 (i := 24) rfl) ?_
    exact G_sub [1, 0] rfl h
  · replace h := h.2 c
    refine G_aload_n 0 rfl rfl (ck dc2 (i := 16) rfl) ?_
    refine H_getR mf2 (ck dc2 (i := 17) rfl) fw_Book_9 fc0_3 ly5 (hp.lt (a := 5) (Nat.le_of_ble_eq_true rfl) (Nat.le_of_ble_eq_true rfl)) (hp.2 (5, 3, 6) (by decide)) (by decide) ?_
    refine G_iload_n 1 rfl rfl (ck dc2 (i := 18) rfl) ?_
    refine G_iconst (ck dc2 (i := 19) rfl) ?_
    obtain ⟨o2, h⟩ := h
    refine G_iast (ck dc2 (i := 20) rfl) (hp.lt (a := 6) (Nat.le_of_ble_eq_true rfl) (Nat.le_of_ble_eq_true rfl)) ly6 (by decide) o2 ?_
    refine G_iinc (L' := [(2, .inl (l2 + 1)), (0, .inr (.inr 5))]) 1 rfl (mfx.lt mf2 (Nat.le_of_ble_eq_true rfl)) rfl (ck dc2 (i := 21) rfl) ?_
    refine G_goto (tgt := 19) (by decide) (ck dc2 (i := 22) rfl) ?_
    exact G_sub [1, 0] rfl h
theorem g_kp_begin_43 (K : Nat) (ph : PH) (hp : phk_5 ph) (l2 : Int) (M : PM) (Q : Option PV → PM → Prop)
    (h : R32 l2 ∧ (75 ≤ l2 → G none (K + 1) jBook_begin 67 [(0, .inr (.inr 5)), (2, .inl 0)] [] ph ph M Q) ∧ (¬ 75 ≤ l2 → (0 ≤ l2 ∧ l2 < 75) ∧ G none (K + 1) jBook_begin 43 [(0, .inr (.inr 5)), (2, .inl (l2 + 1))] [] ph ph (mset M 7 l2 0) Q)) : G none (K + 1) jBook_begin 43 [(0, .inr (.inr 5)), (2, .inl l2)] [] ph ph M Q := by
  refine G_iload_n 1 rfl rfl (ck dc2 (i := 25) rfl) ?_
  refine G_aload_n 0 rfl rfl (ck dc2 (i := 26) rfl) ?_
  refine H_getR mf2 (ck dc2 (i := 27) rfl) fw_Book_15 fc0_4 ly5 (hp.lt (a := 5) (Nat.le_of_ble_eq_true rfl) (Nat.le_of_ble_eq_true rfl)) (hp.2 (5, 4, 7) (by decide)) (by decide) ?_
  refine G_alen (ck dc2 (i := 28) rfl) (hp.lt (a := 7) (Nat.le_of_ble_eq_true rfl) (Nat.le_of_ble_eq_true rfl)) ly7 (by decide) ?_
  obtain ⟨o1, h⟩ := h
  refine G_icmp_ge (tgt := 65) (by decide) o1 (by decide) (ck dc2 (i := 29) rfl) (fun c => ?_) (fun c => ?_)
  · replace h := h.1 c
    refine G_iconst (ck dc2 (i := 37) rfl) ?_
    refine G_istore_n (L' := [(2, .inl 0), (0, .inr (.inr 5))]) rfl (mfx.lt mf2 (Nat.le_of_ble_eq_true rfl)) rfl (ck dc2 (i := 38) rfl) ?_
    exact G_sub [1, 0] rfl h
  · replace h := h.2 c
    refine G_aload_n 0 rfl rfl (ck dc2 (i := 30) rfl) ?_
    refine H_getR mf2 (ck dc2 (i := 31) rfl) fw_Book_15 fc0_4 ly5 (hp.lt (a := 5) (Nat.le_of_ble_eq_true rfl) (Nat.le_of_ble_eq_true rfl)) (hp.2 (5, 4, 7) (by decide)) (by decide) ?_
    refine G_iload_n 1 rfl rfl (ck dc2 (i := 32) rfl) ?_
    refine G_iconst (ck dc2 (i := 33) rfl) ?_
    obtain ⟨o2, h⟩ := h
    refine G_iast (ck dc2 (i := 34) rfl) (hp.lt (a := 7) (Nat.le_of_ble_eq_true rfl) (Nat.le_of_ble_eq_true rfl)) ly7 (by decide) o2 ?_
    refine G_iinc (L' := [(2, .inl (l2 + 1)), (0, .inr (.inr 5))]) 1 rfl (mfx.lt mf2 (Nat.le_of_ble_eq_true rfl)) rfl (ck dc2 (i := 35) rfl) ?_
    refine G_goto (tgt := 43) (by decide) (ck dc2 (i := 36) rfl) ?_
    exact G_sub [1, 0] rfl h
theorem g_kp_begin_67 (K : Nat) (ph : PH) (hp : phk_5 ph) (l2 : Int) (M : PM) (Q : Option PV → PM → Prop)
    (h : R32 l2 ∧ (45 ≤ l2 → Q none M) ∧ (¬ 45 ≤ l2 → (0 ≤ l2 ∧ l2 < 45) ∧ G none (K + 1) jBook_begin 67 [(0, .inr (.inr 5)), (2, .inl (l2 + 1))] [] ph ph (mset M 8 l2 0) Q)) : G none (K + 1) jBook_begin 67 [(0, .inr (.inr 5)), (2, .inl l2)] [] ph ph M Q := by
  refine G_iload_n 1 rfl rfl (ck dc2 (i := 39) rfl) ?_
  refine G_aload_n 0 rfl rfl (ck dc2 (i := 40) rfl) ?_
  refine H_getR mf2 (ck dc2 (i := 41) rfl) fw_Book_18 fc0_5 ly5 (hp.lt (a := 5) (Nat.le_of_ble_eq_true rfl) (Nat.le_of_ble_eq_true rfl)) (hp.2 (5, 5, 8) (by decide)) (by decide) ?_
  refine G_alen (ck dc2 (i := 42) rfl) (hp.lt (a := 8) (Nat.le_of_ble_eq_true rfl) (Nat.le_of_ble_eq_true rfl)) ly8 (by decide) ?_
  obtain ⟨o1, h⟩ := h
  refine G_icmp_ge (tgt := 89) (by decide) o1 (by decide) (ck dc2 (i := 43) rfl) (fun c => ?_) (fun c => ?_)
  · replace h := h.1 c
    exact H_vret mf2 (ck dc2 (i := 51) rfl) rfl h
  · replace h := h.2 c
    refine G_aload_n 0 rfl rfl (ck dc2 (i := 44) rfl) ?_
    refine H_getR mf2 (ck dc2 (i := 45) rfl) fw_Book_18 fc0_5 ly5 (hp.lt (a := 5) (Nat.le_of_ble_eq_true rfl) (Nat.le_of_ble_eq_true rfl)) (hp.2 (5, 5, 8) (by decide)) (by decide) ?_
    refine G_iload_n 1 rfl rfl (ck dc2 (i := 46) rfl) ?_
    refine G_lconst (v := 0) rfl (ck dc2 (i := 47) rfl) ?_
    obtain ⟨o2, h⟩ := h
    refine G_last (ck dc2 (i := 48) rfl) (hp.lt (a := 8) (Nat.le_of_ble_eq_true rfl) (Nat.le_of_ble_eq_true rfl)) ly8 (by decide) o2 ?_
    refine G_iinc (L' := [(2, .inl (l2 + 1)), (0, .inr (.inr 5))]) 1 rfl (mfx.lt mf2 (Nat.le_of_ble_eq_true rfl)) rfl (ck dc2 (i := 49) rfl) ?_
    refine G_goto (tgt := 67) (by decide) (ck dc2 (i := 50) rfl) ?_
    exact G_sub [1, 0] rfl h
theorem c_bk_amount (K : Nat) (ph : PH) (hp : phk_1 ph) (a1 a2 a3 : Int) (M : PM) (Q : Option PV → PM → Prop)
    (h : (0 ≤ ((((a1 * 5) + a2) * 3) + a3) ∧ ((((a1 * 5) + a2) * 3) + a3) < 75) ∧ Q (some (.inl (M 3 ((((a1 * 5) + a2) * 3) + a3)))) M) : Call (K + 1) jBook_amount [.inr (.inr 1), .inl a1, .inl a2, .inl a3] ph ph M Q := by
  refine Call.intro (by decide +kernel) (mfx.le mf7 (Nat.le_of_ble_eq_true rfl)) (Nat.le_refl _) rfl ?_
  refine G_aload_n 0 rfl rfl (ck dc7 (i := 0) rfl) ?_
  refine H_getR mf7 (ck dc7 (i := 1) rfl) fw_Book_15 fc0_4 ly1 (hp.lt (a := 1) (Nat.le_of_ble_eq_true rfl) (Nat.le_of_ble_eq_true rfl)) (hp.2 (1, 4, 3) (by decide)) (by decide) ?_
  refine G_iload_n 1 rfl rfl (ck dc7 (i := 2) rfl) ?_
  refine G_iconst (ck dc7 (i := 3) rfl) ?_
  refine G_imul (ck dc7 (i := 4) rfl) ?_
  refine G_iload_n 2 rfl rfl (ck dc7 (i := 5) rfl) ?_
  refine G_iadd (ck dc7 (i := 6) rfl) ?_
  refine G_iconst (ck dc7 (i := 7) rfl) ?_
  refine G_imul (ck dc7 (i := 8) rfl) ?_
  refine G_iload_n 3 rfl rfl (ck dc7 (i := 9) rfl) ?_
  refine G_iadd (ck dc7 (i := 10) rfl) ?_
  obtain ⟨o1, h⟩ := h
  refine H_iald (ck dc7 (i := 11) rfl) ly3 (by decide) (hp.lt (a := 3) (Nat.le_of_ble_eq_true rfl) (Nat.le_of_ble_eq_true rfl)) o1 (x := (M 3 ((((a1 * 5) + a2) * 3) + a3))) rfl ?_
  exact H_iretI mf7 (ck dc7 (i := 12) rfl) rfl h
theorem c_bk_dueIn (K : Nat) (ph : PH) (hp : phk_1 ph) (a1 a2 : Int) (M : PM) (Q : Option PV → PM → Prop)
    (h : G none (K + 1) jBook_dueIn 5 [(0, .inr (.inr 1)), (1, .inl a1), (2, .inl a2), (3, .inl 0), (4, .inl 0)] [] ph ph M Q) : Call (K + 1) jBook_dueIn [.inr (.inr 1), .inl a1, .inl a2] ph ph M Q := by
  refine Call.intro (by decide +kernel) (mfx.le mf6 (Nat.le_of_ble_eq_true rfl)) (Nat.le_refl _) rfl ?_
  refine G_iconst (ck dc6 (i := 0) rfl) ?_
  refine G_istore_n (L' := [(3, .inl 0), (0, .inr (.inr 1)), (1, .inl a1), (2, .inl a2)]) rfl (mfx.lt mf6 (Nat.le_of_ble_eq_true rfl)) rfl (ck dc6 (i := 1) rfl) ?_
  refine G_iconst (ck dc6 (i := 2) rfl) ?_
  refine G_istore (L' := [(4, .inl 0), (3, .inl 0), (0, .inr (.inr 1)), (1, .inl a1), (2, .inl a2)]) (mfx.lt mf6 (Nat.le_of_ble_eq_true rfl)) rfl (ck dc6 (i := 3) rfl) ?_
  exact G_sub [2, 3, 4, 1, 0] rfl h
theorem g_bk_dueIn_5 (K : Nat) (ph : PH) (hp : phk_1 ph) (l1 l2 l3 l4 : Int) (M : PM) (Q : Option PV → PM → Prop)
    (h : R32 l4 ∧ R32 (M 1 0) ∧ ((M 1 0) ≤ l4 → Q (some (.inl l3)) M) ∧ (¬ (M 1 0) ≤ l4 → Call K jBook_amount [.inr (.inr 1), .inl l1, .inl l4, .inl l2] ph ph M (retI fun r3 M4 => G none (K + 1) jBook_dueIn 5 [(0, .inr (.inr 1)), (1, .inl l1), (2, .inl l2), (3, .inl (l3 + r3)), (4, .inl (l4 + 1))] [] ph ph M4 Q))) : G none (K + 1) jBook_dueIn 5 [(0, .inr (.inr 1)), (1, .inl l1), (2, .inl l2), (3, .inl l3), (4, .inl l4)] [] ph ph M Q := by
  refine G_iload 4 rfl (ck dc6 (i := 4) rfl) ?_
  refine G_aload_n 0 rfl rfl (ck dc6 (i := 5) rfl) ?_
  refine H_getI mf6 (ck dc6 (i := 6) rfl) fw_Book_26 (Or.inl fc0_0) ly1 (hp.lt (a := 1) (Nat.le_of_ble_eq_true rfl) (Nat.le_of_ble_eq_true rfl)) (x := (M 1 0)) rfl ?_
  obtain ⟨o1, h⟩ := h
  obtain ⟨o2, h⟩ := h
  refine G_icmp_ge (tgt := 31) (by decide) o1 o2 (ck dc6 (i := 7) rfl) (fun c => ?_) (fun c => ?_)
  · replace h := h.1 c
    refine G_iload_n 3 rfl rfl (ck dc6 (i := 18) rfl) ?_
    exact H_iretI mf6 (ck dc6 (i := 19) rfl) rfl h
  · replace h := h.2 c
    refine G_iload_n 3 rfl rfl (ck dc6 (i := 8) rfl) ?_
    refine G_aload_n 0 rfl rfl (ck dc6 (i := 9) rfl) ?_
    refine G_iload_n 1 rfl rfl (ck dc6 (i := 10) rfl) ?_
    refine G_iload 4 rfl (ck dc6 (i := 11) rfl) ?_
    refine G_iload_n 2 rfl rfl (ck dc6 (i := 12) rfl) ?_
    refine H_vI mf6 (As := [.inl l1, .inl l4, .inl l2]) (st := [.inl l3]) (ck dc6 (i := 13) rfl) lk_Book_53 rfl rfl (Nat.le_of_ble_eq_true rfl) ly1 (hp.lt (a := 1) (Nat.le_of_ble_eq_true rfl) (Nat.le_of_ble_eq_true rfl)) ⟨Nat.le_refl _, Nat.le_refl _⟩ h (fun r3 M4 h => ?_)
    refine G_iadd (ck dc6 (i := 14) rfl) ?_
    refine G_istore_n (L' := [(3, .inl (l3 + r3)), (0, .inr (.inr 1)), (1, .inl l1), (2, .inl l2), (4, .inl l4)]) rfl (mfx.lt mf6 (Nat.le_of_ble_eq_true rfl)) rfl (ck dc6 (i := 15) rfl) ?_
    refine G_iinc (L' := [(4, .inl (l4 + 1)), (3, .inl (l3 + r3)), (0, .inr (.inr 1)), (1, .inl l1), (2, .inl l2)]) 4 rfl (mfx.lt mf6 (Nat.le_of_ble_eq_true rfl)) rfl (ck dc6 (i := 16) rfl) ?_
    refine G_goto (tgt := 5) (by decide) (ck dc6 (i := 17) rfl) ?_
    exact G_sub [2, 3, 4, 1, 0] rfl h
theorem c_bk_hasHouse (K : Nat) (a1 : Int) (M : PM) (Q : Option PV → PM → Prop)
    (h : R32 a1 ∧ (a1 < 0 → Q (some (.inl 0)) M) ∧ (¬ a1 < 0 → R32 (M 1 0) ∧ ((M 1 0) ≤ a1 → Q (some (.inl 0)) M) ∧ (¬ (M 1 0) ≤ a1 → Q (some (.inl 1)) M))) : Call (K + 1) jBook_hasHouse [.inr (.inr 1), .inl a1] P0 P0 M Q := by
  refine Call.intro (by decide +kernel) (mfx.le mf19 (Nat.le_of_ble_eq_true rfl)) (Nat.le_refl _) rfl ?_
  refine G_iload_n 1 rfl rfl (ck dc19 (i := 0) rfl) ?_
  obtain ⟨o1, h⟩ := h
  refine G_if_lt (tgt := 16) (by decide) o1 (ck dc19 (i := 1) rfl) (fun c => ?_) (fun c => ?_)
  · replace h := h.1 c
    refine G_iconst (ck dc19 (i := 8) rfl) ?_
    exact H_iretZ mf19 (ck dc19 (i := 9) rfl) rfl (Or.inl rfl) h
  · replace h := h.2 c
    refine G_iload_n 1 rfl rfl (ck dc19 (i := 2) rfl) ?_
    refine G_aload_n 0 rfl rfl (ck dc19 (i := 3) rfl) ?_
    refine H_getI mf19 (ck dc19 (i := 4) rfl) fw_Book_26 (Or.inl fc0_0) ly1 ra1 (x := (M 1 0)) rfl ?_
    obtain ⟨o2, h⟩ := h
    refine G_icmp_ge (tgt := 16) (by decide) o1 o2 (ck dc19 (i := 5) rfl) (fun c => ?_) (fun c => ?_)
    · replace h := h.1 c
      refine G_iconst (ck dc19 (i := 8) rfl) ?_
      exact H_iretZ mf19 (ck dc19 (i := 9) rfl) rfl (Or.inl rfl) h
    · replace h := h.2 c
      refine G_iconst (ck dc19 (i := 6) rfl) ?_
      refine G_goto (tgt := 17) (by decide) (ck dc19 (i := 7) rfl) ?_
      exact H_iretZ mf19 (ck dc19 (i := 9) rfl) rfl (Or.inr rfl) h
theorem c_bk_hasClass (K : Nat) (a1 : Int) (M : PM) (Q : Option PV → PM → Prop)
    (h : R32 a1 ∧ (a1 < 0 → Q (some (.inl 0)) M) ∧ (¬ a1 < 0 → (3 ≤ a1 → Q (some (.inl 0)) M) ∧ (¬ 3 ≤ a1 → Q (some (.inl 1)) M))) : Call (K + 1) jBook_hasClass [.inr (.inr 1), .inl a1] P0 P0 M Q := by
  refine Call.intro (by decide +kernel) (mfx.le mf23 (Nat.le_of_ble_eq_true rfl)) (Nat.le_refl _) rfl ?_
  refine G_iload_n 1 rfl rfl (ck dc23 (i := 0) rfl) ?_
  obtain ⟨o1, h⟩ := h
  refine G_if_lt (tgt := 13) (by decide) o1 (ck dc23 (i := 1) rfl) (fun c => ?_) (fun c => ?_)
  · replace h := h.1 c
    refine G_iconst (ck dc23 (i := 7) rfl) ?_
    exact H_iretZ mf23 (ck dc23 (i := 8) rfl) rfl (Or.inl rfl) h
  · replace h := h.2 c
    refine G_iload_n 1 rfl rfl (ck dc23 (i := 2) rfl) ?_
    refine G_iconst (ck dc23 (i := 3) rfl) ?_
    refine G_icmp_ge (tgt := 13) (by decide) o1 (by decide) (ck dc23 (i := 4) rfl) (fun c => ?_) (fun c => ?_)
    · replace h := h.1 c
      refine G_iconst (ck dc23 (i := 7) rfl) ?_
      exact H_iretZ mf23 (ck dc23 (i := 8) rfl) rfl (Or.inl rfl) h
    · replace h := h.2 c
      refine G_iconst (ck dc23 (i := 5) rfl) ?_
      refine G_goto (tgt := 14) (by decide) (ck dc23 (i := 6) rfl) ?_
      exact H_iretZ mf23 (ck dc23 (i := 8) rfl) rfl (Or.inr rfl) h
theorem c_bk_hasPart (K : Nat) (a1 a2 : Int) (M : PM) (Q : Option PV → PM → Prop)
    (h : Call K jBook_hasHouse [.inr (.inr 1), .inl a1] P0 P0 M (retI fun r1 M2 => R32 r1 ∧ (r1 = 0 → Q (some (.inl 0)) M2) ∧ (¬ r1 = 0 → Call K jBook_hasClass [.inr (.inr 1), .inl a2] P0 P0 M2 (retI fun r4 M5 => R32 r4 ∧ (r4 = 0 → Q (some (.inl 0)) M5) ∧ (¬ r4 = 0 → Q (some (.inl 1)) M5))))) : Call (K + 1) jBook_hasPart [.inr (.inr 1), .inl a1, .inl a2] P0 P0 M Q := by
  refine Call.intro (by decide +kernel) (mfx.le mf22 (Nat.le_of_ble_eq_true rfl)) (Nat.le_refl _) rfl ?_
  refine G_aload_n 0 rfl rfl (ck dc22 (i := 0) rfl) ?_
  refine G_iload_n 1 rfl rfl (ck dc22 (i := 1) rfl) ?_
  refine H_vZ mf22 (As := [.inl a1]) (st := []) (ck dc22 (i := 2) rfl) lk_Book_42 rfl rfl (Nat.le_of_ble_eq_true rfl) ly1 ra1 ⟨Nat.le_refl _, Nat.le_refl _⟩ h (fun r1 M2 h => ?_)
  obtain ⟨o3, h⟩ := h
  refine G_if_eq (tgt := 20) (by decide) o3 (ck dc22 (i := 3) rfl) (fun c => ?_) (fun c => ?_)
  · replace h := h.1 c
    refine G_iconst (ck dc22 (i := 10) rfl) ?_
    exact H_iretZ mf22 (ck dc22 (i := 11) rfl) rfl (Or.inl rfl) h
  · replace h := h.2 c
    refine G_aload_n 0 rfl rfl (ck dc22 (i := 4) rfl) ?_
    refine G_iload_n 2 rfl rfl (ck dc22 (i := 5) rfl) ?_
    refine H_vZ mf22 (As := [.inl a2]) (st := []) (ck dc22 (i := 6) rfl) lk_Book_46 rfl rfl (Nat.le_of_ble_eq_true rfl) ly1 ra1 ⟨Nat.le_refl _, Nat.le_refl _⟩ h (fun r4 M5 h => ?_)
    obtain ⟨o6, h⟩ := h
    refine G_if_eq (tgt := 20) (by decide) o6 (ck dc22 (i := 7) rfl) (fun c => ?_) (fun c => ?_)
    · replace h := h.1 c
      refine G_iconst (ck dc22 (i := 10) rfl) ?_
      exact H_iretZ mf22 (ck dc22 (i := 11) rfl) rfl (Or.inl rfl) h
    · replace h := h.2 c
      refine G_iconst (ck dc22 (i := 8) rfl) ?_
      refine G_goto (tgt := 21) (by decide) (ck dc22 (i := 9) rfl) ?_
      exact H_iretZ mf22 (ck dc22 (i := 11) rfl) rfl (Or.inr rfl) h
theorem c_bk_hasDebt (K : Nat) (a1 a2 a3 : Int) (M : PM) (Q : Option PV → PM → Prop)
    (h : Call K jBook_hasPart [.inr (.inr 1), .inl a1, .inl a3] P0 P0 M (retI fun r1 M2 => R32 r1 ∧ (r1 = 0 → Q (some (.inl 0)) M2) ∧ (¬ r1 = 0 → Call K jBook_hasHouse [.inr (.inr 1), .inl a2] P0 P0 M2 (retI fun r4 M5 => R32 r4 ∧ (r4 = 0 → Q (some (.inl 0)) M5) ∧ (¬ r4 = 0 → R32 a1 ∧ R32 a2 ∧ (a1 = a2 → Q (some (.inl 0)) M5) ∧ (¬ a1 = a2 → Q (some (.inl 1)) M5)))))) : Call (K + 1) jBook_hasDebt [.inr (.inr 1), .inl a1, .inl a2, .inl a3] P0 P0 M Q := by
  refine Call.intro (by decide +kernel) (mfx.le mf21 (Nat.le_of_ble_eq_true rfl)) (Nat.le_refl _) rfl ?_
  refine G_aload_n 0 rfl rfl (ck dc21 (i := 0) rfl) ?_
  refine G_iload_n 1 rfl rfl (ck dc21 (i := 1) rfl) ?_
  refine G_iload_n 3 rfl rfl (ck dc21 (i := 2) rfl) ?_
  refine H_vZ mf21 (As := [.inl a1, .inl a3]) (st := []) (ck dc21 (i := 3) rfl) lk_Book_49 rfl rfl (Nat.le_of_ble_eq_true rfl) ly1 ra1 ⟨Nat.le_refl _, Nat.le_refl _⟩ h (fun r1 M2 h => ?_)
  obtain ⟨o3, h⟩ := h
  refine G_if_eq (tgt := 26) (by decide) o3 (ck dc21 (i := 4) rfl) (fun c => ?_) (fun c => ?_)
  · replace h := h.1 c
    refine G_iconst (ck dc21 (i := 14) rfl) ?_
    exact H_iretZ mf21 (ck dc21 (i := 15) rfl) rfl (Or.inl rfl) h
  · replace h := h.2 c
    refine G_aload_n 0 rfl rfl (ck dc21 (i := 5) rfl) ?_
    refine G_iload_n 2 rfl rfl (ck dc21 (i := 6) rfl) ?_
    refine H_vZ mf21 (As := [.inl a2]) (st := []) (ck dc21 (i := 7) rfl) lk_Book_42 rfl rfl (Nat.le_of_ble_eq_true rfl) ly1 ra1 ⟨Nat.le_refl _, Nat.le_refl _⟩ h (fun r4 M5 h => ?_)
    obtain ⟨o6, h⟩ := h
    refine G_if_eq (tgt := 26) (by decide) o6 (ck dc21 (i := 8) rfl) (fun c => ?_) (fun c => ?_)
    · replace h := h.1 c
      refine G_iconst (ck dc21 (i := 14) rfl) ?_
      exact H_iretZ mf21 (ck dc21 (i := 15) rfl) rfl (Or.inl rfl) h
    · replace h := h.2 c
      refine G_iload_n 1 rfl rfl (ck dc21 (i := 9) rfl) ?_
      refine G_iload_n 2 rfl rfl (ck dc21 (i := 10) rfl) ?_
      obtain ⟨o7, h⟩ := h
      obtain ⟨o8, h⟩ := h
      refine G_icmp_eq (tgt := 26) (by decide) o7 o8 (ck dc21 (i := 11) rfl) (fun c => ?_) (fun c => ?_)
      · replace h := h.1 c
        refine G_iconst (ck dc21 (i := 14) rfl) ?_
        exact H_iretZ mf21 (ck dc21 (i := 15) rfl) rfl (Or.inl rfl) h
      · replace h := h.2 c
        refine G_iconst (ck dc21 (i := 12) rfl) ?_
        refine G_goto (tgt := 27) (by decide) (ck dc21 (i := 13) rfl) ?_
        exact H_iretZ mf21 (ck dc21 (i := 15) rfl) rfl (Or.inr rfl) h
theorem c_bk_put (K : Nat) (a1 a2 a3 a4 : Int) (M : PM) (Q : Option PV → PM → Prop)
    (h : (0 ≤ ((((a1 * 5) + a2) * 3) + a3) ∧ ((((a1 * 5) + a2) * 3) + a3) < 75) ∧ Q none (mset M 3 ((((a1 * 5) + a2) * 3) + a3) a4)) : Call (K + 1) jBook_put [.inr (.inr 1), .inl a1, .inl a2, .inl a3, .inl a4] P0 P0 M Q := by
  refine Call.intro (by decide +kernel) (mfx.le mf24 (Nat.le_of_ble_eq_true rfl)) (Nat.le_refl _) rfl ?_
  refine G_aload_n 0 rfl rfl (ck dc24 (i := 0) rfl) ?_
  refine H_getR mf24 (ck dc24 (i := 1) rfl) fw_Book_15 fc0_4 ly1 ra1 rf1_4 (by decide) ?_
  refine G_iload_n 1 rfl rfl (ck dc24 (i := 2) rfl) ?_
  refine G_iconst (ck dc24 (i := 3) rfl) ?_
  refine G_imul (ck dc24 (i := 4) rfl) ?_
  refine G_iload_n 2 rfl rfl (ck dc24 (i := 5) rfl) ?_
  refine G_iadd (ck dc24 (i := 6) rfl) ?_
  refine G_iconst (ck dc24 (i := 7) rfl) ?_
  refine G_imul (ck dc24 (i := 8) rfl) ?_
  refine G_iload_n 3 rfl rfl (ck dc24 (i := 9) rfl) ?_
  refine G_iadd (ck dc24 (i := 10) rfl) ?_
  refine G_iload 4 rfl (ck dc24 (i := 11) rfl) ?_
  obtain ⟨o1, h⟩ := h
  refine G_iast (ck dc24 (i := 12) rfl) ra3 ly3 (by decide) o1 ?_
  exact H_vret mf24 (ck dc24 (i := 13) rfl) rfl h
theorem c_ta_add (K : Nat) (a1 : Int) (M : PM) (Q : Option PV → PM → Prop)
    (h : R32 (M 45 0) ∧ ((M 45 0) < 120 → (0 ≤ (M 45 0) ∧ (M 45 0) < 120) ∧ Q (some (.inl 1)) (mset (mset M 46 (M 45 0) a1) 45 0 ((M 45 0) + 1))) ∧ (¬ (M 45 0) < 120 → Q (some (.inl 0)) M)) : Call (K + 1) jTape_add [.inr (.inr 45), .inl a1] P0 P0 M Q := by
  refine Call.intro (by decide +kernel) (mfx.le mf30 (Nat.le_of_ble_eq_true rfl)) (Nat.le_refl _) rfl ?_
  refine G_aload_n 0 rfl rfl (ck dc30 (i := 0) rfl) ?_
  refine H_getI mf30 (ck dc30 (i := 1) rfl) fw_Tape_15 (Or.inl fc7_0) ly45 ra45 (x := (M 45 0)) rfl ?_
  refine G_bipush (n := 120) rfl (ck dc30 (i := 2) rfl) ?_
  obtain ⟨o1, h⟩ := h
  refine G_icmp_lt (tgt := 11) (by decide) o1 (by decide) (ck dc30 (i := 3) rfl) (fun c => ?_) (fun c => ?_)
  · replace h := h.1 c
    refine G_aload_n 0 rfl rfl (ck dc30 (i := 6) rfl) ?_
    refine H_getR mf30 (ck dc30 (i := 7) rfl) fw_Tape_11 fc7_1 ly45 ra45 rf45_1 (by decide) ?_
    refine G_aload_n 0 rfl rfl (ck dc30 (i := 8) rfl) ?_
    refine H_getI mf30 (ck dc30 (i := 9) rfl) fw_Tape_15 (Or.inl fc7_0) ly45 ra45 (x := (M 45 0)) rfl ?_
    refine G_iload_n 1 rfl rfl (ck dc30 (i := 10) rfl) ?_
    obtain ⟨o2, h⟩ := h
    refine G_iast (ck dc30 (i := 11) rfl) ra46 ly46 (by decide) o2 ?_
    refine G_aload_n 0 rfl rfl (ck dc30 (i := 12) rfl) ?_
    refine G_dup rfl (ck dc30 (i := 13) rfl) ?_
    refine H_getI mf30 (ck dc30 (i := 14) rfl) fw_Tape_15 (Or.inl fc7_0) ly45 ra45 (x := (M 45 0)) (by simp [mset, mcpy, mclr]) ?_
    refine G_iconst (ck dc30 (i := 15) rfl) ?_
    refine G_iadd (ck dc30 (i := 16) rfl) ?_
    refine H_putI mf30 (ck dc30 (i := 17) rfl) fw_Tape_15 fc7_0 ly45 ra45 (Or.inl rfl) ?_
    refine G_iconst (ck dc30 (i := 18) rfl) ?_
    exact H_iretZ mf30 (ck dc30 (i := 19) rfl) rfl (Or.inr rfl) h
  · replace h := h.2 c
    refine G_iconst (ck dc30 (i := 4) rfl) ?_
    exact H_iretZ mf30 (ck dc30 (i := 5) rfl) rfl (Or.inl rfl) h
theorem c_ta_empty (K : Nat) (M : PM) (Q : Option PV → PM → Prop)
    (h : Q (some (.inl (M 45 0))) (mset M 45 0 0)) : Call (K + 1) jTape_empty [.inr (.inr 45)] P0 P0 M Q := by
  refine Call.intro (by decide +kernel) (mfx.le mf32 (Nat.le_of_ble_eq_true rfl)) (Nat.le_refl _) rfl ?_
  refine G_aload_n 0 rfl rfl (ck dc32 (i := 0) rfl) ?_
  refine H_getI mf32 (ck dc32 (i := 1) rfl) fw_Tape_15 (Or.inl fc7_0) ly45 ra45 (x := (M 45 0)) rfl ?_
  refine G_istore_n (L' := [(1, .inl (M 45 0)), (0, .inr (.inr 45))]) rfl (mfx.lt mf32 (Nat.le_of_ble_eq_true rfl)) rfl (ck dc32 (i := 2) rfl) ?_
  refine G_aload_n 1 rfl rfl (ck dc32 (i := 3) rfl) ?_
  refine G_iconst (ck dc32 (i := 4) rfl) ?_
  refine H_putI mf32 (ck dc32 (i := 5) rfl) fw_Tape_15 fc7_0 ly45 ra45 (Or.inl rfl) ?_
  refine G_iload_n 0 rfl rfl (ck dc32 (i := 6) rfl) ?_
  exact H_iretI mf32 (ck dc32 (i := 7) rfl) rfl h
set_option maxHeartbeats 20000000 in
theorem c_ta_house (K : Nat) (M : PM) (Q : Option PV → PM → Prop)
    (h : R32 (M 45 2) ∧ R32 (M 45 0) ∧ ((M 45 0) ≤ (M 45 2) → Call K jBook_hasHouse [.inr (.inr 1), .inl (-1)] P0 P0 M (retI fun r3 M4 => R32 r3 ∧ (r3 = 0 → Q (some (.inl (-1))) M4) ∧ (¬ r3 = 0 → Q (some (.inl (-1))) M4))) ∧ (¬ (M 45 0) ≤ (M 45 2) → (0 ≤ (M 45 2) ∧ (M 45 2) < 120) ∧ Call K jBook_hasHouse [.inr (.inr 1), .inl ((M 46 (M 45 2)) - 97)] P0 P0 M (retI fun r7 M8 => R32 r7 ∧ (r7 = 0 → Q (some (.inl (-1))) M8) ∧ (¬ r7 = 0 → Q (some (.inl ((M 46 (M 45 2)) - 97))) M8)))) : Call (K + 1) jTape_house [.inr (.inr 45), .inr (.inr 1)] P0 P0 M Q := by
  refine Call.intro (by decide +kernel) (mfx.le mf36 (Nat.le_of_ble_eq_true rfl)) (Nat.le_refl _) rfl ?_
  refine G_aload_n 0 rfl rfl (ck dc36 (i := 0) rfl) ?_
  refine H_getI mf36 (ck dc36 (i := 1) rfl) fw_Tape_19 (Or.inl fc7_2) ly45 ra45 (x := (M 45 2)) rfl ?_
  refine G_aload_n 0 rfl rfl (ck dc36 (i := 2) rfl) ?_
  refine H_getI mf36 (ck dc36 (i := 3) rfl) fw_Tape_15 (Or.inl fc7_0) ly45 ra45 (x := (M 45 0)) rfl ?_
  obtain ⟨o1, h⟩ := h
  obtain ⟨o2, h⟩ := h
  refine G_icmp_ge (tgt := 26) (by decide) o1 o2 (ck dc36 (i := 4) rfl) (fun c => ?_) (fun c => ?_)
  · replace h := h.1 c
    refine G_iconst (ck dc36 (i := 13) rfl) ?_
    refine G_istore_n (L' := [(2, .inl (-1)), (0, .inr (.inr 45)), (1, .inr (.inr 1))]) rfl (mfx.lt mf36 (Nat.le_of_ble_eq_true rfl)) rfl (ck dc36 (i := 14) rfl) ?_
    refine G_aload_n 2 rfl rfl (ck dc36 (i := 15) rfl) ?_
    refine G_iload_n 0 rfl rfl (ck dc36 (i := 16) rfl) ?_
    refine H_vZ mf36 (As := [.inl (-1)]) (st := []) (ck dc36 (i := 17) rfl) lk_Tape_47 rfl rfl (Nat.le_of_ble_eq_true rfl) ly1 ra1 ⟨Nat.le_refl _, Nat.le_refl _⟩ h (fun r3 M4 h => ?_)
    obtain ⟨o5, h⟩ := h
    refine G_if_eq (tgt := 40) (by decide) o5 (ck dc36 (i := 18) rfl) (fun c => ?_) (fun c => ?_)
    · replace h := h.1 c
      refine G_iconst (ck dc36 (i := 21) rfl) ?_
      exact H_iretI mf36 (ck dc36 (i := 22) rfl) rfl h
    · replace h := h.2 c
      refine G_iload_n 0 rfl rfl (ck dc36 (i := 19) rfl) ?_
      refine G_goto (tgt := 41) (by decide) (ck dc36 (i := 20) rfl) ?_
      exact H_iretI mf36 (ck dc36 (i := 22) rfl) rfl h
  · replace h := h.2 c
    refine G_aload_n 0 rfl rfl (ck dc36 (i := 5) rfl) ?_
    refine H_getR mf36 (ck dc36 (i := 6) rfl) fw_Tape_11 fc7_1 ly45 ra45 rf45_1 (by decide) ?_
    refine G_aload_n 0 rfl rfl (ck dc36 (i := 7) rfl) ?_
    refine H_getI mf36 (ck dc36 (i := 8) rfl) fw_Tape_19 (Or.inl fc7_2) ly45 ra45 (x := (M 45 2)) rfl ?_
    obtain ⟨o6, h⟩ := h
    refine H_iald (ck dc36 (i := 9) rfl) ly46 (by decide) ra46 o6 (x := (M 46 (M 45 2))) rfl ?_
    refine G_bipush (n := 97) rfl (ck dc36 (i := 10) rfl) ?_
    refine G_isub (ck dc36 (i := 11) rfl) ?_
    refine G_goto (tgt := 27) (by decide) (ck dc36 (i := 12) rfl) ?_
    refine G_istore_n (L' := [(2, .inl ((M 46 (M 45 2)) - 97)), (0, .inr (.inr 45)), (1, .inr (.inr 1))]) rfl (mfx.lt mf36 (Nat.le_of_ble_eq_true rfl)) rfl (ck dc36 (i := 14) rfl) ?_
    refine G_aload_n 2 rfl rfl (ck dc36 (i := 15) rfl) ?_
    refine G_iload_n 0 rfl rfl (ck dc36 (i := 16) rfl) ?_
    refine H_vZ mf36 (As := [.inl ((M 46 (M 45 2)) - 97)]) (st := []) (ck dc36 (i := 17) rfl) lk_Tape_47 rfl rfl (Nat.le_of_ble_eq_true rfl) ly1 ra1 ⟨Nat.le_refl _, Nat.le_refl _⟩ h (fun r7 M8 h => ?_)
    obtain ⟨o9, h⟩ := h
    refine G_if_eq (tgt := 40) (by decide) o9 (ck dc36 (i := 18) rfl) (fun c => ?_) (fun c => ?_)
    · replace h := h.1 c
      refine G_iconst (ck dc36 (i := 21) rfl) ?_
      exact H_iretI mf36 (ck dc36 (i := 22) rfl) rfl h
    · replace h := h.2 c
      refine G_iload_n 0 rfl rfl (ck dc36 (i := 19) rfl) ?_
      refine G_goto (tgt := 41) (by decide) (ck dc36 (i := 20) rfl) ?_
      exact H_iretI mf36 (ck dc36 (i := 22) rfl) rfl h
theorem c_ta_isNext (K : Nat) (a1 : Int) (M : PM) (Q : Option PV → PM → Prop)
    (h : R32 (M 45 2) ∧ R32 (M 45 0) ∧ ((M 45 0) ≤ (M 45 2) → Q (some (.inl 0)) M) ∧ (¬ (M 45 0) ≤ (M 45 2) → (0 ≤ (M 45 2) ∧ (M 45 2) < 120) ∧ R32 (M 46 (M 45 2)) ∧ R32 a1 ∧ (¬ (M 46 (M 45 2)) = a1 → Q (some (.inl 0)) M) ∧ ((M 46 (M 45 2)) = a1 → Q (some (.inl 1)) M))) : Call (K + 1) jTape_isNext [.inr (.inr 45), .inl a1] P0 P0 M Q := by
  refine Call.intro (by decide +kernel) (mfx.le mf37 (Nat.le_of_ble_eq_true rfl)) (Nat.le_refl _) rfl ?_
  refine G_aload_n 0 rfl rfl (ck dc37 (i := 0) rfl) ?_
  refine H_getI mf37 (ck dc37 (i := 1) rfl) fw_Tape_19 (Or.inl fc7_2) ly45 ra45 (x := (M 45 2)) rfl ?_
  refine G_aload_n 0 rfl rfl (ck dc37 (i := 2) rfl) ?_
  refine H_getI mf37 (ck dc37 (i := 3) rfl) fw_Tape_15 (Or.inl fc7_0) ly45 ra45 (x := (M 45 0)) rfl ?_
  obtain ⟨o1, h⟩ := h
  obtain ⟨o2, h⟩ := h
  refine G_icmp_ge (tgt := 28) (by decide) o1 o2 (ck dc37 (i := 4) rfl) (fun c => ?_) (fun c => ?_)
  · replace h := h.1 c
    refine G_iconst (ck dc37 (i := 14) rfl) ?_
    exact H_iretZ mf37 (ck dc37 (i := 15) rfl) rfl (Or.inl rfl) h
  · replace h := h.2 c
    refine G_aload_n 0 rfl rfl (ck dc37 (i := 5) rfl) ?_
    refine H_getR mf37 (ck dc37 (i := 6) rfl) fw_Tape_11 fc7_1 ly45 ra45 rf45_1 (by decide) ?_
    refine G_aload_n 0 rfl rfl (ck dc37 (i := 7) rfl) ?_
    refine H_getI mf37 (ck dc37 (i := 8) rfl) fw_Tape_19 (Or.inl fc7_2) ly45 ra45 (x := (M 45 2)) rfl ?_
    obtain ⟨o3, h⟩ := h
    refine H_iald (ck dc37 (i := 9) rfl) ly46 (by decide) ra46 o3 (x := (M 46 (M 45 2))) rfl ?_
    refine G_iload_n 1 rfl rfl (ck dc37 (i := 10) rfl) ?_
    obtain ⟨o4, h⟩ := h
    obtain ⟨o5, h⟩ := h
    refine G_icmp_ne (tgt := 28) (by decide) o4 o5 (ck dc37 (i := 11) rfl) (fun c => ?_) (fun c => ?_)
    · replace h := h.1 c
      refine G_iconst (ck dc37 (i := 14) rfl) ?_
      exact H_iretZ mf37 (ck dc37 (i := 15) rfl) rfl (Or.inl rfl) h
    · replace h := h.2 c
      refine G_iconst (ck dc37 (i := 12) rfl) ?_
      refine G_goto (tgt := 29) (by decide) (ck dc37 (i := 13) rfl) ?_
      exact H_iretZ mf37 (ck dc37 (i := 15) rfl) rfl (Or.inr rfl) h
theorem c_ta_number (K : Nat) (a1 : Int) (M : PM) (Q : Option PV → PM → Prop)
    (h : G none (K + 1) jTape_number 4 [(0, .inr (.inr 45)), (1, .inl a1), (2, .inl 0), (3, .inl 0)] [] P0 P0 M Q) : Call (K + 1) jTape_number [.inr (.inr 45), .inl a1] P0 P0 M Q := by
  refine Call.intro (by decide +kernel) (mfx.le mf38 (Nat.le_of_ble_eq_true rfl)) (Nat.le_refl _) rfl ?_
  refine G_iconst (ck dc38 (i := 0) rfl) ?_
  refine G_istore_n (L' := [(2, .inl 0), (0, .inr (.inr 45)), (1, .inl a1)]) rfl (mfx.lt mf38 (Nat.le_of_ble_eq_true rfl)) rfl (ck dc38 (i := 1) rfl) ?_
  refine G_iconst (ck dc38 (i := 2) rfl) ?_
  refine G_istore_n (L' := [(3, .inl 0), (2, .inl 0), (0, .inr (.inr 45)), (1, .inl a1)]) rfl (mfx.lt mf38 (Nat.le_of_ble_eq_true rfl)) rfl (ck dc38 (i := 3) rfl) ?_
  exact G_sub [2, 3, 1, 0] rfl h
set_option maxHeartbeats 20000000 in
theorem g_ta_number_4 (K : Nat) (l1 l2 l3 : Int) (M : PM) (Q : Option PV → PM → Prop)
    (h : R32 l3 ∧ R32 l1 ∧ (l1 ≤ l3 → Q (some (.inl l2)) M) ∧ (¬ l1 ≤ l3 → R32 (M 45 2) ∧ R32 (M 45 0) ∧ ((M 45 0) ≤ (M 45 2) → Q (some (.inl l2)) M) ∧ (¬ (M 45 0) ≤ (M 45 2) → (0 ≤ (M 45 2) ∧ (M 45 2) < 120) ∧ R32 ((M 46 (M 45 2)) - 48) ∧ (((M 46 (M 45 2)) - 48) < 0 → Q (some (.inl l2)) M) ∧ (¬ ((M 46 (M 45 2)) - 48) < 0 → (((M 46 (M 45 2)) - 48) ≤ 9 → G none (K + 1) jTape_number 4 [(0, .inr (.inr 45)), (1, .inl l1), (2, .inl ((l2 * 10) + ((M 46 (M 45 2)) - 48))), (3, .inl (l3 + 1))] [] P0 P0 (mset M 45 2 ((M 45 2) + 1)) Q) ∧ (¬ ((M 46 (M 45 2)) - 48) ≤ 9 → Q (some (.inl l2)) M))))) : G none (K + 1) jTape_number 4 [(0, .inr (.inr 45)), (1, .inl l1), (2, .inl l2), (3, .inl l3)] [] P0 P0 M Q := by
  refine G_iload_n 3 rfl rfl (ck dc38 (i := 4) rfl) ?_
  refine G_iload_n 1 rfl rfl (ck dc38 (i := 5) rfl) ?_
  obtain ⟨o1, h⟩ := h
  obtain ⟨o2, h⟩ := h
  refine G_icmp_ge (tgt := 73) (by decide) o1 o2 (ck dc38 (i := 6) rfl) (fun c => ?_) (fun c => ?_)
  · replace h := h.1 c
    refine G_iload_n 2 rfl rfl (ck dc38 (i := 40) rfl) ?_
    exact H_iretI mf38 (ck dc38 (i := 41) rfl) rfl h
  · replace h := h.2 c
    refine G_aload_n 0 rfl rfl (ck dc38 (i := 7) rfl) ?_
    refine H_getI mf38 (ck dc38 (i := 8) rfl) fw_Tape_19 (Or.inl fc7_2) ly45 ra45 (x := (M 45 2)) rfl ?_
    refine G_aload_n 0 rfl rfl (ck dc38 (i := 9) rfl) ?_
    refine H_getI mf38 (ck dc38 (i := 10) rfl) fw_Tape_15 (Or.inl fc7_0) ly45 ra45 (x := (M 45 0)) rfl ?_
    obtain ⟨o3, h⟩ := h
    obtain ⟨o4, h⟩ := h
    refine G_icmp_ge (tgt := 73) (by decide) o3 o4 (ck dc38 (i := 11) rfl) (fun c => ?_) (fun c => ?_)
    · replace h := h.1 c
      refine G_iload_n 2 rfl rfl (ck dc38 (i := 40) rfl) ?_
      exact H_iretI mf38 (ck dc38 (i := 41) rfl) rfl h
    · replace h := h.2 c
      refine G_aload_n 0 rfl rfl (ck dc38 (i := 12) rfl) ?_
      refine H_getR mf38 (ck dc38 (i := 13) rfl) fw_Tape_11 fc7_1 ly45 ra45 rf45_1 (by decide) ?_
      refine G_aload_n 0 rfl rfl (ck dc38 (i := 14) rfl) ?_
      refine H_getI mf38 (ck dc38 (i := 15) rfl) fw_Tape_19 (Or.inl fc7_2) ly45 ra45 (x := (M 45 2)) rfl ?_
      obtain ⟨o5, h⟩ := h
      refine H_iald (ck dc38 (i := 16) rfl) ly46 (by decide) ra46 o5 (x := (M 46 (M 45 2))) rfl ?_
      refine G_bipush (n := 48) rfl (ck dc38 (i := 17) rfl) ?_
      refine G_isub (ck dc38 (i := 18) rfl) ?_
      refine G_istore (L' := [(4, .inl ((M 46 (M 45 2)) - 48)), (0, .inr (.inr 45)), (1, .inl l1), (2, .inl l2), (3, .inl l3)]) (mfx.lt mf38 (Nat.le_of_ble_eq_true rfl)) rfl (ck dc38 (i := 19) rfl) ?_
      refine G_iload 0 rfl (ck dc38 (i := 20) rfl) ?_
      obtain ⟨o6, h⟩ := h
      refine G_if_lt (tgt := 73) (by decide) o6 (ck dc38 (i := 21) rfl) (fun c => ?_) (fun c => ?_)
      · replace h := h.1 c
        refine G_iload_n 3 rfl rfl (ck dc38 (i := 40) rfl) ?_
        exact H_iretI mf38 (ck dc38 (i := 41) rfl) rfl h
      · replace h := h.2 c
        refine G_iload 0 rfl (ck dc38 (i := 22) rfl) ?_
        refine G_bipush (n := 9) rfl (ck dc38 (i := 23) rfl) ?_
        refine G_icmp_le (tgt := 49) (by decide) o6 (by decide) (ck dc38 (i := 24) rfl) (fun c => ?_) (fun c => ?_)
        · replace h := h.1 c
          refine G_iload_n 3 rfl rfl (ck dc38 (i := 26) rfl) ?_
          refine G_bipush (n := 10) rfl (ck dc38 (i := 27) rfl) ?_
          refine G_imul (ck dc38 (i := 28) rfl) ?_
          refine G_iload 0 rfl (ck dc38 (i := 29) rfl) ?_
          refine G_iadd (ck dc38 (i := 30) rfl) ?_
          refine G_istore_n (L' := [(2, .inl ((l2 * 10) + ((M 46 (M 45 2)) - 48))), (4, .inl ((M 46 (M 45 2)) - 48)), (0, .inr (.inr 45)), (1, .inl l1), (3, .inl l3)]) rfl (mfx.lt mf38 (Nat.le_of_ble_eq_true rfl)) rfl (ck dc38 (i := 31) rfl) ?_
          refine G_aload_n 2 rfl rfl (ck dc38 (i := 32) rfl) ?_
          refine G_dup rfl (ck dc38 (i := 33) rfl) ?_
          refine H_getI mf38 (ck dc38 (i := 34) rfl) fw_Tape_19 (Or.inl fc7_2) ly45 ra45 (x := (M 45 2)) rfl ?_
          refine G_iconst (ck dc38 (i := 35) rfl) ?_
          refine G_iadd (ck dc38 (i := 36) rfl) ?_
          refine H_putI mf38 (ck dc38 (i := 37) rfl) fw_Tape_19 fc7_2 ly45 ra45 (Or.inl rfl) ?_
          refine G_iinc (L' := [(3, .inl (l3 + 1)), (2, .inl ((l2 * 10) + ((M 46 (M 45 2)) - 48))), (4, .inl ((M 46 (M 45 2)) - 48)), (0, .inr (.inr 45)), (1, .inl l1)]) 4 rfl (mfx.lt mf38 (Nat.le_of_ble_eq_true rfl)) rfl (ck dc38 (i := 38) rfl) ?_
          refine G_goto (tgt := 4) (by decide) (ck dc38 (i := 39) rfl) ?_
          exact G_sub [3, 4, 1, 0] rfl h
        · replace h := h.2 c
          refine G_goto (tgt := 73) (by decide) (ck dc38 (i := 25) rfl) ?_
          refine G_iload_n 3 rfl rfl (ck dc38 (i := 40) rfl) ?_
          exact H_iretI mf38 (ck dc38 (i := 41) rfl) rfl h
theorem c_ta_scanPart (K : Nat) (a2 : Int) (M : PM) (Q : Option PV → PM → Prop)
    (h : Call K jTape_house [.inr (.inr 45), .inr (.inr 1)] P0 P0 M (retI fun r1 M2 => R32 r1 ∧ (0 ≤ r1 → G none (K + 1) jTape_scanPart 28 [(0, .inr (.inr 45)), (1, .inr (.inr 1)), (2, .inl a2), (3, .inl r1), (4, .inl 0)] [] P0 P0 (mset M2 45 2 ((M2 45 2) + 1)) Q) ∧ (¬ 0 ≤ r1 → Q (some (.inl (M2 45 2))) M2))) : Call (K + 1) jTape_scanPart [.inr (.inr 45), .inr (.inr 1), .inl a2] P0 P0 M Q := by
  refine Call.intro (by decide +kernel) (mfx.le mf35 (Nat.le_of_ble_eq_true rfl)) (Nat.le_refl _) rfl ?_
  refine G_aload_n 0 rfl rfl (ck dc35 (i := 0) rfl) ?_
  refine G_aload_n 1 rfl rfl (ck dc35 (i := 1) rfl) ?_
  refine H_vI mf35 (As := [.inr (.inr 1)]) (st := []) (ck dc35 (i := 2) rfl) lk_Tape_26 rfl rfl (Nat.le_of_ble_eq_true rfl) ly45 ra45 ⟨Nat.le_refl _, Nat.le_refl _⟩ h (fun r1 M2 h => ?_)
  refine G_istore_n (L' := [(3, .inl r1), (0, .inr (.inr 45)), (1, .inr (.inr 1)), (2, .inl a2)]) rfl (mfx.lt mf35 (Nat.le_of_ble_eq_true rfl)) rfl (ck dc35 (i := 3) rfl) ?_
  refine G_iload_n 0 rfl rfl (ck dc35 (i := 4) rfl) ?_
  obtain ⟨o3, h⟩ := h
  refine G_if_ge (tgt := 15) (by decide) o3 (ck dc35 (i := 5) rfl) (fun c => ?_) (fun c => ?_)
  · replace h := h.1 c
    refine G_aload_n 1 rfl rfl (ck dc35 (i := 9) rfl) ?_
    refine G_dup rfl (ck dc35 (i := 10) rfl) ?_
    refine H_getI mf35 (ck dc35 (i := 11) rfl) fw_Tape_19 (Or.inl fc7_2) ly45 ra45 (x := (M2 45 2)) rfl ?_
    refine G_iconst (ck dc35 (i := 12) rfl) ?_
    refine G_iadd (ck dc35 (i := 13) rfl) ?_
    refine H_putI mf35 (ck dc35 (i := 14) rfl) fw_Tape_19 fc7_2 ly45 ra45 (Or.inl rfl) ?_
    refine G_iconst (ck dc35 (i := 15) rfl) ?_
    refine G_istore (L' := [(4, .inl 0), (3, .inl r1), (0, .inr (.inr 45)), (1, .inr (.inr 1)), (2, .inl a2)]) (mfx.lt mf35 (Nat.le_of_ble_eq_true rfl)) rfl (ck dc35 (i := 16) rfl) ?_
    exact G_sub [2, 3, 4, 1, 0] rfl h
  · replace h := h.2 c
    refine G_aload_n 1 rfl rfl (ck dc35 (i := 6) rfl) ?_
    refine H_getI mf35 (ck dc35 (i := 7) rfl) fw_Tape_19 (Or.inl fc7_2) ly45 ra45 (x := (M2 45 2)) rfl ?_
    exact H_iretI mf35 (ck dc35 (i := 8) rfl) rfl h
theorem g_ta_scanPart_28 (K : Nat) (l2 l3 l4 : Int) (M : PM) (Q : Option PV → PM → Prop)
    (h : R32 l4 ∧ (3 ≤ l4 → G none (K + 1) jTape_scanPart 59 [(0, .inr (.inr 45)), (1, .inr (.inr 1)), (2, .inl l2), (3, .inl l3), (4, .inl l4)] [] P0 P0 M Q) ∧ (¬ 3 ≤ l4 → Call K jTape_isNext [.inr (.inr 45), .inl 62] P0 P0 M (retI fun r2 M3 => R32 r2 ∧ (r2 = 0 → G none (K + 1) jTape_scanPart 59 [(0, .inr (.inr 45)), (1, .inr (.inr 1)), (2, .inl l2), (3, .inl l3), (4, .inl l4)] [] P0 P0 M3 Q) ∧ (¬ r2 = 0 → G none (K + 1) jTape_scanPart 28 [(0, .inr (.inr 45)), (1, .inr (.inr 1)), (2, .inl l2), (3, .inl l3), (4, .inl (l4 + 1))] [] P0 P0 (mset M3 45 2 ((M3 45 2) + 1)) Q)))) : G none (K + 1) jTape_scanPart 28 [(0, .inr (.inr 45)), (1, .inr (.inr 1)), (2, .inl l2), (3, .inl l3), (4, .inl l4)] [] P0 P0 M Q := by
  refine G_iload 4 rfl (ck dc35 (i := 17) rfl) ?_
  refine G_iconst (ck dc35 (i := 18) rfl) ?_
  obtain ⟨o1, h⟩ := h
  refine G_icmp_ge (tgt := 59) (by decide) o1 (by decide) (ck dc35 (i := 19) rfl) (fun c => ?_) (fun c => ?_)
  · replace h := h.1 c
    exact G_sub [0, 1, 2, 3, 4] rfl h
  · replace h := h.2 c
    refine G_aload_n 0 rfl rfl (ck dc35 (i := 20) rfl) ?_
    refine G_bipush (n := 62) rfl (ck dc35 (i := 21) rfl) ?_
    refine H_vZ mf35 (As := [.inl 62]) (st := []) (ck dc35 (i := 22) rfl) lk_Tape_30 rfl rfl (Nat.le_of_ble_eq_true rfl) ly45 ra45 ⟨Nat.le_refl _, Nat.le_refl _⟩ h (fun r2 M3 h => ?_)
    obtain ⟨o4, h⟩ := h
    refine G_if_eq (tgt := 59) (by decide) o4 (ck dc35 (i := 23) rfl) (fun c => ?_) (fun c => ?_)
    · replace h := h.1 c
      exact G_sub [0, 1, 2, 3, 4] rfl h
    · replace h := h.2 c
      refine G_iinc (L' := [(4, .inl (l4 + 1)), (0, .inr (.inr 45)), (1, .inr (.inr 1)), (2, .inl l2), (3, .inl l3)]) 4 rfl (mfx.lt mf35 (Nat.le_of_ble_eq_true rfl)) rfl (ck dc35 (i := 24) rfl) ?_
      refine G_aload_n 1 rfl rfl (ck dc35 (i := 25) rfl) ?_
      refine G_dup rfl (ck dc35 (i := 26) rfl) ?_
      refine H_getI mf35 (ck dc35 (i := 27) rfl) fw_Tape_19 (Or.inl fc7_2) ly45 ra45 (x := (M3 45 2)) rfl ?_
      refine G_iconst (ck dc35 (i := 28) rfl) ?_
      refine G_iadd (ck dc35 (i := 29) rfl) ?_
      refine H_putI mf35 (ck dc35 (i := 30) rfl) fw_Tape_19 fc7_2 ly45 ra45 (Or.inl rfl) ?_
      refine G_goto (tgt := 28) (by decide) (ck dc35 (i := 31) rfl) ?_
      exact G_sub [1, 2, 3, 4, 0] rfl h
theorem g_ta_scanPart_59 (K : Nat) (l2 l3 l4 : Int) (M : PM) (Q : Option PV → PM → Prop)
    (h : R32 l4 ∧ (l4 ≤ 0 → G none (K + 1) jTape_scanPart 100 [(0, .inr (.inr 45)), (1, .inr (.inr 1)), (2, .inl l2), (3, .inl l3), (4, .inl l4), (5, .inl l3)] [] P0 P0 M Q) ∧ (¬ l4 ≤ 0 → Call K jTape_house [.inr (.inr 45), .inr (.inr 1)] P0 P0 M (retI fun r2 M3 => R32 r2 ∧ (r2 < 0 → Q (some (.inl (M3 45 2))) M3) ∧ (¬ r2 < 0 → R32 l3 ∧ (¬ r2 = l3 → G none (K + 1) jTape_scanPart 100 [(0, .inr (.inr 45)), (1, .inr (.inr 1)), (2, .inl l2), (3, .inl l3), (4, .inl l4), (5, .inl r2)] [] P0 P0 (mset M3 45 2 ((M3 45 2) + 1)) Q) ∧ (r2 = l3 → Q (some (.inl (M3 45 2))) M3))))) : G none (K + 1) jTape_scanPart 59 [(0, .inr (.inr 45)), (1, .inr (.inr 1)), (2, .inl l2), (3, .inl l3), (4, .inl l4)] [] P0 P0 M Q := by
  refine G_iload_n 3 rfl rfl (ck dc35 (i := 32) rfl) ?_
  refine G_istore (L' := [(5, .inl l3), (0, .inr (.inr 45)), (1, .inr (.inr 1)), (2, .inl l2), (3, .inl l3), (4, .inl l4)]) (mfx.lt mf35 (Nat.le_of_ble_eq_true rfl)) rfl (ck dc35 (i := 33) rfl) ?_
  refine G_iload 5 rfl (ck dc35 (i := 34) rfl) ?_
  obtain ⟨o1, h⟩ := h
  refine G_if_le (tgt := 100) (by decide) o1 (ck dc35 (i := 35) rfl) (fun c => ?_) (fun c => ?_)
  · replace h := h.1 c
    exact G_sub [1, 2, 3, 4, 5, 0] rfl h
  · replace h := h.2 c
    refine G_aload_n 1 rfl rfl (ck dc35 (i := 36) rfl) ?_
    refine G_aload_n 2 rfl rfl (ck dc35 (i := 37) rfl) ?_
    refine H_vI mf35 (As := [.inr (.inr 1)]) (st := []) (ck dc35 (i := 38) rfl) lk_Tape_26 rfl rfl (Nat.le_of_ble_eq_true rfl) ly45 ra45 ⟨Nat.le_refl _, Nat.le_refl _⟩ h (fun r2 M3 h => ?_)
    refine G_istore (L' := [(5, .inl r2), (0, .inr (.inr 45)), (1, .inr (.inr 1)), (2, .inl l2), (3, .inl l3), (4, .inl l4)]) (mfx.lt mf35 (Nat.le_of_ble_eq_true rfl)) rfl (ck dc35 (i := 39) rfl) ?_
    refine G_iload 0 rfl (ck dc35 (i := 40) rfl) ?_
    obtain ⟨o4, h⟩ := h
    refine G_if_lt (tgt := 85) (by decide) o4 (ck dc35 (i := 41) rfl) (fun c => ?_) (fun c => ?_)
    · replace h := h.1 c
      refine G_aload_n 1 rfl rfl (ck dc35 (i := 45) rfl) ?_
      refine H_getI mf35 (ck dc35 (i := 46) rfl) fw_Tape_19 (Or.inl fc7_2) ly45 ra45 (x := (M3 45 2)) rfl ?_
      exact H_iretI mf35 (ck dc35 (i := 47) rfl) rfl h
    · replace h := h.2 c
      refine G_iload 0 rfl (ck dc35 (i := 42) rfl) ?_
      refine G_iload_n 4 rfl rfl (ck dc35 (i := 43) rfl) ?_
      obtain ⟨o5, h⟩ := h
      refine G_icmp_ne (tgt := 90) (by decide) o4 o5 (ck dc35 (i := 44) rfl) (fun c => ?_) (fun c => ?_)
      · replace h := h.1 c
        refine G_aload_n 1 rfl rfl (ck dc35 (i := 48) rfl) ?_
        refine G_dup rfl (ck dc35 (i := 49) rfl) ?_
        refine H_getI mf35 (ck dc35 (i := 50) rfl) fw_Tape_19 (Or.inl fc7_2) ly45 ra45 (x := (M3 45 2)) rfl ?_
        refine G_iconst (ck dc35 (i := 51) rfl) ?_
        refine G_iadd (ck dc35 (i := 52) rfl) ?_
        refine H_putI mf35 (ck dc35 (i := 53) rfl) fw_Tape_19 fc7_2 ly45 ra45 (Or.inl rfl) ?_
        exact G_sub [1, 2, 3, 4, 5, 0] rfl h
      · replace h := h.2 c
        refine G_aload_n 1 rfl rfl (ck dc35 (i := 45) rfl) ?_
        refine H_getI mf35 (ck dc35 (i := 46) rfl) fw_Tape_19 (Or.inl fc7_2) ly45 ra45 (x := (M3 45 2)) rfl ?_
        exact H_iretI mf35 (ck dc35 (i := 47) rfl) rfl h
set_option maxHeartbeats 20000000 in
theorem g_ta_scanPart_100 (K : Nat) (l2 l3 l4 l5 : Int) (M : PM) (Q : Option PV → PM → Prop)
    (h : Call K jTape_isNext [.inr (.inr 45), .inl 61] P0 P0 M (retI fun r1 M2 => R32 r1 ∧ (¬ r1 = 0 → R32 l4 ∧ (l4 ≤ 0 → Call K jTape_number [.inr (.inr 45), .inl 3] P0 P0 (mset M2 45 2 ((M2 45 2) + 1)) (retI fun r5 M6 => R32 (M6 45 2) ∧ R32 ((M2 45 2) + 1) ∧ ((M6 45 2) = ((M2 45 2) + 1) → Q (some (.inl ((M2 45 2) + 1))) M6) ∧ (¬ (M6 45 2) = ((M2 45 2) + 1) → (l4 ≤ 0 → R32 r5 ∧ (r5 ≤ 200 → R32 l2 ∧ (l2 = 0 → (l2 = 0 → Q (some (.inl (-1))) M6) ∧ (¬ l2 = 0 → (0 ≤ l3 ∧ l3 < 5) ∧ Q (some (.inl (-1))) (mset M6 2 l3 r5))) ∧ (¬ l2 = 0 → (l4 ≤ 0 → (l2 = 0 → Q (some (.inl (-1))) M6) ∧ (¬ l2 = 0 → (0 ≤ l3 ∧ l3 < 5) ∧ Q (some (.inl (-1))) (mset M6 2 l3 r5))) ∧ (¬ l4 ≤ 0 → Call K jBook_put [.inr (.inr 1), .inl l3, .inl l5, .inl (l4 - 1), .inl r5] P0 P0 M6 (retV fun M14 => Q (some (.inl (-1))) M14)))) ∧ (¬ r5 ≤ 200 → Q (some (.inl ((M2 45 2) + 1))) M6)) ∧ (¬ l4 ≤ 0 → R32 r5 ∧ (r5 ≤ 20 → R32 l2 ∧ (l2 = 0 → (l2 = 0 → Q (some (.inl (-1))) M6) ∧ (¬ l2 = 0 → (0 ≤ l3 ∧ l3 < 5) ∧ Q (some (.inl (-1))) (mset M6 2 l3 r5))) ∧ (¬ l2 = 0 → (l4 ≤ 0 → (l2 = 0 → Q (some (.inl (-1))) M6) ∧ (¬ l2 = 0 → (0 ≤ l3 ∧ l3 < 5) ∧ Q (some (.inl (-1))) (mset M6 2 l3 r5))) ∧ (¬ l4 ≤ 0 → Call K jBook_put [.inr (.inr 1), .inl l3, .inl l5, .inl (l4 - 1), .inl r5] P0 P0 M6 (retV fun M20 => Q (some (.inl (-1))) M20)))) ∧ (¬ r5 ≤ 20 → Q (some (.inl ((M2 45 2) + 1))) M6))))) ∧ (¬ l4 ≤ 0 → Call K jTape_number [.inr (.inr 45), .inl 2] P0 P0 (mset M2 45 2 ((M2 45 2) + 1)) (retI fun r21 M22 => R32 (M22 45 2) ∧ R32 ((M2 45 2) + 1) ∧ ((M22 45 2) = ((M2 45 2) + 1) → Q (some (.inl ((M2 45 2) + 1))) M22) ∧ (¬ (M22 45 2) = ((M2 45 2) + 1) → (l4 ≤ 0 → R32 r21 ∧ (r21 ≤ 200 → R32 l2 ∧ (l2 = 0 → (l2 = 0 → Q (some (.inl (-1))) M22) ∧ (¬ l2 = 0 → (0 ≤ l3 ∧ l3 < 5) ∧ Q (some (.inl (-1))) (mset M22 2 l3 r21))) ∧ (¬ l2 = 0 → (l4 ≤ 0 → (l2 = 0 → Q (some (.inl (-1))) M22) ∧ (¬ l2 = 0 → (0 ≤ l3 ∧ l3 < 5) ∧ Q (some (.inl (-1))) (mset M22 2 l3 r21))) ∧ (¬ l4 ≤ 0 → Call K jBook_put [.inr (.inr 1), .inl l3, .inl l5, .inl (l4 - 1), .inl r21] P0 P0 M22 (retV fun M30 => Q (some (.inl (-1))) M30)))) ∧ (¬ r21 ≤ 200 → Q (some (.inl ((M2 45 2) + 1))) M22)) ∧ (¬ l4 ≤ 0 → R32 r21 ∧ (r21 ≤ 20 → R32 l2 ∧ (l2 = 0 → (l2 = 0 → Q (some (.inl (-1))) M22) ∧ (¬ l2 = 0 → (0 ≤ l3 ∧ l3 < 5) ∧ Q (some (.inl (-1))) (mset M22 2 l3 r21))) ∧ (¬ l2 = 0 → (l4 ≤ 0 → (l2 = 0 → Q (some (.inl (-1))) M22) ∧ (¬ l2 = 0 → (0 ≤ l3 ∧ l3 < 5) ∧ Q (some (.inl (-1))) (mset M22 2 l3 r21))) ∧ (¬ l4 ≤ 0 → Call K jBook_put [.inr (.inr 1), .inl l3, .inl l5, .inl (l4 - 1), .inl r21] P0 P0 M22 (retV fun M36 => Q (some (.inl (-1))) M36)))) ∧ (¬ r21 ≤ 20 → Q (some (.inl ((M2 45 2) + 1))) M22)))))) ∧ (r1 = 0 → Q (some (.inl (M2 45 2))) M2))) : G none (K + 1) jTape_scanPart 100 [(0, .inr (.inr 45)), (1, .inr (.inr 1)), (2, .inl l2), (3, .inl l3), (4, .inl l4), (5, .inl l5)] [] P0 P0 M Q := by
  refine G_aload_n 0 rfl rfl (ck dc35 (i := 54) rfl) ?_
  refine G_bipush (n := 61) rfl (ck dc35 (i := 55) rfl) ?_
  refine H_vZ mf35 (As := [.inl 61]) (st := []) (ck dc35 (i := 56) rfl) lk_Tape_30 rfl rfl (Nat.le_of_ble_eq_true rfl) ly45 ra45 ⟨Nat.le_refl _, Nat.le_refl _⟩ h (fun r1 M2 h => ?_)
  obtain ⟨o3, h⟩ := h
  refine G_if_ne (tgt := 114) (by decide) o3 (ck dc35 (i := 57) rfl) (fun c => ?_) (fun c => ?_)
  · replace h := h.1 c
    refine G_aload_n 0 rfl rfl (ck dc35 (i := 61) rfl) ?_
    refine G_dup rfl (ck dc35 (i := 62) rfl) ?_
    refine H_getI mf35 (ck dc35 (i := 63) rfl) fw_Tape_19 (Or.inl fc7_2) ly45 ra45 (x := (M2 45 2)) rfl ?_
    refine G_iconst (ck dc35 (i := 64) rfl) ?_
    refine G_iadd (ck dc35 (i := 65) rfl) ?_
    refine H_putI mf35 (ck dc35 (i := 66) rfl) fw_Tape_19 fc7_2 ly45 ra45 (Or.inl rfl) ?_
    refine G_aload_n 0 rfl rfl (ck dc35 (i := 67) rfl) ?_
    refine H_getI mf35 (ck dc35 (i := 68) rfl) fw_Tape_19 (Or.inl fc7_2) ly45 ra45 (x := ((M2 45 2) + 1)) (by simp [mset, mcpy]) ?_
    refine G_istore (L' := [(6, .inl ((M2 45 2) + 1)), (0, .inr (.inr 45)), (1, .inr (.inr 1)), (2, .inl l2), (3, .inl l3), (4, .inl l4), (5, .inl l5)]) (mfx.lt mf35 (Nat.le_of_ble_eq_true rfl)) rfl (ck dc35 (i := 69) rfl) ?_
    refine G_aload_n 1 rfl rfl (ck dc35 (i := 70) rfl) ?_
    refine G_iload 5 rfl (ck dc35 (i := 71) rfl) ?_
    obtain ⟨o4, h⟩ := h
    refine G_if_le (tgt := 140) (by decide) o4 (ck dc35 (i := 72) rfl) (fun c => ?_) (fun c => ?_)
    · replace h := h.1 c
      refine G_iconst (ck dc35 (i := 75) rfl) ?_
      refine H_vI mf35 (As := [.inl 3]) (st := []) (ck dc35 (i := 76) rfl) lk_Tape_34 rfl rfl (Nat.le_of_ble_eq_true rfl) ly45 ra45 ⟨Nat.le_refl _, Nat.le_refl _⟩ h (fun r5 M6 h => ?_)
      refine G_istore (L' := [(7, .inl r5), (6, .inl ((M2 45 2) + 1)), (0, .inr (.inr 45)), (1, .inr (.inr 1)), (2, .inl l2), (3, .inl l3), (4, .inl l4), (5, .inl l5)]) (mfx.lt mf35 (Nat.le_of_ble_eq_true rfl)) rfl (ck dc35 (i := 77) rfl) ?_
      refine G_aload_n 2 rfl rfl (ck dc35 (i := 78) rfl) ?_
      refine H_getI mf35 (ck dc35 (i := 79) rfl) fw_Tape_19 (Or.inl fc7_2) ly45 ra45 (x := (M6 45 2)) rfl ?_
      refine G_iload 1 rfl (ck dc35 (i := 80) rfl) ?_
      obtain ⟨o7, h⟩ := h
      obtain ⟨o8, h⟩ := h
      refine G_icmp_eq (tgt := 173) (by decide) o7 o8 (ck dc35 (i := 81) rfl) (fun c => ?_) (fun c => ?_)
      · replace h := h.1 c
        refine G_iload 1 rfl (ck dc35 (i := 89) rfl) ?_
        exact H_iretI mf35 (ck dc35 (i := 90) rfl) rfl h
      · replace h := h.2 c
        refine G_iload 0 rfl (ck dc35 (i := 82) rfl) ?_
        refine G_iload 6 rfl (ck dc35 (i := 83) rfl) ?_
        refine G_if_le (tgt := 167) (by decide) o4 (ck dc35 (i := 84) rfl) (fun c => ?_) (fun c => ?_)
        · replace h := h.1 c
          refine G_sipush (n := 200) rfl (ck dc35 (i := 87) rfl) ?_
          obtain ⟨o9, h⟩ := h
          refine G_icmp_le (tgt := 176) (by decide) o9 (by decide) (ck dc35 (i := 88) rfl) (fun c => ?_) (fun c => ?_)
          · replace h := h.1 c
            refine G_iload_n 4 rfl rfl (ck dc35 (i := 91) rfl) ?_
            obtain ⟨o10, h⟩ := h
            refine G_if_eq (tgt := 201) (by decide) o10 (ck dc35 (i := 92) rfl) (fun c => ?_) (fun c => ?_)
            · replace h := h.1 c
              refine G_iload_n 4 rfl rfl (ck dc35 (i := 104) rfl) ?_
              refine G_if_eq (tgt := 213) (by decide) o10 (ck dc35 (i := 105) rfl) (fun c => ?_) (fun c => ?_)
              · replace h := h.1 c
                refine G_iconst (ck dc35 (i := 111) rfl) ?_
                exact H_iretI mf35 (ck dc35 (i := 112) rfl) rfl h
              · replace h := h.2 c
                refine G_aload_n 3 rfl rfl (ck dc35 (i := 106) rfl) ?_
                refine H_getR mf35 (ck dc35 (i := 107) rfl) fw_Tape_44 fc0_3 ly1 ra1 rf1_3 (by decide) ?_
                refine G_iload_n 5 rfl rfl (ck dc35 (i := 108) rfl) ?_
                refine G_iload 0 rfl (ck dc35 (i := 109) rfl) ?_
                obtain ⟨o11, h⟩ := h
                refine G_iast (ck dc35 (i := 110) rfl) ra2 ly2 (by decide) o11 ?_
                refine G_iconst (ck dc35 (i := 111) rfl) ?_
                exact H_iretI mf35 (ck dc35 (i := 112) rfl) rfl h
            · replace h := h.2 c
              refine G_iload 6 rfl (ck dc35 (i := 93) rfl) ?_
              refine G_if_le (tgt := 201) (by decide) o4 (ck dc35 (i := 94) rfl) (fun c => ?_) (fun c => ?_)
              · replace h := h.1 c
                refine G_iload_n 4 rfl rfl (ck dc35 (i := 104) rfl) ?_
                refine G_if_eq (tgt := 213) (by decide) o10 (ck dc35 (i := 105) rfl) (fun c => ?_) (fun c => ?_)
                · replace h := h.1 c
                  refine G_iconst (ck dc35 (i := 111) rfl) ?_
                  exact H_iretI mf35 (ck dc35 (i := 112) rfl) rfl h
                · replace h := h.2 c
                  refine G_aload_n 3 rfl rfl (ck dc35 (i := 106) rfl) ?_
                  refine H_getR mf35 (ck dc35 (i := 107) rfl) fw_Tape_44 fc0_3 ly1 ra1 rf1_3 (by decide) ?_
                  refine G_iload_n 5 rfl rfl (ck dc35 (i := 108) rfl) ?_
                  refine G_iload 0 rfl (ck dc35 (i := 109) rfl) ?_
                  obtain ⟨o12, h⟩ := h
                  refine G_iast (ck dc35 (i := 110) rfl) ra2 ly2 (by decide) o12 ?_
                  refine G_iconst (ck dc35 (i := 111) rfl) ?_
                  exact H_iretI mf35 (ck dc35 (i := 112) rfl) rfl h
              · replace h := h.2 c
                refine G_aload_n 3 rfl rfl (ck dc35 (i := 95) rfl) ?_
                refine G_iload_n 5 rfl rfl (ck dc35 (i := 96) rfl) ?_
                refine G_iload 7 rfl (ck dc35 (i := 97) rfl) ?_
                refine G_iload 6 rfl (ck dc35 (i := 98) rfl) ?_
                refine G_iconst (ck dc35 (i := 99) rfl) ?_
                refine G_isub (ck dc35 (i := 100) rfl) ?_
                refine G_iload 0 rfl (ck dc35 (i := 101) rfl) ?_
                refine H_vV mf35 (As := [.inl l3, .inl l5, .inl (l4 - 1), .inl r5]) (st := []) (ck dc35 (i := 102) rfl) lk_Tape_38 rfl rfl (Nat.le_of_ble_eq_true rfl) ly1 ra1 ⟨Nat.le_refl _, Nat.le_refl _⟩ h (fun M14 h => ?_)
                refine G_goto (tgt := 213) (by decide) (ck dc35 (i := 103) rfl) ?_
                refine G_iconst (ck dc35 (i := 111) rfl) ?_
                exact H_iretI mf35 (ck dc35 (i := 112) rfl) rfl h
          · replace h := h.2 c
            refine G_iload 1 rfl (ck dc35 (i := 89) rfl) ?_
            exact H_iretI mf35 (ck dc35 (i := 90) rfl) rfl h
        · replace h := h.2 c
          refine G_bipush (n := 20) rfl (ck dc35 (i := 85) rfl) ?_
          refine G_goto (tgt := 170) (by decide) (ck dc35 (i := 86) rfl) ?_
          obtain ⟨o15, h⟩ := h
          refine G_icmp_le (tgt := 176) (by decide) o15 (by decide) (ck dc35 (i := 88) rfl) (fun c => ?_) (fun c => ?_)
          · replace h := h.1 c
            refine G_iload_n 4 rfl rfl (ck dc35 (i := 91) rfl) ?_
            obtain ⟨o16, h⟩ := h
            refine G_if_eq (tgt := 201) (by decide) o16 (ck dc35 (i := 92) rfl) (fun c => ?_) (fun c => ?_)
            · replace h := h.1 c
              refine G_iload_n 4 rfl rfl (ck dc35 (i := 104) rfl) ?_
              refine G_if_eq (tgt := 213) (by decide) o16 (ck dc35 (i := 105) rfl) (fun c => ?_) (fun c => ?_)
              · replace h := h.1 c
                refine G_iconst (ck dc35 (i := 111) rfl) ?_
                exact H_iretI mf35 (ck dc35 (i := 112) rfl) rfl h
              · replace h := h.2 c
                refine G_aload_n 3 rfl rfl (ck dc35 (i := 106) rfl) ?_
                refine H_getR mf35 (ck dc35 (i := 107) rfl) fw_Tape_44 fc0_3 ly1 ra1 rf1_3 (by decide) ?_
                refine G_iload_n 5 rfl rfl (ck dc35 (i := 108) rfl) ?_
                refine G_iload 0 rfl (ck dc35 (i := 109) rfl) ?_
                obtain ⟨o17, h⟩ := h
                refine G_iast (ck dc35 (i := 110) rfl) ra2 ly2 (by decide) o17 ?_
                refine G_iconst (ck dc35 (i := 111) rfl) ?_
                exact H_iretI mf35 (ck dc35 (i := 112) rfl) rfl h
            · replace h := h.2 c
              refine G_iload 6 rfl (ck dc35 (i := 93) rfl) ?_
              refine G_if_le (tgt := 201) (by decide) o4 (ck dc35 (i := 94) rfl) (fun c => ?_) (fun c => ?_)
              · replace h := h.1 c
                refine G_iload_n 4 rfl rfl (ck dc35 (i := 104) rfl) ?_
                refine G_if_eq (tgt := 213) (by decide) o16 (ck dc35 (i := 105) rfl) (fun c => ?_) (fun c => ?_)
                · replace h := h.1 c
                  refine G_iconst (ck dc35 (i := 111) rfl) ?_
                  exact H_iretI mf35 (ck dc35 (i := 112) rfl) rfl h
                · replace h := h.2 c
                  refine G_aload_n 3 rfl rfl (ck dc35 (i := 106) rfl) ?_
                  refine H_getR mf35 (ck dc35 (i := 107) rfl) fw_Tape_44 fc0_3 ly1 ra1 rf1_3 (by decide) ?_
                  refine G_iload_n 5 rfl rfl (ck dc35 (i := 108) rfl) ?_
                  refine G_iload 0 rfl (ck dc35 (i := 109) rfl) ?_
                  obtain ⟨o18, h⟩ := h
                  refine G_iast (ck dc35 (i := 110) rfl) ra2 ly2 (by decide) o18 ?_
                  refine G_iconst (ck dc35 (i := 111) rfl) ?_
                  exact H_iretI mf35 (ck dc35 (i := 112) rfl) rfl h
              · replace h := h.2 c
                refine G_aload_n 3 rfl rfl (ck dc35 (i := 95) rfl) ?_
                refine G_iload_n 5 rfl rfl (ck dc35 (i := 96) rfl) ?_
                refine G_iload 7 rfl (ck dc35 (i := 97) rfl) ?_
                refine G_iload 6 rfl (ck dc35 (i := 98) rfl) ?_
                refine G_iconst (ck dc35 (i := 99) rfl) ?_
                refine G_isub (ck dc35 (i := 100) rfl) ?_
                refine G_iload 0 rfl (ck dc35 (i := 101) rfl) ?_
                refine H_vV mf35 (As := [.inl l3, .inl l5, .inl (l4 - 1), .inl r5]) (st := []) (ck dc35 (i := 102) rfl) lk_Tape_38 rfl rfl (Nat.le_of_ble_eq_true rfl) ly1 ra1 ⟨Nat.le_refl _, Nat.le_refl _⟩ h (fun M20 h => ?_)
                refine G_goto (tgt := 213) (by decide) (ck dc35 (i := 103) rfl) ?_
                refine G_iconst (ck dc35 (i := 111) rfl) ?_
                exact H_iretI mf35 (ck dc35 (i := 112) rfl) rfl h
          · replace h := h.2 c
            refine G_iload 1 rfl (ck dc35 (i := 89) rfl) ?_
            exact H_iretI mf35 (ck dc35 (i := 90) rfl) rfl h
    · replace h := h.2 c
      refine G_iconst (ck dc35 (i := 73) rfl) ?_
      refine G_goto (tgt := 141) (by decide) (ck dc35 (i := 74) rfl) ?_
      refine H_vI mf35 (As := [.inl 2]) (st := []) (ck dc35 (i := 76) rfl) lk_Tape_34 rfl rfl (Nat.le_of_ble_eq_true rfl) ly45 ra45 ⟨Nat.le_refl _, Nat.le_refl _⟩ h (fun r21 M22 h => ?_)
      refine G_istore (L' := [(7, .inl r21), (6, .inl ((M2 45 2) + 1)), (0, .inr (.inr 45)), (1, .inr (.inr 1)), (2, .inl l2), (3, .inl l3), (4, .inl l4), (5, .inl l5)]) (mfx.lt mf35 (Nat.le_of_ble_eq_true rfl)) rfl (ck dc35 (i := 77) rfl) ?_
      refine G_aload_n 2 rfl rfl (ck dc35 (i := 78) rfl) ?_
      refine H_getI mf35 (ck dc35 (i := 79) rfl) fw_Tape_19 (Or.inl fc7_2) ly45 ra45 (x := (M22 45 2)) rfl ?_
      refine G_iload 1 rfl (ck dc35 (i := 80) rfl) ?_
      obtain ⟨o23, h⟩ := h
      obtain ⟨o24, h⟩ := h
      refine G_icmp_eq (tgt := 173) (by decide) o23 o24 (ck dc35 (i := 81) rfl) (fun c => ?_) (fun c => ?_)
      · replace h := h.1 c
        refine G_iload 1 rfl (ck dc35 (i := 89) rfl) ?_
        exact H_iretI mf35 (ck dc35 (i := 90) rfl) rfl h
      · replace h := h.2 c
        refine G_iload 0 rfl (ck dc35 (i := 82) rfl) ?_
        refine G_iload 6 rfl (ck dc35 (i := 83) rfl) ?_
        refine G_if_le (tgt := 167) (by decide) o4 (ck dc35 (i := 84) rfl) (fun c => ?_) (fun c => ?_)
        · replace h := h.1 c
          refine G_sipush (n := 200) rfl (ck dc35 (i := 87) rfl) ?_
          obtain ⟨o25, h⟩ := h
          refine G_icmp_le (tgt := 176) (by decide) o25 (by decide) (ck dc35 (i := 88) rfl) (fun c => ?_) (fun c => ?_)
          · replace h := h.1 c
            refine G_iload_n 4 rfl rfl (ck dc35 (i := 91) rfl) ?_
            obtain ⟨o26, h⟩ := h
            refine G_if_eq (tgt := 201) (by decide) o26 (ck dc35 (i := 92) rfl) (fun c => ?_) (fun c => ?_)
            · replace h := h.1 c
              refine G_iload_n 4 rfl rfl (ck dc35 (i := 104) rfl) ?_
              refine G_if_eq (tgt := 213) (by decide) o26 (ck dc35 (i := 105) rfl) (fun c => ?_) (fun c => ?_)
              · replace h := h.1 c
                refine G_iconst (ck dc35 (i := 111) rfl) ?_
                exact H_iretI mf35 (ck dc35 (i := 112) rfl) rfl h
              · replace h := h.2 c
                refine G_aload_n 3 rfl rfl (ck dc35 (i := 106) rfl) ?_
                refine H_getR mf35 (ck dc35 (i := 107) rfl) fw_Tape_44 fc0_3 ly1 ra1 rf1_3 (by decide) ?_
                refine G_iload_n 5 rfl rfl (ck dc35 (i := 108) rfl) ?_
                refine G_iload 0 rfl (ck dc35 (i := 109) rfl) ?_
                obtain ⟨o27, h⟩ := h
                refine G_iast (ck dc35 (i := 110) rfl) ra2 ly2 (by decide) o27 ?_
                refine G_iconst (ck dc35 (i := 111) rfl) ?_
                exact H_iretI mf35 (ck dc35 (i := 112) rfl) rfl h
            · replace h := h.2 c
              refine G_iload 6 rfl (ck dc35 (i := 93) rfl) ?_
              refine G_if_le (tgt := 201) (by decide) o4 (ck dc35 (i := 94) rfl) (fun c => ?_) (fun c => ?_)
              · replace h := h.1 c
                refine G_iload_n 4 rfl rfl (ck dc35 (i := 104) rfl) ?_
                refine G_if_eq (tgt := 213) (by decide) o26 (ck dc35 (i := 105) rfl) (fun c => ?_) (fun c => ?_)
                · replace h := h.1 c
                  refine G_iconst (ck dc35 (i := 111) rfl) ?_
                  exact H_iretI mf35 (ck dc35 (i := 112) rfl) rfl h
                · replace h := h.2 c
                  refine G_aload_n 3 rfl rfl (ck dc35 (i := 106) rfl) ?_
                  refine H_getR mf35 (ck dc35 (i := 107) rfl) fw_Tape_44 fc0_3 ly1 ra1 rf1_3 (by decide) ?_
                  refine G_iload_n 5 rfl rfl (ck dc35 (i := 108) rfl) ?_
                  refine G_iload 0 rfl (ck dc35 (i := 109) rfl) ?_
                  obtain ⟨o28, h⟩ := h
                  refine G_iast (ck dc35 (i := 110) rfl) ra2 ly2 (by decide) o28 ?_
                  refine G_iconst (ck dc35 (i := 111) rfl) ?_
                  exact H_iretI mf35 (ck dc35 (i := 112) rfl) rfl h
              · replace h := h.2 c
                refine G_aload_n 3 rfl rfl (ck dc35 (i := 95) rfl) ?_
                refine G_iload_n 5 rfl rfl (ck dc35 (i := 96) rfl) ?_
                refine G_iload 7 rfl (ck dc35 (i := 97) rfl) ?_
                refine G_iload 6 rfl (ck dc35 (i := 98) rfl) ?_
                refine G_iconst (ck dc35 (i := 99) rfl) ?_
                refine G_isub (ck dc35 (i := 100) rfl) ?_
                refine G_iload 0 rfl (ck dc35 (i := 101) rfl) ?_
                refine H_vV mf35 (As := [.inl l3, .inl l5, .inl (l4 - 1), .inl r21]) (st := []) (ck dc35 (i := 102) rfl) lk_Tape_38 rfl rfl (Nat.le_of_ble_eq_true rfl) ly1 ra1 ⟨Nat.le_refl _, Nat.le_refl _⟩ h (fun M30 h => ?_)
                refine G_goto (tgt := 213) (by decide) (ck dc35 (i := 103) rfl) ?_
                refine G_iconst (ck dc35 (i := 111) rfl) ?_
                exact H_iretI mf35 (ck dc35 (i := 112) rfl) rfl h
          · replace h := h.2 c
            refine G_iload 1 rfl (ck dc35 (i := 89) rfl) ?_
            exact H_iretI mf35 (ck dc35 (i := 90) rfl) rfl h
        · replace h := h.2 c
          refine G_bipush (n := 20) rfl (ck dc35 (i := 85) rfl) ?_
          refine G_goto (tgt := 170) (by decide) (ck dc35 (i := 86) rfl) ?_
          obtain ⟨o31, h⟩ := h
          refine G_icmp_le (tgt := 176) (by decide) o31 (by decide) (ck dc35 (i := 88) rfl) (fun c => ?_) (fun c => ?_)
          · replace h := h.1 c
            refine G_iload_n 4 rfl rfl (ck dc35 (i := 91) rfl) ?_
            obtain ⟨o32, h⟩ := h
            refine G_if_eq (tgt := 201) (by decide) o32 (ck dc35 (i := 92) rfl) (fun c => ?_) (fun c => ?_)
            · replace h := h.1 c
              refine G_iload_n 4 rfl rfl (ck dc35 (i := 104) rfl) ?_
              refine G_if_eq (tgt := 213) (by decide) o32 (ck dc35 (i := 105) rfl) (fun c => ?_) (fun c => ?_)
              · replace h := h.1 c
                refine G_iconst (ck dc35 (i := 111) rfl) ?_
                exact H_iretI mf35 (ck dc35 (i := 112) rfl) rfl h
              · replace h := h.2 c
                refine G_aload_n 3 rfl rfl (ck dc35 (i := 106) rfl) ?_
                refine H_getR mf35 (ck dc35 (i := 107) rfl) fw_Tape_44 fc0_3 ly1 ra1 rf1_3 (by decide) ?_
                refine G_iload_n 5 rfl rfl (ck dc35 (i := 108) rfl) ?_
                refine G_iload 0 rfl (ck dc35 (i := 109) rfl) ?_
                obtain ⟨o33, h⟩ := h
                refine G_iast (ck dc35 (i := 110) rfl) ra2 ly2 (by decide) o33 ?_
                refine G_iconst (ck dc35 (i := 111) rfl) ?_
                exact H_iretI mf35 (ck dc35 (i := 112) rfl) rfl h
            · replace h := h.2 c
              refine G_iload 6 rfl (ck dc35 (i := 93) rfl) ?_
              refine G_if_le (tgt := 201) (by decide) o4 (ck dc35 (i := 94) rfl) (fun c => ?_) (fun c => ?_)
              · replace h := h.1 c
                refine G_iload_n 4 rfl rfl (ck dc35 (i := 104) rfl) ?_
                refine G_if_eq (tgt := 213) (by decide) o32 (ck dc35 (i := 105) rfl) (fun c => ?_) (fun c => ?_)
                · replace h := h.1 c
                  refine G_iconst (ck dc35 (i := 111) rfl) ?_
                  exact H_iretI mf35 (ck dc35 (i := 112) rfl) rfl h
                · replace h := h.2 c
                  refine G_aload_n 3 rfl rfl (ck dc35 (i := 106) rfl) ?_
                  refine H_getR mf35 (ck dc35 (i := 107) rfl) fw_Tape_44 fc0_3 ly1 ra1 rf1_3 (by decide) ?_
                  refine G_iload_n 5 rfl rfl (ck dc35 (i := 108) rfl) ?_
                  refine G_iload 0 rfl (ck dc35 (i := 109) rfl) ?_
                  obtain ⟨o34, h⟩ := h
                  refine G_iast (ck dc35 (i := 110) rfl) ra2 ly2 (by decide) o34 ?_
                  refine G_iconst (ck dc35 (i := 111) rfl) ?_
                  exact H_iretI mf35 (ck dc35 (i := 112) rfl) rfl h
              · replace h := h.2 c
                refine G_aload_n 3 rfl rfl (ck dc35 (i := 95) rfl) ?_
                refine G_iload_n 5 rfl rfl (ck dc35 (i := 96) rfl) ?_
                refine G_iload 7 rfl (ck dc35 (i := 97) rfl) ?_
                refine G_iload 6 rfl (ck dc35 (i := 98) rfl) ?_
                refine G_iconst (ck dc35 (i := 99) rfl) ?_
                refine G_isub (ck dc35 (i := 100) rfl) ?_
                refine G_iload 0 rfl (ck dc35 (i := 101) rfl) ?_
                refine H_vV mf35 (As := [.inl l3, .inl l5, .inl (l4 - 1), .inl r21]) (st := []) (ck dc35 (i := 102) rfl) lk_Tape_38 rfl rfl (Nat.le_of_ble_eq_true rfl) ly1 ra1 ⟨Nat.le_refl _, Nat.le_refl _⟩ h (fun M36 h => ?_)
                refine G_goto (tgt := 213) (by decide) (ck dc35 (i := 103) rfl) ?_
                refine G_iconst (ck dc35 (i := 111) rfl) ?_
                exact H_iretI mf35 (ck dc35 (i := 112) rfl) rfl h
          · replace h := h.2 c
            refine G_iload 1 rfl (ck dc35 (i := 89) rfl) ?_
            exact H_iretI mf35 (ck dc35 (i := 90) rfl) rfl h
  · replace h := h.2 c
    refine G_aload_n 0 rfl rfl (ck dc35 (i := 58) rfl) ?_
    refine H_getI mf35 (ck dc35 (i := 59) rfl) fw_Tape_19 (Or.inl fc7_2) ly45 ra45 (x := (M2 45 2)) rfl ?_
    exact H_iretI mf35 (ck dc35 (i := 60) rfl) rfl h
theorem c_ta_scan (K : Nat) (a2 : Int) (M : PM) (Q : Option PV → PM → Prop)
    (h : G none (K + 1) jTape_scan 7 [(0, .inr (.inr 45)), (1, .inr (.inr 1)), (2, .inl a2), (3, .inl 1)] [] P0 P0 (mset M 45 2 0) Q) : Call (K + 1) jTape_scan [.inr (.inr 45), .inr (.inr 1), .inl a2] P0 P0 M Q := by
  refine Call.intro (by decide +kernel) (mfx.le mf34 (Nat.le_of_ble_eq_true rfl)) (Nat.le_refl _) rfl ?_
  refine G_aload_n 0 rfl rfl (ck dc34 (i := 0) rfl) ?_
  refine G_iconst (ck dc34 (i := 1) rfl) ?_
  refine H_putI mf34 (ck dc34 (i := 2) rfl) fw_Tape_19 fc7_2 ly45 ra45 (Or.inl rfl) ?_
  refine G_iconst (ck dc34 (i := 3) rfl) ?_
  refine G_istore_n (L' := [(3, .inl 1), (0, .inr (.inr 45)), (1, .inr (.inr 1)), (2, .inl a2)]) rfl (mfx.lt mf34 (Nat.le_of_ble_eq_true rfl)) rfl (ck dc34 (i := 4) rfl) ?_
  exact G_sub [1, 2, 3, 0] rfl h
set_option maxHeartbeats 20000000 in
theorem g_ta_scan_7 (K : Nat) (l2 l3 : Int) (M : PM) (Q : Option PV → PM → Prop)
    (h : R32 l3 ∧ (120 < l3 → Q (some (.inl ((-100) - (M 45 2)))) M) ∧ (¬ 120 < l3 → Call K jTape_scanPart [.inr (.inr 45), .inr (.inr 1), .inl l2] P0 P0 M (retI fun r2 M3 => R32 r2 ∧ (r2 < 0 → R32 (M3 45 2) ∧ R32 (M3 45 0) ∧ (¬ (M3 45 2) = (M3 45 0) → (0 ≤ (M3 45 2) ∧ (M3 45 2) < 120) ∧ R32 (M3 46 (M3 45 2)) ∧ ((M3 46 (M3 45 2)) = 59 → G none (K + 1) jTape_scan 7 [(0, .inr (.inr 45)), (1, .inr (.inr 1)), (2, .inl l2), (3, .inl (l3 + 1))] [] P0 P0 (mset M3 45 2 ((M3 45 2) + 1)) Q) ∧ (¬ (M3 46 (M3 45 2)) = 59 → Q (some (.inl ((-100) - (M3 45 2)))) M3)) ∧ ((M3 45 2) = (M3 45 0) → Q (some (.inl l3)) M3)) ∧ (¬ r2 < 0 → Q (some (.inl ((-100) - r2))) M3)))) : G none (K + 1) jTape_scan 7 [(0, .inr (.inr 45)), (1, .inr (.inr 1)), (2, .inl l2), (3, .inl l3)] [] P0 P0 M Q := by
  refine G_iload_n 3 rfl rfl (ck dc34 (i := 5) rfl) ?_
  refine G_bipush (n := 120) rfl (ck dc34 (i := 6) rfl) ?_
  obtain ⟨o1, h⟩ := h
  refine G_icmp_gt (tgt := 78) (by decide) o1 (by decide) (ck dc34 (i := 7) rfl) (fun c => ?_) (fun c => ?_)
  · replace h := h.1 c
    refine G_bipush (n := (-100)) rfl (ck dc34 (i := 42) rfl) ?_
    refine G_aload_n 0 rfl rfl (ck dc34 (i := 43) rfl) ?_
    refine H_getI mf34 (ck dc34 (i := 44) rfl) fw_Tape_19 (Or.inl fc7_2) ly45 ra45 (x := (M 45 2)) rfl ?_
    refine G_isub (ck dc34 (i := 45) rfl) ?_
    exact H_iretI mf34 (ck dc34 (i := 46) rfl) rfl h
  · replace h := h.2 c
    refine G_aload_n 0 rfl rfl (ck dc34 (i := 8) rfl) ?_
    refine G_aload_n 1 rfl rfl (ck dc34 (i := 9) rfl) ?_
    refine G_iload_n 2 rfl rfl (ck dc34 (i := 10) rfl) ?_
    refine H_vI mf34 (As := [.inr (.inr 1), .inl l2]) (st := []) (ck dc34 (i := 11) rfl) lk_Tape_22 rfl rfl (Nat.le_of_ble_eq_true rfl) ly45 ra45 ⟨Nat.le_refl _, Nat.le_refl _⟩ h (fun r2 M3 h => ?_)
    refine G_istore (L' := [(4, .inl r2), (0, .inr (.inr 45)), (1, .inr (.inr 1)), (2, .inl l2), (3, .inl l3)]) (mfx.lt mf34 (Nat.le_of_ble_eq_true rfl)) rfl (ck dc34 (i := 12) rfl) ?_
    refine G_iload 0 rfl (ck dc34 (i := 13) rfl) ?_
    obtain ⟨o4, h⟩ := h
    refine G_if_lt (tgt := 32) (by decide) o4 (ck dc34 (i := 14) rfl) (fun c => ?_) (fun c => ?_)
    · replace h := h.1 c
      refine G_aload_n 1 rfl rfl (ck dc34 (i := 19) rfl) ?_
      refine H_getI mf34 (ck dc34 (i := 20) rfl) fw_Tape_19 (Or.inl fc7_2) ly45 ra45 (x := (M3 45 2)) rfl ?_
      refine G_aload_n 1 rfl rfl (ck dc34 (i := 21) rfl) ?_
      refine H_getI mf34 (ck dc34 (i := 22) rfl) fw_Tape_15 (Or.inl fc7_0) ly45 ra45 (x := (M3 45 0)) rfl ?_
      obtain ⟨o5, h⟩ := h
      obtain ⟨o6, h⟩ := h
      refine G_icmp_ne (tgt := 45) (by decide) o5 o6 (ck dc34 (i := 23) rfl) (fun c => ?_) (fun c => ?_)
      · replace h := h.1 c
        refine G_aload_n 1 rfl rfl (ck dc34 (i := 26) rfl) ?_
        refine H_getR mf34 (ck dc34 (i := 27) rfl) fw_Tape_11 fc7_1 ly45 ra45 rf45_1 (by decide) ?_
        refine G_aload_n 1 rfl rfl (ck dc34 (i := 28) rfl) ?_
        refine H_getI mf34 (ck dc34 (i := 29) rfl) fw_Tape_19 (Or.inl fc7_2) ly45 ra45 (x := (M3 45 2)) rfl ?_
        obtain ⟨o7, h⟩ := h
        refine H_iald (ck dc34 (i := 30) rfl) ly46 (by decide) ra46 o7 (x := (M3 46 (M3 45 2))) rfl ?_
        refine G_bipush (n := 59) rfl (ck dc34 (i := 31) rfl) ?_
        obtain ⟨o8, h⟩ := h
        refine G_icmp_eq (tgt := 62) (by decide) o8 (by decide) (ck dc34 (i := 32) rfl) (fun c => ?_) (fun c => ?_)
        · replace h := h.1 c
          refine G_aload_n 1 rfl rfl (ck dc34 (i := 34) rfl) ?_
          refine G_dup rfl (ck dc34 (i := 35) rfl) ?_
          refine H_getI mf34 (ck dc34 (i := 36) rfl) fw_Tape_19 (Or.inl fc7_2) ly45 ra45 (x := (M3 45 2)) rfl ?_
          refine G_iconst (ck dc34 (i := 37) rfl) ?_
          refine G_iadd (ck dc34 (i := 38) rfl) ?_
          refine H_putI mf34 (ck dc34 (i := 39) rfl) fw_Tape_19 fc7_2 ly45 ra45 (Or.inl rfl) ?_
          refine G_iinc (L' := [(3, .inl (l3 + 1)), (4, .inl r2), (0, .inr (.inr 45)), (1, .inr (.inr 1)), (2, .inl l2)]) 4 rfl (mfx.lt mf34 (Nat.le_of_ble_eq_true rfl)) rfl (ck dc34 (i := 40) rfl) ?_
          refine G_goto (tgt := 7) (by decide) (ck dc34 (i := 41) rfl) ?_
          exact G_sub [2, 3, 4, 0] rfl h
        · replace h := h.2 c
          refine G_goto (tgt := 78) (by decide) (ck dc34 (i := 33) rfl) ?_
          refine G_bipush (n := (-100)) rfl (ck dc34 (i := 42) rfl) ?_
          refine G_aload_n 1 rfl rfl (ck dc34 (i := 43) rfl) ?_
          refine H_getI mf34 (ck dc34 (i := 44) rfl) fw_Tape_19 (Or.inl fc7_2) ly45 ra45 (x := (M3 45 2)) rfl ?_
          refine G_isub (ck dc34 (i := 45) rfl) ?_
          exact H_iretI mf34 (ck dc34 (i := 46) rfl) rfl h
      · replace h := h.2 c
        refine G_iload_n 4 rfl rfl (ck dc34 (i := 24) rfl) ?_
        exact H_iretI mf34 (ck dc34 (i := 25) rfl) rfl h
    · replace h := h.2 c
      refine G_bipush (n := (-100)) rfl (ck dc34 (i := 15) rfl) ?_
      refine G_iload 0 rfl (ck dc34 (i := 16) rfl) ?_
      refine G_isub (ck dc34 (i := 17) rfl) ?_
      exact H_iretI mf34 (ck dc34 (i := 18) rfl) rfl h
theorem c_ratio_divisor (K : Nat) (a1 a2 : Int) (M : PM) (Q : Option PV → PM → Prop)
    (h : G none (K + 1) jRatio_divisor 9 [(4, .inr (.inl a1)), (6, .inr (.inl a2)), (8, .inl 0)] [] P0 P0 M Q) : Call (K + 1) jRatio_divisor [.inr (.inl a1), .inr (.inl a2)] P0 P0 M Q := by
  refine Call.intro (by decide +kernel) (mfx.le mf62 (Nat.le_of_ble_eq_true rfl)) (Nat.le_refl _) rfl ?_
  refine G_lload_n 0 rfl rfl (ck dc62 (i := 0) rfl) ?_
  refine G_lstore (L' := [(4, .inr (.inl a1)), (0, .inr (.inl a1)), (2, .inr (.inl a2))]) (mfx.lt mf62 (Nat.le_of_ble_eq_true rfl)) rfl (ck dc62 (i := 1) rfl) ?_
  refine G_lload_n 2 rfl rfl (ck dc62 (i := 2) rfl) ?_
  refine G_lstore (L' := [(6, .inr (.inl a2)), (4, .inr (.inl a1)), (0, .inr (.inl a1)), (2, .inr (.inl a2))]) (mfx.lt mf62 (Nat.le_of_ble_eq_true rfl)) rfl (ck dc62 (i := 3) rfl) ?_
  refine G_iconst (ck dc62 (i := 4) rfl) ?_
  refine G_istore (L' := [(8, .inl 0), (6, .inr (.inl a2)), (4, .inr (.inl a1)), (0, .inr (.inl a1)), (2, .inr (.inl a2))]) (mfx.lt mf62 (Nat.le_of_ble_eq_true rfl)) rfl (ck dc62 (i := 5) rfl) ?_
  exact G_sub [2, 1, 0] rfl h
theorem g_ratio_divisor_9 (K : Nat) (l4 l6 l8 : Int) (M : PM) (Q : Option PV → PM → Prop)
    (h : R32 l8 ∧ (1000 ≤ l8 → R64 l4 ∧ Q (some (.inr (.inl (mx2 l4 1)))) M) ∧ (¬ 1000 ≤ l8 → R64 l6 ∧ (l6 = 0 → R64 l4 ∧ Q (some (.inr (.inl (mx2 l4 1)))) M) ∧ (¬ l6 = 0 → R64 l4 ∧ l6 ≠ 0 ∧ G none (K + 1) jRatio_divisor 9 [(4, .inr (.inl l6)), (6, .inr (.inl (Int.tmod l4 l6))), (8, .inl (l8 + 1))] [] P0 P0 M Q))) : G none (K + 1) jRatio_divisor 9 [(4, .inr (.inl l4)), (6, .inr (.inl l6)), (8, .inl l8)] [] P0 P0 M Q := by
  refine G_iload 2 rfl (ck dc62 (i := 6) rfl) ?_
  refine G_sipush (n := 1000) rfl (ck dc62 (i := 7) rfl) ?_
  obtain ⟨o1, h⟩ := h
  refine G_icmp_ge (tgt := 45) (by decide) o1 (by decide) (ck dc62 (i := 8) rfl) (fun c => ?_) (fun c => ?_)
  · replace h := h.1 c
    refine G_lload 0 rfl (ck dc62 (i := 23) rfl) ?_
    refine G_lconst (v := 1) rfl (ck dc62 (i := 24) rfl) ?_
    obtain ⟨o2, h⟩ := h
    refine H_mmaxl mf62 (ck dc62 (i := 25) rfl) lm_Ratio_11 (Nat.le_refl _) (Nat.le_of_ble_eq_true rfl) o2 (by decide) ?_
    exact H_lret mf62 (ck dc62 (i := 26) rfl) rfl h
  · replace h := h.2 c
    refine G_lload 1 rfl (ck dc62 (i := 9) rfl) ?_
    refine G_lconst (v := 0) rfl (ck dc62 (i := 10) rfl) ?_
    obtain ⟨o3, h⟩ := h
    refine G_lif_eq (tgt := 45) (ck dc62 (i := 12) rfl) (by decide) o3 (by decide) (ck dc62 (i := 11) rfl) (fun c => ?_) (fun c => ?_)
    · replace h := h.1 c
      refine G_lload 0 rfl (ck dc62 (i := 23) rfl) ?_
      refine G_lconst (v := 1) rfl (ck dc62 (i := 24) rfl) ?_
      obtain ⟨o4, h⟩ := h
      refine H_mmaxl mf62 (ck dc62 (i := 25) rfl) lm_Ratio_11 (Nat.le_refl _) (Nat.le_of_ble_eq_true rfl) o4 (by decide) ?_
      exact H_lret mf62 (ck dc62 (i := 26) rfl) rfl h
    · replace h := h.2 c
      refine G_lload 0 rfl (ck dc62 (i := 13) rfl) ?_
      refine G_lload 1 rfl (ck dc62 (i := 14) rfl) ?_
      obtain ⟨o5, h⟩ := h
      obtain ⟨o6, h⟩ := h
      refine G_lrem o5 o3 o6 (ck dc62 (i := 15) rfl) ?_
      refine G_lstore (L' := [(9, .inr (.inl (Int.tmod l4 l6))), (4, .inr (.inl l4)), (6, .inr (.inl l6)), (8, .inl l8)]) (mfx.lt mf62 (Nat.le_of_ble_eq_true rfl)) rfl (ck dc62 (i := 16) rfl) ?_
      refine G_lload 2 rfl (ck dc62 (i := 17) rfl) ?_
      refine G_lstore (L' := [(4, .inr (.inl l6)), (9, .inr (.inl (Int.tmod l4 l6))), (6, .inr (.inl l6)), (8, .inl l8)]) (mfx.lt mf62 (Nat.le_of_ble_eq_true rfl)) rfl (ck dc62 (i := 18) rfl) ?_
      refine G_lload 1 rfl (ck dc62 (i := 19) rfl) ?_
      refine G_lstore (L' := [(6, .inr (.inl (Int.tmod l4 l6))), (4, .inr (.inl l6)), (9, .inr (.inl (Int.tmod l4 l6))), (8, .inl l8)]) (mfx.lt mf62 (Nat.le_of_ble_eq_true rfl)) rfl (ck dc62 (i := 20) rfl) ?_
      refine G_iinc (L' := [(8, .inl (l8 + 1)), (6, .inr (.inl (Int.tmod l4 l6))), (4, .inr (.inl l6)), (9, .inr (.inl (Int.tmod l4 l6)))]) 3 rfl (mfx.lt mf62 (Nat.le_of_ble_eq_true rfl)) rfl (ck dc62 (i := 21) rfl) ?_
      refine G_goto (tgt := 9) (by decide) (ck dc62 (i := 22) rfl) ?_
      exact G_sub [2, 1, 0] rfl h
theorem c_jinteger_bitCount (K : Nat) (a1 : Int) (M : PM) (Q : Option PV → PM → Prop)
    (h : Q (some (.inl (bAnd (((bAnd (((bAnd (a1 - (bAnd (bUsr a1 1) 1431655765)) 858993459) + (bAnd (bUsr (a1 - (bAnd (bUsr a1 1) 1431655765)) 2) 858993459)) + (bUsr ((bAnd (a1 - (bAnd (bUsr a1 1) 1431655765)) 858993459) + (bAnd (bUsr (a1 - (bAnd (bUsr a1 1) 1431655765)) 2) 858993459)) 4)) 252645135) + (bUsr (bAnd (((bAnd (a1 - (bAnd (bUsr a1 1) 1431655765)) 858993459) + (bAnd (bUsr (a1 - (bAnd (bUsr a1 1) 1431655765)) 2) 858993459)) + (bUsr ((bAnd (a1 - (bAnd (bUsr a1 1) 1431655765)) 858993459) + (bAnd (bUsr (a1 - (bAnd (bUsr a1 1) 1431655765)) 2) 858993459)) 4)) 252645135) 8)) + (bUsr ((bAnd (((bAnd (a1 - (bAnd (bUsr a1 1) 1431655765)) 858993459) + (bAnd (bUsr (a1 - (bAnd (bUsr a1 1) 1431655765)) 2) 858993459)) + (bUsr ((bAnd (a1 - (bAnd (bUsr a1 1) 1431655765)) 858993459) + (bAnd (bUsr (a1 - (bAnd (bUsr a1 1) 1431655765)) 2) 858993459)) 4)) 252645135) + (bUsr (bAnd (((bAnd (a1 - (bAnd (bUsr a1 1) 1431655765)) 858993459) + (bAnd (bUsr (a1 - (bAnd (bUsr a1 1) 1431655765)) 2) 858993459)) + (bUsr ((bAnd (a1 - (bAnd (bUsr a1 1) 1431655765)) 858993459) + (bAnd (bUsr (a1 - (bAnd (bUsr a1 1) 1431655765)) 2) 858993459)) 4)) 252645135) 8)) 16)) 63))) M) : Call (K + 1) jJInteger_bitCount [.inl a1] P0 P0 M Q := by
  refine Call.intro (by decide +kernel) (mfx.le mf56 (Nat.le_of_ble_eq_true rfl)) (Nat.le_refl _) rfl ?_
  refine G_iload_n 0 rfl rfl (ck dc56 (i := 0) rfl) ?_
  refine G_iload_n 0 rfl rfl (ck dc56 (i := 1) rfl) ?_
  refine G_iconst (ck dc56 (i := 2) rfl) ?_
  refine G_iushr (ck dc56 (i := 3) rfl) ?_
  refine H_ldcw mf56 (v := 1431655765) (ck dc56 (i := 4) rfl) kc_JInteger_265 ?_
  refine G_iand (ck dc56 (i := 5) rfl) ?_
  refine G_isub (ck dc56 (i := 6) rfl) ?_
  refine G_istore_n (L' := [(0, .inl (a1 - (bAnd (bUsr a1 1) 1431655765)))]) rfl (mfx.lt mf56 (Nat.le_of_ble_eq_true rfl)) rfl (ck dc56 (i := 7) rfl) ?_
  refine G_iload_n 0 rfl rfl (ck dc56 (i := 8) rfl) ?_
  refine H_ldcw mf56 (v := 858993459) (ck dc56 (i := 9) rfl) kc_JInteger_266 ?_
  refine G_iand (ck dc56 (i := 10) rfl) ?_
  refine G_iload_n 0 rfl rfl (ck dc56 (i := 11) rfl) ?_
  refine G_iconst (ck dc56 (i := 12) rfl) ?_
  refine G_iushr (ck dc56 (i := 13) rfl) ?_
  refine H_ldcw mf56 (v := 858993459) (ck dc56 (i := 14) rfl) kc_JInteger_266 ?_
  refine G_iand (ck dc56 (i := 15) rfl) ?_
  refine G_iadd (ck dc56 (i := 16) rfl) ?_
  refine G_istore_n (L' := [(0, .inl ((bAnd (a1 - (bAnd (bUsr a1 1) 1431655765)) 858993459) + (bAnd (bUsr (a1 - (bAnd (bUsr a1 1) 1431655765)) 2) 858993459)))]) rfl (mfx.lt mf56 (Nat.le_of_ble_eq_true rfl)) rfl (ck dc56 (i := 17) rfl) ?_
  refine G_iload_n 0 rfl rfl (ck dc56 (i := 18) rfl) ?_
  refine G_iload_n 0 rfl rfl (ck dc56 (i := 19) rfl) ?_
  refine G_iconst (ck dc56 (i := 20) rfl) ?_
  refine G_iushr (ck dc56 (i := 21) rfl) ?_
  refine G_iadd (ck dc56 (i := 22) rfl) ?_
  refine H_ldcw mf56 (v := 252645135) (ck dc56 (i := 23) rfl) kc_JInteger_267 ?_
  refine G_iand (ck dc56 (i := 24) rfl) ?_
  refine G_istore_n (L' := [(0, .inl (bAnd (((bAnd (a1 - (bAnd (bUsr a1 1) 1431655765)) 858993459) + (bAnd (bUsr (a1 - (bAnd (bUsr a1 1) 1431655765)) 2) 858993459)) + (bUsr ((bAnd (a1 - (bAnd (bUsr a1 1) 1431655765)) 858993459) + (bAnd (bUsr (a1 - (bAnd (bUsr a1 1) 1431655765)) 2) 858993459)) 4)) 252645135))]) rfl (mfx.lt mf56 (Nat.le_of_ble_eq_true rfl)) rfl (ck dc56 (i := 25) rfl) ?_
  refine G_iload_n 0 rfl rfl (ck dc56 (i := 26) rfl) ?_
  refine G_iload_n 0 rfl rfl (ck dc56 (i := 27) rfl) ?_
  refine G_bipush (n := 8) rfl (ck dc56 (i := 28) rfl) ?_
  refine G_iushr (ck dc56 (i := 29) rfl) ?_
  refine G_iadd (ck dc56 (i := 30) rfl) ?_
  refine G_istore_n (L' := [(0, .inl ((bAnd (((bAnd (a1 - (bAnd (bUsr a1 1) 1431655765)) 858993459) + (bAnd (bUsr (a1 - (bAnd (bUsr a1 1) 1431655765)) 2) 858993459)) + (bUsr ((bAnd (a1 - (bAnd (bUsr a1 1) 1431655765)) 858993459) + (bAnd (bUsr (a1 - (bAnd (bUsr a1 1) 1431655765)) 2) 858993459)) 4)) 252645135) + (bUsr (bAnd (((bAnd (a1 - (bAnd (bUsr a1 1) 1431655765)) 858993459) + (bAnd (bUsr (a1 - (bAnd (bUsr a1 1) 1431655765)) 2) 858993459)) + (bUsr ((bAnd (a1 - (bAnd (bUsr a1 1) 1431655765)) 858993459) + (bAnd (bUsr (a1 - (bAnd (bUsr a1 1) 1431655765)) 2) 858993459)) 4)) 252645135) 8)))]) rfl (mfx.lt mf56 (Nat.le_of_ble_eq_true rfl)) rfl (ck dc56 (i := 31) rfl) ?_
  refine G_iload_n 0 rfl rfl (ck dc56 (i := 32) rfl) ?_
  refine G_iload_n 0 rfl rfl (ck dc56 (i := 33) rfl) ?_
  refine G_bipush (n := 16) rfl (ck dc56 (i := 34) rfl) ?_
  refine G_iushr (ck dc56 (i := 35) rfl) ?_
  refine G_iadd (ck dc56 (i := 36) rfl) ?_
  refine G_istore_n (L' := [(0, .inl (((bAnd (((bAnd (a1 - (bAnd (bUsr a1 1) 1431655765)) 858993459) + (bAnd (bUsr (a1 - (bAnd (bUsr a1 1) 1431655765)) 2) 858993459)) + (bUsr ((bAnd (a1 - (bAnd (bUsr a1 1) 1431655765)) 858993459) + (bAnd (bUsr (a1 - (bAnd (bUsr a1 1) 1431655765)) 2) 858993459)) 4)) 252645135) + (bUsr (bAnd (((bAnd (a1 - (bAnd (bUsr a1 1) 1431655765)) 858993459) + (bAnd (bUsr (a1 - (bAnd (bUsr a1 1) 1431655765)) 2) 858993459)) + (bUsr ((bAnd (a1 - (bAnd (bUsr a1 1) 1431655765)) 858993459) + (bAnd (bUsr (a1 - (bAnd (bUsr a1 1) 1431655765)) 2) 858993459)) 4)) 252645135) 8)) + (bUsr ((bAnd (((bAnd (a1 - (bAnd (bUsr a1 1) 1431655765)) 858993459) + (bAnd (bUsr (a1 - (bAnd (bUsr a1 1) 1431655765)) 2) 858993459)) + (bUsr ((bAnd (a1 - (bAnd (bUsr a1 1) 1431655765)) 858993459) + (bAnd (bUsr (a1 - (bAnd (bUsr a1 1) 1431655765)) 2) 858993459)) 4)) 252645135) + (bUsr (bAnd (((bAnd (a1 - (bAnd (bUsr a1 1) 1431655765)) 858993459) + (bAnd (bUsr (a1 - (bAnd (bUsr a1 1) 1431655765)) 2) 858993459)) + (bUsr ((bAnd (a1 - (bAnd (bUsr a1 1) 1431655765)) 858993459) + (bAnd (bUsr (a1 - (bAnd (bUsr a1 1) 1431655765)) 2) 858993459)) 4)) 252645135) 8)) 16)))]) rfl (mfx.lt mf56 (Nat.le_of_ble_eq_true rfl)) rfl (ck dc56 (i := 37) rfl) ?_
  refine G_iload_n 0 rfl rfl (ck dc56 (i := 38) rfl) ?_
  refine G_bipush (n := 63) rfl (ck dc56 (i := 39) rfl) ?_
  refine G_iand (ck dc56 (i := 40) rfl) ?_
  exact H_iretI mf56 (ck dc56 (i := 41) rfl) rfl h
set_option maxHeartbeats 20000000 in
theorem c_ratio_tell (K : Nat) (a1 a2 a3 : Int) (M : PM) (Q : Option PV → PM → Prop)
    (h : R32 a3 ∧ (a3 = 0 → Call K jRatio_divisor [.inr (.inl a1), .inr (.inl a2)] P0 P0 M (retL fun r2 M3 => (¬ a3 = 0 → R64 a2 ∧ R64 r2 ∧ r2 ≠ 0 ∧ Q (some (.inr (.inl (Int.tdiv a2 r2)))) M3) ∧ (a3 = 0 → R64 a1 ∧ R64 r2 ∧ r2 ≠ 0 ∧ Q (some (.inr (.inl (Int.tdiv a1 r2)))) M3))) ∧ (¬ a3 = 0 → (a3 = 1 → Call K jRatio_divisor [.inr (.inl a1), .inr (.inl a2)] P0 P0 M (retL fun r10 M11 => (¬ a3 = 0 → R64 a2 ∧ R64 r10 ∧ r10 ≠ 0 ∧ Q (some (.inr (.inl (Int.tdiv a2 r10)))) M11) ∧ (a3 = 0 → R64 a1 ∧ R64 r10 ∧ r10 ≠ 0 ∧ Q (some (.inr (.inl (Int.tdiv a1 r10)))) M11))) ∧ (¬ a3 = 1 → Q (some (.inr (.inl (-9223372036854775808)))) M))) : Call (K + 1) jRatio_tell [.inr (.inl a1), .inr (.inl a2), .inl a3] P0 P0 M Q := by
  refine Call.intro (by decide +kernel) (mfx.le mf73 (Nat.le_of_ble_eq_true rfl)) (Nat.le_refl _) rfl ?_
  refine G_iload 2 rfl (ck dc73 (i := 0) rfl) ?_
  obtain ⟨o1, h⟩ := h
  refine G_if_eq (tgt := 15) (by decide) o1 (ck dc73 (i := 1) rfl) (fun c => ?_) (fun c => ?_)
  · replace h := h.1 c
    refine G_lload_n 0 rfl rfl (ck dc73 (i := 7) rfl) ?_
    refine G_lload_n 1 rfl rfl (ck dc73 (i := 8) rfl) ?_
    refine H_sL mf73 (As := [.inr (.inl a1), .inr (.inl a2)]) (st := []) (ck dc73 (i := 9) rfl) lk_Ratio_19 rfl rfl (Nat.le_of_ble_eq_true rfl) ⟨Nat.le_refl _, Nat.le_refl _⟩ h (fun r2 M3 h => ?_)
    refine G_lstore (L' := [(5, .inr (.inl r2)), (0, .inr (.inl a1)), (2, .inr (.inl a2)), (4, .inl a3)]) (mfx.lt mf73 (Nat.le_of_ble_eq_true rfl)) rfl (ck dc73 (i := 10) rfl) ?_
    refine G_iload 3 rfl (ck dc73 (i := 11) rfl) ?_
    refine G_if_ne (tgt := 34) (by decide) o1 (ck dc73 (i := 12) rfl) (fun c => ?_) (fun c => ?_)
    · replace h := h.1 c
      refine G_lload_n 2 rfl rfl (ck dc73 (i := 17) rfl) ?_
      refine G_lload 0 rfl (ck dc73 (i := 18) rfl) ?_
      obtain ⟨o4, h⟩ := h
      obtain ⟨o5, h⟩ := h
      obtain ⟨o6, h⟩ := h
      refine G_ldiv o4 o5 o6 (ck dc73 (i := 19) rfl) ?_
      exact H_lret mf73 (ck dc73 (i := 20) rfl) rfl h
    · replace h := h.2 c
      refine G_lload_n 1 rfl rfl (ck dc73 (i := 13) rfl) ?_
      refine G_lload 0 rfl (ck dc73 (i := 14) rfl) ?_
      obtain ⟨o7, h⟩ := h
      obtain ⟨o8, h⟩ := h
      obtain ⟨o9, h⟩ := h
      refine G_ldiv o7 o8 o9 (ck dc73 (i := 15) rfl) ?_
      refine G_goto (tgt := 38) (by decide) (ck dc73 (i := 16) rfl) ?_
      exact H_lret mf73 (ck dc73 (i := 20) rfl) rfl h
  · replace h := h.2 c
    refine G_iload 2 rfl (ck dc73 (i := 2) rfl) ?_
    refine G_iconst (ck dc73 (i := 3) rfl) ?_
    refine G_icmp_eq (tgt := 15) (by decide) o1 (by decide) (ck dc73 (i := 4) rfl) (fun c => ?_) (fun c => ?_)
    · replace h := h.1 c
      refine G_lload_n 0 rfl rfl (ck dc73 (i := 7) rfl) ?_
      refine G_lload_n 1 rfl rfl (ck dc73 (i := 8) rfl) ?_
      refine H_sL mf73 (As := [.inr (.inl a1), .inr (.inl a2)]) (st := []) (ck dc73 (i := 9) rfl) lk_Ratio_19 rfl rfl (Nat.le_of_ble_eq_true rfl) ⟨Nat.le_refl _, Nat.le_refl _⟩ h (fun r10 M11 h => ?_)
      refine G_lstore (L' := [(5, .inr (.inl r10)), (0, .inr (.inl a1)), (2, .inr (.inl a2)), (4, .inl a3)]) (mfx.lt mf73 (Nat.le_of_ble_eq_true rfl)) rfl (ck dc73 (i := 10) rfl) ?_
      refine G_iload 3 rfl (ck dc73 (i := 11) rfl) ?_
      refine G_if_ne (tgt := 34) (by decide) o1 (ck dc73 (i := 12) rfl) (fun c => ?_) (fun c => ?_)
      · replace h := h.1 c
        refine G_lload_n 2 rfl rfl (ck dc73 (i := 17) rfl) ?_
        refine G_lload 0 rfl (ck dc73 (i := 18) rfl) ?_
        obtain ⟨o12, h⟩ := h
        obtain ⟨o13, h⟩ := h
        obtain ⟨o14, h⟩ := h
        refine G_ldiv o12 o13 o14 (ck dc73 (i := 19) rfl) ?_
        exact H_lret mf73 (ck dc73 (i := 20) rfl) rfl h
      · replace h := h.2 c
        refine G_lload_n 1 rfl rfl (ck dc73 (i := 13) rfl) ?_
        refine G_lload 0 rfl (ck dc73 (i := 14) rfl) ?_
        obtain ⟨o15, h⟩ := h
        obtain ⟨o16, h⟩ := h
        obtain ⟨o17, h⟩ := h
        refine G_ldiv o15 o16 o17 (ck dc73 (i := 15) rfl) ?_
        refine G_goto (tgt := 38) (by decide) (ck dc73 (i := 16) rfl) ?_
        exact H_lret mf73 (ck dc73 (i := 20) rfl) rfl h
    · replace h := h.2 c
      refine H_ldc2 mf73 (v := (-9223372036854775808)) (ck dc73 (i := 5) rfl) kl_Ratio_17 ?_
      exact H_lret mf73 (ck dc73 (i := 6) rfl) rfl h
theorem c_coins_place (K : Nat) (a1 a2 a3 : Int) (M : PM) (Q : Option PV → PM → Prop)
    (h : Q (some (.inl ((((a1 * 5) + a2) * 3) + a3))) M) : Call (K + 1) jCoins_place [.inl a1, .inl a2, .inl a3] P0 P0 M Q := by
  refine Call.intro (by decide +kernel) (mfx.le mf96 (Nat.le_of_ble_eq_true rfl)) (Nat.le_refl _) rfl ?_
  refine G_iload_n 0 rfl rfl (ck dc96 (i := 0) rfl) ?_
  refine G_iconst (ck dc96 (i := 1) rfl) ?_
  refine G_imul (ck dc96 (i := 2) rfl) ?_
  refine G_iload_n 1 rfl rfl (ck dc96 (i := 3) rfl) ?_
  refine G_iadd (ck dc96 (i := 4) rfl) ?_
  refine G_iconst (ck dc96 (i := 5) rfl) ?_
  refine G_imul (ck dc96 (i := 6) rfl) ?_
  refine G_iload_n 2 rfl rfl (ck dc96 (i := 7) rfl) ?_
  refine G_iadd (ck dc96 (i := 8) rfl) ?_
  exact H_iretI mf96 (ck dc96 (i := 9) rfl) rfl h
theorem c_co_paidCoins (K : Nat) (a1 a2 a3 : Int) (M : PM) (Q : Option PV → PM → Prop)
    (h : Call K jCoins_place [.inl a1, .inl a2, .inl a3] P0 P0 M (retI fun r1 M2 => (0 ≤ r1 ∧ r1 < 75) ∧ Q (some (.inl (M2 39 r1))) M2)) : Call (K + 1) jCoins_paidCoins [.inr (.inr 37), .inl a1, .inl a2, .inl a3] P0 P0 M Q := by
  refine Call.intro (by decide +kernel) (mfx.le mf95 (Nat.le_of_ble_eq_true rfl)) (Nat.le_refl _) rfl ?_
  refine G_aload_n 0 rfl rfl (ck dc95 (i := 0) rfl) ?_
  refine H_getR mf95 (ck dc95 (i := 1) rfl) fw_Coins_15 fc2_3 ly37 ra37 rf37_3 (by decide) ?_
  refine G_iload_n 1 rfl rfl (ck dc95 (i := 2) rfl) ?_
  refine G_iload_n 2 rfl rfl (ck dc95 (i := 3) rfl) ?_
  refine G_iload_n 3 rfl rfl (ck dc95 (i := 4) rfl) ?_
  refine H_sI mf95 (As := [.inl a1, .inl a2, .inl a3]) (st := [.inr (.inr 39)]) (ck dc95 (i := 5) rfl) lk_Coins_47 rfl rfl (Nat.le_of_ble_eq_true rfl) ⟨Nat.le_refl _, Nat.le_refl _⟩ h (fun r1 M2 h => ?_)
  obtain ⟨o3, h⟩ := h
  refine H_iald (ck dc95 (i := 6) rfl) ly39 (by decide) ra39 o3 (x := (M2 39 r1)) rfl ?_
  exact H_iretI mf95 (ck dc95 (i := 7) rfl) rfl h
theorem c_co_takeIn (K : Nat) (M : PM) (Q : Option PV → PM → Prop)
    (h : G none (K + 1) jCoins_takeIn 2 [(0, .inr (.inr 37)), (1, .inl 0)] [] P0 P0 M Q) : Call (K + 1) jCoins_takeIn [.inr (.inr 37)] P0 P0 M Q := by
  refine Call.intro (by decide +kernel) (mfx.le mf94 (Nat.le_of_ble_eq_true rfl)) (Nat.le_refl _) rfl ?_
  refine G_iconst (ck dc94 (i := 0) rfl) ?_
  refine G_istore_n (L' := [(1, .inl 0), (0, .inr (.inr 37))]) rfl (mfx.lt mf94 (Nat.le_of_ble_eq_true rfl)) rfl (ck dc94 (i := 1) rfl) ?_
  exact G_sub [1, 0] rfl h
theorem g_co_takeIn_2 (K : Nat) (l1 : Int) (M : PM) (Q : Option PV → PM → Prop)
    (h : R32 l1 ∧ R32 (M 1 0) ∧ ((M 1 0) ≤ l1 → Q none M) ∧ (¬ (M 1 0) ≤ l1 → (0 ≤ l1 ∧ l1 < 5) ∧ G none (K + 1) jCoins_takeIn 22 [(0, .inr (.inr 37)), (1, .inl l1), (2, .inl 0)] [] P0 P0 (mset M 38 l1 0) Q)) : G none (K + 1) jCoins_takeIn 2 [(0, .inr (.inr 37)), (1, .inl l1)] [] P0 P0 M Q := by
  refine G_iload_n 1 rfl rfl (ck dc94 (i := 2) rfl) ?_
  refine G_aload_n 0 rfl rfl (ck dc94 (i := 3) rfl) ?_
  refine H_getR mf94 (ck dc94 (i := 4) rfl) fw_Coins_18 fc2_1 ly37 ra37 rf37_1 (by decide) ?_
  refine H_getI mf94 (ck dc94 (i := 5) rfl) fw_Coins_40 (Or.inl fc0_0) ly1 ra1 (x := (M 1 0)) rfl ?_
  obtain ⟨o1, h⟩ := h
  obtain ⟨o2, h⟩ := h
  refine G_icmp_ge (tgt := 74) (by decide) o1 o2 (ck dc94 (i := 6) rfl) (fun c => ?_) (fun c => ?_)
  · replace h := h.1 c
    exact H_vret mf94 (ck dc94 (i := 42) rfl) rfl h
  · replace h := h.2 c
    refine G_aload_n 0 rfl rfl (ck dc94 (i := 7) rfl) ?_
    refine H_getR mf94 (ck dc94 (i := 8) rfl) fw_Coins_9 fc2_2 ly37 ra37 rf37_2 (by decide) ?_
    refine G_iload_n 1 rfl rfl (ck dc94 (i := 9) rfl) ?_
    refine G_iconst (ck dc94 (i := 10) rfl) ?_
    obtain ⟨o3, h⟩ := h
    refine G_iast (ck dc94 (i := 11) rfl) ra38 ly38 (by decide) o3 ?_
    refine G_iconst (ck dc94 (i := 12) rfl) ?_
    refine G_istore_n (L' := [(2, .inl 0), (0, .inr (.inr 37)), (1, .inl l1)]) rfl (mfx.lt mf94 (Nat.le_of_ble_eq_true rfl)) rfl (ck dc94 (i := 13) rfl) ?_
    exact G_sub [1, 2, 0] rfl h
theorem g_co_takeIn_22 (K : Nat) (l1 l2 : Int) (M : PM) (Q : Option PV → PM → Prop)
    (h : R32 l2 ∧ R32 (M 1 0) ∧ ((M 1 0) ≤ l2 → G none (K + 1) jCoins_takeIn 2 [(0, .inr (.inr 37)), (1, .inl (l1 + 1))] [] P0 P0 M Q) ∧ (¬ (M 1 0) ≤ l2 → G none (K + 1) jCoins_takeIn 35 [(0, .inr (.inr 37)), (1, .inl l1), (2, .inl l2), (3, .inl 0)] [] P0 P0 M Q)) : G none (K + 1) jCoins_takeIn 22 [(0, .inr (.inr 37)), (1, .inl l1), (2, .inl l2)] [] P0 P0 M Q := by
  refine G_iload_n 2 rfl rfl (ck dc94 (i := 14) rfl) ?_
  refine G_aload_n 0 rfl rfl (ck dc94 (i := 15) rfl) ?_
  refine H_getR mf94 (ck dc94 (i := 16) rfl) fw_Coins_18 fc2_1 ly37 ra37 rf37_1 (by decide) ?_
  refine H_getI mf94 (ck dc94 (i := 17) rfl) fw_Coins_40 (Or.inl fc0_0) ly1 ra1 (x := (M 1 0)) rfl ?_
  obtain ⟨o1, h⟩ := h
  obtain ⟨o2, h⟩ := h
  refine G_icmp_ge (tgt := 68) (by decide) o1 o2 (ck dc94 (i := 18) rfl) (fun c => ?_) (fun c => ?_)
  · replace h := h.1 c
    refine G_iinc (L' := [(1, .inl (l1 + 1)), (0, .inr (.inr 37)), (2, .inl l2)]) 1 rfl (mfx.lt mf94 (Nat.le_of_ble_eq_true rfl)) rfl (ck dc94 (i := 40) rfl) ?_
    refine G_goto (tgt := 2) (by decide) (ck dc94 (i := 41) rfl) ?_
    exact G_sub [1, 0] rfl h
  · replace h := h.2 c
    refine G_iconst (ck dc94 (i := 19) rfl) ?_
    refine G_istore_n (L' := [(3, .inl 0), (0, .inr (.inr 37)), (1, .inl l1), (2, .inl l2)]) rfl (mfx.lt mf94 (Nat.le_of_ble_eq_true rfl)) rfl (ck dc94 (i := 20) rfl) ?_
    exact G_sub [1, 2, 3, 0] rfl h
theorem g_co_takeIn_35 (K : Nat) (l1 l2 l3 : Int) (M : PM) (Q : Option PV → PM → Prop)
    (h : R32 l3 ∧ (3 ≤ l3 → G none (K + 1) jCoins_takeIn 22 [(0, .inr (.inr 37)), (1, .inl l1), (2, .inl (l2 + 1))] [] P0 P0 M Q) ∧ (¬ 3 ≤ l3 → (0 ≤ l1 ∧ l1 < 5) ∧ Call K jCoins_paidCoins [.inr (.inr 37), .inl l2, .inl l1, .inl l3] P0 P0 M (retI fun r3 M4 => G none (K + 1) jCoins_takeIn 35 [(0, .inr (.inr 37)), (1, .inl l1), (2, .inl l2), (3, .inl (l3 + 1))] [] P0 P0 (mset M4 38 l1 ((M 38 l1) + r3)) Q))) : G none (K + 1) jCoins_takeIn 35 [(0, .inr (.inr 37)), (1, .inl l1), (2, .inl l2), (3, .inl l3)] [] P0 P0 M Q := by
  refine G_iload_n 3 rfl rfl (ck dc94 (i := 21) rfl) ?_
  refine G_iconst (ck dc94 (i := 22) rfl) ?_
  obtain ⟨o1, h⟩ := h
  refine G_icmp_ge (tgt := 62) (by decide) o1 (by decide) (ck dc94 (i := 23) rfl) (fun c => ?_) (fun c => ?_)
  · replace h := h.1 c
    refine G_iinc (L' := [(2, .inl (l2 + 1)), (0, .inr (.inr 37)), (1, .inl l1), (3, .inl l3)]) 2 rfl (mfx.lt mf94 (Nat.le_of_ble_eq_true rfl)) rfl (ck dc94 (i := 38) rfl) ?_
    refine G_goto (tgt := 22) (by decide) (ck dc94 (i := 39) rfl) ?_
    exact G_sub [1, 2, 0] rfl h
  · replace h := h.2 c
    refine G_aload_n 0 rfl rfl (ck dc94 (i := 24) rfl) ?_
    refine H_getR mf94 (ck dc94 (i := 25) rfl) fw_Coins_9 fc2_2 ly37 ra37 rf37_2 (by decide) ?_
    refine G_iload_n 1 rfl rfl (ck dc94 (i := 26) rfl) ?_
    refine G_dup2 rfl rfl (ck dc94 (i := 27) rfl) ?_
    obtain ⟨o2, h⟩ := h
    refine H_iald (ck dc94 (i := 28) rfl) ly38 (by decide) ra38 o2 (x := (M 38 l1)) rfl ?_
    refine G_aload_n 0 rfl rfl (ck dc94 (i := 29) rfl) ?_
    refine G_iload_n 2 rfl rfl (ck dc94 (i := 30) rfl) ?_
    refine G_iload_n 1 rfl rfl (ck dc94 (i := 31) rfl) ?_
    refine G_iload_n 3 rfl rfl (ck dc94 (i := 32) rfl) ?_
    refine H_vI mf94 (As := [.inl l2, .inl l1, .inl l3]) (st := [.inl (M 38 l1), .inl l1, .inr (.inr 38)]) (ck dc94 (i := 33) rfl) lk_Coins_51 rfl rfl (Nat.le_of_ble_eq_true rfl) ly37 ra37 ⟨Nat.le_refl _, Nat.le_refl _⟩ h (fun r3 M4 h => ?_)
    refine G_iadd (ck dc94 (i := 34) rfl) ?_
    refine G_iast (ck dc94 (i := 35) rfl) ra38 ly38 (by decide) o2 ?_
    refine G_iinc (L' := [(3, .inl (l3 + 1)), (0, .inr (.inr 37)), (1, .inl l1), (2, .inl l2)]) 3 rfl (mfx.lt mf94 (Nat.le_of_ble_eq_true rfl)) rfl (ck dc94 (i := 36) rfl) ?_
    refine G_goto (tgt := 35) (by decide) (ck dc94 (i := 37) rfl) ?_
    exact G_sub [1, 2, 3, 0] rfl h
theorem c_bk_dueOf (K : Nat) (a1 : Int) (M : PM) (Q : Option PV → PM → Prop)
    (h : Call K jBook_dueIn [.inr (.inr 1), .inl a1, .inl 0] P0 P0 M (retI fun r1 M2 => Call K jBook_dueIn [.inr (.inr 1), .inl a1, .inl 1] P0 P0 M2 (retI fun r3 M4 => Call K jBook_dueIn [.inr (.inr 1), .inl a1, .inl 2] P0 P0 M4 (retI fun r5 M6 => Q (some (.inl ((r1 + r3) + r5))) M6)))) : Call (K + 1) jBook_dueOf [.inr (.inr 1), .inl a1] P0 P0 M Q := by
  refine Call.intro (by decide +kernel) (mfx.le mf99 (Nat.le_of_ble_eq_true rfl)) (Nat.le_refl _) rfl ?_
  refine G_aload_n 0 rfl rfl (ck dc99 (i := 0) rfl) ?_
  refine G_iload_n 1 rfl rfl (ck dc99 (i := 1) rfl) ?_
  refine G_iconst (ck dc99 (i := 2) rfl) ?_
  refine H_vI mf99 (As := [.inl a1, .inl 0]) (st := []) (ck dc99 (i := 3) rfl) lk_Book_57 rfl rfl (Nat.le_of_ble_eq_true rfl) ly1 ra1 ⟨Nat.le_refl _, Nat.le_refl _⟩ h (fun r1 M2 h => ?_)
  refine G_aload_n 0 rfl rfl (ck dc99 (i := 4) rfl) ?_
  refine G_iload_n 1 rfl rfl (ck dc99 (i := 5) rfl) ?_
  refine G_iconst (ck dc99 (i := 6) rfl) ?_
  refine H_vI mf99 (As := [.inl a1, .inl 1]) (st := [.inl r1]) (ck dc99 (i := 7) rfl) lk_Book_57 rfl rfl (Nat.le_of_ble_eq_true rfl) ly1 ra1 ⟨Nat.le_refl _, Nat.le_refl _⟩ h (fun r3 M4 h => ?_)
  refine G_iadd (ck dc99 (i := 8) rfl) ?_
  refine G_aload_n 0 rfl rfl (ck dc99 (i := 9) rfl) ?_
  refine G_iload_n 1 rfl rfl (ck dc99 (i := 10) rfl) ?_
  refine G_iconst (ck dc99 (i := 11) rfl) ?_
  refine H_vI mf99 (As := [.inl a1, .inl 2]) (st := [.inl (r1 + r3)]) (ck dc99 (i := 12) rfl) lk_Book_57 rfl rfl (Nat.le_of_ble_eq_true rfl) ly1 ra1 ⟨Nat.le_refl _, Nat.le_refl _⟩ h (fun r5 M6 h => ?_)
  refine G_iadd (ck dc99 (i := 13) rfl) ?_
  exact H_iretI mf99 (ck dc99 (i := 14) rfl) rfl h
theorem c_co_isShort (K : Nat) (a1 : Int) (M : PM) (Q : Option PV → PM → Prop)
    (h : (0 ≤ a1 ∧ a1 < 5) ∧ Call K jBook_dueOf [.inr (.inr 1), .inl a1] P0 P0 M (retI fun r2 M3 => R32 ((M 2 a1) + (M 38 a1)) ∧ R32 r2 ∧ (r2 ≤ ((M 2 a1) + (M 38 a1)) → Q (some (.inl 0)) M3) ∧ (¬ r2 ≤ ((M 2 a1) + (M 38 a1)) → Q (some (.inl 1)) M3))) : Call (K + 1) jCoins_isShort [.inr (.inr 37), .inl a1] P0 P0 M Q := by
  refine Call.intro (by decide +kernel) (mfx.le mf98 (Nat.le_of_ble_eq_true rfl)) (Nat.le_refl _) rfl ?_
  refine G_aload_n 0 rfl rfl (ck dc98 (i := 0) rfl) ?_
  refine H_getR mf98 (ck dc98 (i := 1) rfl) fw_Coins_18 fc2_1 ly37 ra37 rf37_1 (by decide) ?_
  refine H_getR mf98 (ck dc98 (i := 2) rfl) fw_Coins_54 fc0_3 ly1 ra1 rf1_3 (by decide) ?_
  refine G_iload_n 1 rfl rfl (ck dc98 (i := 3) rfl) ?_
  obtain ⟨o1, h⟩ := h
  refine H_iald (ck dc98 (i := 4) rfl) ly2 (by decide) ra2 o1 (x := (M 2 a1)) rfl ?_
  refine G_aload_n 0 rfl rfl (ck dc98 (i := 5) rfl) ?_
  refine H_getR mf98 (ck dc98 (i := 6) rfl) fw_Coins_9 fc2_2 ly37 ra37 rf37_2 (by decide) ?_
  refine G_iload_n 1 rfl rfl (ck dc98 (i := 7) rfl) ?_
  refine H_iald (ck dc98 (i := 8) rfl) ly38 (by decide) ra38 o1 (x := (M 38 a1)) rfl ?_
  refine G_iadd (ck dc98 (i := 9) rfl) ?_
  refine G_aload_n 0 rfl rfl (ck dc98 (i := 10) rfl) ?_
  refine H_getR mf98 (ck dc98 (i := 11) rfl) fw_Coins_18 fc2_1 ly37 ra37 rf37_1 (by decide) ?_
  refine G_iload_n 1 rfl rfl (ck dc98 (i := 12) rfl) ?_
  refine H_vI mf98 (As := [.inl a1]) (st := [.inl ((M 2 a1) + (M 38 a1))]) (ck dc98 (i := 13) rfl) lk_Coins_57 rfl rfl (Nat.le_of_ble_eq_true rfl) ly1 ra1 ⟨Nat.le_refl _, Nat.le_refl _⟩ h (fun r2 M3 h => ?_)
  obtain ⟨o4, h⟩ := h
  obtain ⟨o5, h⟩ := h
  refine G_icmp_ge (tgt := 31) (by decide) o4 o5 (ck dc98 (i := 14) rfl) (fun c => ?_) (fun c => ?_)
  · replace h := h.1 c
    refine G_iconst (ck dc98 (i := 17) rfl) ?_
    exact H_iretZ mf98 (ck dc98 (i := 18) rfl) rfl (Or.inl rfl) h
  · replace h := h.2 c
    refine G_iconst (ck dc98 (i := 15) rfl) ?_
    refine G_goto (tgt := 32) (by decide) (ck dc98 (i := 16) rfl) ?_
    exact H_iretZ mf98 (ck dc98 (i := 18) rfl) rfl (Or.inr rfl) h
theorem c_co_rest (K : Nat) (a1 : Int) (M : PM) (Q : Option PV → PM → Prop)
    (h : (0 ≤ a1 ∧ a1 < 5) ∧ R32 (((M 1 1) * (M 2 a1)) + ((M 1 2) * (M 38 a1))) ∧ Q (some (.inl (Int.tdiv (((M 1 1) * (M 2 a1)) + ((M 1 2) * (M 38 a1))) 10))) M) : Call (K + 1) jCoins_rest [.inr (.inr 37), .inl a1] P0 P0 M Q := by
  refine Call.intro (by decide +kernel) (mfx.le mf100 (Nat.le_of_ble_eq_true rfl)) (Nat.le_refl _) rfl ?_
  refine G_aload_n 0 rfl rfl (ck dc100 (i := 0) rfl) ?_
  refine H_getR mf100 (ck dc100 (i := 1) rfl) fw_Coins_18 fc2_1 ly37 ra37 rf37_1 (by decide) ?_
  refine H_getI mf100 (ck dc100 (i := 2) rfl) fw_Coins_61 (Or.inl fc0_1) ly1 ra1 (x := (M 1 1)) rfl ?_
  refine G_aload_n 0 rfl rfl (ck dc100 (i := 3) rfl) ?_
  refine H_getR mf100 (ck dc100 (i := 4) rfl) fw_Coins_18 fc2_1 ly37 ra37 rf37_1 (by decide) ?_
  refine H_getR mf100 (ck dc100 (i := 5) rfl) fw_Coins_54 fc0_3 ly1 ra1 rf1_3 (by decide) ?_
  refine G_iload_n 1 rfl rfl (ck dc100 (i := 6) rfl) ?_
  obtain ⟨o1, h⟩ := h
  refine H_iald (ck dc100 (i := 7) rfl) ly2 (by decide) ra2 o1 (x := (M 2 a1)) rfl ?_
  refine G_imul (ck dc100 (i := 8) rfl) ?_
  refine G_aload_n 0 rfl rfl (ck dc100 (i := 9) rfl) ?_
  refine H_getR mf100 (ck dc100 (i := 10) rfl) fw_Coins_18 fc2_1 ly37 ra37 rf37_1 (by decide) ?_
  refine H_getI mf100 (ck dc100 (i := 11) rfl) fw_Coins_64 (Or.inl fc0_2) ly1 ra1 (x := (M 1 2)) rfl ?_
  refine G_aload_n 0 rfl rfl (ck dc100 (i := 12) rfl) ?_
  refine H_getR mf100 (ck dc100 (i := 13) rfl) fw_Coins_9 fc2_2 ly37 ra37 rf37_2 (by decide) ?_
  refine G_iload_n 1 rfl rfl (ck dc100 (i := 14) rfl) ?_
  refine H_iald (ck dc100 (i := 15) rfl) ly38 (by decide) ra38 o1 (x := (M 38 a1)) rfl ?_
  refine G_imul (ck dc100 (i := 16) rfl) ?_
  refine G_iadd (ck dc100 (i := 17) rfl) ?_
  refine G_istore_n (L' := [(2, .inl (((M 1 1) * (M 2 a1)) + ((M 1 2) * (M 38 a1)))), (0, .inr (.inr 37)), (1, .inl a1)]) rfl (mfx.lt mf100 (Nat.le_of_ble_eq_true rfl)) rfl (ck dc100 (i := 18) rfl) ?_
  refine G_iload_n 0 rfl rfl (ck dc100 (i := 19) rfl) ?_
  refine G_bipush (n := 10) rfl (ck dc100 (i := 20) rfl) ?_
  obtain ⟨o2, h⟩ := h
  refine G_idiv o2 (by decide) (by decide) (ck dc100 (i := 21) rfl) ?_
  exact H_iretI mf100 (ck dc100 (i := 22) rfl) rfl h
theorem c_co_payOut (K : Nat) (a1 : Int) (M : PM) (Q : Option PV → PM → Prop)
    (h : Call K jCoins_isShort [.inr (.inr 37), .inl a1] P0 P0 M (retI fun r1 M2 => R32 r1 ∧ (¬ r1 = 0 → Call K jCoins_rest [.inr (.inr 37), .inl a1] P0 P0 M2 (retI fun r4 M5 => G none (K + 1) jCoins_payOut 26 [(0, .inr (.inr 37)), (1, .inl a1), (2, .inl 0), (3, .inl r4), (4, .inl 0), (5, .inl 0)] [] P0 P0 M5 Q)) ∧ (r1 = 0 → Call K jCoins_rest [.inr (.inr 37), .inl a1] P0 P0 M2 (retI fun r6 M7 => G none (K + 1) jCoins_payOut 26 [(0, .inr (.inr 37)), (1, .inl a1), (2, .inl 1), (3, .inl r6), (4, .inl 0), (5, .inl 0)] [] P0 P0 M7 Q)))) : Call (K + 1) jCoins_payOut [.inr (.inr 37), .inl a1] P0 P0 M Q := by
  refine Call.intro (by decide +kernel) (mfx.le mf97 (Nat.le_of_ble_eq_true rfl)) (Nat.le_refl _) rfl ?_
  refine G_aload_n 0 rfl rfl (ck dc97 (i := 0) rfl) ?_
  refine G_iload_n 1 rfl rfl (ck dc97 (i := 1) rfl) ?_
  refine H_vZ mf97 (As := [.inl a1]) (st := []) (ck dc97 (i := 2) rfl) lk_Coins_67 rfl rfl (Nat.le_of_ble_eq_true rfl) ly37 ra37 ⟨Nat.le_refl _, Nat.le_refl _⟩ h (fun r1 M2 h => ?_)
  obtain ⟨o3, h⟩ := h
  refine G_if_ne (tgt := 12) (by decide) o3 (ck dc97 (i := 3) rfl) (fun c => ?_) (fun c => ?_)
  · replace h := h.1 c
    refine G_iconst (ck dc97 (i := 6) rfl) ?_
    refine G_istore_n (L' := [(2, .inl 0), (0, .inr (.inr 37)), (1, .inl a1)]) rfl (mfx.lt mf97 (Nat.le_of_ble_eq_true rfl)) rfl (ck dc97 (i := 7) rfl) ?_
    refine G_aload_n 1 rfl rfl (ck dc97 (i := 8) rfl) ?_
    refine G_iload_n 2 rfl rfl (ck dc97 (i := 9) rfl) ?_
    refine H_vI mf97 (As := [.inl a1]) (st := []) (ck dc97 (i := 10) rfl) lk_Coins_70 rfl rfl (Nat.le_of_ble_eq_true rfl) ly37 ra37 ⟨Nat.le_refl _, Nat.le_refl _⟩ h (fun r4 M5 h => ?_)
    refine G_istore_n (L' := [(3, .inl r4), (2, .inl 0), (0, .inr (.inr 37)), (1, .inl a1)]) rfl (mfx.lt mf97 (Nat.le_of_ble_eq_true rfl)) rfl (ck dc97 (i := 11) rfl) ?_
    refine G_iconst (ck dc97 (i := 12) rfl) ?_
    refine G_istore (L' := [(4, .inl 0), (3, .inl r4), (2, .inl 0), (0, .inr (.inr 37)), (1, .inl a1)]) (mfx.lt mf97 (Nat.le_of_ble_eq_true rfl)) rfl (ck dc97 (i := 13) rfl) ?_
    refine G_iconst (ck dc97 (i := 14) rfl) ?_
    refine G_istore (L' := [(5, .inl 0), (4, .inl 0), (3, .inl r4), (2, .inl 0), (0, .inr (.inr 37)), (1, .inl a1)]) (mfx.lt mf97 (Nat.le_of_ble_eq_true rfl)) rfl (ck dc97 (i := 15) rfl) ?_
    exact G_sub [4, 5, 3, 2, 1, 0] rfl h
  · replace h := h.2 c
    refine G_iconst (ck dc97 (i := 4) rfl) ?_
    refine G_goto (tgt := 13) (by decide) (ck dc97 (i := 5) rfl) ?_
    refine G_istore_n (L' := [(2, .inl 1), (0, .inr (.inr 37)), (1, .inl a1)]) rfl (mfx.lt mf97 (Nat.le_of_ble_eq_true rfl)) rfl (ck dc97 (i := 7) rfl) ?_
    refine G_aload_n 1 rfl rfl (ck dc97 (i := 8) rfl) ?_
    refine G_iload_n 2 rfl rfl (ck dc97 (i := 9) rfl) ?_
    refine H_vI mf97 (As := [.inl a1]) (st := []) (ck dc97 (i := 10) rfl) lk_Coins_70 rfl rfl (Nat.le_of_ble_eq_true rfl) ly37 ra37 ⟨Nat.le_refl _, Nat.le_refl _⟩ h (fun r6 M7 h => ?_)
    refine G_istore_n (L' := [(3, .inl r6), (2, .inl 1), (0, .inr (.inr 37)), (1, .inl a1)]) rfl (mfx.lt mf97 (Nat.le_of_ble_eq_true rfl)) rfl (ck dc97 (i := 11) rfl) ?_
    refine G_iconst (ck dc97 (i := 12) rfl) ?_
    refine G_istore (L' := [(4, .inl 0), (3, .inl r6), (2, .inl 1), (0, .inr (.inr 37)), (1, .inl a1)]) (mfx.lt mf97 (Nat.le_of_ble_eq_true rfl)) rfl (ck dc97 (i := 13) rfl) ?_
    refine G_iconst (ck dc97 (i := 14) rfl) ?_
    refine G_istore (L' := [(5, .inl 0), (4, .inl 0), (3, .inl r6), (2, .inl 1), (0, .inr (.inr 37)), (1, .inl a1)]) (mfx.lt mf97 (Nat.le_of_ble_eq_true rfl)) rfl (ck dc97 (i := 15) rfl) ?_
    exact G_sub [4, 5, 3, 2, 1, 0] rfl h
theorem g_co_payOut_26 (K : Nat) (l1 l2 l3 l4 l5 : Int) (M : PM) (Q : Option PV → PM → Prop)
    (h : R32 l5 ∧ (3 ≤ l5 → (l4 = 0 ∨ l4 = 1) ∧ Q (some (.inl l4)) M) ∧ (¬ 3 ≤ l5 → Call K jBook_dueIn [.inr (.inr 1), .inl l1, .inl l5] P0 P0 M (retI fun r3 M4 => R32 l2 ∧ (l2 = 0 → R32 l3 ∧ R32 r3 ∧ G none (K + 1) jCoins_payOut 64 [(0, .inr (.inr 37)), (1, .inl l1), (2, .inl l2), (3, .inl l3), (4, .inl l4), (5, .inl l5), (6, .inl r3), (7, .inl (mn2 l3 r3)), (8, .inl 0)] [] P0 P0 M4 Q) ∧ (¬ l2 = 0 → G none (K + 1) jCoins_payOut 64 [(0, .inr (.inr 37)), (1, .inl l1), (2, .inl l2), (3, .inl l3), (4, .inl l4), (5, .inl l5), (6, .inl r3), (7, .inl r3), (8, .inl 0)] [] P0 P0 M4 Q)))) : G none (K + 1) jCoins_payOut 26 [(0, .inr (.inr 37)), (1, .inl l1), (2, .inl l2), (3, .inl l3), (4, .inl l4), (5, .inl l5)] [] P0 P0 M Q := by
  refine G_iload 5 rfl (ck dc97 (i := 16) rfl) ?_
  refine G_iconst (ck dc97 (i := 17) rfl) ?_
  obtain ⟨o1, h⟩ := h
  refine G_icmp_ge (tgt := 163) (by decide) o1 (by decide) (ck dc97 (i := 18) rfl) (fun c => ?_) (fun c => ?_)
  · replace h := h.1 c
    refine G_iload 4 rfl (ck dc97 (i := 84) rfl) ?_
    obtain ⟨o2, h⟩ := h
    exact H_iretZ mf97 (ck dc97 (i := 85) rfl) rfl o2 h
  · replace h := h.2 c
    refine G_aload_n 0 rfl rfl (ck dc97 (i := 19) rfl) ?_
    refine H_getR mf97 (ck dc97 (i := 20) rfl) fw_Coins_18 fc2_1 ly37 ra37 rf37_1 (by decide) ?_
    refine G_iload_n 1 rfl rfl (ck dc97 (i := 21) rfl) ?_
    refine G_iload 5 rfl (ck dc97 (i := 22) rfl) ?_
    refine H_vI mf97 (As := [.inl l1, .inl l5]) (st := []) (ck dc97 (i := 23) rfl) lk_Coins_73 rfl rfl (Nat.le_of_ble_eq_true rfl) ly1 ra1 ⟨Nat.le_refl _, Nat.le_refl _⟩ h (fun r3 M4 h => ?_)
    refine G_istore (L' := [(6, .inl r3), (0, .inr (.inr 37)), (1, .inl l1), (2, .inl l2), (3, .inl l3), (4, .inl l4), (5, .inl l5)]) (mfx.lt mf97 (Nat.le_of_ble_eq_true rfl)) rfl (ck dc97 (i := 24) rfl) ?_
    refine G_iload_n 3 rfl rfl (ck dc97 (i := 25) rfl) ?_
    obtain ⟨o5, h⟩ := h
    refine G_if_eq (tgt := 53) (by decide) o5 (ck dc97 (i := 26) rfl) (fun c => ?_) (fun c => ?_)
    · replace h := h.1 c
      refine G_iload_n 4 rfl rfl (ck dc97 (i := 29) rfl) ?_
      refine G_iload 0 rfl (ck dc97 (i := 30) rfl) ?_
      obtain ⟨o6, h⟩ := h
      obtain ⟨o7, h⟩ := h
      refine H_mmin mf97 (ck dc97 (i := 31) rfl) lm_Coins_77 (Nat.le_refl _) (Nat.le_of_ble_eq_true rfl) o6 o7 ?_
      refine G_istore (L' := [(7, .inl (mn2 l3 r3)), (6, .inl r3), (0, .inr (.inr 37)), (1, .inl l1), (2, .inl l2), (3, .inl l3), (4, .inl l4), (5, .inl l5)]) (mfx.lt mf97 (Nat.le_of_ble_eq_true rfl)) rfl (ck dc97 (i := 32) rfl) ?_
      refine G_iconst (ck dc97 (i := 33) rfl) ?_
      refine G_istore (L' := [(8, .inl 0), (7, .inl (mn2 l3 r3)), (6, .inl r3), (0, .inr (.inr 37)), (1, .inl l1), (2, .inl l2), (3, .inl l3), (4, .inl l4), (5, .inl l5)]) (mfx.lt mf97 (Nat.le_of_ble_eq_true rfl)) rfl (ck dc97 (i := 34) rfl) ?_
      exact G_sub [3, 4, 5, 6, 7, 8, 2, 1, 0] rfl h
    · replace h := h.2 c
      refine G_iload 0 rfl (ck dc97 (i := 27) rfl) ?_
      refine G_goto (tgt := 59) (by decide) (ck dc97 (i := 28) rfl) ?_
      refine G_istore (L' := [(7, .inl r3), (6, .inl r3), (0, .inr (.inr 37)), (1, .inl l1), (2, .inl l2), (3, .inl l3), (4, .inl l4), (5, .inl l5)]) (mfx.lt mf97 (Nat.le_of_ble_eq_true rfl)) rfl (ck dc97 (i := 32) rfl) ?_
      refine G_iconst (ck dc97 (i := 33) rfl) ?_
      refine G_istore (L' := [(8, .inl 0), (7, .inl r3), (6, .inl r3), (0, .inr (.inr 37)), (1, .inl l1), (2, .inl l2), (3, .inl l3), (4, .inl l4), (5, .inl l5)]) (mfx.lt mf97 (Nat.le_of_ble_eq_true rfl)) rfl (ck dc97 (i := 34) rfl) ?_
      exact G_sub [3, 4, 5, 6, 7, 8, 2, 1, 0] rfl h
set_option maxHeartbeats 20000000 in
theorem g_co_payOut_64 (K : Nat) (l1 l2 l3 l4 l5 l6 l7 l8 : Int) (M : PM) (Q : Option PV → PM → Prop)
    (h : R32 l8 ∧ R32 (M 1 0) ∧ ((M 1 0) ≤ l8 → G none (K + 1) jCoins_payOut 26 [(0, .inr (.inr 37)), (1, .inl l1), (2, .inl l2), (3, .inl (l3 - l7)), (4, .inl l4), (5, .inl (l5 + 1))] [] P0 P0 M Q) ∧ (¬ (M 1 0) ≤ l8 → Call K jCoins_place [.inl l1, .inl l8, .inl l5] P0 P0 M (retI fun r3 M4 => R32 l6 ∧ (l6 ≤ 0 → R32 l4 ∧ (¬ l4 = 0 → (0 ≤ r3 ∧ r3 < 75) ∧ G none (K + 1) jCoins_payOut 64 [(0, .inr (.inr 37)), (1, .inl l1), (2, .inl l2), (3, .inl l3), (4, .inl 1), (5, .inl l5), (6, .inl l6), (7, .inl l7), (8, .inl (l8 + 1))] [] P0 P0 (mset M4 39 r3 0) Q) ∧ (l4 = 0 → (0 ≤ r3 ∧ r3 < 75) ∧ R32 (M4 39 r3) ∧ (0 = (M4 39 r3) → G none (K + 1) jCoins_payOut 64 [(0, .inr (.inr 37)), (1, .inl l1), (2, .inl l2), (3, .inl l3), (4, .inl 0), (5, .inl l5), (6, .inl l6), (7, .inl l7), (8, .inl (l8 + 1))] [] P0 P0 (mset M4 39 r3 0) Q) ∧ (¬ 0 = (M4 39 r3) → G none (K + 1) jCoins_payOut 64 [(0, .inr (.inr 37)), (1, .inl l1), (2, .inl l2), (3, .inl l3), (4, .inl 1), (5, .inl l5), (6, .inl l6), (7, .inl l7), (8, .inl (l8 + 1))] [] P0 P0 (mset M4 39 r3 0) Q))) ∧ (¬ l6 ≤ 0 → (0 ≤ r3 ∧ r3 < 75) ∧ R32 ((M4 3 r3) * l7) ∧ l6 ≠ 0 ∧ R32 l4 ∧ (¬ l4 = 0 → G none (K + 1) jCoins_payOut 64 [(0, .inr (.inr 37)), (1, .inl l1), (2, .inl l2), (3, .inl l3), (4, .inl 1), (5, .inl l5), (6, .inl l6), (7, .inl l7), (8, .inl (l8 + 1))] [] P0 P0 (mset M4 39 r3 (Int.tdiv ((M4 3 r3) * l7) l6)) Q) ∧ (l4 = 0 → R32 (Int.tdiv ((M4 3 r3) * l7) l6) ∧ R32 (M4 39 r3) ∧ ((Int.tdiv ((M4 3 r3) * l7) l6) = (M4 39 r3) → G none (K + 1) jCoins_payOut 64 [(0, .inr (.inr 37)), (1, .inl l1), (2, .inl l2), (3, .inl l3), (4, .inl 0), (5, .inl l5), (6, .inl l6), (7, .inl l7), (8, .inl (l8 + 1))] [] P0 P0 (mset M4 39 r3 (Int.tdiv ((M4 3 r3) * l7) l6)) Q) ∧ (¬ (Int.tdiv ((M4 3 r3) * l7) l6) = (M4 39 r3) → G none (K + 1) jCoins_payOut 64 [(0, .inr (.inr 37)), (1, .inl l1), (2, .inl l2), (3, .inl l3), (4, .inl 1), (5, .inl l5), (6, .inl l6), (7, .inl l7), (8, .inl (l8 + 1))] [] P0 P0 (mset M4 39 r3 (Int.tdiv ((M4 3 r3) * l7) l6)) Q)))))) : G none (K + 1) jCoins_payOut 64 [(0, .inr (.inr 37)), (1, .inl l1), (2, .inl l2), (3, .inl l3), (4, .inl l4), (5, .inl l5), (6, .inl l6), (7, .inl l7), (8, .inl l8)] [] P0 P0 M Q := by
  refine G_iload 8 rfl (ck dc97 (i := 35) rfl) ?_
  refine G_aload_n 0 rfl rfl (ck dc97 (i := 36) rfl) ?_
  refine H_getR mf97 (ck dc97 (i := 37) rfl) fw_Coins_18 fc2_1 ly37 ra37 rf37_1 (by decide) ?_
  refine H_getI mf97 (ck dc97 (i := 38) rfl) fw_Coins_40 (Or.inl fc0_0) ly1 ra1 (x := (M 1 0)) rfl ?_
  obtain ⟨o1, h⟩ := h
  obtain ⟨o2, h⟩ := h
  refine G_icmp_ge (tgt := 152) (by decide) o1 o2 (ck dc97 (i := 39) rfl) (fun c => ?_) (fun c => ?_)
  · replace h := h.1 c
    refine G_iload_n 3 rfl rfl (ck dc97 (i := 78) rfl) ?_
    refine G_iload 7 rfl (ck dc97 (i := 79) rfl) ?_
    refine G_isub (ck dc97 (i := 80) rfl) ?_
    refine G_istore_n (L' := [(3, .inl (l3 - l7)), (0, .inr (.inr 37)), (1, .inl l1), (2, .inl l2), (4, .inl l4), (5, .inl l5), (6, .inl l6), (7, .inl l7), (8, .inl l8)]) rfl (mfx.lt mf97 (Nat.le_of_ble_eq_true rfl)) rfl (ck dc97 (i := 81) rfl) ?_
    refine G_iinc (L' := [(5, .inl (l5 + 1)), (3, .inl (l3 - l7)), (0, .inr (.inr 37)), (1, .inl l1), (2, .inl l2), (4, .inl l4), (6, .inl l6), (7, .inl l7), (8, .inl l8)]) 5 rfl (mfx.lt mf97 (Nat.le_of_ble_eq_true rfl)) rfl (ck dc97 (i := 82) rfl) ?_
    refine G_goto (tgt := 26) (by decide) (ck dc97 (i := 83) rfl) ?_
    exact G_sub [2, 3, 4, 1, 5, 0] rfl h
  · replace h := h.2 c
    refine G_iload_n 1 rfl rfl (ck dc97 (i := 40) rfl) ?_
    refine G_iload 8 rfl (ck dc97 (i := 41) rfl) ?_
    refine G_iload 5 rfl (ck dc97 (i := 42) rfl) ?_
    refine H_sI mf97 (As := [.inl l1, .inl l8, .inl l5]) (st := []) (ck dc97 (i := 43) rfl) lk_Coins_47 rfl rfl (Nat.le_of_ble_eq_true rfl) ⟨Nat.le_refl _, Nat.le_refl _⟩ h (fun r3 M4 h => ?_)
    refine G_istore (L' := [(9, .inl r3), (0, .inr (.inr 37)), (1, .inl l1), (2, .inl l2), (3, .inl l3), (4, .inl l4), (5, .inl l5), (6, .inl l6), (7, .inl l7), (8, .inl l8)]) (mfx.lt mf97 (Nat.le_of_ble_eq_true rfl)) rfl (ck dc97 (i := 44) rfl) ?_
    refine G_iload 7 rfl (ck dc97 (i := 45) rfl) ?_
    obtain ⟨o5, h⟩ := h
    refine G_if_le (tgt := 110) (by decide) o5 (ck dc97 (i := 46) rfl) (fun c => ?_) (fun c => ?_)
    · replace h := h.1 c
      refine G_iconst (ck dc97 (i := 57) rfl) ?_
      refine G_istore (L' := [(10, .inl 0), (9, .inl r3), (0, .inr (.inr 37)), (1, .inl l1), (2, .inl l2), (3, .inl l3), (4, .inl l4), (5, .inl l5), (6, .inl l6), (7, .inl l7), (8, .inl l8)]) (mfx.lt mf97 (Nat.le_of_ble_eq_true rfl)) rfl (ck dc97 (i := 58) rfl) ?_
      refine G_iload 6 rfl (ck dc97 (i := 59) rfl) ?_
      obtain ⟨o6, h⟩ := h
      refine G_if_ne (tgt := 130) (by decide) o6 (ck dc97 (i := 60) rfl) (fun c => ?_) (fun c => ?_)
      · replace h := h.1 c
        refine G_iconst (ck dc97 (i := 67) rfl) ?_
        refine G_goto (tgt := 135) (by decide) (ck dc97 (i := 68) rfl) ?_
        refine G_istore (L' := [(4, .inl 1), (10, .inl 0), (9, .inl r3), (0, .inr (.inr 37)), (1, .inl l1), (2, .inl l2), (3, .inl l3), (5, .inl l5), (6, .inl l6), (7, .inl l7), (8, .inl l8)]) (mfx.lt mf97 (Nat.le_of_ble_eq_true rfl)) rfl (ck dc97 (i := 70) rfl) ?_
        refine G_aload_n 3 rfl rfl (ck dc97 (i := 71) rfl) ?_
        refine H_getR mf97 (ck dc97 (i := 72) rfl) fw_Coins_15 fc2_3 ly37 ra37 rf37_3 (by decide) ?_
        refine G_iload 2 rfl (ck dc97 (i := 73) rfl) ?_
        refine G_iload 1 rfl (ck dc97 (i := 74) rfl) ?_
        obtain ⟨o7, h⟩ := h
        refine G_iast (ck dc97 (i := 75) rfl) ra39 ly39 (by decide) o7 ?_
        refine G_iinc (L' := [(8, .inl (l8 + 1)), (4, .inl 1), (10, .inl 0), (9, .inl r3), (0, .inr (.inr 37)), (1, .inl l1), (2, .inl l2), (3, .inl l3), (5, .inl l5), (6, .inl l6), (7, .inl l7)]) 10 rfl (mfx.lt mf97 (Nat.le_of_ble_eq_true rfl)) rfl (ck dc97 (i := 76) rfl) ?_
        refine G_goto (tgt := 64) (by decide) (ck dc97 (i := 77) rfl) ?_
        exact G_sub [4, 5, 6, 7, 1, 8, 9, 10, 0] rfl h
      · replace h := h.2 c
        refine G_iload 0 rfl (ck dc97 (i := 61) rfl) ?_
        refine G_aload_n 2 rfl rfl (ck dc97 (i := 62) rfl) ?_
        refine H_getR mf97 (ck dc97 (i := 63) rfl) fw_Coins_15 fc2_3 ly37 ra37 rf37_3 (by decide) ?_
        refine G_iload 1 rfl (ck dc97 (i := 64) rfl) ?_
        obtain ⟨o8, h⟩ := h
        refine H_iald (ck dc97 (i := 65) rfl) ly39 (by decide) ra39 o8 (x := (M4 39 r3)) rfl ?_
        obtain ⟨o9, h⟩ := h
        refine G_icmp_eq (tgt := 134) (by decide) (by decide) o9 (ck dc97 (i := 66) rfl) (fun c => ?_) (fun c => ?_)
        · replace h := h.1 c
          refine G_iconst (ck dc97 (i := 69) rfl) ?_
          refine G_istore (L' := [(4, .inl 0), (10, .inl 0), (9, .inl r3), (0, .inr (.inr 37)), (1, .inl l1), (2, .inl l2), (3, .inl l3), (5, .inl l5), (6, .inl l6), (7, .inl l7), (8, .inl l8)]) (mfx.lt mf97 (Nat.le_of_ble_eq_true rfl)) rfl (ck dc97 (i := 70) rfl) ?_
          refine G_aload_n 3 rfl rfl (ck dc97 (i := 71) rfl) ?_
          refine H_getR mf97 (ck dc97 (i := 72) rfl) fw_Coins_15 fc2_3 ly37 ra37 rf37_3 (by decide) ?_
          refine G_iload 2 rfl (ck dc97 (i := 73) rfl) ?_
          refine G_iload 1 rfl (ck dc97 (i := 74) rfl) ?_
          refine G_iast (ck dc97 (i := 75) rfl) ra39 ly39 (by decide) o8 ?_
          refine G_iinc (L' := [(8, .inl (l8 + 1)), (4, .inl 0), (10, .inl 0), (9, .inl r3), (0, .inr (.inr 37)), (1, .inl l1), (2, .inl l2), (3, .inl l3), (5, .inl l5), (6, .inl l6), (7, .inl l7)]) 10 rfl (mfx.lt mf97 (Nat.le_of_ble_eq_true rfl)) rfl (ck dc97 (i := 76) rfl) ?_
          refine G_goto (tgt := 64) (by decide) (ck dc97 (i := 77) rfl) ?_
          exact G_sub [4, 5, 6, 7, 1, 8, 9, 10, 0] rfl h
        · replace h := h.2 c
          refine G_iconst (ck dc97 (i := 67) rfl) ?_
          refine G_goto (tgt := 135) (by decide) (ck dc97 (i := 68) rfl) ?_
          refine G_istore (L' := [(4, .inl 1), (10, .inl 0), (9, .inl r3), (0, .inr (.inr 37)), (1, .inl l1), (2, .inl l2), (3, .inl l3), (5, .inl l5), (6, .inl l6), (7, .inl l7), (8, .inl l8)]) (mfx.lt mf97 (Nat.le_of_ble_eq_true rfl)) rfl (ck dc97 (i := 70) rfl) ?_
          refine G_aload_n 3 rfl rfl (ck dc97 (i := 71) rfl) ?_
          refine H_getR mf97 (ck dc97 (i := 72) rfl) fw_Coins_15 fc2_3 ly37 ra37 rf37_3 (by decide) ?_
          refine G_iload 2 rfl (ck dc97 (i := 73) rfl) ?_
          refine G_iload 1 rfl (ck dc97 (i := 74) rfl) ?_
          refine G_iast (ck dc97 (i := 75) rfl) ra39 ly39 (by decide) o8 ?_
          refine G_iinc (L' := [(8, .inl (l8 + 1)), (4, .inl 1), (10, .inl 0), (9, .inl r3), (0, .inr (.inr 37)), (1, .inl l1), (2, .inl l2), (3, .inl l3), (5, .inl l5), (6, .inl l6), (7, .inl l7)]) 10 rfl (mfx.lt mf97 (Nat.le_of_ble_eq_true rfl)) rfl (ck dc97 (i := 76) rfl) ?_
          refine G_goto (tgt := 64) (by decide) (ck dc97 (i := 77) rfl) ?_
          exact G_sub [4, 5, 6, 7, 1, 8, 9, 10, 0] rfl h
    · replace h := h.2 c
      refine G_aload_n 1 rfl rfl (ck dc97 (i := 47) rfl) ?_
      refine H_getR mf97 (ck dc97 (i := 48) rfl) fw_Coins_18 fc2_1 ly37 ra37 rf37_1 (by decide) ?_
      refine H_getR mf97 (ck dc97 (i := 49) rfl) fw_Coins_22 fc0_4 ly1 ra1 rf1_4 (by decide) ?_
      refine G_iload 0 rfl (ck dc97 (i := 50) rfl) ?_
      obtain ⟨o10, h⟩ := h
      refine H_iald (ck dc97 (i := 51) rfl) ly3 (by decide) ra3 o10 (x := (M4 3 r3)) rfl ?_
      refine G_iload 8 rfl (ck dc97 (i := 52) rfl) ?_
      refine G_imul (ck dc97 (i := 53) rfl) ?_
      refine G_iload 7 rfl (ck dc97 (i := 54) rfl) ?_
      obtain ⟨o11, h⟩ := h
      obtain ⟨o12, h⟩ := h
      refine G_idiv o11 o5 o12 (ck dc97 (i := 55) rfl) ?_
      refine G_goto (tgt := 111) (by decide) (ck dc97 (i := 56) rfl) ?_
      refine G_istore (L' := [(10, .inl (Int.tdiv ((M4 3 r3) * l7) l6)), (9, .inl r3), (0, .inr (.inr 37)), (1, .inl l1), (2, .inl l2), (3, .inl l3), (4, .inl l4), (5, .inl l5), (6, .inl l6), (7, .inl l7), (8, .inl l8)]) (mfx.lt mf97 (Nat.le_of_ble_eq_true rfl)) rfl (ck dc97 (i := 58) rfl) ?_
      refine G_iload 6 rfl (ck dc97 (i := 59) rfl) ?_
      obtain ⟨o13, h⟩ := h
      refine G_if_ne (tgt := 130) (by decide) o13 (ck dc97 (i := 60) rfl) (fun c => ?_) (fun c => ?_)
      · replace h := h.1 c
        refine G_iconst (ck dc97 (i := 67) rfl) ?_
        refine G_goto (tgt := 135) (by decide) (ck dc97 (i := 68) rfl) ?_
        refine G_istore (L' := [(4, .inl 1), (10, .inl (Int.tdiv ((M4 3 r3) * l7) l6)), (9, .inl r3), (0, .inr (.inr 37)), (1, .inl l1), (2, .inl l2), (3, .inl l3), (5, .inl l5), (6, .inl l6), (7, .inl l7), (8, .inl l8)]) (mfx.lt mf97 (Nat.le_of_ble_eq_true rfl)) rfl (ck dc97 (i := 70) rfl) ?_
        refine G_aload_n 3 rfl rfl (ck dc97 (i := 71) rfl) ?_
        refine H_getR mf97 (ck dc97 (i := 72) rfl) fw_Coins_15 fc2_3 ly37 ra37 rf37_3 (by decide) ?_
        refine G_iload 2 rfl (ck dc97 (i := 73) rfl) ?_
        refine G_iload 1 rfl (ck dc97 (i := 74) rfl) ?_
        refine G_iast (ck dc97 (i := 75) rfl) ra39 ly39 (by decide) o10 ?_
        refine G_iinc (L' := [(8, .inl (l8 + 1)), (4, .inl 1), (10, .inl (Int.tdiv ((M4 3 r3) * l7) l6)), (9, .inl r3), (0, .inr (.inr 37)), (1, .inl l1), (2, .inl l2), (3, .inl l3), (5, .inl l5), (6, .inl l6), (7, .inl l7)]) 10 rfl (mfx.lt mf97 (Nat.le_of_ble_eq_true rfl)) rfl (ck dc97 (i := 76) rfl) ?_
        refine G_goto (tgt := 64) (by decide) (ck dc97 (i := 77) rfl) ?_
        exact G_sub [4, 5, 6, 7, 1, 8, 9, 10, 0] rfl h
      · replace h := h.2 c
        refine G_iload 0 rfl (ck dc97 (i := 61) rfl) ?_
        refine G_aload_n 2 rfl rfl (ck dc97 (i := 62) rfl) ?_
        refine H_getR mf97 (ck dc97 (i := 63) rfl) fw_Coins_15 fc2_3 ly37 ra37 rf37_3 (by decide) ?_
        refine G_iload 1 rfl (ck dc97 (i := 64) rfl) ?_
        refine H_iald (ck dc97 (i := 65) rfl) ly39 (by decide) ra39 o10 (x := (M4 39 r3)) rfl ?_
        obtain ⟨o14, h⟩ := h
        obtain ⟨o15, h⟩ := h
        refine G_icmp_eq (tgt := 134) (by decide) o14 o15 (ck dc97 (i := 66) rfl) (fun c => ?_) (fun c => ?_)
        · replace h := h.1 c
          refine G_iconst (ck dc97 (i := 69) rfl) ?_
          refine G_istore (L' := [(4, .inl 0), (10, .inl (Int.tdiv ((M4 3 r3) * l7) l6)), (9, .inl r3), (0, .inr (.inr 37)), (1, .inl l1), (2, .inl l2), (3, .inl l3), (5, .inl l5), (6, .inl l6), (7, .inl l7), (8, .inl l8)]) (mfx.lt mf97 (Nat.le_of_ble_eq_true rfl)) rfl (ck dc97 (i := 70) rfl) ?_
          refine G_aload_n 3 rfl rfl (ck dc97 (i := 71) rfl) ?_
          refine H_getR mf97 (ck dc97 (i := 72) rfl) fw_Coins_15 fc2_3 ly37 ra37 rf37_3 (by decide) ?_
          refine G_iload 2 rfl (ck dc97 (i := 73) rfl) ?_
          refine G_iload 1 rfl (ck dc97 (i := 74) rfl) ?_
          refine G_iast (ck dc97 (i := 75) rfl) ra39 ly39 (by decide) o10 ?_
          refine G_iinc (L' := [(8, .inl (l8 + 1)), (4, .inl 0), (10, .inl (Int.tdiv ((M4 3 r3) * l7) l6)), (9, .inl r3), (0, .inr (.inr 37)), (1, .inl l1), (2, .inl l2), (3, .inl l3), (5, .inl l5), (6, .inl l6), (7, .inl l7)]) 10 rfl (mfx.lt mf97 (Nat.le_of_ble_eq_true rfl)) rfl (ck dc97 (i := 76) rfl) ?_
          refine G_goto (tgt := 64) (by decide) (ck dc97 (i := 77) rfl) ?_
          exact G_sub [4, 5, 6, 7, 1, 8, 9, 10, 0] rfl h
        · replace h := h.2 c
          refine G_iconst (ck dc97 (i := 67) rfl) ?_
          refine G_goto (tgt := 135) (by decide) (ck dc97 (i := 68) rfl) ?_
          refine G_istore (L' := [(4, .inl 1), (10, .inl (Int.tdiv ((M4 3 r3) * l7) l6)), (9, .inl r3), (0, .inr (.inr 37)), (1, .inl l1), (2, .inl l2), (3, .inl l3), (5, .inl l5), (6, .inl l6), (7, .inl l7), (8, .inl l8)]) (mfx.lt mf97 (Nat.le_of_ble_eq_true rfl)) rfl (ck dc97 (i := 70) rfl) ?_
          refine G_aload_n 3 rfl rfl (ck dc97 (i := 71) rfl) ?_
          refine H_getR mf97 (ck dc97 (i := 72) rfl) fw_Coins_15 fc2_3 ly37 ra37 rf37_3 (by decide) ?_
          refine G_iload 2 rfl (ck dc97 (i := 73) rfl) ?_
          refine G_iload 1 rfl (ck dc97 (i := 74) rfl) ?_
          refine G_iast (ck dc97 (i := 75) rfl) ra39 ly39 (by decide) o10 ?_
          refine G_iinc (L' := [(8, .inl (l8 + 1)), (4, .inl 1), (10, .inl (Int.tdiv ((M4 3 r3) * l7) l6)), (9, .inl r3), (0, .inr (.inr 37)), (1, .inl l1), (2, .inl l2), (3, .inl l3), (5, .inl l5), (6, .inl l6), (7, .inl l7)]) 10 rfl (mfx.lt mf97 (Nat.le_of_ble_eq_true rfl)) rfl (ck dc97 (i := 76) rfl) ?_
          refine G_goto (tgt := 64) (by decide) (ck dc97 (i := 77) rfl) ?_
          exact G_sub [4, 5, 6, 7, 1, 8, 9, 10, 0] rfl h
