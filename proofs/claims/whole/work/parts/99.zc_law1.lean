/-! THE LAW: its loop, a block a case -/
set_option maxHeartbeats 20000000 in
theorem g_law_18 (K : Nat) (n : Nat) (f : Nat → Int) (l3 : Int) (M : PM) (Q : Option PV → PM → Prop)
    (h : R32 l3 ∧ R32 ((n : Int) - 6) ∧ (((n : Int) - 6) < l3 → Q (some (.inl 1)) M) ∧ (¬ ((n : Int) - 6) < l3 → (0 ≤ l3 ∧ l3 < (n : Int)) ∧ R32 (bAnd (f (l3).toNat) 63) ∧ (((bAnd (f (l3).toNat) 63) < 0 ∨ 53 < (bAnd (f (l3).toNat) 63)) → G (some (n, f)) (K + 1) jLaw_law 1999 [(0, .inr (.inr 1000000)), (1, .inr (.inr 0)), (2, .inr (.inr 52)), (3, .inl l3)] [] P0 P0 M Q) ∧ ((bAnd (f (l3).toNat) 63) = 0 → G (some (n, f)) (K + 1) jLaw_law 264 [(0, .inr (.inr 1000000)), (1, .inr (.inr 0)), (2, .inr (.inr 52)), (3, .inl l3)] [] P0 P0 M Q) ∧ ((bAnd (f (l3).toNat) 63) = 1 → G (some (n, f)) (K + 1) jLaw_law 287 [(0, .inr (.inr 1000000)), (1, .inr (.inr 0)), (2, .inr (.inr 52)), (3, .inl l3)] [] P0 P0 M Q) ∧ ((bAnd (f (l3).toNat) 63) = 2 → G (some (n, f)) (K + 1) jLaw_law 320 [(0, .inr (.inr 1000000)), (1, .inr (.inr 0)), (2, .inr (.inr 52)), (3, .inl l3)] [] P0 P0 M Q) ∧ ((bAnd (f (l3).toNat) 63) = 3 → G (some (n, f)) (K + 1) jLaw_law 373 [(0, .inr (.inr 1000000)), (1, .inr (.inr 0)), (2, .inr (.inr 52)), (3, .inl l3)] [] P0 P0 M Q) ∧ ((bAnd (f (l3).toNat) 63) = 4 → G (some (n, f)) (K + 1) jLaw_law 416 [(0, .inr (.inr 1000000)), (1, .inr (.inr 0)), (2, .inr (.inr 52)), (3, .inl l3)] [] P0 P0 M Q) ∧ ((bAnd (f (l3).toNat) 63) = 5 → G (some (n, f)) (K + 1) jLaw_law 449 [(0, .inr (.inr 1000000)), (1, .inr (.inr 0)), (2, .inr (.inr 52)), (3, .inl l3)] [] P0 P0 M Q) ∧ ((bAnd (f (l3).toNat) 63) = 6 → G (some (n, f)) (K + 1) jLaw_law 512 [(0, .inr (.inr 1000000)), (1, .inr (.inr 0)), (2, .inr (.inr 52)), (3, .inl l3)] [] P0 P0 M Q) ∧ ((bAnd (f (l3).toNat) 63) = 7 → G (some (n, f)) (K + 1) jLaw_law 565 [(0, .inr (.inr 1000000)), (1, .inr (.inr 0)), (2, .inr (.inr 52)), (3, .inl l3)] [] P0 P0 M Q) ∧ ((bAnd (f (l3).toNat) 63) = 8 → G (some (n, f)) (K + 1) jLaw_law 588 [(0, .inr (.inr 1000000)), (1, .inr (.inr 0)), (2, .inr (.inr 52)), (3, .inl l3)] [] P0 P0 M Q) ∧ ((bAnd (f (l3).toNat) 63) = 9 → G (some (n, f)) (K + 1) jLaw_law 601 [(0, .inr (.inr 1000000)), (1, .inr (.inr 0)), (2, .inr (.inr 52)), (3, .inl l3)] [] P0 P0 M Q) ∧ ((bAnd (f (l3).toNat) 63) = 10 → G (some (n, f)) (K + 1) jLaw_law 614 [(0, .inr (.inr 1000000)), (1, .inr (.inr 0)), (2, .inr (.inr 52)), (3, .inl l3)] [] P0 P0 M Q) ∧ ((bAnd (f (l3).toNat) 63) = 11 → G (some (n, f)) (K + 1) jLaw_law 627 [(0, .inr (.inr 1000000)), (1, .inr (.inr 0)), (2, .inr (.inr 52)), (3, .inl l3)] [] P0 P0 M Q) ∧ ((bAnd (f (l3).toNat) 63) = 12 → G (some (n, f)) (K + 1) jLaw_law 650 [(0, .inr (.inr 1000000)), (1, .inr (.inr 0)), (2, .inr (.inr 52)), (3, .inl l3)] [] P0 P0 M Q) ∧ ((bAnd (f (l3).toNat) 63) = 13 → G (some (n, f)) (K + 1) jLaw_law 663 [(0, .inr (.inr 1000000)), (1, .inr (.inr 0)), (2, .inr (.inr 52)), (3, .inl l3)] [] P0 P0 M Q) ∧ ((bAnd (f (l3).toNat) 63) = 14 → G (some (n, f)) (K + 1) jLaw_law 707 [(0, .inr (.inr 1000000)), (1, .inr (.inr 0)), (2, .inr (.inr 52)), (3, .inl l3)] [] P0 P0 M Q) ∧ ((bAnd (f (l3).toNat) 63) = 15 → G (some (n, f)) (K + 1) jLaw_law 761 [(0, .inr (.inr 1000000)), (1, .inr (.inr 0)), (2, .inr (.inr 52)), (3, .inl l3)] [] P0 P0 M Q) ∧ ((bAnd (f (l3).toNat) 63) = 16 → G (some (n, f)) (K + 1) jLaw_law 815 [(0, .inr (.inr 1000000)), (1, .inr (.inr 0)), (2, .inr (.inr 52)), (3, .inl l3)] [] P0 P0 M Q) ∧ ((bAnd (f (l3).toNat) 63) = 17 → G (some (n, f)) (K + 1) jLaw_law 849 [(0, .inr (.inr 1000000)), (1, .inr (.inr 0)), (2, .inr (.inr 52)), (3, .inl l3)] [] P0 P0 M Q) ∧ ((bAnd (f (l3).toNat) 63) = 18 → G (some (n, f)) (K + 1) jLaw_law 893 [(0, .inr (.inr 1000000)), (1, .inr (.inr 0)), (2, .inr (.inr 52)), (3, .inl l3)] [] P0 P0 M Q) ∧ ((bAnd (f (l3).toNat) 63) = 19 → G (some (n, f)) (K + 1) jLaw_law 927 [(0, .inr (.inr 1000000)), (1, .inr (.inr 0)), (2, .inr (.inr 52)), (3, .inl l3)] [] P0 P0 M Q) ∧ ((bAnd (f (l3).toNat) 63) = 20 → G (some (n, f)) (K + 1) jLaw_law 961 [(0, .inr (.inr 1000000)), (1, .inr (.inr 0)), (2, .inr (.inr 52)), (3, .inl l3)] [] P0 P0 M Q) ∧ ((bAnd (f (l3).toNat) 63) = 21 → G (some (n, f)) (K + 1) jLaw_law 1005 [(0, .inr (.inr 1000000)), (1, .inr (.inr 0)), (2, .inr (.inr 52)), (3, .inl l3)] [] P0 P0 M Q) ∧ ((bAnd (f (l3).toNat) 63) = 22 → G (some (n, f)) (K + 1) jLaw_law 1039 [(0, .inr (.inr 1000000)), (1, .inr (.inr 0)), (2, .inr (.inr 52)), (3, .inl l3)] [] P0 P0 M Q) ∧ ((bAnd (f (l3).toNat) 63) = 23 → G (some (n, f)) (K + 1) jLaw_law 1062 [(0, .inr (.inr 1000000)), (1, .inr (.inr 0)), (2, .inr (.inr 52)), (3, .inl l3)] [] P0 P0 M Q) ∧ ((bAnd (f (l3).toNat) 63) = 24 → G (some (n, f)) (K + 1) jLaw_law 1095 [(0, .inr (.inr 1000000)), (1, .inr (.inr 0)), (2, .inr (.inr 52)), (3, .inl l3)] [] P0 P0 M Q) ∧ ((bAnd (f (l3).toNat) 63) = 25 → G (some (n, f)) (K + 1) jLaw_law 1118 [(0, .inr (.inr 1000000)), (1, .inr (.inr 0)), (2, .inr (.inr 52)), (3, .inl l3)] [] P0 P0 M Q) ∧ ((bAnd (f (l3).toNat) 63) = 26 → G (some (n, f)) (K + 1) jLaw_law 1141 [(0, .inr (.inr 1000000)), (1, .inr (.inr 0)), (2, .inr (.inr 52)), (3, .inl l3)] [] P0 P0 M Q) ∧ ((bAnd (f (l3).toNat) 63) = 27 → G (some (n, f)) (K + 1) jLaw_law 1184 [(0, .inr (.inr 1000000)), (1, .inr (.inr 0)), (2, .inr (.inr 52)), (3, .inl l3)] [] P0 P0 M Q) ∧ ((bAnd (f (l3).toNat) 63) = 28 → G (some (n, f)) (K + 1) jLaw_law 1197 [(0, .inr (.inr 1000000)), (1, .inr (.inr 0)), (2, .inr (.inr 52)), (3, .inl l3)] [] P0 P0 M Q) ∧ ((bAnd (f (l3).toNat) 63) = 29 → G (some (n, f)) (K + 1) jLaw_law 1210 [(0, .inr (.inr 1000000)), (1, .inr (.inr 0)), (2, .inr (.inr 52)), (3, .inl l3)] [] P0 P0 M Q) ∧ ((bAnd (f (l3).toNat) 63) = 30 → G (some (n, f)) (K + 1) jLaw_law 1223 [(0, .inr (.inr 1000000)), (1, .inr (.inr 0)), (2, .inr (.inr 52)), (3, .inl l3)] [] P0 P0 M Q) ∧ ((bAnd (f (l3).toNat) 63) = 31 → G (some (n, f)) (K + 1) jLaw_law 1256 [(0, .inr (.inr 1000000)), (1, .inr (.inr 0)), (2, .inr (.inr 52)), (3, .inl l3)] [] P0 P0 M Q) ∧ ((bAnd (f (l3).toNat) 63) = 32 → G (some (n, f)) (K + 1) jLaw_law 1289 [(0, .inr (.inr 1000000)), (1, .inr (.inr 0)), (2, .inr (.inr 52)), (3, .inl l3)] [] P0 P0 M Q) ∧ ((bAnd (f (l3).toNat) 63) = 33 → G (some (n, f)) (K + 1) jLaw_law 1322 [(0, .inr (.inr 1000000)), (1, .inr (.inr 0)), (2, .inr (.inr 52)), (3, .inl l3)] [] P0 P0 M Q) ∧ ((bAnd (f (l3).toNat) 63) = 34 → G (some (n, f)) (K + 1) jLaw_law 1355 [(0, .inr (.inr 1000000)), (1, .inr (.inr 0)), (2, .inr (.inr 52)), (3, .inl l3)] [] P0 P0 M Q) ∧ ((bAnd (f (l3).toNat) 63) = 35 → G (some (n, f)) (K + 1) jLaw_law 1378 [(0, .inr (.inr 1000000)), (1, .inr (.inr 0)), (2, .inr (.inr 52)), (3, .inl l3)] [] P0 P0 M Q) ∧ ((bAnd (f (l3).toNat) 63) = 36 → G (some (n, f)) (K + 1) jLaw_law 1391 [(0, .inr (.inr 1000000)), (1, .inr (.inr 0)), (2, .inr (.inr 52)), (3, .inl l3)] [] P0 P0 M Q) ∧ ((bAnd (f (l3).toNat) 63) = 37 → G (some (n, f)) (K + 1) jLaw_law 1454 [(0, .inr (.inr 1000000)), (1, .inr (.inr 0)), (2, .inr (.inr 52)), (3, .inl l3)] [] P0 P0 M Q) ∧ ((bAnd (f (l3).toNat) 63) = 38 → G (some (n, f)) (K + 1) jLaw_law 1487 [(0, .inr (.inr 1000000)), (1, .inr (.inr 0)), (2, .inr (.inr 52)), (3, .inl l3)] [] P0 P0 M Q) ∧ ((bAnd (f (l3).toNat) 63) = 39 → G (some (n, f)) (K + 1) jLaw_law 1510 [(0, .inr (.inr 1000000)), (1, .inr (.inr 0)), (2, .inr (.inr 52)), (3, .inl l3)] [] P0 P0 M Q) ∧ ((bAnd (f (l3).toNat) 63) = 40 → G (some (n, f)) (K + 1) jLaw_law 1594 [(0, .inr (.inr 1000000)), (1, .inr (.inr 0)), (2, .inr (.inr 52)), (3, .inl l3)] [] P0 P0 M Q) ∧ ((bAnd (f (l3).toNat) 63) = 41 → G (some (n, f)) (K + 1) jLaw_law 1638 [(0, .inr (.inr 1000000)), (1, .inr (.inr 0)), (2, .inr (.inr 52)), (3, .inl l3)] [] P0 P0 M Q) ∧ ((bAnd (f (l3).toNat) 63) = 42 → G (some (n, f)) (K + 1) jLaw_law 1672 [(0, .inr (.inr 1000000)), (1, .inr (.inr 0)), (2, .inr (.inr 52)), (3, .inl l3)] [] P0 P0 M Q) ∧ ((bAnd (f (l3).toNat) 63) = 43 → G (some (n, f)) (K + 1) jLaw_law 1695 [(0, .inr (.inr 1000000)), (1, .inr (.inr 0)), (2, .inr (.inr 52)), (3, .inl l3)] [] P0 P0 M Q) ∧ ((bAnd (f (l3).toNat) 63) = 44 → G (some (n, f)) (K + 1) jLaw_law 1708 [(0, .inr (.inr 1000000)), (1, .inr (.inr 0)), (2, .inr (.inr 52)), (3, .inl l3)] [] P0 P0 M Q) ∧ ((bAnd (f (l3).toNat) 63) = 45 → G (some (n, f)) (K + 1) jLaw_law 1721 [(0, .inr (.inr 1000000)), (1, .inr (.inr 0)), (2, .inr (.inr 52)), (3, .inl l3)] [] P0 P0 M Q) ∧ ((bAnd (f (l3).toNat) 63) = 46 → G (some (n, f)) (K + 1) jLaw_law 1744 [(0, .inr (.inr 1000000)), (1, .inr (.inr 0)), (2, .inr (.inr 52)), (3, .inl l3)] [] P0 P0 M Q) ∧ ((bAnd (f (l3).toNat) 63) = 47 → G (some (n, f)) (K + 1) jLaw_law 1767 [(0, .inr (.inr 1000000)), (1, .inr (.inr 0)), (2, .inr (.inr 52)), (3, .inl l3)] [] P0 P0 M Q) ∧ ((bAnd (f (l3).toNat) 63) = 48 → G (some (n, f)) (K + 1) jLaw_law 1800 [(0, .inr (.inr 1000000)), (1, .inr (.inr 0)), (2, .inr (.inr 52)), (3, .inl l3)] [] P0 P0 M Q) ∧ ((bAnd (f (l3).toNat) 63) = 49 → G (some (n, f)) (K + 1) jLaw_law 1873 [(0, .inr (.inr 1000000)), (1, .inr (.inr 0)), (2, .inr (.inr 52)), (3, .inl l3)] [] P0 P0 M Q) ∧ ((bAnd (f (l3).toNat) 63) = 50 → G (some (n, f)) (K + 1) jLaw_law 1907 [(0, .inr (.inr 1000000)), (1, .inr (.inr 0)), (2, .inr (.inr 52)), (3, .inl l3)] [] P0 P0 M Q) ∧ ((bAnd (f (l3).toNat) 63) = 51 → G (some (n, f)) (K + 1) jLaw_law 1940 [(0, .inr (.inr 1000000)), (1, .inr (.inr 0)), (2, .inr (.inr 52)), (3, .inl l3)] [] P0 P0 M Q) ∧ ((bAnd (f (l3).toNat) 63) = 52 → G (some (n, f)) (K + 1) jLaw_law 1973 [(0, .inr (.inr 1000000)), (1, .inr (.inr 0)), (2, .inr (.inr 52)), (3, .inl l3)] [] P0 P0 M Q) ∧ ((bAnd (f (l3).toNat) 63) = 53 → G (some (n, f)) (K + 1) jLaw_law 1986 [(0, .inr (.inr 1000000)), (1, .inr (.inr 0)), (2, .inr (.inr 52)), (3, .inl l3)] [] P0 P0 M Q))) : G (some (n, f)) (K + 1) jLaw_law 18 [(0, .inr (.inr 1000000)), (1, .inr (.inr 0)), (2, .inr (.inr 52)), (3, .inl l3)] [] P0 P0 M Q := by
  refine G_iload_n 3 rfl rfl (ck dc297_0 (i := 10) rfl) ?_
  refine G_aload_n 0 rfl rfl (ck dc297_0 (i := 11) rfl) ?_
  refine G_slen (ck dc297_0 (i := 12) rfl) ?_
  refine G_bipush (n := 6) rfl (ck dc297_0 (i := 13) rfl) ?_
  refine G_isub (ck dc297_0 (i := 14) rfl) ?_
  obtain ⟨o1, h⟩ := h
  obtain ⟨o2, h⟩ := h
  refine G_icmp_gt (tgt := 2005) (by decide) o1 o2 (ck dc297_0 (i := 15) rfl) (fun c => ?_) (fun c => ?_)
  · replace h := h.1 c
    refine G_iconst (ck dc297_29 (i := 31) rfl) ?_
    exact H_iretZ mf297 (ck dc297_29 (i := 32) rfl) rfl (Or.inr rfl) h
  · replace h := h.2 c
    refine G_aload_n 0 rfl rfl (ck dc297_0 (i := 16) rfl) ?_
    refine G_iload_n 3 rfl rfl (ck dc297_0 (i := 17) rfl) ?_
    obtain ⟨o3, h⟩ := h
    refine G_sld (ck dc297_0 (i := 18) rfl) o3 ?_
    refine G_bipush (n := 63) rfl (ck dc297_0 (i := 19) rfl) ?_
    refine G_iand (ck dc297_0 (i := 20) rfl) ?_
    obtain ⟨o4, h⟩ := h
    by_cases q : ((bAnd (f (l3).toNat) 63) < 0 ∨ 53 < (bAnd (f (l3).toNat) 63))
    · replace h := h.1 q
      refine G_tsOut (tgt := 1999) o4 q (by decide) (ck dc297_0 (i := 21) rfl) ?_
      exact G_sub [0, 1, 2, 3] rfl h
    · replace h := h.2
      have q2 : (bAnd (f (l3).toNat) 63) = 0 ∨ (bAnd (f (l3).toNat) 63) = 1 ∨ (bAnd (f (l3).toNat) 63) = 2 ∨ (bAnd (f (l3).toNat) 63) = 3 ∨ (bAnd (f (l3).toNat) 63) = 4 ∨ (bAnd (f (l3).toNat) 63) = 5 ∨ (bAnd (f (l3).toNat) 63) = 6 ∨ (bAnd (f (l3).toNat) 63) = 7 ∨ (bAnd (f (l3).toNat) 63) = 8 ∨ (bAnd (f (l3).toNat) 63) = 9 ∨ (bAnd (f (l3).toNat) 63) = 10 ∨ (bAnd (f (l3).toNat) 63) = 11 ∨ (bAnd (f (l3).toNat) 63) = 12 ∨ (bAnd (f (l3).toNat) 63) = 13 ∨ (bAnd (f (l3).toNat) 63) = 14 ∨ (bAnd (f (l3).toNat) 63) = 15 ∨ (bAnd (f (l3).toNat) 63) = 16 ∨ (bAnd (f (l3).toNat) 63) = 17 ∨ (bAnd (f (l3).toNat) 63) = 18 ∨ (bAnd (f (l3).toNat) 63) = 19 ∨ (bAnd (f (l3).toNat) 63) = 20 ∨ (bAnd (f (l3).toNat) 63) = 21 ∨ (bAnd (f (l3).toNat) 63) = 22 ∨ (bAnd (f (l3).toNat) 63) = 23 ∨ (bAnd (f (l3).toNat) 63) = 24 ∨ (bAnd (f (l3).toNat) 63) = 25 ∨ (bAnd (f (l3).toNat) 63) = 26 ∨ (bAnd (f (l3).toNat) 63) = 27 ∨ (bAnd (f (l3).toNat) 63) = 28 ∨ (bAnd (f (l3).toNat) 63) = 29 ∨ (bAnd (f (l3).toNat) 63) = 30 ∨ (bAnd (f (l3).toNat) 63) = 31 ∨ (bAnd (f (l3).toNat) 63) = 32 ∨ (bAnd (f (l3).toNat) 63) = 33 ∨ (bAnd (f (l3).toNat) 63) = 34 ∨ (bAnd (f (l3).toNat) 63) = 35 ∨ (bAnd (f (l3).toNat) 63) = 36 ∨ (bAnd (f (l3).toNat) 63) = 37 ∨ (bAnd (f (l3).toNat) 63) = 38 ∨ (bAnd (f (l3).toNat) 63) = 39 ∨ (bAnd (f (l3).toNat) 63) = 40 ∨ (bAnd (f (l3).toNat) 63) = 41 ∨ (bAnd (f (l3).toNat) 63) = 42 ∨ (bAnd (f (l3).toNat) 63) = 43 ∨ (bAnd (f (l3).toNat) 63) = 44 ∨ (bAnd (f (l3).toNat) 63) = 45 ∨ (bAnd (f (l3).toNat) 63) = 46 ∨ (bAnd (f (l3).toNat) 63) = 47 ∨ (bAnd (f (l3).toNat) 63) = 48 ∨ (bAnd (f (l3).toNat) 63) = 49 ∨ (bAnd (f (l3).toNat) 63) = 50 ∨ (bAnd (f (l3).toNat) 63) = 51 ∨ (bAnd (f (l3).toNat) 63) = 52 ∨ (bAnd (f (l3).toNat) 63) = 53 := by omega
      rcases q2 with q2 | q2
      · replace h := h.1 q2
        refine G_tsIn (off := 231) (tgt := 264) o4 (by omega) (by omega) (by rw [q2]; rfl) (by decide) (ck dc297_0 (i := 21) rfl) ?_
        exact G_sub [0, 1, 2, 3] rfl h
      replace h := h.2
      rcases q2 with q2 | q2
      · replace h := h.1 q2
        refine G_tsIn (off := 254) (tgt := 287) o4 (by omega) (by omega) (by rw [q2]; rfl) (by decide) (ck dc297_0 (i := 21) rfl) ?_
        exact G_sub [0, 1, 2, 3] rfl h
      replace h := h.2
      rcases q2 with q2 | q2
      · replace h := h.1 q2
        refine G_tsIn (off := 287) (tgt := 320) o4 (by omega) (by omega) (by rw [q2]; rfl) (by decide) (ck dc297_0 (i := 21) rfl) ?_
        exact G_sub [0, 1, 2, 3] rfl h
      replace h := h.2
      rcases q2 with q2 | q2
      · replace h := h.1 q2
        refine G_tsIn (off := 340) (tgt := 373) o4 (by omega) (by omega) (by rw [q2]; rfl) (by decide) (ck dc297_0 (i := 21) rfl) ?_
        exact G_sub [0, 1, 2, 3] rfl h
      replace h := h.2
      rcases q2 with q2 | q2
      · replace h := h.1 q2
        refine G_tsIn (off := 383) (tgt := 416) o4 (by omega) (by omega) (by rw [q2]; rfl) (by decide) (ck dc297_0 (i := 21) rfl) ?_
        exact G_sub [0, 1, 2, 3] rfl h
      replace h := h.2
      rcases q2 with q2 | q2
      · replace h := h.1 q2
        refine G_tsIn (off := 416) (tgt := 449) o4 (by omega) (by omega) (by rw [q2]; rfl) (by decide) (ck dc297_0 (i := 21) rfl) ?_
        exact G_sub [0, 1, 2, 3] rfl h
      replace h := h.2
      rcases q2 with q2 | q2
      · replace h := h.1 q2
        refine G_tsIn (off := 479) (tgt := 512) o4 (by omega) (by omega) (by rw [q2]; rfl) (by decide) (ck dc297_0 (i := 21) rfl) ?_
        exact G_sub [0, 1, 2, 3] rfl h
      replace h := h.2
      rcases q2 with q2 | q2
      · replace h := h.1 q2
        refine G_tsIn (off := 532) (tgt := 565) o4 (by omega) (by omega) (by rw [q2]; rfl) (by decide) (ck dc297_0 (i := 21) rfl) ?_
        exact G_sub [0, 1, 2, 3] rfl h
      replace h := h.2
      rcases q2 with q2 | q2
      · replace h := h.1 q2
        refine G_tsIn (off := 555) (tgt := 588) o4 (by omega) (by omega) (by rw [q2]; rfl) (by decide) (ck dc297_0 (i := 21) rfl) ?_
        exact G_sub [0, 1, 2, 3] rfl h
      replace h := h.2
      rcases q2 with q2 | q2
      · replace h := h.1 q2
        refine G_tsIn (off := 568) (tgt := 601) o4 (by omega) (by omega) (by rw [q2]; rfl) (by decide) (ck dc297_0 (i := 21) rfl) ?_
        exact G_sub [0, 1, 2, 3] rfl h
      replace h := h.2
      rcases q2 with q2 | q2
      · replace h := h.1 q2
        refine G_tsIn (off := 581) (tgt := 614) o4 (by omega) (by omega) (by rw [q2]; rfl) (by decide) (ck dc297_0 (i := 21) rfl) ?_
        exact G_sub [0, 1, 2, 3] rfl h
      replace h := h.2
      rcases q2 with q2 | q2
      · replace h := h.1 q2
        refine G_tsIn (off := 594) (tgt := 627) o4 (by omega) (by omega) (by rw [q2]; rfl) (by decide) (ck dc297_0 (i := 21) rfl) ?_
        exact G_sub [0, 1, 2, 3] rfl h
      replace h := h.2
      rcases q2 with q2 | q2
      · replace h := h.1 q2
        refine G_tsIn (off := 617) (tgt := 650) o4 (by omega) (by omega) (by rw [q2]; rfl) (by decide) (ck dc297_0 (i := 21) rfl) ?_
        exact G_sub [0, 1, 2, 3] rfl h
      replace h := h.2
      rcases q2 with q2 | q2
      · replace h := h.1 q2
        refine G_tsIn (off := 630) (tgt := 663) o4 (by omega) (by omega) (by rw [q2]; rfl) (by decide) (ck dc297_0 (i := 21) rfl) ?_
        exact G_sub [0, 1, 2, 3] rfl h
      replace h := h.2
      rcases q2 with q2 | q2
      · replace h := h.1 q2
        refine G_tsIn (off := 674) (tgt := 707) o4 (by omega) (by omega) (by rw [q2]; rfl) (by decide) (ck dc297_0 (i := 21) rfl) ?_
        exact G_sub [0, 1, 2, 3] rfl h
      replace h := h.2
      rcases q2 with q2 | q2
      · replace h := h.1 q2
        refine G_tsIn (off := 728) (tgt := 761) o4 (by omega) (by omega) (by rw [q2]; rfl) (by decide) (ck dc297_0 (i := 21) rfl) ?_
        exact G_sub [0, 1, 2, 3] rfl h
      replace h := h.2
      rcases q2 with q2 | q2
      · replace h := h.1 q2
        refine G_tsIn (off := 782) (tgt := 815) o4 (by omega) (by omega) (by rw [q2]; rfl) (by decide) (ck dc297_0 (i := 21) rfl) ?_
        exact G_sub [0, 1, 2, 3] rfl h
      replace h := h.2
      rcases q2 with q2 | q2
      · replace h := h.1 q2
        refine G_tsIn (off := 816) (tgt := 849) o4 (by omega) (by omega) (by rw [q2]; rfl) (by decide) (ck dc297_0 (i := 21) rfl) ?_
        exact G_sub [0, 1, 2, 3] rfl h
      replace h := h.2
      rcases q2 with q2 | q2
      · replace h := h.1 q2
        refine G_tsIn (off := 860) (tgt := 893) o4 (by omega) (by omega) (by rw [q2]; rfl) (by decide) (ck dc297_0 (i := 21) rfl) ?_
        exact G_sub [0, 1, 2, 3] rfl h
      replace h := h.2
      rcases q2 with q2 | q2
      · replace h := h.1 q2
        refine G_tsIn (off := 894) (tgt := 927) o4 (by omega) (by omega) (by rw [q2]; rfl) (by decide) (ck dc297_0 (i := 21) rfl) ?_
        exact G_sub [0, 1, 2, 3] rfl h
      replace h := h.2
      rcases q2 with q2 | q2
      · replace h := h.1 q2
        refine G_tsIn (off := 928) (tgt := 961) o4 (by omega) (by omega) (by rw [q2]; rfl) (by decide) (ck dc297_0 (i := 21) rfl) ?_
        exact G_sub [0, 1, 2, 3] rfl h
      replace h := h.2
      rcases q2 with q2 | q2
      · replace h := h.1 q2
        refine G_tsIn (off := 972) (tgt := 1005) o4 (by omega) (by omega) (by rw [q2]; rfl) (by decide) (ck dc297_0 (i := 21) rfl) ?_
        exact G_sub [0, 1, 2, 3] rfl h
      replace h := h.2
      rcases q2 with q2 | q2
      · replace h := h.1 q2
        refine G_tsIn (off := 1006) (tgt := 1039) o4 (by omega) (by omega) (by rw [q2]; rfl) (by decide) (ck dc297_0 (i := 21) rfl) ?_
        exact G_sub [0, 1, 2, 3] rfl h
      replace h := h.2
      rcases q2 with q2 | q2
      · replace h := h.1 q2
        refine G_tsIn (off := 1029) (tgt := 1062) o4 (by omega) (by omega) (by rw [q2]; rfl) (by decide) (ck dc297_0 (i := 21) rfl) ?_
        exact G_sub [0, 1, 2, 3] rfl h
      replace h := h.2
      rcases q2 with q2 | q2
      · replace h := h.1 q2
        refine G_tsIn (off := 1062) (tgt := 1095) o4 (by omega) (by omega) (by rw [q2]; rfl) (by decide) (ck dc297_0 (i := 21) rfl) ?_
        exact G_sub [0, 1, 2, 3] rfl h
      replace h := h.2
      rcases q2 with q2 | q2
      · replace h := h.1 q2
        refine G_tsIn (off := 1085) (tgt := 1118) o4 (by omega) (by omega) (by rw [q2]; rfl) (by decide) (ck dc297_0 (i := 21) rfl) ?_
        exact G_sub [0, 1, 2, 3] rfl h
      replace h := h.2
      rcases q2 with q2 | q2
      · replace h := h.1 q2
        refine G_tsIn (off := 1108) (tgt := 1141) o4 (by omega) (by omega) (by rw [q2]; rfl) (by decide) (ck dc297_0 (i := 21) rfl) ?_
        exact G_sub [0, 1, 2, 3] rfl h
      replace h := h.2
      rcases q2 with q2 | q2
      · replace h := h.1 q2
        refine G_tsIn (off := 1151) (tgt := 1184) o4 (by omega) (by omega) (by rw [q2]; rfl) (by decide) (ck dc297_0 (i := 21) rfl) ?_
        exact G_sub [0, 1, 2, 3] rfl h
      replace h := h.2
      rcases q2 with q2 | q2
      · replace h := h.1 q2
        refine G_tsIn (off := 1164) (tgt := 1197) o4 (by omega) (by omega) (by rw [q2]; rfl) (by decide) (ck dc297_0 (i := 21) rfl) ?_
        exact G_sub [0, 1, 2, 3] rfl h
      replace h := h.2
      rcases q2 with q2 | q2
      · replace h := h.1 q2
        refine G_tsIn (off := 1177) (tgt := 1210) o4 (by omega) (by omega) (by rw [q2]; rfl) (by decide) (ck dc297_0 (i := 21) rfl) ?_
        exact G_sub [0, 1, 2, 3] rfl h
      replace h := h.2
      rcases q2 with q2 | q2
      · replace h := h.1 q2
        refine G_tsIn (off := 1190) (tgt := 1223) o4 (by omega) (by omega) (by rw [q2]; rfl) (by decide) (ck dc297_0 (i := 21) rfl) ?_
        exact G_sub [0, 1, 2, 3] rfl h
      replace h := h.2
      rcases q2 with q2 | q2
      · replace h := h.1 q2
        refine G_tsIn (off := 1223) (tgt := 1256) o4 (by omega) (by omega) (by rw [q2]; rfl) (by decide) (ck dc297_0 (i := 21) rfl) ?_
        exact G_sub [0, 1, 2, 3] rfl h
      replace h := h.2
      rcases q2 with q2 | q2
      · replace h := h.1 q2
        refine G_tsIn (off := 1256) (tgt := 1289) o4 (by omega) (by omega) (by rw [q2]; rfl) (by decide) (ck dc297_0 (i := 21) rfl) ?_
        exact G_sub [0, 1, 2, 3] rfl h
      replace h := h.2
      rcases q2 with q2 | q2
      · replace h := h.1 q2
        refine G_tsIn (off := 1289) (tgt := 1322) o4 (by omega) (by omega) (by rw [q2]; rfl) (by decide) (ck dc297_0 (i := 21) rfl) ?_
        exact G_sub [0, 1, 2, 3] rfl h
      replace h := h.2
      rcases q2 with q2 | q2
      · replace h := h.1 q2
        refine G_tsIn (off := 1322) (tgt := 1355) o4 (by omega) (by omega) (by rw [q2]; rfl) (by decide) (ck dc297_0 (i := 21) rfl) ?_
        exact G_sub [0, 1, 2, 3] rfl h
      replace h := h.2
      rcases q2 with q2 | q2
      · replace h := h.1 q2
        refine G_tsIn (off := 1345) (tgt := 1378) o4 (by omega) (by omega) (by rw [q2]; rfl) (by decide) (ck dc297_0 (i := 21) rfl) ?_
        exact G_sub [0, 1, 2, 3] rfl h
      replace h := h.2
      rcases q2 with q2 | q2
      · replace h := h.1 q2
        refine G_tsIn (off := 1358) (tgt := 1391) o4 (by omega) (by omega) (by rw [q2]; rfl) (by decide) (ck dc297_0 (i := 21) rfl) ?_
        exact G_sub [0, 1, 2, 3] rfl h
      replace h := h.2
      rcases q2 with q2 | q2
      · replace h := h.1 q2
        refine G_tsIn (off := 1421) (tgt := 1454) o4 (by omega) (by omega) (by rw [q2]; rfl) (by decide) (ck dc297_0 (i := 21) rfl) ?_
        exact G_sub [0, 1, 2, 3] rfl h
      replace h := h.2
      rcases q2 with q2 | q2
      · replace h := h.1 q2
        refine G_tsIn (off := 1454) (tgt := 1487) o4 (by omega) (by omega) (by rw [q2]; rfl) (by decide) (ck dc297_0 (i := 21) rfl) ?_
        exact G_sub [0, 1, 2, 3] rfl h
      replace h := h.2
      rcases q2 with q2 | q2
      · replace h := h.1 q2
        refine G_tsIn (off := 1477) (tgt := 1510) o4 (by omega) (by omega) (by rw [q2]; rfl) (by decide) (ck dc297_0 (i := 21) rfl) ?_
        exact G_sub [0, 1, 2, 3] rfl h
      replace h := h.2
      rcases q2 with q2 | q2
      · replace h := h.1 q2
        refine G_tsIn (off := 1561) (tgt := 1594) o4 (by omega) (by omega) (by rw [q2]; rfl) (by decide) (ck dc297_0 (i := 21) rfl) ?_
        exact G_sub [0, 1, 2, 3] rfl h
      replace h := h.2
      rcases q2 with q2 | q2
      · replace h := h.1 q2
        refine G_tsIn (off := 1605) (tgt := 1638) o4 (by omega) (by omega) (by rw [q2]; rfl) (by decide) (ck dc297_0 (i := 21) rfl) ?_
        exact G_sub [0, 1, 2, 3] rfl h
      replace h := h.2
      rcases q2 with q2 | q2
      · replace h := h.1 q2
        refine G_tsIn (off := 1639) (tgt := 1672) o4 (by omega) (by omega) (by rw [q2]; rfl) (by decide) (ck dc297_0 (i := 21) rfl) ?_
        exact G_sub [0, 1, 2, 3] rfl h
      replace h := h.2
      rcases q2 with q2 | q2
      · replace h := h.1 q2
        refine G_tsIn (off := 1662) (tgt := 1695) o4 (by omega) (by omega) (by rw [q2]; rfl) (by decide) (ck dc297_0 (i := 21) rfl) ?_
        exact G_sub [0, 1, 2, 3] rfl h
      replace h := h.2
      rcases q2 with q2 | q2
      · replace h := h.1 q2
        refine G_tsIn (off := 1675) (tgt := 1708) o4 (by omega) (by omega) (by rw [q2]; rfl) (by decide) (ck dc297_0 (i := 21) rfl) ?_
        exact G_sub [0, 1, 2, 3] rfl h
      replace h := h.2
      rcases q2 with q2 | q2
      · replace h := h.1 q2
        refine G_tsIn (off := 1688) (tgt := 1721) o4 (by omega) (by omega) (by rw [q2]; rfl) (by decide) (ck dc297_0 (i := 21) rfl) ?_
        exact G_sub [0, 1, 2, 3] rfl h
      replace h := h.2
      rcases q2 with q2 | q2
      · replace h := h.1 q2
        refine G_tsIn (off := 1711) (tgt := 1744) o4 (by omega) (by omega) (by rw [q2]; rfl) (by decide) (ck dc297_0 (i := 21) rfl) ?_
        exact G_sub [0, 1, 2, 3] rfl h
      replace h := h.2
      rcases q2 with q2 | q2
      · replace h := h.1 q2
        refine G_tsIn (off := 1734) (tgt := 1767) o4 (by omega) (by omega) (by rw [q2]; rfl) (by decide) (ck dc297_0 (i := 21) rfl) ?_
        exact G_sub [0, 1, 2, 3] rfl h
      replace h := h.2
      rcases q2 with q2 | q2
      · replace h := h.1 q2
        refine G_tsIn (off := 1767) (tgt := 1800) o4 (by omega) (by omega) (by rw [q2]; rfl) (by decide) (ck dc297_0 (i := 21) rfl) ?_
        exact G_sub [0, 1, 2, 3] rfl h
      replace h := h.2
      rcases q2 with q2 | q2
      · replace h := h.1 q2
        refine G_tsIn (off := 1840) (tgt := 1873) o4 (by omega) (by omega) (by rw [q2]; rfl) (by decide) (ck dc297_0 (i := 21) rfl) ?_
        exact G_sub [0, 1, 2, 3] rfl h
      replace h := h.2
      rcases q2 with q2 | q2
      · replace h := h.1 q2
        refine G_tsIn (off := 1874) (tgt := 1907) o4 (by omega) (by omega) (by rw [q2]; rfl) (by decide) (ck dc297_0 (i := 21) rfl) ?_
        exact G_sub [0, 1, 2, 3] rfl h
      replace h := h.2
      rcases q2 with q2 | q2
      · replace h := h.1 q2
        refine G_tsIn (off := 1907) (tgt := 1940) o4 (by omega) (by omega) (by rw [q2]; rfl) (by decide) (ck dc297_0 (i := 21) rfl) ?_
        exact G_sub [0, 1, 2, 3] rfl h
      replace h := h.2
      rcases q2 with q2 | q2
      · replace h := h.1 q2
        refine G_tsIn (off := 1940) (tgt := 1973) o4 (by omega) (by omega) (by rw [q2]; rfl) (by decide) (ck dc297_0 (i := 21) rfl) ?_
        exact G_sub [0, 1, 2, 3] rfl h
      replace h := h.2
      · replace h := h q2
        refine G_tsIn (off := 1953) (tgt := 1986) o4 (by omega) (by omega) (by rw [q2]; rfl) (by decide) (ck dc297_0 (i := 21) rfl) ?_
        exact G_sub [0, 1, 2, 3] rfl h
set_option maxHeartbeats 20000000 in
theorem g_law_264 (K : Nat) (n : Nat) (f : Nat → Int) (l3 : Int) (M : PM) (Q : Option PV → PM → Prop)
    (h : (0 ≤ (l3 + 1) ∧ (l3 + 1) < (n : Int)) ∧ Call K jClearingWaves_houses [.inr (.inr 0), .inl (f ((l3 + 1)).toNat)] P0 P0 M (retI fun r2 M3 => Call K jModel_houses [.inr (.inr 52), .inl (f ((l3 + 1)).toNat)] P0 P0 M3 (retI fun r4 M5 => R32 r2 ∧ R32 r4 ∧ (r2 = r4 → G (some (n, f)) (K + 1) jLaw_law 1999 [(0, .inr (.inr 1000000)), (1, .inr (.inr 0)), (2, .inr (.inr 52)), (3, .inl l3)] [] P0 P0 M5 Q) ∧ (¬ r2 = r4 → Q (some (.inl 0)) M5)))) : G (some (n, f)) (K + 1) jLaw_law 264 [(0, .inr (.inr 1000000)), (1, .inr (.inr 0)), (2, .inr (.inr 52)), (3, .inl l3)] [] P0 P0 M Q := by
  refine G_aload_n 1 rfl rfl (ck dc297_0 (i := 22) rfl) ?_
  refine G_aload_n 0 rfl rfl (ck dc297_0 (i := 23) rfl) ?_
  refine G_iload_n 3 rfl rfl (ck dc297_0 (i := 24) rfl) ?_
  refine G_iconst (ck dc297_0 (i := 25) rfl) ?_
  refine G_iadd (ck dc297_0 (i := 26) rfl) ?_
  obtain ⟨o1, h⟩ := h
  refine G_sld (ck dc297_0 (i := 27) rfl) o1 ?_
  refine H_vI mf297 (As := [.inl (f ((l3 + 1)).toNat)]) (st := []) (ck dc297_0 (i := 28) rfl) lk_Law_13 rfl rfl (Nat.le_of_ble_eq_true rfl) ly0 ra0 ⟨Nat.le_refl _, Nat.le_refl _⟩ h (fun r2 M3 h => ?_)
  refine G_aload_n 2 rfl rfl (ck dc297_0 (i := 29) rfl) ?_
  refine G_aload_n 0 rfl rfl (ck dc297_0 (i := 30) rfl) ?_
  refine G_iload_n 3 rfl rfl (ck dc297_0 (i := 31) rfl) ?_
  refine G_iconst (ck dc297_0 (i := 32) rfl) ?_
  refine G_iadd (ck dc297_0 (i := 33) rfl) ?_
  refine G_sld (ck dc297_0 (i := 34) rfl) o1 ?_
  refine H_vI mf297 (As := [.inl (f ((l3 + 1)).toNat)]) (st := [.inl r2]) (ck dc297_0 (i := 35) rfl) lk_Law_17 rfl rfl (Nat.le_of_ble_eq_true rfl) ly52 ra52 ⟨Nat.le_refl _, Nat.le_refl _⟩ h (fun r4 M5 h => ?_)
  obtain ⟨o6, h⟩ := h
  obtain ⟨o7, h⟩ := h
  refine G_icmp_eq (tgt := 1999) (by decide) o6 o7 (ck dc297_0 (i := 36) rfl) (fun c => ?_) (fun c => ?_)
  · replace h := h.1 c
    exact G_sub [0, 1, 2, 3] rfl h
  · replace h := h.2 c
    refine G_iconst (ck dc297_0 (i := 37) rfl) ?_
    exact H_iretZ mf297 (ck dc297_0 (i := 38) rfl) rfl (Or.inl rfl) h
set_option maxHeartbeats 20000000 in
theorem g_law_287 (K : Nat) (n : Nat) (f : Nat → Int) (l3 : Int) (M : PM) (Q : Option PV → PM → Prop)
    (h : (0 ≤ (l3 + 1) ∧ (l3 + 1) < (n : Int)) ∧ (0 ≤ (l3 + 2) ∧ (l3 + 2) < (n : Int)) ∧ Call K jClearingWaves_cash [.inr (.inr 0), .inl (f ((l3 + 1)).toNat), .inl (f ((l3 + 2)).toNat)] P0 P0 M (retI fun r3 M4 => Call K jModel_cash [.inr (.inr 52), .inl (f ((l3 + 1)).toNat), .inl (f ((l3 + 2)).toNat)] P0 P0 M4 (retI fun r5 M6 => R32 r3 ∧ R32 r5 ∧ (r3 = r5 → G (some (n, f)) (K + 1) jLaw_law 1999 [(0, .inr (.inr 1000000)), (1, .inr (.inr 0)), (2, .inr (.inr 52)), (3, .inl l3)] [] P0 P0 M6 Q) ∧ (¬ r3 = r5 → Q (some (.inl 0)) M6)))) : G (some (n, f)) (K + 1) jLaw_law 287 [(0, .inr (.inr 1000000)), (1, .inr (.inr 0)), (2, .inr (.inr 52)), (3, .inl l3)] [] P0 P0 M Q := by
  refine G_aload_n 1 rfl rfl (ck dc297_0 (i := 39) rfl) ?_
  refine G_aload_n 0 rfl rfl (ck dc297_0 (i := 40) rfl) ?_
  refine G_iload_n 3 rfl rfl (ck dc297_0 (i := 41) rfl) ?_
  refine G_iconst (ck dc297_0 (i := 42) rfl) ?_
  refine G_iadd (ck dc297_0 (i := 43) rfl) ?_
  obtain ⟨o1, h⟩ := h
  refine G_sld (ck dc297_0 (i := 44) rfl) o1 ?_
  refine G_aload_n 0 rfl rfl (ck dc297_0 (i := 45) rfl) ?_
  refine G_iload_n 3 rfl rfl (ck dc297_0 (i := 46) rfl) ?_
  refine G_iconst (ck dc297_0 (i := 47) rfl) ?_
  refine G_iadd (ck dc297_1 (i := 0) rfl) ?_
  obtain ⟨o2, h⟩ := h
  refine G_sld (ck dc297_1 (i := 1) rfl) o2 ?_
  refine H_vI mf297 (As := [.inl (f ((l3 + 1)).toNat), .inl (f ((l3 + 2)).toNat)]) (st := []) (ck dc297_1 (i := 2) rfl) lk_Law_18 rfl rfl (Nat.le_of_ble_eq_true rfl) ly0 ra0 ⟨Nat.le_refl _, Nat.le_refl _⟩ h (fun r3 M4 h => ?_)
  refine G_aload_n 2 rfl rfl (ck dc297_1 (i := 3) rfl) ?_
  refine G_aload_n 0 rfl rfl (ck dc297_1 (i := 4) rfl) ?_
  refine G_iload_n 3 rfl rfl (ck dc297_1 (i := 5) rfl) ?_
  refine G_iconst (ck dc297_1 (i := 6) rfl) ?_
  refine G_iadd (ck dc297_1 (i := 7) rfl) ?_
  refine G_sld (ck dc297_1 (i := 8) rfl) o1 ?_
  refine G_aload_n 0 rfl rfl (ck dc297_1 (i := 9) rfl) ?_
  refine G_iload_n 3 rfl rfl (ck dc297_1 (i := 10) rfl) ?_
  refine G_iconst (ck dc297_1 (i := 11) rfl) ?_
  refine G_iadd (ck dc297_1 (i := 12) rfl) ?_
  refine G_sld (ck dc297_1 (i := 13) rfl) o2 ?_
  refine H_vI mf297 (As := [.inl (f ((l3 + 1)).toNat), .inl (f ((l3 + 2)).toNat)]) (st := [.inl r3]) (ck dc297_1 (i := 14) rfl) lk_Law_22 rfl rfl (Nat.le_of_ble_eq_true rfl) ly52 ra52 ⟨Nat.le_refl _, Nat.le_refl _⟩ h (fun r5 M6 h => ?_)
  obtain ⟨o7, h⟩ := h
  obtain ⟨o8, h⟩ := h
  refine G_icmp_eq (tgt := 1999) (by decide) o7 o8 (ck dc297_1 (i := 15) rfl) (fun c => ?_) (fun c => ?_)
  · replace h := h.1 c
    exact G_sub [0, 1, 2, 3] rfl h
  · replace h := h.2 c
    refine G_iconst (ck dc297_1 (i := 16) rfl) ?_
    exact H_iretZ mf297 (ck dc297_1 (i := 17) rfl) rfl (Or.inl rfl) h
set_option maxHeartbeats 20000000 in
theorem g_law_320 (K : Nat) (n : Nat) (f : Nat → Int) (l3 : Int) (M : PM) (Q : Option PV → PM → Prop)
    (h : (0 ≤ (l3 + 1) ∧ (l3 + 1) < (n : Int)) ∧ (0 ≤ (l3 + 2) ∧ (l3 + 2) < (n : Int)) ∧ (0 ≤ (l3 + 3) ∧ (l3 + 3) < (n : Int)) ∧ (0 ≤ (l3 + 4) ∧ (l3 + 4) < (n : Int)) ∧ Call K jClearingWaves_owe [.inr (.inr 0), .inl (f ((l3 + 1)).toNat), .inl (f ((l3 + 2)).toNat), .inl (f ((l3 + 3)).toNat), .inl (f ((l3 + 4)).toNat)] P0 P0 M (retI fun r5 M6 => Call K jModel_owe [.inr (.inr 52), .inl (f ((l3 + 1)).toNat), .inl (f ((l3 + 2)).toNat), .inl (f ((l3 + 3)).toNat), .inl (f ((l3 + 4)).toNat)] P0 P0 M6 (retI fun r7 M8 => R32 r5 ∧ R32 r7 ∧ (r5 = r7 → G (some (n, f)) (K + 1) jLaw_law 1999 [(0, .inr (.inr 1000000)), (1, .inr (.inr 0)), (2, .inr (.inr 52)), (3, .inl l3)] [] P0 P0 M8 Q) ∧ (¬ r5 = r7 → Q (some (.inl 0)) M8)))) : G (some (n, f)) (K + 1) jLaw_law 320 [(0, .inr (.inr 1000000)), (1, .inr (.inr 0)), (2, .inr (.inr 52)), (3, .inl l3)] [] P0 P0 M Q := by
  refine G_aload_n 1 rfl rfl (ck dc297_1 (i := 18) rfl) ?_
  refine G_aload_n 0 rfl rfl (ck dc297_1 (i := 19) rfl) ?_
  refine G_iload_n 3 rfl rfl (ck dc297_1 (i := 20) rfl) ?_
  refine G_iconst (ck dc297_1 (i := 21) rfl) ?_
  refine G_iadd (ck dc297_1 (i := 22) rfl) ?_
  obtain ⟨o1, h⟩ := h
  refine G_sld (ck dc297_1 (i := 23) rfl) o1 ?_
  refine G_aload_n 0 rfl rfl (ck dc297_1 (i := 24) rfl) ?_
  refine G_iload_n 3 rfl rfl (ck dc297_1 (i := 25) rfl) ?_
  refine G_iconst (ck dc297_1 (i := 26) rfl) ?_
  refine G_iadd (ck dc297_1 (i := 27) rfl) ?_
  obtain ⟨o2, h⟩ := h
  refine G_sld (ck dc297_1 (i := 28) rfl) o2 ?_
  refine G_aload_n 0 rfl rfl (ck dc297_1 (i := 29) rfl) ?_
  refine G_iload_n 3 rfl rfl (ck dc297_1 (i := 30) rfl) ?_
  refine G_iconst (ck dc297_1 (i := 31) rfl) ?_
  refine G_iadd (ck dc297_1 (i := 32) rfl) ?_
  obtain ⟨o3, h⟩ := h
  refine G_sld (ck dc297_1 (i := 33) rfl) o3 ?_
  refine G_aload_n 0 rfl rfl (ck dc297_1 (i := 34) rfl) ?_
  refine G_iload_n 3 rfl rfl (ck dc297_1 (i := 35) rfl) ?_
  refine G_iconst (ck dc297_1 (i := 36) rfl) ?_
  refine G_iadd (ck dc297_1 (i := 37) rfl) ?_
  obtain ⟨o4, h⟩ := h
  refine G_sld (ck dc297_1 (i := 38) rfl) o4 ?_
  refine H_vI mf297 (As := [.inl (f ((l3 + 1)).toNat), .inl (f ((l3 + 2)).toNat), .inl (f ((l3 + 3)).toNat), .inl (f ((l3 + 4)).toNat)]) (st := []) (ck dc297_1 (i := 39) rfl) lk_Law_23 rfl rfl (Nat.le_of_ble_eq_true rfl) ly0 ra0 ⟨Nat.le_refl _, Nat.le_refl _⟩ h (fun r5 M6 h => ?_)
  refine G_aload_n 2 rfl rfl (ck dc297_1 (i := 40) rfl) ?_
  refine G_aload_n 0 rfl rfl (ck dc297_1 (i := 41) rfl) ?_
  refine G_iload_n 3 rfl rfl (ck dc297_1 (i := 42) rfl) ?_
  refine G_iconst (ck dc297_1 (i := 43) rfl) ?_
  refine G_iadd (ck dc297_1 (i := 44) rfl) ?_
  refine G_sld (ck dc297_1 (i := 45) rfl) o1 ?_
  refine G_aload_n 0 rfl rfl (ck dc297_1 (i := 46) rfl) ?_
  refine G_iload_n 3 rfl rfl (ck dc297_1 (i := 47) rfl) ?_
  refine G_iconst (ck dc297_2 (i := 0) rfl) ?_
  refine G_iadd (ck dc297_2 (i := 1) rfl) ?_
  refine G_sld (ck dc297_2 (i := 2) rfl) o2 ?_
  refine G_aload_n 0 rfl rfl (ck dc297_2 (i := 3) rfl) ?_
  refine G_iload_n 3 rfl rfl (ck dc297_2 (i := 4) rfl) ?_
  refine G_iconst (ck dc297_2 (i := 5) rfl) ?_
  refine G_iadd (ck dc297_2 (i := 6) rfl) ?_
  refine G_sld (ck dc297_2 (i := 7) rfl) o3 ?_
  refine G_aload_n 0 rfl rfl (ck dc297_2 (i := 8) rfl) ?_
  refine G_iload_n 3 rfl rfl (ck dc297_2 (i := 9) rfl) ?_
  refine G_iconst (ck dc297_2 (i := 10) rfl) ?_
  refine G_iadd (ck dc297_2 (i := 11) rfl) ?_
  refine G_sld (ck dc297_2 (i := 12) rfl) o4 ?_
  refine H_vI mf297 (As := [.inl (f ((l3 + 1)).toNat), .inl (f ((l3 + 2)).toNat), .inl (f ((l3 + 3)).toNat), .inl (f ((l3 + 4)).toNat)]) (st := [.inl r5]) (ck dc297_2 (i := 13) rfl) lk_Law_27 rfl rfl (Nat.le_of_ble_eq_true rfl) ly52 ra52 ⟨Nat.le_refl _, Nat.le_refl _⟩ h (fun r7 M8 h => ?_)
  obtain ⟨o9, h⟩ := h
  obtain ⟨o10, h⟩ := h
  refine G_icmp_eq (tgt := 1999) (by decide) o9 o10 (ck dc297_2 (i := 14) rfl) (fun c => ?_) (fun c => ?_)
  · replace h := h.1 c
    exact G_sub [0, 1, 2, 3] rfl h
  · replace h := h.2 c
    refine G_iconst (ck dc297_2 (i := 15) rfl) ?_
    exact H_iretZ mf297 (ck dc297_2 (i := 16) rfl) rfl (Or.inl rfl) h
set_option maxHeartbeats 20000000 in
theorem g_law_373 (K : Nat) (n : Nat) (f : Nat → Int) (l3 : Int) (M : PM) (Q : Option PV → PM → Prop)
    (h : (0 ≤ (l3 + 1) ∧ (l3 + 1) < (n : Int)) ∧ (0 ≤ (l3 + 2) ∧ (l3 + 2) < (n : Int)) ∧ (0 ≤ (l3 + 3) ∧ (l3 + 3) < (n : Int)) ∧ Call K jClearingWaves_owed [.inr (.inr 0), .inl (f ((l3 + 1)).toNat), .inl (f ((l3 + 2)).toNat), .inl (f ((l3 + 3)).toNat)] P0 P0 M (retI fun r4 M5 => Call K jModel_owed [.inr (.inr 52), .inl (f ((l3 + 1)).toNat), .inl (f ((l3 + 2)).toNat), .inl (f ((l3 + 3)).toNat)] P0 P0 M5 (retI fun r6 M7 => R32 r4 ∧ R32 r6 ∧ (r4 = r6 → G (some (n, f)) (K + 1) jLaw_law 1999 [(0, .inr (.inr 1000000)), (1, .inr (.inr 0)), (2, .inr (.inr 52)), (3, .inl l3)] [] P0 P0 M7 Q) ∧ (¬ r4 = r6 → Q (some (.inl 0)) M7)))) : G (some (n, f)) (K + 1) jLaw_law 373 [(0, .inr (.inr 1000000)), (1, .inr (.inr 0)), (2, .inr (.inr 52)), (3, .inl l3)] [] P0 P0 M Q := by
  refine G_aload_n 1 rfl rfl (ck dc297_2 (i := 17) rfl) ?_
  refine G_aload_n 0 rfl rfl (ck dc297_2 (i := 18) rfl) ?_
  refine G_iload_n 3 rfl rfl (ck dc297_2 (i := 19) rfl) ?_
  refine G_iconst (ck dc297_2 (i := 20) rfl) ?_
  refine G_iadd (ck dc297_2 (i := 21) rfl) ?_
  obtain ⟨o1, h⟩ := h
  refine G_sld (ck dc297_2 (i := 22) rfl) o1 ?_
  refine G_aload_n 0 rfl rfl (ck dc297_2 (i := 23) rfl) ?_
  refine G_iload_n 3 rfl rfl (ck dc297_2 (i := 24) rfl) ?_
  refine G_iconst (ck dc297_2 (i := 25) rfl) ?_
  refine G_iadd (ck dc297_2 (i := 26) rfl) ?_
  obtain ⟨o2, h⟩ := h
  refine G_sld (ck dc297_2 (i := 27) rfl) o2 ?_
  refine G_aload_n 0 rfl rfl (ck dc297_2 (i := 28) rfl) ?_
  refine G_iload_n 3 rfl rfl (ck dc297_2 (i := 29) rfl) ?_
  refine G_iconst (ck dc297_2 (i := 30) rfl) ?_
  refine G_iadd (ck dc297_2 (i := 31) rfl) ?_
  obtain ⟨o3, h⟩ := h
  refine G_sld (ck dc297_2 (i := 32) rfl) o3 ?_
  refine H_vI mf297 (As := [.inl (f ((l3 + 1)).toNat), .inl (f ((l3 + 2)).toNat), .inl (f ((l3 + 3)).toNat)]) (st := []) (ck dc297_2 (i := 33) rfl) lk_Law_28 rfl rfl (Nat.le_of_ble_eq_true rfl) ly0 ra0 ⟨Nat.le_refl _, Nat.le_refl _⟩ h (fun r4 M5 h => ?_)
  refine G_aload_n 2 rfl rfl (ck dc297_2 (i := 34) rfl) ?_
  refine G_aload_n 0 rfl rfl (ck dc297_2 (i := 35) rfl) ?_
  refine G_iload_n 3 rfl rfl (ck dc297_2 (i := 36) rfl) ?_
  refine G_iconst (ck dc297_2 (i := 37) rfl) ?_
  refine G_iadd (ck dc297_2 (i := 38) rfl) ?_
  refine G_sld (ck dc297_2 (i := 39) rfl) o1 ?_
  refine G_aload_n 0 rfl rfl (ck dc297_2 (i := 40) rfl) ?_
  refine G_iload_n 3 rfl rfl (ck dc297_2 (i := 41) rfl) ?_
  refine G_iconst (ck dc297_2 (i := 42) rfl) ?_
  refine G_iadd (ck dc297_2 (i := 43) rfl) ?_
  refine G_sld (ck dc297_2 (i := 44) rfl) o2 ?_
  refine G_aload_n 0 rfl rfl (ck dc297_2 (i := 45) rfl) ?_
  refine G_iload_n 3 rfl rfl (ck dc297_2 (i := 46) rfl) ?_
  refine G_iconst (ck dc297_2 (i := 47) rfl) ?_
  refine G_iadd (ck dc297_3 (i := 0) rfl) ?_
  refine G_sld (ck dc297_3 (i := 1) rfl) o3 ?_
  refine H_vI mf297 (As := [.inl (f ((l3 + 1)).toNat), .inl (f ((l3 + 2)).toNat), .inl (f ((l3 + 3)).toNat)]) (st := [.inl r4]) (ck dc297_3 (i := 2) rfl) lk_Law_32 rfl rfl (Nat.le_of_ble_eq_true rfl) ly52 ra52 ⟨Nat.le_refl _, Nat.le_refl _⟩ h (fun r6 M7 h => ?_)
  obtain ⟨o8, h⟩ := h
  obtain ⟨o9, h⟩ := h
  refine G_icmp_eq (tgt := 1999) (by decide) o8 o9 (ck dc297_3 (i := 3) rfl) (fun c => ?_) (fun c => ?_)
  · replace h := h.1 c
    exact G_sub [0, 1, 2, 3] rfl h
  · replace h := h.2 c
    refine G_iconst (ck dc297_3 (i := 4) rfl) ?_
    exact H_iretZ mf297 (ck dc297_3 (i := 5) rfl) rfl (Or.inl rfl) h
set_option maxHeartbeats 20000000 in
theorem g_law_416 (K : Nat) (n : Nat) (f : Nat → Int) (l3 : Int) (M : PM) (Q : Option PV → PM → Prop)
    (h : (0 ≤ (l3 + 1) ∧ (l3 + 1) < (n : Int)) ∧ (0 ≤ (l3 + 2) ∧ (l3 + 2) < (n : Int)) ∧ Call K jClearingWaves_costs [.inr (.inr 0), .inl (f ((l3 + 1)).toNat), .inl (f ((l3 + 2)).toNat)] P0 P0 M (retI fun r3 M4 => Call K jModel_costs [.inr (.inr 52), .inl (f ((l3 + 1)).toNat), .inl (f ((l3 + 2)).toNat)] P0 P0 M4 (retI fun r5 M6 => R32 r3 ∧ R32 r5 ∧ (r3 = r5 → G (some (n, f)) (K + 1) jLaw_law 1999 [(0, .inr (.inr 1000000)), (1, .inr (.inr 0)), (2, .inr (.inr 52)), (3, .inl l3)] [] P0 P0 M6 Q) ∧ (¬ r3 = r5 → Q (some (.inl 0)) M6)))) : G (some (n, f)) (K + 1) jLaw_law 416 [(0, .inr (.inr 1000000)), (1, .inr (.inr 0)), (2, .inr (.inr 52)), (3, .inl l3)] [] P0 P0 M Q := by
  refine G_aload_n 1 rfl rfl (ck dc297_3 (i := 6) rfl) ?_
  refine G_aload_n 0 rfl rfl (ck dc297_3 (i := 7) rfl) ?_
  refine G_iload_n 3 rfl rfl (ck dc297_3 (i := 8) rfl) ?_
  refine G_iconst (ck dc297_3 (i := 9) rfl) ?_
  refine G_iadd (ck dc297_3 (i := 10) rfl) ?_
  obtain ⟨o1, h⟩ := h
  refine G_sld (ck dc297_3 (i := 11) rfl) o1 ?_
  refine G_aload_n 0 rfl rfl (ck dc297_3 (i := 12) rfl) ?_
  refine G_iload_n 3 rfl rfl (ck dc297_3 (i := 13) rfl) ?_
  refine G_iconst (ck dc297_3 (i := 14) rfl) ?_
  refine G_iadd (ck dc297_3 (i := 15) rfl) ?_
  obtain ⟨o2, h⟩ := h
  refine G_sld (ck dc297_3 (i := 16) rfl) o2 ?_
  refine H_vI mf297 (As := [.inl (f ((l3 + 1)).toNat), .inl (f ((l3 + 2)).toNat)]) (st := []) (ck dc297_3 (i := 17) rfl) lk_Law_33 rfl rfl (Nat.le_of_ble_eq_true rfl) ly0 ra0 ⟨Nat.le_refl _, Nat.le_refl _⟩ h (fun r3 M4 h => ?_)
  refine G_aload_n 2 rfl rfl (ck dc297_3 (i := 18) rfl) ?_
  refine G_aload_n 0 rfl rfl (ck dc297_3 (i := 19) rfl) ?_
  refine G_iload_n 3 rfl rfl (ck dc297_3 (i := 20) rfl) ?_
  refine G_iconst (ck dc297_3 (i := 21) rfl) ?_
  refine G_iadd (ck dc297_3 (i := 22) rfl) ?_
  refine G_sld (ck dc297_3 (i := 23) rfl) o1 ?_
  refine G_aload_n 0 rfl rfl (ck dc297_3 (i := 24) rfl) ?_
  refine G_iload_n 3 rfl rfl (ck dc297_3 (i := 25) rfl) ?_
  refine G_iconst (ck dc297_3 (i := 26) rfl) ?_
  refine G_iadd (ck dc297_3 (i := 27) rfl) ?_
  refine G_sld (ck dc297_3 (i := 28) rfl) o2 ?_
  refine H_vI mf297 (As := [.inl (f ((l3 + 1)).toNat), .inl (f ((l3 + 2)).toNat)]) (st := [.inl r3]) (ck dc297_3 (i := 29) rfl) lk_Law_36 rfl rfl (Nat.le_of_ble_eq_true rfl) ly52 ra52 ⟨Nat.le_refl _, Nat.le_refl _⟩ h (fun r5 M6 h => ?_)
  obtain ⟨o7, h⟩ := h
  obtain ⟨o8, h⟩ := h
  refine G_icmp_eq (tgt := 1999) (by decide) o7 o8 (ck dc297_3 (i := 30) rfl) (fun c => ?_) (fun c => ?_)
  · replace h := h.1 c
    exact G_sub [0, 1, 2, 3] rfl h
  · replace h := h.2 c
    refine G_iconst (ck dc297_3 (i := 31) rfl) ?_
    exact H_iretZ mf297 (ck dc297_3 (i := 32) rfl) rfl (Or.inl rfl) h
set_option maxHeartbeats 20000000 in
theorem g_law_449 (K : Nat) (n : Nat) (f : Nat → Int) (l3 : Int) (M : PM) (Q : Option PV → PM → Prop)
    (h : (0 ≤ (l3 + 1) ∧ (l3 + 1) < (n : Int)) ∧ (0 ≤ (l3 + 2) ∧ (l3 + 2) < (n : Int)) ∧ (0 ≤ (l3 + 3) ∧ (l3 + 3) < (n : Int)) ∧ (0 ≤ (l3 + 4) ∧ (l3 + 4) < (n : Int)) ∧ (0 ≤ (l3 + 5) ∧ (l3 + 5) < (n : Int)) ∧ Call K jClearingWaves_cede [.inr (.inr 0), .inl (f ((l3 + 1)).toNat), .inl (f ((l3 + 2)).toNat), .inl (f ((l3 + 3)).toNat), .inl (f ((l3 + 4)).toNat), .inl (f ((l3 + 5)).toNat)] P0 P0 M (retI fun r6 M7 => Call K jModel_cede [.inr (.inr 52), .inl (f ((l3 + 1)).toNat), .inl (f ((l3 + 2)).toNat), .inl (f ((l3 + 3)).toNat), .inl (f ((l3 + 4)).toNat), .inl (f ((l3 + 5)).toNat)] P0 P0 M7 (retI fun r8 M9 => R32 r6 ∧ R32 r8 ∧ (r6 = r8 → G (some (n, f)) (K + 1) jLaw_law 1999 [(0, .inr (.inr 1000000)), (1, .inr (.inr 0)), (2, .inr (.inr 52)), (3, .inl l3)] [] P0 P0 M9 Q) ∧ (¬ r6 = r8 → Q (some (.inl 0)) M9)))) : G (some (n, f)) (K + 1) jLaw_law 449 [(0, .inr (.inr 1000000)), (1, .inr (.inr 0)), (2, .inr (.inr 52)), (3, .inl l3)] [] P0 P0 M Q := by
  refine G_aload_n 1 rfl rfl (ck dc297_3 (i := 33) rfl) ?_
  refine G_aload_n 0 rfl rfl (ck dc297_3 (i := 34) rfl) ?_
  refine G_iload_n 3 rfl rfl (ck dc297_3 (i := 35) rfl) ?_
  refine G_iconst (ck dc297_3 (i := 36) rfl) ?_
  refine G_iadd (ck dc297_3 (i := 37) rfl) ?_
  obtain ⟨o1, h⟩ := h
  refine G_sld (ck dc297_3 (i := 38) rfl) o1 ?_
  refine G_aload_n 0 rfl rfl (ck dc297_3 (i := 39) rfl) ?_
  refine G_iload_n 3 rfl rfl (ck dc297_3 (i := 40) rfl) ?_
  refine G_iconst (ck dc297_3 (i := 41) rfl) ?_
  refine G_iadd (ck dc297_3 (i := 42) rfl) ?_
  obtain ⟨o2, h⟩ := h
  refine G_sld (ck dc297_3 (i := 43) rfl) o2 ?_
  refine G_aload_n 0 rfl rfl (ck dc297_3 (i := 44) rfl) ?_
  refine G_iload_n 3 rfl rfl (ck dc297_3 (i := 45) rfl) ?_
  refine G_iconst (ck dc297_3 (i := 46) rfl) ?_
  refine G_iadd (ck dc297_3 (i := 47) rfl) ?_
  obtain ⟨o3, h⟩ := h
  refine G_sld (ck dc297_4 (i := 0) rfl) o3 ?_
  refine G_aload_n 0 rfl rfl (ck dc297_4 (i := 1) rfl) ?_
  refine G_iload_n 3 rfl rfl (ck dc297_4 (i := 2) rfl) ?_
  refine G_iconst (ck dc297_4 (i := 3) rfl) ?_
  refine G_iadd (ck dc297_4 (i := 4) rfl) ?_
  obtain ⟨o4, h⟩ := h
  refine G_sld (ck dc297_4 (i := 5) rfl) o4 ?_
  refine G_aload_n 0 rfl rfl (ck dc297_4 (i := 6) rfl) ?_
  refine G_iload_n 3 rfl rfl (ck dc297_4 (i := 7) rfl) ?_
  refine G_iconst (ck dc297_4 (i := 8) rfl) ?_
  refine G_iadd (ck dc297_4 (i := 9) rfl) ?_
  obtain ⟨o5, h⟩ := h
  refine G_sld (ck dc297_4 (i := 10) rfl) o5 ?_
  refine H_vI mf297 (As := [.inl (f ((l3 + 1)).toNat), .inl (f ((l3 + 2)).toNat), .inl (f ((l3 + 3)).toNat), .inl (f ((l3 + 4)).toNat), .inl (f ((l3 + 5)).toNat)]) (st := []) (ck dc297_4 (i := 11) rfl) lk_Law_37 rfl rfl (Nat.le_of_ble_eq_true rfl) ly0 ra0 ⟨Nat.le_refl _, Nat.le_refl _⟩ h (fun r6 M7 h => ?_)
  refine G_aload_n 2 rfl rfl (ck dc297_4 (i := 12) rfl) ?_
  refine G_aload_n 0 rfl rfl (ck dc297_4 (i := 13) rfl) ?_
  refine G_iload_n 3 rfl rfl (ck dc297_4 (i := 14) rfl) ?_
  refine G_iconst (ck dc297_4 (i := 15) rfl) ?_
  refine G_iadd (ck dc297_4 (i := 16) rfl) ?_
  refine G_sld (ck dc297_4 (i := 17) rfl) o1 ?_
  refine G_aload_n 0 rfl rfl (ck dc297_4 (i := 18) rfl) ?_
  refine G_iload_n 3 rfl rfl (ck dc297_4 (i := 19) rfl) ?_
  refine G_iconst (ck dc297_4 (i := 20) rfl) ?_
  refine G_iadd (ck dc297_4 (i := 21) rfl) ?_
  refine G_sld (ck dc297_4 (i := 22) rfl) o2 ?_
  refine G_aload_n 0 rfl rfl (ck dc297_4 (i := 23) rfl) ?_
  refine G_iload_n 3 rfl rfl (ck dc297_4 (i := 24) rfl) ?_
  refine G_iconst (ck dc297_4 (i := 25) rfl) ?_
  refine G_iadd (ck dc297_4 (i := 26) rfl) ?_
  refine G_sld (ck dc297_4 (i := 27) rfl) o3 ?_
  refine G_aload_n 0 rfl rfl (ck dc297_4 (i := 28) rfl) ?_
  refine G_iload_n 3 rfl rfl (ck dc297_4 (i := 29) rfl) ?_
  refine G_iconst (ck dc297_4 (i := 30) rfl) ?_
  refine G_iadd (ck dc297_4 (i := 31) rfl) ?_
  refine G_sld (ck dc297_4 (i := 32) rfl) o4 ?_
  refine G_aload_n 0 rfl rfl (ck dc297_4 (i := 33) rfl) ?_
  refine G_iload_n 3 rfl rfl (ck dc297_4 (i := 34) rfl) ?_
  refine G_iconst (ck dc297_4 (i := 35) rfl) ?_
  refine G_iadd (ck dc297_4 (i := 36) rfl) ?_
  refine G_sld (ck dc297_4 (i := 37) rfl) o5 ?_
  refine H_vI mf297 (As := [.inl (f ((l3 + 1)).toNat), .inl (f ((l3 + 2)).toNat), .inl (f ((l3 + 3)).toNat), .inl (f ((l3 + 4)).toNat), .inl (f ((l3 + 5)).toNat)]) (st := [.inl r6]) (ck dc297_4 (i := 38) rfl) lk_Law_41 rfl rfl (Nat.le_of_ble_eq_true rfl) ly52 ra52 ⟨Nat.le_refl _, Nat.le_refl _⟩ h (fun r8 M9 h => ?_)
  obtain ⟨o10, h⟩ := h
  obtain ⟨o11, h⟩ := h
  refine G_icmp_eq (tgt := 1999) (by decide) o10 o11 (ck dc297_4 (i := 39) rfl) (fun c => ?_) (fun c => ?_)
  · replace h := h.1 c
    exact G_sub [0, 1, 2, 3] rfl h
  · replace h := h.2 c
    refine G_iconst (ck dc297_4 (i := 40) rfl) ?_
    exact H_iretZ mf297 (ck dc297_4 (i := 41) rfl) rfl (Or.inl rfl) h
set_option maxHeartbeats 20000000 in
theorem g_law_512 (K : Nat) (n : Nat) (f : Nat → Int) (l3 : Int) (M : PM) (Q : Option PV → PM → Prop)
    (h : (0 ≤ (l3 + 1) ∧ (l3 + 1) < (n : Int)) ∧ (0 ≤ (l3 + 2) ∧ (l3 + 2) < (n : Int)) ∧ (0 ≤ (l3 + 3) ∧ (l3 + 3) < (n : Int)) ∧ (0 ≤ (l3 + 4) ∧ (l3 + 4) < (n : Int)) ∧ Call K jClearingWaves_settle [.inr (.inr 0), .inl (f ((l3 + 1)).toNat), .inl (f ((l3 + 2)).toNat), .inl (f ((l3 + 3)).toNat), .inl (f ((l3 + 4)).toNat)] P0 P0 M (retI fun r5 M6 => Call K jModel_settle [.inr (.inr 52), .inl (f ((l3 + 1)).toNat), .inl (f ((l3 + 2)).toNat), .inl (f ((l3 + 3)).toNat), .inl (f ((l3 + 4)).toNat)] P0 P0 M6 (retI fun r7 M8 => R32 r5 ∧ R32 r7 ∧ (r5 = r7 → G (some (n, f)) (K + 1) jLaw_law 1999 [(0, .inr (.inr 1000000)), (1, .inr (.inr 0)), (2, .inr (.inr 52)), (3, .inl l3)] [] P0 P0 M8 Q) ∧ (¬ r5 = r7 → Q (some (.inl 0)) M8)))) : G (some (n, f)) (K + 1) jLaw_law 512 [(0, .inr (.inr 1000000)), (1, .inr (.inr 0)), (2, .inr (.inr 52)), (3, .inl l3)] [] P0 P0 M Q := by
  refine G_aload_n 1 rfl rfl (ck dc297_4 (i := 42) rfl) ?_
  refine G_aload_n 0 rfl rfl (ck dc297_4 (i := 43) rfl) ?_
  refine G_iload_n 3 rfl rfl (ck dc297_4 (i := 44) rfl) ?_
  refine G_iconst (ck dc297_4 (i := 45) rfl) ?_
  refine G_iadd (ck dc297_4 (i := 46) rfl) ?_
  obtain ⟨o1, h⟩ := h
  refine G_sld (ck dc297_4 (i := 47) rfl) o1 ?_
  refine G_aload_n 0 rfl rfl (ck dc297_5 (i := 0) rfl) ?_
  refine G_iload_n 3 rfl rfl (ck dc297_5 (i := 1) rfl) ?_
  refine G_iconst (ck dc297_5 (i := 2) rfl) ?_
  refine G_iadd (ck dc297_5 (i := 3) rfl) ?_
  obtain ⟨o2, h⟩ := h
  refine G_sld (ck dc297_5 (i := 4) rfl) o2 ?_
  refine G_aload_n 0 rfl rfl (ck dc297_5 (i := 5) rfl) ?_
  refine G_iload_n 3 rfl rfl (ck dc297_5 (i := 6) rfl) ?_
  refine G_iconst (ck dc297_5 (i := 7) rfl) ?_
  refine G_iadd (ck dc297_5 (i := 8) rfl) ?_
  obtain ⟨o3, h⟩ := h
  refine G_sld (ck dc297_5 (i := 9) rfl) o3 ?_
  refine G_aload_n 0 rfl rfl (ck dc297_5 (i := 10) rfl) ?_
  refine G_iload_n 3 rfl rfl (ck dc297_5 (i := 11) rfl) ?_
  refine G_iconst (ck dc297_5 (i := 12) rfl) ?_
  refine G_iadd (ck dc297_5 (i := 13) rfl) ?_
  obtain ⟨o4, h⟩ := h
  refine G_sld (ck dc297_5 (i := 14) rfl) o4 ?_
  refine H_vI mf297 (As := [.inl (f ((l3 + 1)).toNat), .inl (f ((l3 + 2)).toNat), .inl (f ((l3 + 3)).toNat), .inl (f ((l3 + 4)).toNat)]) (st := []) (ck dc297_5 (i := 15) rfl) lk_Law_42 rfl rfl (Nat.le_of_ble_eq_true rfl) ly0 ra0 ⟨Nat.le_refl _, Nat.le_refl _⟩ h (fun r5 M6 h => ?_)
  refine G_aload_n 2 rfl rfl (ck dc297_5 (i := 16) rfl) ?_
  refine G_aload_n 0 rfl rfl (ck dc297_5 (i := 17) rfl) ?_
  refine G_iload_n 3 rfl rfl (ck dc297_5 (i := 18) rfl) ?_
  refine G_iconst (ck dc297_5 (i := 19) rfl) ?_
  refine G_iadd (ck dc297_5 (i := 20) rfl) ?_
  refine G_sld (ck dc297_5 (i := 21) rfl) o1 ?_
  refine G_aload_n 0 rfl rfl (ck dc297_5 (i := 22) rfl) ?_
  refine G_iload_n 3 rfl rfl (ck dc297_5 (i := 23) rfl) ?_
  refine G_iconst (ck dc297_5 (i := 24) rfl) ?_
  refine G_iadd (ck dc297_5 (i := 25) rfl) ?_
  refine G_sld (ck dc297_5 (i := 26) rfl) o2 ?_
  refine G_aload_n 0 rfl rfl (ck dc297_5 (i := 27) rfl) ?_
  refine G_iload_n 3 rfl rfl (ck dc297_5 (i := 28) rfl) ?_
  refine G_iconst (ck dc297_5 (i := 29) rfl) ?_
  refine G_iadd (ck dc297_5 (i := 30) rfl) ?_
  refine G_sld (ck dc297_5 (i := 31) rfl) o3 ?_
  refine G_aload_n 0 rfl rfl (ck dc297_5 (i := 32) rfl) ?_
  refine G_iload_n 3 rfl rfl (ck dc297_5 (i := 33) rfl) ?_
  refine G_iconst (ck dc297_5 (i := 34) rfl) ?_
  refine G_iadd (ck dc297_5 (i := 35) rfl) ?_
  refine G_sld (ck dc297_5 (i := 36) rfl) o4 ?_
  refine H_vI mf297 (As := [.inl (f ((l3 + 1)).toNat), .inl (f ((l3 + 2)).toNat), .inl (f ((l3 + 3)).toNat), .inl (f ((l3 + 4)).toNat)]) (st := [.inl r5]) (ck dc297_5 (i := 37) rfl) lk_Law_45 rfl rfl (Nat.le_of_ble_eq_true rfl) ly52 ra52 ⟨Nat.le_refl _, Nat.le_refl _⟩ h (fun r7 M8 h => ?_)
  obtain ⟨o9, h⟩ := h
  obtain ⟨o10, h⟩ := h
  refine G_icmp_eq (tgt := 1999) (by decide) o9 o10 (ck dc297_5 (i := 38) rfl) (fun c => ?_) (fun c => ?_)
  · replace h := h.1 c
    exact G_sub [0, 1, 2, 3] rfl h
  · replace h := h.2 c
    refine G_iconst (ck dc297_5 (i := 39) rfl) ?_
    exact H_iretZ mf297 (ck dc297_5 (i := 40) rfl) rfl (Or.inl rfl) h
set_option maxHeartbeats 20000000 in
theorem g_law_565 (K : Nat) (n : Nat) (f : Nat → Int) (l3 : Int) (M : PM) (Q : Option PV → PM → Prop)
    (h : (0 ≤ (l3 + 1) ∧ (l3 + 1) < (n : Int)) ∧ Call K jClearingWaves_feed [.inr (.inr 0), .inl (f ((l3 + 1)).toNat)] P0 P0 M (retI fun r2 M3 => Call K jModel_feed [.inr (.inr 52), .inl (f ((l3 + 1)).toNat)] P0 P0 M3 (retI fun r4 M5 => R32 r2 ∧ R32 r4 ∧ (r2 = r4 → G (some (n, f)) (K + 1) jLaw_law 1999 [(0, .inr (.inr 1000000)), (1, .inr (.inr 0)), (2, .inr (.inr 52)), (3, .inl l3)] [] P0 P0 M5 Q) ∧ (¬ r2 = r4 → Q (some (.inl 0)) M5)))) : G (some (n, f)) (K + 1) jLaw_law 565 [(0, .inr (.inr 1000000)), (1, .inr (.inr 0)), (2, .inr (.inr 52)), (3, .inl l3)] [] P0 P0 M Q := by
  refine G_aload_n 1 rfl rfl (ck dc297_5 (i := 41) rfl) ?_
  refine G_aload_n 0 rfl rfl (ck dc297_5 (i := 42) rfl) ?_
  refine G_iload_n 3 rfl rfl (ck dc297_5 (i := 43) rfl) ?_
  refine G_iconst (ck dc297_5 (i := 44) rfl) ?_
  refine G_iadd (ck dc297_5 (i := 45) rfl) ?_
  obtain ⟨o1, h⟩ := h
  refine G_sld (ck dc297_5 (i := 46) rfl) o1 ?_
  refine H_vI mf297 (As := [.inl (f ((l3 + 1)).toNat)]) (st := []) (ck dc297_5 (i := 47) rfl) lk_Law_46 rfl rfl (Nat.le_of_ble_eq_true rfl) ly0 ra0 ⟨Nat.le_refl _, Nat.le_refl _⟩ h (fun r2 M3 h => ?_)
  refine G_aload_n 2 rfl rfl (ck dc297_6 (i := 0) rfl) ?_
  refine G_aload_n 0 rfl rfl (ck dc297_6 (i := 1) rfl) ?_
  refine G_iload_n 3 rfl rfl (ck dc297_6 (i := 2) rfl) ?_
  refine G_iconst (ck dc297_6 (i := 3) rfl) ?_
  refine G_iadd (ck dc297_6 (i := 4) rfl) ?_
  refine G_sld (ck dc297_6 (i := 5) rfl) o1 ?_
  refine H_vI mf297 (As := [.inl (f ((l3 + 1)).toNat)]) (st := [.inl r2]) (ck dc297_6 (i := 6) rfl) lk_Law_49 rfl rfl (Nat.le_of_ble_eq_true rfl) ly52 ra52 ⟨Nat.le_refl _, Nat.le_refl _⟩ h (fun r4 M5 h => ?_)
  obtain ⟨o6, h⟩ := h
  obtain ⟨o7, h⟩ := h
  refine G_icmp_eq (tgt := 1999) (by decide) o6 o7 (ck dc297_6 (i := 7) rfl) (fun c => ?_) (fun c => ?_)
  · replace h := h.1 c
    exact G_sub [0, 1, 2, 3] rfl h
  · replace h := h.2 c
    refine G_iconst (ck dc297_6 (i := 8) rfl) ?_
    exact H_iretZ mf297 (ck dc297_6 (i := 9) rfl) rfl (Or.inl rfl) h
set_option maxHeartbeats 20000000 in
theorem g_law_588 (K : Nat) (n : Nat) (f : Nat → Int) (l3 : Int) (M : PM) (Q : Option PV → PM → Prop)
    (h : Call K jClearingWaves_clear [.inr (.inr 0)] P0 P0 M (retI fun r1 M2 => Call K jModel_clear [.inr (.inr 52)] P0 P0 M2 (retI fun r3 M4 => R32 r1 ∧ R32 r3 ∧ (r1 = r3 → G (some (n, f)) (K + 1) jLaw_law 1999 [(0, .inr (.inr 1000000)), (1, .inr (.inr 0)), (2, .inr (.inr 52)), (3, .inl l3)] [] P0 P0 M4 Q) ∧ (¬ r1 = r3 → Q (some (.inl 0)) M4)))) : G (some (n, f)) (K + 1) jLaw_law 588 [(0, .inr (.inr 1000000)), (1, .inr (.inr 0)), (2, .inr (.inr 52)), (3, .inl l3)] [] P0 P0 M Q := by
  refine G_aload_n 1 rfl rfl (ck dc297_6 (i := 10) rfl) ?_
  refine H_vI mf297 (As := []) (st := []) (ck dc297_6 (i := 11) rfl) lk_Law_50 rfl rfl (Nat.le_of_ble_eq_true rfl) ly0 ra0 ⟨Nat.le_refl _, Nat.le_refl _⟩ h (fun r1 M2 h => ?_)
  refine G_aload_n 2 rfl rfl (ck dc297_6 (i := 12) rfl) ?_
  refine H_vI mf297 (As := []) (st := [.inl r1]) (ck dc297_6 (i := 13) rfl) lk_Law_54 rfl rfl (Nat.le_of_ble_eq_true rfl) ly52 ra52 ⟨Nat.le_refl _, Nat.le_refl _⟩ h (fun r3 M4 h => ?_)
  obtain ⟨o5, h⟩ := h
  obtain ⟨o6, h⟩ := h
  refine G_icmp_eq (tgt := 1999) (by decide) o5 o6 (ck dc297_6 (i := 14) rfl) (fun c => ?_) (fun c => ?_)
  · replace h := h.1 c
    exact G_sub [0, 1, 2, 3] rfl h
  · replace h := h.2 c
    refine G_iconst (ck dc297_6 (i := 15) rfl) ?_
    exact H_iretZ mf297 (ck dc297_6 (i := 16) rfl) rfl (Or.inl rfl) h
set_option maxHeartbeats 20000000 in
theorem g_law_601 (K : Nat) (n : Nat) (f : Nat → Int) (l3 : Int) (M : PM) (Q : Option PV → PM → Prop)
    (h : Call K jClearingWaves_read [.inr (.inr 0)] P0 P0 M (retI fun r1 M2 => Call K jModel_read [.inr (.inr 52)] P0 P0 M2 (retI fun r3 M4 => R32 r1 ∧ R32 r3 ∧ (r1 = r3 → G (some (n, f)) (K + 1) jLaw_law 1999 [(0, .inr (.inr 1000000)), (1, .inr (.inr 0)), (2, .inr (.inr 52)), (3, .inl l3)] [] P0 P0 M4 Q) ∧ (¬ r1 = r3 → Q (some (.inl 0)) M4)))) : G (some (n, f)) (K + 1) jLaw_law 601 [(0, .inr (.inr 1000000)), (1, .inr (.inr 0)), (2, .inr (.inr 52)), (3, .inl l3)] [] P0 P0 M Q := by
  refine G_aload_n 1 rfl rfl (ck dc297_6 (i := 17) rfl) ?_
  refine H_vI mf297 (As := []) (st := []) (ck dc297_6 (i := 18) rfl) lk_Law_55 rfl rfl (Nat.le_of_ble_eq_true rfl) ly0 ra0 ⟨Nat.le_refl _, Nat.le_refl _⟩ h (fun r1 M2 h => ?_)
  refine G_aload_n 2 rfl rfl (ck dc297_6 (i := 19) rfl) ?_
  refine H_vI mf297 (As := []) (st := [.inl r1]) (ck dc297_6 (i := 20) rfl) lk_Law_58 rfl rfl (Nat.le_of_ble_eq_true rfl) ly52 ra52 ⟨Nat.le_refl _, Nat.le_refl _⟩ h (fun r3 M4 h => ?_)
  obtain ⟨o5, h⟩ := h
  obtain ⟨o6, h⟩ := h
  refine G_icmp_eq (tgt := 1999) (by decide) o5 o6 (ck dc297_6 (i := 21) rfl) (fun c => ?_) (fun c => ?_)
  · replace h := h.1 c
    exact G_sub [0, 1, 2, 3] rfl h
  · replace h := h.2 c
    refine G_iconst (ck dc297_6 (i := 22) rfl) ?_
    exact H_iretZ mf297 (ck dc297_6 (i := 23) rfl) rfl (Or.inl rfl) h
set_option maxHeartbeats 20000000 in
theorem g_law_614 (K : Nat) (n : Nat) (f : Nat → Int) (l3 : Int) (M : PM) (Q : Option PV → PM → Prop)
    (h : Call K jClearingWaves_waves [.inr (.inr 0)] P0 P0 M (retI fun r1 M2 => Call K jModel_waves [.inr (.inr 52)] P0 P0 M2 (retI fun r3 M4 => R32 r1 ∧ R32 r3 ∧ (r1 = r3 → G (some (n, f)) (K + 1) jLaw_law 1999 [(0, .inr (.inr 1000000)), (1, .inr (.inr 0)), (2, .inr (.inr 52)), (3, .inl l3)] [] P0 P0 M4 Q) ∧ (¬ r1 = r3 → Q (some (.inl 0)) M4)))) : G (some (n, f)) (K + 1) jLaw_law 614 [(0, .inr (.inr 1000000)), (1, .inr (.inr 0)), (2, .inr (.inr 52)), (3, .inl l3)] [] P0 P0 M Q := by
  refine G_aload_n 1 rfl rfl (ck dc297_6 (i := 24) rfl) ?_
  refine H_vI mf297 (As := []) (st := []) (ck dc297_6 (i := 25) rfl) lk_Law_59 rfl rfl (Nat.le_of_ble_eq_true rfl) ly0 ra0 ⟨Nat.le_refl _, Nat.le_refl _⟩ h (fun r1 M2 h => ?_)
  refine G_aload_n 2 rfl rfl (ck dc297_6 (i := 26) rfl) ?_
  refine H_vI mf297 (As := []) (st := [.inl r1]) (ck dc297_6 (i := 27) rfl) lk_Law_62 rfl rfl (Nat.le_of_ble_eq_true rfl) ly52 ra52 ⟨Nat.le_refl _, Nat.le_refl _⟩ h (fun r3 M4 h => ?_)
  obtain ⟨o5, h⟩ := h
  obtain ⟨o6, h⟩ := h
  refine G_icmp_eq (tgt := 1999) (by decide) o5 o6 (ck dc297_6 (i := 28) rfl) (fun c => ?_) (fun c => ?_)
  · replace h := h.1 c
    exact G_sub [0, 1, 2, 3] rfl h
  · replace h := h.2 c
    refine G_iconst (ck dc297_6 (i := 29) rfl) ?_
    exact H_iretZ mf297 (ck dc297_6 (i := 30) rfl) rfl (Or.inl rfl) h
set_option maxHeartbeats 20000000 in
theorem g_law_627 (K : Nat) (n : Nat) (f : Nat → Int) (l3 : Int) (M : PM) (Q : Option PV → PM → Prop)
    (h : (0 ≤ (l3 + 1) ∧ (l3 + 1) < (n : Int)) ∧ Call K jClearingWaves_wave [.inr (.inr 0), .inl (f ((l3 + 1)).toNat)] P0 P0 M (retI fun r2 M3 => Call K jModel_wave [.inr (.inr 52), .inl (f ((l3 + 1)).toNat)] P0 P0 M3 (retI fun r4 M5 => R32 r2 ∧ R32 r4 ∧ (r2 = r4 → G (some (n, f)) (K + 1) jLaw_law 1999 [(0, .inr (.inr 1000000)), (1, .inr (.inr 0)), (2, .inr (.inr 52)), (3, .inl l3)] [] P0 P0 M5 Q) ∧ (¬ r2 = r4 → Q (some (.inl 0)) M5)))) : G (some (n, f)) (K + 1) jLaw_law 627 [(0, .inr (.inr 1000000)), (1, .inr (.inr 0)), (2, .inr (.inr 52)), (3, .inl l3)] [] P0 P0 M Q := by
  refine G_aload_n 1 rfl rfl (ck dc297_6 (i := 31) rfl) ?_
  refine G_aload_n 0 rfl rfl (ck dc297_6 (i := 32) rfl) ?_
  refine G_iload_n 3 rfl rfl (ck dc297_6 (i := 33) rfl) ?_
  refine G_iconst (ck dc297_6 (i := 34) rfl) ?_
  refine G_iadd (ck dc297_6 (i := 35) rfl) ?_
  obtain ⟨o1, h⟩ := h
  refine G_sld (ck dc297_6 (i := 36) rfl) o1 ?_
  refine H_vI mf297 (As := [.inl (f ((l3 + 1)).toNat)]) (st := []) (ck dc297_6 (i := 37) rfl) lk_Law_63 rfl rfl (Nat.le_of_ble_eq_true rfl) ly0 ra0 ⟨Nat.le_refl _, Nat.le_refl _⟩ h (fun r2 M3 h => ?_)
  refine G_aload_n 2 rfl rfl (ck dc297_6 (i := 38) rfl) ?_
  refine G_aload_n 0 rfl rfl (ck dc297_6 (i := 39) rfl) ?_
  refine G_iload_n 3 rfl rfl (ck dc297_6 (i := 40) rfl) ?_
  refine G_iconst (ck dc297_6 (i := 41) rfl) ?_
  refine G_iadd (ck dc297_6 (i := 42) rfl) ?_
  refine G_sld (ck dc297_6 (i := 43) rfl) o1 ?_
  refine H_vI mf297 (As := [.inl (f ((l3 + 1)).toNat)]) (st := [.inl r2]) (ck dc297_6 (i := 44) rfl) lk_Law_66 rfl rfl (Nat.le_of_ble_eq_true rfl) ly52 ra52 ⟨Nat.le_refl _, Nat.le_refl _⟩ h (fun r4 M5 h => ?_)
  obtain ⟨o6, h⟩ := h
  obtain ⟨o7, h⟩ := h
  refine G_icmp_eq (tgt := 1999) (by decide) o6 o7 (ck dc297_6 (i := 45) rfl) (fun c => ?_) (fun c => ?_)
  · replace h := h.1 c
    exact G_sub [0, 1, 2, 3] rfl h
  · replace h := h.2 c
    refine G_iconst (ck dc297_6 (i := 46) rfl) ?_
    exact H_iretZ mf297 (ck dc297_6 (i := 47) rfl) rfl (Or.inl rfl) h
set_option maxHeartbeats 20000000 in
theorem g_law_650 (K : Nat) (n : Nat) (f : Nat → Int) (l3 : Int) (M : PM) (Q : Option PV → PM → Prop)
    (h : Call K jClearingWaves_fails [.inr (.inr 0)] P0 P0 M (retI fun r1 M2 => Call K jModel_fails [.inr (.inr 52)] P0 P0 M2 (retI fun r3 M4 => R32 r1 ∧ R32 r3 ∧ (r1 = r3 → G (some (n, f)) (K + 1) jLaw_law 1999 [(0, .inr (.inr 1000000)), (1, .inr (.inr 0)), (2, .inr (.inr 52)), (3, .inl l3)] [] P0 P0 M4 Q) ∧ (¬ r1 = r3 → Q (some (.inl 0)) M4)))) : G (some (n, f)) (K + 1) jLaw_law 650 [(0, .inr (.inr 1000000)), (1, .inr (.inr 0)), (2, .inr (.inr 52)), (3, .inl l3)] [] P0 P0 M Q := by
  refine G_aload_n 1 rfl rfl (ck dc297_7 (i := 0) rfl) ?_
  refine H_vI mf297 (As := []) (st := []) (ck dc297_7 (i := 1) rfl) lk_Law_67 rfl rfl (Nat.le_of_ble_eq_true rfl) ly0 ra0 ⟨Nat.le_refl _, Nat.le_refl _⟩ h (fun r1 M2 h => ?_)
  refine G_aload_n 2 rfl rfl (ck dc297_7 (i := 2) rfl) ?_
  refine H_vI mf297 (As := []) (st := [.inl r1]) (ck dc297_7 (i := 3) rfl) lk_Law_70 rfl rfl (Nat.le_of_ble_eq_true rfl) ly52 ra52 ⟨Nat.le_refl _, Nat.le_refl _⟩ h (fun r3 M4 h => ?_)
  obtain ⟨o5, h⟩ := h
  obtain ⟨o6, h⟩ := h
  refine G_icmp_eq (tgt := 1999) (by decide) o5 o6 (ck dc297_7 (i := 4) rfl) (fun c => ?_) (fun c => ?_)
  · replace h := h.1 c
    exact G_sub [0, 1, 2, 3] rfl h
  · replace h := h.2 c
    refine G_iconst (ck dc297_7 (i := 5) rfl) ?_
    exact H_iretZ mf297 (ck dc297_7 (i := 6) rfl) rfl (Or.inl rfl) h
set_option maxHeartbeats 20000000 in
theorem g_law_663 (K : Nat) (n : Nat) (f : Nat → Int) (l3 : Int) (M : PM) (Q : Option PV → PM → Prop)
    (h : (0 ≤ (l3 + 1) ∧ (l3 + 1) < (n : Int)) ∧ (0 ≤ (l3 + 2) ∧ (l3 + 2) < (n : Int)) ∧ (0 ≤ (l3 + 3) ∧ (l3 + 3) < (n : Int)) ∧ Call K jClearingWaves_part [.inr (.inr 0), .inl (f ((l3 + 1)).toNat), .inl (f ((l3 + 2)).toNat), .inl (f ((l3 + 3)).toNat)] P0 P0 M (retL fun r4 M5 => Call K jModel_part [.inr (.inr 52), .inl (f ((l3 + 1)).toNat), .inl (f ((l3 + 2)).toNat), .inl (f ((l3 + 3)).toNat)] P0 P0 M5 (retL fun r6 M7 => R64 r4 ∧ R64 r6 ∧ (r4 = r6 → G (some (n, f)) (K + 1) jLaw_law 1999 [(0, .inr (.inr 1000000)), (1, .inr (.inr 0)), (2, .inr (.inr 52)), (3, .inl l3)] [] P0 P0 M7 Q) ∧ (¬ r4 = r6 → Q (some (.inl 0)) M7)))) : G (some (n, f)) (K + 1) jLaw_law 663 [(0, .inr (.inr 1000000)), (1, .inr (.inr 0)), (2, .inr (.inr 52)), (3, .inl l3)] [] P0 P0 M Q := by
  refine G_aload_n 1 rfl rfl (ck dc297_7 (i := 7) rfl) ?_
  refine G_aload_n 0 rfl rfl (ck dc297_7 (i := 8) rfl) ?_
  refine G_iload_n 3 rfl rfl (ck dc297_7 (i := 9) rfl) ?_
  refine G_iconst (ck dc297_7 (i := 10) rfl) ?_
  refine G_iadd (ck dc297_7 (i := 11) rfl) ?_
  obtain ⟨o1, h⟩ := h
  refine G_sld (ck dc297_7 (i := 12) rfl) o1 ?_
  refine G_aload_n 0 rfl rfl (ck dc297_7 (i := 13) rfl) ?_
  refine G_iload_n 3 rfl rfl (ck dc297_7 (i := 14) rfl) ?_
  refine G_iconst (ck dc297_7 (i := 15) rfl) ?_
  refine G_iadd (ck dc297_7 (i := 16) rfl) ?_
  obtain ⟨o2, h⟩ := h
  refine G_sld (ck dc297_7 (i := 17) rfl) o2 ?_
  refine G_aload_n 0 rfl rfl (ck dc297_7 (i := 18) rfl) ?_
  refine G_iload_n 3 rfl rfl (ck dc297_7 (i := 19) rfl) ?_
  refine G_iconst (ck dc297_7 (i := 20) rfl) ?_
  refine G_iadd (ck dc297_7 (i := 21) rfl) ?_
  obtain ⟨o3, h⟩ := h
  refine G_sld (ck dc297_7 (i := 22) rfl) o3 ?_
  refine H_vL mf297 (As := [.inl (f ((l3 + 1)).toNat), .inl (f ((l3 + 2)).toNat), .inl (f ((l3 + 3)).toNat)]) (st := []) (ck dc297_7 (i := 23) rfl) lk_Law_71 rfl rfl (Nat.le_of_ble_eq_true rfl) ly0 ra0 ⟨Nat.le_refl _, Nat.le_refl _⟩ h (fun r4 M5 h => ?_)
  refine G_aload_n 2 rfl rfl (ck dc297_7 (i := 24) rfl) ?_
  refine G_aload_n 0 rfl rfl (ck dc297_7 (i := 25) rfl) ?_
  refine G_iload_n 3 rfl rfl (ck dc297_7 (i := 26) rfl) ?_
  refine G_iconst (ck dc297_7 (i := 27) rfl) ?_
  refine G_iadd (ck dc297_7 (i := 28) rfl) ?_
  refine G_sld (ck dc297_7 (i := 29) rfl) o1 ?_
  refine G_aload_n 0 rfl rfl (ck dc297_7 (i := 30) rfl) ?_
  refine G_iload_n 3 rfl rfl (ck dc297_7 (i := 31) rfl) ?_
  refine G_iconst (ck dc297_7 (i := 32) rfl) ?_
  refine G_iadd (ck dc297_7 (i := 33) rfl) ?_
  refine G_sld (ck dc297_7 (i := 34) rfl) o2 ?_
  refine G_aload_n 0 rfl rfl (ck dc297_7 (i := 35) rfl) ?_
  refine G_iload_n 3 rfl rfl (ck dc297_7 (i := 36) rfl) ?_
  refine G_iconst (ck dc297_7 (i := 37) rfl) ?_
  refine G_iadd (ck dc297_7 (i := 38) rfl) ?_
  refine G_sld (ck dc297_7 (i := 39) rfl) o3 ?_
  refine H_vL mf297 (As := [.inl (f ((l3 + 1)).toNat), .inl (f ((l3 + 2)).toNat), .inl (f ((l3 + 3)).toNat)]) (st := [.inr (.inl r4)]) (ck dc297_7 (i := 40) rfl) lk_Law_75 rfl rfl (Nat.le_of_ble_eq_true rfl) ly52 ra52 ⟨Nat.le_refl _, Nat.le_refl _⟩ h (fun r6 M7 h => ?_)
  obtain ⟨o8, h⟩ := h
  obtain ⟨o9, h⟩ := h
  refine G_lif_eq (tgt := 1999) (ck dc297_7 (i := 42) rfl) (by decide) o8 o9 (ck dc297_7 (i := 41) rfl) (fun c => ?_) (fun c => ?_)
  · replace h := h.1 c
    exact G_sub [0, 1, 2, 3] rfl h
  · replace h := h.2 c
    refine G_iconst (ck dc297_7 (i := 43) rfl) ?_
    exact H_iretZ mf297 (ck dc297_7 (i := 44) rfl) rfl (Or.inl rfl) h
set_option maxHeartbeats 20000000 in
theorem g_law_707 (K : Nat) (n : Nat) (f : Nat → Int) (l3 : Int) (M : PM) (Q : Option PV → PM → Prop)
    (h : (0 ≤ (l3 + 1) ∧ (l3 + 1) < (n : Int)) ∧ (0 ≤ (l3 + 2) ∧ (l3 + 2) < (n : Int)) ∧ (0 ≤ (l3 + 3) ∧ (l3 + 3) < (n : Int)) ∧ (0 ≤ (l3 + 4) ∧ (l3 + 4) < (n : Int)) ∧ Call K jClearingWaves_partIn [.inr (.inr 0), .inl (f ((l3 + 1)).toNat), .inl (f ((l3 + 2)).toNat), .inl (f ((l3 + 3)).toNat), .inl (f ((l3 + 4)).toNat)] P0 P0 M (retL fun r5 M6 => Call K jModel_partIn [.inr (.inr 52), .inl (f ((l3 + 1)).toNat), .inl (f ((l3 + 2)).toNat), .inl (f ((l3 + 3)).toNat), .inl (f ((l3 + 4)).toNat)] P0 P0 M6 (retL fun r7 M8 => R64 r5 ∧ R64 r7 ∧ (r5 = r7 → G (some (n, f)) (K + 1) jLaw_law 1999 [(0, .inr (.inr 1000000)), (1, .inr (.inr 0)), (2, .inr (.inr 52)), (3, .inl l3)] [] P0 P0 M8 Q) ∧ (¬ r5 = r7 → Q (some (.inl 0)) M8)))) : G (some (n, f)) (K + 1) jLaw_law 707 [(0, .inr (.inr 1000000)), (1, .inr (.inr 0)), (2, .inr (.inr 52)), (3, .inl l3)] [] P0 P0 M Q := by
  refine G_aload_n 1 rfl rfl (ck dc297_7 (i := 45) rfl) ?_
  refine G_aload_n 0 rfl rfl (ck dc297_7 (i := 46) rfl) ?_
  refine G_iload_n 3 rfl rfl (ck dc297_7 (i := 47) rfl) ?_
  refine G_iconst (ck dc297_8 (i := 0) rfl) ?_
  refine G_iadd (ck dc297_8 (i := 1) rfl) ?_
  obtain ⟨o1, h⟩ := h
  refine G_sld (ck dc297_8 (i := 2) rfl) o1 ?_
  refine G_aload_n 0 rfl rfl (ck dc297_8 (i := 3) rfl) ?_
  refine G_iload_n 3 rfl rfl (ck dc297_8 (i := 4) rfl) ?_
  refine G_iconst (ck dc297_8 (i := 5) rfl) ?_
  refine G_iadd (ck dc297_8 (i := 6) rfl) ?_
  obtain ⟨o2, h⟩ := h
  refine G_sld (ck dc297_8 (i := 7) rfl) o2 ?_
  refine G_aload_n 0 rfl rfl (ck dc297_8 (i := 8) rfl) ?_
  refine G_iload_n 3 rfl rfl (ck dc297_8 (i := 9) rfl) ?_
  refine G_iconst (ck dc297_8 (i := 10) rfl) ?_
  refine G_iadd (ck dc297_8 (i := 11) rfl) ?_
  obtain ⟨o3, h⟩ := h
  refine G_sld (ck dc297_8 (i := 12) rfl) o3 ?_
  refine G_aload_n 0 rfl rfl (ck dc297_8 (i := 13) rfl) ?_
  refine G_iload_n 3 rfl rfl (ck dc297_8 (i := 14) rfl) ?_
  refine G_iconst (ck dc297_8 (i := 15) rfl) ?_
  refine G_iadd (ck dc297_8 (i := 16) rfl) ?_
  obtain ⟨o4, h⟩ := h
  refine G_sld (ck dc297_8 (i := 17) rfl) o4 ?_
  refine H_vL mf297 (As := [.inl (f ((l3 + 1)).toNat), .inl (f ((l3 + 2)).toNat), .inl (f ((l3 + 3)).toNat), .inl (f ((l3 + 4)).toNat)]) (st := []) (ck dc297_8 (i := 18) rfl) lk_Law_76 rfl rfl (Nat.le_of_ble_eq_true rfl) ly0 ra0 ⟨Nat.le_refl _, Nat.le_refl _⟩ h (fun r5 M6 h => ?_)
  refine G_aload_n 2 rfl rfl (ck dc297_8 (i := 19) rfl) ?_
  refine G_aload_n 0 rfl rfl (ck dc297_8 (i := 20) rfl) ?_
  refine G_iload_n 3 rfl rfl (ck dc297_8 (i := 21) rfl) ?_
  refine G_iconst (ck dc297_8 (i := 22) rfl) ?_
  refine G_iadd (ck dc297_8 (i := 23) rfl) ?_
  refine G_sld (ck dc297_8 (i := 24) rfl) o1 ?_
  refine G_aload_n 0 rfl rfl (ck dc297_8 (i := 25) rfl) ?_
  refine G_iload_n 3 rfl rfl (ck dc297_8 (i := 26) rfl) ?_
  refine G_iconst (ck dc297_8 (i := 27) rfl) ?_
  refine G_iadd (ck dc297_8 (i := 28) rfl) ?_
  refine G_sld (ck dc297_8 (i := 29) rfl) o2 ?_
  refine G_aload_n 0 rfl rfl (ck dc297_8 (i := 30) rfl) ?_
  refine G_iload_n 3 rfl rfl (ck dc297_8 (i := 31) rfl) ?_
  refine G_iconst (ck dc297_8 (i := 32) rfl) ?_
  refine G_iadd (ck dc297_8 (i := 33) rfl) ?_
  refine G_sld (ck dc297_8 (i := 34) rfl) o3 ?_
  refine G_aload_n 0 rfl rfl (ck dc297_8 (i := 35) rfl) ?_
  refine G_iload_n 3 rfl rfl (ck dc297_8 (i := 36) rfl) ?_
  refine G_iconst (ck dc297_8 (i := 37) rfl) ?_
  refine G_iadd (ck dc297_8 (i := 38) rfl) ?_
  refine G_sld (ck dc297_8 (i := 39) rfl) o4 ?_
  refine H_vL mf297 (As := [.inl (f ((l3 + 1)).toNat), .inl (f ((l3 + 2)).toNat), .inl (f ((l3 + 3)).toNat), .inl (f ((l3 + 4)).toNat)]) (st := [.inr (.inl r5)]) (ck dc297_8 (i := 40) rfl) lk_Law_80 rfl rfl (Nat.le_of_ble_eq_true rfl) ly52 ra52 ⟨Nat.le_refl _, Nat.le_refl _⟩ h (fun r7 M8 h => ?_)
  obtain ⟨o9, h⟩ := h
  obtain ⟨o10, h⟩ := h
  refine G_lif_eq (tgt := 1999) (ck dc297_8 (i := 42) rfl) (by decide) o9 o10 (ck dc297_8 (i := 41) rfl) (fun c => ?_) (fun c => ?_)
  · replace h := h.1 c
    exact G_sub [0, 1, 2, 3] rfl h
  · replace h := h.2 c
    refine G_iconst (ck dc297_8 (i := 43) rfl) ?_
    exact H_iretZ mf297 (ck dc297_8 (i := 44) rfl) rfl (Or.inl rfl) h
set_option maxHeartbeats 20000000 in
theorem g_law_761 (K : Nat) (n : Nat) (f : Nat → Int) (l3 : Int) (M : PM) (Q : Option PV → PM → Prop)
    (h : (0 ≤ (l3 + 1) ∧ (l3 + 1) < (n : Int)) ∧ (0 ≤ (l3 + 2) ∧ (l3 + 2) < (n : Int)) ∧ (0 ≤ (l3 + 3) ∧ (l3 + 3) < (n : Int)) ∧ (0 ≤ (l3 + 4) ∧ (l3 + 4) < (n : Int)) ∧ Call K jClearingWaves_paid [.inr (.inr 0), .inl (f ((l3 + 1)).toNat), .inl (f ((l3 + 2)).toNat), .inl (f ((l3 + 3)).toNat), .inl (f ((l3 + 4)).toNat)] P0 P0 M (retL fun r5 M6 => Call K jModel_paid [.inr (.inr 52), .inl (f ((l3 + 1)).toNat), .inl (f ((l3 + 2)).toNat), .inl (f ((l3 + 3)).toNat), .inl (f ((l3 + 4)).toNat)] P0 P0 M6 (retL fun r7 M8 => R64 r5 ∧ R64 r7 ∧ (r5 = r7 → G (some (n, f)) (K + 1) jLaw_law 1999 [(0, .inr (.inr 1000000)), (1, .inr (.inr 0)), (2, .inr (.inr 52)), (3, .inl l3)] [] P0 P0 M8 Q) ∧ (¬ r5 = r7 → Q (some (.inl 0)) M8)))) : G (some (n, f)) (K + 1) jLaw_law 761 [(0, .inr (.inr 1000000)), (1, .inr (.inr 0)), (2, .inr (.inr 52)), (3, .inl l3)] [] P0 P0 M Q := by
  refine G_aload_n 1 rfl rfl (ck dc297_8 (i := 45) rfl) ?_
  refine G_aload_n 0 rfl rfl (ck dc297_8 (i := 46) rfl) ?_
  refine G_iload_n 3 rfl rfl (ck dc297_8 (i := 47) rfl) ?_
  refine G_iconst (ck dc297_9 (i := 0) rfl) ?_
  refine G_iadd (ck dc297_9 (i := 1) rfl) ?_
  obtain ⟨o1, h⟩ := h
  refine G_sld (ck dc297_9 (i := 2) rfl) o1 ?_
  refine G_aload_n 0 rfl rfl (ck dc297_9 (i := 3) rfl) ?_
  refine G_iload_n 3 rfl rfl (ck dc297_9 (i := 4) rfl) ?_
  refine G_iconst (ck dc297_9 (i := 5) rfl) ?_
  refine G_iadd (ck dc297_9 (i := 6) rfl) ?_
  obtain ⟨o2, h⟩ := h
  refine G_sld (ck dc297_9 (i := 7) rfl) o2 ?_
  refine G_aload_n 0 rfl rfl (ck dc297_9 (i := 8) rfl) ?_
  refine G_iload_n 3 rfl rfl (ck dc297_9 (i := 9) rfl) ?_
  refine G_iconst (ck dc297_9 (i := 10) rfl) ?_
  refine G_iadd (ck dc297_9 (i := 11) rfl) ?_
  obtain ⟨o3, h⟩ := h
  refine G_sld (ck dc297_9 (i := 12) rfl) o3 ?_
  refine G_aload_n 0 rfl rfl (ck dc297_9 (i := 13) rfl) ?_
  refine G_iload_n 3 rfl rfl (ck dc297_9 (i := 14) rfl) ?_
  refine G_iconst (ck dc297_9 (i := 15) rfl) ?_
  refine G_iadd (ck dc297_9 (i := 16) rfl) ?_
  obtain ⟨o4, h⟩ := h
  refine G_sld (ck dc297_9 (i := 17) rfl) o4 ?_
  refine H_vL mf297 (As := [.inl (f ((l3 + 1)).toNat), .inl (f ((l3 + 2)).toNat), .inl (f ((l3 + 3)).toNat), .inl (f ((l3 + 4)).toNat)]) (st := []) (ck dc297_9 (i := 18) rfl) lk_Law_81 rfl rfl (Nat.le_of_ble_eq_true rfl) ly0 ra0 ⟨Nat.le_refl _, Nat.le_refl _⟩ h (fun r5 M6 h => ?_)
  refine G_aload_n 2 rfl rfl (ck dc297_9 (i := 19) rfl) ?_
  refine G_aload_n 0 rfl rfl (ck dc297_9 (i := 20) rfl) ?_
  refine G_iload_n 3 rfl rfl (ck dc297_9 (i := 21) rfl) ?_
  refine G_iconst (ck dc297_9 (i := 22) rfl) ?_
  refine G_iadd (ck dc297_9 (i := 23) rfl) ?_
  refine G_sld (ck dc297_9 (i := 24) rfl) o1 ?_
  refine G_aload_n 0 rfl rfl (ck dc297_9 (i := 25) rfl) ?_
  refine G_iload_n 3 rfl rfl (ck dc297_9 (i := 26) rfl) ?_
  refine G_iconst (ck dc297_9 (i := 27) rfl) ?_
  refine G_iadd (ck dc297_9 (i := 28) rfl) ?_
  refine G_sld (ck dc297_9 (i := 29) rfl) o2 ?_
  refine G_aload_n 0 rfl rfl (ck dc297_9 (i := 30) rfl) ?_
  refine G_iload_n 3 rfl rfl (ck dc297_9 (i := 31) rfl) ?_
  refine G_iconst (ck dc297_9 (i := 32) rfl) ?_
  refine G_iadd (ck dc297_9 (i := 33) rfl) ?_
  refine G_sld (ck dc297_9 (i := 34) rfl) o3 ?_
  refine G_aload_n 0 rfl rfl (ck dc297_9 (i := 35) rfl) ?_
  refine G_iload_n 3 rfl rfl (ck dc297_9 (i := 36) rfl) ?_
  refine G_iconst (ck dc297_9 (i := 37) rfl) ?_
  refine G_iadd (ck dc297_9 (i := 38) rfl) ?_
  refine G_sld (ck dc297_9 (i := 39) rfl) o4 ?_
  refine H_vL mf297 (As := [.inl (f ((l3 + 1)).toNat), .inl (f ((l3 + 2)).toNat), .inl (f ((l3 + 3)).toNat), .inl (f ((l3 + 4)).toNat)]) (st := [.inr (.inl r5)]) (ck dc297_9 (i := 40) rfl) lk_Law_84 rfl rfl (Nat.le_of_ble_eq_true rfl) ly52 ra52 ⟨Nat.le_refl _, Nat.le_refl _⟩ h (fun r7 M8 h => ?_)
  obtain ⟨o9, h⟩ := h
  obtain ⟨o10, h⟩ := h
  refine G_lif_eq (tgt := 1999) (ck dc297_9 (i := 42) rfl) (by decide) o9 o10 (ck dc297_9 (i := 41) rfl) (fun c => ?_) (fun c => ?_)
  · replace h := h.1 c
    exact G_sub [0, 1, 2, 3] rfl h
  · replace h := h.2 c
    refine G_iconst (ck dc297_9 (i := 43) rfl) ?_
    exact H_iretZ mf297 (ck dc297_9 (i := 44) rfl) rfl (Or.inl rfl) h
set_option maxHeartbeats 20000000 in
theorem g_law_815 (K : Nat) (n : Nat) (f : Nat → Int) (l3 : Int) (M : PM) (Q : Option PV → PM → Prop)
    (h : (0 ≤ (l3 + 1) ∧ (l3 + 1) < (n : Int)) ∧ (0 ≤ (l3 + 2) ∧ (l3 + 2) < (n : Int)) ∧ Call K jClearingWaves_gets [.inr (.inr 0), .inl (f ((l3 + 1)).toNat), .inl (f ((l3 + 2)).toNat)] P0 P0 M (retL fun r3 M4 => Call K jModel_gets [.inr (.inr 52), .inl (f ((l3 + 1)).toNat), .inl (f ((l3 + 2)).toNat)] P0 P0 M4 (retL fun r5 M6 => R64 r3 ∧ R64 r5 ∧ (r3 = r5 → G (some (n, f)) (K + 1) jLaw_law 1999 [(0, .inr (.inr 1000000)), (1, .inr (.inr 0)), (2, .inr (.inr 52)), (3, .inl l3)] [] P0 P0 M6 Q) ∧ (¬ r3 = r5 → Q (some (.inl 0)) M6)))) : G (some (n, f)) (K + 1) jLaw_law 815 [(0, .inr (.inr 1000000)), (1, .inr (.inr 0)), (2, .inr (.inr 52)), (3, .inl l3)] [] P0 P0 M Q := by
  refine G_aload_n 1 rfl rfl (ck dc297_9 (i := 45) rfl) ?_
  refine G_aload_n 0 rfl rfl (ck dc297_9 (i := 46) rfl) ?_
  refine G_iload_n 3 rfl rfl (ck dc297_9 (i := 47) rfl) ?_
  refine G_iconst (ck dc297_10 (i := 0) rfl) ?_
  refine G_iadd (ck dc297_10 (i := 1) rfl) ?_
  obtain ⟨o1, h⟩ := h
  refine G_sld (ck dc297_10 (i := 2) rfl) o1 ?_
  refine G_aload_n 0 rfl rfl (ck dc297_10 (i := 3) rfl) ?_
  refine G_iload_n 3 rfl rfl (ck dc297_10 (i := 4) rfl) ?_
  refine G_iconst (ck dc297_10 (i := 5) rfl) ?_
  refine G_iadd (ck dc297_10 (i := 6) rfl) ?_
  obtain ⟨o2, h⟩ := h
  refine G_sld (ck dc297_10 (i := 7) rfl) o2 ?_
  refine H_vL mf297 (As := [.inl (f ((l3 + 1)).toNat), .inl (f ((l3 + 2)).toNat)]) (st := []) (ck dc297_10 (i := 8) rfl) lk_Law_85 rfl rfl (Nat.le_of_ble_eq_true rfl) ly0 ra0 ⟨Nat.le_refl _, Nat.le_refl _⟩ h (fun r3 M4 h => ?_)
  refine G_aload_n 2 rfl rfl (ck dc297_10 (i := 9) rfl) ?_
  refine G_aload_n 0 rfl rfl (ck dc297_10 (i := 10) rfl) ?_
  refine G_iload_n 3 rfl rfl (ck dc297_10 (i := 11) rfl) ?_
  refine G_iconst (ck dc297_10 (i := 12) rfl) ?_
  refine G_iadd (ck dc297_10 (i := 13) rfl) ?_
  refine G_sld (ck dc297_10 (i := 14) rfl) o1 ?_
  refine G_aload_n 0 rfl rfl (ck dc297_10 (i := 15) rfl) ?_
  refine G_iload_n 3 rfl rfl (ck dc297_10 (i := 16) rfl) ?_
  refine G_iconst (ck dc297_10 (i := 17) rfl) ?_
  refine G_iadd (ck dc297_10 (i := 18) rfl) ?_
  refine G_sld (ck dc297_10 (i := 19) rfl) o2 ?_
  refine H_vL mf297 (As := [.inl (f ((l3 + 1)).toNat), .inl (f ((l3 + 2)).toNat)]) (st := [.inr (.inl r3)]) (ck dc297_10 (i := 20) rfl) lk_Law_89 rfl rfl (Nat.le_of_ble_eq_true rfl) ly52 ra52 ⟨Nat.le_refl _, Nat.le_refl _⟩ h (fun r5 M6 h => ?_)
  obtain ⟨o7, h⟩ := h
  obtain ⟨o8, h⟩ := h
  refine G_lif_eq (tgt := 1999) (ck dc297_10 (i := 22) rfl) (by decide) o7 o8 (ck dc297_10 (i := 21) rfl) (fun c => ?_) (fun c => ?_)
  · replace h := h.1 c
    exact G_sub [0, 1, 2, 3] rfl h
  · replace h := h.2 c
    refine G_iconst (ck dc297_10 (i := 23) rfl) ?_
    exact H_iretZ mf297 (ck dc297_10 (i := 24) rfl) rfl (Or.inl rfl) h
set_option maxHeartbeats 20000000 in
theorem g_law_849 (K : Nat) (n : Nat) (f : Nat → Int) (l3 : Int) (M : PM) (Q : Option PV → PM → Prop)
    (h : (0 ≤ (l3 + 1) ∧ (l3 + 1) < (n : Int)) ∧ (0 ≤ (l3 + 2) ∧ (l3 + 2) < (n : Int)) ∧ (0 ≤ (l3 + 3) ∧ (l3 + 3) < (n : Int)) ∧ Call K jClearingWaves_worthIn [.inr (.inr 0), .inl (f ((l3 + 1)).toNat), .inl (f ((l3 + 2)).toNat), .inl (f ((l3 + 3)).toNat)] P0 P0 M (retL fun r4 M5 => Call K jModel_worthIn [.inr (.inr 52), .inl (f ((l3 + 1)).toNat), .inl (f ((l3 + 2)).toNat), .inl (f ((l3 + 3)).toNat)] P0 P0 M5 (retL fun r6 M7 => R64 r4 ∧ R64 r6 ∧ (r4 = r6 → G (some (n, f)) (K + 1) jLaw_law 1999 [(0, .inr (.inr 1000000)), (1, .inr (.inr 0)), (2, .inr (.inr 52)), (3, .inl l3)] [] P0 P0 M7 Q) ∧ (¬ r4 = r6 → Q (some (.inl 0)) M7)))) : G (some (n, f)) (K + 1) jLaw_law 849 [(0, .inr (.inr 1000000)), (1, .inr (.inr 0)), (2, .inr (.inr 52)), (3, .inl l3)] [] P0 P0 M Q := by
  refine G_aload_n 1 rfl rfl (ck dc297_10 (i := 25) rfl) ?_
  refine G_aload_n 0 rfl rfl (ck dc297_10 (i := 26) rfl) ?_
  refine G_iload_n 3 rfl rfl (ck dc297_10 (i := 27) rfl) ?_
  refine G_iconst (ck dc297_10 (i := 28) rfl) ?_
  refine G_iadd (ck dc297_10 (i := 29) rfl) ?_
  obtain ⟨o1, h⟩ := h
  refine G_sld (ck dc297_10 (i := 30) rfl) o1 ?_
  refine G_aload_n 0 rfl rfl (ck dc297_10 (i := 31) rfl) ?_
  refine G_iload_n 3 rfl rfl (ck dc297_10 (i := 32) rfl) ?_
  refine G_iconst (ck dc297_10 (i := 33) rfl) ?_
  refine G_iadd (ck dc297_10 (i := 34) rfl) ?_
  obtain ⟨o2, h⟩ := h
  refine G_sld (ck dc297_10 (i := 35) rfl) o2 ?_
  refine G_aload_n 0 rfl rfl (ck dc297_10 (i := 36) rfl) ?_
  refine G_iload_n 3 rfl rfl (ck dc297_10 (i := 37) rfl) ?_
  refine G_iconst (ck dc297_10 (i := 38) rfl) ?_
  refine G_iadd (ck dc297_10 (i := 39) rfl) ?_
  obtain ⟨o3, h⟩ := h
  refine G_sld (ck dc297_10 (i := 40) rfl) o3 ?_
  refine H_vL mf297 (As := [.inl (f ((l3 + 1)).toNat), .inl (f ((l3 + 2)).toNat), .inl (f ((l3 + 3)).toNat)]) (st := []) (ck dc297_10 (i := 41) rfl) lk_Law_90 rfl rfl (Nat.le_of_ble_eq_true rfl) ly0 ra0 ⟨Nat.le_refl _, Nat.le_refl _⟩ h (fun r4 M5 h => ?_)
  refine G_aload_n 2 rfl rfl (ck dc297_10 (i := 42) rfl) ?_
  refine G_aload_n 0 rfl rfl (ck dc297_10 (i := 43) rfl) ?_
  refine G_iload_n 3 rfl rfl (ck dc297_10 (i := 44) rfl) ?_
  refine G_iconst (ck dc297_10 (i := 45) rfl) ?_
  refine G_iadd (ck dc297_10 (i := 46) rfl) ?_
  refine G_sld (ck dc297_10 (i := 47) rfl) o1 ?_
  refine G_aload_n 0 rfl rfl (ck dc297_11 (i := 0) rfl) ?_
  refine G_iload_n 3 rfl rfl (ck dc297_11 (i := 1) rfl) ?_
  refine G_iconst (ck dc297_11 (i := 2) rfl) ?_
  refine G_iadd (ck dc297_11 (i := 3) rfl) ?_
  refine G_sld (ck dc297_11 (i := 4) rfl) o2 ?_
  refine G_aload_n 0 rfl rfl (ck dc297_11 (i := 5) rfl) ?_
  refine G_iload_n 3 rfl rfl (ck dc297_11 (i := 6) rfl) ?_
  refine G_iconst (ck dc297_11 (i := 7) rfl) ?_
  refine G_iadd (ck dc297_11 (i := 8) rfl) ?_
  refine G_sld (ck dc297_11 (i := 9) rfl) o3 ?_
  refine H_vL mf297 (As := [.inl (f ((l3 + 1)).toNat), .inl (f ((l3 + 2)).toNat), .inl (f ((l3 + 3)).toNat)]) (st := [.inr (.inl r4)]) (ck dc297_11 (i := 10) rfl) lk_Law_93 rfl rfl (Nat.le_of_ble_eq_true rfl) ly52 ra52 ⟨Nat.le_refl _, Nat.le_refl _⟩ h (fun r6 M7 h => ?_)
  obtain ⟨o8, h⟩ := h
  obtain ⟨o9, h⟩ := h
  refine G_lif_eq (tgt := 1999) (ck dc297_11 (i := 12) rfl) (by decide) o8 o9 (ck dc297_11 (i := 11) rfl) (fun c => ?_) (fun c => ?_)
  · replace h := h.1 c
    exact G_sub [0, 1, 2, 3] rfl h
  · replace h := h.2 c
    refine G_iconst (ck dc297_11 (i := 13) rfl) ?_
    exact H_iretZ mf297 (ck dc297_11 (i := 14) rfl) rfl (Or.inl rfl) h
set_option maxHeartbeats 20000000 in
theorem g_law_893 (K : Nat) (n : Nat) (f : Nat → Int) (l3 : Int) (M : PM) (Q : Option PV → PM → Prop)
    (h : (0 ≤ (l3 + 1) ∧ (l3 + 1) < (n : Int)) ∧ (0 ≤ (l3 + 2) ∧ (l3 + 2) < (n : Int)) ∧ Call K jClearingWaves_left [.inr (.inr 0), .inl (f ((l3 + 1)).toNat), .inl (f ((l3 + 2)).toNat)] P0 P0 M (retL fun r3 M4 => Call K jModel_left [.inr (.inr 52), .inl (f ((l3 + 1)).toNat), .inl (f ((l3 + 2)).toNat)] P0 P0 M4 (retL fun r5 M6 => R64 r3 ∧ R64 r5 ∧ (r3 = r5 → G (some (n, f)) (K + 1) jLaw_law 1999 [(0, .inr (.inr 1000000)), (1, .inr (.inr 0)), (2, .inr (.inr 52)), (3, .inl l3)] [] P0 P0 M6 Q) ∧ (¬ r3 = r5 → Q (some (.inl 0)) M6)))) : G (some (n, f)) (K + 1) jLaw_law 893 [(0, .inr (.inr 1000000)), (1, .inr (.inr 0)), (2, .inr (.inr 52)), (3, .inl l3)] [] P0 P0 M Q := by
  refine G_aload_n 1 rfl rfl (ck dc297_11 (i := 15) rfl) ?_
  refine G_aload_n 0 rfl rfl (ck dc297_11 (i := 16) rfl) ?_
  refine G_iload_n 3 rfl rfl (ck dc297_11 (i := 17) rfl) ?_
  refine G_iconst (ck dc297_11 (i := 18) rfl) ?_
  refine G_iadd (ck dc297_11 (i := 19) rfl) ?_
  obtain ⟨o1, h⟩ := h
  refine G_sld (ck dc297_11 (i := 20) rfl) o1 ?_
  refine G_aload_n 0 rfl rfl (ck dc297_11 (i := 21) rfl) ?_
  refine G_iload_n 3 rfl rfl (ck dc297_11 (i := 22) rfl) ?_
  refine G_iconst (ck dc297_11 (i := 23) rfl) ?_
  refine G_iadd (ck dc297_11 (i := 24) rfl) ?_
  obtain ⟨o2, h⟩ := h
  refine G_sld (ck dc297_11 (i := 25) rfl) o2 ?_
  refine H_vL mf297 (As := [.inl (f ((l3 + 1)).toNat), .inl (f ((l3 + 2)).toNat)]) (st := []) (ck dc297_11 (i := 26) rfl) lk_Law_94 rfl rfl (Nat.le_of_ble_eq_true rfl) ly0 ra0 ⟨Nat.le_refl _, Nat.le_refl _⟩ h (fun r3 M4 h => ?_)
  refine G_aload_n 2 rfl rfl (ck dc297_11 (i := 27) rfl) ?_
  refine G_aload_n 0 rfl rfl (ck dc297_11 (i := 28) rfl) ?_
  refine G_iload_n 3 rfl rfl (ck dc297_11 (i := 29) rfl) ?_
  refine G_iconst (ck dc297_11 (i := 30) rfl) ?_
  refine G_iadd (ck dc297_11 (i := 31) rfl) ?_
  refine G_sld (ck dc297_11 (i := 32) rfl) o1 ?_
  refine G_aload_n 0 rfl rfl (ck dc297_11 (i := 33) rfl) ?_
  refine G_iload_n 3 rfl rfl (ck dc297_11 (i := 34) rfl) ?_
  refine G_iconst (ck dc297_11 (i := 35) rfl) ?_
  refine G_iadd (ck dc297_11 (i := 36) rfl) ?_
  refine G_sld (ck dc297_11 (i := 37) rfl) o2 ?_
  refine H_vL mf297 (As := [.inl (f ((l3 + 1)).toNat), .inl (f ((l3 + 2)).toNat)]) (st := [.inr (.inl r3)]) (ck dc297_11 (i := 38) rfl) lk_Law_97 rfl rfl (Nat.le_of_ble_eq_true rfl) ly52 ra52 ⟨Nat.le_refl _, Nat.le_refl _⟩ h (fun r5 M6 h => ?_)
  obtain ⟨o7, h⟩ := h
  obtain ⟨o8, h⟩ := h
  refine G_lif_eq (tgt := 1999) (ck dc297_11 (i := 40) rfl) (by decide) o7 o8 (ck dc297_11 (i := 39) rfl) (fun c => ?_) (fun c => ?_)
  · replace h := h.1 c
    exact G_sub [0, 1, 2, 3] rfl h
  · replace h := h.2 c
    refine G_iconst (ck dc297_11 (i := 41) rfl) ?_
    exact H_iretZ mf297 (ck dc297_11 (i := 42) rfl) rfl (Or.inl rfl) h
set_option maxHeartbeats 20000000 in
theorem g_law_927 (K : Nat) (n : Nat) (f : Nat → Int) (l3 : Int) (M : PM) (Q : Option PV → PM → Prop)
    (h : (0 ≤ (l3 + 1) ∧ (l3 + 1) < (n : Int)) ∧ (0 ≤ (l3 + 2) ∧ (l3 + 2) < (n : Int)) ∧ Call K jClearingWaves_lost [.inr (.inr 0), .inl (f ((l3 + 1)).toNat), .inl (f ((l3 + 2)).toNat)] P0 P0 M (retL fun r3 M4 => Call K jModel_lost [.inr (.inr 52), .inl (f ((l3 + 1)).toNat), .inl (f ((l3 + 2)).toNat)] P0 P0 M4 (retL fun r5 M6 => R64 r3 ∧ R64 r5 ∧ (r3 = r5 → G (some (n, f)) (K + 1) jLaw_law 1999 [(0, .inr (.inr 1000000)), (1, .inr (.inr 0)), (2, .inr (.inr 52)), (3, .inl l3)] [] P0 P0 M6 Q) ∧ (¬ r3 = r5 → Q (some (.inl 0)) M6)))) : G (some (n, f)) (K + 1) jLaw_law 927 [(0, .inr (.inr 1000000)), (1, .inr (.inr 0)), (2, .inr (.inr 52)), (3, .inl l3)] [] P0 P0 M Q := by
  refine G_aload_n 1 rfl rfl (ck dc297_11 (i := 43) rfl) ?_
  refine G_aload_n 0 rfl rfl (ck dc297_11 (i := 44) rfl) ?_
  refine G_iload_n 3 rfl rfl (ck dc297_11 (i := 45) rfl) ?_
  refine G_iconst (ck dc297_11 (i := 46) rfl) ?_
  refine G_iadd (ck dc297_11 (i := 47) rfl) ?_
  obtain ⟨o1, h⟩ := h
  refine G_sld (ck dc297_12 (i := 0) rfl) o1 ?_
  refine G_aload_n 0 rfl rfl (ck dc297_12 (i := 1) rfl) ?_
  refine G_iload_n 3 rfl rfl (ck dc297_12 (i := 2) rfl) ?_
  refine G_iconst (ck dc297_12 (i := 3) rfl) ?_
  refine G_iadd (ck dc297_12 (i := 4) rfl) ?_
  obtain ⟨o2, h⟩ := h
  refine G_sld (ck dc297_12 (i := 5) rfl) o2 ?_
  refine H_vL mf297 (As := [.inl (f ((l3 + 1)).toNat), .inl (f ((l3 + 2)).toNat)]) (st := []) (ck dc297_12 (i := 6) rfl) lk_Law_98 rfl rfl (Nat.le_of_ble_eq_true rfl) ly0 ra0 ⟨Nat.le_refl _, Nat.le_refl _⟩ h (fun r3 M4 h => ?_)
  refine G_aload_n 2 rfl rfl (ck dc297_12 (i := 7) rfl) ?_
  refine G_aload_n 0 rfl rfl (ck dc297_12 (i := 8) rfl) ?_
  refine G_iload_n 3 rfl rfl (ck dc297_12 (i := 9) rfl) ?_
  refine G_iconst (ck dc297_12 (i := 10) rfl) ?_
  refine G_iadd (ck dc297_12 (i := 11) rfl) ?_
  refine G_sld (ck dc297_12 (i := 12) rfl) o1 ?_
  refine G_aload_n 0 rfl rfl (ck dc297_12 (i := 13) rfl) ?_
  refine G_iload_n 3 rfl rfl (ck dc297_12 (i := 14) rfl) ?_
  refine G_iconst (ck dc297_12 (i := 15) rfl) ?_
  refine G_iadd (ck dc297_12 (i := 16) rfl) ?_
  refine G_sld (ck dc297_12 (i := 17) rfl) o2 ?_
  refine H_vL mf297 (As := [.inl (f ((l3 + 1)).toNat), .inl (f ((l3 + 2)).toNat)]) (st := [.inr (.inl r3)]) (ck dc297_12 (i := 18) rfl) lk_Law_101 rfl rfl (Nat.le_of_ble_eq_true rfl) ly52 ra52 ⟨Nat.le_refl _, Nat.le_refl _⟩ h (fun r5 M6 h => ?_)
  obtain ⟨o7, h⟩ := h
  obtain ⟨o8, h⟩ := h
  refine G_lif_eq (tgt := 1999) (ck dc297_12 (i := 20) rfl) (by decide) o7 o8 (ck dc297_12 (i := 19) rfl) (fun c => ?_) (fun c => ?_)
  · replace h := h.1 c
    exact G_sub [0, 1, 2, 3] rfl h
  · replace h := h.2 c
    refine G_iconst (ck dc297_12 (i := 21) rfl) ?_
    exact H_iretZ mf297 (ck dc297_12 (i := 22) rfl) rfl (Or.inl rfl) h
set_option maxHeartbeats 20000000 in
theorem g_law_961 (K : Nat) (n : Nat) (f : Nat → Int) (l3 : Int) (M : PM) (Q : Option PV → PM → Prop)
    (h : (0 ≤ (l3 + 1) ∧ (l3 + 1) < (n : Int)) ∧ (0 ≤ (l3 + 2) ∧ (l3 + 2) < (n : Int)) ∧ (0 ≤ (l3 + 3) ∧ (l3 + 3) < (n : Int)) ∧ Call K jClearingWaves_lacks [.inr (.inr 0), .inl (f ((l3 + 1)).toNat), .inl (f ((l3 + 2)).toNat), .inl (f ((l3 + 3)).toNat)] P0 P0 M (retL fun r4 M5 => Call K jModel_lacks [.inr (.inr 52), .inl (f ((l3 + 1)).toNat), .inl (f ((l3 + 2)).toNat), .inl (f ((l3 + 3)).toNat)] P0 P0 M5 (retL fun r6 M7 => R64 r4 ∧ R64 r6 ∧ (r4 = r6 → G (some (n, f)) (K + 1) jLaw_law 1999 [(0, .inr (.inr 1000000)), (1, .inr (.inr 0)), (2, .inr (.inr 52)), (3, .inl l3)] [] P0 P0 M7 Q) ∧ (¬ r4 = r6 → Q (some (.inl 0)) M7)))) : G (some (n, f)) (K + 1) jLaw_law 961 [(0, .inr (.inr 1000000)), (1, .inr (.inr 0)), (2, .inr (.inr 52)), (3, .inl l3)] [] P0 P0 M Q := by
  refine G_aload_n 1 rfl rfl (ck dc297_12 (i := 23) rfl) ?_
  refine G_aload_n 0 rfl rfl (ck dc297_12 (i := 24) rfl) ?_
  refine G_iload_n 3 rfl rfl (ck dc297_12 (i := 25) rfl) ?_
  refine G_iconst (ck dc297_12 (i := 26) rfl) ?_
  refine G_iadd (ck dc297_12 (i := 27) rfl) ?_
  obtain ⟨o1, h⟩ := h
  refine G_sld (ck dc297_12 (i := 28) rfl) o1 ?_
  refine G_aload_n 0 rfl rfl (ck dc297_12 (i := 29) rfl) ?_
  refine G_iload_n 3 rfl rfl (ck dc297_12 (i := 30) rfl) ?_
  refine G_iconst (ck dc297_12 (i := 31) rfl) ?_
  refine G_iadd (ck dc297_12 (i := 32) rfl) ?_
  obtain ⟨o2, h⟩ := h
  refine G_sld (ck dc297_12 (i := 33) rfl) o2 ?_
  refine G_aload_n 0 rfl rfl (ck dc297_12 (i := 34) rfl) ?_
  refine G_iload_n 3 rfl rfl (ck dc297_12 (i := 35) rfl) ?_
  refine G_iconst (ck dc297_12 (i := 36) rfl) ?_
  refine G_iadd (ck dc297_12 (i := 37) rfl) ?_
  obtain ⟨o3, h⟩ := h
  refine G_sld (ck dc297_12 (i := 38) rfl) o3 ?_
  refine H_vL mf297 (As := [.inl (f ((l3 + 1)).toNat), .inl (f ((l3 + 2)).toNat), .inl (f ((l3 + 3)).toNat)]) (st := []) (ck dc297_12 (i := 39) rfl) lk_Law_102 rfl rfl (Nat.le_of_ble_eq_true rfl) ly0 ra0 ⟨Nat.le_refl _, Nat.le_refl _⟩ h (fun r4 M5 h => ?_)
  refine G_aload_n 2 rfl rfl (ck dc297_12 (i := 40) rfl) ?_
  refine G_aload_n 0 rfl rfl (ck dc297_12 (i := 41) rfl) ?_
  refine G_iload_n 3 rfl rfl (ck dc297_12 (i := 42) rfl) ?_
  refine G_iconst (ck dc297_12 (i := 43) rfl) ?_
  refine G_iadd (ck dc297_12 (i := 44) rfl) ?_
  refine G_sld (ck dc297_12 (i := 45) rfl) o1 ?_
  refine G_aload_n 0 rfl rfl (ck dc297_12 (i := 46) rfl) ?_
  refine G_iload_n 3 rfl rfl (ck dc297_12 (i := 47) rfl) ?_
  refine G_iconst (ck dc297_13 (i := 0) rfl) ?_
  refine G_iadd (ck dc297_13 (i := 1) rfl) ?_
  refine G_sld (ck dc297_13 (i := 2) rfl) o2 ?_
  refine G_aload_n 0 rfl rfl (ck dc297_13 (i := 3) rfl) ?_
  refine G_iload_n 3 rfl rfl (ck dc297_13 (i := 4) rfl) ?_
  refine G_iconst (ck dc297_13 (i := 5) rfl) ?_
  refine G_iadd (ck dc297_13 (i := 6) rfl) ?_
  refine G_sld (ck dc297_13 (i := 7) rfl) o3 ?_
  refine H_vL mf297 (As := [.inl (f ((l3 + 1)).toNat), .inl (f ((l3 + 2)).toNat), .inl (f ((l3 + 3)).toNat)]) (st := [.inr (.inl r4)]) (ck dc297_13 (i := 8) rfl) lk_Law_105 rfl rfl (Nat.le_of_ble_eq_true rfl) ly52 ra52 ⟨Nat.le_refl _, Nat.le_refl _⟩ h (fun r6 M7 h => ?_)
  obtain ⟨o8, h⟩ := h
  obtain ⟨o9, h⟩ := h
  refine G_lif_eq (tgt := 1999) (ck dc297_13 (i := 10) rfl) (by decide) o8 o9 (ck dc297_13 (i := 9) rfl) (fun c => ?_) (fun c => ?_)
  · replace h := h.1 c
    exact G_sub [0, 1, 2, 3] rfl h
  · replace h := h.2 c
    refine G_iconst (ck dc297_13 (i := 11) rfl) ?_
    exact H_iretZ mf297 (ck dc297_13 (i := 12) rfl) rfl (Or.inl rfl) h
set_option maxHeartbeats 20000000 in
theorem g_law_1005 (K : Nat) (n : Nat) (f : Nat → Int) (l3 : Int) (M : PM) (Q : Option PV → PM → Prop)
    (h : (0 ≤ (l3 + 1) ∧ (l3 + 1) < (n : Int)) ∧ (0 ≤ (l3 + 2) ∧ (l3 + 2) < (n : Int)) ∧ Call K jClearingWaves_all [.inr (.inr 0), .inl (f ((l3 + 1)).toNat), .inl (f ((l3 + 2)).toNat)] P0 P0 M (retL fun r3 M4 => Call K jModel_all [.inr (.inr 52), .inl (f ((l3 + 1)).toNat), .inl (f ((l3 + 2)).toNat)] P0 P0 M4 (retL fun r5 M6 => R64 r3 ∧ R64 r5 ∧ (r3 = r5 → G (some (n, f)) (K + 1) jLaw_law 1999 [(0, .inr (.inr 1000000)), (1, .inr (.inr 0)), (2, .inr (.inr 52)), (3, .inl l3)] [] P0 P0 M6 Q) ∧ (¬ r3 = r5 → Q (some (.inl 0)) M6)))) : G (some (n, f)) (K + 1) jLaw_law 1005 [(0, .inr (.inr 1000000)), (1, .inr (.inr 0)), (2, .inr (.inr 52)), (3, .inl l3)] [] P0 P0 M Q := by
  refine G_aload_n 1 rfl rfl (ck dc297_13 (i := 13) rfl) ?_
  refine G_aload_n 0 rfl rfl (ck dc297_13 (i := 14) rfl) ?_
  refine G_iload_n 3 rfl rfl (ck dc297_13 (i := 15) rfl) ?_
  refine G_iconst (ck dc297_13 (i := 16) rfl) ?_
  refine G_iadd (ck dc297_13 (i := 17) rfl) ?_
  obtain ⟨o1, h⟩ := h
  refine G_sld (ck dc297_13 (i := 18) rfl) o1 ?_
  refine G_aload_n 0 rfl rfl (ck dc297_13 (i := 19) rfl) ?_
  refine G_iload_n 3 rfl rfl (ck dc297_13 (i := 20) rfl) ?_
  refine G_iconst (ck dc297_13 (i := 21) rfl) ?_
  refine G_iadd (ck dc297_13 (i := 22) rfl) ?_
  obtain ⟨o2, h⟩ := h
  refine G_sld (ck dc297_13 (i := 23) rfl) o2 ?_
  refine H_vL mf297 (As := [.inl (f ((l3 + 1)).toNat), .inl (f ((l3 + 2)).toNat)]) (st := []) (ck dc297_13 (i := 24) rfl) lk_Law_106 rfl rfl (Nat.le_of_ble_eq_true rfl) ly0 ra0 ⟨Nat.le_refl _, Nat.le_refl _⟩ h (fun r3 M4 h => ?_)
  refine G_aload_n 2 rfl rfl (ck dc297_13 (i := 25) rfl) ?_
  refine G_aload_n 0 rfl rfl (ck dc297_13 (i := 26) rfl) ?_
  refine G_iload_n 3 rfl rfl (ck dc297_13 (i := 27) rfl) ?_
  refine G_iconst (ck dc297_13 (i := 28) rfl) ?_
  refine G_iadd (ck dc297_13 (i := 29) rfl) ?_
  refine G_sld (ck dc297_13 (i := 30) rfl) o1 ?_
  refine G_aload_n 0 rfl rfl (ck dc297_13 (i := 31) rfl) ?_
  refine G_iload_n 3 rfl rfl (ck dc297_13 (i := 32) rfl) ?_
  refine G_iconst (ck dc297_13 (i := 33) rfl) ?_
  refine G_iadd (ck dc297_13 (i := 34) rfl) ?_
  refine G_sld (ck dc297_13 (i := 35) rfl) o2 ?_
  refine H_vL mf297 (As := [.inl (f ((l3 + 1)).toNat), .inl (f ((l3 + 2)).toNat)]) (st := [.inr (.inl r3)]) (ck dc297_13 (i := 36) rfl) lk_Law_109 rfl rfl (Nat.le_of_ble_eq_true rfl) ly52 ra52 ⟨Nat.le_refl _, Nat.le_refl _⟩ h (fun r5 M6 h => ?_)
  obtain ⟨o7, h⟩ := h
  obtain ⟨o8, h⟩ := h
  refine G_lif_eq (tgt := 1999) (ck dc297_13 (i := 38) rfl) (by decide) o7 o8 (ck dc297_13 (i := 37) rfl) (fun c => ?_) (fun c => ?_)
  · replace h := h.1 c
    exact G_sub [0, 1, 2, 3] rfl h
  · replace h := h.2 c
    refine G_iconst (ck dc297_13 (i := 39) rfl) ?_
    exact H_iretZ mf297 (ck dc297_13 (i := 40) rfl) rfl (Or.inl rfl) h
set_option maxHeartbeats 20000000 in
theorem g_law_1039 (K : Nat) (n : Nat) (f : Nat → Int) (l3 : Int) (M : PM) (Q : Option PV → PM → Prop)
    (h : (0 ≤ (l3 + 1) ∧ (l3 + 1) < (n : Int)) ∧ Call K jClearingWaves_cause [.inr (.inr 0), .inl (f ((l3 + 1)).toNat)] P0 P0 M (retI fun r2 M3 => Call K jModel_cause [.inr (.inr 52), .inl (f ((l3 + 1)).toNat)] P0 P0 M3 (retI fun r4 M5 => R32 r2 ∧ R32 r4 ∧ (r2 = r4 → G (some (n, f)) (K + 1) jLaw_law 1999 [(0, .inr (.inr 1000000)), (1, .inr (.inr 0)), (2, .inr (.inr 52)), (3, .inl l3)] [] P0 P0 M5 Q) ∧ (¬ r2 = r4 → Q (some (.inl 0)) M5)))) : G (some (n, f)) (K + 1) jLaw_law 1039 [(0, .inr (.inr 1000000)), (1, .inr (.inr 0)), (2, .inr (.inr 52)), (3, .inl l3)] [] P0 P0 M Q := by
  refine G_aload_n 1 rfl rfl (ck dc297_13 (i := 41) rfl) ?_
  refine G_aload_n 0 rfl rfl (ck dc297_13 (i := 42) rfl) ?_
  refine G_iload_n 3 rfl rfl (ck dc297_13 (i := 43) rfl) ?_
  refine G_iconst (ck dc297_13 (i := 44) rfl) ?_
  refine G_iadd (ck dc297_13 (i := 45) rfl) ?_
  obtain ⟨o1, h⟩ := h
  refine G_sld (ck dc297_13 (i := 46) rfl) o1 ?_
  refine H_vI mf297 (As := [.inl (f ((l3 + 1)).toNat)]) (st := []) (ck dc297_13 (i := 47) rfl) lk_Law_110 rfl rfl (Nat.le_of_ble_eq_true rfl) ly0 ra0 ⟨Nat.le_refl _, Nat.le_refl _⟩ h (fun r2 M3 h => ?_)
  refine G_aload_n 2 rfl rfl (ck dc297_14 (i := 0) rfl) ?_
  refine G_aload_n 0 rfl rfl (ck dc297_14 (i := 1) rfl) ?_
  refine G_iload_n 3 rfl rfl (ck dc297_14 (i := 2) rfl) ?_
  refine G_iconst (ck dc297_14 (i := 3) rfl) ?_
  refine G_iadd (ck dc297_14 (i := 4) rfl) ?_
  refine G_sld (ck dc297_14 (i := 5) rfl) o1 ?_
  refine H_vI mf297 (As := [.inl (f ((l3 + 1)).toNat)]) (st := [.inl r2]) (ck dc297_14 (i := 6) rfl) lk_Law_113 rfl rfl (Nat.le_of_ble_eq_true rfl) ly52 ra52 ⟨Nat.le_refl _, Nat.le_refl _⟩ h (fun r4 M5 h => ?_)
  obtain ⟨o6, h⟩ := h
  obtain ⟨o7, h⟩ := h
  refine G_icmp_eq (tgt := 1999) (by decide) o6 o7 (ck dc297_14 (i := 7) rfl) (fun c => ?_) (fun c => ?_)
  · replace h := h.1 c
    exact G_sub [0, 1, 2, 3] rfl h
  · replace h := h.2 c
    refine G_iconst (ck dc297_14 (i := 8) rfl) ?_
    exact H_iretZ mf297 (ck dc297_14 (i := 9) rfl) rfl (Or.inl rfl) h
set_option maxHeartbeats 20000000 in
theorem g_law_1062 (K : Nat) (n : Nat) (f : Nat → Int) (l3 : Int) (M : PM) (Q : Option PV → PM → Prop)
    (h : (0 ≤ (l3 + 1) ∧ (l3 + 1) < (n : Int)) ∧ (0 ≤ (l3 + 2) ∧ (l3 + 2) < (n : Int)) ∧ Call K jClearingWaves_chain [.inr (.inr 0), .inl (f ((l3 + 1)).toNat), .inl (f ((l3 + 2)).toNat)] P0 P0 M (retI fun r3 M4 => Call K jModel_chain [.inr (.inr 52), .inl (f ((l3 + 1)).toNat), .inl (f ((l3 + 2)).toNat)] P0 P0 M4 (retI fun r5 M6 => R32 r3 ∧ R32 r5 ∧ (r3 = r5 → G (some (n, f)) (K + 1) jLaw_law 1999 [(0, .inr (.inr 1000000)), (1, .inr (.inr 0)), (2, .inr (.inr 52)), (3, .inl l3)] [] P0 P0 M6 Q) ∧ (¬ r3 = r5 → Q (some (.inl 0)) M6)))) : G (some (n, f)) (K + 1) jLaw_law 1062 [(0, .inr (.inr 1000000)), (1, .inr (.inr 0)), (2, .inr (.inr 52)), (3, .inl l3)] [] P0 P0 M Q := by
  refine G_aload_n 1 rfl rfl (ck dc297_14 (i := 10) rfl) ?_
  refine G_aload_n 0 rfl rfl (ck dc297_14 (i := 11) rfl) ?_
  refine G_iload_n 3 rfl rfl (ck dc297_14 (i := 12) rfl) ?_
  refine G_iconst (ck dc297_14 (i := 13) rfl) ?_
  refine G_iadd (ck dc297_14 (i := 14) rfl) ?_
  obtain ⟨o1, h⟩ := h
  refine G_sld (ck dc297_14 (i := 15) rfl) o1 ?_
  refine G_aload_n 0 rfl rfl (ck dc297_14 (i := 16) rfl) ?_
  refine G_iload_n 3 rfl rfl (ck dc297_14 (i := 17) rfl) ?_
  refine G_iconst (ck dc297_14 (i := 18) rfl) ?_
  refine G_iadd (ck dc297_14 (i := 19) rfl) ?_
  obtain ⟨o2, h⟩ := h
  refine G_sld (ck dc297_14 (i := 20) rfl) o2 ?_
  refine H_vI mf297 (As := [.inl (f ((l3 + 1)).toNat), .inl (f ((l3 + 2)).toNat)]) (st := []) (ck dc297_14 (i := 21) rfl) lk_Law_114 rfl rfl (Nat.le_of_ble_eq_true rfl) ly0 ra0 ⟨Nat.le_refl _, Nat.le_refl _⟩ h (fun r3 M4 h => ?_)
  refine G_aload_n 2 rfl rfl (ck dc297_14 (i := 22) rfl) ?_
  refine G_aload_n 0 rfl rfl (ck dc297_14 (i := 23) rfl) ?_
  refine G_iload_n 3 rfl rfl (ck dc297_14 (i := 24) rfl) ?_
  refine G_iconst (ck dc297_14 (i := 25) rfl) ?_
  refine G_iadd (ck dc297_14 (i := 26) rfl) ?_
  refine G_sld (ck dc297_14 (i := 27) rfl) o1 ?_
  refine G_aload_n 0 rfl rfl (ck dc297_14 (i := 28) rfl) ?_
  refine G_iload_n 3 rfl rfl (ck dc297_14 (i := 29) rfl) ?_
  refine G_iconst (ck dc297_14 (i := 30) rfl) ?_
  refine G_iadd (ck dc297_14 (i := 31) rfl) ?_
  refine G_sld (ck dc297_14 (i := 32) rfl) o2 ?_
  refine H_vI mf297 (As := [.inl (f ((l3 + 1)).toNat), .inl (f ((l3 + 2)).toNat)]) (st := [.inl r3]) (ck dc297_14 (i := 33) rfl) lk_Law_117 rfl rfl (Nat.le_of_ble_eq_true rfl) ly52 ra52 ⟨Nat.le_refl _, Nat.le_refl _⟩ h (fun r5 M6 h => ?_)
  obtain ⟨o7, h⟩ := h
  obtain ⟨o8, h⟩ := h
  refine G_icmp_eq (tgt := 1999) (by decide) o7 o8 (ck dc297_14 (i := 34) rfl) (fun c => ?_) (fun c => ?_)
  · replace h := h.1 c
    exact G_sub [0, 1, 2, 3] rfl h
  · replace h := h.2 c
    refine G_iconst (ck dc297_14 (i := 35) rfl) ?_
    exact H_iretZ mf297 (ck dc297_14 (i := 36) rfl) rfl (Or.inl rfl) h
set_option maxHeartbeats 20000000 in
theorem g_law_1095 (K : Nat) (n : Nat) (f : Nat → Int) (l3 : Int) (M : PM) (Q : Option PV → PM → Prop)
    (h : (0 ≤ (l3 + 1) ∧ (l3 + 1) < (n : Int)) ∧ Call K jClearingWaves_root [.inr (.inr 0), .inl (f ((l3 + 1)).toNat)] P0 P0 M (retI fun r2 M3 => Call K jModel_root [.inr (.inr 52), .inl (f ((l3 + 1)).toNat)] P0 P0 M3 (retI fun r4 M5 => R32 r2 ∧ R32 r4 ∧ (r2 = r4 → G (some (n, f)) (K + 1) jLaw_law 1999 [(0, .inr (.inr 1000000)), (1, .inr (.inr 0)), (2, .inr (.inr 52)), (3, .inl l3)] [] P0 P0 M5 Q) ∧ (¬ r2 = r4 → Q (some (.inl 0)) M5)))) : G (some (n, f)) (K + 1) jLaw_law 1095 [(0, .inr (.inr 1000000)), (1, .inr (.inr 0)), (2, .inr (.inr 52)), (3, .inl l3)] [] P0 P0 M Q := by
  refine G_aload_n 1 rfl rfl (ck dc297_14 (i := 37) rfl) ?_
  refine G_aload_n 0 rfl rfl (ck dc297_14 (i := 38) rfl) ?_
  refine G_iload_n 3 rfl rfl (ck dc297_14 (i := 39) rfl) ?_
  refine G_iconst (ck dc297_14 (i := 40) rfl) ?_
  refine G_iadd (ck dc297_14 (i := 41) rfl) ?_
  obtain ⟨o1, h⟩ := h
  refine G_sld (ck dc297_14 (i := 42) rfl) o1 ?_
  refine H_vI mf297 (As := [.inl (f ((l3 + 1)).toNat)]) (st := []) (ck dc297_14 (i := 43) rfl) lk_Law_118 rfl rfl (Nat.le_of_ble_eq_true rfl) ly0 ra0 ⟨Nat.le_refl _, Nat.le_refl _⟩ h (fun r2 M3 h => ?_)
  refine G_aload_n 2 rfl rfl (ck dc297_14 (i := 44) rfl) ?_
  refine G_aload_n 0 rfl rfl (ck dc297_14 (i := 45) rfl) ?_
  refine G_iload_n 3 rfl rfl (ck dc297_14 (i := 46) rfl) ?_
  refine G_iconst (ck dc297_14 (i := 47) rfl) ?_
  refine G_iadd (ck dc297_15 (i := 0) rfl) ?_
  refine G_sld (ck dc297_15 (i := 1) rfl) o1 ?_
  refine H_vI mf297 (As := [.inl (f ((l3 + 1)).toNat)]) (st := [.inl r2]) (ck dc297_15 (i := 2) rfl) lk_Law_121 rfl rfl (Nat.le_of_ble_eq_true rfl) ly52 ra52 ⟨Nat.le_refl _, Nat.le_refl _⟩ h (fun r4 M5 h => ?_)
  obtain ⟨o6, h⟩ := h
  obtain ⟨o7, h⟩ := h
  refine G_icmp_eq (tgt := 1999) (by decide) o6 o7 (ck dc297_15 (i := 3) rfl) (fun c => ?_) (fun c => ?_)
  · replace h := h.1 c
    exact G_sub [0, 1, 2, 3] rfl h
  · replace h := h.2 c
    refine G_iconst (ck dc297_15 (i := 4) rfl) ?_
    exact H_iretZ mf297 (ck dc297_15 (i := 5) rfl) rfl (Or.inl rfl) h
set_option maxHeartbeats 20000000 in
theorem g_law_1118 (K : Nat) (n : Nat) (f : Nat → Int) (l3 : Int) (M : PM) (Q : Option PV → PM → Prop)
    (h : (0 ≤ (l3 + 1) ∧ (l3 + 1) < (n : Int)) ∧ Call K jClearingWaves_pulls [.inr (.inr 0), .inl (f ((l3 + 1)).toNat)] P0 P0 M (retI fun r2 M3 => Call K jModel_pulls [.inr (.inr 52), .inl (f ((l3 + 1)).toNat)] P0 P0 M3 (retI fun r4 M5 => R32 r2 ∧ R32 r4 ∧ (r2 = r4 → G (some (n, f)) (K + 1) jLaw_law 1999 [(0, .inr (.inr 1000000)), (1, .inr (.inr 0)), (2, .inr (.inr 52)), (3, .inl l3)] [] P0 P0 M5 Q) ∧ (¬ r2 = r4 → Q (some (.inl 0)) M5)))) : G (some (n, f)) (K + 1) jLaw_law 1118 [(0, .inr (.inr 1000000)), (1, .inr (.inr 0)), (2, .inr (.inr 52)), (3, .inl l3)] [] P0 P0 M Q := by
  refine G_aload_n 1 rfl rfl (ck dc297_15 (i := 6) rfl) ?_
  refine G_aload_n 0 rfl rfl (ck dc297_15 (i := 7) rfl) ?_
  refine G_iload_n 3 rfl rfl (ck dc297_15 (i := 8) rfl) ?_
  refine G_iconst (ck dc297_15 (i := 9) rfl) ?_
  refine G_iadd (ck dc297_15 (i := 10) rfl) ?_
  obtain ⟨o1, h⟩ := h
  refine G_sld (ck dc297_15 (i := 11) rfl) o1 ?_
  refine H_vI mf297 (As := [.inl (f ((l3 + 1)).toNat)]) (st := []) (ck dc297_15 (i := 12) rfl) lk_Law_122 rfl rfl (Nat.le_of_ble_eq_true rfl) ly0 ra0 ⟨Nat.le_refl _, Nat.le_refl _⟩ h (fun r2 M3 h => ?_)
  refine G_aload_n 2 rfl rfl (ck dc297_15 (i := 13) rfl) ?_
  refine G_aload_n 0 rfl rfl (ck dc297_15 (i := 14) rfl) ?_
  refine G_iload_n 3 rfl rfl (ck dc297_15 (i := 15) rfl) ?_
  refine G_iconst (ck dc297_15 (i := 16) rfl) ?_
  refine G_iadd (ck dc297_15 (i := 17) rfl) ?_
  refine G_sld (ck dc297_15 (i := 18) rfl) o1 ?_
  refine H_vI mf297 (As := [.inl (f ((l3 + 1)).toNat)]) (st := [.inl r2]) (ck dc297_15 (i := 19) rfl) lk_Law_125 rfl rfl (Nat.le_of_ble_eq_true rfl) ly52 ra52 ⟨Nat.le_refl _, Nat.le_refl _⟩ h (fun r4 M5 h => ?_)
  obtain ⟨o6, h⟩ := h
  obtain ⟨o7, h⟩ := h
  refine G_icmp_eq (tgt := 1999) (by decide) o6 o7 (ck dc297_15 (i := 20) rfl) (fun c => ?_) (fun c => ?_)
  · replace h := h.1 c
    exact G_sub [0, 1, 2, 3] rfl h
  · replace h := h.2 c
    refine G_iconst (ck dc297_15 (i := 21) rfl) ?_
    exact H_iretZ mf297 (ck dc297_15 (i := 22) rfl) rfl (Or.inl rfl) h
set_option maxHeartbeats 20000000 in
theorem g_law_1141 (K : Nat) (n : Nat) (f : Nat → Int) (l3 : Int) (M : PM) (Q : Option PV → PM → Prop)
    (h : (0 ≤ (l3 + 1) ∧ (l3 + 1) < (n : Int)) ∧ (0 ≤ (l3 + 2) ∧ (l3 + 2) < (n : Int)) ∧ (0 ≤ (l3 + 3) ∧ (l3 + 3) < (n : Int)) ∧ Call K jClearingWaves_coin [.inr (.inr 0), .inl (f ((l3 + 1)).toNat), .inl (f ((l3 + 2)).toNat), .inl (f ((l3 + 3)).toNat)] P0 P0 M (retI fun r4 M5 => Call K jModel_coin [.inr (.inr 52), .inl (f ((l3 + 1)).toNat), .inl (f ((l3 + 2)).toNat), .inl (f ((l3 + 3)).toNat)] P0 P0 M5 (retI fun r6 M7 => R32 r4 ∧ R32 r6 ∧ (r4 = r6 → G (some (n, f)) (K + 1) jLaw_law 1999 [(0, .inr (.inr 1000000)), (1, .inr (.inr 0)), (2, .inr (.inr 52)), (3, .inl l3)] [] P0 P0 M7 Q) ∧ (¬ r4 = r6 → Q (some (.inl 0)) M7)))) : G (some (n, f)) (K + 1) jLaw_law 1141 [(0, .inr (.inr 1000000)), (1, .inr (.inr 0)), (2, .inr (.inr 52)), (3, .inl l3)] [] P0 P0 M Q := by
  refine G_aload_n 1 rfl rfl (ck dc297_15 (i := 23) rfl) ?_
  refine G_aload_n 0 rfl rfl (ck dc297_15 (i := 24) rfl) ?_
  refine G_iload_n 3 rfl rfl (ck dc297_15 (i := 25) rfl) ?_
  refine G_iconst (ck dc297_15 (i := 26) rfl) ?_
  refine G_iadd (ck dc297_15 (i := 27) rfl) ?_
  obtain ⟨o1, h⟩ := h
  refine G_sld (ck dc297_15 (i := 28) rfl) o1 ?_
  refine G_aload_n 0 rfl rfl (ck dc297_15 (i := 29) rfl) ?_
  refine G_iload_n 3 rfl rfl (ck dc297_15 (i := 30) rfl) ?_
  refine G_iconst (ck dc297_15 (i := 31) rfl) ?_
  refine G_iadd (ck dc297_15 (i := 32) rfl) ?_
  obtain ⟨o2, h⟩ := h
  refine G_sld (ck dc297_15 (i := 33) rfl) o2 ?_
  refine G_aload_n 0 rfl rfl (ck dc297_15 (i := 34) rfl) ?_
  refine G_iload_n 3 rfl rfl (ck dc297_15 (i := 35) rfl) ?_
  refine G_iconst (ck dc297_15 (i := 36) rfl) ?_
  refine G_iadd (ck dc297_15 (i := 37) rfl) ?_
  obtain ⟨o3, h⟩ := h
  refine G_sld (ck dc297_15 (i := 38) rfl) o3 ?_
  refine H_vI mf297 (As := [.inl (f ((l3 + 1)).toNat), .inl (f ((l3 + 2)).toNat), .inl (f ((l3 + 3)).toNat)]) (st := []) (ck dc297_15 (i := 39) rfl) lk_Law_126 rfl rfl (Nat.le_of_ble_eq_true rfl) ly0 ra0 ⟨Nat.le_refl _, Nat.le_refl _⟩ h (fun r4 M5 h => ?_)
  refine G_aload_n 2 rfl rfl (ck dc297_15 (i := 40) rfl) ?_
  refine G_aload_n 0 rfl rfl (ck dc297_15 (i := 41) rfl) ?_
  refine G_iload_n 3 rfl rfl (ck dc297_15 (i := 42) rfl) ?_
  refine G_iconst (ck dc297_15 (i := 43) rfl) ?_
  refine G_iadd (ck dc297_15 (i := 44) rfl) ?_
  refine G_sld (ck dc297_15 (i := 45) rfl) o1 ?_
  refine G_aload_n 0 rfl rfl (ck dc297_15 (i := 46) rfl) ?_
  refine G_iload_n 3 rfl rfl (ck dc297_15 (i := 47) rfl) ?_
  refine G_iconst (ck dc297_16 (i := 0) rfl) ?_
  refine G_iadd (ck dc297_16 (i := 1) rfl) ?_
  refine G_sld (ck dc297_16 (i := 2) rfl) o2 ?_
  refine G_aload_n 0 rfl rfl (ck dc297_16 (i := 3) rfl) ?_
  refine G_iload_n 3 rfl rfl (ck dc297_16 (i := 4) rfl) ?_
  refine G_iconst (ck dc297_16 (i := 5) rfl) ?_
  refine G_iadd (ck dc297_16 (i := 6) rfl) ?_
  refine G_sld (ck dc297_16 (i := 7) rfl) o3 ?_
  refine H_vI mf297 (As := [.inl (f ((l3 + 1)).toNat), .inl (f ((l3 + 2)).toNat), .inl (f ((l3 + 3)).toNat)]) (st := [.inl r4]) (ck dc297_16 (i := 8) rfl) lk_Law_129 rfl rfl (Nat.le_of_ble_eq_true rfl) ly52 ra52 ⟨Nat.le_refl _, Nat.le_refl _⟩ h (fun r6 M7 h => ?_)
  obtain ⟨o8, h⟩ := h
  obtain ⟨o9, h⟩ := h
  refine G_icmp_eq (tgt := 1999) (by decide) o8 o9 (ck dc297_16 (i := 9) rfl) (fun c => ?_) (fun c => ?_)
  · replace h := h.1 c
    exact G_sub [0, 1, 2, 3] rfl h
  · replace h := h.2 c
    refine G_iconst (ck dc297_16 (i := 10) rfl) ?_
    exact H_iretZ mf297 (ck dc297_16 (i := 11) rfl) rfl (Or.inl rfl) h
set_option maxHeartbeats 20000000 in
theorem g_law_1184 (K : Nat) (n : Nat) (f : Nat → Int) (l3 : Int) (M : PM) (Q : Option PV → PM → Prop)
    (h : Call K jClearingWaves_steps [.inr (.inr 0)] P0 P0 M (retI fun r1 M2 => Call K jModel_steps [.inr (.inr 52)] P0 P0 M2 (retI fun r3 M4 => R32 r1 ∧ R32 r3 ∧ (r1 = r3 → G (some (n, f)) (K + 1) jLaw_law 1999 [(0, .inr (.inr 1000000)), (1, .inr (.inr 0)), (2, .inr (.inr 52)), (3, .inl l3)] [] P0 P0 M4 Q) ∧ (¬ r1 = r3 → Q (some (.inl 0)) M4)))) : G (some (n, f)) (K + 1) jLaw_law 1184 [(0, .inr (.inr 1000000)), (1, .inr (.inr 0)), (2, .inr (.inr 52)), (3, .inl l3)] [] P0 P0 M Q := by
  refine G_aload_n 1 rfl rfl (ck dc297_16 (i := 12) rfl) ?_
  refine H_vI mf297 (As := []) (st := []) (ck dc297_16 (i := 13) rfl) lk_Law_130 rfl rfl (Nat.le_of_ble_eq_true rfl) ly0 ra0 ⟨Nat.le_refl _, Nat.le_refl _⟩ h (fun r1 M2 h => ?_)
  refine G_aload_n 2 rfl rfl (ck dc297_16 (i := 14) rfl) ?_
  refine H_vI mf297 (As := []) (st := [.inl r1]) (ck dc297_16 (i := 15) rfl) lk_Law_133 rfl rfl (Nat.le_of_ble_eq_true rfl) ly52 ra52 ⟨Nat.le_refl _, Nat.le_refl _⟩ h (fun r3 M4 h => ?_)
  obtain ⟨o5, h⟩ := h
  obtain ⟨o6, h⟩ := h
  refine G_icmp_eq (tgt := 1999) (by decide) o5 o6 (ck dc297_16 (i := 16) rfl) (fun c => ?_) (fun c => ?_)
  · replace h := h.1 c
    exact G_sub [0, 1, 2, 3] rfl h
  · replace h := h.2 c
    refine G_iconst (ck dc297_16 (i := 17) rfl) ?_
    exact H_iretZ mf297 (ck dc297_16 (i := 18) rfl) rfl (Or.inl rfl) h
set_option maxHeartbeats 20000000 in
theorem g_law_1197 (K : Nat) (n : Nat) (f : Nat → Int) (l3 : Int) (M : PM) (Q : Option PV → PM → Prop)
    (h : Call K jClearingWaves_coinFails [.inr (.inr 0)] P0 P0 M (retI fun r1 M2 => Call K jModel_coinFails [.inr (.inr 52)] P0 P0 M2 (retI fun r3 M4 => R32 r1 ∧ R32 r3 ∧ (r1 = r3 → G (some (n, f)) (K + 1) jLaw_law 1999 [(0, .inr (.inr 1000000)), (1, .inr (.inr 0)), (2, .inr (.inr 52)), (3, .inl l3)] [] P0 P0 M4 Q) ∧ (¬ r1 = r3 → Q (some (.inl 0)) M4)))) : G (some (n, f)) (K + 1) jLaw_law 1197 [(0, .inr (.inr 1000000)), (1, .inr (.inr 0)), (2, .inr (.inr 52)), (3, .inl l3)] [] P0 P0 M Q := by
  refine G_aload_n 1 rfl rfl (ck dc297_16 (i := 19) rfl) ?_
  refine H_vI mf297 (As := []) (st := []) (ck dc297_16 (i := 20) rfl) lk_Law_134 rfl rfl (Nat.le_of_ble_eq_true rfl) ly0 ra0 ⟨Nat.le_refl _, Nat.le_refl _⟩ h (fun r1 M2 h => ?_)
  refine G_aload_n 2 rfl rfl (ck dc297_16 (i := 21) rfl) ?_
  refine H_vI mf297 (As := []) (st := [.inl r1]) (ck dc297_16 (i := 22) rfl) lk_Law_137 rfl rfl (Nat.le_of_ble_eq_true rfl) ly52 ra52 ⟨Nat.le_refl _, Nat.le_refl _⟩ h (fun r3 M4 h => ?_)
  obtain ⟨o5, h⟩ := h
  obtain ⟨o6, h⟩ := h
  refine G_icmp_eq (tgt := 1999) (by decide) o5 o6 (ck dc297_16 (i := 23) rfl) (fun c => ?_) (fun c => ?_)
  · replace h := h.1 c
    exact G_sub [0, 1, 2, 3] rfl h
  · replace h := h.2 c
    refine G_iconst (ck dc297_16 (i := 24) rfl) ?_
    exact H_iretZ mf297 (ck dc297_16 (i := 25) rfl) rfl (Or.inl rfl) h
set_option maxHeartbeats 20000000 in
theorem g_law_1210 (K : Nat) (n : Nat) (f : Nat → Int) (l3 : Int) (M : PM) (Q : Option PV → PM → Prop)
    (h : Call K jClearingWaves_gone [.inr (.inr 0)] P0 P0 M (retI fun r1 M2 => Call K jModel_gone [.inr (.inr 52)] P0 P0 M2 (retI fun r3 M4 => R32 r1 ∧ R32 r3 ∧ (r1 = r3 → G (some (n, f)) (K + 1) jLaw_law 1999 [(0, .inr (.inr 1000000)), (1, .inr (.inr 0)), (2, .inr (.inr 52)), (3, .inl l3)] [] P0 P0 M4 Q) ∧ (¬ r1 = r3 → Q (some (.inl 0)) M4)))) : G (some (n, f)) (K + 1) jLaw_law 1210 [(0, .inr (.inr 1000000)), (1, .inr (.inr 0)), (2, .inr (.inr 52)), (3, .inl l3)] [] P0 P0 M Q := by
  refine G_aload_n 1 rfl rfl (ck dc297_16 (i := 26) rfl) ?_
  refine H_vI mf297 (As := []) (st := []) (ck dc297_16 (i := 27) rfl) lk_Law_138 rfl rfl (Nat.le_of_ble_eq_true rfl) ly0 ra0 ⟨Nat.le_refl _, Nat.le_refl _⟩ h (fun r1 M2 h => ?_)
  refine G_aload_n 2 rfl rfl (ck dc297_16 (i := 28) rfl) ?_
  refine H_vI mf297 (As := []) (st := [.inl r1]) (ck dc297_16 (i := 29) rfl) lk_Law_141 rfl rfl (Nat.le_of_ble_eq_true rfl) ly52 ra52 ⟨Nat.le_refl _, Nat.le_refl _⟩ h (fun r3 M4 h => ?_)
  obtain ⟨o5, h⟩ := h
  obtain ⟨o6, h⟩ := h
  refine G_icmp_eq (tgt := 1999) (by decide) o5 o6 (ck dc297_16 (i := 30) rfl) (fun c => ?_) (fun c => ?_)
  · replace h := h.1 c
    exact G_sub [0, 1, 2, 3] rfl h
  · replace h := h.2 c
    refine G_iconst (ck dc297_16 (i := 31) rfl) ?_
    exact H_iretZ mf297 (ck dc297_16 (i := 32) rfl) rfl (Or.inl rfl) h
set_option maxHeartbeats 20000000 in
theorem g_law_1223 (K : Nat) (n : Nat) (f : Nat → Int) (l3 : Int) (M : PM) (Q : Option PV → PM → Prop)
    (h : (0 ≤ (l3 + 1) ∧ (l3 + 1) < (n : Int)) ∧ (0 ≤ (l3 + 2) ∧ (l3 + 2) < (n : Int)) ∧ Call K jClearingWaves_saved [.inr (.inr 0), .inl (f ((l3 + 1)).toNat), .inl (f ((l3 + 2)).toNat)] P0 P0 M (retI fun r3 M4 => Call K jModel_saved [.inr (.inr 52), .inl (f ((l3 + 1)).toNat), .inl (f ((l3 + 2)).toNat)] P0 P0 M4 (retI fun r5 M6 => R32 r3 ∧ R32 r5 ∧ (r3 = r5 → G (some (n, f)) (K + 1) jLaw_law 1999 [(0, .inr (.inr 1000000)), (1, .inr (.inr 0)), (2, .inr (.inr 52)), (3, .inl l3)] [] P0 P0 M6 Q) ∧ (¬ r3 = r5 → Q (some (.inl 0)) M6)))) : G (some (n, f)) (K + 1) jLaw_law 1223 [(0, .inr (.inr 1000000)), (1, .inr (.inr 0)), (2, .inr (.inr 52)), (3, .inl l3)] [] P0 P0 M Q := by
  refine G_aload_n 1 rfl rfl (ck dc297_16 (i := 33) rfl) ?_
  refine G_aload_n 0 rfl rfl (ck dc297_16 (i := 34) rfl) ?_
  refine G_iload_n 3 rfl rfl (ck dc297_16 (i := 35) rfl) ?_
  refine G_iconst (ck dc297_16 (i := 36) rfl) ?_
  refine G_iadd (ck dc297_16 (i := 37) rfl) ?_
  obtain ⟨o1, h⟩ := h
  refine G_sld (ck dc297_16 (i := 38) rfl) o1 ?_
  refine G_aload_n 0 rfl rfl (ck dc297_16 (i := 39) rfl) ?_
  refine G_iload_n 3 rfl rfl (ck dc297_16 (i := 40) rfl) ?_
  refine G_iconst (ck dc297_16 (i := 41) rfl) ?_
  refine G_iadd (ck dc297_16 (i := 42) rfl) ?_
  obtain ⟨o2, h⟩ := h
  refine G_sld (ck dc297_16 (i := 43) rfl) o2 ?_
  refine H_vI mf297 (As := [.inl (f ((l3 + 1)).toNat), .inl (f ((l3 + 2)).toNat)]) (st := []) (ck dc297_16 (i := 44) rfl) lk_Law_142 rfl rfl (Nat.le_of_ble_eq_true rfl) ly0 ra0 ⟨Nat.le_refl _, Nat.le_refl _⟩ h (fun r3 M4 h => ?_)
  refine G_aload_n 2 rfl rfl (ck dc297_16 (i := 45) rfl) ?_
  refine G_aload_n 0 rfl rfl (ck dc297_16 (i := 46) rfl) ?_
  refine G_iload_n 3 rfl rfl (ck dc297_16 (i := 47) rfl) ?_
  refine G_iconst (ck dc297_17 (i := 0) rfl) ?_
  refine G_iadd (ck dc297_17 (i := 1) rfl) ?_
  refine G_sld (ck dc297_17 (i := 2) rfl) o1 ?_
  refine G_aload_n 0 rfl rfl (ck dc297_17 (i := 3) rfl) ?_
  refine G_iload_n 3 rfl rfl (ck dc297_17 (i := 4) rfl) ?_
  refine G_iconst (ck dc297_17 (i := 5) rfl) ?_
  refine G_iadd (ck dc297_17 (i := 6) rfl) ?_
  refine G_sld (ck dc297_17 (i := 7) rfl) o2 ?_
  refine H_vI mf297 (As := [.inl (f ((l3 + 1)).toNat), .inl (f ((l3 + 2)).toNat)]) (st := [.inl r3]) (ck dc297_17 (i := 8) rfl) lk_Law_145 rfl rfl (Nat.le_of_ble_eq_true rfl) ly52 ra52 ⟨Nat.le_refl _, Nat.le_refl _⟩ h (fun r5 M6 h => ?_)
  obtain ⟨o7, h⟩ := h
  obtain ⟨o8, h⟩ := h
  refine G_icmp_eq (tgt := 1999) (by decide) o7 o8 (ck dc297_17 (i := 9) rfl) (fun c => ?_) (fun c => ?_)
  · replace h := h.1 c
    exact G_sub [0, 1, 2, 3] rfl h
  · replace h := h.2 c
    refine G_iconst (ck dc297_17 (i := 10) rfl) ?_
    exact H_iretZ mf297 (ck dc297_17 (i := 11) rfl) rfl (Or.inl rfl) h
set_option maxHeartbeats 20000000 in
theorem g_law_1256 (K : Nat) (n : Nat) (f : Nat → Int) (l3 : Int) (M : PM) (Q : Option PV → PM → Prop)
    (h : (0 ≤ (l3 + 1) ∧ (l3 + 1) < (n : Int)) ∧ (0 ≤ (l3 + 2) ∧ (l3 + 2) < (n : Int)) ∧ Call K jClearingWaves_struck [.inr (.inr 0), .inl (f ((l3 + 1)).toNat), .inl (f ((l3 + 2)).toNat)] P0 P0 M (retI fun r3 M4 => Call K jModel_struck [.inr (.inr 52), .inl (f ((l3 + 1)).toNat), .inl (f ((l3 + 2)).toNat)] P0 P0 M4 (retI fun r5 M6 => R32 r3 ∧ R32 r5 ∧ (r3 = r5 → G (some (n, f)) (K + 1) jLaw_law 1999 [(0, .inr (.inr 1000000)), (1, .inr (.inr 0)), (2, .inr (.inr 52)), (3, .inl l3)] [] P0 P0 M6 Q) ∧ (¬ r3 = r5 → Q (some (.inl 0)) M6)))) : G (some (n, f)) (K + 1) jLaw_law 1256 [(0, .inr (.inr 1000000)), (1, .inr (.inr 0)), (2, .inr (.inr 52)), (3, .inl l3)] [] P0 P0 M Q := by
  refine G_aload_n 1 rfl rfl (ck dc297_17 (i := 12) rfl) ?_
  refine G_aload_n 0 rfl rfl (ck dc297_17 (i := 13) rfl) ?_
  refine G_iload_n 3 rfl rfl (ck dc297_17 (i := 14) rfl) ?_
  refine G_iconst (ck dc297_17 (i := 15) rfl) ?_
  refine G_iadd (ck dc297_17 (i := 16) rfl) ?_
  obtain ⟨o1, h⟩ := h
  refine G_sld (ck dc297_17 (i := 17) rfl) o1 ?_
  refine G_aload_n 0 rfl rfl (ck dc297_17 (i := 18) rfl) ?_
  refine G_iload_n 3 rfl rfl (ck dc297_17 (i := 19) rfl) ?_
  refine G_iconst (ck dc297_17 (i := 20) rfl) ?_
  refine G_iadd (ck dc297_17 (i := 21) rfl) ?_
  obtain ⟨o2, h⟩ := h
  refine G_sld (ck dc297_17 (i := 22) rfl) o2 ?_
  refine H_vI mf297 (As := [.inl (f ((l3 + 1)).toNat), .inl (f ((l3 + 2)).toNat)]) (st := []) (ck dc297_17 (i := 23) rfl) lk_Law_146 rfl rfl (Nat.le_of_ble_eq_true rfl) ly0 ra0 ⟨Nat.le_refl _, Nat.le_refl _⟩ h (fun r3 M4 h => ?_)
  refine G_aload_n 2 rfl rfl (ck dc297_17 (i := 24) rfl) ?_
  refine G_aload_n 0 rfl rfl (ck dc297_17 (i := 25) rfl) ?_
  refine G_iload_n 3 rfl rfl (ck dc297_17 (i := 26) rfl) ?_
  refine G_iconst (ck dc297_17 (i := 27) rfl) ?_
  refine G_iadd (ck dc297_17 (i := 28) rfl) ?_
  refine G_sld (ck dc297_17 (i := 29) rfl) o1 ?_
  refine G_aload_n 0 rfl rfl (ck dc297_17 (i := 30) rfl) ?_
  refine G_iload_n 3 rfl rfl (ck dc297_17 (i := 31) rfl) ?_
  refine G_iconst (ck dc297_17 (i := 32) rfl) ?_
  refine G_iadd (ck dc297_17 (i := 33) rfl) ?_
  refine G_sld (ck dc297_17 (i := 34) rfl) o2 ?_
  refine H_vI mf297 (As := [.inl (f ((l3 + 1)).toNat), .inl (f ((l3 + 2)).toNat)]) (st := [.inl r3]) (ck dc297_17 (i := 35) rfl) lk_Law_149 rfl rfl (Nat.le_of_ble_eq_true rfl) ly52 ra52 ⟨Nat.le_refl _, Nat.le_refl _⟩ h (fun r5 M6 h => ?_)
  obtain ⟨o7, h⟩ := h
  obtain ⟨o8, h⟩ := h
  refine G_icmp_eq (tgt := 1999) (by decide) o7 o8 (ck dc297_17 (i := 36) rfl) (fun c => ?_) (fun c => ?_)
  · replace h := h.1 c
    exact G_sub [0, 1, 2, 3] rfl h
  · replace h := h.2 c
    refine G_iconst (ck dc297_17 (i := 37) rfl) ?_
    exact H_iretZ mf297 (ck dc297_17 (i := 38) rfl) rfl (Or.inl rfl) h
set_option maxHeartbeats 20000000 in
theorem g_law_1289 (K : Nat) (n : Nat) (f : Nat → Int) (l3 : Int) (M : PM) (Q : Option PV → PM → Prop)
    (h : (0 ≤ (l3 + 1) ∧ (l3 + 1) < (n : Int)) ∧ (0 ≤ (l3 + 2) ∧ (l3 + 2) < (n : Int)) ∧ Call K jClearingWaves_saves [.inr (.inr 0), .inl (f ((l3 + 1)).toNat), .inl (f ((l3 + 2)).toNat)] P0 P0 M (retI fun r3 M4 => Call K jModel_saves [.inr (.inr 52), .inl (f ((l3 + 1)).toNat), .inl (f ((l3 + 2)).toNat)] P0 P0 M4 (retI fun r5 M6 => R32 r3 ∧ R32 r5 ∧ (r3 = r5 → G (some (n, f)) (K + 1) jLaw_law 1999 [(0, .inr (.inr 1000000)), (1, .inr (.inr 0)), (2, .inr (.inr 52)), (3, .inl l3)] [] P0 P0 M6 Q) ∧ (¬ r3 = r5 → Q (some (.inl 0)) M6)))) : G (some (n, f)) (K + 1) jLaw_law 1289 [(0, .inr (.inr 1000000)), (1, .inr (.inr 0)), (2, .inr (.inr 52)), (3, .inl l3)] [] P0 P0 M Q := by
  refine G_aload_n 1 rfl rfl (ck dc297_17 (i := 39) rfl) ?_
  refine G_aload_n 0 rfl rfl (ck dc297_17 (i := 40) rfl) ?_
  refine G_iload_n 3 rfl rfl (ck dc297_17 (i := 41) rfl) ?_
  refine G_iconst (ck dc297_17 (i := 42) rfl) ?_
  refine G_iadd (ck dc297_17 (i := 43) rfl) ?_
  obtain ⟨o1, h⟩ := h
  refine G_sld (ck dc297_17 (i := 44) rfl) o1 ?_
  refine G_aload_n 0 rfl rfl (ck dc297_17 (i := 45) rfl) ?_
  refine G_iload_n 3 rfl rfl (ck dc297_17 (i := 46) rfl) ?_
  refine G_iconst (ck dc297_17 (i := 47) rfl) ?_
  refine G_iadd (ck dc297_18 (i := 0) rfl) ?_
  obtain ⟨o2, h⟩ := h
  refine G_sld (ck dc297_18 (i := 1) rfl) o2 ?_
  refine H_vI mf297 (As := [.inl (f ((l3 + 1)).toNat), .inl (f ((l3 + 2)).toNat)]) (st := []) (ck dc297_18 (i := 2) rfl) lk_Law_150 rfl rfl (Nat.le_of_ble_eq_true rfl) ly0 ra0 ⟨Nat.le_refl _, Nat.le_refl _⟩ h (fun r3 M4 h => ?_)
  refine G_aload_n 2 rfl rfl (ck dc297_18 (i := 3) rfl) ?_
  refine G_aload_n 0 rfl rfl (ck dc297_18 (i := 4) rfl) ?_
  refine G_iload_n 3 rfl rfl (ck dc297_18 (i := 5) rfl) ?_
  refine G_iconst (ck dc297_18 (i := 6) rfl) ?_
  refine G_iadd (ck dc297_18 (i := 7) rfl) ?_
  refine G_sld (ck dc297_18 (i := 8) rfl) o1 ?_
  refine G_aload_n 0 rfl rfl (ck dc297_18 (i := 9) rfl) ?_
  refine G_iload_n 3 rfl rfl (ck dc297_18 (i := 10) rfl) ?_
  refine G_iconst (ck dc297_18 (i := 11) rfl) ?_
  refine G_iadd (ck dc297_18 (i := 12) rfl) ?_
  refine G_sld (ck dc297_18 (i := 13) rfl) o2 ?_
  refine H_vI mf297 (As := [.inl (f ((l3 + 1)).toNat), .inl (f ((l3 + 2)).toNat)]) (st := [.inl r3]) (ck dc297_18 (i := 14) rfl) lk_Law_153 rfl rfl (Nat.le_of_ble_eq_true rfl) ly52 ra52 ⟨Nat.le_refl _, Nat.le_refl _⟩ h (fun r5 M6 h => ?_)
  obtain ⟨o7, h⟩ := h
  obtain ⟨o8, h⟩ := h
  refine G_icmp_eq (tgt := 1999) (by decide) o7 o8 (ck dc297_18 (i := 15) rfl) (fun c => ?_) (fun c => ?_)
  · replace h := h.1 c
    exact G_sub [0, 1, 2, 3] rfl h
  · replace h := h.2 c
    refine G_iconst (ck dc297_18 (i := 16) rfl) ?_
    exact H_iretZ mf297 (ck dc297_18 (i := 17) rfl) rfl (Or.inl rfl) h
set_option maxHeartbeats 20000000 in
theorem g_law_1322 (K : Nat) (n : Nat) (f : Nat → Int) (l3 : Int) (M : PM) (Q : Option PV → PM → Prop)
    (h : (0 ≤ (l3 + 1) ∧ (l3 + 1) < (n : Int)) ∧ (0 ≤ (l3 + 2) ∧ (l3 + 2) < (n : Int)) ∧ Call K jClearingWaves_needs [.inr (.inr 0), .inl (f ((l3 + 1)).toNat), .inl (f ((l3 + 2)).toNat)] P0 P0 M (retI fun r3 M4 => Call K jModel_needs [.inr (.inr 52), .inl (f ((l3 + 1)).toNat), .inl (f ((l3 + 2)).toNat)] P0 P0 M4 (retI fun r5 M6 => R32 r3 ∧ R32 r5 ∧ (r3 = r5 → G (some (n, f)) (K + 1) jLaw_law 1999 [(0, .inr (.inr 1000000)), (1, .inr (.inr 0)), (2, .inr (.inr 52)), (3, .inl l3)] [] P0 P0 M6 Q) ∧ (¬ r3 = r5 → Q (some (.inl 0)) M6)))) : G (some (n, f)) (K + 1) jLaw_law 1322 [(0, .inr (.inr 1000000)), (1, .inr (.inr 0)), (2, .inr (.inr 52)), (3, .inl l3)] [] P0 P0 M Q := by
  refine G_aload_n 1 rfl rfl (ck dc297_18 (i := 18) rfl) ?_
  refine G_aload_n 0 rfl rfl (ck dc297_18 (i := 19) rfl) ?_
  refine G_iload_n 3 rfl rfl (ck dc297_18 (i := 20) rfl) ?_
  refine G_iconst (ck dc297_18 (i := 21) rfl) ?_
  refine G_iadd (ck dc297_18 (i := 22) rfl) ?_
  obtain ⟨o1, h⟩ := h
  refine G_sld (ck dc297_18 (i := 23) rfl) o1 ?_
  refine G_aload_n 0 rfl rfl (ck dc297_18 (i := 24) rfl) ?_
  refine G_iload_n 3 rfl rfl (ck dc297_18 (i := 25) rfl) ?_
  refine G_iconst (ck dc297_18 (i := 26) rfl) ?_
  refine G_iadd (ck dc297_18 (i := 27) rfl) ?_
  obtain ⟨o2, h⟩ := h
  refine G_sld (ck dc297_18 (i := 28) rfl) o2 ?_
  refine H_vI mf297 (As := [.inl (f ((l3 + 1)).toNat), .inl (f ((l3 + 2)).toNat)]) (st := []) (ck dc297_18 (i := 29) rfl) lk_Law_154 rfl rfl (Nat.le_of_ble_eq_true rfl) ly0 ra0 ⟨Nat.le_refl _, Nat.le_refl _⟩ h (fun r3 M4 h => ?_)
  refine G_aload_n 2 rfl rfl (ck dc297_18 (i := 30) rfl) ?_
  refine G_aload_n 0 rfl rfl (ck dc297_18 (i := 31) rfl) ?_
  refine G_iload_n 3 rfl rfl (ck dc297_18 (i := 32) rfl) ?_
  refine G_iconst (ck dc297_18 (i := 33) rfl) ?_
  refine G_iadd (ck dc297_18 (i := 34) rfl) ?_
  refine G_sld (ck dc297_18 (i := 35) rfl) o1 ?_
  refine G_aload_n 0 rfl rfl (ck dc297_18 (i := 36) rfl) ?_
  refine G_iload_n 3 rfl rfl (ck dc297_18 (i := 37) rfl) ?_
  refine G_iconst (ck dc297_18 (i := 38) rfl) ?_
  refine G_iadd (ck dc297_18 (i := 39) rfl) ?_
  refine G_sld (ck dc297_18 (i := 40) rfl) o2 ?_
  refine H_vI mf297 (As := [.inl (f ((l3 + 1)).toNat), .inl (f ((l3 + 2)).toNat)]) (st := [.inl r3]) (ck dc297_18 (i := 41) rfl) lk_Law_157 rfl rfl (Nat.le_of_ble_eq_true rfl) ly52 ra52 ⟨Nat.le_refl _, Nat.le_refl _⟩ h (fun r5 M6 h => ?_)
  obtain ⟨o7, h⟩ := h
  obtain ⟨o8, h⟩ := h
  refine G_icmp_eq (tgt := 1999) (by decide) o7 o8 (ck dc297_18 (i := 42) rfl) (fun c => ?_) (fun c => ?_)
  · replace h := h.1 c
    exact G_sub [0, 1, 2, 3] rfl h
  · replace h := h.2 c
    refine G_iconst (ck dc297_18 (i := 43) rfl) ?_
    exact H_iretZ mf297 (ck dc297_18 (i := 44) rfl) rfl (Or.inl rfl) h
set_option maxHeartbeats 20000000 in
theorem g_law_1355 (K : Nat) (n : Nat) (f : Nat → Int) (l3 : Int) (M : PM) (Q : Option PV → PM → Prop)
    (h : (0 ≤ (l3 + 1) ∧ (l3 + 1) < (n : Int)) ∧ Call K jClearingWaves_calms [.inr (.inr 0), .inl (f ((l3 + 1)).toNat)] P0 P0 M (retI fun r2 M3 => Call K jModel_calms [.inr (.inr 52), .inl (f ((l3 + 1)).toNat)] P0 P0 M3 (retI fun r4 M5 => R32 r2 ∧ R32 r4 ∧ (r2 = r4 → G (some (n, f)) (K + 1) jLaw_law 1999 [(0, .inr (.inr 1000000)), (1, .inr (.inr 0)), (2, .inr (.inr 52)), (3, .inl l3)] [] P0 P0 M5 Q) ∧ (¬ r2 = r4 → Q (some (.inl 0)) M5)))) : G (some (n, f)) (K + 1) jLaw_law 1355 [(0, .inr (.inr 1000000)), (1, .inr (.inr 0)), (2, .inr (.inr 52)), (3, .inl l3)] [] P0 P0 M Q := by
  refine G_aload_n 1 rfl rfl (ck dc297_18 (i := 45) rfl) ?_
  refine G_aload_n 0 rfl rfl (ck dc297_18 (i := 46) rfl) ?_
  refine G_iload_n 3 rfl rfl (ck dc297_18 (i := 47) rfl) ?_
  refine G_iconst (ck dc297_19 (i := 0) rfl) ?_
  refine G_iadd (ck dc297_19 (i := 1) rfl) ?_
  obtain ⟨o1, h⟩ := h
  refine G_sld (ck dc297_19 (i := 2) rfl) o1 ?_
  refine H_vI mf297 (As := [.inl (f ((l3 + 1)).toNat)]) (st := []) (ck dc297_19 (i := 3) rfl) lk_Law_158 rfl rfl (Nat.le_of_ble_eq_true rfl) ly0 ra0 ⟨Nat.le_refl _, Nat.le_refl _⟩ h (fun r2 M3 h => ?_)
  refine G_aload_n 2 rfl rfl (ck dc297_19 (i := 4) rfl) ?_
  refine G_aload_n 0 rfl rfl (ck dc297_19 (i := 5) rfl) ?_
  refine G_iload_n 3 rfl rfl (ck dc297_19 (i := 6) rfl) ?_
  refine G_iconst (ck dc297_19 (i := 7) rfl) ?_
  refine G_iadd (ck dc297_19 (i := 8) rfl) ?_
  refine G_sld (ck dc297_19 (i := 9) rfl) o1 ?_
  refine H_vI mf297 (As := [.inl (f ((l3 + 1)).toNat)]) (st := [.inl r2]) (ck dc297_19 (i := 10) rfl) lk_Law_161 rfl rfl (Nat.le_of_ble_eq_true rfl) ly52 ra52 ⟨Nat.le_refl _, Nat.le_refl _⟩ h (fun r4 M5 h => ?_)
  obtain ⟨o6, h⟩ := h
  obtain ⟨o7, h⟩ := h
  refine G_icmp_eq (tgt := 1999) (by decide) o6 o7 (ck dc297_19 (i := 11) rfl) (fun c => ?_) (fun c => ?_)
  · replace h := h.1 c
    exact G_sub [0, 1, 2, 3] rfl h
  · replace h := h.2 c
    refine G_iconst (ck dc297_19 (i := 12) rfl) ?_
    exact H_iretZ mf297 (ck dc297_19 (i := 13) rfl) rfl (Or.inl rfl) h
set_option maxHeartbeats 20000000 in
theorem g_law_1378 (K : Nat) (n : Nat) (f : Nat → Int) (l3 : Int) (M : PM) (Q : Option PV → PM → Prop)
    (h : Call K jClearingWaves_danger [.inr (.inr 0)] P0 P0 M (retI fun r1 M2 => Call K jModel_danger [.inr (.inr 52)] P0 P0 M2 (retI fun r3 M4 => R32 r1 ∧ R32 r3 ∧ (r1 = r3 → G (some (n, f)) (K + 1) jLaw_law 1999 [(0, .inr (.inr 1000000)), (1, .inr (.inr 0)), (2, .inr (.inr 52)), (3, .inl l3)] [] P0 P0 M4 Q) ∧ (¬ r1 = r3 → Q (some (.inl 0)) M4)))) : G (some (n, f)) (K + 1) jLaw_law 1378 [(0, .inr (.inr 1000000)), (1, .inr (.inr 0)), (2, .inr (.inr 52)), (3, .inl l3)] [] P0 P0 M Q := by
  refine G_aload_n 1 rfl rfl (ck dc297_19 (i := 14) rfl) ?_
  refine H_vI mf297 (As := []) (st := []) (ck dc297_19 (i := 15) rfl) lk_Law_162 rfl rfl (Nat.le_of_ble_eq_true rfl) ly0 ra0 ⟨Nat.le_refl _, Nat.le_refl _⟩ h (fun r1 M2 h => ?_)
  refine G_aload_n 2 rfl rfl (ck dc297_19 (i := 16) rfl) ?_
  refine H_vI mf297 (As := []) (st := [.inl r1]) (ck dc297_19 (i := 17) rfl) lk_Law_165 rfl rfl (Nat.le_of_ble_eq_true rfl) ly52 ra52 ⟨Nat.le_refl _, Nat.le_refl _⟩ h (fun r3 M4 h => ?_)
  obtain ⟨o5, h⟩ := h
  obtain ⟨o6, h⟩ := h
  refine G_icmp_eq (tgt := 1999) (by decide) o5 o6 (ck dc297_19 (i := 18) rfl) (fun c => ?_) (fun c => ?_)
  · replace h := h.1 c
    exact G_sub [0, 1, 2, 3] rfl h
  · replace h := h.2 c
    refine G_iconst (ck dc297_19 (i := 19) rfl) ?_
    exact H_iretZ mf297 (ck dc297_19 (i := 20) rfl) rfl (Or.inl rfl) h
set_option maxHeartbeats 20000000 in
theorem g_law_1391 (K : Nat) (n : Nat) (f : Nat → Int) (l3 : Int) (M : PM) (Q : Option PV → PM → Prop)
    (h : (0 ≤ (l3 + 1) ∧ (l3 + 1) < (n : Int)) ∧ (0 ≤ (l3 + 2) ∧ (l3 + 2) < (n : Int)) ∧ (0 ≤ (l3 + 3) ∧ (l3 + 3) < (n : Int)) ∧ (0 ≤ (l3 + 4) ∧ (l3 + 4) < (n : Int)) ∧ (0 ≤ (l3 + 5) ∧ (l3 + 5) < (n : Int)) ∧ Call K jClearingWaves_rescue [.inr (.inr 0), .inl (f ((l3 + 1)).toNat), .inl (f ((l3 + 2)).toNat), .inl (f ((l3 + 3)).toNat), .inl (f ((l3 + 4)).toNat), .inl (f ((l3 + 5)).toNat)] P0 P0 M (retI fun r6 M7 => Call K jModel_rescue [.inr (.inr 52), .inl (f ((l3 + 1)).toNat), .inl (f ((l3 + 2)).toNat), .inl (f ((l3 + 3)).toNat), .inl (f ((l3 + 4)).toNat), .inl (f ((l3 + 5)).toNat)] P0 P0 M7 (retI fun r8 M9 => R32 r6 ∧ R32 r8 ∧ (r6 = r8 → G (some (n, f)) (K + 1) jLaw_law 1999 [(0, .inr (.inr 1000000)), (1, .inr (.inr 0)), (2, .inr (.inr 52)), (3, .inl l3)] [] P0 P0 M9 Q) ∧ (¬ r6 = r8 → Q (some (.inl 0)) M9)))) : G (some (n, f)) (K + 1) jLaw_law 1391 [(0, .inr (.inr 1000000)), (1, .inr (.inr 0)), (2, .inr (.inr 52)), (3, .inl l3)] [] P0 P0 M Q := by
  refine G_aload_n 1 rfl rfl (ck dc297_19 (i := 21) rfl) ?_
  refine G_aload_n 0 rfl rfl (ck dc297_19 (i := 22) rfl) ?_
  refine G_iload_n 3 rfl rfl (ck dc297_19 (i := 23) rfl) ?_
  refine G_iconst (ck dc297_19 (i := 24) rfl) ?_
  refine G_iadd (ck dc297_19 (i := 25) rfl) ?_
  obtain ⟨o1, h⟩ := h
  refine G_sld (ck dc297_19 (i := 26) rfl) o1 ?_
  refine G_aload_n 0 rfl rfl (ck dc297_19 (i := 27) rfl) ?_
  refine G_iload_n 3 rfl rfl (ck dc297_19 (i := 28) rfl) ?_
  refine G_iconst (ck dc297_19 (i := 29) rfl) ?_
  refine G_iadd (ck dc297_19 (i := 30) rfl) ?_
  obtain ⟨o2, h⟩ := h
  refine G_sld (ck dc297_19 (i := 31) rfl) o2 ?_
  refine G_aload_n 0 rfl rfl (ck dc297_19 (i := 32) rfl) ?_
  refine G_iload_n 3 rfl rfl (ck dc297_19 (i := 33) rfl) ?_
  refine G_iconst (ck dc297_19 (i := 34) rfl) ?_
  refine G_iadd (ck dc297_19 (i := 35) rfl) ?_
  obtain ⟨o3, h⟩ := h
  refine G_sld (ck dc297_19 (i := 36) rfl) o3 ?_
  refine G_aload_n 0 rfl rfl (ck dc297_19 (i := 37) rfl) ?_
  refine G_iload_n 3 rfl rfl (ck dc297_19 (i := 38) rfl) ?_
  refine G_iconst (ck dc297_19 (i := 39) rfl) ?_
  refine G_iadd (ck dc297_19 (i := 40) rfl) ?_
  obtain ⟨o4, h⟩ := h
  refine G_sld (ck dc297_19 (i := 41) rfl) o4 ?_
  refine G_aload_n 0 rfl rfl (ck dc297_19 (i := 42) rfl) ?_
  refine G_iload_n 3 rfl rfl (ck dc297_19 (i := 43) rfl) ?_
  refine G_iconst (ck dc297_19 (i := 44) rfl) ?_
  refine G_iadd (ck dc297_19 (i := 45) rfl) ?_
  obtain ⟨o5, h⟩ := h
  refine G_sld (ck dc297_19 (i := 46) rfl) o5 ?_
  refine H_vI mf297 (As := [.inl (f ((l3 + 1)).toNat), .inl (f ((l3 + 2)).toNat), .inl (f ((l3 + 3)).toNat), .inl (f ((l3 + 4)).toNat), .inl (f ((l3 + 5)).toNat)]) (st := []) (ck dc297_19 (i := 47) rfl) lk_Law_166 rfl rfl (Nat.le_of_ble_eq_true rfl) ly0 ra0 ⟨Nat.le_refl _, Nat.le_refl _⟩ h (fun r6 M7 h => ?_)
  refine G_aload_n 2 rfl rfl (ck dc297_20 (i := 0) rfl) ?_
  refine G_aload_n 0 rfl rfl (ck dc297_20 (i := 1) rfl) ?_
  refine G_iload_n 3 rfl rfl (ck dc297_20 (i := 2) rfl) ?_
  refine G_iconst (ck dc297_20 (i := 3) rfl) ?_
  refine G_iadd (ck dc297_20 (i := 4) rfl) ?_
  refine G_sld (ck dc297_20 (i := 5) rfl) o1 ?_
  refine G_aload_n 0 rfl rfl (ck dc297_20 (i := 6) rfl) ?_
  refine G_iload_n 3 rfl rfl (ck dc297_20 (i := 7) rfl) ?_
  refine G_iconst (ck dc297_20 (i := 8) rfl) ?_
  refine G_iadd (ck dc297_20 (i := 9) rfl) ?_
  refine G_sld (ck dc297_20 (i := 10) rfl) o2 ?_
  refine G_aload_n 0 rfl rfl (ck dc297_20 (i := 11) rfl) ?_
  refine G_iload_n 3 rfl rfl (ck dc297_20 (i := 12) rfl) ?_
  refine G_iconst (ck dc297_20 (i := 13) rfl) ?_
  refine G_iadd (ck dc297_20 (i := 14) rfl) ?_
  refine G_sld (ck dc297_20 (i := 15) rfl) o3 ?_
  refine G_aload_n 0 rfl rfl (ck dc297_20 (i := 16) rfl) ?_
  refine G_iload_n 3 rfl rfl (ck dc297_20 (i := 17) rfl) ?_
  refine G_iconst (ck dc297_20 (i := 18) rfl) ?_
  refine G_iadd (ck dc297_20 (i := 19) rfl) ?_
  refine G_sld (ck dc297_20 (i := 20) rfl) o4 ?_
  refine G_aload_n 0 rfl rfl (ck dc297_20 (i := 21) rfl) ?_
  refine G_iload_n 3 rfl rfl (ck dc297_20 (i := 22) rfl) ?_
  refine G_iconst (ck dc297_20 (i := 23) rfl) ?_
  refine G_iadd (ck dc297_20 (i := 24) rfl) ?_
  refine G_sld (ck dc297_20 (i := 25) rfl) o5 ?_
  refine H_vI mf297 (As := [.inl (f ((l3 + 1)).toNat), .inl (f ((l3 + 2)).toNat), .inl (f ((l3 + 3)).toNat), .inl (f ((l3 + 4)).toNat), .inl (f ((l3 + 5)).toNat)]) (st := [.inl r6]) (ck dc297_20 (i := 26) rfl) lk_Law_169 rfl rfl (Nat.le_of_ble_eq_true rfl) ly52 ra52 ⟨Nat.le_refl _, Nat.le_refl _⟩ h (fun r8 M9 h => ?_)
  obtain ⟨o10, h⟩ := h
  obtain ⟨o11, h⟩ := h
  refine G_icmp_eq (tgt := 1999) (by decide) o10 o11 (ck dc297_20 (i := 27) rfl) (fun c => ?_) (fun c => ?_)
  · replace h := h.1 c
    exact G_sub [0, 1, 2, 3] rfl h
  · replace h := h.2 c
    refine G_iconst (ck dc297_20 (i := 28) rfl) ?_
    exact H_iretZ mf297 (ck dc297_20 (i := 29) rfl) rfl (Or.inl rfl) h
set_option maxHeartbeats 20000000 in
theorem g_law_1454 (K : Nat) (n : Nat) (f : Nat → Int) (l3 : Int) (M : PM) (Q : Option PV → PM → Prop)
    (h : (0 ≤ (l3 + 1) ∧ (l3 + 1) < (n : Int)) ∧ (0 ≤ (l3 + 2) ∧ (l3 + 2) < (n : Int)) ∧ Call K jClearingWaves_ring [.inr (.inr 0), .inl (f ((l3 + 1)).toNat), .inl (f ((l3 + 2)).toNat)] P0 P0 M (retI fun r3 M4 => Call K jModel_ring [.inr (.inr 52), .inl (f ((l3 + 1)).toNat), .inl (f ((l3 + 2)).toNat)] P0 P0 M4 (retI fun r5 M6 => R32 r3 ∧ R32 r5 ∧ (r3 = r5 → G (some (n, f)) (K + 1) jLaw_law 1999 [(0, .inr (.inr 1000000)), (1, .inr (.inr 0)), (2, .inr (.inr 52)), (3, .inl l3)] [] P0 P0 M6 Q) ∧ (¬ r3 = r5 → Q (some (.inl 0)) M6)))) : G (some (n, f)) (K + 1) jLaw_law 1454 [(0, .inr (.inr 1000000)), (1, .inr (.inr 0)), (2, .inr (.inr 52)), (3, .inl l3)] [] P0 P0 M Q := by
  refine G_aload_n 1 rfl rfl (ck dc297_20 (i := 30) rfl) ?_
  refine G_aload_n 0 rfl rfl (ck dc297_20 (i := 31) rfl) ?_
  refine G_iload_n 3 rfl rfl (ck dc297_20 (i := 32) rfl) ?_
  refine G_iconst (ck dc297_20 (i := 33) rfl) ?_
  refine G_iadd (ck dc297_20 (i := 34) rfl) ?_
  obtain ⟨o1, h⟩ := h
  refine G_sld (ck dc297_20 (i := 35) rfl) o1 ?_
  refine G_aload_n 0 rfl rfl (ck dc297_20 (i := 36) rfl) ?_
  refine G_iload_n 3 rfl rfl (ck dc297_20 (i := 37) rfl) ?_
  refine G_iconst (ck dc297_20 (i := 38) rfl) ?_
  refine G_iadd (ck dc297_20 (i := 39) rfl) ?_
  obtain ⟨o2, h⟩ := h
  refine G_sld (ck dc297_20 (i := 40) rfl) o2 ?_
  refine H_vI mf297 (As := [.inl (f ((l3 + 1)).toNat), .inl (f ((l3 + 2)).toNat)]) (st := []) (ck dc297_20 (i := 41) rfl) lk_Law_170 rfl rfl (Nat.le_of_ble_eq_true rfl) ly0 ra0 ⟨Nat.le_refl _, Nat.le_refl _⟩ h (fun r3 M4 h => ?_)
  refine G_aload_n 2 rfl rfl (ck dc297_20 (i := 42) rfl) ?_
  refine G_aload_n 0 rfl rfl (ck dc297_20 (i := 43) rfl) ?_
  refine G_iload_n 3 rfl rfl (ck dc297_20 (i := 44) rfl) ?_
  refine G_iconst (ck dc297_20 (i := 45) rfl) ?_
  refine G_iadd (ck dc297_20 (i := 46) rfl) ?_
  refine G_sld (ck dc297_20 (i := 47) rfl) o1 ?_
  refine G_aload_n 0 rfl rfl (ck dc297_21 (i := 0) rfl) ?_
  refine G_iload_n 3 rfl rfl (ck dc297_21 (i := 1) rfl) ?_
  refine G_iconst (ck dc297_21 (i := 2) rfl) ?_
  refine G_iadd (ck dc297_21 (i := 3) rfl) ?_
  refine G_sld (ck dc297_21 (i := 4) rfl) o2 ?_
  refine H_vI mf297 (As := [.inl (f ((l3 + 1)).toNat), .inl (f ((l3 + 2)).toNat)]) (st := [.inl r3]) (ck dc297_21 (i := 5) rfl) lk_Law_173 rfl rfl (Nat.le_of_ble_eq_true rfl) ly52 ra52 ⟨Nat.le_refl _, Nat.le_refl _⟩ h (fun r5 M6 h => ?_)
  obtain ⟨o7, h⟩ := h
  obtain ⟨o8, h⟩ := h
  refine G_icmp_eq (tgt := 1999) (by decide) o7 o8 (ck dc297_21 (i := 6) rfl) (fun c => ?_) (fun c => ?_)
  · replace h := h.1 c
    exact G_sub [0, 1, 2, 3] rfl h
  · replace h := h.2 c
    refine G_iconst (ck dc297_21 (i := 7) rfl) ?_
    exact H_iretZ mf297 (ck dc297_21 (i := 8) rfl) rfl (Or.inl rfl) h
set_option maxHeartbeats 20000000 in
theorem g_law_1487 (K : Nat) (n : Nat) (f : Nat → Int) (l3 : Int) (M : PM) (Q : Option PV → PM → Prop)
    (h : (0 ≤ (l3 + 1) ∧ (l3 + 1) < (n : Int)) ∧ Call K jClearingWaves_net [.inr (.inr 0), .inl (f ((l3 + 1)).toNat)] P0 P0 M (retI fun r2 M3 => Call K jModel_net [.inr (.inr 52), .inl (f ((l3 + 1)).toNat)] P0 P0 M3 (retI fun r4 M5 => R32 r2 ∧ R32 r4 ∧ (r2 = r4 → G (some (n, f)) (K + 1) jLaw_law 1999 [(0, .inr (.inr 1000000)), (1, .inr (.inr 0)), (2, .inr (.inr 52)), (3, .inl l3)] [] P0 P0 M5 Q) ∧ (¬ r2 = r4 → Q (some (.inl 0)) M5)))) : G (some (n, f)) (K + 1) jLaw_law 1487 [(0, .inr (.inr 1000000)), (1, .inr (.inr 0)), (2, .inr (.inr 52)), (3, .inl l3)] [] P0 P0 M Q := by
  refine G_aload_n 1 rfl rfl (ck dc297_21 (i := 9) rfl) ?_
  refine G_aload_n 0 rfl rfl (ck dc297_21 (i := 10) rfl) ?_
  refine G_iload_n 3 rfl rfl (ck dc297_21 (i := 11) rfl) ?_
  refine G_iconst (ck dc297_21 (i := 12) rfl) ?_
  refine G_iadd (ck dc297_21 (i := 13) rfl) ?_
  obtain ⟨o1, h⟩ := h
  refine G_sld (ck dc297_21 (i := 14) rfl) o1 ?_
  refine H_vI mf297 (As := [.inl (f ((l3 + 1)).toNat)]) (st := []) (ck dc297_21 (i := 15) rfl) lk_Law_174 rfl rfl (Nat.le_of_ble_eq_true rfl) ly0 ra0 ⟨Nat.le_refl _, Nat.le_refl _⟩ h (fun r2 M3 h => ?_)
  refine G_aload_n 2 rfl rfl (ck dc297_21 (i := 16) rfl) ?_
  refine G_aload_n 0 rfl rfl (ck dc297_21 (i := 17) rfl) ?_
  refine G_iload_n 3 rfl rfl (ck dc297_21 (i := 18) rfl) ?_
  refine G_iconst (ck dc297_21 (i := 19) rfl) ?_
  refine G_iadd (ck dc297_21 (i := 20) rfl) ?_
  refine G_sld (ck dc297_21 (i := 21) rfl) o1 ?_
  refine H_vI mf297 (As := [.inl (f ((l3 + 1)).toNat)]) (st := [.inl r2]) (ck dc297_21 (i := 22) rfl) lk_Law_177 rfl rfl (Nat.le_of_ble_eq_true rfl) ly52 ra52 ⟨Nat.le_refl _, Nat.le_refl _⟩ h (fun r4 M5 h => ?_)
  obtain ⟨o6, h⟩ := h
  obtain ⟨o7, h⟩ := h
  refine G_icmp_eq (tgt := 1999) (by decide) o6 o7 (ck dc297_21 (i := 23) rfl) (fun c => ?_) (fun c => ?_)
  · replace h := h.1 c
    exact G_sub [0, 1, 2, 3] rfl h
  · replace h := h.2 c
    refine G_iconst (ck dc297_21 (i := 24) rfl) ?_
    exact H_iretZ mf297 (ck dc297_21 (i := 25) rfl) rfl (Or.inl rfl) h
set_option maxHeartbeats 20000000 in
theorem g_law_1510 (K : Nat) (n : Nat) (f : Nat → Int) (l3 : Int) (M : PM) (Q : Option PV → PM → Prop)
    (h : (0 ≤ (l3 + 1) ∧ (l3 + 1) < (n : Int)) ∧ (0 ≤ (l3 + 2) ∧ (l3 + 2) < (n : Int)) ∧ (0 ≤ (l3 + 3) ∧ (l3 + 3) < (n : Int)) ∧ (0 ≤ (l3 + 4) ∧ (l3 + 4) < (n : Int)) ∧ R32 (f ((l3 + 4)).toNat) ∧ (0 ≤ (l3 + 5) ∧ (l3 + 5) < (n : Int)) ∧ R32 (f ((l3 + 5)).toNat) ∧ Call K jClearingWaves_units [.inr (.inr 0), .inl (f ((l3 + 1)).toNat), .inl (f ((l3 + 2)).toNat), .inl (f ((l3 + 3)).toNat), .inr (.inl (lOr (lShl (f ((l3 + 4)).toNat) 32) (lAnd (f ((l3 + 5)).toNat) 4294967295)))] P0 P0 M (retL fun r8 M9 => Call K jModel_units [.inr (.inr 52), .inl (f ((l3 + 1)).toNat), .inl (f ((l3 + 2)).toNat), .inl (f ((l3 + 3)).toNat), .inr (.inl (lOr (lShl (f ((l3 + 4)).toNat) 32) (lAnd (f ((l3 + 5)).toNat) 4294967295)))] P0 P0 M9 (retL fun r10 M11 => R64 r8 ∧ R64 r10 ∧ (r8 = r10 → G (some (n, f)) (K + 1) jLaw_law 1999 [(0, .inr (.inr 1000000)), (1, .inr (.inr 0)), (2, .inr (.inr 52)), (3, .inl l3)] [] P0 P0 M11 Q) ∧ (¬ r8 = r10 → Q (some (.inl 0)) M11)))) : G (some (n, f)) (K + 1) jLaw_law 1510 [(0, .inr (.inr 1000000)), (1, .inr (.inr 0)), (2, .inr (.inr 52)), (3, .inl l3)] [] P0 P0 M Q := by
  refine G_aload_n 1 rfl rfl (ck dc297_21 (i := 26) rfl) ?_
  refine G_aload_n 0 rfl rfl (ck dc297_21 (i := 27) rfl) ?_
  refine G_iload_n 3 rfl rfl (ck dc297_21 (i := 28) rfl) ?_
  refine G_iconst (ck dc297_21 (i := 29) rfl) ?_
  refine G_iadd (ck dc297_21 (i := 30) rfl) ?_
  obtain ⟨o1, h⟩ := h
  refine G_sld (ck dc297_21 (i := 31) rfl) o1 ?_
  refine G_aload_n 0 rfl rfl (ck dc297_21 (i := 32) rfl) ?_
  refine G_iload_n 3 rfl rfl (ck dc297_21 (i := 33) rfl) ?_
  refine G_iconst (ck dc297_21 (i := 34) rfl) ?_
  refine G_iadd (ck dc297_21 (i := 35) rfl) ?_
  obtain ⟨o2, h⟩ := h
  refine G_sld (ck dc297_21 (i := 36) rfl) o2 ?_
  refine G_aload_n 0 rfl rfl (ck dc297_21 (i := 37) rfl) ?_
  refine G_iload_n 3 rfl rfl (ck dc297_21 (i := 38) rfl) ?_
  refine G_iconst (ck dc297_21 (i := 39) rfl) ?_
  refine G_iadd (ck dc297_21 (i := 40) rfl) ?_
  obtain ⟨o3, h⟩ := h
  refine G_sld (ck dc297_21 (i := 41) rfl) o3 ?_
  refine G_aload_n 0 rfl rfl (ck dc297_21 (i := 42) rfl) ?_
  refine G_iload_n 3 rfl rfl (ck dc297_21 (i := 43) rfl) ?_
  refine G_iconst (ck dc297_21 (i := 44) rfl) ?_
  refine G_iadd (ck dc297_21 (i := 45) rfl) ?_
  obtain ⟨o4, h⟩ := h
  refine G_sld (ck dc297_21 (i := 46) rfl) o4 ?_
  obtain ⟨o5, h⟩ := h
  refine G_i2l o5 (ck dc297_21 (i := 47) rfl) ?_
  refine G_bipush (n := 32) rfl (ck dc297_22 (i := 0) rfl) ?_
  refine G_lshl (ck dc297_22 (i := 1) rfl) ?_
  refine G_aload_n 0 rfl rfl (ck dc297_22 (i := 2) rfl) ?_
  refine G_iload_n 3 rfl rfl (ck dc297_22 (i := 3) rfl) ?_
  refine G_iconst (ck dc297_22 (i := 4) rfl) ?_
  refine G_iadd (ck dc297_22 (i := 5) rfl) ?_
  obtain ⟨o6, h⟩ := h
  refine G_sld (ck dc297_22 (i := 6) rfl) o6 ?_
  obtain ⟨o7, h⟩ := h
  refine G_i2l o7 (ck dc297_22 (i := 7) rfl) ?_
  refine H_ldc2 mf297 (v := 4294967295) (ck dc297_22 (i := 8) rfl) kl_Law_178 ?_
  refine G_land (ck dc297_22 (i := 9) rfl) ?_
  refine G_lor (ck dc297_22 (i := 10) rfl) ?_
  refine H_vL mf297 (As := [.inl (f ((l3 + 1)).toNat), .inl (f ((l3 + 2)).toNat), .inl (f ((l3 + 3)).toNat), .inr (.inl (lOr (lShl (f ((l3 + 4)).toNat) 32) (lAnd (f ((l3 + 5)).toNat) 4294967295)))]) (st := []) (ck dc297_22 (i := 11) rfl) lk_Law_180 rfl rfl (Nat.le_of_ble_eq_true rfl) ly0 ra0 ⟨Nat.le_refl _, Nat.le_refl _⟩ h (fun r8 M9 h => ?_)
  refine G_aload_n 2 rfl rfl (ck dc297_22 (i := 12) rfl) ?_
  refine G_aload_n 0 rfl rfl (ck dc297_22 (i := 13) rfl) ?_
  refine G_iload_n 3 rfl rfl (ck dc297_22 (i := 14) rfl) ?_
  refine G_iconst (ck dc297_22 (i := 15) rfl) ?_
  refine G_iadd (ck dc297_22 (i := 16) rfl) ?_
  refine G_sld (ck dc297_22 (i := 17) rfl) o1 ?_
  refine G_aload_n 0 rfl rfl (ck dc297_22 (i := 18) rfl) ?_
  refine G_iload_n 3 rfl rfl (ck dc297_22 (i := 19) rfl) ?_
  refine G_iconst (ck dc297_22 (i := 20) rfl) ?_
  refine G_iadd (ck dc297_22 (i := 21) rfl) ?_
  refine G_sld (ck dc297_22 (i := 22) rfl) o2 ?_
  refine G_aload_n 0 rfl rfl (ck dc297_22 (i := 23) rfl) ?_
  refine G_iload_n 3 rfl rfl (ck dc297_22 (i := 24) rfl) ?_
  refine G_iconst (ck dc297_22 (i := 25) rfl) ?_
  refine G_iadd (ck dc297_22 (i := 26) rfl) ?_
  refine G_sld (ck dc297_22 (i := 27) rfl) o3 ?_
  refine G_aload_n 0 rfl rfl (ck dc297_22 (i := 28) rfl) ?_
  refine G_iload_n 3 rfl rfl (ck dc297_22 (i := 29) rfl) ?_
  refine G_iconst (ck dc297_22 (i := 30) rfl) ?_
  refine G_iadd (ck dc297_22 (i := 31) rfl) ?_
  refine G_sld (ck dc297_22 (i := 32) rfl) o4 ?_
  refine G_i2l o5 (ck dc297_22 (i := 33) rfl) ?_
  refine G_bipush (n := 32) rfl (ck dc297_22 (i := 34) rfl) ?_
  refine G_lshl (ck dc297_22 (i := 35) rfl) ?_
  refine G_aload_n 0 rfl rfl (ck dc297_22 (i := 36) rfl) ?_
  refine G_iload_n 3 rfl rfl (ck dc297_22 (i := 37) rfl) ?_
  refine G_iconst (ck dc297_22 (i := 38) rfl) ?_
  refine G_iadd (ck dc297_22 (i := 39) rfl) ?_
  refine G_sld (ck dc297_22 (i := 40) rfl) o6 ?_
  refine G_i2l o7 (ck dc297_22 (i := 41) rfl) ?_
  refine H_ldc2 mf297 (v := 4294967295) (ck dc297_22 (i := 42) rfl) kl_Law_178 ?_
  refine G_land (ck dc297_22 (i := 43) rfl) ?_
  refine G_lor (ck dc297_22 (i := 44) rfl) ?_
  refine H_vL mf297 (As := [.inl (f ((l3 + 1)).toNat), .inl (f ((l3 + 2)).toNat), .inl (f ((l3 + 3)).toNat), .inr (.inl (lOr (lShl (f ((l3 + 4)).toNat) 32) (lAnd (f ((l3 + 5)).toNat) 4294967295)))]) (st := [.inr (.inl r8)]) (ck dc297_22 (i := 45) rfl) lk_Law_184 rfl rfl (Nat.le_of_ble_eq_true rfl) ly52 ra52 ⟨Nat.le_refl _, Nat.le_refl _⟩ h (fun r10 M11 h => ?_)
  obtain ⟨o12, h⟩ := h
  obtain ⟨o13, h⟩ := h
  refine G_lif_eq (tgt := 1999) (ck dc297_22 (i := 47) rfl) (by decide) o12 o13 (ck dc297_22 (i := 46) rfl) (fun c => ?_) (fun c => ?_)
  · replace h := h.1 c
    exact G_sub [0, 1, 2, 3] rfl h
  · replace h := h.2 c
    refine G_iconst (ck dc297_23 (i := 0) rfl) ?_
    exact H_iretZ mf297 (ck dc297_23 (i := 1) rfl) rfl (Or.inl rfl) h
set_option maxHeartbeats 20000000 in
theorem g_law_1594 (K : Nat) (n : Nat) (f : Nat → Int) (l3 : Int) (M : PM) (Q : Option PV → PM → Prop)
    (h : (0 ≤ (l3 + 1) ∧ (l3 + 1) < (n : Int)) ∧ (0 ≤ (l3 + 2) ∧ (l3 + 2) < (n : Int)) ∧ (0 ≤ (l3 + 3) ∧ (l3 + 3) < (n : Int)) ∧ Call K jClearingWaves_unitsOf [.inr (.inr 0), .inl (f ((l3 + 1)).toNat), .inl (f ((l3 + 2)).toNat), .inl (f ((l3 + 3)).toNat)] P0 P0 M (retL fun r4 M5 => Call K jModel_unitsOf [.inr (.inr 52), .inl (f ((l3 + 1)).toNat), .inl (f ((l3 + 2)).toNat), .inl (f ((l3 + 3)).toNat)] P0 P0 M5 (retL fun r6 M7 => R64 r4 ∧ R64 r6 ∧ (r4 = r6 → G (some (n, f)) (K + 1) jLaw_law 1999 [(0, .inr (.inr 1000000)), (1, .inr (.inr 0)), (2, .inr (.inr 52)), (3, .inl l3)] [] P0 P0 M7 Q) ∧ (¬ r4 = r6 → Q (some (.inl 0)) M7)))) : G (some (n, f)) (K + 1) jLaw_law 1594 [(0, .inr (.inr 1000000)), (1, .inr (.inr 0)), (2, .inr (.inr 52)), (3, .inl l3)] [] P0 P0 M Q := by
  refine G_aload_n 1 rfl rfl (ck dc297_23 (i := 2) rfl) ?_
  refine G_aload_n 0 rfl rfl (ck dc297_23 (i := 3) rfl) ?_
  refine G_iload_n 3 rfl rfl (ck dc297_23 (i := 4) rfl) ?_
  refine G_iconst (ck dc297_23 (i := 5) rfl) ?_
  refine G_iadd (ck dc297_23 (i := 6) rfl) ?_
  obtain ⟨o1, h⟩ := h
  refine G_sld (ck dc297_23 (i := 7) rfl) o1 ?_
  refine G_aload_n 0 rfl rfl (ck dc297_23 (i := 8) rfl) ?_
  refine G_iload_n 3 rfl rfl (ck dc297_23 (i := 9) rfl) ?_
  refine G_iconst (ck dc297_23 (i := 10) rfl) ?_
  refine G_iadd (ck dc297_23 (i := 11) rfl) ?_
  obtain ⟨o2, h⟩ := h
  refine G_sld (ck dc297_23 (i := 12) rfl) o2 ?_
  refine G_aload_n 0 rfl rfl (ck dc297_23 (i := 13) rfl) ?_
  refine G_iload_n 3 rfl rfl (ck dc297_23 (i := 14) rfl) ?_
  refine G_iconst (ck dc297_23 (i := 15) rfl) ?_
  refine G_iadd (ck dc297_23 (i := 16) rfl) ?_
  obtain ⟨o3, h⟩ := h
  refine G_sld (ck dc297_23 (i := 17) rfl) o3 ?_
  refine H_vL mf297 (As := [.inl (f ((l3 + 1)).toNat), .inl (f ((l3 + 2)).toNat), .inl (f ((l3 + 3)).toNat)]) (st := []) (ck dc297_23 (i := 18) rfl) lk_Law_185 rfl rfl (Nat.le_of_ble_eq_true rfl) ly0 ra0 ⟨Nat.le_refl _, Nat.le_refl _⟩ h (fun r4 M5 h => ?_)
  refine G_aload_n 2 rfl rfl (ck dc297_23 (i := 19) rfl) ?_
  refine G_aload_n 0 rfl rfl (ck dc297_23 (i := 20) rfl) ?_
  refine G_iload_n 3 rfl rfl (ck dc297_23 (i := 21) rfl) ?_
  refine G_iconst (ck dc297_23 (i := 22) rfl) ?_
  refine G_iadd (ck dc297_23 (i := 23) rfl) ?_
  refine G_sld (ck dc297_23 (i := 24) rfl) o1 ?_
  refine G_aload_n 0 rfl rfl (ck dc297_23 (i := 25) rfl) ?_
  refine G_iload_n 3 rfl rfl (ck dc297_23 (i := 26) rfl) ?_
  refine G_iconst (ck dc297_23 (i := 27) rfl) ?_
  refine G_iadd (ck dc297_23 (i := 28) rfl) ?_
  refine G_sld (ck dc297_23 (i := 29) rfl) o2 ?_
  refine G_aload_n 0 rfl rfl (ck dc297_23 (i := 30) rfl) ?_
  refine G_iload_n 3 rfl rfl (ck dc297_23 (i := 31) rfl) ?_
  refine G_iconst (ck dc297_23 (i := 32) rfl) ?_
  refine G_iadd (ck dc297_23 (i := 33) rfl) ?_
  refine G_sld (ck dc297_23 (i := 34) rfl) o3 ?_
  refine H_vL mf297 (As := [.inl (f ((l3 + 1)).toNat), .inl (f ((l3 + 2)).toNat), .inl (f ((l3 + 3)).toNat)]) (st := [.inr (.inl r4)]) (ck dc297_23 (i := 35) rfl) lk_Law_188 rfl rfl (Nat.le_of_ble_eq_true rfl) ly52 ra52 ⟨Nat.le_refl _, Nat.le_refl _⟩ h (fun r6 M7 h => ?_)
  obtain ⟨o8, h⟩ := h
  obtain ⟨o9, h⟩ := h
  refine G_lif_eq (tgt := 1999) (ck dc297_23 (i := 37) rfl) (by decide) o8 o9 (ck dc297_23 (i := 36) rfl) (fun c => ?_) (fun c => ?_)
  · replace h := h.1 c
    exact G_sub [0, 1, 2, 3] rfl h
  · replace h := h.2 c
    refine G_iconst (ck dc297_23 (i := 38) rfl) ?_
    exact H_iretZ mf297 (ck dc297_23 (i := 39) rfl) rfl (Or.inl rfl) h
set_option maxHeartbeats 20000000 in
theorem g_law_1638 (K : Nat) (n : Nat) (f : Nat → Int) (l3 : Int) (M : PM) (Q : Option PV → PM → Prop)
    (h : (0 ≤ (l3 + 1) ∧ (l3 + 1) < (n : Int)) ∧ (0 ≤ (l3 + 2) ∧ (l3 + 2) < (n : Int)) ∧ Call K jClearingWaves_fund [.inr (.inr 0), .inl (f ((l3 + 1)).toNat), .inl (f ((l3 + 2)).toNat)] P0 P0 M (retL fun r3 M4 => Call K jModel_fund [.inr (.inr 52), .inl (f ((l3 + 1)).toNat), .inl (f ((l3 + 2)).toNat)] P0 P0 M4 (retL fun r5 M6 => R64 r3 ∧ R64 r5 ∧ (r3 = r5 → G (some (n, f)) (K + 1) jLaw_law 1999 [(0, .inr (.inr 1000000)), (1, .inr (.inr 0)), (2, .inr (.inr 52)), (3, .inl l3)] [] P0 P0 M6 Q) ∧ (¬ r3 = r5 → Q (some (.inl 0)) M6)))) : G (some (n, f)) (K + 1) jLaw_law 1638 [(0, .inr (.inr 1000000)), (1, .inr (.inr 0)), (2, .inr (.inr 52)), (3, .inl l3)] [] P0 P0 M Q := by
  refine G_aload_n 1 rfl rfl (ck dc297_23 (i := 40) rfl) ?_
  refine G_aload_n 0 rfl rfl (ck dc297_23 (i := 41) rfl) ?_
  refine G_iload_n 3 rfl rfl (ck dc297_23 (i := 42) rfl) ?_
  refine G_iconst (ck dc297_23 (i := 43) rfl) ?_
  refine G_iadd (ck dc297_23 (i := 44) rfl) ?_
  obtain ⟨o1, h⟩ := h
  refine G_sld (ck dc297_23 (i := 45) rfl) o1 ?_
  refine G_aload_n 0 rfl rfl (ck dc297_23 (i := 46) rfl) ?_
  refine G_iload_n 3 rfl rfl (ck dc297_23 (i := 47) rfl) ?_
  refine G_iconst (ck dc297_24 (i := 0) rfl) ?_
  refine G_iadd (ck dc297_24 (i := 1) rfl) ?_
  obtain ⟨o2, h⟩ := h
  refine G_sld (ck dc297_24 (i := 2) rfl) o2 ?_
  refine H_vL mf297 (As := [.inl (f ((l3 + 1)).toNat), .inl (f ((l3 + 2)).toNat)]) (st := []) (ck dc297_24 (i := 3) rfl) lk_Law_189 rfl rfl (Nat.le_of_ble_eq_true rfl) ly0 ra0 ⟨Nat.le_refl _, Nat.le_refl _⟩ h (fun r3 M4 h => ?_)
  refine G_aload_n 2 rfl rfl (ck dc297_24 (i := 4) rfl) ?_
  refine G_aload_n 0 rfl rfl (ck dc297_24 (i := 5) rfl) ?_
  refine G_iload_n 3 rfl rfl (ck dc297_24 (i := 6) rfl) ?_
  refine G_iconst (ck dc297_24 (i := 7) rfl) ?_
  refine G_iadd (ck dc297_24 (i := 8) rfl) ?_
  refine G_sld (ck dc297_24 (i := 9) rfl) o1 ?_
  refine G_aload_n 0 rfl rfl (ck dc297_24 (i := 10) rfl) ?_
  refine G_iload_n 3 rfl rfl (ck dc297_24 (i := 11) rfl) ?_
  refine G_iconst (ck dc297_24 (i := 12) rfl) ?_
  refine G_iadd (ck dc297_24 (i := 13) rfl) ?_
  refine G_sld (ck dc297_24 (i := 14) rfl) o2 ?_
  refine H_vL mf297 (As := [.inl (f ((l3 + 1)).toNat), .inl (f ((l3 + 2)).toNat)]) (st := [.inr (.inl r3)]) (ck dc297_24 (i := 15) rfl) lk_Law_192 rfl rfl (Nat.le_of_ble_eq_true rfl) ly52 ra52 ⟨Nat.le_refl _, Nat.le_refl _⟩ h (fun r5 M6 h => ?_)
  obtain ⟨o7, h⟩ := h
  obtain ⟨o8, h⟩ := h
  refine G_lif_eq (tgt := 1999) (ck dc297_24 (i := 17) rfl) (by decide) o7 o8 (ck dc297_24 (i := 16) rfl) (fun c => ?_) (fun c => ?_)
  · replace h := h.1 c
    exact G_sub [0, 1, 2, 3] rfl h
  · replace h := h.2 c
    refine G_iconst (ck dc297_24 (i := 18) rfl) ?_
    exact H_iretZ mf297 (ck dc297_24 (i := 19) rfl) rfl (Or.inl rfl) h
set_option maxHeartbeats 20000000 in
theorem g_law_1672 (K : Nat) (n : Nat) (f : Nat → Int) (l3 : Int) (M : PM) (Q : Option PV → PM → Prop)
    (h : (0 ≤ (l3 + 1) ∧ (l3 + 1) < (n : Int)) ∧ Call K jClearingWaves_told [.inr (.inr 0), .inl (f ((l3 + 1)).toNat)] P0 P0 M (retI fun r2 M3 => Call K jModel_told [.inr (.inr 52), .inl (f ((l3 + 1)).toNat)] P0 P0 M3 (retI fun r4 M5 => R32 r2 ∧ R32 r4 ∧ (r2 = r4 → G (some (n, f)) (K + 1) jLaw_law 1999 [(0, .inr (.inr 1000000)), (1, .inr (.inr 0)), (2, .inr (.inr 52)), (3, .inl l3)] [] P0 P0 M5 Q) ∧ (¬ r2 = r4 → Q (some (.inl 0)) M5)))) : G (some (n, f)) (K + 1) jLaw_law 1672 [(0, .inr (.inr 1000000)), (1, .inr (.inr 0)), (2, .inr (.inr 52)), (3, .inl l3)] [] P0 P0 M Q := by
  refine G_aload_n 1 rfl rfl (ck dc297_24 (i := 20) rfl) ?_
  refine G_aload_n 0 rfl rfl (ck dc297_24 (i := 21) rfl) ?_
  refine G_iload_n 3 rfl rfl (ck dc297_24 (i := 22) rfl) ?_
  refine G_iconst (ck dc297_24 (i := 23) rfl) ?_
  refine G_iadd (ck dc297_24 (i := 24) rfl) ?_
  obtain ⟨o1, h⟩ := h
  refine G_sld (ck dc297_24 (i := 25) rfl) o1 ?_
  refine H_vI mf297 (As := [.inl (f ((l3 + 1)).toNat)]) (st := []) (ck dc297_24 (i := 26) rfl) lk_Law_193 rfl rfl (Nat.le_of_ble_eq_true rfl) ly0 ra0 ⟨Nat.le_refl _, Nat.le_refl _⟩ h (fun r2 M3 h => ?_)
  refine G_aload_n 2 rfl rfl (ck dc297_24 (i := 27) rfl) ?_
  refine G_aload_n 0 rfl rfl (ck dc297_24 (i := 28) rfl) ?_
  refine G_iload_n 3 rfl rfl (ck dc297_24 (i := 29) rfl) ?_
  refine G_iconst (ck dc297_24 (i := 30) rfl) ?_
  refine G_iadd (ck dc297_24 (i := 31) rfl) ?_
  refine G_sld (ck dc297_24 (i := 32) rfl) o1 ?_
  refine H_vI mf297 (As := [.inl (f ((l3 + 1)).toNat)]) (st := [.inl r2]) (ck dc297_24 (i := 33) rfl) lk_Law_196 rfl rfl (Nat.le_of_ble_eq_true rfl) ly52 ra52 ⟨Nat.le_refl _, Nat.le_refl _⟩ h (fun r4 M5 h => ?_)
  obtain ⟨o6, h⟩ := h
  obtain ⟨o7, h⟩ := h
  refine G_icmp_eq (tgt := 1999) (by decide) o6 o7 (ck dc297_24 (i := 34) rfl) (fun c => ?_) (fun c => ?_)
  · replace h := h.1 c
    exact G_sub [0, 1, 2, 3] rfl h
  · replace h := h.2 c
    refine G_iconst (ck dc297_24 (i := 35) rfl) ?_
    exact H_iretZ mf297 (ck dc297_24 (i := 36) rfl) rfl (Or.inl rfl) h
set_option maxHeartbeats 20000000 in
theorem g_law_1695 (K : Nat) (n : Nat) (f : Nat → Int) (l3 : Int) (M : PM) (Q : Option PV → PM → Prop)
    (h : Call K jClearingWaves_best [.inr (.inr 0)] P0 P0 M (retI fun r1 M2 => Call K jModel_best [.inr (.inr 52)] P0 P0 M2 (retI fun r3 M4 => R32 r1 ∧ R32 r3 ∧ (r1 = r3 → G (some (n, f)) (K + 1) jLaw_law 1999 [(0, .inr (.inr 1000000)), (1, .inr (.inr 0)), (2, .inr (.inr 52)), (3, .inl l3)] [] P0 P0 M4 Q) ∧ (¬ r1 = r3 → Q (some (.inl 0)) M4)))) : G (some (n, f)) (K + 1) jLaw_law 1695 [(0, .inr (.inr 1000000)), (1, .inr (.inr 0)), (2, .inr (.inr 52)), (3, .inl l3)] [] P0 P0 M Q := by
  refine G_aload_n 1 rfl rfl (ck dc297_24 (i := 37) rfl) ?_
  refine H_vI mf297 (As := []) (st := []) (ck dc297_24 (i := 38) rfl) lk_Law_197 rfl rfl (Nat.le_of_ble_eq_true rfl) ly0 ra0 ⟨Nat.le_refl _, Nat.le_refl _⟩ h (fun r1 M2 h => ?_)
  refine G_aload_n 2 rfl rfl (ck dc297_24 (i := 39) rfl) ?_
  refine H_vI mf297 (As := []) (st := [.inl r1]) (ck dc297_24 (i := 40) rfl) lk_Law_200 rfl rfl (Nat.le_of_ble_eq_true rfl) ly52 ra52 ⟨Nat.le_refl _, Nat.le_refl _⟩ h (fun r3 M4 h => ?_)
  obtain ⟨o5, h⟩ := h
  obtain ⟨o6, h⟩ := h
  refine G_icmp_eq (tgt := 1999) (by decide) o5 o6 (ck dc297_24 (i := 41) rfl) (fun c => ?_) (fun c => ?_)
  · replace h := h.1 c
    exact G_sub [0, 1, 2, 3] rfl h
  · replace h := h.2 c
    refine G_iconst (ck dc297_24 (i := 42) rfl) ?_
    exact H_iretZ mf297 (ck dc297_24 (i := 43) rfl) rfl (Or.inl rfl) h
set_option maxHeartbeats 20000000 in
theorem g_law_1708 (K : Nat) (n : Nat) (f : Nat → Int) (l3 : Int) (M : PM) (Q : Option PV → PM → Prop)
    (h : Call K jClearingWaves_spell [.inr (.inr 0)] P0 P0 M (retI fun r1 M2 => Call K jModel_spell [.inr (.inr 52)] P0 P0 M2 (retI fun r3 M4 => R32 r1 ∧ R32 r3 ∧ (r1 = r3 → G (some (n, f)) (K + 1) jLaw_law 1999 [(0, .inr (.inr 1000000)), (1, .inr (.inr 0)), (2, .inr (.inr 52)), (3, .inl l3)] [] P0 P0 M4 Q) ∧ (¬ r1 = r3 → Q (some (.inl 0)) M4)))) : G (some (n, f)) (K + 1) jLaw_law 1708 [(0, .inr (.inr 1000000)), (1, .inr (.inr 0)), (2, .inr (.inr 52)), (3, .inl l3)] [] P0 P0 M Q := by
  refine G_aload_n 1 rfl rfl (ck dc297_24 (i := 44) rfl) ?_
  refine H_vI mf297 (As := []) (st := []) (ck dc297_24 (i := 45) rfl) lk_Law_201 rfl rfl (Nat.le_of_ble_eq_true rfl) ly0 ra0 ⟨Nat.le_refl _, Nat.le_refl _⟩ h (fun r1 M2 h => ?_)
  refine G_aload_n 2 rfl rfl (ck dc297_24 (i := 46) rfl) ?_
  refine H_vI mf297 (As := []) (st := [.inl r1]) (ck dc297_24 (i := 47) rfl) lk_Law_204 rfl rfl (Nat.le_of_ble_eq_true rfl) ly52 ra52 ⟨Nat.le_refl _, Nat.le_refl _⟩ h (fun r3 M4 h => ?_)
  obtain ⟨o5, h⟩ := h
  obtain ⟨o6, h⟩ := h
  refine G_icmp_eq (tgt := 1999) (by decide) o5 o6 (ck dc297_25 (i := 0) rfl) (fun c => ?_) (fun c => ?_)
  · replace h := h.1 c
    exact G_sub [0, 1, 2, 3] rfl h
  · replace h := h.2 c
    refine G_iconst (ck dc297_25 (i := 1) rfl) ?_
    exact H_iretZ mf297 (ck dc297_25 (i := 2) rfl) rfl (Or.inl rfl) h
set_option maxHeartbeats 20000000 in
theorem g_law_1721 (K : Nat) (n : Nat) (f : Nat → Int) (l3 : Int) (M : PM) (Q : Option PV → PM → Prop)
    (h : (0 ≤ (l3 + 1) ∧ (l3 + 1) < (n : Int)) ∧ Call K jClearingWaves_paper [.inr (.inr 0), .inl (f ((l3 + 1)).toNat)] P0 P0 M (retI fun r2 M3 => Call K jModel_paper [.inr (.inr 52), .inl (f ((l3 + 1)).toNat)] P0 P0 M3 (retI fun r4 M5 => R32 r2 ∧ R32 r4 ∧ (r2 = r4 → G (some (n, f)) (K + 1) jLaw_law 1999 [(0, .inr (.inr 1000000)), (1, .inr (.inr 0)), (2, .inr (.inr 52)), (3, .inl l3)] [] P0 P0 M5 Q) ∧ (¬ r2 = r4 → Q (some (.inl 0)) M5)))) : G (some (n, f)) (K + 1) jLaw_law 1721 [(0, .inr (.inr 1000000)), (1, .inr (.inr 0)), (2, .inr (.inr 52)), (3, .inl l3)] [] P0 P0 M Q := by
  refine G_aload_n 1 rfl rfl (ck dc297_25 (i := 3) rfl) ?_
  refine G_aload_n 0 rfl rfl (ck dc297_25 (i := 4) rfl) ?_
  refine G_iload_n 3 rfl rfl (ck dc297_25 (i := 5) rfl) ?_
  refine G_iconst (ck dc297_25 (i := 6) rfl) ?_
  refine G_iadd (ck dc297_25 (i := 7) rfl) ?_
  obtain ⟨o1, h⟩ := h
  refine G_sld (ck dc297_25 (i := 8) rfl) o1 ?_
  refine H_vI mf297 (As := [.inl (f ((l3 + 1)).toNat)]) (st := []) (ck dc297_25 (i := 9) rfl) lk_Law_205 rfl rfl (Nat.le_of_ble_eq_true rfl) ly0 ra0 ⟨Nat.le_refl _, Nat.le_refl _⟩ h (fun r2 M3 h => ?_)
  refine G_aload_n 2 rfl rfl (ck dc297_25 (i := 10) rfl) ?_
  refine G_aload_n 0 rfl rfl (ck dc297_25 (i := 11) rfl) ?_
  refine G_iload_n 3 rfl rfl (ck dc297_25 (i := 12) rfl) ?_
  refine G_iconst (ck dc297_25 (i := 13) rfl) ?_
  refine G_iadd (ck dc297_25 (i := 14) rfl) ?_
  refine G_sld (ck dc297_25 (i := 15) rfl) o1 ?_
  refine H_vI mf297 (As := [.inl (f ((l3 + 1)).toNat)]) (st := [.inl r2]) (ck dc297_25 (i := 16) rfl) lk_Law_208 rfl rfl (Nat.le_of_ble_eq_true rfl) ly52 ra52 ⟨Nat.le_refl _, Nat.le_refl _⟩ h (fun r4 M5 h => ?_)
  obtain ⟨o6, h⟩ := h
  obtain ⟨o7, h⟩ := h
  refine G_icmp_eq (tgt := 1999) (by decide) o6 o7 (ck dc297_25 (i := 17) rfl) (fun c => ?_) (fun c => ?_)
  · replace h := h.1 c
    exact G_sub [0, 1, 2, 3] rfl h
  · replace h := h.2 c
    refine G_iconst (ck dc297_25 (i := 18) rfl) ?_
    exact H_iretZ mf297 (ck dc297_25 (i := 19) rfl) rfl (Or.inl rfl) h
set_option maxHeartbeats 20000000 in
theorem g_law_1744 (K : Nat) (n : Nat) (f : Nat → Int) (l3 : Int) (M : PM) (Q : Option PV → PM → Prop)
    (h : (0 ≤ (l3 + 1) ∧ (l3 + 1) < (n : Int)) ∧ Call K jClearingWaves_count [.inr (.inr 0), .inl (f ((l3 + 1)).toNat)] P0 P0 M (retI fun r2 M3 => Call K jModel_count [.inr (.inr 52), .inl (f ((l3 + 1)).toNat)] P0 P0 M3 (retI fun r4 M5 => R32 r2 ∧ R32 r4 ∧ (r2 = r4 → G (some (n, f)) (K + 1) jLaw_law 1999 [(0, .inr (.inr 1000000)), (1, .inr (.inr 0)), (2, .inr (.inr 52)), (3, .inl l3)] [] P0 P0 M5 Q) ∧ (¬ r2 = r4 → Q (some (.inl 0)) M5)))) : G (some (n, f)) (K + 1) jLaw_law 1744 [(0, .inr (.inr 1000000)), (1, .inr (.inr 0)), (2, .inr (.inr 52)), (3, .inl l3)] [] P0 P0 M Q := by
  refine G_aload_n 1 rfl rfl (ck dc297_25 (i := 20) rfl) ?_
  refine G_aload_n 0 rfl rfl (ck dc297_25 (i := 21) rfl) ?_
  refine G_iload_n 3 rfl rfl (ck dc297_25 (i := 22) rfl) ?_
  refine G_iconst (ck dc297_25 (i := 23) rfl) ?_
  refine G_iadd (ck dc297_25 (i := 24) rfl) ?_
  obtain ⟨o1, h⟩ := h
  refine G_sld (ck dc297_25 (i := 25) rfl) o1 ?_
  refine H_vI mf297 (As := [.inl (f ((l3 + 1)).toNat)]) (st := []) (ck dc297_25 (i := 26) rfl) lk_Law_209 rfl rfl (Nat.le_of_ble_eq_true rfl) ly0 ra0 ⟨Nat.le_refl _, Nat.le_refl _⟩ h (fun r2 M3 h => ?_)
  refine G_aload_n 2 rfl rfl (ck dc297_25 (i := 27) rfl) ?_
  refine G_aload_n 0 rfl rfl (ck dc297_25 (i := 28) rfl) ?_
  refine G_iload_n 3 rfl rfl (ck dc297_25 (i := 29) rfl) ?_
  refine G_iconst (ck dc297_25 (i := 30) rfl) ?_
  refine G_iadd (ck dc297_25 (i := 31) rfl) ?_
  refine G_sld (ck dc297_25 (i := 32) rfl) o1 ?_
  refine H_vI mf297 (As := [.inl (f ((l3 + 1)).toNat)]) (st := [.inl r2]) (ck dc297_25 (i := 33) rfl) lk_Law_212 rfl rfl (Nat.le_of_ble_eq_true rfl) ly52 ra52 ⟨Nat.le_refl _, Nat.le_refl _⟩ h (fun r4 M5 h => ?_)
  obtain ⟨o6, h⟩ := h
  obtain ⟨o7, h⟩ := h
  refine G_icmp_eq (tgt := 1999) (by decide) o6 o7 (ck dc297_25 (i := 34) rfl) (fun c => ?_) (fun c => ?_)
  · replace h := h.1 c
    exact G_sub [0, 1, 2, 3] rfl h
  · replace h := h.2 c
    refine G_iconst (ck dc297_25 (i := 35) rfl) ?_
    exact H_iretZ mf297 (ck dc297_25 (i := 36) rfl) rfl (Or.inl rfl) h
set_option maxHeartbeats 20000000 in
theorem g_law_1767 (K : Nat) (n : Nat) (f : Nat → Int) (l3 : Int) (M : PM) (Q : Option PV → PM → Prop)
    (h : (0 ≤ (l3 + 1) ∧ (l3 + 1) < (n : Int)) ∧ (0 ≤ (l3 + 2) ∧ (l3 + 2) < (n : Int)) ∧ Call K jClearingWaves_row [.inr (.inr 0), .inl (f ((l3 + 1)).toNat), .inl (f ((l3 + 2)).toNat)] P0 P0 M (retI fun r3 M4 => Call K jModel_row [.inr (.inr 52), .inl (f ((l3 + 1)).toNat), .inl (f ((l3 + 2)).toNat)] P0 P0 M4 (retI fun r5 M6 => R32 r3 ∧ R32 r5 ∧ (r3 = r5 → G (some (n, f)) (K + 1) jLaw_law 1999 [(0, .inr (.inr 1000000)), (1, .inr (.inr 0)), (2, .inr (.inr 52)), (3, .inl l3)] [] P0 P0 M6 Q) ∧ (¬ r3 = r5 → Q (some (.inl 0)) M6)))) : G (some (n, f)) (K + 1) jLaw_law 1767 [(0, .inr (.inr 1000000)), (1, .inr (.inr 0)), (2, .inr (.inr 52)), (3, .inl l3)] [] P0 P0 M Q := by
  refine G_aload_n 1 rfl rfl (ck dc297_25 (i := 37) rfl) ?_
  refine G_aload_n 0 rfl rfl (ck dc297_25 (i := 38) rfl) ?_
  refine G_iload_n 3 rfl rfl (ck dc297_25 (i := 39) rfl) ?_
  refine G_iconst (ck dc297_25 (i := 40) rfl) ?_
  refine G_iadd (ck dc297_25 (i := 41) rfl) ?_
  obtain ⟨o1, h⟩ := h
  refine G_sld (ck dc297_25 (i := 42) rfl) o1 ?_
  refine G_aload_n 0 rfl rfl (ck dc297_25 (i := 43) rfl) ?_
  refine G_iload_n 3 rfl rfl (ck dc297_25 (i := 44) rfl) ?_
  refine G_iconst (ck dc297_25 (i := 45) rfl) ?_
  refine G_iadd (ck dc297_25 (i := 46) rfl) ?_
  obtain ⟨o2, h⟩ := h
  refine G_sld (ck dc297_25 (i := 47) rfl) o2 ?_
  refine H_vI mf297 (As := [.inl (f ((l3 + 1)).toNat), .inl (f ((l3 + 2)).toNat)]) (st := []) (ck dc297_26 (i := 0) rfl) lk_Law_213 rfl rfl (Nat.le_of_ble_eq_true rfl) ly0 ra0 ⟨Nat.le_refl _, Nat.le_refl _⟩ h (fun r3 M4 h => ?_)
  refine G_aload_n 2 rfl rfl (ck dc297_26 (i := 1) rfl) ?_
  refine G_aload_n 0 rfl rfl (ck dc297_26 (i := 2) rfl) ?_
  refine G_iload_n 3 rfl rfl (ck dc297_26 (i := 3) rfl) ?_
  refine G_iconst (ck dc297_26 (i := 4) rfl) ?_
  refine G_iadd (ck dc297_26 (i := 5) rfl) ?_
  refine G_sld (ck dc297_26 (i := 6) rfl) o1 ?_
  refine G_aload_n 0 rfl rfl (ck dc297_26 (i := 7) rfl) ?_
  refine G_iload_n 3 rfl rfl (ck dc297_26 (i := 8) rfl) ?_
  refine G_iconst (ck dc297_26 (i := 9) rfl) ?_
  refine G_iadd (ck dc297_26 (i := 10) rfl) ?_
  refine G_sld (ck dc297_26 (i := 11) rfl) o2 ?_
  refine H_vI mf297 (As := [.inl (f ((l3 + 1)).toNat), .inl (f ((l3 + 2)).toNat)]) (st := [.inl r3]) (ck dc297_26 (i := 12) rfl) lk_Law_216 rfl rfl (Nat.le_of_ble_eq_true rfl) ly52 ra52 ⟨Nat.le_refl _, Nat.le_refl _⟩ h (fun r5 M6 h => ?_)
  obtain ⟨o7, h⟩ := h
  obtain ⟨o8, h⟩ := h
  refine G_icmp_eq (tgt := 1999) (by decide) o7 o8 (ck dc297_26 (i := 13) rfl) (fun c => ?_) (fun c => ?_)
  · replace h := h.1 c
    exact G_sub [0, 1, 2, 3] rfl h
  · replace h := h.2 c
    refine G_iconst (ck dc297_26 (i := 14) rfl) ?_
    exact H_iretZ mf297 (ck dc297_26 (i := 15) rfl) rfl (Or.inl rfl) h
set_option maxHeartbeats 20000000 in
theorem g_law_1800 (K : Nat) (n : Nat) (f : Nat → Int) (l3 : Int) (M : PM) (Q : Option PV → PM → Prop)
    (h : (0 ≤ (l3 + 1) ∧ (l3 + 1) < (n : Int)) ∧ (0 ≤ (l3 + 2) ∧ (l3 + 2) < (n : Int)) ∧ (0 ≤ (l3 + 3) ∧ (l3 + 3) < (n : Int)) ∧ R32 (f ((l3 + 3)).toNat) ∧ (0 ≤ (l3 + 4) ∧ (l3 + 4) < (n : Int)) ∧ R32 (f ((l3 + 4)).toNat) ∧ Call K jClearingWaves_set [.inr (.inr 0), .inl (f ((l3 + 1)).toNat), .inl (f ((l3 + 2)).toNat), .inr (.inl (lOr (lShl (f ((l3 + 3)).toNat) 32) (lAnd (f ((l3 + 4)).toNat) 4294967295)))] P0 P0 M (retI fun r7 M8 => Call K jModel_set [.inr (.inr 52), .inl (f ((l3 + 1)).toNat), .inl (f ((l3 + 2)).toNat), .inr (.inl (lOr (lShl (f ((l3 + 3)).toNat) 32) (lAnd (f ((l3 + 4)).toNat) 4294967295)))] P0 P0 M8 (retI fun r9 M10 => R32 r7 ∧ R32 r9 ∧ (r7 = r9 → G (some (n, f)) (K + 1) jLaw_law 1999 [(0, .inr (.inr 1000000)), (1, .inr (.inr 0)), (2, .inr (.inr 52)), (3, .inl l3)] [] P0 P0 M10 Q) ∧ (¬ r7 = r9 → Q (some (.inl 0)) M10)))) : G (some (n, f)) (K + 1) jLaw_law 1800 [(0, .inr (.inr 1000000)), (1, .inr (.inr 0)), (2, .inr (.inr 52)), (3, .inl l3)] [] P0 P0 M Q := by
  refine G_aload_n 1 rfl rfl (ck dc297_26 (i := 16) rfl) ?_
  refine G_aload_n 0 rfl rfl (ck dc297_26 (i := 17) rfl) ?_
  refine G_iload_n 3 rfl rfl (ck dc297_26 (i := 18) rfl) ?_
  refine G_iconst (ck dc297_26 (i := 19) rfl) ?_
  refine G_iadd (ck dc297_26 (i := 20) rfl) ?_
  obtain ⟨o1, h⟩ := h
  refine G_sld (ck dc297_26 (i := 21) rfl) o1 ?_
  refine G_aload_n 0 rfl rfl (ck dc297_26 (i := 22) rfl) ?_
  refine G_iload_n 3 rfl rfl (ck dc297_26 (i := 23) rfl) ?_
  refine G_iconst (ck dc297_26 (i := 24) rfl) ?_
  refine G_iadd (ck dc297_26 (i := 25) rfl) ?_
  obtain ⟨o2, h⟩ := h
  refine G_sld (ck dc297_26 (i := 26) rfl) o2 ?_
  refine G_aload_n 0 rfl rfl (ck dc297_26 (i := 27) rfl) ?_
  refine G_iload_n 3 rfl rfl (ck dc297_26 (i := 28) rfl) ?_
  refine G_iconst (ck dc297_26 (i := 29) rfl) ?_
  refine G_iadd (ck dc297_26 (i := 30) rfl) ?_
  obtain ⟨o3, h⟩ := h
  refine G_sld (ck dc297_26 (i := 31) rfl) o3 ?_
  obtain ⟨o4, h⟩ := h
  refine G_i2l o4 (ck dc297_26 (i := 32) rfl) ?_
  refine G_bipush (n := 32) rfl (ck dc297_26 (i := 33) rfl) ?_
  refine G_lshl (ck dc297_26 (i := 34) rfl) ?_
  refine G_aload_n 0 rfl rfl (ck dc297_26 (i := 35) rfl) ?_
  refine G_iload_n 3 rfl rfl (ck dc297_26 (i := 36) rfl) ?_
  refine G_iconst (ck dc297_26 (i := 37) rfl) ?_
  refine G_iadd (ck dc297_26 (i := 38) rfl) ?_
  obtain ⟨o5, h⟩ := h
  refine G_sld (ck dc297_26 (i := 39) rfl) o5 ?_
  obtain ⟨o6, h⟩ := h
  refine G_i2l o6 (ck dc297_26 (i := 40) rfl) ?_
  refine H_ldc2 mf297 (v := 4294967295) (ck dc297_26 (i := 41) rfl) kl_Law_178 ?_
  refine G_land (ck dc297_26 (i := 42) rfl) ?_
  refine G_lor (ck dc297_26 (i := 43) rfl) ?_
  refine H_vI mf297 (As := [.inl (f ((l3 + 1)).toNat), .inl (f ((l3 + 2)).toNat), .inr (.inl (lOr (lShl (f ((l3 + 3)).toNat) 32) (lAnd (f ((l3 + 4)).toNat) 4294967295)))]) (st := []) (ck dc297_26 (i := 44) rfl) lk_Law_217 rfl rfl (Nat.le_of_ble_eq_true rfl) ly0 ra0 ⟨Nat.le_refl _, Nat.le_refl _⟩ h (fun r7 M8 h => ?_)
  refine G_aload_n 2 rfl rfl (ck dc297_26 (i := 45) rfl) ?_
  refine G_aload_n 0 rfl rfl (ck dc297_26 (i := 46) rfl) ?_
  refine G_iload_n 3 rfl rfl (ck dc297_26 (i := 47) rfl) ?_
  refine G_iconst (ck dc297_27 (i := 0) rfl) ?_
  refine G_iadd (ck dc297_27 (i := 1) rfl) ?_
  refine G_sld (ck dc297_27 (i := 2) rfl) o1 ?_
  refine G_aload_n 0 rfl rfl (ck dc297_27 (i := 3) rfl) ?_
  refine G_iload_n 3 rfl rfl (ck dc297_27 (i := 4) rfl) ?_
  refine G_iconst (ck dc297_27 (i := 5) rfl) ?_
  refine G_iadd (ck dc297_27 (i := 6) rfl) ?_
  refine G_sld (ck dc297_27 (i := 7) rfl) o2 ?_
  refine G_aload_n 0 rfl rfl (ck dc297_27 (i := 8) rfl) ?_
  refine G_iload_n 3 rfl rfl (ck dc297_27 (i := 9) rfl) ?_
  refine G_iconst (ck dc297_27 (i := 10) rfl) ?_
  refine G_iadd (ck dc297_27 (i := 11) rfl) ?_
  refine G_sld (ck dc297_27 (i := 12) rfl) o3 ?_
  refine G_i2l o4 (ck dc297_27 (i := 13) rfl) ?_
  refine G_bipush (n := 32) rfl (ck dc297_27 (i := 14) rfl) ?_
  refine G_lshl (ck dc297_27 (i := 15) rfl) ?_
  refine G_aload_n 0 rfl rfl (ck dc297_27 (i := 16) rfl) ?_
  refine G_iload_n 3 rfl rfl (ck dc297_27 (i := 17) rfl) ?_
  refine G_iconst (ck dc297_27 (i := 18) rfl) ?_
  refine G_iadd (ck dc297_27 (i := 19) rfl) ?_
  refine G_sld (ck dc297_27 (i := 20) rfl) o5 ?_
  refine G_i2l o6 (ck dc297_27 (i := 21) rfl) ?_
  refine H_ldc2 mf297 (v := 4294967295) (ck dc297_27 (i := 22) rfl) kl_Law_178 ?_
  refine G_land (ck dc297_27 (i := 23) rfl) ?_
  refine G_lor (ck dc297_27 (i := 24) rfl) ?_
  refine H_vI mf297 (As := [.inl (f ((l3 + 1)).toNat), .inl (f ((l3 + 2)).toNat), .inr (.inl (lOr (lShl (f ((l3 + 3)).toNat) 32) (lAnd (f ((l3 + 4)).toNat) 4294967295)))]) (st := [.inl r7]) (ck dc297_27 (i := 25) rfl) lk_Law_221 rfl rfl (Nat.le_of_ble_eq_true rfl) ly52 ra52 ⟨Nat.le_refl _, Nat.le_refl _⟩ h (fun r9 M10 h => ?_)
  obtain ⟨o11, h⟩ := h
  obtain ⟨o12, h⟩ := h
  refine G_icmp_eq (tgt := 1999) (by decide) o11 o12 (ck dc297_27 (i := 26) rfl) (fun c => ?_) (fun c => ?_)
  · replace h := h.1 c
    exact G_sub [0, 1, 2, 3] rfl h
  · replace h := h.2 c
    refine G_iconst (ck dc297_27 (i := 27) rfl) ?_
    exact H_iretZ mf297 (ck dc297_27 (i := 28) rfl) rfl (Or.inl rfl) h
set_option maxHeartbeats 20000000 in
theorem g_law_1873 (K : Nat) (n : Nat) (f : Nat → Int) (l3 : Int) (M : PM) (Q : Option PV → PM → Prop)
    (h : (0 ≤ (l3 + 1) ∧ (l3 + 1) < (n : Int)) ∧ (0 ≤ (l3 + 2) ∧ (l3 + 2) < (n : Int)) ∧ Call K jClearingWaves_get [.inr (.inr 0), .inl (f ((l3 + 1)).toNat), .inl (f ((l3 + 2)).toNat)] P0 P0 M (retL fun r3 M4 => Call K jModel_get [.inr (.inr 52), .inl (f ((l3 + 1)).toNat), .inl (f ((l3 + 2)).toNat)] P0 P0 M4 (retL fun r5 M6 => R64 r3 ∧ R64 r5 ∧ (r3 = r5 → G (some (n, f)) (K + 1) jLaw_law 1999 [(0, .inr (.inr 1000000)), (1, .inr (.inr 0)), (2, .inr (.inr 52)), (3, .inl l3)] [] P0 P0 M6 Q) ∧ (¬ r3 = r5 → Q (some (.inl 0)) M6)))) : G (some (n, f)) (K + 1) jLaw_law 1873 [(0, .inr (.inr 1000000)), (1, .inr (.inr 0)), (2, .inr (.inr 52)), (3, .inl l3)] [] P0 P0 M Q := by
  refine G_aload_n 1 rfl rfl (ck dc297_27 (i := 29) rfl) ?_
  refine G_aload_n 0 rfl rfl (ck dc297_27 (i := 30) rfl) ?_
  refine G_iload_n 3 rfl rfl (ck dc297_27 (i := 31) rfl) ?_
  refine G_iconst (ck dc297_27 (i := 32) rfl) ?_
  refine G_iadd (ck dc297_27 (i := 33) rfl) ?_
  obtain ⟨o1, h⟩ := h
  refine G_sld (ck dc297_27 (i := 34) rfl) o1 ?_
  refine G_aload_n 0 rfl rfl (ck dc297_27 (i := 35) rfl) ?_
  refine G_iload_n 3 rfl rfl (ck dc297_27 (i := 36) rfl) ?_
  refine G_iconst (ck dc297_27 (i := 37) rfl) ?_
  refine G_iadd (ck dc297_27 (i := 38) rfl) ?_
  obtain ⟨o2, h⟩ := h
  refine G_sld (ck dc297_27 (i := 39) rfl) o2 ?_
  refine H_vL mf297 (As := [.inl (f ((l3 + 1)).toNat), .inl (f ((l3 + 2)).toNat)]) (st := []) (ck dc297_27 (i := 40) rfl) lk_Law_222 rfl rfl (Nat.le_of_ble_eq_true rfl) ly0 ra0 ⟨Nat.le_refl _, Nat.le_refl _⟩ h (fun r3 M4 h => ?_)
  refine G_aload_n 2 rfl rfl (ck dc297_27 (i := 41) rfl) ?_
  refine G_aload_n 0 rfl rfl (ck dc297_27 (i := 42) rfl) ?_
  refine G_iload_n 3 rfl rfl (ck dc297_27 (i := 43) rfl) ?_
  refine G_iconst (ck dc297_27 (i := 44) rfl) ?_
  refine G_iadd (ck dc297_27 (i := 45) rfl) ?_
  refine G_sld (ck dc297_27 (i := 46) rfl) o1 ?_
  refine G_aload_n 0 rfl rfl (ck dc297_27 (i := 47) rfl) ?_
  refine G_iload_n 3 rfl rfl (ck dc297_28 (i := 0) rfl) ?_
  refine G_iconst (ck dc297_28 (i := 1) rfl) ?_
  refine G_iadd (ck dc297_28 (i := 2) rfl) ?_
  refine G_sld (ck dc297_28 (i := 3) rfl) o2 ?_
  refine H_vL mf297 (As := [.inl (f ((l3 + 1)).toNat), .inl (f ((l3 + 2)).toNat)]) (st := [.inr (.inl r3)]) (ck dc297_28 (i := 4) rfl) lk_Law_225 rfl rfl (Nat.le_of_ble_eq_true rfl) ly52 ra52 ⟨Nat.le_refl _, Nat.le_refl _⟩ h (fun r5 M6 h => ?_)
  obtain ⟨o7, h⟩ := h
  obtain ⟨o8, h⟩ := h
  refine G_lif_eq (tgt := 1999) (ck dc297_28 (i := 6) rfl) (by decide) o7 o8 (ck dc297_28 (i := 5) rfl) (fun c => ?_) (fun c => ?_)
  · replace h := h.1 c
    exact G_sub [0, 1, 2, 3] rfl h
  · replace h := h.2 c
    refine G_iconst (ck dc297_28 (i := 7) rfl) ?_
    exact H_iretZ mf297 (ck dc297_28 (i := 8) rfl) rfl (Or.inl rfl) h
set_option maxHeartbeats 20000000 in
theorem g_law_1907 (K : Nat) (n : Nat) (f : Nat → Int) (l3 : Int) (M : PM) (Q : Option PV → PM → Prop)
    (h : (0 ≤ (l3 + 1) ∧ (l3 + 1) < (n : Int)) ∧ (0 ≤ (l3 + 2) ∧ (l3 + 2) < (n : Int)) ∧ Call K jClearingWaves_lay [.inr (.inr 0), .inl (f ((l3 + 1)).toNat), .inl (f ((l3 + 2)).toNat)] P0 P0 M (retI fun r3 M4 => Call K jModel_lay [.inr (.inr 52), .inl (f ((l3 + 1)).toNat), .inl (f ((l3 + 2)).toNat)] P0 P0 M4 (retI fun r5 M6 => R32 r3 ∧ R32 r5 ∧ (r3 = r5 → G (some (n, f)) (K + 1) jLaw_law 1999 [(0, .inr (.inr 1000000)), (1, .inr (.inr 0)), (2, .inr (.inr 52)), (3, .inl l3)] [] P0 P0 M6 Q) ∧ (¬ r3 = r5 → Q (some (.inl 0)) M6)))) : G (some (n, f)) (K + 1) jLaw_law 1907 [(0, .inr (.inr 1000000)), (1, .inr (.inr 0)), (2, .inr (.inr 52)), (3, .inl l3)] [] P0 P0 M Q := by
  refine G_aload_n 1 rfl rfl (ck dc297_28 (i := 9) rfl) ?_
  refine G_aload_n 0 rfl rfl (ck dc297_28 (i := 10) rfl) ?_
  refine G_iload_n 3 rfl rfl (ck dc297_28 (i := 11) rfl) ?_
  refine G_iconst (ck dc297_28 (i := 12) rfl) ?_
  refine G_iadd (ck dc297_28 (i := 13) rfl) ?_
  obtain ⟨o1, h⟩ := h
  refine G_sld (ck dc297_28 (i := 14) rfl) o1 ?_
  refine G_aload_n 0 rfl rfl (ck dc297_28 (i := 15) rfl) ?_
  refine G_iload_n 3 rfl rfl (ck dc297_28 (i := 16) rfl) ?_
  refine G_iconst (ck dc297_28 (i := 17) rfl) ?_
  refine G_iadd (ck dc297_28 (i := 18) rfl) ?_
  obtain ⟨o2, h⟩ := h
  refine G_sld (ck dc297_28 (i := 19) rfl) o2 ?_
  refine H_vI mf297 (As := [.inl (f ((l3 + 1)).toNat), .inl (f ((l3 + 2)).toNat)]) (st := []) (ck dc297_28 (i := 20) rfl) lk_Law_226 rfl rfl (Nat.le_of_ble_eq_true rfl) ly0 ra0 ⟨Nat.le_refl _, Nat.le_refl _⟩ h (fun r3 M4 h => ?_)
  refine G_aload_n 2 rfl rfl (ck dc297_28 (i := 21) rfl) ?_
  refine G_aload_n 0 rfl rfl (ck dc297_28 (i := 22) rfl) ?_
  refine G_iload_n 3 rfl rfl (ck dc297_28 (i := 23) rfl) ?_
  refine G_iconst (ck dc297_28 (i := 24) rfl) ?_
  refine G_iadd (ck dc297_28 (i := 25) rfl) ?_
  refine G_sld (ck dc297_28 (i := 26) rfl) o1 ?_
  refine G_aload_n 0 rfl rfl (ck dc297_28 (i := 27) rfl) ?_
  refine G_iload_n 3 rfl rfl (ck dc297_28 (i := 28) rfl) ?_
  refine G_iconst (ck dc297_28 (i := 29) rfl) ?_
  refine G_iadd (ck dc297_28 (i := 30) rfl) ?_
  refine G_sld (ck dc297_28 (i := 31) rfl) o2 ?_
  refine H_vI mf297 (As := [.inl (f ((l3 + 1)).toNat), .inl (f ((l3 + 2)).toNat)]) (st := [.inl r3]) (ck dc297_28 (i := 32) rfl) lk_Law_229 rfl rfl (Nat.le_of_ble_eq_true rfl) ly52 ra52 ⟨Nat.le_refl _, Nat.le_refl _⟩ h (fun r5 M6 h => ?_)
  obtain ⟨o7, h⟩ := h
  obtain ⟨o8, h⟩ := h
  refine G_icmp_eq (tgt := 1999) (by decide) o7 o8 (ck dc297_28 (i := 33) rfl) (fun c => ?_) (fun c => ?_)
  · replace h := h.1 c
    exact G_sub [0, 1, 2, 3] rfl h
  · replace h := h.2 c
    refine G_iconst (ck dc297_28 (i := 34) rfl) ?_
    exact H_iretZ mf297 (ck dc297_28 (i := 35) rfl) rfl (Or.inl rfl) h
set_option maxHeartbeats 20000000 in
theorem g_law_1940 (K : Nat) (n : Nat) (f : Nat → Int) (l3 : Int) (M : PM) (Q : Option PV → PM → Prop)
    (h : (0 ≤ (l3 + 1) ∧ (l3 + 1) < (n : Int)) ∧ (0 ≤ (l3 + 2) ∧ (l3 + 2) < (n : Int)) ∧ Call K jClearingWaves_judge [.inr (.inr 0), .inl (f ((l3 + 1)).toNat), .inl (f ((l3 + 2)).toNat)] P0 P0 M (retI fun r3 M4 => Call K jModel_judge [.inr (.inr 52), .inl (f ((l3 + 1)).toNat), .inl (f ((l3 + 2)).toNat)] P0 P0 M4 (retI fun r5 M6 => R32 r3 ∧ R32 r5 ∧ (r3 = r5 → G (some (n, f)) (K + 1) jLaw_law 1999 [(0, .inr (.inr 1000000)), (1, .inr (.inr 0)), (2, .inr (.inr 52)), (3, .inl l3)] [] P0 P0 M6 Q) ∧ (¬ r3 = r5 → Q (some (.inl 0)) M6)))) : G (some (n, f)) (K + 1) jLaw_law 1940 [(0, .inr (.inr 1000000)), (1, .inr (.inr 0)), (2, .inr (.inr 52)), (3, .inl l3)] [] P0 P0 M Q := by
  refine G_aload_n 1 rfl rfl (ck dc297_28 (i := 36) rfl) ?_
  refine G_aload_n 0 rfl rfl (ck dc297_28 (i := 37) rfl) ?_
  refine G_iload_n 3 rfl rfl (ck dc297_28 (i := 38) rfl) ?_
  refine G_iconst (ck dc297_28 (i := 39) rfl) ?_
  refine G_iadd (ck dc297_28 (i := 40) rfl) ?_
  obtain ⟨o1, h⟩ := h
  refine G_sld (ck dc297_28 (i := 41) rfl) o1 ?_
  refine G_aload_n 0 rfl rfl (ck dc297_28 (i := 42) rfl) ?_
  refine G_iload_n 3 rfl rfl (ck dc297_28 (i := 43) rfl) ?_
  refine G_iconst (ck dc297_28 (i := 44) rfl) ?_
  refine G_iadd (ck dc297_28 (i := 45) rfl) ?_
  obtain ⟨o2, h⟩ := h
  refine G_sld (ck dc297_28 (i := 46) rfl) o2 ?_
  refine H_vI mf297 (As := [.inl (f ((l3 + 1)).toNat), .inl (f ((l3 + 2)).toNat)]) (st := []) (ck dc297_28 (i := 47) rfl) lk_Law_230 rfl rfl (Nat.le_of_ble_eq_true rfl) ly0 ra0 ⟨Nat.le_refl _, Nat.le_refl _⟩ h (fun r3 M4 h => ?_)
  refine G_aload_n 2 rfl rfl (ck dc297_29 (i := 0) rfl) ?_
  refine G_aload_n 0 rfl rfl (ck dc297_29 (i := 1) rfl) ?_
  refine G_iload_n 3 rfl rfl (ck dc297_29 (i := 2) rfl) ?_
  refine G_iconst (ck dc297_29 (i := 3) rfl) ?_
  refine G_iadd (ck dc297_29 (i := 4) rfl) ?_
  refine G_sld (ck dc297_29 (i := 5) rfl) o1 ?_
  refine G_aload_n 0 rfl rfl (ck dc297_29 (i := 6) rfl) ?_
  refine G_iload_n 3 rfl rfl (ck dc297_29 (i := 7) rfl) ?_
  refine G_iconst (ck dc297_29 (i := 8) rfl) ?_
  refine G_iadd (ck dc297_29 (i := 9) rfl) ?_
  refine G_sld (ck dc297_29 (i := 10) rfl) o2 ?_
  refine H_vI mf297 (As := [.inl (f ((l3 + 1)).toNat), .inl (f ((l3 + 2)).toNat)]) (st := [.inl r3]) (ck dc297_29 (i := 11) rfl) lk_Law_233 rfl rfl (Nat.le_of_ble_eq_true rfl) ly52 ra52 ⟨Nat.le_refl _, Nat.le_refl _⟩ h (fun r5 M6 h => ?_)
  obtain ⟨o7, h⟩ := h
  obtain ⟨o8, h⟩ := h
  refine G_icmp_eq (tgt := 1999) (by decide) o7 o8 (ck dc297_29 (i := 12) rfl) (fun c => ?_) (fun c => ?_)
  · replace h := h.1 c
    exact G_sub [0, 1, 2, 3] rfl h
  · replace h := h.2 c
    refine G_iconst (ck dc297_29 (i := 13) rfl) ?_
    exact H_iretZ mf297 (ck dc297_29 (i := 14) rfl) rfl (Or.inl rfl) h
set_option maxHeartbeats 20000000 in
theorem g_law_1973 (K : Nat) (n : Nat) (f : Nat → Int) (l3 : Int) (M : PM) (Q : Option PV → PM → Prop)
    (h : Call K jClearingWaves_image [.inr (.inr 0)] P0 P0 M (retI fun r1 M2 => Call K jModel_image [.inr (.inr 52)] P0 P0 M2 (retI fun r3 M4 => R32 r1 ∧ R32 r3 ∧ (r1 = r3 → G (some (n, f)) (K + 1) jLaw_law 1999 [(0, .inr (.inr 1000000)), (1, .inr (.inr 0)), (2, .inr (.inr 52)), (3, .inl l3)] [] P0 P0 M4 Q) ∧ (¬ r1 = r3 → Q (some (.inl 0)) M4)))) : G (some (n, f)) (K + 1) jLaw_law 1973 [(0, .inr (.inr 1000000)), (1, .inr (.inr 0)), (2, .inr (.inr 52)), (3, .inl l3)] [] P0 P0 M Q := by
  refine G_aload_n 1 rfl rfl (ck dc297_29 (i := 15) rfl) ?_
  refine H_vI mf297 (As := []) (st := []) (ck dc297_29 (i := 16) rfl) lk_Law_234 rfl rfl (Nat.le_of_ble_eq_true rfl) ly0 ra0 ⟨Nat.le_refl _, Nat.le_refl _⟩ h (fun r1 M2 h => ?_)
  refine G_aload_n 2 rfl rfl (ck dc297_29 (i := 17) rfl) ?_
  refine H_vI mf297 (As := []) (st := [.inl r1]) (ck dc297_29 (i := 18) rfl) lk_Law_237 rfl rfl (Nat.le_of_ble_eq_true rfl) ly52 ra52 ⟨Nat.le_refl _, Nat.le_refl _⟩ h (fun r3 M4 h => ?_)
  obtain ⟨o5, h⟩ := h
  obtain ⟨o6, h⟩ := h
  refine G_icmp_eq (tgt := 1999) (by decide) o5 o6 (ck dc297_29 (i := 19) rfl) (fun c => ?_) (fun c => ?_)
  · replace h := h.1 c
    exact G_sub [0, 1, 2, 3] rfl h
  · replace h := h.2 c
    refine G_iconst (ck dc297_29 (i := 20) rfl) ?_
    exact H_iretZ mf297 (ck dc297_29 (i := 21) rfl) rfl (Or.inl rfl) h
set_option maxHeartbeats 20000000 in
theorem g_law_1986 (K : Nat) (n : Nat) (f : Nat → Int) (l3 : Int) (M : PM) (Q : Option PV → PM → Prop)
    (h : Call K jClearingWaves_undo [.inr (.inr 0)] P0 P0 M (retI fun r1 M2 => Call K jModel_undo [.inr (.inr 52)] P0 P0 M2 (retI fun r3 M4 => R32 r1 ∧ R32 r3 ∧ (r1 = r3 → G (some (n, f)) (K + 1) jLaw_law 1999 [(0, .inr (.inr 1000000)), (1, .inr (.inr 0)), (2, .inr (.inr 52)), (3, .inl l3)] [] P0 P0 M4 Q) ∧ (¬ r1 = r3 → Q (some (.inl 0)) M4)))) : G (some (n, f)) (K + 1) jLaw_law 1986 [(0, .inr (.inr 1000000)), (1, .inr (.inr 0)), (2, .inr (.inr 52)), (3, .inl l3)] [] P0 P0 M Q := by
  refine G_aload_n 1 rfl rfl (ck dc297_29 (i := 22) rfl) ?_
  refine H_vI mf297 (As := []) (st := []) (ck dc297_29 (i := 23) rfl) lk_Law_238 rfl rfl (Nat.le_of_ble_eq_true rfl) ly0 ra0 ⟨Nat.le_refl _, Nat.le_refl _⟩ h (fun r1 M2 h => ?_)
  refine G_aload_n 2 rfl rfl (ck dc297_29 (i := 24) rfl) ?_
  refine H_vI mf297 (As := []) (st := [.inl r1]) (ck dc297_29 (i := 25) rfl) lk_Law_241 rfl rfl (Nat.le_of_ble_eq_true rfl) ly52 ra52 ⟨Nat.le_refl _, Nat.le_refl _⟩ h (fun r3 M4 h => ?_)
  obtain ⟨o5, h⟩ := h
  obtain ⟨o6, h⟩ := h
  refine G_icmp_eq (tgt := 1999) (by decide) o5 o6 (ck dc297_29 (i := 26) rfl) (fun c => ?_) (fun c => ?_)
  · replace h := h.1 c
    exact G_sub [0, 1, 2, 3] rfl h
  · replace h := h.2 c
    refine G_iconst (ck dc297_29 (i := 27) rfl) ?_
    exact H_iretZ mf297 (ck dc297_29 (i := 28) rfl) rfl (Or.inl rfl) h
set_option maxHeartbeats 20000000 in
theorem g_law_1999 (K : Nat) (n : Nat) (f : Nat → Int) (l3 : Int) (M : PM) (Q : Option PV → PM → Prop)
    (h : G (some (n, f)) (K + 1) jLaw_law 18 [(0, .inr (.inr 1000000)), (1, .inr (.inr 0)), (2, .inr (.inr 52)), (3, .inl (l3 + 6))] [] P0 P0 M Q) : G (some (n, f)) (K + 1) jLaw_law 1999 [(0, .inr (.inr 1000000)), (1, .inr (.inr 0)), (2, .inr (.inr 52)), (3, .inl l3)] [] P0 P0 M Q := by
  refine G_iinc (L' := [(3, .inl (l3 + 6)), (0, .inr (.inr 1000000)), (1, .inr (.inr 0)), (2, .inr (.inr 52))]) 3 rfl (mfx.lt mf297 (Nat.le_of_ble_eq_true rfl)) rfl (ck dc297_29 (i := 29) rfl) ?_
  refine G_goto (tgt := 18) (by decide) (ck dc297_29 (i := 30) rfl) ?_
  exact G_sub [1, 2, 3, 0] rfl h
