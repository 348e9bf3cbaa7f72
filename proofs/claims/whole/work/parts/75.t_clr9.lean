/-! THE CLASS's clearing (ct): what is paid -/
theorem ct_top_ {K : Nat} {r h c : Int} {M : PM} {Q : Option PV → PM → Prop} (hr : 0 ≤ r ∧ r ≤ 5) (hh : hs h) (hc : kl c) (hq : Q (some (.inr (.inl (ct_X M r h c)))) M) : Call (K + 1) jClearing_top [.inr (.inr 24), .inl r, .inl h, .inl c] P0 P0 M Q :=
  c_ct_top K r h c M Q ⟨⟨by omega, by omega⟩, hq⟩
theorem ct_bottom_ {K : Nat} {r : Int} {M : PM} {Q : Option PV → PM → Prop} (hr : 0 ≤ r ∧ r ≤ 5) (hq : Q (some (.inr (.inl (M 27 r)))) M) : Call (K + 1) jClearing_bottom [.inr (.inr 24), .inl r] P0 P0 M Q :=
  c_ct_bottom K r M Q ⟨⟨by omega, by omega⟩, hq⟩
theorem ct_pays_ {K : Nat} {h : Int} {M : PM} {Q : Option PV → PM → Prop} (hw : 0 ≤ M 24 0 ∧ M 24 0 ≤ 5) (hh : hs h) (hd : ∀ c, kl c → 0 ≤ M 28 ((h * 3) + c) ∧ M 28 ((h * 3) + c) ≤ 80) (hq : Q (some (.inr (.inl (s3 fun c => M 28 ((h * 3) + c) * ct_X M (M 24 0) h c)))) M) : Call (K + 2) jClearing_pays [.inr (.inr 24), .inl h] P0 P0 M Q := by
  have st : ∀ (c v : Int), kl c → G none (K + 1 + 1) jClearing_pays 5 [(0, .inr (.inr 24)), (1, .inl h), (2, .inr (.inl (v + M 28 ((h * 3) + c) * ct_X M (M 24 0) h c))), (4, .inl (c + 1))] [] P0 P0 M Q → G none (K + 1 + 1) jClearing_pays 5 [(0, .inr (.inr 24)), (1, .inl h), (2, .inr (.inl v)), (4, .inl c)] [] P0 P0 M Q := by
    intro c v hc go
    have b := hd c hc
    exact g_ct_pays_5 _ _ _ _ _ _ ⟨⟨by omega, by omega⟩, fun q => absurd q (by omega), fun _ => ⟨⟨by omega, by omega⟩, ⟨by omega, by omega⟩, ct_top_ hw hh hc go⟩⟩
  refine c_ct_pays (K + 1) h M Q (st 0 0 (by decide) (st 1 _ (by decide) (st 2 _ (by decide) ?_)))
  refine g_ct_pays_5 _ _ _ _ _ _ ⟨by decide, fun _ => ?_, fun q => absurd (by decide) q⟩
  have e : 0 + M 28 ((h * 3) + 0) * ct_X M (M 24 0) h 0 + M 28 ((h * 3) + 1) * ct_X M (M 24 0) h 1 + M 28 ((h * 3) + 2) * ct_X M (M 24 0) h 2 = s3 fun c => M 28 ((h * 3) + c) * ct_X M (M 24 0) h c := by simp only [s3]; omega
  rw [e]
  exact hq
theorem ct_allPaid_ {K : Nat} {M : PM} {Q : Option PV → PM → Prop} (B : XB M) (hw : 0 ≤ M 24 0 ∧ M 24 0 ≤ 5) (hd : ∀ h c, hs h → kl c → M 28 ((h * 3) + c) = xd M h c) (hq : Q (some (.inr (.inl (s5 fun h => yt (ct_g M) (ct_X M (M 24 0)) h)))) M) : Call (K + 3) jClearing_allPaid [.inr (.inr 24)] P0 P0 M Q := by
  have hn := B.1
  have ey : ∀ h, hs h → (s3 fun c => M 28 ((h * 3) + c) * ct_X M (M 24 0) h c) = yt (ct_g M) (ct_X M (M 24 0)) h := fun h hh => s3_congr fun c hc => by rw [hd h c hh hc]; rfl
  have loop : ∀ (n : Nat) (h v : Int), 0 ≤ h → h + (n : Int) = M 1 0 → v = pcs (fun h => yt (ct_g M) (ct_X M (M 24 0)) h) h.toNat → G none (K + 2 + 1) jClearing_allPaid 4 [(0, .inr (.inr 24)), (1, .inr (.inl v)), (3, .inl h)] [] P0 P0 M Q := by
    intro n
    induction n with
    | zero =>
      intro h v h0 hh hv
      refine g_ct_allPaid_4 _ _ _ _ _ ⟨⟨by omega, by omega⟩, ⟨by omega, by omega⟩, fun _ => ?_, fun q => absurd (by omega) q⟩
      rw [hv, show h = M 1 0 by omega, pcs_n5 hn (fun k hk hk2 => by
        have e : ∀ c, kl c → due (ct_g M) k c = 0 := fun c hc => by
          show (s5 fun t => xo M k t c) = 0
          rw [s5_congr (g := fun _ => 0) (fun t ht => B.2.2.2.2.2.2.2 k t c hk ht hc (Or.inl hk2))]
          rfl
        simp only [yt, s3]
        rw [e 0 (by decide), e 1 (by decide), e 2 (by decide)]
        omega)]
      exact hq
    | succ n ih =>
      intro h v h0 hh hv
      have hhs : hs h := ⟨h0, by omega⟩
      refine g_ct_allPaid_4 _ _ _ _ _ ⟨⟨by omega, by omega⟩, ⟨by omega, by omega⟩, fun q => absurd q (by omega), fun _ => ct_pays_ hw hhs (fun c hc => by rw [hd h c hhs hc]; exact xd_b B hhs hc) ?_⟩
      rw [ey h hhs]
      exact ih (h + 1) _ (by omega) (by omega) (by rw [hv, pcs_up _ h0])
  exact c_ct_allPaid (K + 2) M Q (loop (M 1 0).toNat 0 0 (by decide) (by omega) rfl)
