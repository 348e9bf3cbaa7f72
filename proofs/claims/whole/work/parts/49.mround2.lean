/-! THE MODEL's rounds: what a house gets, its worth, who fails more -/
theorem m_getsIn {K : Nat} {M : PM} {r h : Int} {Q : Option PV → PM → Prop} (B : MB M) (hh : hs h) (hr : 0 ≤ r ∧ r ≤ 5) (hq : Q (some (.inr (.inl (gt (gM M) (rX M r) h)))) M) : Call (K + 3) jModel_getsIn [.inr (.inr 52), .inl r, .inl h] P0 P0 M Q := by
  have hn := B.1
  have in_ : ∀ (f v : Int), hs f → G none (K + 2 + 1) jModel_getsIn 5 [(0, .inr (.inr 52)), (1, .inl r), (2, .inl h), (3, .inr (.inl (v + s3 fun c => mo M f h c * rX M r f c))), (5, .inl (f + 1))] [] P0 P0 M Q →
      G none (K + 2 + 1) jModel_getsIn 19 [(0, .inr (.inr 52)), (1, .inl r), (2, .inl h), (3, .inr (.inl v)), (5, .inl f), (6, .inl 0)] [] P0 P0 M Q := by
    intro f v hf hg
    have st : ∀ (c v' : Int), kl c → G none (K + 2 + 1) jModel_getsIn 19 [(0, .inr (.inr 52)), (1, .inl r), (2, .inl h), (3, .inr (.inl (v' + mo M f h c * rX M r f c))), (5, .inl f), (6, .inl (c + 1))] [] P0 P0 M Q →
        G none (K + 2 + 1) jModel_getsIn 19 [(0, .inr (.inr 52)), (1, .inl r), (2, .inl h), (3, .inr (.inl v')), (5, .inl f), (6, .inl c)] [] P0 P0 M Q := by
      intro c v' hc hg'
      have hb := B.2.2.2.2.1 f h c hf hh hc
      refine g_m_getsIn_19 _ _ _ _ _ _ _ _ ⟨⟨by omega, by omega⟩, fun q => absurd q (by omega), fun _ => m_owes hf hh hc ⟨⟨by omega, by omega⟩, c_m_partAt _ _ _ _ _ _ ⟨⟨by omega, by omega⟩, hg'⟩⟩⟩
    refine st 0 v (by decide) (st 1 _ (by decide) (st 2 _ (by decide) ?_))
    refine g_m_getsIn_19 _ _ _ _ _ _ _ _ ⟨by decide, fun _ => ?_, fun q => absurd (by decide) q⟩
    have e : v + mo M f h 0 * rX M r f 0 + mo M f h 1 * rX M r f 1 + mo M f h 2 * rX M r f 2 = v + s3 fun c => mo M f h c * rX M r f c := by simp only [s3]; omega
    show G none (K + 2 + 1) jModel_getsIn 5 [(0, .inr (.inr 52)), (1, .inl r), (2, .inl h), (3, .inr (.inl (v + mo M f h 0 * rX M r f 0 + mo M f h 1 * rX M r f 1 + mo M f h 2 * rX M r f 2))), (5, .inl (f + 1))] [] P0 P0 M Q
    rw [e]
    exact hg
  have out : ∀ (n : Nat) (f v : Int), 0 ≤ f → f + (n : Int) = M 55 0 → v = pcs (fun f => s3 fun c => mo M f h c * rX M r f c) f.toNat → G none (K + 2 + 1) jModel_getsIn 5 [(0, .inr (.inr 52)), (1, .inl r), (2, .inl h), (3, .inr (.inl v)), (5, .inl f)] [] P0 P0 M Q := by
    intro n
    induction n with
    | zero =>
      intro f v h0 hf hv
      refine g_m_getsIn_5 _ _ _ _ _ _ _ ⟨⟨by omega, by omega⟩, ⟨by omega, by omega⟩, fun _ => ?_, fun q => absurd (by omega) q⟩
      obtain ⟨w, hw⟩ : ∃ w : Int → Int, w = fun k => s3 fun c => mo M k h c * rX M r k c := ⟨_, rfl⟩
      have z : ∀ k, M 55 0 ≤ k → hs k → w k = 0 := fun k h1 h2 => by
        have e := fun c hc => B.2.2.2.2.2.2.2 k h c h2 hh hc (Or.inl h1)
        rw [hw]
        simp only [s3]
        rw [e 0 (by decide), e 1 (by decide), e 2 (by decide)]
        omega
      have e : v = gt (gM M) (rX M r) h := by
        rw [hv]
        show _ = s5 fun k => s3 fun c => mo M k h c * rX M r k c
        rw [← hw]
        have hc : f = 2 ∨ f = 3 ∨ f = 4 ∨ f = 5 := by omega
        rcases hc with rfl | rfl | rfl | rfl
        · have z2 := z 2 (by omega) (by omega); have z3 := z 3 (by omega) (by omega); have z4 := z 4 (by omega) (by omega)
          show (0 + w 0) + w 1 = _
          simp only [s5]; omega
        · have z3 := z 3 (by omega) (by omega); have z4 := z 4 (by omega) (by omega)
          show ((0 + w 0) + w 1) + w 2 = _
          simp only [s5]; omega
        · have z4 := z 4 (by omega) (by omega)
          show (((0 + w 0) + w 1) + w 2) + w 3 = _
          simp only [s5]; omega
        · show ((((0 + w 0) + w 1) + w 2) + w 3) + w 4 = _
          simp only [s5]; omega
      rw [e]
      exact hq
    | succ n ih =>
      intro f v h0 hf hv
      refine g_m_getsIn_5 _ _ _ _ _ _ _ ⟨⟨by omega, by omega⟩, ⟨by omega, by omega⟩, fun q => absurd q (by omega), fun _ => in_ f v ⟨h0, by omega⟩ (ih (f + 1) _ (by omega) (by omega) ?_)⟩
      rw [hv, show (f + 1).toNat = f.toNat + 1 by omega, pcs, Int.toNat_of_nonneg h0]
  exact c_m_getsIn (K + 2) r h M Q (out (M 55 0).toNat 0 0 (by decide) (by omega) rfl)
/-- what a house is worth in a round, times the round's common bottom -/
def wth (g : Ck) (X : Int → Int → Int) (D h : Int) : Int := ckC g h * D + gt g X h
theorem m_worth {K : Nat} {M : PM} {r h : Int} {Q : Option PV → PM → Prop} (B : MB M) (hpu : ∀ h, hs h → 0 ≤ M 61 h ∧ M 61 h ≤ 400) (hh : hs h) (hr : 0 ≤ r ∧ r ≤ 5) (hq : Q (some (.inr (.inl (wth (gM M) (rX M r) (M 59 r) h)))) M) : Call (K + 4) jModel_worth [.inr (.inr 52), .inl r, .inl h] P0 P0 M Q := by
  have hp := hpu h hh
  exact c_m_worth (K + 3) r h M Q ⟨by omega, ⟨by omega, by omega⟩, ⟨by omega, by omega⟩, m_getsIn B hh hr hq⟩
abbrev fl (g : Ck) (X : Int → Int → Int) (D h : Int) : Prop := wth g X D h < (s3 fun c => due g h c) * D
theorem set32 {s : Int} (h : ms s) (h5 : tb s 5 = false) : 0 ≤ s ∧ s < 32 := by
  have k : ∀ i : Fin 64, tb ((i.val : Nat) : Int) 5 = false → 0 ≤ ((i.val : Nat) : Int) ∧ ((i.val : Nat) : Int) < 32 := by decide +kernel
  exact fin_all (n := 64) (P := fun s => tb s 5 = false → 0 ≤ s ∧ s < 32) k h.1 h.2 h5
theorem m_failsMore {K : Nat} {M : PM} {Q : Option PV → PM → Prop} (B : MB M) (hpu : ∀ h, hs h → 0 ≤ M 61 h ∧ M 61 h ≤ 400) (hf : 0 ≤ M 52 13 ∧ M 52 13 < 32) (hr : 0 ≤ M 52 9 ∧ M 52 9 ≤ 5) (hD : 0 < M 59 (M 52 9) ∧ M 59 (M 52 9) ≤ 327680000000000) (hX : ∀ h c, hs h → kl c → 0 ≤ rX M (M 52 9) h c ∧ rX M (M 52 9) h c ≤ M 59 (M 52 9))
    (hq : ∀ M' s, Ag [60] M M' → (0 ≤ s ∧ s < 32) → (∀ k, hs k → tb s k = (decide (k < M 55 0) && (!tb (M 52 13) k && decide (fl (gM M) (rX M (M 52 9)) (M 59 (M 52 9)) k)))) → (∀ k, hs k → M' 60 k = if tb s k = true then M 52 9 + 1 else M 60 k) → Q (some (.inl s)) M') :
    Call (K + 5) jModel_failsMore [.inr (.inr 52)] P0 P0 M Q := by
  have hn := B.1
  have Og := gM_ok B hpu
  have loop : ∀ (n : Nat) (h s : Int) (M1 : PM), 0 ≤ h → h + (n : Int) = M 55 0 → Ag [60] M M1 → ms s → (∀ k, mk6 k → tb s k = (decide (k < h) && (!tb (M 52 13) k && decide (fl (gM M) (rX M (M 52 9)) (M 59 (M 52 9)) k)))) → (∀ k, hs k → M1 60 k = if tb s k = true then M 52 9 + 1 else M 60 k) →
      G none (K + 4 + 1) jModel_failsMore 4 [(0, .inr (.inr 52)), (1, .inl s), (2, .inl h)] [] P0 P0 M1 Q := by
    intro n
    induction n with
    | zero =>
      intro h s M1 h0 hh hA hms ht h60
      have h55 : M1 55 = M 55 := hA 55 (by decide)
      refine g_m_failsMore_4 _ _ _ _ _ ⟨⟨by omega, by omega⟩, by rw [h55]; exact ⟨by omega, by omega⟩, fun _ => ?_, fun q => absurd (by rw [h55]; omega) q⟩
      have h5 : tb s 5 = false := by
        rw [ht 5 (by decide), decide_eq_false (show ¬ (5 : Int) < h by omega)]
        rfl
      refine hq M1 s hA (set32 hms h5) (fun k hk => ?_) h60
      rw [ht k ⟨hk.1, by omega⟩, show h = M 55 0 by omega]
    | succ n ih =>
      intro h s M1 h0 hh hA hms ht h60
      have h55 : M1 55 = M 55 := hA 55 (by decide)
      have h52 : M1 52 = M 52 := hA 52 (by decide)
      have h61 : M1 61 = M 61 := hA 61 (by decide)
      have h59 : M1 59 = M 59 := hA 59 (by decide)
      have h58 : M1 58 = M 58 := hA 58 (by decide)
      have hg : gM M1 = gM M := gM_of h55 h61
      have hrx : rX M1 = rX M := by funext r h c; unfold rX; rw [h58]
      have hhs : hs h := ⟨h0, by omega⟩
      have step : ∀ k, mk6 k → k ≠ h → (decide (k < h) : Bool) = decide (k < h + 1) := fun k hk hne => by
        by_cases q : k < h
        · rw [decide_eq_true q, decide_eq_true (show k < h + 1 by omega)]
        · rw [decide_eq_false q, decide_eq_false (show ¬ k < h + 1 by omega)]
      have hsh : tb s h = false := by
        rw [ht h ⟨h0, by omega⟩, decide_eq_false (show ¬ h < h by omega)]
        rfl
      refine g_m_failsMore_4 _ _ _ _ _ ⟨⟨by omega, by omega⟩, by rw [h55]; exact ⟨by omega, by omega⟩, fun q => absurd q (by rw [h55]; omega), fun _ => ?_⟩
      rw [h52]
      refine m_isIn (K := K + 3) ⟨hf.1, by omega⟩ ⟨h0, by omega⟩ ⟨b2i_R _, fun c => ?_, fun c => ?_⟩
      · have c' : tb (M 52 13) h = true := by
          cases q : tb (M 52 13) h
          · rw [q] at c; exact absurd rfl c
          · rfl
        refine ih (h + 1) s M1 (by omega) (by omega) hA hms (fun k hk => ?_) h60
        by_cases q : k = h
        · rw [q, hsh, c', Bool.not_true, Bool.false_and, Bool.and_false]
        · rw [ht k hk, step k hk q]
      · have c' := b2i_0.mp c
        rw [h52]
        refine m_worth (K := K) (B.of h55) (by rw [h61]; exact hpu) hhs ⟨hr.1, hr.2⟩ ?_
        rw [hg, hrx, h59]
        refine m_dueInAll (K := K) hhs ?_
        rw [md_of h55]
        show R32 (s3 fun c => md M h c) ∧ _
        rw [h52, h59]
        have hdu := fun c hc => md_b B hhs (c := c) hc
        have hd0 := hdu 0 (by decide); have hd1 := hdu 1 (by decide); have hd2 := hdu 2 (by decide)
        have hds : 0 ≤ (s3 fun c => md M h c) ∧ (s3 fun c => md M h c) ≤ 240 := by simp only [s3]; omega
        have hb1 : 0 ≤ (s3 fun c => md M h c) * M 59 (M 52 9) ∧ (s3 fun c => md M h c) * M 59 (M 52 9) ≤ 240 * M 59 (M 52 9) := ⟨Int.mul_nonneg hds.1 (by omega), Int.mul_le_mul_of_nonneg_right hds.2 (by omega)⟩
        have hw1 : 0 ≤ M 61 h * M 59 (M 52 9) ∧ M 61 h * M 59 (M 52 9) ≤ 400 * M 59 (M 52 9) := ⟨Int.mul_nonneg (hpu h hhs).1 (by omega), Int.mul_le_mul_of_nonneg_right (hpu h hhs).2 (by omega)⟩
        have ht1 : ∀ k c, hs k → kl c → 0 ≤ mo M k h c * rX M (M 52 9) k c ∧ mo M k h c * rX M (M 52 9) k c ≤ 20 * M 59 (M 52 9) := fun k c hk hc => by
          have h1 := B.2.2.2.2.1 k h c hk hhs hc
          have h2 := hX k c hk hc
          exact ⟨Int.mul_nonneg h1.1 h2.1, Int.mul_le_mul h1.2 h2.2 h2.1 (by omega)⟩
        have hg1 : 0 ≤ gt (gM M) (rX M (M 52 9)) h ∧ gt (gM M) (rX M (M 52 9)) h ≤ 300 * M 59 (M 52 9) := by
          have h3 : ∀ k, hs k → 0 ≤ (s3 fun c => mo M k h c * rX M (M 52 9) k c) ∧ (s3 fun c => mo M k h c * rX M (M 52 9) k c) ≤ 60 * M 59 (M 52 9) := fun k hk => by
            have a0 := ht1 k 0 hk (by decide); have a1 := ht1 k 1 hk (by decide); have a2 := ht1 k 2 hk (by decide)
            simp only [s3]; omega
          have a0 := h3 0 (by decide); have a1 := h3 1 (by decide); have a2 := h3 2 (by decide); have a3 := h3 3 (by decide); have a4 := h3 4 (by decide)
          show 0 ≤ (s5 fun k => s3 fun c => mo M k h c * rX M (M 52 9) k c) ∧ (s5 fun k => s3 fun c => mo M k h c * rX M (M 52 9) k c) ≤ 300 * M 59 (M 52 9)
          simp only [s5]; omega
        have hwv : wth (gM M) (rX M (M 52 9)) (M 59 (M 52 9)) h = M 61 h * M 59 (M 52 9) + gt (gM M) (rX M (M 52 9)) h := rfl
        have hfl : fl (gM M) (rX M (M 52 9)) (M 59 (M 52 9)) h ↔ ¬ (s3 fun c => md M h c) * M 59 (M 52 9) ≤ wth (gM M) (rX M (M 52 9)) (M 59 (M 52 9)) h := by
          show wth (gM M) (rX M (M 52 9)) (M 59 (M 52 9)) h < (s3 fun c => md M h c) * M 59 (M 52 9) ↔ _
          omega
        refine ⟨⟨by omega, by omega⟩, ⟨by omega, by omega⟩, ⟨by omega, by omega⟩, ⟨by omega, by omega⟩, fun c2 => ?_, fun c2 => ⟨hhs, ?_⟩⟩
        · refine ih (h + 1) s M1 (by omega) (by omega) hA hms (fun k hk => ?_) h60
          by_cases q : k = h
          · rw [q, hsh, decide_eq_false (show ¬ fl (gM M) (rX M (M 52 9)) (M 59 (M 52 9)) h from fun z => (hfl.mp z) c2), Bool.and_false, Bool.and_false]
          · rw [ht k hk, step k hk q]
        · have ho := bit_one (k := h) ⟨h0, by omega⟩
          have hor := bit_or hms ho.1
          refine ih (h + 1) _ _ (by omega) (by omega) (hA.set (by decide)) hor.1 (fun k hk => ?_) (fun k hk => ?_)
          · rw [hor.2 k hk, ho.2 k hk]
            by_cases q : k = h
            · rw [q, hsh, c', decide_eq_true (show h < h + 1 by omega), decide_eq_true (hfl.mpr c2), decide_eq_true (rfl : h = h)]
              rfl
            · rw [decide_eq_false q, Bool.or_false, ht k hk, step k hk q]
          · rw [hor.2 k ⟨hk.1, by omega⟩, ho.2 k ⟨hk.1, by omega⟩]
            by_cases q : k = h
            · rw [q, mset_eq, decide_eq_true (rfl : h = h), Bool.or_true, if_pos rfl]
            · have : (mset M1 60 h (M 52 9 + 1)) 60 k = M1 60 k := by simp [mset, q]
              rw [this, decide_eq_false q, Bool.or_false]
              exact h60 k hk
  exact c_m_failsMore (K + 4) M Q (loop (M 55 0).toNat 0 0 M (by decide) (by omega) (Ag.rf _ _) (by decide) (fun k hk => by rw [tb_0, decide_eq_false (show ¬ k < 0 by omega)]; rfl) (fun k hk => by rw [tb_0]; rfl))
