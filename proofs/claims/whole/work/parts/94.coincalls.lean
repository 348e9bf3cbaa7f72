/-! COINS: coin, steps, coinFails, gone -/
theorem x_coined {K : Nat} {M : PM} {Q : Option PV → PM → Prop} (I : Iv M) (hq : ∀ M', Ag [0, 37, 38, 39] M M' → Iv M' → CoV M' → Q (some (.inr (.inr 37))) M') : Call (K + 7) jClearingWaves_coined [.inr (.inr 0)] P0 P0 M Q := by
  have C := I.2.2.2.2.2.2.1
  refine c_x_coined (K + 6) M Q ⟨by rcases C.1 with z | z <;> rw [z] <;> decide, fun c => hq M (Ag.rf _ _) I (C.2 c), fun c => co_walk I.1.xb (fun M1 hA cv => ?_)⟩
  have n : ∀ a, a ≠ 0 → (mset M1 0 9 0) a = M1 a := fun a ha => mset_ne ha
  have cv' : CoV (mset M1 0 9 0) := cv.of (n 1 (by decide)) (n 2 (by decide)) (n 3 (by decide)) (n 37 (by decide)) (n 38 (by decide)) (n 39 (by decide))
  have hA' : Ag [0, 37, 38, 39] M (mset M1 0 9 0) := (hA.mono (by decide)).set (by decide)
  have h0 : ∀ i, i ≠ 9 → (mset M1 0 9 0) 0 i = M 0 i := fun i hi => by rw [show (mset M1 0 9 0) 0 i = M1 0 i by simp [mset, hi], hA 0 (by decide)]
  have h52 : (mset M1 0 9 0) 52 = M 52 := hA' 52 (by decide)
  refine hq _ hA' (I.upd (hA'.mono (by decide)) (h0 2 (by decide)) (by rw [h52]) (by rw [h52]) (by rw [h52]) ?_ ⟨Or.inl mset_eq, fun _ => cv'⟩ ?_) cv'
  · exact I.2.2.2.2.2.1.of (h0 7 (by decide)) (hA' 1 (by decide)) (hA' 2 (by decide)) (hA' 3 (by decide)) (hA' 11 (by decide)) (hA' 12 (by decide)) (hA' 13 (by decide)) (hA' 14 (by decide)) (hA' 15 (by decide)) (hA' 16 (by decide))
  · exact I.2.2.2.2.2.2.2.of (by rw [h52]) (hA' 55 (by decide)) (by rw [h52]) (by rw [h52]) (hA' 58 (by decide)) (hA' 59 (by decide)) (hA' 60 (by decide)) (hA' 61 (by decide))
/-- the same coins on both sides -/
theorem m_stepj {K : Nat} {M : PM} {Q : Option PV → PM → Prop} (I : Iv M) (cv : CoV M) (hq : ∀ M', Ag [52, 67, 68] M M' → Iv M' → CE (mP M') (xP M) → Q (some (.inl (M 37 0))) M') : Call (K + 7) jModel_stepsOn [.inr (.inr 52)] P0 P0 M Q := by
  refine m_stepsOn I.1.mb (fun M1 N hA hi mc => ?_)
  obtain ⟨N', c1, c2, c3, c4⟩ := cv
  have E := I.1.eq
  have k55 : M1 55 = M 55 := hA 55 (by decide)
  have w := mc.1
  have ce := mc.2
  rw [gK_of k55] at w ce
  have e : N' = N := Wlk.uniq c1 (w.onr E.symm)
  have I1 : Iv M1 := I.scrm (hA.mono (by decide)) (hi 2 (by decide)) (hi 6 (by decide)) (hi 32 (by decide)) (I.2.2.2.2.2.2.2.of (hi 4 (by decide)) k55 (hi 9 (by decide)) (hi 13 (by decide)) (hA 58 (by decide)) (hA 59 (by decide)) (hA 60 (by decide)) (hA 61 (by decide)))
  have := hq M1 hA I1 (ce.trans ((cit_r E N).trans (by rw [← e]; exact c3.symm)))
  rw [c2, e] at this
  exact this
theorem cov_b {M : PM} (B : XB M) (cv : CoV M) : (0 ≤ M 37 0 ∧ M 37 0 ≤ 1500) ∧ (∀ h t c, hs h → hs t → kl c → (0 ≤ xP M h t c ∧ xP M h t c ≤ 20) ∧ ((M 1 0 ≤ h ∨ M 1 0 ≤ t) → xP M h t c = 0)) ∧ (∀ h, hs h → 0 ≤ cgt (xP M) h ∧ cgt (xP M) h ≤ 300) ∧ ∀ h, hs h → h < M 1 0 → M 38 h = cgt (xP M) h := by
  obtain ⟨N, c1, c2, c3, c4⟩ := cv
  have O := xb_ok B
  have f := cit_few O c1.2
  have m := csm_nn O N
  refine ⟨by omega, fun h t c hh ht hc => ?_, fun h hh => ?_, fun h hh hn => ?_⟩
  · rw [c3 h t c hh ht hc]
    have a := (cit_ok O N).1 h t c hh ht hc
    have b := (O.2.2.2.1 h t c hh ht hc).2
    exact ⟨by omega, fun z => cit_out B N hh ht hc z⟩
  · rw [cgt_ce c3 hh]; exact cgt_b O N hh
  · rw [c4 h hh hn, cgt_ce c3 hh]
theorem b_steps {K : Nat} {M : PM} {C : Int → Int → PM → Prop} (I : Iv M) (hq : Ok32 C) : Bi (K + 22) jClearingWaves_steps [.inr (.inr 0)] jModel_steps [.inr (.inr 52)] M C := by
  unfold Bi
  refine c_x_steps (K + 21) M _ (x_coined I (fun M1 hA I1 cv => ⟨rfl, ?_⟩))
  have b := (cov_b I1.1.xb cv).1
  refine c_m_steps (K + 21) M1 _ (m_stepj I1 cv (fun M2 hA2 I2 ce => ?_))
  exact hq _ _ ⟨by omega, by omega⟩ I2
theorem b_coin {K : Nat} {f t c : Int} {M : PM} {C : Int → Int → PM → Prop} (I : Iv M) (h1 : R32 f) (h2 : R32 t) (h3 : R32 c) (hq : Ok32 C) : Bi (K + 22) jClearingWaves_coin [.inr (.inr 0), .inl f, .inl t, .inl c] jModel_coin [.inr (.inr 52), .inl f, .inl t, .inl c] M C := by
  have B := I.1.xb
  have hn := I.1.n
  have B1 := B.1
  unfold Bi
  by_cases p : Dbt M f t c
  · have hf : hs f := ⟨p.1.1.1, by omega⟩
    have ht : hs t := ⟨p.2.1.1, by omega⟩
    have hc := p.1.2
    refine c_x_coin (K + 21) f t c M _ (x_hasDebt_y B h1 h2 h3 p ⟨by decide, fun q => absurd q (by decide), fun _ => x_coined I (fun M1 hA I1 cv => ⟨rfl, co_paidCoins hf ht hc ?_⟩)⟩)
    have b := ((cov_b I1.1.xb cv).2.1 f t c hf ht hc).1
    have en : M1 1 0 = M 1 0 := by rw [hA 1 (by decide)]
    refine c_m_coin (K + 21) f t c M1 _ (m_arePair_y I1.1.mb h1 h2 (by rw [I1.1.n, en]; exact ⟨p.1.1, p.2.1, p.2.2⟩) ⟨by decide, fun q => absurd q (by decide), fun _ => m_isClass_y h3 hc ⟨by decide, fun _ => m_stepj I1 cv (fun M2 hA2 I2 ce => c_model_coinAt _ _ _ _ _ _ ⟨⟨by omega, by omega⟩, ?_⟩), fun q => absurd q (by decide)⟩⟩)
    show C (xP M1 f t c) (mP M2 f t c) M2
    rw [ce f t c hf ht hc]
    exact hq _ _ ⟨by omega, by omega⟩ I2
  · refine c_x_coin (K + 21) f t c M _ (x_hasDebt_n B h1 h2 h3 p ⟨by decide, fun _ => ?_, fun q => absurd rfl q⟩)
    refine c_m_coin (K + 21) f t c M _ ?_
    by_cases pa : (0 ≤ f ∧ f < M 55 0) ∧ (0 ≤ t ∧ t < M 55 0) ∧ f ≠ t
    · refine m_arePair_y I.1.mb h1 h2 pa ⟨by decide, fun q => absurd q (by decide), fun _ => m_isClass_n h3 (fun z => p ?_) ⟨by decide, fun q => absurd rfl q, fun _ => hq _ _ (by decide) I⟩⟩
      rw [hn] at pa
      exact ⟨⟨pa.1, z⟩, pa.2⟩
    · exact m_arePair_n I.1.mb h1 h2 pa ⟨by decide, fun _ => hq _ _ (by decide) I, fun q => absurd rfl q⟩
theorem bor_0 {s : Int} (h : ms s) : bOr s 0 = s := by
  have o := bit_or h (t := 0) ⟨by decide, by decide⟩
  exact bit_ext o.1 h fun j hj => by rw [o.2 j hj, tb_0, Bool.or_false]
theorem m_coinFails {K : Nat} {M : PM} {Q : Option PV → PM → Prop} (B : MB M) (hg : ∀ h, hs h → 0 ≤ cgt (mP M) h ∧ cgt (mP M) h ≤ 300) (hd : ∀ h, hs h → 0 ≤ (s3 fun c => md M h c) ∧ (s3 fun c => md M h c) ≤ 240)
    (hq : ∀ s, 0 ≤ s ∧ s < 32 → (∀ h, hs h → (tb s h = true ↔ (h < M 55 0 ∧ M 55 (3 + h) + cgt (mP M) h < s3 fun c => md M h c))) → Q (some (.inl s)) M) : G none (K + 4 + 1) jModel_coinFails 9 [(0, .inr (.inr 52)), (1, .inl 0), (2, .inl 0)] [] P0 P0 M Q := by
  have hn := B.1
  have loop : ∀ (n : Nat) (h s : Int), 0 ≤ h → h + (n : Int) = M 55 0 → Bs s h (fun h => M 55 (3 + h) + cgt (mP M) h < s3 fun c => md M h c) → G none (K + 4 + 1) jModel_coinFails 9 [(0, .inr (.inr 52)), (1, .inl s), (2, .inl h)] [] P0 P0 M Q := by
    intro n
    induction n with
    | zero =>
      intro h s h0 hh b
      refine g_m_coinFails_9 _ _ _ _ _ ⟨⟨by omega, by omega⟩, ⟨by omega, by omega⟩, fun _ => hq s (b.fin (by omega)) (fun k hk => by rw [b.at hk, show h = M 55 0 by omega]), fun q => absurd (by omega) q⟩
    | succ n ih =>
      intro h s h0 hh b
      have hhs : hs h := ⟨h0, by omega⟩
      have g := hg h hhs
      have d := hd h hhs
      have cc := B.2.2.2.1 h hhs
      refine g_m_coinFails_9 _ _ _ _ _ ⟨⟨by omega, by omega⟩, ⟨by omega, by omega⟩, fun q => absurd q (by omega), fun _ => ⟨⟨by omega, by omega⟩, m_coinsFor_67 hhs (m_dueInAll hhs ?_)⟩⟩
      show R32 (M 55 (3 + h) + cgt (mP M) h) ∧ R32 (s3 fun c => md M h c) ∧ ((s3 fun c => md M h c) ≤ M 55 (3 + h) + cgt (mP M) h → _) ∧ (¬ (s3 fun c => md M h c) ≤ M 55 (3 + h) + cgt (mP M) h → _)
      refine ⟨⟨by omega, by omega⟩, ⟨by omega, by omega⟩, fun c => ?_, fun c => ?_⟩
      · rw [bor_0 b.1]
        exact ih (h + 1) s (by omega) (by omega) (b.skip (by omega))
      · exact ih (h + 1) _ (by omega) (by omega) (b.take (by omega) ⟨h0, by omega⟩)
  exact loop (M 55 0).toNat 0 0 (by decide) (by omega) (Bs.zero _)
theorem iv_ds {M : PM} (I : Iv M) {h : Int} (hh : hs h) : (s3 fun c => md M h c) = (s3 fun c => xd M h c) ∧ 0 ≤ (s3 fun c => xd M h c) ∧ (s3 fun c => xd M h c) ≤ 240 :=
  ⟨s3_congr fun c hc => I.1.d hh hc, ds_nn (xb_ok I.1.xb) hh⟩
theorem tb_5 {s : Int} (h : 0 ≤ s ∧ s < 32) : tb s 5 = false := by
  unfold tb
  exact Nat.testBit_lt_two_pow (by show s.toNat < 32; omega)
theorem b_coinFails {K : Nat} {M : PM} {C : Int → Int → PM → Prop} (I : Iv M) (hq : Ok32 C) : Bi (K + 22) jClearingWaves_coinFails [.inr (.inr 0)] jModel_coinFails [.inr (.inr 52)] M C := by
  unfold Bi
  refine c_x_coinFails (K + 21) M _ (x_coined I (fun M1 hA I1 cv => ⟨rfl, ?_⟩))
  have cb := cov_b I1.1.xb cv
  refine co_shortBits (K := K + 16) I1.1.xb (fun h hh hn => by rw [cb.2.2.2 h hh hn]; exact cb.2.2.1 h hh) (fun s s1 s2 => ?_)
  refine c_m_coinFails (K + 21) M1 _ (m_stepj I1 cv (fun M2 hA2 I2 ce => ?_))
  have e1 : M2 1 = M1 1 := hA2 1 (by decide)
  have e2 : M2 2 = M1 2 := hA2 2 (by decide)
  have e3 : M2 3 = M1 3 := hA2 3 (by decide)
  refine m_coinFails (K := K + 17) I2.1.mb (fun h hh => by rw [cgt_ce ce hh]; exact cb.2.2.1 h hh) (fun h hh => by have := iv_ds I2 hh; omega) (fun s' t1 t2 => ?_)
  have e : s = s' := bit_ext ⟨s1.1, by omega⟩ ⟨t1.1, by omega⟩ fun j hj => by
    by_cases q : j < 5
    · have hj' : hs j := ⟨hj.1, q⟩
      have a := s2 j hj'
      have b := t2 j hj'
      rw [I2.1.n, e1, I2.1.c hj', e2, cgt_ce ce hj', (iv_ds I2 hj').1, xd_of e3] at b
      have : tb s j = true ↔ tb s' j = true := by
        rw [a, b]
        constructor
        · rintro ⟨x, y⟩; rw [cb.2.2.2 j hj' x] at y; exact ⟨x, y⟩
        · rintro ⟨x, y⟩; rw [cb.2.2.2 j hj' x]; exact ⟨x, y⟩
      exact Bool.eq_iff_iff.mpr this
    · have e5 : j = 5 := by have := hj.2; omega
      rw [e5, tb_5 s1, tb_5 t1]
  show C s s' M2
  rw [← e]
  exact hq _ _ ⟨by omega, by omega⟩ I2
/-- what is gone, by either count -/
def mwt (M : PM) (h : Int) : Int := M 55 (3 + h) - (if M 55 (3 + h) + cgt (mP M) h < (s3 fun c => md M h c) then Int.tdiv (M 55 1 * M 55 (3 + h) + M 55 2 * cgt (mP M) h) 10 else M 55 (3 + h) + cgt (mP M) h) + s5 fun t => s3 fun c => mP M h t c
theorem m_gone_70 {K : Nat} {v h l : Int} {M : PM} {Q : Option PV → PM → Prop} (hh : hs h) (hq : G none (K + 1) jModel_gone 9 [(0, .inr (.inr 52)), (1, .inl (v + ((M 55 (3 + h) - l) + s5 fun t => s3 fun c => mP M h t c))), (2, .inl (h + 1))] [] P0 P0 M Q) : G none (K + 1) jModel_gone 70 [(0, .inr (.inr 52)), (1, .inl v), (2, .inl h), (4, .inl l), (5, .inl 0), (6, .inl 0)] [] P0 P0 M Q := by
  have loop : ∀ (m k : Nat), k + m = 15 → G none (K + 1) jModel_gone 70 [(0, .inr (.inr 52)), (1, .inl v), (2, .inl h), (4, .inl l), (5, .inl (pcs (fun j => M 67 ((15 * h) + j)) k)), (6, .inl (k : Int))] [] P0 P0 M Q := by
    intro m
    induction m with
    | zero =>
      intro k hk
      refine g_m_gone_70 _ _ _ _ _ _ _ _ ⟨⟨by omega, by omega⟩, fun _ => ⟨⟨by omega, by omega⟩, ?_⟩, fun q => absurd (by omega) q⟩
      rw [show k = 15 by omega]
      have e : pcs (fun j => M 67 ((15 * h) + j)) 15 = s5 fun t => s3 fun c => mP M h t c := by
        have ix : ∀ t c : Int, mP M h t c = M 67 ((15 * h) + (t * 3 + c)) := fun t c => by unfold mP; congr 1; omega
        simp only [pcs, s5, s3, ix]
        simp
        omega
      rw [e]
      exact hq
    | succ m ih =>
      intro k hk
      have nx := ih (k + 1) (by omega)
      rw [show ((k + 1 : Nat) : Int) = (k : Int) + 1 by omega] at nx
      refine g_m_gone_70 _ _ _ _ _ _ _ _ ⟨⟨by omega, by omega⟩, fun q => absurd q (by omega), fun _ => ⟨⟨by omega, by omega⟩, ?_⟩⟩
      exact nx
  exact loop 15 0 (by omega)
theorem m_gone {K : Nat} {M : PM} {Q : Option PV → PM → Prop} (B : MB M) (hg : ∀ h, hs h → 0 ≤ cgt (mP M) h ∧ cgt (mP M) h ≤ 300) (hd : ∀ h, hs h → 0 ≤ (s3 fun c => md M h c) ∧ (s3 fun c => md M h c) ≤ 240)
    (hq : Q (some (.inl (pcs (mwt M) (M 55 0).toNat))) M) : G none (K + 4 + 1) jModel_gone 9 [(0, .inr (.inr 52)), (1, .inl 0), (2, .inl 0)] [] P0 P0 M Q := by
  have hn := B.1
  have loop : ∀ (n : Nat) (h : Int), 0 ≤ h → h + (n : Int) = M 55 0 → G none (K + 4 + 1) jModel_gone 9 [(0, .inr (.inr 52)), (1, .inl (pcs (mwt M) h.toNat)), (2, .inl h)] [] P0 P0 M Q := by
    intro n
    induction n with
    | zero =>
      intro h h0 hh
      refine g_m_gone_9 _ _ _ _ _ ⟨⟨by omega, by omega⟩, ⟨by omega, by omega⟩, fun _ => ?_, fun q => absurd (by omega) q⟩
      rw [show h = M 55 0 by omega]
      exact hq
    | succ n ih =>
      intro h h0 hh
      have hhs : hs h := ⟨h0, by omega⟩
      have g := hg h hhs
      have d := hd h hhs
      have cc := B.2.2.2.1 h hhs
      have nx := ih (h + 1) (by omega) (by omega)
      rw [pcs_up _ h0] at nx
      refine g_m_gone_9 _ _ _ _ _ ⟨⟨by omega, by omega⟩, ⟨by omega, by omega⟩, fun q => absurd q (by omega), fun _ => m_coinsFor_67 hhs ⟨⟨by omega, by omega⟩, m_dueInAll hhs ?_⟩⟩
      show R32 (M 55 (3 + h) + cgt (mP M) h) ∧ R32 (s3 fun c => md M h c) ∧ ((s3 fun c => md M h c) ≤ M 55 (3 + h) + cgt (mP M) h → _) ∧ (¬ (s3 fun c => md M h c) ≤ M 55 (3 + h) + cgt (mP M) h → _)
      refine ⟨⟨by omega, by omega⟩, ⟨by omega, by omega⟩, fun c => ?_, fun c => ?_⟩
      · refine m_gone_70 hhs ?_
        have e : mwt M h = (M 55 (3 + h) - (M 55 (3 + h) + cgt (mP M) h)) + s5 fun t => s3 fun c => mP M h t c := by
          unfold mwt
          rw [if_neg (by omega)]
        rw [e] at nx
        exact nx
      · refine m_restOf B hhs g (m_gone_70 hhs ?_)
        have e : mwt M h = (M 55 (3 + h) - Int.tdiv (M 55 1 * M 55 (3 + h) + M 55 2 * cgt (mP M) h) 10) + s5 fun t => s3 fun c => mP M h t c := by
          unfold mwt
          rw [if_pos (by omega)]
        rw [e] at nx
        exact nx
  exact (loop (M 55 0).toNat 0 (by decide) (by omega))
theorem pcs_add (f g : Int → Int) : ∀ n : Nat, pcs (fun h => f h + g h) n = pcs f n + pcs g n
  | 0 => rfl
  | n + 1 => by rw [pcs, pcs, pcs, pcs_add f g n]; omega
theorem b_gone {K : Nat} {M : PM} {C : Int → Int → PM → Prop} (I : Iv M) (hq : Ok32 C) : Bi (K + 22) jClearingWaves_gone [.inr (.inr 0)] jModel_gone [.inr (.inr 52)] M C := by
  unfold Bi
  refine c_x_gone (K + 21) M _ (x_coined I (fun M1 hA I1 cv => ⟨rfl, ?_⟩))
  have B1 := I1.1.xb
  have hn := B1.1
  have cb := cov_b B1 cv
  refine co_waste (K := K + 16) B1 (fun h hh hn => by rw [cb.2.2.2 h hh hn]; exact cb.2.2.1 h hh) ?_
  refine c_m_gone (K + 21) M1 _ (m_stepj I1 cv (fun M2 hA2 I2 ce => ?_))
  have e1 : M2 1 = M1 1 := hA2 1 (by decide)
  have e2 : M2 2 = M1 2 := hA2 2 (by decide)
  have e3 : M2 3 = M1 3 := hA2 3 (by decide)
  refine m_gone (K := K + 17) I2.1.mb (fun h hh => by rw [cgt_ce ce hh]; exact cb.2.2.1 h hh) (fun h hh => by have := iv_ds I2 hh; omega) ?_
  have en : M2 55 0 = M1 1 0 := by rw [I2.1.n, e1]
  have ew : ∀ h, 0 ≤ h → h < (((M1 1 0).toNat : Nat) : Int) → mwt M2 h = wst (cp_g M1) (M1 38 h) h + ((s5 fun t => s3 fun c => xP M1 h t c) - cgt (xP M1) h) := fun h h0 h1 => by
    have hh : hs h := ⟨h0, by omega⟩
    have e5 : (s5 fun t => s3 fun c => mP M2 h t c) = s5 fun t => s3 fun c => xP M1 h t c := s5_congr fun t ht => s3_congr fun c hc => ce h t c hh ht hc
    unfold mwt wst
    rw [e5, I2.1.a, I2.1.b, I2.1.c hh, e1, e2, cgt_ce ce hh, (iv_ds I2 hh).1, xd_of e3, cb.2.2.2 h hh (by omega)]
    show _ = (if M1 2 h + cgt (xP M1) h < (s3 fun c => xd M1 h c) then M1 2 h + cgt (xP M1) h - Int.tdiv (M1 1 1 * M1 2 h + M1 1 2 * cgt (xP M1) h) 10 else 0) + _
    split <;> omega
  have z1 : ∀ h, hs h → M1 1 0 ≤ h → (s5 fun t => s3 fun c => xP M1 h t c) - cgt (xP M1) h = 0 := fun h hh hl => by
    have a : (s5 fun t => s3 fun c => xP M1 h t c) = s5 fun _ => 0 := s5_congr fun t ht => by
      simp only [s3]
      rw [(cb.2.1 h t 0 hh ht (by decide)).2 (Or.inl hl), (cb.2.1 h t 1 hh ht (by decide)).2 (Or.inl hl), (cb.2.1 h t 2 hh ht (by decide)).2 (Or.inl hl)]
      rfl
    have b : cgt (xP M1) h = s5 fun _ => 0 := s5_congr fun t ht => by
      simp only [s3]
      rw [(cb.2.1 t h 0 ht hh (by decide)).2 (Or.inr hl), (cb.2.1 t h 1 ht hh (by decide)).2 (Or.inr hl), (cb.2.1 t h 2 ht hh (by decide)).2 (Or.inr hl)]
      rfl
    rw [a, b]; exact Int.sub_self _
  have ez : pcs (fun h => (s5 fun t => s3 fun c => xP M1 h t c) - cgt (xP M1) h) (M1 1 0).toNat = 0 := by
    rw [pcs_n5 hn z1, s5_sub]
    unfold cgt
    rw [s5_swap (fun h k => s3 fun c => xP M1 k h c)]
    omega
  have e : pcs (mwt M2) (M2 55 0).toNat = pcs (fun h => wst (cp_g M1) (M1 38 h) h) (M1 1 0).toNat := by
    rw [en, pcs_cong _ ew, pcs_add, ez]
    omega
  show C (pcs (fun h => wst (cp_g M1) (M1 38 h) h) (M1 1 0).toNat) (pcs (mwt M2) (M2 55 0).toNat) M2
  rw [e]
  have pb := pcs_n (f := fun h => wst (cp_g M1) (M1 38 h) h) (a := 500) (n := M1 1 0) (by omega) (fun h hh hl => by
    have g := cb.2.2.1 h hh
    have cc := B1.2.2.2.1 h hh
    have a := cA_b (xb_ok B1) hh g.1
    rw [cb.2.2.2 h hh hl]
    unfold wst
    have e : ckC (cp_g M1) h = M1 2 h := rfl
    have t0 := td_nn a.1 (show (0 : Int) < 10 by decide)
    have t1 : Int.tdiv (ckA (cp_g M1) * ckC (cp_g M1) h + ckB (cp_g M1) * cgt (xP M1) h) 10 ≤ ckC (cp_g M1) h + cgt (xP M1) h := by rw [td_ed a.1]; omega
    split <;> omega)
  exact hq _ _ ⟨by omega, by omega⟩ I2
