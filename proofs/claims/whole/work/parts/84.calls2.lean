/-! CALLS: the book, the image -/
theorem b_settle {K : Nat} {f t c v : Int} {M : PM} {C : Int → Int → PM → Prop} (I : Iv M) (h1 : R32 f) (h2 : R32 t) (h3 : R32 c) (h4 : R32 v) (hq : Ok32 C) : Bi (K + 22) jClearingWaves_settle [.inr (.inr 0), .inl f, .inl t, .inl c, .inl v] jModel_settle [.inr (.inr 52), .inl f, .inl t, .inl c, .inl v] M C := by
  have B := I.1.xb
  unfold Bi
  by_cases p : Dbt M f t c
  · have d := p.hs B
    have b := B.2.2.2.2.1 f t c d.1 d.2.1 d.2.2.1
    have bf := B.2.2.2.1 f d.1
    have bt := B.2.2.2.1 t d.2.1
    have hix := d3_75 d.1 d.2.1 d.2.2.1
    have pre : ∀ (Q : Option PV → PM → Prop) (M1 : PM), M1 55 = M 55 → (R32 v ∧ (1 ≤ v → Call (K + 21) jModel_owes [.inr (.inr 52), .inl f, .inl t, .inl c] P0 P0 M1 (retI fun r8 M9 => R32 r8 ∧ (r8 < v → Q (some (.inl (-3))) M9) ∧ (¬ r8 < v → (0 ≤ (3 + f) ∧ (3 + f) < 83) ∧ R32 (M9 55 (3 + f)) ∧ (v ≤ (M9 55 (3 + f)) → (0 ≤ (3 + t) ∧ (3 + t) < 83) ∧ R32 (M9 55 (3 + t)) ∧ R32 (200 - v) ∧ ((M9 55 (3 + t)) ≤ (200 - v) → Call (K + 21) jModel_owedAt [.inl f, .inl t, .inl c] P0 P0 M9 (retI fun r16 M17 => Call (K + 21) jModel_owes [.inr (.inr 52), .inl f, .inl t, .inl c] P0 P0 M17 (retI fun r18 M19 => Call (K + 21) jModel_tells [.inr (.inr 52), .inl r16, .inl (r18 - v)] P0 P0 M19 (retI fun r20 M21 => Call (K + 21) jModel_tells [.inr (.inr 52), .inl (3 + f), .inl ((M21 55 (3 + f)) - v)] P0 P0 M21 (retI fun r22 M23 => Call (K + 21) jModel_tells [.inr (.inr 52), .inl (3 + t), .inl ((M23 55 (3 + t)) + v)] P0 P0 M23 (retI fun r24 M25 => Q (some (.inl 1)) M25)))))) ∧ (¬ (M9 55 (3 + t)) ≤ (200 - v) → Q (some (.inl (-4))) M9)) ∧ (¬ v ≤ (M9 55 (3 + f)) → Q (some (.inl (-3))) M9)))) ∧ (¬ 1 ≤ v → Q (some (.inl (-2))) M1)) →
        Call (K + 22) jModel_settle [.inr (.inr 52), .inl f, .inl t, .inl c, .inl v] P0 P0 M1 Q := by
      intro Q M1 k55 go
      have B1 : MB M1 := I.1.mb.of k55
      exact c_m_settle (K + 21) f t c v M1 Q (m_arePair_y B1 h1 h2 (by rw [k55]; exact p.m I.1) ⟨by decide, fun z => absurd z (by decide), fun _ => m_isClass_y h3 d.2.2.1 ⟨by decide, fun _ => go, fun z => absurd z (by decide)⟩⟩)
    have cf := I.1.c d.1
    have ct := I.1.c d.2.1
    have eo := I.1.o d.1 d.2.1 d.2.2.1
    refine c_x_settle (K + 21) f t c v M _ (x_hasDebt_y B h1 h2 h3 p ⟨by decide, fun _ => ?_, fun q => absurd q (by decide)⟩)
    by_cases pv : 1 ≤ v
    · refine ⟨h4, fun _ => x_amount phk_1_P0 d.1 d.2.1 d.2.2.1 ⟨⟨by omega, by omega⟩, fun lt => ?_, fun nlt => ⟨d.1, ⟨by omega, by omega⟩, fun le => ⟨d.2.1, ⟨by omega, by omega⟩, fun le2 => ?_, fun nle2 => ?_⟩, fun nle => ?_⟩⟩, fun z => absurd pv z⟩
      · refine pre _ M rfl ⟨h4, fun _ => m_owes d.1 d.2.1 d.2.2.1 ?_, fun z => absurd pv z⟩
        rw [eo]
        exact ⟨⟨by omega, by omega⟩, fun _ => hq _ _ (by decide) I, fun z => absurd lt z⟩
      · refine c_bk_put _ _ _ _ _ _ _ ⟨hix, c_x_noteChange _ _ _ ?_⟩
        obtain ⟨M1, e1⟩ : ∃ M1, M1 = mset (mset (mset (mset (mset M 3 (d3 f t c) (xo M f t c - v)) 2 f ((mset M 3 (d3 f t c) (xo M f t c - v)) 2 f - v)) 2 t ((mset (mset M 3 (d3 f t c) (xo M f t c - v)) 2 f ((mset M 3 (d3 f t c) (xo M f t c - v)) 2 f - v)) 2 t + v)) 0 7 1) 0 9 1 := ⟨_, rfl⟩
        show Call (K + 22) jModel_settle [.inr (.inr 52), .inl f, .inl t, .inl c, .inl v] P0 P0 (mset (mset (mset (mset (mset M 3 (d3 f t c) (xo M f t c - v)) 2 f ((mset M 3 (d3 f t c) (xo M f t c - v)) 2 f - v)) 2 t ((mset (mset M 3 (d3 f t c) (xo M f t c - v)) 2 f ((mset M 3 (d3 f t c) (xo M f t c - v)) 2 f - v)) 2 t + v)) 0 7 1) 0 9 1) _
        rw [← e1]
        have hne : t ≠ f := fun z => d.2.2.2 z.symm
        have hA : Ag [0, 2, 3] M M1 := by rw [e1]; exact (((((Ag.rf _ _).set (by decide)).set (by decide)).set (by decide)).set (by decide)).set (by decide)
        have k55 : M1 55 = M 55 := hA 55 (by decide)
        have k53 : M1 53 = M 53 := hA 53 (by decide)
        have e12 : ∀ i, M1 2 i = if i = t then M 2 t + v else if i = f then M 2 f - v else M 2 i := fun i => by
          rw [e1, mset_ne (by decide), mset_ne (by decide), mset_at, mset_at, mset_at, if_neg hne, mset_ne (by decide)]
        refine pre _ M1 k55 ⟨h4, fun _ => m_owes d.1 d.2.1 d.2.2.1 ?_, fun z => absurd pv z⟩
        rw [mo_of k55, eo]
        have cf1 : M1 55 (3 + f) = M 2 f := by rw [k55, cf]
        have ct1 : M1 55 (3 + t) = M 2 t := by rw [k55, ct]
        refine ⟨⟨by omega, by omega⟩, fun z => absurd z nlt, fun _ => ⟨⟨by omega, by omega⟩, ⟨by omega, by omega⟩, fun _ => ⟨⟨by omega, by omega⟩, ⟨by omega, by omega⟩, ⟨by omega, by omega⟩, fun _ => m_owedAt (m_owes d.1 d.2.1 d.2.2.1 ?_), fun z => absurd (by omega) z⟩, fun z => absurd (by omega) z⟩⟩
        rw [mo_of k55, eo]
        have ei : (8 + (((5 * f) + t) * 3)) + c = 8 + d3 f t c := by unfold d3; omega
        rw [ei]
        refine c_m_tells _ _ _ _ _ ⟨⟨by omega, by omega⟩, ⟨by omega, by omega⟩, ⟨by omega, by omega⟩, ?_⟩
        have g1 : (mset (mset (mset M1 55 (8 + d3 f t c) (xo M f t c - v)) 53 (8 + d3 f t c) (xo M f t c - v)) 52 4 0) 55 (3 + f) = M 2 f := by
          rw [mset_ne (by decide), mset_ne (by decide), mset_at, if_neg (by have := d.1.2; omega), k55, cf]
        show Call (K + 21) jModel_tells [.inr (.inr 52), .inl (3 + f), .inl ((mset (mset (mset M1 55 (8 + d3 f t c) (xo M f t c - v)) 53 (8 + d3 f t c) (xo M f t c - v)) 52 4 0) 55 (3 + f) - v)] P0 P0 (mset (mset (mset M1 55 (8 + d3 f t c) (xo M f t c - v)) 53 (8 + d3 f t c) (xo M f t c - v)) 52 4 0) _
        rw [g1]
        refine c_m_tells _ _ _ _ _ ⟨⟨by omega, by omega⟩, ⟨by omega, by omega⟩, ⟨by omega, by omega⟩, ?_⟩
        have g2 : (mset (mset (mset (mset (mset (mset M1 55 (8 + d3 f t c) (xo M f t c - v)) 53 (8 + d3 f t c) (xo M f t c - v)) 52 4 0) 55 (3 + f) (M 2 f - v)) 53 (3 + f) (M 2 f - v)) 52 4 0) 55 (3 + t) = M 2 t := by
          rw [mset_ne (by decide), mset_ne (by decide), mset_at, if_neg (by omega), mset_ne (by decide), mset_ne (by decide), mset_at, if_neg (by have := d.2.1.2; omega), k55, ct]
        show Call (K + 21) jModel_tells [.inr (.inr 52), .inl (3 + t), .inl ((mset (mset (mset (mset (mset (mset M1 55 (8 + d3 f t c) (xo M f t c - v)) 53 (8 + d3 f t c) (xo M f t c - v)) 52 4 0) 55 (3 + f) (M 2 f - v)) 53 (3 + f) (M 2 f - v)) 52 4 0) 55 (3 + t) + v)] P0 P0 (mset (mset (mset (mset (mset (mset M1 55 (8 + d3 f t c) (xo M f t c - v)) 53 (8 + d3 f t c) (xo M f t c - v)) 52 4 0) 55 (3 + f) (M 2 f - v)) 53 (3 + f) (M 2 f - v)) 52 4 0) _
        rw [g2]
        refine c_m_tells _ _ _ _ _ ⟨⟨by omega, by omega⟩, ⟨by omega, by omega⟩, ⟨by omega, by omega⟩, hq _ _ (by decide) ?_⟩
        obtain ⟨M2, e2⟩ : ∃ M2, M2 = mset (mset (mset (mset (mset (mset (mset (mset (mset M1 55 (8 + d3 f t c) (xo M f t c - v)) 53 (8 + d3 f t c) (xo M f t c - v)) 52 4 0) 55 (3 + f) (M 2 f - v)) 53 (3 + f) (M 2 f - v)) 52 4 0) 55 (3 + t) (M 2 t + v)) 53 (3 + t) (M 2 t + v)) 52 4 0 := ⟨_, rfl⟩
        rw [← e2]
        have hAll : Ag [0, 1, 2, 3, 4, 52, 53, 55] M M2 := by rw [e2]; exact (((((((((hA.mono (by decide)).set (by decide)).set (by decide)).set (by decide)).set (by decide)).set (by decide)).set (by decide)).set (by decide)).set (by decide)).set (by decide)
        have e53 : ∀ i, M2 53 i = if i = 3 + t then M 2 t + v else if i = 3 + f then M 2 f - v else if i = 8 + d3 f t c then xo M f t c - v else M 53 i := fun i => by
          rw [e2, mset_ne (by decide), mset_at, mset_ne (by decide), mset_ne (by decide), mset_at, mset_ne (by decide), mset_ne (by decide), mset_at, mset_ne (by decide), k53]
        have e55 : ∀ i, M2 55 i = if i = 3 + t then M 2 t + v else if i = 3 + f then M 2 f - v else if i = 8 + d3 f t c then xo M f t c - v else M 55 i := fun i => by
          rw [e2, mset_ne (by decide), mset_ne (by decide), mset_at, mset_ne (by decide), mset_ne (by decide), mset_at, mset_ne (by decide), mset_ne (by decide), mset_at, k55]
        have BV1 : BV (M 1) (M 2) (fun i => if i = d3 f t c then xo M f t c - v else M 3 i) (M 4) (fun i => if i = 8 + d3 f t c then xo M f t c - v else M 53 i) :=
          I.1.1.owe d.1 d.2.1 d.2.2.1 p.1.1.2 p.2.1.2 p.2.2 (v := xo M f t c - v) ⟨by omega, by omega⟩ rfl rfl rfl (fun _ => rfl) (fun _ => rfl)
        have BV2 : BV (M 1) (fun i => if i = f then M 2 f - v else M 2 i) (fun i => if i = d3 f t c then xo M f t c - v else M 3 i) (M 4) (fun i => if i = 3 + f then M 2 f - v else if i = 8 + d3 f t c then xo M f t c - v else M 53 i) :=
          BV1.cash d.1 p.1.1.2 (v := M 2 f - v) ⟨by omega, by omega⟩ rfl rfl rfl (fun _ => rfl) (fun _ => rfl)
        refine I.book hAll (fun i i7 i9 => ?_) ?_ ?_ (fun i hi => ?_) (by rw [e2, mset_eq]) ⟨BV2.cash d.2.1 p.2.1.2 (v := M 2 t + v) ⟨by omega, by omega⟩ ?_ ?_ ?_ (fun i => ?_) (fun i => e53 i), fun i i0 i1 => ?_⟩
        · simp [e2, mset, e1, i7, i9]
        · simp [e2, mset, e1]
        · simp [e2, mset, e1]
        · have := congrFun (hA 52 (by decide)) i
          simp [e2, mset, hi, this]
        · funext i; simp [e2, mset, e1]
        · funext i
          rw [e2, mset_ne (by decide), mset_ne (by decide), mset_ne (by decide), mset_ne (by decide), mset_ne (by decide), mset_ne (by decide), mset_ne (by decide), mset_ne (by decide), mset_ne (by decide), e1, mset_ne (by decide), mset_ne (by decide), mset_ne (by decide), mset_ne (by decide), mset_at]
        · funext i; simp [e2, mset, e1]
        · rw [e2, mset_ne (by decide), mset_ne (by decide), mset_ne (by decide), mset_ne (by decide), mset_ne (by decide), mset_ne (by decide), mset_ne (by decide), mset_ne (by decide), mset_ne (by decide), e12]
        · rw [e53, e55, I.1.2 i i0 i1]
      · refine pre _ M rfl ⟨h4, fun _ => m_owes d.1 d.2.1 d.2.2.1 ?_, fun z => absurd pv z⟩
        rw [eo]
        exact ⟨⟨by omega, by omega⟩, fun z => absurd z nlt, fun _ => ⟨⟨by omega, by omega⟩, ⟨by omega, by omega⟩, fun _ => ⟨⟨by omega, by omega⟩, ⟨by omega, by omega⟩, ⟨by omega, by omega⟩, fun z => absurd (by omega) nle2, fun _ => hq _ _ (by decide) I⟩, fun z => absurd (by omega) z⟩⟩
      · refine pre _ M rfl ⟨h4, fun _ => m_owes d.1 d.2.1 d.2.2.1 ?_, fun z => absurd pv z⟩
        rw [eo]
        exact ⟨⟨by omega, by omega⟩, fun z => absurd z nlt, fun _ => ⟨⟨by omega, by omega⟩, ⟨by omega, by omega⟩, fun z => absurd (by omega) nle, fun _ => hq _ _ (by decide) I⟩⟩
    · exact ⟨h4, fun z => absurd z pv, fun _ => pre _ M rfl ⟨h4, fun z => absurd z pv, fun _ => hq _ _ (by decide) I⟩⟩
  · refine c_x_settle (K + 21) f t c v M _ (x_hasDebt_n B h1 h2 h3 p ⟨by decide, fun q => absurd rfl q, fun _ => ?_⟩)
    exact m_debt_n (K := K + 18) I.1 h1 h2 h3 p (hq _ _ (by decide) I) _ (c_m_settle (K + 21) f t c v M _)
theorem x_begin {K : Nat} {ph : PH} (hp : phk_1 ph) {n : Int} {M : PM} {Q : Option PV → PM → Prop} (hq : ∀ M', Ag [1, 2, 3, 4] M M' → M' 1 0 = n → M' 1 1 = 10 → M' 1 2 = 10 → (∀ j, 0 ≤ j → j < 5 → M' 2 j = 0) → (∀ j, 0 ≤ j → j < 75 → M' 3 j = 0) → (∀ j, 0 ≤ j → j < 45 → M' 4 j = 0) → Q none M') : Call (K + 1) jBook_begin [.inr (.inr 1), .inl n] ph ph M Q := by
  obtain ⟨M0, e0⟩ : ∃ M0, M0 = mset (mset (mset M 1 0 n) 1 1 10) 1 2 10 := ⟨_, rfl⟩
  have hA0 : Ag [1, 2, 3, 4] M M0 := by rw [e0]; exact (((Ag.rf _ _).set (by decide)).set (by decide)).set (by decide)
  have i0 : M0 1 0 = n := by rw [e0]; simp [mset]
  have i1 : M0 1 1 = 10 := by rw [e0]; simp [mset]
  have i2 : M0 1 2 = 10 := by rw [e0]; simp [mset]
  have l3 : ∀ (k : Nat) (j : Int) (M1 : PM), 0 ≤ j → j + (k : Int) = 45 → Ag [2, 3, 4] M0 M1 → (∀ j, 0 ≤ j → j < 5 → M1 2 j = 0) → (∀ j, 0 ≤ j → j < 75 → M1 3 j = 0) → (∀ i, 0 ≤ i → i < j → M1 4 i = 0) → G none (K + 1) jBook_begin 67 [(0, .inr (.inr 1)), (2, .inl j)] [] ph ph M1 Q := by
    intro k
    induction k with
    | zero =>
      intro j M1 j0 hj hA z2 z3 z4
      refine g_bk_begin_67 _ _ hp _ _ _ ⟨⟨by omega, by omega⟩, fun _ => hq M1 (hA0.tr (hA.mono (by decide))) (by rw [hA 1 (by decide)]; exact i0) (by rw [hA 1 (by decide)]; exact i1) (by rw [hA 1 (by decide)]; exact i2) z2 z3 (fun i a b => z4 i a (by omega)), fun q => absurd (by omega) q⟩
    | succ k ih =>
      intro j M1 j0 hj hA z2 z3 z4
      refine g_bk_begin_67 _ _ hp _ _ _ ⟨⟨by omega, by omega⟩, fun q => absurd q (by omega), fun _ => ⟨⟨by omega, by omega⟩, ih (j + 1) _ (by omega) (by omega) (hA.set (by decide)) (fun i a b => by rw [mset_ne (by decide)]; exact z2 i a b) (fun i a b => by rw [mset_ne (by decide)]; exact z3 i a b) (fun i a b => ?_)⟩⟩
      rw [mset_at]
      split
      · rfl
      · exact z4 i a (by omega)
  have l2 : ∀ (k : Nat) (j : Int) (M1 : PM), 0 ≤ j → j + (k : Int) = 75 → Ag [2, 3, 4] M0 M1 → (∀ j, 0 ≤ j → j < 5 → M1 2 j = 0) → (∀ i, 0 ≤ i → i < j → M1 3 i = 0) → G none (K + 1) jBook_begin 43 [(0, .inr (.inr 1)), (2, .inl j)] [] ph ph M1 Q := by
    intro k
    induction k with
    | zero =>
      intro j M1 j0 hj hA z2 z3
      exact g_bk_begin_43 _ _ hp _ _ _ ⟨⟨by omega, by omega⟩, fun _ => l3 45 0 M1 (by decide) (by decide) hA z2 (fun i a b => z3 i a (by omega)) (fun i a b => by omega), fun q => absurd (by omega) q⟩
    | succ k ih =>
      intro j M1 j0 hj hA z2 z3
      refine g_bk_begin_43 _ _ hp _ _ _ ⟨⟨by omega, by omega⟩, fun q => absurd q (by omega), fun _ => ⟨⟨by omega, by omega⟩, ih (j + 1) _ (by omega) (by omega) (hA.set (by decide)) (fun i a b => by rw [mset_ne (by decide)]; exact z2 i a b) (fun i a b => ?_)⟩⟩
      rw [mset_at]
      split
      · rfl
      · exact z3 i a (by omega)
  have l1 : ∀ (k : Nat) (j : Int) (M1 : PM), 0 ≤ j → j + (k : Int) = 5 → Ag [2, 3, 4] M0 M1 → (∀ i, 0 ≤ i → i < j → M1 2 i = 0) → G none (K + 1) jBook_begin 19 [(0, .inr (.inr 1)), (2, .inl j)] [] ph ph M1 Q := by
    intro k
    induction k with
    | zero =>
      intro j M1 j0 hj hA z2
      exact g_bk_begin_19 _ _ hp _ _ _ ⟨⟨by omega, by omega⟩, fun _ => l2 75 0 M1 (by decide) (by decide) hA (fun i a b => z2 i a (by omega)) (fun i a b => by omega), fun q => absurd (by omega) q⟩
    | succ k ih =>
      intro j M1 j0 hj hA z2
      refine g_bk_begin_19 _ _ hp _ _ _ ⟨⟨by omega, by omega⟩, fun q => absurd q (by omega), fun _ => ⟨⟨by omega, by omega⟩, ih (j + 1) _ (by omega) (by omega) (hA.set (by decide)) (fun i a b => ?_)⟩⟩
      rw [mset_at]
      split
      · rfl
      · exact z2 i a (by omega)
  refine c_bk_begin K ph hp n M Q ?_
  rw [← e0]
  exact l1 5 0 M0 (by decide) (by decide) (Ag.rf _ _) (fun i a b => by omega)
theorem m_reads {K : Nat} {M : PM} {Q : Option PV → PM → Prop} (hq : ∀ M', Ag [52, 55] M M' → (∀ i, i ≠ 4 → M' 52 i = M 52 i) → M' 52 4 = 0 → (∀ j, 0 ≤ j → j < 83 → M' 55 j = M 53 j) → Q none M') : Call (K + 1) jModel_reads [.inr (.inr 52)] P0 P0 M Q := by
  have loop : ∀ (k : Nat) (j : Int) (M1 : PM), 0 ≤ j → j + (k : Int) = 83 → Ag [55] M M1 → (∀ i, 0 ≤ i → i < j → M1 55 i = M 53 i) → G none (K + 1) jModel_reads 2 [(0, .inr (.inr 52)), (1, .inl j)] [] P0 P0 M1 Q := by
    intro k
    induction k with
    | zero =>
      intro j M1 j0 hj hA z
      refine g_m_reads_2 _ _ _ _ ⟨⟨by omega, by omega⟩, fun _ => hq _ ((hA.mono (by decide)).set (by decide)) (fun i hi => by rw [mset_at, if_neg hi, hA 52 (by decide)]) mset_eq (fun i a b => by rw [mset_ne (by decide)]; exact z i a (by omega)), fun q => absurd (by omega) q⟩
    | succ k ih =>
      intro j M1 j0 hj hA z
      refine g_m_reads_2 _ _ _ _ ⟨⟨by omega, by omega⟩, fun q => absurd q (by omega), fun _ => ⟨⟨by omega, by omega⟩, ⟨by omega, by omega⟩, ih (j + 1) _ (by omega) (by omega) (hA.set (by decide)) (fun i a b => ?_)⟩⟩
      rw [mset_at, hA 53 (by decide)]
      split
      · rename_i e; rw [e]
      · exact z i a (by omega)
  exact c_m_reads K M Q (loop 83 0 M (by decide) (by decide) (Ag.rf _ _) (fun i a b => by omega))
theorem m_asAtFirst {K : Nat} {n : Int} {M : PM} {Q : Option PV → PM → Prop} (hn : R32 n) (hq : ∀ M', Ag [52, 53, 55] M M' → (∀ i, i ≠ 4 → M' 52 i = M 52 i) → M' 52 4 = 0 → M' 53 0 = n → M' 53 1 = 10 → M' 53 2 = 10 → (∀ j, 3 ≤ j → j < 128 → M' 53 j = 0) → (∀ j, 0 ≤ j → j < 83 → M' 55 j = M' 53 j) → Q none M') : Call (K + 2) jModel_asAtFirst [.inr (.inr 52), .inl n] P0 P0 M Q := by
  have loop : ∀ (k : Nat) (j : Int) (M1 : PM), 0 ≤ j → j + (k : Int) = 128 → Ag [53] M M1 → (∀ i, 0 ≤ i → i < j → M1 53 i = 0) → G none (K + 1 + 1) jModel_asAtFirst 2 [(0, .inr (.inr 52)), (1, .inl n), (2, .inl j)] [] P0 P0 M1 Q := by
    intro k
    induction k with
    | zero =>
      intro j M1 j0 hj hA z
      refine g_m_asAtFirst_2 _ _ _ _ _ ⟨⟨by omega, by omega⟩, fun _ => ⟨hn, m_reads (fun M2 hA2 h52 h4 h55 => ?_)⟩, fun q => absurd (by omega) q⟩
      have e53 : M2 53 = (mset (mset (mset M1 53 0 n) 53 1 10) 53 2 10) 53 := hA2 53 (by decide)
      refine hq M2 ((((hA.mono (by decide)).set (by decide)).set (by decide)).set (by decide) |>.tr (hA2.mono (by decide))) (fun i hi => by rw [h52 i hi, mset_ne (by decide), mset_ne (by decide), mset_ne (by decide), hA 52 (by decide)]) h4 ?_ ?_ ?_ (fun i a b => ?_) (fun i a b => by rw [h55 i a b, e53])
      · rw [e53]; simp [mset]
      · rw [e53]; simp [mset]
      · rw [e53]; simp [mset]
      · rw [e53, mset_at, if_neg (by omega), mset_at, if_neg (by omega), mset_at, if_neg (by omega)]
        exact z i (by omega) (by omega)
    | succ k ih =>
      intro j M1 j0 hj hA z
      refine g_m_asAtFirst_2 _ _ _ _ _ ⟨⟨by omega, by omega⟩, fun q => absurd q (by omega), fun _ => ⟨⟨by omega, by omega⟩, ih (j + 1) _ (by omega) (by omega) (hA.set (by decide)) (fun i a b => ?_)⟩⟩
      rw [mset_at]
      split
      · rfl
      · exact z i a (by omega)
  exact c_m_asAtFirst (K + 1) n M Q (loop 128 0 M (by decide) (by decide) (Ag.rf _ _) (fun i a b => by omega))
theorem b_houses {K : Nat} {n : Int} {M : PM} {C : Int → Int → PM → Prop} (I : Iv M) (h1 : R32 n) (hq : Ok32 C) : Bi (K + 22) jClearingWaves_houses [.inr (.inr 0), .inl n] jModel_houses [.inr (.inr 52), .inl n] M C := by
  unfold Bi
  by_cases p : 2 ≤ n ∧ n ≤ 5
  · refine c_x_houses (K + 21) n M _ ⟨h1, fun q => absurd q (by omega), fun _ => ⟨fun _ => x_begin phk_1_P0 (fun M1 hA b0 b1 b2 z2 z3 z4 => c_x_noteChange _ _ _ ?_), fun q => absurd p.2 q⟩⟩
    refine c_m_houses (K + 21) n _ _ ⟨h1, m_within_y h1.R64 (by decide) (by decide) p ⟨by decide, fun _ => m_asAtFirst h1 (fun M2 hA2 h52 h4 t0 t1 t2 tz t55 => hq _ _ h1 ?_), fun q => absurd q (by decide)⟩⟩
    have eM : ∀ a, a ≠ 0 → a ∉ [52, 53, 55] → M2 a = M1 a := fun a a0 a1 => by rw [hA2 a a1, mset_ne a0, mset_ne a0]
    refine I.book (((hA.mono (by decide)).set (by decide)).set (by decide) |>.tr (hA2.mono (by decide))) (fun i i7 i9 => ?_) ?_ ?_ (fun i hi => ?_) h4 ⟨BV.zero p ?_ (fun h hh => ?_) (fun j a b => ?_) (fun j a b => ?_) ⟨t0, t1, t2, tz⟩, fun i a b => t55 i a b⟩
    · rw [hA2 0 (by decide)]
      have := congrFun (hA 0 (by decide)) i
      simp [mset, i7, i9, this]
    · rw [hA2 0 (by decide)]; simp [mset]
    · rw [hA2 0 (by decide)]; simp [mset]
    · rw [h52 i hi, mset_ne (by decide), mset_ne (by decide), hA 52 (by decide)]
    · rw [eM 1 (by decide) (by decide)]; exact ⟨b0, b1, b2⟩
    · rw [eM 2 (by decide) (by decide)]; exact z2 h hh.1 hh.2
    · rw [eM 3 (by decide) (by decide)]; exact z3 j a b
    · rw [eM 4 (by decide) (by decide)]; exact z4 j a b
  · have fin : Call (K + 22) jModel_houses [.inr (.inr 52), .inl n] P0 P0 M (retI fun r2 M2 => C (-2) r2 M2) :=
      c_m_houses (K + 21) n M _ ⟨h1, m_within_n h1.R64 (by decide) (by decide) p ⟨by decide, fun q => absurd rfl q, fun _ => hq _ _ (by decide) I⟩⟩
    exact c_x_houses (K + 21) n M _ ⟨h1, fun _ => fin, fun _ => ⟨fun q => absurd ⟨by omega, q⟩ p, fun _ => fin⟩⟩
theorem mcpy_at (M : PM) (a0 a n : Nat) (j : Int) (h : j < (n : Int)) : (mcpy M a0 a n) a j = M a0 j := by
  unfold mcpy
  rw [if_pos ⟨rfl, h⟩]
theorem b_image {K : Nat} {M : PM} {C : Int → Int → PM → Prop} (I : Iv M) (hq : Ok32 C) : Bi (K + 22) jClearingWaves_image [.inr (.inr 0)] jModel_image [.inr (.inr 52)] M C := by
  have B := I.1.xb
  unfold Bi
  refine c_x_image (K + 21) M _ (c_kp_copy _ _ _ ?_)
  refine c_m_image (K + 21) _ _ ?_
  obtain ⟨M1, e1⟩ : ∃ M1, M1 = mset (mcpy (mcpy (mcpy (mset (mset (mset M 5 0 (M 1 0)) 5 1 (M 1 1)) 5 2 (M 1 2)) 2 6 5) 3 7 75) 4 8 45) 0 2 1 := ⟨_, rfl⟩
  have r0 : (mcpy (mcpy (mcpy (mset (mset (mset M 5 0 (M 1 0)) 5 1 (M 1 1)) 5 2 (M 1 2)) 2 6 5) 3 7 75) 4 8 45) 5 0 = M 1 0 := by simp [mcpy, mset]
  show C ((mcpy (mcpy (mcpy (mset (mset (mset M 5 0 (M 1 0)) 5 1 (M 1 1)) 5 2 (M 1 2)) 2 6 5) 3 7 75) 4 8 45) 5 0) _ _
  rw [r0, ← e1]
  have e55 : M1 55 = M 55 := by rw [e1]; funext i; simp [mcpy, mset]
  have e53 : M1 53 = M 53 := by rw [e1]; funext i; simp [mcpy, mset]
  rw [e55, I.1.n]
  have hne : ∀ a, a ∉ [0, 5, 6, 7, 8] → M1 a = M a := fun a ha => by
    rw [e1, mset_ne (fun z => ha (by rw [z]; decide)), mcpy_ne (fun z => ha (by rw [z]; decide)), mcpy_ne (fun z => ha (by rw [z]; decide)), mcpy_ne (fun z => ha (by rw [z]; decide)), mset_ne (fun z => ha (by rw [z]; decide)), mset_ne (fun z => ha (by rw [z]; decide)), mset_ne (fun z => ha (by rw [z]; decide))]
  obtain ⟨M2, e2⟩ : ∃ M2, M2 = mset (mcpy M1 53 54 128) 52 2 1 := ⟨_, rfl⟩
  rw [← e2]
  have hne2 : ∀ a, a ∉ [0, 5, 6, 7, 8, 52, 54] → M2 a = M a := fun a ha => by
    rw [e2, mset_ne (fun z => ha (by rw [z]; decide)), mcpy_ne (fun z => ha (by rw [z]; decide))]
    exact hne a (fun z => ha (by revert z; simp; omega))
  have h0 : ∀ i, i ≠ 2 → M2 0 i = M 0 i := fun i hi => by simp [e2, e1, mset, mcpy, hi]
  have h52 : ∀ i, i ≠ 2 → M2 52 i = M 52 i := fun i hi => by simp [e2, e1, mset, mcpy, hi]
  refine hq _ _ ⟨by have := B.1; omega, by have := B.1; omega⟩ ?_
  refine ⟨I.1.of (hne2 1 (by decide)) (hne2 2 (by decide)) (hne2 3 (by decide)) (hne2 4 (by decide)) (hne2 53 (by decide)) (hne2 55 (by decide)), Or.inr ⟨by simp [e2, e1, mset, mcpy], by simp [e2, e1, mset, mcpy], I.1.1.cong ⟨?_, ?_, ?_⟩ (fun h hh => ?_) (fun j a b => ?_) (fun j a b => ?_) (fun j a b => ?_)⟩, I.2.2.1.of (by rw [hne2 45 (by decide)]) (hne2 46 (by decide)) (h52 6 (by decide)) (hne2 56 (by decide)), I.2.2.2.1.of (hne2 47 (by decide)) (hne2 48 (by decide)) (h52 32 (by decide)) (hne2 71 (by decide)), I.2.2.2.2.1.of (hne2 50 (by decide)) (hne2 51 (by decide)) (hne2 72 (by decide)) (hne2 73 (by decide)),
    I.2.2.2.2.2.1.of (h0 7 (by decide)) (hne2 1 (by decide)) (hne2 2 (by decide)) (hne2 3 (by decide)) (hne2 11 (by decide)) (hne2 12 (by decide)) (hne2 13 (by decide)) (hne2 14 (by decide)) (hne2 15 (by decide)) (hne2 16 (by decide)), I.2.2.2.2.2.2.1.of (h0 9 (by decide)) (hne2 1 (by decide)) (hne2 2 (by decide)) (hne2 3 (by decide)) (hne2 37 (by decide)) (hne2 38 (by decide)) (hne2 39 (by decide)),
    I.2.2.2.2.2.2.2.of (h52 4 (by decide)) (hne2 55 (by decide)) (h52 9 (by decide)) (h52 13 (by decide)) (hne2 58 (by decide)) (hne2 59 (by decide)) (hne2 60 (by decide)) (hne2 61 (by decide))⟩
  · simp [e2, e1, mset, mcpy]
  · simp [e2, e1, mset, mcpy]
  · simp [e2, e1, mset, mcpy]
  · have : h < 5 := hh.2
    simp [e2, e1, mset, mcpy, this]
  · simp [e2, e1, mset, mcpy, b]
  · simp [e2, e1, mset, mcpy, b]
  · rw [e2, mset_ne (by decide), mcpy_at _ _ _ _ _ (by exact b), e53]
theorem b_undo {K : Nat} {M : PM} {C : Int → Int → PM → Prop} (I : Iv M) (hq : Ok32 C) : Bi (K + 22) jClearingWaves_undo [.inr (.inr 0)] jModel_undo [.inr (.inr 52)] M C := by
  unfold Bi
  rcases I.2.1 with ⟨a, b⟩ | ⟨a, b, c⟩
  · refine c_x_undo (K + 21) M _ ⟨by rw [a]; decide, fun q => absurd a q, fun _ => c_m_undo (K + 21) M _ ⟨by rw [b]; decide, fun q => absurd b q, fun _ => hq _ _ (by decide) I⟩⟩
  · refine c_x_undo (K + 21) M _ ⟨by rw [a]; decide, fun _ => c_bk_copy _ _ _ (c_x_noteChange _ _ _ ?_), fun q => absurd q (by rw [a]; decide)⟩
    obtain ⟨M1, e1⟩ : ∃ M1, M1 = mset (mset (mcpy (mcpy (mcpy (mset (mset (mset M 1 0 (M 5 0)) 1 1 (M 5 1)) 1 2 (M 5 2)) 6 2 5) 7 3 75) 8 4 45) 0 7 1) 0 9 1 := ⟨_, rfl⟩
    rw [← e1]
    have e52 : M1 52 = M 52 := by rw [e1]; funext i; simp [mcpy, mset]
    have r0 : M1 1 0 = M 5 0 := by rw [e1]; simp [mcpy, mset]
    show Call (K + 22) jModel_undo [.inr (.inr 52)] P0 P0 M1 (retI fun r2 M2 => C (M1 1 0) r2 M2)
    have hne : ∀ a, a ∉ [0, 1, 2, 3, 4] → M1 a = M a := fun a ha => by
      rw [e1, mset_ne (fun z => ha (by rw [z]; decide)), mset_ne (fun z => ha (by rw [z]; decide)), mcpy_ne (fun z => ha (by rw [z]; decide)), mcpy_ne (fun z => ha (by rw [z]; decide)), mcpy_ne (fun z => ha (by rw [z]; decide)), mset_ne (fun z => ha (by rw [z]; decide)), mset_ne (fun z => ha (by rw [z]; decide)), mset_ne (fun z => ha (by rw [z]; decide))]
    refine c_m_undo (K + 21) M1 _ ⟨by rw [e52, b]; decide, fun _ => m_reads (fun M2 hA h52 h4 h55 => ?_), fun q => absurd q (by rw [e52, b]; decide)⟩
    have e53 : ∀ j, 0 ≤ j → j < 128 → M2 53 j = M 54 j := fun j j0 j1 => by
      rw [hA 53 (by decide), mcpy_at _ _ _ _ _ (by exact j1), hne 54 (by decide)]
    have hn2 : M2 55 0 = M 5 0 := by
      rw [h55 0 (by decide) (by decide), mcpy_at _ _ _ _ _ (by decide), hne 54 (by decide), c.2.2.1]
    show C (M1 1 0) (M2 55 0) M2
    rw [r0, hn2]
    have eM : ∀ a, a ∉ [52, 53, 55] → M2 a = M1 a := fun a ha => by rw [hA a (fun z => ha (by revert z; simp; omega)), mcpy_ne (fun z => ha (by rw [z]; decide))]
    refine hq _ _ ⟨by have := c.1.1; omega, by have := c.1.1; omega⟩ (I.book (fun a ha => ?_) (fun i i7 i9 => ?_) ?_ ?_ (fun i hi => ?_) h4 ⟨c.cong ⟨?_, ?_, ?_⟩ (fun h hh => ?_) (fun j x y => ?_) (fun j x y => ?_) (fun j x y => e53 j x y), fun i x y => ?_⟩)
    · rw [eM a (fun z => ha (by revert z; simp; omega)), hne a (fun z => ha (by revert z; simp; omega))]
    · rw [eM 0 (by decide), e1]; simp [mset, mcpy, i7, i9]
    · rw [eM 0 (by decide), e1]; simp [mset]
    · rw [eM 0 (by decide), e1]; simp [mset]
    · rw [h52 i hi, mcpy_ne (by decide), e52]
    · rw [eM 1 (by decide)]; exact r0
    · rw [eM 1 (by decide), e1]; simp [mset, mcpy]
    · rw [eM 1 (by decide), e1]; simp [mset, mcpy]
    · have : h < 5 := hh.2
      rw [eM 2 (by decide), e1]; simp [mset, mcpy, this]
    · rw [eM 3 (by decide), e1]; simp [mset, mcpy, y]
    · rw [eM 4 (by decide), e1]; simp [mset, mcpy, y]
    · rw [h55 i x y, hA 53 (by decide)]
