/-! CALLS: the book -/
theorem Dbt.hs {M : PM} {f t c : Int} (B : XB M) (d : Dbt M f t c) : hs f ∧ hs t ∧ kl c ∧ f ≠ t := ⟨⟨d.1.1.1, by have := B.1.2; have := d.1.1.2; omega⟩, ⟨d.2.1.1, by have := B.1.2; have := d.2.1.2; omega⟩, d.1.2, d.2.2⟩
theorem Dbt.m {M : PM} {f t c : Int} (I : IvB M) (d : Dbt M f t c) : (0 ≤ f ∧ f < M 55 0) ∧ (0 ≤ t ∧ t < M 55 0) ∧ f ≠ t := by rw [I.n]; exact ⟨d.1.1, d.2.1, d.2.2⟩
/-- the model asks for a debt: pair, then class -/
theorem m_debt_n {K jm : Nat} {A : List PV} {f t c : Int} {M : PM} {Q : Option PV → PM → Prop} (I : IvB M) (h1 : R32 f) (h2 : R32 t) (h3 : R32 c) (hP : ¬ Dbt M f t c) (q : Q (some (.inl (-1))) M) (Qr : Int → PM → Prop)
    (e : Call (K + 3) jModel_arePair [.inr (.inr 52), .inl f, .inl t] P0 P0 M (retI fun r1 M2 => R32 r1 ∧ (r1 = 0 → Q (some (.inl (-1))) M2) ∧ (¬ r1 = 0 → Call (K + 3) jModel_isClass [.inl c] P0 P0 M2 (retI fun r4 M5 => R32 r4 ∧ (¬ r4 = 0 → Qr r4 M5) ∧ (r4 = 0 → Q (some (.inl (-1))) M5)))) → Call (K + 4) jm A P0 P0 M Q) : Call (K + 4) jm A P0 P0 M Q := by
  refine e ?_
  by_cases p : (0 ≤ f ∧ f < M 55 0) ∧ (0 ≤ t ∧ t < M 55 0) ∧ f ≠ t
  · refine m_arePair_y I.mb h1 h2 p ⟨by decide, fun z => absurd z (by decide), fun _ => m_isClass_n h3 (fun z => hP (by rw [I.n] at p; exact ⟨⟨p.1, z⟩, p.2.1, p.2.2⟩)) ⟨by decide, fun z => absurd rfl z, fun _ => q⟩⟩
  · exact m_arePair_n I.mb h1 h2 p ⟨by decide, fun _ => q, fun z => absurd rfl z⟩
theorem b_owed {K : Nat} {f t c : Int} {M : PM} {C : Int → Int → PM → Prop} (I : Iv M) (h1 : R32 f) (h2 : R32 t) (h3 : R32 c) (hq : Ok32 C) : Bi (K + 22) jClearingWaves_owed [.inr (.inr 0), .inl f, .inl t, .inl c] jModel_owed [.inr (.inr 52), .inl f, .inl t, .inl c] M C := by
  have B := I.1.xb
  unfold Bi
  by_cases p : Dbt M f t c
  · have d := p.hs B
    have b := B.2.2.2.2.1 f t c d.1 d.2.1 d.2.2.1
    refine c_x_owed (K + 21) f t c M _ (x_hasDebt_y B h1 h2 h3 p ⟨by decide, fun q => absurd q (by decide), fun _ => x_amount phk_1_P0 d.1 d.2.1 d.2.2.1 ?_⟩)
    refine c_m_owed (K + 21) f t c M _ (m_arePair_y I.1.mb h1 h2 (p.m I.1) ⟨by decide, fun q => absurd q (by decide), fun _ => m_isClass_y h3 d.2.2.1 ⟨by decide, fun q => absurd q (by decide), fun _ => m_owes d.1 d.2.1 d.2.2.1 ?_⟩⟩)
    rw [I.1.o d.1 d.2.1 d.2.2.1]
    exact hq _ _ ⟨by omega, by omega⟩ I
  · refine c_x_owed (K + 21) f t c M _ (x_hasDebt_n B h1 h2 h3 p ⟨by decide, fun _ => ?_, fun q => absurd rfl q⟩)
    by_cases p1 : (0 ≤ f ∧ f < M 55 0) ∧ (0 ≤ t ∧ t < M 55 0) ∧ f ≠ t
    · refine c_m_owed (K + 21) f t c M _ (m_arePair_y I.1.mb h1 h2 p1 ⟨by decide, fun q => absurd q (by decide), fun _ => m_isClass_n h3 (fun z => p (by rw [I.1.n] at p1; exact ⟨⟨p1.1, z⟩, p1.2.1, p1.2.2⟩)) ⟨by decide, fun _ => hq _ _ (by decide) I, fun q => absurd rfl q⟩⟩)
    · exact c_m_owed (K + 21) f t c M _ (m_arePair_n I.1.mb h1 h2 p1 ⟨by decide, fun _ => hq _ _ (by decide) I, fun q => absurd rfl q⟩)
theorem b_owe {K : Nat} {f t c v : Int} {M : PM} {C : Int → Int → PM → Prop} (I : Iv M) (h1 : R32 f) (h2 : R32 t) (h3 : R32 c) (h4 : R32 v) (hq : Ok32 C) : Bi (K + 22) jClearingWaves_owe [.inr (.inr 0), .inl f, .inl t, .inl c, .inl v] jModel_owe [.inr (.inr 52), .inl f, .inl t, .inl c, .inl v] M C := by
  have B := I.1.xb
  unfold Bi
  by_cases p : Dbt M f t c
  · have d := p.hs B
    have b := B.2.2.2.2.1 f t c d.1 d.2.1 d.2.2.1
    have hix := d3_75 d.1 d.2.1 d.2.2.1
    unfold d3 at hix
    refine c_x_owe (K + 21) f t c v M _ (x_hasDebt_y B h1 h2 h3 p ⟨by decide, fun _ => ?_, fun q => absurd q (by decide)⟩)
    by_cases pv : 0 ≤ v ∧ v ≤ 20
    · refine ⟨h4, fun q => absurd q (by omega), fun _ => ⟨fun _ => x_amount phk_1_P0 d.1 d.2.1 d.2.2.1 (c_bk_put _ _ _ _ _ _ _ ⟨hix, c_x_noteChange _ _ _ ?_⟩), fun q => absurd pv.2 q⟩⟩
      obtain ⟨M1, e1⟩ : ∃ M1, M1 = mset (mset (mset M 3 ((((f * 5) + t) * 3) + c) v) 0 7 1) 0 9 1 := ⟨_, rfl⟩
      rw [← e1]
      have hA : Ag [0, 3] M M1 := by rw [e1]; exact (((Ag.rf _ _).set (by decide)).set (by decide)).set (by decide)
      have k55 : M1 55 = M 55 := hA 55 (by decide)
      have k53 : M1 53 = M 53 := hA 53 (by decide)
      have B1 : MB M1 := I.1.mb.of k55
      refine c_m_owe (K + 21) f t c v M1 _ (m_arePair_y B1 h1 h2 (by rw [k55]; exact p.m I.1) ⟨by decide, fun q => absurd q (by decide), fun _ => m_isClass_y h3 d.2.2.1 ⟨by decide, fun _ => ⟨h4, m_within_y h4.R64 (by decide) (by decide) pv ⟨by decide, fun q => absurd q (by decide), fun _ => m_owedAt (c_m_tells _ _ _ _ _ ⟨⟨by omega, by omega⟩, h4, ⟨by omega, by omega⟩, ?_⟩)⟩⟩, fun q => absurd q (by decide)⟩⟩)
      have em : M1 55 ((8 + (((5 * f) + t) * 3)) + c) = xo M f t c := by rw [k55, ← I.1.o d.1 d.2.1 d.2.2.1]; rfl
      rw [em]
      have ei : (8 + (((5 * f) + t) * 3)) + c = 8 + d3 f t c := by unfold d3; omega
      rw [ei]
      refine hq _ _ ⟨by omega, by omega⟩ ?_
      refine I.book (((hA.mono (by decide)).set (by decide)).set (by decide) |>.set (by decide)) (fun i i7 i9 => ?_) ?_ ?_ (fun i hi => ?_) mset_eq ⟨I.1.1.owe d.1 d.2.1 d.2.2.1 p.1.1.2 p.2.1.2 p.2.2 pv ?_ ?_ ?_ (fun i => ?_) (fun i => ?_), fun i i0 i1 => ?_⟩
      · rw [mset_ne (by decide), mset_ne (by decide), mset_ne (by decide), e1]; simp [mset, i7, i9]
      · rw [mset_ne (by decide), mset_ne (by decide), mset_ne (by decide), e1]; simp [mset]
      · rw [mset_ne (by decide), mset_ne (by decide), mset_ne (by decide), e1]; simp [mset]
      · rw [show ∀ (N : PM), (mset N 52 4 0) 52 i = N 52 i from fun N => by simp [mset, hi], mset_ne (by decide), mset_ne (by decide), hA 52 (by decide)]
      · rw [mset_ne (by decide), mset_ne (by decide), mset_ne (by decide), hA 1 (by decide)]
      · rw [mset_ne (by decide), mset_ne (by decide), mset_ne (by decide), hA 2 (by decide)]
      · rw [mset_ne (by decide), mset_ne (by decide), mset_ne (by decide), hA 4 (by decide)]
      · rw [mset_ne (by decide), mset_ne (by decide), mset_ne (by decide), e1, mset_ne (by decide), mset_ne (by decide), mset_at]
      · rw [mset_ne (by decide), mset_at, mset_ne (by decide), k53]
      · rw [mset_ne (by decide), mset_ne (by decide), mset_at, mset_ne (by decide), mset_at, mset_ne (by decide), k53, k55]
        split
        · rfl
        · exact I.1.2 i i0 i1
    · have fin : Call (K + 22) jModel_owe [.inr (.inr 52), .inl f, .inl t, .inl c, .inl v] P0 P0 M (retI fun r2 M2 => C (-2) r2 M2) :=
        c_m_owe (K + 21) f t c v M _ (m_arePair_y I.1.mb h1 h2 (p.m I.1) ⟨by decide, fun q => absurd q (by decide), fun _ => m_isClass_y h3 d.2.2.1 ⟨by decide, fun _ => ⟨h4, m_within_n h4.R64 (by decide) (by decide) pv ⟨by decide, fun _ => hq _ _ (by decide) I, fun q => absurd rfl q⟩⟩, fun q => absurd q (by decide)⟩⟩)
      exact ⟨h4, fun _ => fin, fun _ => ⟨fun q => absurd ⟨by omega, q⟩ pv, fun _ => fin⟩⟩
  · refine c_x_owe (K + 21) f t c v M _ (x_hasDebt_n B h1 h2 h3 p ⟨by decide, fun q => absurd rfl q, fun _ => ?_⟩)
    exact m_debt_n (K := K + 18) I.1 h1 h2 h3 p (hq _ _ (by decide) I) _ (c_m_owe (K + 21) f t c v M _)
theorem b_costs {K : Nat} {a b : Int} {M : PM} {C : Int → Int → PM → Prop} (I : Iv M) (h1 : R32 a) (h2 : R32 b) (hq : Ok32 C) : Bi (K + 22) jClearingWaves_costs [.inr (.inr 0), .inl a, .inl b] jModel_costs [.inr (.inr 52), .inl a, .inl b] M C := by
  unfold Bi
  by_cases pa : 0 ≤ a ∧ a ≤ 10
  · by_cases pb : 0 ≤ b ∧ b ≤ 10
    · refine c_x_costs (K + 21) a b M _ ⟨h1, fun q => absurd q (by omega), fun _ => ⟨fun q => absurd q (by omega), fun _ => ⟨h2, fun q => absurd q (by omega), fun _ => ⟨fun _ => c_x_noteChange _ _ _ ?_, fun q => absurd pb.2 q⟩⟩⟩⟩
      obtain ⟨M1, e1⟩ : ∃ M1, M1 = mset (mset (mset (mset M 1 1 a) 1 2 b) 0 7 1) 0 9 1 := ⟨_, rfl⟩
      rw [← e1]
      have hA : Ag [0, 1] M M1 := by rw [e1]; exact ((((Ag.rf _ _).set (by decide)).set (by decide)).set (by decide)).set (by decide)
      have k55 : M1 55 = M 55 := hA 55 (by decide)
      have k53 : M1 53 = M 53 := hA 53 (by decide)
      refine c_m_costs (K + 21) a b M1 _ ⟨h1, m_within_y h1.R64 (by decide) (by decide) pa ⟨by decide, fun q => absurd q (by decide), fun _ => ⟨h2, m_within_y h2.R64 (by decide) (by decide) pb ⟨by decide, fun _ => c_m_tells _ _ _ _ _ ⟨by decide, h1, by decide, c_m_tells _ _ _ _ _ ⟨by decide, h2, by decide, ?_⟩⟩, fun q => absurd q (by decide)⟩⟩⟩⟩
      refine hq _ _ (by decide) ?_
      have hAll : Ag [0, 1, 2, 3, 4, 52, 53, 55] M (mset (mset (mset (mset (mset (mset M1 55 1 a) 53 1 a) 52 4 0) 55 2 b) 53 2 b) 52 4 0) := ((((((hA.mono (by decide)).set (by decide)).set (by decide)).set (by decide)).set (by decide)).set (by decide)).set (by decide)
      have e53 : ∀ i, (mset (mset (mset (mset (mset (mset M1 55 1 a) 53 1 a) 52 4 0) 55 2 b) 53 2 b) 52 4 0) 53 i = if i = 2 then b else if i = 1 then a else M 53 i := fun i => by
        rw [mset_ne (by decide), mset_at, mset_ne (by decide), mset_ne (by decide), mset_at, mset_ne (by decide), k53]
      have e55 : ∀ i, (mset (mset (mset (mset (mset (mset M1 55 1 a) 53 1 a) 52 4 0) 55 2 b) 53 2 b) 52 4 0) 55 i = if i = 2 then b else if i = 1 then a else M 55 i := fun i => by
        rw [mset_ne (by decide), mset_ne (by decide), mset_at, mset_ne (by decide), mset_ne (by decide), mset_at, k55]
      refine I.book hAll (fun i i7 i9 => ?_) ?_ ?_ (fun i hi => ?_) mset_eq ⟨I.1.1.costs pa pb ?_ ?_ ?_ ?_ ?_ ?_ ?_ ?_ (fun i i1 i2 => ?_), fun i i0 i1 => ?_⟩
      · simp [mset, e1, i7, i9]
      · simp [mset, e1]
      · simp [mset, e1]
      · have := congrFun (hA 52 (by decide)) i
        simp [mset, hi, this]
      · funext i; simp [mset, e1]
      · funext i; simp [mset, e1]
      · funext i; simp [mset, e1]
      · simp [mset, e1]
      · simp [mset, e1]
      · simp [mset, e1]
      · rw [e53, if_neg (by decide), if_pos rfl]
      · rw [e53, if_pos rfl]
      · rw [e53, if_neg i2, if_neg i1]
      · rw [e53, e55, I.1.2 i i0 i1]
    · have fin : Call (K + 22) jModel_costs [.inr (.inr 52), .inl a, .inl b] P0 P0 M (retI fun r2 M2 => C (-2) r2 M2) :=
        c_m_costs (K + 21) a b M _ ⟨h1, m_within_y h1.R64 (by decide) (by decide) pa ⟨by decide, fun q => absurd q (by decide), fun _ => ⟨h2, m_within_n h2.R64 (by decide) (by decide) pb ⟨by decide, fun q => absurd rfl q, fun _ => hq _ _ (by decide) I⟩⟩⟩⟩
      exact c_x_costs (K + 21) a b M _ ⟨h1, fun q => absurd q (by omega), fun _ => ⟨fun q => absurd q (by omega), fun _ => ⟨h2, fun _ => fin, fun _ => ⟨fun q => absurd ⟨by omega, q⟩ pb, fun _ => fin⟩⟩⟩⟩
  · have fin : Call (K + 22) jModel_costs [.inr (.inr 52), .inl a, .inl b] P0 P0 M (retI fun r2 M2 => C (-2) r2 M2) :=
      c_m_costs (K + 21) a b M _ ⟨h1, m_within_n h1.R64 (by decide) (by decide) pa ⟨by decide, fun _ => hq _ _ (by decide) I, fun q => absurd rfl q⟩⟩
    exact c_x_costs (K + 21) a b M _ ⟨h1, fun _ => fin, fun _ => ⟨fun _ => fin, fun q => absurd ⟨by omega, by omega⟩ pa⟩⟩
theorem b_cede {K : Nat} {f t t2 c v : Int} {M : PM} {C : Int → Int → PM → Prop} (I : Iv M) (h1 : R32 f) (h2 : R32 t) (h2' : R32 t2) (h3 : R32 c) (h4 : R32 v) (hq : Ok32 C) : Bi (K + 22) jClearingWaves_cede [.inr (.inr 0), .inl f, .inl t, .inl t2, .inl c, .inl v] jModel_cede [.inr (.inr 52), .inl f, .inl t, .inl t2, .inl c, .inl v] M C := by
  have B := I.1.xb
  unfold Bi
  -- who isn't there
  have none_ : ¬ (Dbt M f t c ∧ Dbt M f t2 c ∧ t ≠ t2) → Call (K + 22) jModel_cede [.inr (.inr 52), .inl f, .inl t, .inl t2, .inl c, .inl v] P0 P0 M (retI fun r2 M2 => C (-1) r2 M2) := by
    intro no
    have q := hq (-1) M (by decide) I
    refine c_m_cede (K + 21) f t t2 c v M _ ?_
    by_cases p1 : (0 ≤ f ∧ f < M 55 0) ∧ (0 ≤ t ∧ t < M 55 0) ∧ f ≠ t
    · refine m_arePair_y I.1.mb h1 h2 p1 ⟨by decide, fun z => absurd z (by decide), fun _ => ?_⟩
      by_cases p2 : (0 ≤ f ∧ f < M 55 0) ∧ (0 ≤ t2 ∧ t2 < M 55 0) ∧ f ≠ t2
      · refine m_arePair_y I.1.mb h1 h2' p2 ⟨by decide, fun z => absurd z (by decide), fun _ => ⟨h2, h2', fun _ => q, fun ne => ?_⟩⟩
        refine m_isClass_n h3 (fun z => no ?_) ⟨by decide, fun z => absurd rfl z, fun _ => q⟩
        rw [I.1.n] at p1 p2
        exact ⟨⟨⟨p1.1, z⟩, p1.2.1, p1.2.2⟩, ⟨⟨p2.1, z⟩, p2.2.1, p2.2.2⟩, ne⟩
      · exact m_arePair_n I.1.mb h1 h2' p2 ⟨by decide, fun _ => q, fun z => absurd rfl z⟩
    · exact m_arePair_n I.1.mb h1 h2 p1 ⟨by decide, fun _ => q, fun z => absurd rfl z⟩
  by_cases p : Dbt M f t c
  · refine c_x_cede (K + 21) f t t2 c v M _ (x_hasDebt_y B h1 h2 h3 p ⟨by decide, fun q => absurd q (by decide), fun _ => ?_⟩)
    by_cases p2 : Dbt M f t2 c
    · refine x_hasDebt_y B h1 h2' h3 p2 ⟨by decide, fun q => absurd q (by decide), fun _ => ⟨h2, h2', fun ne => ?_, fun e => none_ fun z => z.2.2 e⟩⟩
      have d := p.hs B
      have d2 := p2.hs B
      have b := B.2.2.2.2.1 f t c d.1 d.2.1 d.2.2.1
      have b2 := B.2.2.2.2.1 f t2 c d.1 d2.2.1 d.2.2.1
      have pre : ∀ (Q : Option PV → PM → Prop) (M1 : PM), M1 55 = M 55 → (R32 v ∧ (1 ≤ v → Call (K + 21) jModel_owes [.inr (.inr 52), .inl f, .inl t, .inl c] P0 P0 M1 (retI fun r13 M14 => R32 r13 ∧ (v ≤ r13 → Call (K + 21) jModel_owes [.inr (.inr 52), .inl f, .inl t2, .inl c] P0 P0 M14 (retI fun r16 M17 => R32 r16 ∧ R32 (20 - v) ∧ (r16 ≤ (20 - v) → Call (K + 21) jModel_owedAt [.inl f, .inl t, .inl c] P0 P0 M17 (retI fun r20 M21 => Call (K + 21) jModel_tells [.inr (.inr 52), .inl r20, .inl (r13 - v)] P0 P0 M21 (retI fun r22 M23 => Call (K + 21) jModel_owedAt [.inl f, .inl t2, .inl c] P0 P0 M23 (retI fun r24 M25 => Call (K + 21) jModel_owes [.inr (.inr 52), .inl f, .inl t2, .inl c] P0 P0 M25 (retI fun r26 M27 => Call (K + 21) jModel_tells [.inr (.inr 52), .inl r24, .inl (r26 + v)] P0 P0 M27 (retI fun r28 M29 => Q (some (.inl 1)) M29)))))) ∧ (¬ r16 ≤ (20 - v) → Q (some (.inl (-4))) M17))) ∧ (¬ v ≤ r13 → Q (some (.inl (-3))) M14))) ∧ (¬ 1 ≤ v → Q (some (.inl (-2))) M1)) →
          Call (K + 22) jModel_cede [.inr (.inr 52), .inl f, .inl t, .inl t2, .inl c, .inl v] P0 P0 M1 Q := by
        intro Q M1 k55 go
        have B1 : MB M1 := I.1.mb.of k55
        refine c_m_cede (K + 21) f t t2 c v M1 Q (m_arePair_y B1 h1 h2 (by rw [k55]; exact p.m I.1) ⟨by decide, fun z => absurd z (by decide), fun _ => m_arePair_y B1 h1 h2' (by rw [k55]; exact p2.m I.1) ⟨by decide, fun z => absurd z (by decide), fun _ => ⟨h2, h2', fun z => absurd z ne, fun _ => m_isClass_y h3 d.2.2.1 ⟨by decide, fun _ => go, fun z => absurd z (by decide)⟩⟩⟩⟩)
      by_cases pv : 1 ≤ v
      · refine ⟨h4, fun _ => x_amount phk_1_P0 d.1 d.2.1 d.2.2.1 ⟨⟨by omega, by omega⟩, fun le => x_amount phk_1_P0 d.1 d2.2.1 d.2.2.1 ⟨⟨by omega, by omega⟩, fun le2 => ?_, fun nle2 => ?_⟩, fun nle => ?_⟩, fun z => absurd pv z⟩
        · have hix := d3_75 d.1 d.2.1 d.2.2.1
          have hix2 := d3_75 d.1 d2.2.1 d.2.2.1
          have hne : d3 f t2 c ≠ d3 f t c := fun z => ne (by unfold d3 at z; omega)
          refine c_bk_put _ _ _ _ _ _ _ ⟨hix, c_bk_put _ _ _ _ _ _ _ ⟨hix2, c_x_noteChange _ _ _ ?_⟩⟩
          obtain ⟨M1, e1⟩ : ∃ M1, M1 = mset (mset (mset (mset M 3 (d3 f t c) (xo M f t c - v)) 3 (d3 f t2 c) (xo M f t2 c + v)) 0 7 1) 0 9 1 := ⟨_, rfl⟩
          show Call (K + 22) jModel_cede [.inr (.inr 52), .inl f, .inl t, .inl t2, .inl c, .inl v] P0 P0 (mset (mset (mset (mset M 3 (d3 f t c) (xo M f t c - v)) 3 (d3 f t2 c) (xo M f t2 c + v)) 0 7 1) 0 9 1) _
          rw [← e1]
          have hA : Ag [0, 3] M M1 := by rw [e1]; exact ((((Ag.rf _ _).set (by decide)).set (by decide)).set (by decide)).set (by decide)
          have k55 : M1 55 = M 55 := hA 55 (by decide)
          have k53 : M1 53 = M 53 := hA 53 (by decide)
          refine pre _ M1 k55 ⟨h4, fun _ => m_owes d.1 d.2.1 d.2.2.1 ?_, fun z => absurd pv z⟩
          rw [mo_of k55, I.1.o d.1 d.2.1 d.2.2.1]
          refine ⟨⟨by omega, by omega⟩, fun _ => m_owes d.1 d2.2.1 d.2.2.1 ?_, fun z => absurd le z⟩
          rw [mo_of k55, I.1.o d.1 d2.2.1 d.2.2.1]
          refine ⟨⟨by omega, by omega⟩, ⟨by omega, by omega⟩, fun _ => m_owedAt ?_, fun z => absurd (by omega) z⟩
          have ei : (8 + (((5 * f) + t) * 3)) + c = 8 + d3 f t c := by unfold d3; omega
          have ei2 : (8 + (((5 * f) + t2) * 3)) + c = 8 + d3 f t2 c := by unfold d3; omega
          rw [ei]
          refine c_m_tells _ _ _ _ _ ⟨⟨by omega, by omega⟩, ⟨by omega, by omega⟩, ⟨by omega, by omega⟩, m_owedAt (m_owes d.1 d2.2.1 d.2.2.1 ?_)⟩
          rw [ei2]
          have eo : mo (mset (mset (mset M1 55 (8 + d3 f t c) (xo M f t c - v)) 53 (8 + d3 f t c) (xo M f t c - v)) 52 4 0) f t2 c = xo M f t2 c := by
            unfold mo
            rw [ei2, mset_ne (by decide), mset_ne (by decide), mset_at, if_neg (fun z => hne (by omega)), k55, ← ei2]
            exact I.1.o d.1 d2.2.1 d.2.2.1
          rw [eo]
          refine c_m_tells _ _ _ _ _ ⟨⟨by omega, by omega⟩, ⟨by omega, by omega⟩, ⟨by omega, by omega⟩, hq _ _ (by decide) ?_⟩
          obtain ⟨M2, e2⟩ : ∃ M2, M2 = mset (mset (mset (mset (mset (mset M1 55 (8 + d3 f t c) (xo M f t c - v)) 53 (8 + d3 f t c) (xo M f t c - v)) 52 4 0) 55 (8 + d3 f t2 c) (xo M f t2 c + v)) 53 (8 + d3 f t2 c) (xo M f t2 c + v)) 52 4 0 := ⟨_, rfl⟩
          rw [← e2]
          have hAll : Ag [0, 1, 2, 3, 4, 52, 53, 55] M M2 := by rw [e2]; exact ((((((hA.mono (by decide)).set (by decide)).set (by decide)).set (by decide)).set (by decide)).set (by decide)).set (by decide)
          have e53 : ∀ i, M2 53 i = if i = 8 + d3 f t2 c then xo M f t2 c + v else if i = 8 + d3 f t c then xo M f t c - v else M 53 i := fun i => by
            rw [e2, mset_ne (by decide), mset_at, mset_ne (by decide), mset_ne (by decide), mset_at, mset_ne (by decide), k53]
          have e55 : ∀ i, M2 55 i = if i = 8 + d3 f t2 c then xo M f t2 c + v else if i = 8 + d3 f t c then xo M f t c - v else M 55 i := fun i => by
            rw [e2, mset_ne (by decide), mset_ne (by decide), mset_at, mset_ne (by decide), mset_ne (by decide), mset_at, k55]
          have BV1 : BV (M 1) (M 2) (fun i => if i = d3 f t c then xo M f t c - v else M 3 i) (M 4) (fun i => if i = 8 + d3 f t c then xo M f t c - v else M 53 i) :=
            I.1.1.owe d.1 d.2.1 d.2.2.1 p.1.1.2 p.2.1.2 p.2.2 (v := xo M f t c - v) ⟨by omega, by omega⟩ rfl rfl rfl (fun _ => rfl) (fun _ => rfl)
          refine I.book hAll (fun i i7 i9 => ?_) ?_ ?_ (fun i hi => ?_) (by rw [e2, mset_eq]) ⟨BV1.owe d.1 d2.2.1 d.2.2.1 p2.1.1.2 p2.2.1.2 p2.2.2 (v := xo M f t2 c + v) ⟨by omega, by omega⟩ ?_ ?_ ?_ (fun i => ?_) (fun i => e53 i), fun i i0 i1 => ?_⟩
          · simp [e2, mset, e1, i7, i9]
          · simp [e2, mset, e1]
          · simp [e2, mset, e1]
          · have := congrFun (hA 52 (by decide)) i
            simp [e2, mset, hi, this]
          · funext i; simp [e2, mset, e1]
          · funext i; simp [e2, mset, e1]
          · funext i; simp [e2, mset, e1]
          · rw [e2, mset_ne (by decide), mset_ne (by decide), mset_ne (by decide), mset_ne (by decide), mset_ne (by decide), mset_ne (by decide), e1, mset_ne (by decide), mset_ne (by decide), mset_at, mset_at]
          · rw [e53, e55, I.1.2 i i0 i1]
        · refine pre _ M rfl ⟨h4, fun _ => m_owes d.1 d.2.1 d.2.2.1 ?_, fun z => absurd pv z⟩
          rw [I.1.o d.1 d.2.1 d.2.2.1]
          refine ⟨⟨by omega, by omega⟩, fun _ => m_owes d.1 d2.2.1 d.2.2.1 ?_, fun z => absurd le z⟩
          rw [I.1.o d.1 d2.2.1 d.2.2.1]
          exact ⟨⟨by omega, by omega⟩, ⟨by omega, by omega⟩, fun z => absurd (by omega) nle2, fun _ => hq _ _ (by decide) I⟩
        · refine pre _ M rfl ⟨h4, fun _ => m_owes d.1 d.2.1 d.2.2.1 ?_, fun z => absurd pv z⟩
          rw [I.1.o d.1 d.2.1 d.2.2.1]
          exact ⟨⟨by omega, by omega⟩, fun z => absurd z nle, fun _ => hq _ _ (by decide) I⟩
      · refine ⟨h4, fun z => absurd z pv, fun _ => pre _ M rfl ⟨h4, fun z => absurd z pv, fun _ => hq _ _ (by decide) I⟩⟩
    · exact x_hasDebt_n B h1 h2' h3 p2 ⟨by decide, fun _ => none_ fun z => p2 z.2.1, fun q => absurd rfl q⟩
  · exact c_x_cede (K + 21) f t t2 c v M _ (x_hasDebt_n B h1 h2 h3 p ⟨by decide, fun _ => none_ fun z => p z.1, fun q => absurd rfl q⟩)
