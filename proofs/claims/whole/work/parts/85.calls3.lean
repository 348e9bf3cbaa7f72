/-! CALLS: units, the tape, what is counted, rows -/
theorem NO_R : R64 (-9223372036854775808) := by decide
theorem b_unitsOf {K : Nat} {f h c : Int} {M : PM} {C : Int → Int → PM → Prop} (I : Iv M) (h1 : R32 f) (h2 : R32 h) (h3 : R32 c) (hq : Ok64 C) : Bl (K + 22) jClearingWaves_unitsOf [.inr (.inr 0), .inl f, .inl h, .inl c] jModel_unitsOf [.inr (.inr 52), .inl f, .inl h, .inl c] M C := by
  have B := I.1.xb
  have hn := I.1.n
  unfold Bl
  have q0 := hq (-9223372036854775808) M (by decide) I
  by_cases pf : 0 ≤ f ∧ f < 3
  · by_cases ph : 0 ≤ h ∧ h < M 1 0
    · by_cases pc : kl c
      · have hh : hs h := ⟨ph.1, by have := B.1.2; omega⟩
        have hix := d3_45 pf hh pc
        have hu := I.1.1.2.1.1 _ hix.1 hix.2
        have e : M 53 (((83 + (15 * f)) + (3 * h)) + c) = M 4 (d3 f h c) := by
          rw [I.1.1.2.2.2.2.2.2.2 _ hix.1 hix.2]
          congr 1
          unfold d3; omega
        refine c_x_unitsOf (K + 21) f h c M _ ⟨h1, fun q => absurd q (by omega), fun _ => ⟨fun q => absurd q (by omega), fun _ => x_hasPart_y B h2 h3 ⟨ph, pc⟩ ⟨by decide, fun _ => c_book_unitPlace _ _ _ _ _ _ ⟨hix, ?_⟩, fun q => absurd q (by decide)⟩⟩⟩
        refine c_m_unitsOf (K + 21) f h c M _ (m_isFund_y h1 pf ⟨by decide, fun q => absurd q (by decide), fun _ => m_isHouse_y I.1.mb h2 (by rw [hn]; exact ph) ⟨by decide, fun q => absurd q (by decide), fun _ => m_isClass_y h3 pc ⟨by decide, fun q => absurd q (by decide), fun _ => c_model_unitsAt _ _ _ _ _ _ ⟨⟨by omega, by omega⟩, ?_⟩⟩⟩⟩)
        rw [e]
        exact hq (M 4 (d3 f h c)) _ ⟨by omega, by omega⟩ I
      · refine c_x_unitsOf (K + 21) f h c M _ ⟨h1, fun q => absurd q (by omega), fun _ => ⟨fun q => absurd q (by omega), fun _ => x_hasPart_n B h2 h3 (fun z => pc z.2) ⟨by decide, fun q => absurd rfl q, fun _ => ?_⟩⟩⟩
        exact c_m_unitsOf (K + 21) f h c M _ (m_isFund_y h1 pf ⟨by decide, fun q => absurd q (by decide), fun _ => m_isHouse_y I.1.mb h2 (by rw [hn]; exact ph) ⟨by decide, fun q => absurd q (by decide), fun _ => m_isClass_n h3 pc ⟨by decide, fun _ => q0, fun q => absurd rfl q⟩⟩⟩)
    · refine c_x_unitsOf (K + 21) f h c M _ ⟨h1, fun q => absurd q (by omega), fun _ => ⟨fun q => absurd q (by omega), fun _ => x_hasPart_n B h2 h3 (fun z => ph z.1) ⟨by decide, fun q => absurd rfl q, fun _ => ?_⟩⟩⟩
      exact c_m_unitsOf (K + 21) f h c M _ (m_isFund_y h1 pf ⟨by decide, fun q => absurd q (by decide), fun _ => m_isHouse_n I.1.mb h2 (by rw [hn]; exact ph) ⟨by decide, fun _ => q0, fun q => absurd rfl q⟩⟩)
  · have fin := c_m_unitsOf (K + 21) f h c M (retL fun r2 M2 => C (-9223372036854775808) r2 M2) (m_isFund_n h1 pf ⟨by decide, fun _ => q0, fun q => absurd rfl q⟩)
    exact c_x_unitsOf (K + 21) f h c M _ ⟨h1, fun _ => fin, fun _ => ⟨fun _ => fin, fun q => absurd ⟨by omega, by omega⟩ pf⟩⟩
theorem b_units {K : Nat} {f h c u : Int} {M : PM} {C : Int → Int → PM → Prop} (I : Iv M) (h1 : R32 f) (h2 : R32 h) (h3 : R32 c) (h4 : R64 u) (hq : Ok64 C) : Bl (K + 22) jClearingWaves_units [.inr (.inr 0), .inl f, .inl h, .inl c, .inr (.inl u)] jModel_units [.inr (.inr 52), .inl f, .inl h, .inl c, .inr (.inl u)] M C := by
  have B := I.1.xb
  have hn := I.1.n
  unfold Bl
  have q0 := hq (-1) M (by decide) I
  by_cases pf : 0 ≤ f ∧ f < 3
  · by_cases ph : 0 ≤ h ∧ h < M 1 0
    · by_cases pc : kl c
      · have hh : hs h := ⟨ph.1, by have := B.1.2; omega⟩
        have hix := d3_45 pf hh pc
        have hu := I.1.1.2.1.1 _ hix.1 hix.2
        have ei : ((83 + (15 * f)) + (3 * h)) + c = 83 + d3 f h c := by unfold d3; omega
        refine c_x_units (K + 21) f h c u M _ ⟨h1, fun q => absurd q (by omega), fun _ => ⟨fun q => absurd q (by omega), fun _ => x_hasPart_y B h2 h3 ⟨ph, pc⟩ ⟨by decide, fun _ => ?_, fun q => absurd q (by decide)⟩⟩⟩
        by_cases pu : 0 ≤ u ∧ u ≤ 1000000000000
        · refine ⟨h4, fun q => absurd q (by omega), fun _ => ⟨fun _ => c_book_unitPlace _ _ _ _ _ _ ⟨hix, ?_⟩, fun q => absurd pu.2 q⟩⟩
          obtain ⟨M1, e1⟩ : ∃ M1, M1 = mset M 4 (d3 f h c) u := ⟨_, rfl⟩
          show Call (K + 22) jModel_units [.inr (.inr 52), .inl f, .inl h, .inl c, .inr (.inl u)] P0 P0 (mset M 4 (d3 f h c) u) _
          rw [← e1]
          have hA : Ag [4] M M1 := by rw [e1]; exact (Ag.rf _ _).set (by decide)
          have k55 : M1 55 = M 55 := hA 55 (by decide)
          have k53 : M1 53 = M 53 := hA 53 (by decide)
          refine c_m_units (K + 21) f h c u M1 _ (m_isFund_y h1 pf ⟨by decide, fun q => absurd q (by decide), fun _ => m_isHouse_y (I.1.mb.of k55) h2 (by rw [k55, hn]; exact ph) ⟨by decide, fun q => absurd q (by decide), fun _ => m_isClass_y h3 pc ⟨by decide, fun _ => m_within_y h4 (by decide) (by decide) pu ⟨by decide, fun _ => c_model_unitsAt _ _ _ _ _ _ ⟨⟨by omega, by omega⟩, c_model_unitsAt _ _ _ _ _ _ ⟨⟨by omega, by omega⟩, ?_⟩⟩, fun q => absurd q (by decide)⟩, fun q => absurd q (by decide)⟩⟩⟩)
          rw [ei, k53, ← I.1.1.2.2.2.2.2.2.2 _ hix.1 hix.2]
          show C (M 4 (d3 f h c)) (M 4 (d3 f h c)) _
          have hM : ∀ a, a ≠ 4 → a ≠ 53 → (mset M1 53 (83 + d3 f h c) u) a = M a := fun a x y => by rw [mset_ne y, e1, mset_ne x]
          have hA2 : Ag [4, 53] M (mset M1 53 (83 + d3 f h c) u) := (hA.mono (by decide)).set (by decide)
          refine hq _ _ ⟨by omega, by omega⟩ ⟨⟨I.1.1.units pf hh pc ph.2 pu ?_ ?_ ?_ (fun i => ?_) (fun i => ?_), fun i i0 i1 => ?_⟩, I.2.1.of (by rw [hM 0 (by decide) (by decide)]) (by rw [hM 52 (by decide) (by decide)]) (hM 5 (by decide) (by decide)) (hM 6 (by decide) (by decide)) (hM 7 (by decide) (by decide)) (hM 8 (by decide) (by decide)) (hM 54 (by decide) (by decide)),
            I.2.2.1.of (by rw [hM 45 (by decide) (by decide)]) (hM 46 (by decide) (by decide)) (by rw [hM 52 (by decide) (by decide)]) (hM 56 (by decide) (by decide)), I.2.2.2.1.of (hM 47 (by decide) (by decide)) (hM 48 (by decide) (by decide)) (by rw [hM 52 (by decide) (by decide)]) (hM 71 (by decide) (by decide)), I.2.2.2.2.1.of (hM 50 (by decide) (by decide)) (hM 51 (by decide) (by decide)) (hM 72 (by decide) (by decide)) (hM 73 (by decide) (by decide)),
            I.2.2.2.2.2.1.of (by rw [hM 0 (by decide) (by decide)]) (hM 1 (by decide) (by decide)) (hM 2 (by decide) (by decide)) (hM 3 (by decide) (by decide)) (hM 11 (by decide) (by decide)) (hM 12 (by decide) (by decide)) (hM 13 (by decide) (by decide)) (hM 14 (by decide) (by decide)) (hM 15 (by decide) (by decide)) (hM 16 (by decide) (by decide)), I.2.2.2.2.2.2.1.of (by rw [hM 0 (by decide) (by decide)]) (hM 1 (by decide) (by decide)) (hM 2 (by decide) (by decide)) (hM 3 (by decide) (by decide)) (hM 37 (by decide) (by decide)) (hM 38 (by decide) (by decide)) (hM 39 (by decide) (by decide)),
            I.2.2.2.2.2.2.2.of (by rw [hM 52 (by decide) (by decide)]) (hM 55 (by decide) (by decide)) (by rw [hM 52 (by decide) (by decide)]) (by rw [hM 52 (by decide) (by decide)]) (hM 58 (by decide) (by decide)) (hM 59 (by decide) (by decide)) (hM 60 (by decide) (by decide)) (hM 61 (by decide) (by decide))⟩
          · exact hM 1 (by decide) (by decide)
          · exact hM 2 (by decide) (by decide)
          · exact hM 3 (by decide) (by decide)
          · rw [mset_ne (by decide), e1, mset_at]
          · rw [mset_at, k53]
          · rw [hM 55 (by decide) (by decide), mset_at, if_neg (by omega), k53]; exact I.1.2 i i0 i1
        · have fin := c_m_units (K + 21) f h c u M (retL fun r2 M2 => C (-2) r2 M2) (m_isFund_y h1 pf ⟨by decide, fun q => absurd q (by decide), fun _ => m_isHouse_y I.1.mb h2 (by rw [hn]; exact ph) ⟨by decide, fun q => absurd q (by decide), fun _ => m_isClass_y h3 pc ⟨by decide, fun _ => m_within_n h4 (by decide) (by decide) pu ⟨by decide, fun q => absurd rfl q, fun _ => hq _ _ (by decide) I⟩, fun q => absurd q (by decide)⟩⟩⟩)
          exact ⟨h4, fun _ => fin, fun _ => ⟨fun q => absurd ⟨by omega, q⟩ pu, fun _ => fin⟩⟩
      · refine c_x_units (K + 21) f h c u M _ ⟨h1, fun q => absurd q (by omega), fun _ => ⟨fun q => absurd q (by omega), fun _ => x_hasPart_n B h2 h3 (fun z => pc z.2) ⟨by decide, fun q => absurd rfl q, fun _ => ?_⟩⟩⟩
        exact c_m_units (K + 21) f h c u M _ (m_isFund_y h1 pf ⟨by decide, fun q => absurd q (by decide), fun _ => m_isHouse_y I.1.mb h2 (by rw [hn]; exact ph) ⟨by decide, fun q => absurd q (by decide), fun _ => m_isClass_n h3 pc ⟨by decide, fun q => absurd rfl q, fun _ => q0⟩⟩⟩)
    · refine c_x_units (K + 21) f h c u M _ ⟨h1, fun q => absurd q (by omega), fun _ => ⟨fun q => absurd q (by omega), fun _ => x_hasPart_n B h2 h3 (fun z => ph z.1) ⟨by decide, fun q => absurd rfl q, fun _ => ?_⟩⟩⟩
      exact c_m_units (K + 21) f h c u M _ (m_isFund_y h1 pf ⟨by decide, fun q => absurd q (by decide), fun _ => m_isHouse_n I.1.mb h2 (by rw [hn]; exact ph) ⟨by decide, fun _ => q0, fun q => absurd rfl q⟩⟩)
  · have fin := c_m_units (K + 21) f h c u M (retL fun r2 M2 => C (-1) r2 M2) (m_isFund_n h1 pf ⟨by decide, fun _ => q0, fun q => absurd rfl q⟩)
    exact c_x_units (K + 21) f h c u M _ ⟨h1, fun _ => fin, fun _ => ⟨fun _ => fin, fun q => absurd ⟨by omega, by omega⟩ pf⟩⟩
/-- where the tape, the paper or the rows change alone -/
theorem Iv.side {M M' : PM} (I : Iv M) (hA : Ag [45, 46, 47, 48, 50, 51, 52, 56, 71, 72, 73] M M') (h52 : ∀ i, i ≠ 6 → i ≠ 7 → i ≠ 32 → M' 52 i = M 52 i) (t : IvT M') (p : IvP M') (r : IvR M') : Iv M' :=
  ⟨I.1.of (hA 1 (by decide)) (hA 2 (by decide)) (hA 3 (by decide)) (hA 4 (by decide)) (hA 53 (by decide)) (hA 55 (by decide)), I.2.1.of (by rw [hA 0 (by decide)]) (h52 2 (by decide) (by decide) (by decide)) (hA 5 (by decide)) (hA 6 (by decide)) (hA 7 (by decide)) (hA 8 (by decide)) (hA 54 (by decide)), t, p, r,
    I.2.2.2.2.2.1.of (by rw [hA 0 (by decide)]) (hA 1 (by decide)) (hA 2 (by decide)) (hA 3 (by decide)) (hA 11 (by decide)) (hA 12 (by decide)) (hA 13 (by decide)) (hA 14 (by decide)) (hA 15 (by decide)) (hA 16 (by decide)), I.2.2.2.2.2.2.1.of (by rw [hA 0 (by decide)]) (hA 1 (by decide)) (hA 2 (by decide)) (hA 3 (by decide)) (hA 37 (by decide)) (hA 38 (by decide)) (hA 39 (by decide)),
    I.2.2.2.2.2.2.2.of (h52 4 (by decide) (by decide) (by decide)) (hA 55 (by decide)) (h52 9 (by decide) (by decide) (by decide)) (h52 13 (by decide) (by decide) (by decide)) (hA 58 (by decide)) (hA 59 (by decide)) (hA 60 (by decide)) (hA 61 (by decide))⟩
theorem b_feed {K : Nat} {v : Int} {M : PM} {C : Int → Int → PM → Prop} (I : Iv M) (h1 : R32 v) (hq : Ok32 C) : Bi (K + 22) jClearingWaves_feed [.inr (.inr 0), .inl v] jModel_feed [.inr (.inr 52), .inl v] M C := by
  have T := I.2.2.1
  unfold Bi
  by_cases p : 1 ≤ v ∧ v ≤ 127
  · by_cases pl : M 45 0 < 120
    · refine c_x_feed (K + 21) v M _ ⟨h1, fun q => absurd q (by omega), fun _ => ⟨fun _ => c_ta_add _ _ _ _ ⟨by have := T.2.1; exact ⟨by omega, by omega⟩, fun _ => ⟨⟨T.2.1.1, pl⟩, ⟨by decide, fun q => absurd q (by decide), fun _ => ?_⟩⟩, fun q => absurd pl q⟩, fun q => absurd p.2 q⟩⟩
      obtain ⟨M1, e1⟩ : ∃ M1, M1 = mset (mset M 46 (M 45 0) v) 45 0 (M 45 0 + 1) := ⟨_, rfl⟩
      rw [← e1]
      have hA : Ag [45, 46] M M1 := by rw [e1]; exact ((Ag.rf _ _).set (by decide)).set (by decide)
      have k52 : M1 52 = M 52 := hA 52 (by decide)
      have r0 : M1 45 0 = M 45 0 + 1 := by rw [e1, mset_eq]
      show Call (K + 22) jModel_feed [.inr (.inr 52), .inl v] P0 P0 M1 (retI fun r2 M2 => C (M1 45 0) r2 M2)
      rw [r0]
      have e6 : M1 52 6 = M 45 0 := by rw [k52, T.1]
      refine c_m_feed (K + 21) v M1 _ ⟨h1, m_within_y h1.R64 (by decide) (by decide) p ⟨by decide, fun _ => ⟨by rw [e6]; have := T.2.1; exact ⟨by omega, by omega⟩, fun _ => ⟨by rw [e6]; exact ⟨T.2.1.1, pl⟩, ?_⟩, fun q => absurd q (by rw [e6]; omega)⟩, fun q => absurd q (by decide)⟩⟩
      rw [e6]
      have hA2 : Ag [45, 46, 47, 48, 50, 51, 52, 56, 71, 72, 73] M (mset (mset M1 56 (M 45 0) v) 52 6 (M 45 0 + 1)) := ((hA.mono (by decide)).set (by decide)).set (by decide)
      refine hq _ _ ⟨by have := T.2.1; omega, by omega⟩ (I.side hA2 (fun i i6 _ _ => by rw [mset_at, if_neg i6, mset_ne (by decide), k52]) ⟨?_, ?_, fun i i0 i1 => ?_⟩ (I.2.2.2.1.of (by rw [mset_ne (by decide), mset_ne (by decide), hA 47 (by decide)]) (by rw [mset_ne (by decide), mset_ne (by decide), hA 48 (by decide)]) (by rw [mset_at, if_neg (by decide), mset_ne (by decide), k52]) (by rw [mset_ne (by decide), mset_ne (by decide), hA 71 (by decide)])) (I.2.2.2.2.1.of (by rw [mset_ne (by decide), mset_ne (by decide), hA 50 (by decide)]) (by rw [mset_ne (by decide), mset_ne (by decide), hA 51 (by decide)]) (by rw [mset_ne (by decide), mset_ne (by decide), hA 72 (by decide)]) (by rw [mset_ne (by decide), mset_ne (by decide), hA 73 (by decide)])))
      · rw [mset_eq, mset_ne (by decide), mset_ne (by decide), r0]
      · rw [mset_ne (by decide), mset_ne (by decide), r0]; have := T.2.1; exact ⟨by omega, by omega⟩
      · rw [mset_ne (by decide), mset_ne (by decide), r0] at i1
        rw [mset_ne (by decide), mset_ne (by decide), mset_ne (by decide), mset_at, e1, mset_ne (by decide), mset_at, mset_ne (by decide), mset_ne (by decide)]
        by_cases z : i = M 45 0
        · rw [if_pos z, if_pos z]; exact ⟨rfl, p⟩
        · rw [if_neg z, if_neg z]; exact T.2.2 i i0 (by omega)
    · refine c_x_feed (K + 21) v M _ ⟨h1, fun q => absurd q (by omega), fun _ => ⟨fun _ => c_ta_add _ _ _ _ ⟨by have := T.2.1; exact ⟨by omega, by omega⟩, fun q => absurd q pl, fun _ => ⟨by decide, fun _ => ?_, fun q => absurd rfl q⟩⟩, fun q => absurd p.2 q⟩⟩
      have e6 : M 52 6 = 120 := by have := T.1; have := T.2.1; omega
      exact c_m_feed (K + 21) v M _ ⟨h1, m_within_y h1.R64 (by decide) (by decide) p ⟨by decide, fun _ => ⟨by rw [e6]; decide, fun q => absurd e6 q, fun _ => hq _ _ (by decide) I⟩, fun q => absurd q (by decide)⟩⟩
  · have fin := c_m_feed (K + 21) v M (retI fun r2 M2 => C (-2) r2 M2) ⟨h1, m_within_n h1.R64 (by decide) (by decide) p ⟨by decide, fun q => absurd rfl q, fun _ => hq _ _ (by decide) I⟩⟩
    exact c_x_feed (K + 21) v M _ ⟨h1, fun _ => fin, fun _ => ⟨fun q => absurd ⟨by omega, q⟩ p, fun _ => fin⟩⟩
theorem b_clear {K : Nat} {M : PM} {C : Int → Int → PM → Prop} (I : Iv M) (hq : Ok32 C) : Bi (K + 22) jClearingWaves_clear [.inr (.inr 0)] jModel_clear [.inr (.inr 52)] M C := by
  have T := I.2.2.1
  unfold Bi
  refine c_x_clear (K + 21) M _ (c_ta_empty _ _ _ (c_m_clear (K + 21) _ _ ?_))
  rw [mset_ne (by decide), ← T.1]
  show C (M 45 0) (M 45 0) _
  have hA2 : Ag [45, 46, 47, 48, 50, 51, 52, 56, 71, 72, 73] M (mset (mset M 45 0 0) 52 6 0) := ((Ag.rf _ _).set (by decide)).set (by decide)
  refine hq _ _ ⟨by have := T.2.1; omega, by have := T.2.1; omega⟩ (I.side hA2 (fun i i6 _ _ => by rw [mset_at, if_neg i6, mset_ne (by decide)]) ⟨?_, ?_, fun i i0 i1 => ?_⟩ (I.2.2.2.1.of (by rw [mset_ne (by decide), mset_ne (by decide)]) (by rw [mset_ne (by decide), mset_ne (by decide)]) (by rw [mset_at, if_neg (by decide), mset_ne (by decide)]) (by rw [mset_ne (by decide), mset_ne (by decide)])) (I.2.2.2.2.1.of (by rw [mset_ne (by decide), mset_ne (by decide)]) (by rw [mset_ne (by decide), mset_ne (by decide)]) (by rw [mset_ne (by decide), mset_ne (by decide)]) (by rw [mset_ne (by decide), mset_ne (by decide)])))
  · rw [mset_eq, mset_ne (by decide), mset_eq]
  · rw [mset_ne (by decide), mset_eq]; decide
  · rw [mset_ne (by decide), mset_eq] at i1; omega
theorem b_paper {K : Nat} {i : Int} {M : PM} {C : Int → Int → PM → Prop} (I : Iv M) (h1 : R32 i) (hq : Ok32 C) : Bi (K + 22) jClearingWaves_paper [.inr (.inr 0), .inl i] jModel_paper [.inr (.inr 52), .inl i] M C := by
  have P := I.2.2.2.1
  have hb := P.2.1
  have e := P.1
  unfold Bi
  by_cases p : 0 ≤ i ∧ i < M 47 0
  · refine c_x_paper (K + 21) i M _ ⟨h1, fun q => absurd q (by omega), fun _ => ⟨⟨by omega, by omega⟩, fun q => absurd q (by omega), fun _ => ⟨⟨by omega, by omega⟩, ?_⟩⟩⟩
    refine c_m_paper (K + 21) i M _ ⟨h1, ⟨by omega, by omega⟩, m_within_y h1.R64 (by decide) ⟨by omega, by omega⟩ (by omega) ⟨by decide, fun q => absurd q (by decide), fun _ => ⟨⟨by omega, by omega⟩, ?_⟩⟩⟩
    have b := P.2.2 i p.1 p.2
    rw [← b.1]
    exact hq _ _ ⟨by omega, by omega⟩ I
  · have fin := c_m_paper (K + 21) i M (retI fun r2 M2 => C (-1) r2 M2) ⟨h1, ⟨by omega, by omega⟩, m_within_n h1.R64 (by decide) ⟨by omega, by omega⟩ (by omega) ⟨by decide, fun _ => hq _ _ (by decide) I, fun q => absurd rfl q⟩⟩
    exact c_x_paper (K + 21) i M _ ⟨h1, fun _ => fin, fun _ => ⟨⟨by omega, by omega⟩, fun _ => fin, fun q => absurd ⟨by omega, by omega⟩ p⟩⟩
/-! rows -/
theorem ro_has_y {K : Nat} {a : Int} {M : PM} {Q : Option PV → PM → Prop} (h1 : R32 a) (hP : 0 ≤ a ∧ a < 4) (h : Q (some (.inl 1)) M) : Call (K + 1) jRows_has [.inr (.inr 49), .inl a] P0 P0 M Q :=
  c_ro_has K a M Q ⟨h1, fun q => absurd q (by omega), fun _ => ⟨fun q => absurd q (by omega), fun _ => h⟩⟩
theorem ro_has_n {K : Nat} {a : Int} {M : PM} {Q : Option PV → PM → Prop} (h1 : R32 a) (hP : ¬ (0 ≤ a ∧ a < 4)) (h : Q (some (.inl 0)) M) : Call (K + 1) jRows_has [.inr (.inr 49), .inl a] P0 P0 M Q :=
  c_ro_has K a M Q ⟨h1, fun _ => h, fun _ => ⟨fun _ => h, fun q => absurd ⟨by omega, by omega⟩ hP⟩⟩
theorem ro_holds_y {K : Nat} {a : Int} {M : PM} {Q : Option PV → PM → Prop} (R : IvR M) (hP : 0 ≤ a ∧ a < 4) (hx : M 50 a ≠ -1) (h : Q (some (.inl 1)) M) : Call (K + 1) jRows_holds [.inr (.inr 49), .inl a] P0 P0 M Q := by
  have b := (R a hP.1 hP.2).2.1
  exact c_ro_holds K a M Q ⟨hP, ⟨by omega, by omega⟩, fun q => absurd q hx, fun _ => h⟩
theorem ro_holds_n {K : Nat} {a : Int} {M : PM} {Q : Option PV → PM → Prop} (R : IvR M) (hP : 0 ≤ a ∧ a < 4) (hx : M 50 a = -1) (h : Q (some (.inl 0)) M) : Call (K + 1) jRows_holds [.inr (.inr 49), .inl a] P0 P0 M Q := by
  have b := (R a hP.1 hP.2).2.1
  exact c_ro_holds K a M Q ⟨hP, ⟨by omega, by omega⟩, fun _ => h, fun q => absurd hx q⟩
theorem ro_hasPlace_y {K : Nat} {a i : Int} {M : PM} {Q : Option PV → PM → Prop} (R : IvR M) (h1 : R32 a) (h2 : R32 i) (hP : (0 ≤ a ∧ a < 4) ∧ 0 ≤ i ∧ i < M 50 a) (h : Q (some (.inl 1)) M) : Call (K + 2) jRows_hasPlace [.inr (.inr 49), .inl a, .inl i] P0 P0 M Q := by
  have b := (R a hP.1.1 hP.1.2).2.1
  exact c_ro_hasPlace (K + 1) a i M Q (ro_has_y h1 hP.1 ⟨by decide, fun q => absurd q (by decide), fun _ => ⟨h2, fun q => absurd q (by omega), fun _ => ⟨hP.1, ⟨by omega, by omega⟩, fun q => absurd q (by omega), fun _ => h⟩⟩⟩)
theorem ro_hasPlace_n {K : Nat} {a i : Int} {M : PM} {Q : Option PV → PM → Prop} (R : IvR M) (h1 : R32 a) (h2 : R32 i) (hP : ¬ ((0 ≤ a ∧ a < 4) ∧ 0 ≤ i ∧ i < M 50 a)) (h : Q (some (.inl 0)) M) : Call (K + 2) jRows_hasPlace [.inr (.inr 49), .inl a, .inl i] P0 P0 M Q := by
  by_cases p : 0 ≤ a ∧ a < 4
  · have b := (R a p.1 p.2).2.1
    exact c_ro_hasPlace (K + 1) a i M Q (ro_has_y h1 p ⟨by decide, fun q => absurd q (by decide), fun _ => ⟨h2, fun _ => h, fun _ => ⟨p, ⟨by omega, by omega⟩, fun _ => h, fun q => absurd ⟨p, by omega, by omega⟩ hP⟩⟩⟩)
  · exact c_ro_hasPlace (K + 1) a i M Q (ro_has_n h1 p ⟨by decide, fun _ => h, fun q => absurd rfl q⟩)
/-- laid, where there is a place -/
theorem ro_layAt_y {K : Nat} {a i k v : Int} {M : PM} {Q : Option PV → PM → Prop} (R : IvR M) (h1 : R32 a) (h2 : R32 i) (hk : 0 ≤ k ∧ k ≤ 20) (hP : (0 ≤ a ∧ a < 4) ∧ 0 ≤ i ∧ i + k < M 50 a) (h : Q (some (.inl 1)) (mset M 51 ((a * 20) + (i + k)) v)) : Call (K + 3) jRows_layAt [.inr (.inr 49), .inl a, .inl i, .inl k, .inr (.inl v)] P0 P0 M Q := by
  have b := (R a hP.1.1 hP.1.2).2.1
  refine c_ro_layAt (K + 2) a i k v M Q ⟨h2, fun q => absurd q (by omega), fun _ => ⟨fun q => absurd q (by omega), fun _ => ro_hasPlace_y R h1 ⟨by omega, by omega⟩ ⟨hP.1, by omega, hP.2.2⟩ ⟨by decide, fun _ => ⟨⟨by omega, by omega⟩, ?_⟩, fun q => absurd q (by decide)⟩⟩⟩
  rw [Int.add_assoc]
  exact h
theorem ro_layAt_n {K : Nat} {a i k v : Int} {M : PM} {Q : Option PV → PM → Prop} (R : IvR M) (h1 : R32 a) (h2 : R32 i) (hk : 0 ≤ k ∧ k ≤ 20) (hP : ¬ ((0 ≤ a ∧ a < 4) ∧ 0 ≤ i ∧ i + k < M 50 a)) (h : Q (some (.inl 0)) M) : Call (K + 3) jRows_layAt [.inr (.inr 49), .inl a, .inl i, .inl k, .inr (.inl v)] P0 P0 M Q := by
  by_cases q0 : i < 0
  · exact c_ro_layAt (K + 2) a i k v M Q ⟨h2, fun _ => h, fun q => absurd q0 q⟩
  · by_cases q1 : 20 ≤ i
    · exact c_ro_layAt (K + 2) a i k v M Q ⟨h2, fun q => absurd q q0, fun _ => ⟨fun _ => h, fun q => absurd q1 q⟩⟩
    · exact c_ro_layAt (K + 2) a i k v M Q ⟨h2, fun q => absurd q q0, fun _ => ⟨fun q => absurd q q1, fun _ => ro_hasPlace_n R h1 ⟨by omega, by omega⟩ (fun z => hP ⟨z.1, by omega, z.2.2⟩) ⟨by decide, fun q => absurd rfl q, fun _ => h⟩⟩⟩
theorem m_hasPlace_y {K : Nat} {a i k : Int} {M : PM} {Q : Option PV → PM → Prop} (ha : 0 ≤ a ∧ a < 4) (hb : -1 ≤ M 73 a ∧ M 73 a ≤ 20) (h2 : R32 i) (hk : 0 ≤ k ∧ k ≤ 20) (hP : 0 ≤ i ∧ i + k < M 73 a) (h : Q (some (.inl 1)) M) : Call (K + 1) jModel_hasPlace [.inr (.inr 52), .inl a, .inl i, .inl k] P0 P0 M Q :=
  c_m_hasPlace K a i k M Q ⟨h2, fun q => absurd q (by omega), fun _ => ⟨ha, ⟨by omega, by omega⟩, fun q => absurd q (by omega), fun _ => h⟩⟩
theorem m_hasPlace_n {K : Nat} {a i k : Int} {M : PM} {Q : Option PV → PM → Prop} (ha : 0 ≤ a ∧ a < 4) (hb : -1 ≤ M 73 a ∧ M 73 a ≤ 20) (h2 : R32 i) (hk : 0 ≤ k ∧ k ≤ 20) (hP : ¬ (0 ≤ i ∧ i + k < M 73 a)) (h : Q (some (.inl 0)) M) : Call (K + 1) jModel_hasPlace [.inr (.inr 52), .inl a, .inl i, .inl k] P0 P0 M Q :=
  c_m_hasPlace K a i k M Q ⟨h2, fun _ => h, fun _ => ⟨ha, ⟨by omega, by omega⟩, fun _ => h, fun q => absurd ⟨by omega, by omega⟩ hP⟩⟩
theorem Iv.rows {M M' : PM} (I : Iv M) (hA : Ag [50, 51, 72, 73] M M') (r : IvR M') : Iv M' :=
  I.side (hA.mono (by decide)) (fun i _ _ _ => by rw [hA 52 (by decide)]) (I.2.2.1.of (by rw [hA 45 (by decide)]) (hA 46 (by decide)) (by rw [hA 52 (by decide)]) (hA 56 (by decide))) (I.2.2.2.1.of (hA 47 (by decide)) (hA 48 (by decide)) (by rw [hA 52 (by decide)]) (hA 71 (by decide))) r
theorem b_get {K : Nat} {a i : Int} {M : PM} {C : Int → Int → PM → Prop} (I : Iv M) (h1 : R32 a) (h2 : R32 i) (hq : Ok64 C) : Bl (K + 22) jClearingWaves_get [.inr (.inr 0), .inl a, .inl i] jModel_get [.inr (.inr 52), .inl a, .inl i] M C := by
  have R := I.2.2.2.2.1
  unfold Bl
  have q0 := hq (-9223372036854775808) M (by decide) I
  by_cases p : (0 ≤ a ∧ a < 4) ∧ 0 ≤ i ∧ i < M 50 a
  · have r := R a p.1.1 p.1.2
    have v := r.2.2 i p.2.1 p.2.2
    refine c_x_get (K + 21) a i M _ (ro_hasPlace_y R h1 h2 p ⟨by decide, fun q => absurd q (by decide), fun _ => c_ro_at _ _ _ _ _ ⟨⟨by omega, by omega⟩, ?_⟩⟩)
    refine c_m_get (K + 21) a i M _ (m_isRow_y h1 p.1 ⟨by decide, fun q => absurd q (by decide), fun _ => m_hasPlace_y p.1 (by rw [← r.1]; exact r.2.1) h2 (by decide) (by rw [← r.1]; omega) ⟨by decide, fun q => absurd q (by decide), fun _ => ⟨⟨by omega, by omega⟩, ?_⟩⟩⟩)
    rw [← v.1]
    exact hq _ _ v.2 I
  · refine c_x_get (K + 21) a i M _ (ro_hasPlace_n R h1 h2 p ⟨by decide, fun _ => ?_, fun q => absurd rfl q⟩)
    by_cases pa : 0 ≤ a ∧ a < 4
    · have r := R a pa.1 pa.2
      exact c_m_get (K + 21) a i M _ (m_isRow_y h1 pa ⟨by decide, fun q => absurd q (by decide), fun _ => m_hasPlace_n pa (by rw [← r.1]; exact r.2.1) h2 (by decide) (fun z => p ⟨pa, by rw [r.1]; omega⟩) ⟨by decide, fun _ => q0, fun q => absurd rfl q⟩⟩)
    · exact c_m_get (K + 21) a i M _ (m_isRow_n h1 pa ⟨by decide, fun _ => q0, fun q => absurd rfl q⟩)
/-- one place is laid on both sides -/
theorem IvR.lay {M M' : PM} {a i v : Int} (R : IvR M) (ha : 0 ≤ a ∧ a < 4) (hi : 0 ≤ i ∧ i < M 50 a) (hv : R64 v) (h50 : M' 50 = M 50) (h73 : M' 73 = M 73) (h51 : ∀ j, M' 51 j = if j = (a * 20) + i then v else M 51 j) (h72 : ∀ j, M' 72 j = if j = (20 * a) + i then v else M 72 j) : IvR M' := by
  intro r r0 r1
  have x := R r r0 r1
  have y := (R a ha.1 ha.2).2.1
  rw [h50, h73]
  refine ⟨x.1, x.2.1, fun k k0 k1 => ?_⟩
  have z := x.2.2 k k0 k1
  rw [h51, h72]
  by_cases q : r = a ∧ k = i
  · rw [q.1, q.2, if_pos rfl, if_pos rfl]; exact ⟨rfl, hv⟩
  · have := x.2.1
    rw [if_neg (by omega), if_neg (by omega)]; exact z
theorem b_set {K : Nat} {a i v : Int} {M : PM} {C : Int → Int → PM → Prop} (I : Iv M) (h1 : R32 a) (h2 : R32 i) (h3 : R64 v) (hq : Ok32 C) : Bi (K + 22) jClearingWaves_set [.inr (.inr 0), .inl a, .inl i, .inr (.inl v)] jModel_set [.inr (.inr 52), .inl a, .inl i, .inr (.inl v)] M C := by
  have R := I.2.2.2.2.1
  unfold Bi
  by_cases pa : 0 ≤ a ∧ a < 4
  · have r := R a pa.1 pa.2
    by_cases ph : M 50 a = -1
    · refine c_x_set (K + 21) a i v M _ (ro_has_y h1 pa ⟨by decide, fun _ => ro_holds_n R pa ph ⟨by decide, fun q => absurd rfl q, fun _ => ?_⟩, fun q => absurd q (by decide)⟩)
      exact c_m_set (K + 21) a i v M _ (m_isRow_y h1 pa ⟨by decide, fun _ => ⟨pa, by rw [← r.1, ph]; decide, fun q => absurd (by rw [← r.1]; exact ph) q, fun _ => hq _ _ (by decide) I⟩, fun q => absurd q (by decide)⟩)
    · refine c_x_set (K + 21) a i v M _ (ro_has_y h1 pa ⟨by decide, fun _ => ro_holds_y R pa ph ⟨by decide, fun _ => ?_, fun q => absurd q (by decide)⟩, fun q => absurd q (by decide)⟩)
      by_cases pi : 0 ≤ i ∧ i < M 50 a
      · refine ro_layAt_y R h1 h2 (by decide) ⟨pa, pi.1, by omega⟩ ⟨by decide, fun q => absurd q (by decide), fun _ => ?_⟩
        rw [Int.add_zero]
        refine c_m_set (K + 21) a i v _ _ (m_isRow_y h1 pa ⟨by decide, fun _ => ⟨pa, ?_, fun _ => m_hasPlace_y pa ?_ h2 (by decide) ?_ ⟨by decide, fun _ => ⟨⟨by omega, by omega⟩, ?_⟩, fun q => absurd q (by decide)⟩, fun q => absurd q ?_⟩, fun q => absurd q (by decide)⟩)
        · rw [mset_ne (by decide), ← r.1]; exact ⟨by omega, by omega⟩
        · rw [mset_ne (by decide), ← r.1]; exact r.2.1
        · rw [mset_ne (by decide), ← r.1]; omega
        · refine hq _ _ (by decide) (I.rows (((Ag.rf _ _).set (by decide)).set (by decide)) (R.lay pa pi h3 ?_ ?_ (fun j => ?_) (fun j => ?_)))
          · rw [mset_ne (by decide), mset_ne (by decide)]
          · rw [mset_ne (by decide), mset_ne (by decide)]
          · rw [mset_ne (by decide), mset_at]
          · rw [mset_at, mset_ne (by decide)]
        · rw [mset_ne (by decide), ← r.1]; exact ph
      · refine ro_layAt_n R h1 h2 (by decide) (fun z => pi ⟨z.2.1, by omega⟩) ⟨by decide, fun _ => ?_, fun q => absurd rfl q⟩
        exact c_m_set (K + 21) a i v M _ (m_isRow_y h1 pa ⟨by decide, fun _ => ⟨pa, by rw [← r.1]; exact ⟨by omega, by omega⟩, fun _ => m_hasPlace_n pa (by rw [← r.1]; exact r.2.1) h2 (by decide) (fun z => pi (by rw [r.1]; omega)) ⟨by decide, fun q => absurd rfl q, fun _ => hq _ _ (by decide) I⟩, fun q => absurd (by rw [r.1]; exact q) ph⟩, fun q => absurd q (by decide)⟩)
  · refine c_x_set (K + 21) a i v M _ (ro_has_n h1 pa ⟨by decide, fun q => absurd rfl q, fun _ => ?_⟩)
    exact c_m_set (K + 21) a i v M _ (m_isRow_n h1 pa ⟨by decide, fun q => absurd rfl q, fun _ => hq _ _ (by decide) I⟩)
theorem b_row {K : Nat} {a n : Int} {M : PM} {C : Int → Int → PM → Prop} (I : Iv M) (h1 : R32 a) (h2 : R32 n) (hq : Ok32 C) : Bi (K + 22) jClearingWaves_row [.inr (.inr 0), .inl a, .inl n] jModel_row [.inr (.inr 52), .inl a, .inl n] M C := by
  have R := I.2.2.2.2.1
  unfold Bi
  by_cases pa : 0 ≤ a ∧ a < 4
  · refine c_x_row (K + 21) a n M _ (ro_has_y h1 pa ⟨by decide, fun _ => ?_, fun q => absurd q (by decide)⟩)
    have pre : ∀ (Q : Option PV → PM → Prop) (M1 : PM), (R32 n ∧ (n ≤ 20 → (0 ≤ n → (0 ≤ a ∧ a < 4) ∧ G none (K + 21 + 1) jModel_row 34 [(0, .inr (.inr 52)), (1, .inl a), (2, .inl n), (3, .inl 0)] [] P0 P0 (mset M1 73 a n) Q) ∧ (¬ 0 ≤ n → Q (some (.inl (-14))) M1)) ∧ (¬ n ≤ 20 → Q (some (.inl (-2))) M1)) → Call (K + 22) jModel_row [.inr (.inr 52), .inl a, .inl n] P0 P0 M1 Q :=
      fun Q M1 go => c_m_row (K + 21) a n M1 Q (m_isRow_y h1 pa ⟨by decide, fun _ => go, fun q => absurd q (by decide)⟩)
    refine ⟨h2, fun q20 => ⟨fun q0 => ?_, fun q0 => pre _ M ⟨h2, fun _ => ⟨fun z => absurd z q0, fun _ => hq _ _ (by decide) I⟩, fun z => absurd q20 z⟩⟩, fun q20 => pre _ M ⟨h2, fun z => absurd z q20, fun _ => hq _ _ (by decide) I⟩⟩
    -- all places become 0
    have lx : ∀ (Q : Option PV → PM → Prop), (∀ M1, Ag [51] (mset M 50 a n) M1 → (∀ k, 0 ≤ k → k < 20 → M1 51 ((a * 20) + k) = 0) → (∀ j, ¬ (a * 20 ≤ j ∧ j < a * 20 + 20) → M1 51 j = M 51 j) → Q none M1) → Call (K + 21) jRows_begin [.inr (.inr 49), .inl a, .inl n] P0 P0 M Q := by
      intro Q go
      have loop : ∀ (m : Nat) (k : Int) (M1 : PM), 0 ≤ k → k + (m : Int) = 20 → Ag [51] (mset M 50 a n) M1 → (∀ i, 0 ≤ i → i < k → M1 51 ((a * 20) + i) = 0) → (∀ j, ¬ (a * 20 ≤ j ∧ j < a * 20 + 20) → M1 51 j = M 51 j) → G none (K + 20 + 1) jRows_begin 9 [(0, .inr (.inr 49)), (1, .inl a), (3, .inl k)] [] P0 P0 M1 Q := by
        intro m
        induction m with
        | zero =>
          intro k M1 k0 hk hA z o
          exact g_ro_begin_9 _ _ _ _ _ ⟨⟨by omega, by omega⟩, fun _ => go M1 hA (fun i i0 i1 => z i i0 (by omega)) o, fun q => absurd (by omega) q⟩
        | succ m ih =>
          intro k M1 k0 hk hA z o
          refine g_ro_begin_9 _ _ _ _ _ ⟨⟨by omega, by omega⟩, fun q => absurd q (by omega), fun _ => ⟨⟨by omega, by omega⟩, ih (k + 1) _ (by omega) (by omega) (hA.set (by decide)) (fun i i0 i1 => ?_) (fun j hj => ?_)⟩⟩
          · rw [mset_at]
            split
            · rfl
            · exact z i i0 (by omega)
          · rw [mset_at, if_neg (by omega)]; exact o j hj
      exact c_ro_begin (K + 20) a n M Q ⟨pa, loop 20 0 _ (by decide) (by decide) (Ag.rf _ _) (fun i i0 i1 => by omega) (fun j _ => by rw [mset_ne (by decide)])⟩
    refine lx _ (fun M1 hA z o => ?_)
    have hA1 : Ag [50, 51] M M1 := ((Ag.rf _ _).set (by decide)).tr (hA.mono (by decide))
    have e50 : ∀ r, M1 50 r = if r = a then n else M 50 r := fun r => by rw [hA 50 (by decide), mset_at]
    refine pre _ M1 ⟨h2, fun _ => ⟨fun _ => ⟨pa, ?_⟩, fun y => absurd q0 y⟩, fun y => absurd q20 y⟩
    have loop : ∀ (m : Nat) (k : Int) (M2 : PM), 0 ≤ k → k + (m : Int) = n → Ag [72] (mset M1 73 a n) M2 → (∀ i, 0 ≤ i → i < k → M2 72 ((20 * a) + i) = 0) → (∀ j, ¬ (20 * a ≤ j ∧ j < 20 * a + 20) → M2 72 j = M 72 j) → G none (K + 21 + 1) jModel_row 34 [(0, .inr (.inr 52)), (1, .inl a), (2, .inl n), (3, .inl k)] [] P0 P0 M2 (retI fun r2 M2 => C 1 r2 M2) := by
      intro m
      induction m with
      | zero =>
        intro k M2 k0 hk hA2 z2 o2
        refine g_m_row_34 _ _ _ _ _ _ ⟨⟨by omega, by omega⟩, h2, fun _ => hq _ _ (by decide) ?_, fun q => absurd (by omega) q⟩
        have hA3 : Ag [50, 51, 72, 73] M M2 := ((hA1.mono (by decide)).set (by decide)).tr (hA2.mono (by decide))
        refine I.rows hA3 (fun r r0 r1 => ?_)
        have x := R r r0 r1
        have b50 : M2 50 r = if r = a then n else M 50 r := by rw [hA2 50 (by decide), mset_ne (by decide)]; exact e50 r
        have b73 : M2 73 r = if r = a then n else M 73 r := by rw [hA2 73 (by decide), mset_at, hA1 73 (by decide)]
        have b51 : M2 51 = M1 51 := by rw [hA2 51 (by decide), mset_ne (by decide)]
        rw [b50, b73, b51]
        by_cases y : r = a
        · rw [if_pos y, if_pos y, y]
          refine ⟨rfl, ⟨by omega, q20⟩, fun i i0 i1 => ?_⟩
          rw [z i i0 (by omega), z2 i i0 (by omega)]
          decide
        · rw [if_neg y, if_neg y]
          refine ⟨x.1, x.2.1, fun i i0 i1 => ?_⟩
          have := x.2.1
          rw [o _ (by omega), o2 _ (by omega)]
          exact x.2.2 i i0 i1
      | succ m ih =>
        intro k M2 k0 hk hA2 z2 o2
        refine g_m_row_34 _ _ _ _ _ _ ⟨⟨by omega, by omega⟩, h2, fun q => absurd q (by omega), fun _ => ⟨⟨by omega, by omega⟩, ih (k + 1) _ (by omega) (by omega) (hA2.set (by decide)) (fun i i0 i1 => ?_) (fun j hj => ?_)⟩⟩
        · rw [mset_at]
          split
          · rfl
          · exact z2 i i0 (by omega)
        · rw [mset_at, if_neg (by omega)]; exact o2 j hj
    exact loop n.toNat 0 _ (by decide) (by omega) (Ag.rf _ _) (fun i i0 i1 => by omega) (fun j _ => by rw [mset_ne (by decide), hA1 72 (by decide)])
  · refine c_x_row (K + 21) a n M _ (ro_has_n h1 pa ⟨by decide, fun q => absurd rfl q, fun _ => ?_⟩)
    exact c_m_row (K + 21) a n M _ (m_isRow_n h1 pa ⟨by decide, fun q => absurd rfl q, fun _ => hq _ _ (by decide) I⟩)
