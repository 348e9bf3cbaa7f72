/-! QUESTIONS about the clearing: parts, what is paid, has, lacks, loses -/
theorem gt_240 {g : Ck} {X : Int → Int → Int} {D h : Int} (O : Okc g) (hD : 0 ≤ D) (hX : ∀ k c, hs k → kl c → 0 ≤ X k c ∧ X k c ≤ D) (hh : hs h) : 0 ≤ gt g X h ∧ gt g X h ≤ 240 * D := by
  have h1 : ∀ k c, hs k → kl c → 0 ≤ ckO g k h c * X k c ∧ ckO g k h c * X k c ≤ 20 * D := fun k c hk hc => by
    have a := O.2.2.2.1 k h c hk hh hc
    have b := hX k c hk hc
    exact ⟨Int.mul_nonneg a.1 b.1, Int.mul_le_mul a.2 b.2 b.1 (by omega)⟩
  have h3 : ∀ k, hs k → 0 ≤ (s3 fun c => ckO g k h c * X k c) ∧ (s3 fun c => ckO g k h c * X k c) ≤ 60 * D := fun k hk => by
    have a0 := h1 k 0 hk (by decide); have a1 := h1 k 1 hk (by decide); have a2 := h1 k 2 hk (by decide)
    simp only [s3]; omega
  have hz : (s3 fun c => ckO g h h c * X h c) = 0 := by
    simp only [s3]
    rw [O.2.2.2.2 h 0 hh (by decide), O.2.2.2.2 h 1 hh (by decide), O.2.2.2.2 h 2 hh (by decide)]
    omega
  have a0 := h3 0 (by decide); have a1 := h3 1 (by decide); have a2 := h3 2 (by decide); have a3 := h3 3 (by decide); have a4 := h3 4 (by decide)
  show 0 ≤ (s5 fun k => s3 fun c => ckO g k h c * X k c) ∧ (s5 fun k => s3 fun c => ckO g k h c * X k c) ≤ 240 * D
  rcases hs5 hh with z | z | z | z | z <;> (rw [z] at hz a0 a1 a2 a3 a4 ⊢; simp only [s5]; omega)
theorem cf_gt {M : PM} {X : Int → Int → Int → Int} {D : Int → Int} (cf : CF M X D) {r h : Int} (h0 : 0 ≤ r) (h1 : r ≤ M 11 0) : gt (cp_g M) (cp_X M r) h = gt (cp_g M) (X r) h := gt_on (cf.2.2.1 r h0 h1).2.2.2 h
theorem cf_wth {M : PM} {X : Int → Int → Int → Int} {D : Int → Int} (cf : CF M X D) {r h : Int} (h0 : 0 ≤ r) (h1 : r ≤ M 11 0) : wth (cp_g M) (cp_X M r) (M 14 r) h = wth (cp_g M) (X r) (D r) h := by
  unfold wth
  rw [cf_gt cf h0 h1, (cf.2.2.1 r h0 h1).2.2.1]
theorem ma_gt {M : PM} {X : Int → Int → Int → Int} {D : Int → Int} (I : Iv M) (a : MA M X D) {r h : Int} (h0 : 0 ≤ r) (h1 : r ≤ M 52 9) (hh : hs h) : gt (gM M) (rX M r) h = gt (cp_g M) (X r) h := by
  have e : gt (gM M) (X r) h = gt (gK M) (X r) h := rfl
  have e1 : gt (gM M) (rX M r) h = gt (gM M) (X r) h := gt_on (a r h0 h1).2 h
  rw [e1, e, eqr_gt I.1.eq _ hh]
theorem ma_wth {M : PM} {X : Int → Int → Int → Int} {D : Int → Int} (I : Iv M) (a : MA M X D) (c : ∀ h, hs h → M 61 h = M 55 (3 + h)) {r h : Int} (h0 : 0 ≤ r) (h1 : r ≤ M 52 9) (hh : hs h) : wth (gM M) (rX M r) (M 59 r) h = wth (cp_g M) (X r) (D r) h := by
  show M 61 h * M 59 r + gt (gM M) (rX M r) h = M 2 h * D r + gt (cp_g M) (X r) h
  rw [ma_gt I a h0 h1 hh, (a r h0 h1).1, c h hh, I.1.c hh]
theorem m_lacksIn {K : Nat} {r h f : Int} {M : PM} {Q : Option PV → PM → Prop} (B : MB M) (hr : 0 ≤ r ∧ r ≤ 5) (hh : hs h) (hf : hs f) (hq : Q (some (.inr (.inl (s3 fun c => mo M f h c * (M 59 r - rX M r f c))))) M) : Call (K + 3) jModel_lacksIn [.inr (.inr 52), .inl r, .inl h, .inl f] P0 P0 M Q := by
  have st : ∀ (c v : Int), kl c → G none (K + 2 + 1) jModel_lacksIn 6 [(0, .inr (.inr 52)), (1, .inl r), (2, .inl h), (3, .inl f), (4, .inr (.inl (v + mo M f h c * (M 59 r - rX M r f c)))), (6, .inl (c + 1))] [] P0 P0 M Q → G none (K + 2 + 1) jModel_lacksIn 6 [(0, .inr (.inr 52)), (1, .inl r), (2, .inl h), (3, .inl f), (4, .inr (.inl v)), (6, .inl c)] [] P0 P0 M Q := by
    intro c v hc go
    have b := B.2.2.2.2.1 f h c hf hh hc
    exact g_m_lacksIn_6 _ _ _ _ _ _ _ _ ⟨⟨by omega, by omega⟩, fun q => absurd q (by omega), fun _ => m_owes hf hh hc ⟨⟨by omega, by omega⟩, ⟨by omega, by omega⟩, c_m_partAt _ _ _ _ _ _ ⟨⟨by omega, by omega⟩, go⟩⟩⟩
  refine c_m_lacksIn (K + 2) r h f M Q (st 0 0 (by decide) (st 1 _ (by decide) (st 2 _ (by decide) ?_)))
  refine g_m_lacksIn_6 _ _ _ _ _ _ _ _ ⟨by decide, fun _ => ?_, fun q => absurd (by decide) q⟩
  have e : 0 + mo M f h 0 * (M 59 r - rX M r f 0) + mo M f h 1 * (M 59 r - rX M r f 1) + mo M f h 2 * (M 59 r - rX M r f 2) = s3 fun c => mo M f h c * (M 59 r - rX M r f c) := by simp only [s3]; omega
  rw [e]
  exact hq
theorem x_missing {K : Nat} {r h f : Int} {M : PM} {Q : Option PV → PM → Prop} (B : XB M) (hr : 0 ≤ r ∧ r ≤ 5) (hh : hs h) (hf : hs f) (hq : Q (some (.inr (.inl (s3 fun c => xo M f h c * (M 14 r - cp_X M r f c))))) M) : Call (K + 2) jClearing_missing [.inr (.inr 11), .inl r, .inl h, .inl f] P0 P0 M Q := by
  have st : ∀ (c v : Int), kl c → G none (K + 1 + 1) jClearing_missing 6 [(0, .inr (.inr 11)), (1, .inl r), (2, .inl h), (3, .inl f), (4, .inr (.inl (v + xo M f h c * (M 14 r - cp_X M r f c)))), (6, .inl (c + 1))] [] P0 P0 M Q → G none (K + 1 + 1) jClearing_missing 6 [(0, .inr (.inr 11)), (1, .inl r), (2, .inl h), (3, .inl f), (4, .inr (.inl v)), (6, .inl c)] [] P0 P0 M Q := by
    intro c v hc go
    have b := B.2.2.2.2.1 f h c hf hh hc
    exact g_cp_missing_6 _ _ _ _ _ _ _ _ ⟨⟨by omega, by omega⟩, fun q => absurd q (by omega), fun _ => x_amount phk_1_P0 hf hh hc ⟨⟨by omega, by omega⟩, ⟨by omega, by omega⟩, cp_top_ hr hf hc go⟩⟩
  refine c_cp_missing (K + 1) r h f M Q (st 0 0 (by decide) (st 1 _ (by decide) (st 2 _ (by decide) ?_)))
  refine g_cp_missing_6 _ _ _ _ _ _ _ _ ⟨by decide, fun _ => ?_, fun q => absurd (by decide) q⟩
  have e : 0 + xo M f h 0 * (M 14 r - cp_X M r f 0) + xo M f h 1 * (M 14 r - cp_X M r f 1) + xo M f h 2 * (M 14 r - cp_X M r f 2) = s3 fun c => xo M f h c * (M 14 r - cp_X M r f c) := by simp only [s3]; omega
  rw [e]
  exact hq
/-- what a house lacks from one -/
def lck (g : Ck) (X : Int → Int → Int) (D h f : Int) : Int := s3 fun c => ckO g f h c * (D - X f c)
theorem lck_b {g : Ck} {X : Int → Int → Int} {D h f : Int} (O : Okc g) (hX : ∀ k c, hs k → kl c → 0 ≤ X k c ∧ X k c ≤ D) (hh : hs h) (hf : hs f) : 0 ≤ lck g X D h f ∧ lck g X D h f ≤ 60 * D := by
  have h1 : ∀ c, kl c → 0 ≤ ckO g f h c * (D - X f c) ∧ ckO g f h c * (D - X f c) ≤ 20 * D := fun c hc => by
    have a := O.2.2.2.1 f h c hf hh hc
    have b := hX f c hf hc
    exact ⟨Int.mul_nonneg a.1 (by omega), Int.mul_le_mul a.2 (by omega) (by omega) (by omega)⟩
  have a0 := h1 0 (by decide); have a1 := h1 1 (by decide); have a2 := h1 2 (by decide)
  simp only [lck, s3]
  omega
theorem cf_lck {M : PM} {X : Int → Int → Int → Int} {D : Int → Int} (cf : CF M X D) {r h f : Int} (h0 : 0 ≤ r) (h1 : r ≤ M 11 0) (hf : hs f) : (s3 fun c => xo M f h c * (M 14 r - cp_X M r f c)) = lck (cp_g M) (X r) (D r) h f := s3_congr fun c hc => by
  rw [(cf.2.2.1 r h0 h1).2.2.1, (cf.2.2.1 r h0 h1).2.2.2 f c hf hc]; rfl
theorem ma_lck {M : PM} {X : Int → Int → Int → Int} {D : Int → Int} (I : Iv M) (a : MA M X D) {r h f : Int} (h0 : 0 ≤ r) (h1 : r ≤ M 52 9) (hh : hs h) (hf : hs f) : (s3 fun c => mo M f h c * (M 59 r - rX M r f c)) = lck (cp_g M) (X r) (D r) h f := s3_congr fun c hc => by
  rw [(a r h0 h1).1, show rX M r f c = X r f c from (a r h0 h1).2 f c hf hc, I.1.o hf hh hc]; rfl
/-- the end of a question: both tell a fraction -/
theorem b_end {t b w : Int} {M2 : PM} {C : Int → Int → PM → Prop} (I2 : Iv M2) (hq : Ok64 C) (ht : P63 t) (hb : P63 b) (hb0 : 0 < b) : C (tlw t b w) (tlw t b w) M2 := hq _ _ (tlw_b ht hb hb0).R I2
theorem D_P {M : PM} {X : Int → Int → Int → Int} {D : Int → Int} (cf : CF M X D) {r : Int} (h0 : 0 ≤ r) (h1 : r ≤ M 11 0) : P63 (D r) ∧ 0 < D r ∧ D r ≤ 327680000000000 := by
  have := (cf.2.2.1 r h0 h1).1
  exact ⟨⟨by omega, by omega⟩, this.1, this.2⟩
theorem ag_cp {M1 M2 : PM} (hA : Ag [52, 58, 59, 60, 61, 62, 63, 64, 65, 66] M1 M2) : cp_g M2 = cp_g M1 := cp_g_of (hA 1 (by decide)) (hA 2 (by decide)) (hA 3 (by decide))
theorem b_partIn {K : Nat} {r h c w : Int} {M : PM} {C : Int → Int → PM → Prop} (I : Iv M) (h0 : R32 r) (h1 : R32 h) (h2 : R32 c) (h3 : R32 w) (hq : Ok64 C) : Bl (K + 22) jClearingWaves_partIn [.inr (.inr 0), .inl r, .inl h, .inl c, .inl w] jModel_partIn [.inr (.inr 52), .inl r, .inl h, .inl c, .inl w] M C := by
  have B := I.1.xb
  unfold Bl
  refine c_x_partIn (K + 21) r h c w M _ (x_clr I (fun M1 X D hA hi h7 I1 cf => ⟨rfl, ?_⟩))
  have B1 := I1.1.xb
  have hn1 := I1.1.n
  have hw := cf.2.1
  refine c_cp_hasRound _ _ _ _ ?_
  by_cases pr : 0 ≤ r ∧ r ≤ M1 11 0
  · refine ⟨h0, fun z => absurd z (by omega), fun _ => ⟨⟨by omega, by omega⟩, fun z => absurd z (by omega), fun _ => ⟨by decide, fun z => absurd z (by decide), fun _ => ?_⟩⟩⟩
    by_cases pp : (0 ≤ h ∧ h < M1 1 0) ∧ kl c
    · have hh : hs h := ⟨pp.1.1, by have := B1.1; omega⟩
      refine x_hasPart_y B1 h1 h2 pp ⟨by decide, fun _ => cp_top_ ⟨pr.1, by omega⟩ hh pp.2 (cp_bottom_ ⟨pr.1, by omega⟩ ?_), fun z => absurd z (by decide)⟩
      have f := cf.2.2.1 r pr.1 pr.2
      have dp := D_P cf pr.1 pr.2
      have xb := f.2.1 h c hh pp.2
      show Call (K + 21) jRatio_tell [.inr (.inl (cp_X M1 r h c)), .inr (.inl (M1 14 r)), .inl w] P0 P0 M1 _
      rw [f.2.2.2 h c hh pp.2, f.2.2.1]
      by_cases ps : w = 0 ∨ w = 1
      · refine x_tell ⟨xb.1, by omega⟩ dp.1 dp.2.1 h3 ps ?_
        refine c_m_partIn (K + 21) r h c w M1 _ (m_clrj I1 cf (fun M2 hA2 I2 cf2 j1 j2 j3 j4 j5 => ⟨h0, by rw [j1]; exact ⟨by omega, by omega⟩, m_within_y h0.R64 (by decide) (by rw [j1]; exact ⟨by omega, by omega⟩) (by rw [j1]; exact pr) ⟨by decide, fun z => absurd z (by decide), fun _ => m_isHouse_y I2.1.mb h1 (by rw [hA2 55 (by decide), hn1]; exact pp.1) ⟨by decide, fun z => absurd z (by decide), fun _ => m_isClass_y h2 pp.2 ⟨by decide, fun z => absurd z (by decide), fun _ => m_isSide_y h3 ps ⟨by decide, fun _ => c_m_partAt _ _ _ _ _ _ ⟨⟨by omega, by omega⟩, ⟨⟨by omega, by omega⟩, ?_⟩⟩, fun z => absurd z (by decide)⟩⟩⟩⟩⟩))
        have a := j4 r pr.1 (by rw [j1]; exact pr.2)
        show Call (K + 21) jModel_lowest [.inr (.inl (M2 58 (((15 * r) + (3 * h)) + c))), .inr (.inl (M2 59 r)), .inl w] P0 P0 M2 _
        rw [a.1, a.2 h c hh pp.2]
        exact m_lowest ⟨xb.1, by omega⟩ dp.1 dp.2.1 h3 (b_end I2 hq ⟨xb.1, by omega⟩ dp.1 dp.2.1)
      · refine x_tell_n h3 ps ?_
        exact c_m_partIn (K + 21) r h c w M1 _ (m_clrj I1 cf (fun M2 hA2 I2 cf2 j1 j2 j3 j4 j5 => ⟨h0, by rw [j1]; exact ⟨by omega, by omega⟩, m_within_y h0.R64 (by decide) (by rw [j1]; exact ⟨by omega, by omega⟩) (by rw [j1]; exact pr) ⟨by decide, fun z => absurd z (by decide), fun _ => m_isHouse_y I2.1.mb h1 (by rw [hA2 55 (by decide), hn1]; exact pp.1) ⟨by decide, fun z => absurd z (by decide), fun _ => m_isClass_y h2 pp.2 ⟨by decide, fun z => absurd z (by decide), fun _ => m_isSide_n h3 ps ⟨by decide, fun z => absurd rfl z, fun _ => hq _ _ NO_R I2⟩⟩⟩⟩⟩))
    · refine x_hasPart_n B1 h1 h2 pp ⟨by decide, fun z => absurd rfl z, fun _ => ?_⟩
      refine c_m_partIn (K + 21) r h c w M1 _ (m_clrj I1 cf (fun M2 hA2 I2 cf2 j1 j2 j3 j4 j5 => ⟨h0, by rw [j1]; exact ⟨by omega, by omega⟩, m_within_y h0.R64 (by decide) (by rw [j1]; exact ⟨by omega, by omega⟩) (by rw [j1]; exact pr) ⟨by decide, fun z => absurd z (by decide), fun _ => ?_⟩⟩))
      by_cases ph : 0 ≤ h ∧ h < M1 1 0
      · exact m_isHouse_y I2.1.mb h1 (by rw [hA2 55 (by decide), hn1]; exact ph) ⟨by decide, fun z => absurd z (by decide), fun _ => m_isClass_n h2 (fun z => pp ⟨ph, z⟩) ⟨by decide, fun _ => hq _ _ NO_R I2, fun z => absurd rfl z⟩⟩
      · exact m_isHouse_n I2.1.mb h1 (by rw [hA2 55 (by decide), hn1]; exact ph) ⟨by decide, fun _ => hq _ _ NO_R I2, fun z => absurd rfl z⟩
  · have fin := c_m_partIn (K + 21) r h c w M1 (retL fun r2 M2 => C (-9223372036854775808) r2 M2) (m_clrj I1 cf (fun M2 hA2 I2 cf2 j1 j2 j3 j4 j5 => ⟨h0, by rw [j1]; exact ⟨by omega, by omega⟩, m_within_n h0.R64 (by decide) (by rw [j1]; exact ⟨by omega, by omega⟩) (by rw [j1]; exact pr) ⟨by decide, fun _ => hq _ _ NO_R I2, fun z => absurd rfl z⟩⟩))
    exact ⟨h0, fun _ => ⟨by decide, fun _ => fin, fun z => absurd rfl z⟩, fun _ => ⟨⟨by omega, by omega⟩, fun _ => ⟨by decide, fun _ => fin, fun z => absurd rfl z⟩, fun z => absurd ⟨by omega, by omega⟩ pr⟩⟩
