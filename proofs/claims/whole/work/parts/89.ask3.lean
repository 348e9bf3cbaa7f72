/-! QUESTIONS about the clearing, the others -/
theorem b_part {K : Nat} {h c w : Int} {M : PM} {C : Int → Int → PM → Prop} (I : Iv M) (h1 : R32 h) (h2 : R32 c) (h3 : R32 w) (hq : Ok64 C) : Bl (K + 22) jClearingWaves_part [.inr (.inr 0), .inl h, .inl c, .inl w] jModel_part [.inr (.inr 52), .inl h, .inl c, .inl w] M C := by
  unfold Bl
  refine c_x_part (K + 21) h c w M _ (x_clr I (fun M1 X D hA hi h7 I1 cf => ⟨rfl, c_x_partIn _ _ _ _ _ _ _ (x_clr0 h7 ⟨rfl, ?_⟩)⟩))
  have B1 := I1.1.xb
  have hn1 := I1.1.n
  have hw := cf.2.1
  refine c_cp_hasRound _ _ _ _ ⟨⟨by omega, by omega⟩, fun z => absurd z (by omega), fun _ => ⟨⟨by omega, by omega⟩, fun z => absurd z (by omega), fun _ => ⟨by decide, fun z => absurd z (by decide), fun _ => ?_⟩⟩⟩
  -- the model's road
  have pm : ∀ (Q : Option PV → PM → Prop), (∀ M2, Ag [52, 58, 59, 60, 61, 62, 63, 64, 65, 66] M1 M2 → Iv M2 → CF M2 X D → MA M2 X D → M2 52 9 = M1 11 0 → (∀ (Q' : Option PV → PM → Prop), (Call (K + 20) jModel_isHouse [.inr (.inr 52), .inl h] P0 P0 M2 (retI fun r8 M9 => R32 r8 ∧ (r8 = 0 → Q' (some (.inr (.inl (-9223372036854775808)))) M9) ∧ (¬ r8 = 0 → Call (K + 20) jModel_isClass [.inl c] P0 P0 M9 (retI fun r11 M12 => R32 r11 ∧ (r11 = 0 → Q' (some (.inr (.inl (-9223372036854775808)))) M12) ∧ (¬ r11 = 0 → Call (K + 20) jModel_isSide [.inl w] P0 P0 M12 (retI fun r14 M15 => R32 r14 ∧ (¬ r14 = 0 → Call (K + 20) jModel_partAt [.inr (.inr 52), .inl (M1 11 0), .inl h, .inl c] P0 P0 M15 (retL fun r17 M18 => (0 ≤ (M1 11 0) ∧ (M1 11 0) < 6) ∧ Call (K + 20) jModel_lowest [.inr (.inl r17), .inr (.inl (M18 59 (M1 11 0))), .inl w] P0 P0 M18 (retL fun r20 M21 => Q' (some (.inr (.inl r20))) M21))) ∧ (r14 = 0 → Q' (some (.inr (.inl (-9223372036854775808)))) M15))))))) → Call (K + 22) jModel_part [.inr (.inr 52), .inl h, .inl c, .inl w] P0 P0 M1 Q → True) → Call (K + 20) jModel_isHouse [.inr (.inr 52), .inl h] P0 P0 M2 (retI fun r8 M9 => R32 r8 ∧ (r8 = 0 → Q (some (.inr (.inl (-9223372036854775808)))) M9) ∧ (¬ r8 = 0 → Call (K + 20) jModel_isClass [.inl c] P0 P0 M9 (retI fun r11 M12 => R32 r11 ∧ (r11 = 0 → Q (some (.inr (.inl (-9223372036854775808)))) M12) ∧ (¬ r11 = 0 → Call (K + 20) jModel_isSide [.inl w] P0 P0 M12 (retI fun r14 M15 => R32 r14 ∧ (¬ r14 = 0 → Call (K + 20) jModel_partAt [.inr (.inr 52), .inl (M1 11 0), .inl h, .inl c] P0 P0 M15 (retL fun r17 M18 => (0 ≤ (M1 11 0) ∧ (M1 11 0) < 6) ∧ Call (K + 20) jModel_lowest [.inr (.inl r17), .inr (.inl (M18 59 (M1 11 0))), .inl w] P0 P0 M18 (retL fun r20 M21 => Q (some (.inr (.inl r20))) M21))) ∧ (r14 = 0 → Q (some (.inr (.inl (-9223372036854775808)))) M15))))))) → Call (K + 22) jModel_part [.inr (.inr 52), .inl h, .inl c, .inl w] P0 P0 M1 Q := by
    intro Q go
    refine c_m_part (K + 21) h c w M1 Q (m_clrj I1 cf (fun M2 hA2 I2 cf2 j1 j2 j3 j4 j5 => ?_))
    show Call (K + 21) jModel_partIn [.inr (.inr 52), .inl (M2 52 9), .inl h, .inl c, .inl w] P0 P0 M2 _
    rw [j1]
    refine c_m_partIn (K + 20) _ h c w M2 _ (m_clrj I2 cf2 (fun M3 hA3 I3 cf3 k1 k2 k3 k4 k5 => ?_))
    have e11 : M2 11 0 = M1 11 0 := by rw [hA2 11 (by decide)]
    rw [e11] at k1
    refine ⟨⟨by omega, by omega⟩, by rw [k1]; exact ⟨by omega, by omega⟩, m_within_y ⟨by omega, by omega⟩ (by decide) (by rw [k1]; exact ⟨by omega, by omega⟩) (by rw [k1]; omega) ⟨by decide, fun z => absurd z (by decide), fun _ => go M3 (hA2.tr hA3) I3 cf3 k4 k1 (fun _ _ _ => trivial)⟩⟩
  by_cases pp : (0 ≤ h ∧ h < M1 1 0) ∧ kl c
  · have hh : hs h := ⟨pp.1.1, by have := B1.1; omega⟩
    refine x_hasPart_y B1 h1 h2 pp ⟨by decide, fun _ => cp_top_ hw hh pp.2 (cp_bottom_ hw ?_), fun z => absurd z (by decide)⟩
    have f := cf.2.2.1 (M1 11 0) hw.1 (Int.le_refl _)
    have dp := D_P cf hw.1 (Int.le_refl _)
    have xb := f.2.1 h c hh pp.2
    show Call (K + 20) jRatio_tell [.inr (.inl (cp_X M1 (M1 11 0) h c)), .inr (.inl (M1 14 (M1 11 0))), .inl w] P0 P0 M1 _
    rw [f.2.2.2 h c hh pp.2, f.2.2.1]
    by_cases ps : w = 0 ∨ w = 1
    · refine x_tell ⟨xb.1, by omega⟩ dp.1 dp.2.1 h3 ps (pm _ (fun M2 hA2 I2 cf2 j4 j1 _ => m_isHouse_y I2.1.mb h1 (by rw [hA2 55 (by decide), hn1]; exact pp.1) ⟨by decide, fun z => absurd z (by decide), fun _ => m_isClass_y h2 pp.2 ⟨by decide, fun z => absurd z (by decide), fun _ => m_isSide_y h3 ps ⟨by decide, fun _ => c_m_partAt _ _ _ _ _ _ ⟨⟨by omega, by omega⟩, ⟨⟨by omega, by omega⟩, ?_⟩⟩, fun z => absurd z (by decide)⟩⟩⟩))
      have a := j4 (M1 11 0) hw.1 (by rw [j1]; exact Int.le_refl _)
      show Call (K + 20) jModel_lowest [.inr (.inl (M2 58 (((15 * M1 11 0) + (3 * h)) + c))), .inr (.inl (M2 59 (M1 11 0))), .inl w] P0 P0 M2 _
      rw [a.1, a.2 h c hh pp.2]
      exact m_lowest ⟨xb.1, by omega⟩ dp.1 dp.2.1 h3 (b_end I2 hq ⟨xb.1, by omega⟩ dp.1 dp.2.1)
    · exact x_tell_n h3 ps (pm _ (fun M2 hA2 I2 cf2 j4 j1 _ => m_isHouse_y I2.1.mb h1 (by rw [hA2 55 (by decide), hn1]; exact pp.1) ⟨by decide, fun z => absurd z (by decide), fun _ => m_isClass_y h2 pp.2 ⟨by decide, fun z => absurd z (by decide), fun _ => m_isSide_n h3 ps ⟨by decide, fun z => absurd rfl z, fun _ => hq _ _ NO_R I2⟩⟩⟩))
  · refine x_hasPart_n B1 h1 h2 pp ⟨by decide, fun z => absurd rfl z, fun _ => pm _ (fun M2 hA2 I2 cf2 j4 j1 _ => ?_)⟩
    by_cases ph : 0 ≤ h ∧ h < M1 1 0
    · exact m_isHouse_y I2.1.mb h1 (by rw [hA2 55 (by decide), hn1]; exact ph) ⟨by decide, fun z => absurd z (by decide), fun _ => m_isClass_n h2 (fun z => pp ⟨ph, z⟩) ⟨by decide, fun _ => hq _ _ NO_R I2, fun z => absurd rfl z⟩⟩
    · exact m_isHouse_n I2.1.mb h1 (by rw [hA2 55 (by decide), hn1]; exact ph) ⟨by decide, fun _ => hq _ _ NO_R I2, fun z => absurd rfl z⟩
theorem b_paid {K : Nat} {f t c w : Int} {M : PM} {C : Int → Int → PM → Prop} (I : Iv M) (h0 : R32 f) (h1 : R32 t) (h2 : R32 c) (h3 : R32 w) (hq : Ok64 C) : Bl (K + 22) jClearingWaves_paid [.inr (.inr 0), .inl f, .inl t, .inl c, .inl w] jModel_paid [.inr (.inr 52), .inl f, .inl t, .inl c, .inl w] M C := by
  have B := I.1.xb
  have hn := I.1.n
  unfold Bl
  by_cases p : Dbt M f t c
  · have d := p.hs B
    refine c_x_paid (K + 21) f t c w M _ (x_hasDebt_y B h0 h1 h2 p ⟨by decide, fun _ => x_clr I (fun M1 X D hA hi h7 I1 cf => ⟨rfl, ?_⟩), fun z => absurd z (by decide)⟩)
    have hw := cf.2.1
    have B1 := I1.1.xb
    have k1 : M1 1 = M 1 := hA 1 (by decide)
    have f1 := cf.2.2.1 (M1 11 0) hw.1 (Int.le_refl _)
    have dp := D_P cf hw.1 (Int.le_refl _)
    have xb := f1.2.1 f c d.1 d.2.2.1
    have ob := B1.2.2.2.2.1 f t c d.1 d.2.1 d.2.2.1
    have pb : 0 ≤ X (M1 11 0) f c * xo M1 f t c ∧ X (M1 11 0) f c * xo M1 f t c ≤ D (M1 11 0) * 20 := ⟨Int.mul_nonneg xb.1 ob.1, Int.mul_le_mul xb.2 ob.2 ob.1 (by omega)⟩
    have P1 : P63 (X (M1 11 0) f c * xo M1 f t c) := ⟨pb.1, by omega⟩
    refine cp_top_ hw d.1 d.2.2.1 (x_amount phk_1_P0 d.1 d.2.1 d.2.2.1 ⟨⟨by omega, by omega⟩, cp_bottom_ hw ?_⟩)
    show Call (K + 21) jRatio_tell [.inr (.inl (cp_X M1 (M1 11 0) f c * xo M1 f t c)), .inr (.inl (M1 14 (M1 11 0))), .inl w] P0 P0 M1 _
    rw [f1.2.2.2 f c d.1 d.2.2.1, f1.2.2.1]
    have pr : ∀ M' : PM, M' 55 = M1 55 → (0 ≤ f ∧ f < M' 55 0) ∧ (0 ≤ t ∧ t < M' 55 0) ∧ f ≠ t := fun M' e => by rw [e, I1.1.n, k1]; exact ⟨p.1.1, p.2.1, p.2.2⟩
    by_cases ps : w = 0 ∨ w = 1
    · refine x_tell P1 dp.1 dp.2.1 h3 ps (c_m_paid (K + 21) f t c w M1 _ (m_arePair_y I1.1.mb h0 h1 (pr M1 rfl) ⟨by decide, fun z => absurd z (by decide), fun _ => m_isClass_y h2 d.2.2.1 ⟨by decide, fun z => absurd z (by decide), fun _ => m_isSide_y h3 ps ⟨by decide, fun _ => m_clrj I1 cf (fun M2 hA2 I2 cf2 j1 j2 j3 j4 j5 => m_owes d.1 d.2.1 d.2.2.1 ?_), fun z => absurd z (by decide)⟩⟩⟩))
      have eo : mo M2 f t c = xo M1 f t c := by rw [I2.1.o d.1 d.2.1 d.2.2.1, xo_of (hA2 3 (by decide))]
      rw [eo]
      refine ⟨⟨by omega, by omega⟩, c_m_partAt _ _ _ _ _ _ ⟨by rw [j1]; exact ⟨by omega, by omega⟩, by rw [j1]; exact ⟨by omega, by omega⟩, ?_⟩⟩
      have a := j4 (M1 11 0) hw.1 (by rw [j1]; exact Int.le_refl _)
      rw [j1, a.1, a.2 f c d.1 d.2.2.1, Int.mul_comm (xo M1 f t c)]
      exact m_lowest P1 dp.1 dp.2.1 h3 (b_end I2 hq P1 dp.1 dp.2.1)
    · exact x_tell_n h3 ps (c_m_paid (K + 21) f t c w M1 _ (m_arePair_y I1.1.mb h0 h1 (pr M1 rfl) ⟨by decide, fun z => absurd z (by decide), fun _ => m_isClass_y h2 d.2.2.1 ⟨by decide, fun z => absurd z (by decide), fun _ => m_isSide_n h3 ps ⟨by decide, fun z => absurd rfl z, fun _ => hq _ _ NO_R I1⟩⟩⟩))
  · refine c_x_paid (K + 21) f t c w M _ (x_hasDebt_n B h0 h1 h2 p ⟨by decide, fun z => absurd rfl z, fun _ => ?_⟩)
    by_cases p1 : (0 ≤ f ∧ f < M 55 0) ∧ (0 ≤ t ∧ t < M 55 0) ∧ f ≠ t
    · exact c_m_paid (K + 21) f t c w M _ (m_arePair_y I.1.mb h0 h1 p1 ⟨by decide, fun z => absurd z (by decide), fun _ => m_isClass_n h2 (fun z => p (by rw [hn] at p1; exact ⟨⟨p1.1, z⟩, p1.2.1, p1.2.2⟩)) ⟨by decide, fun _ => hq _ _ NO_R I, fun z => absurd rfl z⟩⟩)
    · exact c_m_paid (K + 21) f t c w M _ (m_arePair_n I.1.mb h0 h1 p1 ⟨by decide, fun _ => hq _ _ NO_R I, fun z => absurd rfl z⟩)
theorem b_gets {K : Nat} {h w : Int} {M : PM} {C : Int → Int → PM → Prop} (I : Iv M) (h1 : R32 h) (h3 : R32 w) (hq : Ok64 C) : Bl (K + 22) jClearingWaves_gets [.inr (.inr 0), .inl h, .inl w] jModel_gets [.inr (.inr 52), .inl h, .inl w] M C := by
  have B := I.1.xb
  have hn := I.1.n
  unfold Bl
  by_cases p : 0 ≤ h ∧ h < M 1 0
  · have hh : hs h := ⟨p.1, by have := B.1; omega⟩
    refine c_x_gets (K + 21) h w M _ (x_hasHouse_y B h1 p ⟨by decide, fun _ => x_clr I (fun M1 X D hA hi h7 I1 cf => ⟨rfl, ?_⟩), fun z => absurd z (by decide)⟩)
    have hw := cf.2.1
    have B1 := I1.1.xb
    have O := xb_ok B1
    have k1 : M1 1 = M 1 := hA 1 (by decide)
    have f1 := cf.2.2.1 (M1 11 0) hw.1 (Int.le_refl _)
    have dp := D_P cf hw.1 (Int.le_refl _)
    have gb := gt_240 O (by omega) f1.2.1 hh
    have P1 : P63 (gt (cp_g M1) (X (M1 11 0)) h) := ⟨gb.1, by omega⟩
    have pr : 0 ≤ h ∧ h < M1 55 0 := by rw [I1.1.n, k1]; exact p
    refine cp_income ⟨B1, fun h hh => by have := B1.2.2.2.1 h hh; omega⟩ hh hw (cp_bottom_ hw ?_)
    show Call (K + 21) jRatio_tell [.inr (.inl (gt (cp_g M1) (cp_X M1 (M1 11 0)) h)), .inr (.inl (M1 14 (M1 11 0))), .inl w] P0 P0 M1 _
    rw [cf_gt cf hw.1 (Int.le_refl _), f1.2.2.1]
    by_cases ps : w = 0 ∨ w = 1
    · refine x_tell P1 dp.1 dp.2.1 h3 ps (c_m_gets (K + 21) h w M1 _ (m_isHouse_y I1.1.mb h1 pr ⟨by decide, fun z => absurd z (by decide), fun _ => m_isSide_y h3 ps ⟨by decide, fun _ => m_clrj I1 cf (fun M2 hA2 I2 cf2 j1 j2 j3 j4 j5 => m_getsIn I2.1.mb hh (by rw [j1]; exact hw) ?_), fun z => absurd z (by decide)⟩⟩))
      rw [j1, ma_gt I2 j4 hw.1 (by rw [j1]; exact Int.le_refl _) hh, ag_cp hA2]
      refine ⟨by rw [j1]; exact ⟨by omega, by omega⟩, ?_⟩
      have a := j4 (M1 11 0) hw.1 (by rw [j1]; exact Int.le_refl _)
      rw [j1, a.1]
      exact m_lowest P1 dp.1 dp.2.1 h3 (b_end I2 hq P1 dp.1 dp.2.1)
    · exact x_tell_n h3 ps (c_m_gets (K + 21) h w M1 _ (m_isHouse_y I1.1.mb h1 pr ⟨by decide, fun z => absurd z (by decide), fun _ => m_isSide_n h3 ps ⟨by decide, fun z => absurd rfl z, fun _ => hq _ _ NO_R I1⟩⟩))
  · refine c_x_gets (K + 21) h w M _ (x_hasHouse_n B h1 p ⟨by decide, fun z => absurd rfl z, fun _ => ?_⟩)
    exact c_m_gets (K + 21) h w M _ (m_isHouse_n I.1.mb h1 (by rw [hn]; exact p) ⟨by decide, fun _ => hq _ _ NO_R I, fun z => absurd rfl z⟩)
theorem b_worthIn {K : Nat} {r h w : Int} {M : PM} {C : Int → Int → PM → Prop} (I : Iv M) (h0 : R32 r) (h1 : R32 h) (h3 : R32 w) (hq : Ok64 C) : Bl (K + 22) jClearingWaves_worthIn [.inr (.inr 0), .inl r, .inl h, .inl w] jModel_worthIn [.inr (.inr 52), .inl r, .inl h, .inl w] M C := by
  unfold Bl
  refine c_x_worthIn (K + 21) r h w M _ (x_clr I (fun M1 X D hA hi h7 I1 cf => ⟨rfl, ?_⟩))
  have B1 := I1.1.xb
  have O := xb_ok B1
  have hn1 := I1.1.n
  have hw := cf.2.1
  refine c_cp_hasRound _ _ _ _ ?_
  by_cases pr : 0 ≤ r ∧ r ≤ M1 11 0
  · refine ⟨h0, fun z => absurd z (by omega), fun _ => ⟨⟨by omega, by omega⟩, fun z => absurd z (by omega), fun _ => ⟨by decide, fun z => absurd z (by decide), fun _ => ?_⟩⟩⟩
    have pm : ∀ (Q : Option PV → PM → Prop), (∀ M2, Ag [52, 58, 59, 60, 61, 62, 63, 64, 65, 66] M1 M2 → Iv M2 → MA M2 X D → (∀ h, hs h → M2 61 h = M2 55 (3 + h)) → M2 52 9 = M1 11 0 → Call (K + 21) jModel_isHouse [.inr (.inr 52), .inl h] P0 P0 M2 (retI fun r8 M9 => R32 r8 ∧ (r8 = 0 → Q (some (.inr (.inl (-9223372036854775808)))) M9) ∧ (¬ r8 = 0 → Call (K + 21) jModel_isSide [.inl w] P0 P0 M9 (retI fun r11 M12 => R32 r11 ∧ (¬ r11 = 0 → Call (K + 21) jModel_worth [.inr (.inr 52), .inl r, .inl h] P0 P0 M12 (retL fun r14 M15 => (0 ≤ r ∧ r < 6) ∧ Call (K + 21) jModel_lowest [.inr (.inl r14), .inr (.inl (M15 59 r)), .inl w] P0 P0 M15 (retL fun r17 M18 => Q (some (.inr (.inl r17))) M18))) ∧ (r11 = 0 → Q (some (.inr (.inl (-9223372036854775808)))) M12))))) → Call (K + 22) jModel_worthIn [.inr (.inr 52), .inl r, .inl h, .inl w] P0 P0 M1 Q :=
      fun Q go => c_m_worthIn (K + 21) r h w M1 Q (m_clrj I1 cf (fun M2 hA2 I2 cf2 j1 j2 j3 j4 j5 => ⟨h0, by rw [j1]; exact ⟨by omega, by omega⟩, m_within_y h0.R64 (by decide) (by rw [j1]; exact ⟨by omega, by omega⟩) (by rw [j1]; exact pr) ⟨by decide, fun z => absurd z (by decide), fun _ => go M2 hA2 I2 j4 j5 j1⟩⟩))
    by_cases ph : 0 ≤ h ∧ h < M1 1 0
    · have hh : hs h := ⟨ph.1, by have := B1.1; omega⟩
      have f := cf.2.2.1 r pr.1 pr.2
      have dp := D_P cf pr.1 pr.2
      have wb := wth_b O (by omega) f.2.1 hh
      have P1 : P63 (wth (cp_g M1) (X r) (D r) h) := ⟨wb.1, by omega⟩
      refine x_hasHouse_y B1 h1 ph ⟨by decide, fun _ => cp_wealth ⟨B1, fun h hh => by have := B1.2.2.2.1 h hh; omega⟩ hh ⟨pr.1, by omega⟩ (cp_bottom_ ⟨pr.1, by omega⟩ ?_), fun z => absurd z (by decide)⟩
      show Call (K + 21) jRatio_tell [.inr (.inl (wth (cp_g M1) (cp_X M1 r) (M1 14 r) h)), .inr (.inl (M1 14 r)), .inl w] P0 P0 M1 _
      rw [cf_wth cf pr.1 pr.2, f.2.2.1]
      by_cases ps : w = 0 ∨ w = 1
      · refine x_tell P1 dp.1 dp.2.1 h3 ps (pm _ (fun M2 hA2 I2 j4 j5 j1 => m_isHouse_y I2.1.mb h1 (by rw [hA2 55 (by decide), hn1]; exact ph) ⟨by decide, fun z => absurd z (by decide), fun _ => m_isSide_y h3 ps ⟨by decide, fun _ => m_worth I2.1.mb (fun h hh => by rw [j5 h hh]; have := I2.1.mb.2.2.2.1 h hh; omega) hh ⟨pr.1, by omega⟩ ?_, fun z => absurd z (by decide)⟩⟩))
        rw [ma_wth I2 j4 j5 pr.1 (by rw [j1]; exact pr.2) hh, ag_cp hA2]
        refine ⟨⟨by omega, by omega⟩, ?_⟩
        have a := j4 r pr.1 (by rw [j1]; exact pr.2)
        rw [a.1]
        exact m_lowest P1 dp.1 dp.2.1 h3 (b_end I2 hq P1 dp.1 dp.2.1)
      · exact x_tell_n h3 ps (pm _ (fun M2 hA2 I2 j4 j5 j1 => m_isHouse_y I2.1.mb h1 (by rw [hA2 55 (by decide), hn1]; exact ph) ⟨by decide, fun z => absurd z (by decide), fun _ => m_isSide_n h3 ps ⟨by decide, fun z => absurd rfl z, fun _ => hq _ _ NO_R I2⟩⟩))
    · refine x_hasHouse_n B1 h1 ph ⟨by decide, fun z => absurd rfl z, fun _ => pm _ (fun M2 hA2 I2 j4 j5 j1 => ?_)⟩
      exact m_isHouse_n I2.1.mb h1 (by rw [hA2 55 (by decide), hn1]; exact ph) ⟨by decide, fun _ => hq _ _ NO_R I2, fun z => absurd rfl z⟩
  · have fin := c_m_worthIn (K + 21) r h w M1 (retL fun r2 M2 => C (-9223372036854775808) r2 M2) (m_clrj I1 cf (fun M2 hA2 I2 cf2 j1 j2 j3 j4 j5 => ⟨h0, by rw [j1]; exact ⟨by omega, by omega⟩, m_within_n h0.R64 (by decide) (by rw [j1]; exact ⟨by omega, by omega⟩) (by rw [j1]; exact pr) ⟨by decide, fun _ => hq _ _ NO_R I2, fun z => absurd rfl z⟩⟩))
    exact ⟨h0, fun _ => ⟨by decide, fun _ => fin, fun z => absurd rfl z⟩, fun _ => ⟨⟨by omega, by omega⟩, fun _ => ⟨by decide, fun _ => fin, fun z => absurd rfl z⟩, fun z => absurd ⟨by omega, by omega⟩ pr⟩⟩
/-- what is left, what is lost, over the round's bottom -/
def lft (g : Ck) (X : Int → Int → Int) (D s h : Int) : Int := if tb s h = true then 0 else wth g X D h - (s3 fun c => due g h c) * D
def lst (g : Ck) (X : Int → Int → Int) (D s h : Int) : Int := if tb s h = true then (10 - ckA g) * ckC g h * D + (10 - ckB g) * gt g X h else 0
theorem lft_b {g : Ck} {n : Int} {X : Int → Int → Int → Int} {D : Int → Int} {W s : Int} {wv : Int → Int} (O : Okc g) (c : Clr g n X D W s wv) {h : Int} (hh : hs h) (hl : h < n) : 0 ≤ lft g (X W) (D W) s h ∧ lft g (X W) (D W) s h ≤ 700 * D W := by
  obtain ⟨c1, c2, F, c3, c4, c5, c6⟩ := c
  have rn := c3.2.1 W c1.1 (Int.le_refl W)
  have wb := wth_b O (by have := rn.1.1.1; omega) rn.1.1.2.1 hh
  have ds := ds_nn O hh
  have hD := rn.1.1.1
  have dn := Int.mul_nonneg ds.1 (Int.le_of_lt hD)
  unfold lft
  split
  · omega
  · rename_i z
    have hF : F W h = false := by
      rw [← c5 h hh]
      cases q : tb s h
      · rfl
      · exact absurd q z
    have nf := c4 h hh hl hF
    have nf' : ¬ wth g (X W) (D W) h < (s3 fun c => due g h c) * D W := nf
    omega
theorem lst_b {g : Ck} {X : Int → Int → Int} {D s h : Int} (O : Okc g) (hC : ckC g h ≤ 200) (hD : 0 ≤ D) (hX : ∀ k c, hs k → kl c → 0 ≤ X k c ∧ X k c ≤ D) (hh : hs h) : 0 ≤ lst g X D s h ∧ lst g X D s h ≤ 4400 * D := by
  have gb := gt_240 O hD hX hh
  have c0 := (O.2.2.1 h hh).1
  unfold lst
  split
  · have a1 : 0 ≤ (10 - ckA g) * ckC g h ∧ (10 - ckA g) * ckC g h ≤ 10 * 200 := ⟨Int.mul_nonneg (by have := O.1.2; omega) c0, Int.mul_le_mul (by have := O.1.1; omega) hC c0 (by omega)⟩
    have a2 : 0 ≤ (10 - ckA g) * ckC g h * D ∧ (10 - ckA g) * ckC g h * D ≤ 10 * 200 * D := ⟨Int.mul_nonneg a1.1 hD, Int.mul_le_mul_of_nonneg_right a1.2 hD⟩
    have a3 : 0 ≤ (10 - ckB g) * gt g X h ∧ (10 - ckB g) * gt g X h ≤ 10 * (240 * D) := ⟨Int.mul_nonneg (by have := O.2.1.2; omega) gb.1, Int.mul_le_mul (by have := O.2.1.1; omega) gb.2 gb.1 (by omega)⟩
    omega
  · omega
theorem x_remains {K : Nat} {h : Int} {M : PM} {X : Int → Int → Int → Int} {D : Int → Int} {Q : Option PV → PM → Prop} (B : XB M) (cf : CF M X D) (hh : hs h) (hq : Q (some (.inr (.inl (lft (cp_g M) (X (M 11 0)) (D (M 11 0)) (M 11 1) h)))) M) : Call (K + 3) jClearing_remains [.inr (.inr 11), .inl h] P0 P0 M Q := by
  have hw := cf.2.1
  have d0 := xd_b B hh (c := 0) (by decide); have d1 := xd_b B hh (c := 1) (by decide); have d2 := xd_b B hh (c := 2) (by decide)
  have ds : 0 ≤ (s3 fun c => xd M h c) ∧ (s3 fun c => xd M h c) ≤ 240 := by simp only [s3]; omega
  have e16 := cf.2.2.2.2.1 h hh
  refine c_cp_remains (K + 2) h M Q (cp_fell (ms32 cf.2.2.2.2.2.1) ⟨hh.1, by have := hh.2; omega⟩ ⟨b2i_R _, fun c => cp_wealth ⟨B, fun h hh => by have := B.2.2.2.1 h hh; omega⟩ hh hw ⟨⟨by omega, by omega⟩, hh, by rw [e16]; exact ⟨by omega, by omega⟩, ?_⟩, fun c => ?_⟩)
  · rw [cf_wth cf hw.1 (Int.le_refl _), (cf.2.2.1 _ hw.1 (Int.le_refl _)).2.2.1, e16]
    have e : lft (cp_g M) (X (M 11 0)) (D (M 11 0)) (M 11 1) h = wth (cp_g M) (X (M 11 0)) (D (M 11 0)) h - D (M 11 0) * (s3 fun c => xd M h c) := by
      unfold lft
      rw [if_neg (by rw [b2i_0.mp c]; simp), Int.mul_comm (D (M 11 0))]
      rfl
    rw [← e]
    exact hq
  · have e : lft (cp_g M) (X (M 11 0)) (D (M 11 0)) (M 11 1) h = 0 := if_pos (b2i_n0 c)
    rw [e] at hq
    exact hq
theorem x_waste {K : Nat} {h : Int} {M : PM} {X : Int → Int → Int → Int} {D : Int → Int} {Q : Option PV → PM → Prop} (B : XB M) (cf : CF M X D) (hh : hs h) (hq : Q (some (.inr (.inl (lst (cp_g M) (X (M 11 0)) (D (M 11 0)) (M 11 1) h)))) M) : Call (K + 3) jClearing_wasteTenths [.inr (.inr 11), .inl h] P0 P0 M Q := by
  have hw := cf.2.1
  have hA := B.2.1
  have hB := B.2.2.1
  have hp := B.2.2.2.1 h hh
  refine c_cp_wasteTenths (K + 2) h M Q (cp_fell (ms32 cf.2.2.2.2.2.1) ⟨hh.1, by have := hh.2; omega⟩ ⟨b2i_R _, fun c => ⟨⟨by omega, by omega⟩, hh, ⟨by omega, by omega⟩, ⟨by omega, by omega⟩, cp_income ⟨B, fun h hh => by have := B.2.2.2.1 h hh; omega⟩ hh hw ⟨⟨by omega, by omega⟩, ?_⟩⟩, fun c => ?_⟩)
  · rw [cf_gt cf hw.1 (Int.le_refl _), (cf.2.2.1 _ hw.1 (Int.le_refl _)).2.2.1]
    have e : lst (cp_g M) (X (M 11 0)) (D (M 11 0)) (M 11 1) h = ((D (M 11 0) * M 2 h) * (10 - M 1 1)) + (gt (cp_g M) (X (M 11 0)) h * (10 - M 1 2)) := by
      unfold lst
      rw [if_pos (b2i_n0 c)]
      show (10 - M 1 1) * M 2 h * D (M 11 0) + (10 - M 1 2) * gt (cp_g M) (X (M 11 0)) h = _
      grind
    rw [← e]
    exact hq
  · have e : lst (cp_g M) (X (M 11 0)) (D (M 11 0)) (M 11 1) h = 0 := if_neg (by rw [b2i_0.mp c]; simp)
    rw [e] at hq
    exact hq
theorem m_leftOf {K : Nat} {h s w : Int} {M : PM} {X : Int → Int → Int → Int} {D : Int → Int} {Q : Option PV → PM → Prop} (I : Iv M) (a : MA M X D) (c61 : ∀ h, hs h → M 61 h = M 55 (3 + h)) (h13 : M 52 13 = s) (hs32 : 0 ≤ s ∧ s < 32) (h9 : M 52 9 = w) (hw : 0 ≤ w ∧ w ≤ 5) (hh : hs h) (hq : Q (some (.inr (.inl (lft (cp_g M) (X w) (D w) s h)))) M) : Call (K + 5) jModel_leftOf [.inr (.inr 52), .inl h] P0 P0 M Q := by
  have B := I.1.mb
  have d0 := md_b B hh (c := 0) (by decide); have d1 := md_b B hh (c := 1) (by decide); have d2 := md_b B hh (c := 2) (by decide)
  have ds : 0 ≤ (s3 fun c => md M h c) ∧ (s3 fun c => md M h c) ≤ 240 := by simp only [s3]; omega
  have ed : (s3 fun c => md M h c) = s3 fun c => due (cp_g M) h c := s3_congr fun c hc => I.1.d hh hc
  refine c_m_leftOf (K + 4) h M Q ?_
  rw [h13]
  refine m_isIn (ms32 hs32) ⟨hh.1, by have := hh.2; omega⟩ ⟨b2i_R _, fun c => m_worth B (fun h hh => by rw [c61 h hh]; have := B.2.2.2.1 h hh; omega) hh (by rw [h9]; exact hw) (m_dueInAll hh ⟨⟨by omega, by omega⟩, by rw [h9]; exact ⟨by omega, by omega⟩, ?_⟩), fun c => ?_⟩
  · have r1 : wth (gM M) (rX M (M 52 9)) (M 59 (M 52 9)) h = wth (cp_g M) (X w) (D w) h := by rw [h9]; exact ma_wth I a c61 hw.1 (by rw [h9]; exact Int.le_refl _) hh
    have r2 : M 59 (M 52 9) = D w := by rw [h9]; exact (a w hw.1 (by rw [h9]; exact Int.le_refl _)).1
    have e : lft (cp_g M) (X w) (D w) s h = wth (gM M) (rX M (M 52 9)) (M 59 (M 52 9)) h - (s3 fun c => md M h c) * M 59 (M 52 9) := by
      unfold lft
      rw [if_neg (by rw [b2i_0.mp c]; simp), r1, r2, ed]
    rw [← e]
    exact hq
  · have e : lft (cp_g M) (X w) (D w) s h = 0 := if_pos (b2i_n0 c)
    rw [e] at hq
    exact hq
theorem m_lostOf {K : Nat} {h s w : Int} {M : PM} {X : Int → Int → Int → Int} {D : Int → Int} {Q : Option PV → PM → Prop} (I : Iv M) (a : MA M X D) (c61 : ∀ h, hs h → M 61 h = M 55 (3 + h)) (h13 : M 52 13 = s) (hs32 : 0 ≤ s ∧ s < 32) (h9 : M 52 9 = w) (hw : 0 ≤ w ∧ w ≤ 5) (hh : hs h) (hq : Q (some (.inr (.inl (lst (cp_g M) (X w) (D w) s h)))) M) : Call (K + 5) jModel_lostOf [.inr (.inr 52), .inl h] P0 P0 M Q := by
  have B := I.1.mb
  have hA := B.2.1
  have hB := B.2.2.1
  have hp := B.2.2.2.1 h hh
  have e61 := c61 h hh
  refine c_m_lostOf (K + 4) h M Q ?_
  rw [h13]
  refine m_isIn (ms32 hs32) ⟨hh.1, by have := hh.2; omega⟩ ⟨b2i_R _, fun c => ?_, fun c => ⟨⟨by omega, by omega⟩, hh, by rw [e61]; exact ⟨by omega, by omega⟩, by rw [h9]; exact ⟨by omega, by omega⟩, ⟨by omega, by omega⟩, m_getsIn B hh (by rw [h9]; exact hw) ?_⟩⟩
  · have e : lst (cp_g M) (X w) (D w) s h = 0 := if_neg (by rw [b2i_0.mp c]; simp)
    rw [e] at hq
    exact hq
  · have r2 : M 59 (M 52 9) = D w := by rw [h9]; exact (a w hw.1 (by rw [h9]; exact Int.le_refl _)).1
    have r3 : gt (gM M) (rX M (M 52 9)) h = gt (cp_g M) (X w) h := by rw [h9]; exact ma_gt I a hw.1 (by rw [h9]; exact Int.le_refl _) hh
    have e : lst (cp_g M) (X w) (D w) s h = (((10 - M 55 1) * M 61 h) * M 59 (M 52 9)) + ((10 - M 55 2) * gt (gM M) (rX M (M 52 9)) h) := by
      unfold lst
      rw [if_pos (b2i_n0 c), r2, r3, e61, I.1.c hh, I.1.a, I.1.b]
      rfl
    rw [e] at hq
    exact hq
