/-! QUESTIONS about the clearing: left, lost, lacks, all -/
theorem cf_clr {M : PM} {X : Int → Int → Int → Int} {D : Int → Int} (cf : CF M X D) : Clr (cp_g M) (M 1 0) X D (M 11 0) (M 11 1) (M 12) := cf.1
theorem b_left {K : Nat} {h w : Int} {M : PM} {C : Int → Int → PM → Prop} (I : Iv M) (h1 : R32 h) (h3 : R32 w) (hq : Ok64 C) : Bl (K + 22) jClearingWaves_left [.inr (.inr 0), .inl h, .inl w] jModel_left [.inr (.inr 52), .inl h, .inl w] M C := by
  have B := I.1.xb
  have hn := I.1.n
  unfold Bl
  by_cases p : 0 ≤ h ∧ h < M 1 0
  · have hh : hs h := ⟨p.1, by have := B.1; omega⟩
    refine c_x_left (K + 21) h w M _ (x_hasHouse_y B h1 p ⟨by decide, fun _ => x_clr I (fun M1 X D hA hi h7 I1 cf => ⟨rfl, ?_⟩), fun z => absurd z (by decide)⟩)
    have hw := cf.2.1
    have B1 := I1.1.xb
    have O := xb_ok B1
    have k1 : M1 1 = M 1 := hA 1 (by decide)
    have f1 := cf.2.2.1 (M1 11 0) hw.1 (Int.le_refl _)
    have dp := D_P cf hw.1 (Int.le_refl _)
    have lb := lft_b O cf.1 hh (by rw [k1]; exact p.2)
    have P1 : P63 (lft (cp_g M1) (X (M1 11 0)) (D (M1 11 0)) (M1 11 1) h) := ⟨lb.1, by omega⟩
    have pr : 0 ≤ h ∧ h < M1 55 0 := by rw [I1.1.n, k1]; exact p
    refine x_remains B1 cf hh (cp_bottom_ hw ?_)
    rw [f1.2.2.1]
    by_cases ps : w = 0 ∨ w = 1
    · refine x_tell P1 dp.1 dp.2.1 h3 ps (c_m_left (K + 21) h w M1 _ (m_isHouse_y I1.1.mb h1 pr ⟨by decide, fun z => absurd z (by decide), fun _ => m_isSide_y h3 ps ⟨by decide, fun _ => m_clrj I1 cf (fun M2 hA2 I2 cf2 j1 j2 j3 j4 j5 => m_leftOf I2 j4 j5 j2 cf.2.2.2.2.2.1 j1 hw hh ?_), fun z => absurd z (by decide)⟩⟩))
      rw [ag_cp hA2]
      refine ⟨by rw [j1]; exact ⟨by omega, by omega⟩, ?_⟩
      have a := j4 (M1 11 0) hw.1 (by rw [j1]; exact Int.le_refl _)
      rw [j1, a.1]
      exact m_lowest P1 dp.1 dp.2.1 h3 (b_end I2 hq P1 dp.1 dp.2.1)
    · exact x_tell_n h3 ps (c_m_left (K + 21) h w M1 _ (m_isHouse_y I1.1.mb h1 pr ⟨by decide, fun z => absurd z (by decide), fun _ => m_isSide_n h3 ps ⟨by decide, fun z => absurd rfl z, fun _ => hq _ _ NO_R I1⟩⟩))
  · refine c_x_left (K + 21) h w M _ (x_hasHouse_n B h1 p ⟨by decide, fun z => absurd rfl z, fun _ => ?_⟩)
    exact c_m_left (K + 21) h w M _ (m_isHouse_n I.1.mb h1 (by rw [hn]; exact p) ⟨by decide, fun _ => hq _ _ NO_R I, fun z => absurd rfl z⟩)
theorem D10 {d : Int} (h : 0 < d ∧ d ≤ 327680000000000) : P63 (10 * d) ∧ 0 < 10 * d := ⟨⟨by omega, by omega⟩, by omega⟩
theorem b_lost {K : Nat} {h w : Int} {M : PM} {C : Int → Int → PM → Prop} (I : Iv M) (h1 : R32 h) (h3 : R32 w) (hq : Ok64 C) : Bl (K + 22) jClearingWaves_lost [.inr (.inr 0), .inl h, .inl w] jModel_lost [.inr (.inr 52), .inl h, .inl w] M C := by
  have B := I.1.xb
  have hn := I.1.n
  unfold Bl
  by_cases p : 0 ≤ h ∧ h < M 1 0
  · have hh : hs h := ⟨p.1, by have := B.1; omega⟩
    refine c_x_lost (K + 21) h w M _ (x_hasHouse_y B h1 p ⟨by decide, fun _ => x_clr I (fun M1 X D hA hi h7 I1 cf => ⟨rfl, ?_⟩), fun z => absurd z (by decide)⟩)
    have hw := cf.2.1
    have B1 := I1.1.xb
    have O := xb_ok B1
    have k1 : M1 1 = M 1 := hA 1 (by decide)
    have f1 := cf.2.2.1 (M1 11 0) hw.1 (Int.le_refl _)
    have dp := D_P cf hw.1 (Int.le_refl _)
    have d10 := D10 dp.2
    have lb := lst_b (s := M1 11 1) O (B1.2.2.2.1 h hh).2 (by omega) f1.2.1 hh
    have P1 : P63 (lst (cp_g M1) (X (M1 11 0)) (D (M1 11 0)) (M1 11 1) h) := ⟨lb.1, by omega⟩
    have pr : 0 ≤ h ∧ h < M1 55 0 := by rw [I1.1.n, k1]; exact p
    refine x_waste B1 cf hh (cp_bottom_ hw ?_)
    rw [f1.2.2.1]
    by_cases ps : w = 0 ∨ w = 1
    · refine x_tell P1 d10.1 d10.2 h3 ps (c_m_lost (K + 21) h w M1 _ (m_isHouse_y I1.1.mb h1 pr ⟨by decide, fun z => absurd z (by decide), fun _ => m_isSide_y h3 ps ⟨by decide, fun _ => m_clrj I1 cf (fun M2 hA2 I2 cf2 j1 j2 j3 j4 j5 => m_lostOf I2 j4 j5 j2 cf.2.2.2.2.2.1 j1 hw hh ?_), fun z => absurd z (by decide)⟩⟩))
      rw [ag_cp hA2]
      refine ⟨by rw [j1]; exact ⟨by omega, by omega⟩, ?_⟩
      have a := j4 (M1 11 0) hw.1 (by rw [j1]; exact Int.le_refl _)
      rw [j1, a.1]
      exact m_lowest P1 d10.1 d10.2 h3 (b_end I2 hq P1 d10.1 d10.2)
    · exact x_tell_n h3 ps (c_m_lost (K + 21) h w M1 _ (m_isHouse_y I1.1.mb h1 pr ⟨by decide, fun z => absurd z (by decide), fun _ => m_isSide_n h3 ps ⟨by decide, fun z => absurd rfl z, fun _ => hq _ _ NO_R I1⟩⟩))
  · refine c_x_lost (K + 21) h w M _ (x_hasHouse_n B h1 p ⟨by decide, fun z => absurd rfl z, fun _ => ?_⟩)
    exact c_m_lost (K + 21) h w M _ (m_isHouse_n I.1.mb h1 (by rw [hn]; exact p) ⟨by decide, fun _ => hq _ _ NO_R I, fun z => absurd rfl z⟩)
theorem b_lacks {K : Nat} {h f w : Int} {M : PM} {C : Int → Int → PM → Prop} (I : Iv M) (h1 : R32 h) (h2 : R32 f) (h3 : R32 w) (hq : Ok64 C) : Bl (K + 22) jClearingWaves_lacks [.inr (.inr 0), .inl h, .inl f, .inl w] jModel_lacks [.inr (.inr 52), .inl h, .inl f, .inl w] M C := by
  have B := I.1.xb
  have hn := I.1.n
  unfold Bl
  have nom : ∀ (Q : Option PV → PM → Prop), ¬ ((0 ≤ h ∧ h < M 1 0) ∧ (0 ≤ f ∧ f < M 1 0) ∧ h ≠ f) → Q (some (.inr (.inl (-9223372036854775808)))) M → Call (K + 22) jModel_lacks [.inr (.inr 52), .inl h, .inl f, .inl w] P0 P0 M Q :=
    fun Q no go => c_m_lacks (K + 21) h f w M Q (m_arePair_n I.1.mb h1 h2 (by rw [hn]; exact no) ⟨by decide, fun _ => go, fun z => absurd rfl z⟩)
  by_cases ph : 0 ≤ h ∧ h < M 1 0
  · refine c_x_lacks (K + 21) h f w M _ (x_hasHouse_y B h1 ph ⟨by decide, fun z => absurd z (by decide), fun _ => ?_⟩)
    by_cases pf : 0 ≤ f ∧ f < M 1 0
    · refine x_hasHouse_y B h2 pf ⟨by decide, fun z => absurd z (by decide), fun _ => ⟨h1, h2, fun ne => ?_, fun e => nom _ (fun z => z.2.2 e) (hq _ _ NO_R I)⟩⟩
      have hh : hs h := ⟨ph.1, by have := B.1; omega⟩
      have hf : hs f := ⟨pf.1, by have := B.1; omega⟩
      refine x_clr I (fun M1 X D hA hi h7 I1 cf => ⟨rfl, ?_⟩)
      have hw := cf.2.1
      have B1 := I1.1.xb
      have O := xb_ok B1
      have k1 : M1 1 = M 1 := hA 1 (by decide)
      have f1 := cf.2.2.1 (M1 11 0) hw.1 (Int.le_refl _)
      have dp := D_P cf hw.1 (Int.le_refl _)
      have lb := lck_b O f1.2.1 hh hf
      have P1 : P63 (lck (cp_g M1) (X (M1 11 0)) (D (M1 11 0)) h f) := ⟨lb.1, by omega⟩
      have pr : (0 ≤ h ∧ h < M1 55 0) ∧ (0 ≤ f ∧ f < M1 55 0) ∧ h ≠ f := by rw [I1.1.n, k1]; exact ⟨ph, pf, ne⟩
      refine x_missing B1 hw hh hf (cp_bottom_ hw ?_)
      rw [cf_lck cf hw.1 (Int.le_refl _) hf, f1.2.2.1]
      by_cases ps : w = 0 ∨ w = 1
      · refine x_tell P1 dp.1 dp.2.1 h3 ps (c_m_lacks (K + 21) h f w M1 _ (m_arePair_y I1.1.mb h1 h2 pr ⟨by decide, fun z => absurd z (by decide), fun _ => m_isSide_y h3 ps ⟨by decide, fun _ => m_clrj I1 cf (fun M2 hA2 I2 cf2 j1 j2 j3 j4 j5 => m_lacksIn I2.1.mb (by rw [j1]; exact hw) hh hf ?_), fun z => absurd z (by decide)⟩⟩))
        have a := j4 (M1 11 0) hw.1 (by rw [j1]; exact Int.le_refl _)
        rw [j1, ma_lck I2 j4 hw.1 (by rw [j1]; exact Int.le_refl _) hh hf, ag_cp hA2]
        refine ⟨by rw [j1]; exact ⟨by omega, by omega⟩, ?_⟩
        rw [j1, a.1]
        exact m_lowest P1 dp.1 dp.2.1 h3 (b_end I2 hq P1 dp.1 dp.2.1)
      · exact x_tell_n h3 ps (c_m_lacks (K + 21) h f w M1 _ (m_arePair_y I1.1.mb h1 h2 pr ⟨by decide, fun z => absurd z (by decide), fun _ => m_isSide_n h3 ps ⟨by decide, fun z => absurd rfl z, fun _ => hq _ _ NO_R I1⟩⟩))
    · exact x_hasHouse_n B h2 pf ⟨by decide, fun _ => nom _ (fun z => pf z.2.1) (hq _ _ NO_R I), fun z => absurd rfl z⟩
  · exact c_x_lacks (K + 21) h f w M _ (x_hasHouse_n B h1 ph ⟨by decide, fun _ => nom _ (fun z => ph z.1) (hq _ _ NO_R I), fun z => absurd rfl z⟩)
/-- all that is paid is got -/
theorem paid_got (g : Ck) (X : Int → Int → Int) : (s5 fun h => yt g X h) = s5 fun h => gt g X h := by
  have e1 : ∀ h, yt g X h = s5 fun k => s3 fun c => ckO g h k c * X h c := fun h => by
    unfold yt due
    simp only [s3]
    rw [s5_add, s5_add, s5_mul', s5_mul', s5_mul']
  have e2 : (s5 fun h => yt g X h) = s5 fun h => s5 fun k => s3 fun c => ckO g h k c * X h c := s5_congr fun h _ => e1 h
  rw [e2, s5_swap]
  rfl
theorem gt_0 {M : PM} (B : XB M) (X : Int → Int → Int) {h : Int} (hh : hs h) (hl : M 1 0 ≤ h) : gt (cp_g M) X h = 0 := by
  unfold gt
  rw [s5_congr (g := fun _ => 0) (fun k hk => by
    have e : ∀ c, kl c → ckO (cp_g M) k h c = 0 := fun c hc => B.2.2.2.2.2.2.2 k h c hk hh hc (Or.inr hl)
    simp only [s3]
    rw [e 0 (by decide), e 1 (by decide), e 2 (by decide)]
    omega)]
  rfl
theorem m_allPaid_ {K : Nat} {w : Int} {M : PM} {X : Int → Int → Int → Int} {D : Int → Int} {Q : Option PV → PM → Prop} (I : Iv M) (a : MA M X D) (h9 : M 52 9 = w) (hw : 0 ≤ w ∧ w ≤ 5) (hq : Q (some (.inr (.inl (s5 fun h => gt (cp_g M) (X w) h)))) M) : Call (K + 4) jModel_allPaid [.inr (.inr 52)] P0 P0 M Q := by
  have B := I.1.xb
  have hn := B.1
  have e55 := I.1.n
  have loop : ∀ (n : Nat) (h v : Int), 0 ≤ h → h + (n : Int) = M 1 0 → v = pcs (fun h => gt (cp_g M) (X w) h) h.toNat → G none (K + 3 + 1) jModel_allPaid 4 [(0, .inr (.inr 52)), (1, .inr (.inl v)), (3, .inl h)] [] P0 P0 M Q := by
    intro n
    induction n with
    | zero =>
      intro h v h0 hh hv
      refine g_m_allPaid_4 _ _ _ _ _ ⟨⟨by omega, by omega⟩, by rw [e55]; exact ⟨by omega, by omega⟩, fun _ => ?_, fun q => absurd (by rw [e55]; omega) q⟩
      rw [hv, show h = M 1 0 by omega, pcs_n5 hn (fun k hk hk2 => gt_0 B _ hk hk2)]
      exact hq
    | succ n ih =>
      intro h v h0 hh hv
      have hhs : hs h := ⟨h0, by omega⟩
      refine g_m_allPaid_4 _ _ _ _ _ ⟨⟨by omega, by omega⟩, by rw [e55]; exact ⟨by omega, by omega⟩, fun q => absurd q (by rw [e55]; omega), fun _ => m_getsIn I.1.mb hhs (by rw [h9]; exact hw) ?_⟩
      rw [h9, ma_gt I a hw.1 (by rw [h9]; exact Int.le_refl _) hhs]
      exact ih (h + 1) _ (by omega) (by omega) (by rw [hv, pcs_up _ h0])
  exact c_m_allPaid (K + 3) M Q (loop (M 1 0).toNat 0 0 (by decide) (by omega) rfl)
theorem pcs_n {f : Int → Int} {a n : Int} (h0 : 0 ≤ n ∧ n ≤ 5) (hb : ∀ h, hs h → h < n → 0 ≤ f h ∧ f h ≤ a) : 0 ≤ pcs f n.toNat ∧ pcs f n.toNat ≤ n * a := by
  have := pcs_b (f := f) (a := a) n.toNat (fun j j0 j1 => hb j ⟨j0, by omega⟩ (by omega))
  rw [Int.toNat_of_nonneg h0.1] at this
  exact this
theorem b_all {K : Nat} {what w : Int} {M : PM} {C : Int → Int → PM → Prop} (I : Iv M) (h1 : R32 what) (h3 : R32 w) (hq : Ok64 C) : Bl (K + 22) jClearingWaves_all [.inr (.inr 0), .inl what, .inl w] jModel_all [.inr (.inr 52), .inl what, .inl w] M C := by
  unfold Bl
  refine c_x_all (K + 21) what w M _ (x_clr I (fun M1 X D hA hi h7 I1 cf => ⟨rfl, ?_⟩))
  have hw := cf.2.1
  have B1 := I1.1.xb
  have hn := B1.1
  have O := xb_ok B1
  have f1 := cf.2.2.1 (M1 11 0) hw.1 (Int.le_refl _)
  have dp := D_P cf hw.1 (Int.le_refl _)
  have d10 := D10 dp.2
  have eb : M1 14 (M1 11 0) = D (M1 11 0) := f1.2.2.1
  have ps0 : ¬ (0 ≤ what ∧ what ≤ 2) → Call (K + 22) jModel_all [.inr (.inr 52), .inl what, .inl w] P0 P0 M1 (retL fun r2 M2 => C (-9223372036854775808) r2 M2) :=
    fun no => c_m_all (K + 21) what w M1 _ ⟨h1, m_within_n h1.R64 (by decide) (by decide) no ⟨by decide, fun _ => hq _ _ NO_R I1, fun z => absurd rfl z⟩⟩
  have ps1 : ¬ (w = 0 ∨ w = 1) → (0 ≤ what ∧ what ≤ 2) → Call (K + 22) jModel_all [.inr (.inr 52), .inl what, .inl w] P0 P0 M1 (retL fun r2 M2 => C (-9223372036854775808) r2 M2) :=
    fun no ok => c_m_all (K + 21) what w M1 _ ⟨h1, m_within_y h1.R64 (by decide) (by decide) ok ⟨by decide, fun z => absurd z (by decide), fun _ => m_isSide_n h3 no ⟨by decide, fun z => absurd rfl z, fun _ => hq _ _ NO_R I1⟩⟩⟩
  have pm : ∀ (Q : Option PV → PM → Prop), (w = 0 ∨ w = 1) → (0 ≤ what ∧ what ≤ 2) → (∀ M2, Ag [52, 58, 59, 60, 61, 62, 63, 64, 65, 66] M1 M2 → Iv M2 → MA M2 X D → M2 52 9 = M1 11 0 → M2 52 13 = M1 11 1 → (∀ h, hs h → M2 61 h = M2 55 (3 + h)) → (¬ what = 0 → G none (K + 21 + 1) jModel_all 54 [(0, .inr (.inr 52)), (1, .inl what), (2, .inl w), (3, .inr (.inl 0)), (5, .inl 0)] [] P0 P0 M2 Q) ∧ (what = 0 → Call (K + 21) jModel_allPaid [.inr (.inr 52)] P0 P0 M2 (retL fun r10 M11 => (0 ≤ (M11 52 9) ∧ (M11 52 9) < 6) ∧ Call (K + 21) jModel_lowest [.inr (.inl r10), .inr (.inl (M11 59 (M11 52 9))), .inl w] P0 P0 M11 (retL fun r13 M14 => Q (some (.inr (.inl r13))) M14)))) → Call (K + 22) jModel_all [.inr (.inr 52), .inl what, .inl w] P0 P0 M1 Q :=
    fun Q ok ok2 go => c_m_all (K + 21) what w M1 Q ⟨h1, m_within_y h1.R64 (by decide) (by decide) ok2 ⟨by decide, fun z => absurd z (by decide), fun _ => m_isSide_y h3 ok ⟨by decide, fun _ => m_clrj I1 cf (fun M2 hA2 I2 cf2 j1 j2 j3 j4 j5 => go M2 hA2 I2 j4 j1 j2 j5), fun z => absurd z (by decide)⟩⟩⟩
  refine cp_bottom_ hw ?_
  rw [eb]
  refine ⟨h1, fun z => ps0 (by omega), fun z => ?_, fun z => ?_, fun z => ?_⟩
  · -- paid
    refine cp_allPaid_ B1 hw cf.2.2.2.1 ?_
    have ey : (s5 fun h => yt (cp_g M1) (cp_X M1 (M1 11 0)) h) = s5 fun h => gt (cp_g M1) (X (M1 11 0)) h := by
      rw [← paid_got]
      refine s5_congr fun h hh => s3_congr fun c hc => ?_
      rw [f1.2.2.2 h c hh hc]
    rw [ey]
    have gb : ∀ h, hs h → 0 ≤ gt (cp_g M1) (X (M1 11 0)) h ∧ gt (cp_g M1) (X (M1 11 0)) h ≤ 240 * D (M1 11 0) := fun h hh => gt_240 O (by omega) f1.2.1 hh
    have P1 : P63 (s5 fun h => gt (cp_g M1) (X (M1 11 0)) h) := by
      have c0 := gb 0 (by decide); have c1 := gb 1 (by decide); have c2 := gb 2 (by decide); have c3 := gb 3 (by decide); have c4 := gb 4 (by decide)
      simp only [s5]
      exact ⟨by omega, by omega⟩
    by_cases ps : w = 0 ∨ w = 1
    · refine x_tell P1 dp.1 dp.2.1 h3 ps (pm _ ps (by omega) (fun M2 hA2 I2 j4 j1 j2 j5 => ⟨fun y => absurd z y, fun _ => m_allPaid_ I2 j4 j1 hw ?_⟩))
      have a := j4 (M1 11 0) hw.1 (by rw [j1]; exact Int.le_refl _)
      rw [ag_cp hA2]
      refine ⟨by rw [j1]; exact ⟨by omega, by omega⟩, ?_⟩
      rw [j1, a.1]
      exact m_lowest P1 dp.1 dp.2.1 h3 (b_end I2 hq P1 dp.1 dp.2.1)
    · exact x_tell_n h3 ps (ps1 ps (by omega))
  · -- left
    obtain ⟨f, hf⟩ : ∃ f : Int → Int, f = fun h => lft (cp_g M1) (X (M1 11 0)) (D (M1 11 0)) (M1 11 1) h := ⟨_, rfl⟩
    have fb : ∀ h, hs h → h < M1 1 0 → 0 ≤ f h ∧ f h ≤ 700 * D (M1 11 0) := fun h hh hl => by rw [hf]; exact lft_b O cf.1 hh hl
    have pb := pcs_n (f := f) (n := M1 1 0) ⟨by omega, hn.2⟩ fb
    have P1 : P63 (pcs f (M1 1 0).toNat) := by
      have : M1 1 0 * (700 * D (M1 11 0)) ≤ 5 * (700 * D (M1 11 0)) := Int.mul_le_mul_of_nonneg_right hn.2 (by omega)
      exact ⟨pb.1, by omega⟩
    have lx : ∀ (Q : Option PV → PM → Prop), Call (K + 21) jRatio_tell [.inr (.inl (pcs f (M1 1 0).toNat)), .inr (.inl (D (M1 11 0))), .inl w] P0 P0 M1 (retL fun r3 M4 => Q (some (.inr (.inl r3))) M4) → ∀ (n : Nat) (h v : Int), 0 ≤ h → h + (n : Int) = M1 1 0 → v = pcs f h.toNat → G none (K + 21 + 1) jClearingWaves_all 58 [(0, .inr (.inr 0)), (2, .inl w), (3, .inr (.inr 11)), (4, .inr (.inl (D (M1 11 0)))), (6, .inr (.inl v)), (8, .inl h)] [] P0 P0 M1 Q := by
      intro Q go n
      induction n with
      | zero =>
        intro h v h0 hh hv
        refine g_x_all_58 _ _ _ _ _ _ _ ⟨⟨by omega, by omega⟩, ⟨by omega, by omega⟩, fun _ => ?_, fun q => absurd (by omega) q⟩
        rw [hv, show h = M1 1 0 by omega]
        exact go
      | succ n ih =>
        intro h v h0 hh hv
        refine g_x_all_58 _ _ _ _ _ _ _ ⟨⟨by omega, by omega⟩, ⟨by omega, by omega⟩, fun q => absurd q (by omega), fun _ => x_remains B1 cf ⟨h0, by omega⟩ (ih (h + 1) _ (by omega) (by omega) ?_)⟩
        rw [hv, pcs_up _ h0, hf]
    have lm : ∀ (M2 : PM), Ag [52, 58, 59, 60, 61, 62, 63, 64, 65, 66] M1 M2 → Iv M2 → MA M2 X D → M2 52 9 = M1 11 0 → M2 52 13 = M1 11 1 → (∀ h, hs h → M2 61 h = M2 55 (3 + h)) → ∀ (Q : Option PV → PM → Prop), Call (K + 21) jModel_lowest [.inr (.inl (pcs f (M1 1 0).toNat)), .inr (.inl (D (M1 11 0))), .inl w] P0 P0 M2 (retL fun r8 M9 => Q (some (.inr (.inl r8))) M9) → ∀ (n : Nat) (h v : Int), 0 ≤ h → h + (n : Int) = M1 1 0 → v = pcs f h.toNat → G none (K + 21 + 1) jModel_all 54 [(0, .inr (.inr 52)), (1, .inl what), (2, .inl w), (3, .inr (.inl v)), (5, .inl h)] [] P0 P0 M2 Q := by
      intro M2 hA2 I2 j4 j1 j2 j5 Q go n
      have e55 : M2 55 0 = M1 1 0 := by rw [I2.1.n, hA2 1 (by decide)]
      have a := j4 (M1 11 0) hw.1 (by rw [j1]; exact Int.le_refl _)
      induction n with
      | zero =>
        intro h v h0 hh hv
        refine g_m_all_54 _ _ _ _ _ _ _ ⟨⟨by omega, by omega⟩, by rw [e55]; exact ⟨by omega, by omega⟩, fun _ => ⟨h1, fun y => absurd z y, fun _ => ⟨by rw [j1]; exact ⟨by omega, by omega⟩, ?_⟩⟩, fun q => absurd (by rw [e55]; omega) q⟩
        rw [j1, a.1, hv, show h = M1 1 0 by omega]
        exact go
      | succ n ih =>
        intro h v h0 hh hv
        refine g_m_all_54 _ _ _ _ _ _ _ ⟨⟨by omega, by omega⟩, by rw [e55]; exact ⟨by omega, by omega⟩, fun q => absurd q (by rw [e55]; omega), fun _ => ⟨h1, fun y => absurd z y, fun _ => m_leftOf I2 j4 j5 j2 cf.2.2.2.2.2.1 j1 hw ⟨h0, by omega⟩ (ih (h + 1) _ (by omega) (by omega) ?_)⟩⟩
        rw [hv, pcs_up _ h0, hf, ag_cp hA2]
    refine lx _ ?_ (M1 1 0).toNat 0 0 (by decide) (by omega) rfl
    by_cases ps : w = 0 ∨ w = 1
    · refine x_tell P1 dp.1 dp.2.1 h3 ps (pm _ ps (by omega) (fun M2 hA2 I2 j4 j1 j2 j5 => ⟨fun _ => lm M2 hA2 I2 j4 j1 j2 j5 _ ?_ (M1 1 0).toNat 0 0 (by decide) (by omega) rfl, fun y => by omega⟩))
      exact m_lowest P1 dp.1 dp.2.1 h3 (b_end I2 hq P1 dp.1 dp.2.1)
    · exact x_tell_n h3 ps (ps1 ps (by omega))
  · -- lost
    obtain ⟨f, hf⟩ : ∃ f : Int → Int, f = fun h => lst (cp_g M1) (X (M1 11 0)) (D (M1 11 0)) (M1 11 1) h := ⟨_, rfl⟩
    have fb : ∀ h, hs h → h < M1 1 0 → 0 ≤ f h ∧ f h ≤ 4400 * D (M1 11 0) := fun h hh hl => by rw [hf]; exact lst_b O (B1.2.2.2.1 h hh).2 (by omega) f1.2.1 hh
    have pb := pcs_n (f := f) (n := M1 1 0) ⟨by omega, hn.2⟩ fb
    have P1 : P63 (pcs f (M1 1 0).toNat) := by
      have : M1 1 0 * (4400 * D (M1 11 0)) ≤ 5 * (4400 * D (M1 11 0)) := Int.mul_le_mul_of_nonneg_right hn.2 (by omega)
      exact ⟨pb.1, by omega⟩
    have lx : ∀ (Q : Option PV → PM → Prop), Call (K + 21) jRatio_tell [.inr (.inl (pcs f (M1 1 0).toNat)), .inr (.inl (10 * D (M1 11 0))), .inl w] P0 P0 M1 (retL fun r3 M4 => Q (some (.inr (.inl r3))) M4) → ∀ (n : Nat) (h v : Int), 0 ≤ h → h + (n : Int) = M1 1 0 → v = pcs f h.toNat → G none (K + 21 + 1) jClearingWaves_all 99 [(0, .inr (.inr 0)), (2, .inl w), (3, .inr (.inr 11)), (4, .inr (.inl (D (M1 11 0)))), (6, .inr (.inl v)), (8, .inl h)] [] P0 P0 M1 Q := by
      intro Q go n
      induction n with
      | zero =>
        intro h v h0 hh hv
        refine g_x_all_99 _ _ _ _ _ _ _ ⟨⟨by omega, by omega⟩, ⟨by omega, by omega⟩, fun _ => ?_, fun q => absurd (by omega) q⟩
        rw [hv, show h = M1 1 0 by omega]
        exact go
      | succ n ih =>
        intro h v h0 hh hv
        refine g_x_all_99 _ _ _ _ _ _ _ ⟨⟨by omega, by omega⟩, ⟨by omega, by omega⟩, fun q => absurd q (by omega), fun _ => x_waste B1 cf ⟨h0, by omega⟩ (ih (h + 1) _ (by omega) (by omega) ?_)⟩
        rw [hv, pcs_up _ h0, hf]
    have lm : ∀ (M2 : PM), Ag [52, 58, 59, 60, 61, 62, 63, 64, 65, 66] M1 M2 → Iv M2 → MA M2 X D → M2 52 9 = M1 11 0 → M2 52 13 = M1 11 1 → (∀ h, hs h → M2 61 h = M2 55 (3 + h)) → ∀ (Q : Option PV → PM → Prop), Call (K + 21) jModel_lowest [.inr (.inl (pcs f (M1 1 0).toNat)), .inr (.inl (10 * D (M1 11 0))), .inl w] P0 P0 M2 (retL fun r8 M9 => Q (some (.inr (.inl r8))) M9) → ∀ (n : Nat) (h v : Int), 0 ≤ h → h + (n : Int) = M1 1 0 → v = pcs f h.toNat → G none (K + 21 + 1) jModel_all 54 [(0, .inr (.inr 52)), (1, .inl what), (2, .inl w), (3, .inr (.inl v)), (5, .inl h)] [] P0 P0 M2 Q := by
      intro M2 hA2 I2 j4 j1 j2 j5 Q go n
      have e55 : M2 55 0 = M1 1 0 := by rw [I2.1.n, hA2 1 (by decide)]
      have a := j4 (M1 11 0) hw.1 (by rw [j1]; exact Int.le_refl _)
      induction n with
      | zero =>
        intro h v h0 hh hv
        refine g_m_all_54 _ _ _ _ _ _ _ ⟨⟨by omega, by omega⟩, by rw [e55]; exact ⟨by omega, by omega⟩, fun _ => ⟨h1, fun _ => ⟨by rw [j1]; exact ⟨by omega, by omega⟩, ?_⟩, fun y => by omega⟩, fun q => absurd (by rw [e55]; omega) q⟩
        rw [j1, a.1, hv, show h = M1 1 0 by omega]
        exact go
      | succ n ih =>
        intro h v h0 hh hv
        refine g_m_all_54 _ _ _ _ _ _ _ ⟨⟨by omega, by omega⟩, by rw [e55]; exact ⟨by omega, by omega⟩, fun q => absurd q (by rw [e55]; omega), fun _ => ⟨h1, fun _ => m_lostOf I2 j4 j5 j2 cf.2.2.2.2.2.1 j1 hw ⟨h0, by omega⟩ (ih (h + 1) _ (by omega) (by omega) ?_), fun y => by omega⟩⟩
        rw [hv, pcs_up _ h0, hf, ag_cp hA2]
    refine lx _ ?_ (M1 1 0).toNat 0 0 (by decide) (by omega) rfl
    by_cases ps : w = 0 ∨ w = 1
    · refine x_tell P1 d10.1 d10.2 h3 ps (pm _ ps (by omega) (fun M2 hA2 I2 j4 j1 j2 j5 => ⟨fun _ => lm M2 hA2 I2 j4 j1 j2 j5 _ ?_ (M1 1 0).toNat 0 0 (by decide) (by omega) rfl, fun y => by omega⟩))
      exact m_lowest P1 d10.1 d10.2 h3 (b_end I2 hq P1 d10.1 d10.2)
    · exact x_tell_n h3 ps (ps1 ps (by omega))
