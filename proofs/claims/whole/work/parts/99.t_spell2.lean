/-! SPELLED: the text of a house -/
def sp1 (T : List Int) : List Int := if T = [] then T else T ++ [32]
def pcx (T : List Int) (h w t b : Int) : List Int :=
  if b = 1 then (((sp1 T ++ [97 + h]) ++ [48 + w]) ++ [58]) ++ nm t else (((((sp1 T ++ [97 + h]) ++ [48 + w]) ++ [58]) ++ nm t) ++ [47]) ++ nm b
def Tb (T : List Int) : Prop := ∀ x ∈ T, 0 ≤ x ∧ x ≤ 127
theorem Tb.app {S T : List Int} (a : Tb S) (b : Tb T) : Tb (S ++ T) := fun x h => by
  rcases List.mem_append.mp h with h | h
  · exact a x h
  · exact b x h
theorem Tb.one {v : Int} (h : 0 ≤ v ∧ v ≤ 127) : Tb [v] := fun x hx => by
  have e : x = v := by simpa using hx
  rw [e]; exact h
theorem tb_nm (v : Int) : Tb (nm v) := fun x hx => by have := nm_b hx; omega
theorem tb_sp1 {T : List Int} (a : Tb T) : Tb (sp1 T) := by
  unfold sp1
  split
  · exact a
  · exact a.app (Tb.one (by decide))
theorem tb_pcx {T : List Int} {h w t b : Int} (a : Tb T) (hh : hs h) (hw : 0 ≤ w ∧ w ≤ 5) : Tb (pcx T h w t b) := by
  have a1 := (((tb_sp1 a).app (Tb.one (v := 97 + h) (by omega))).app (Tb.one (v := 48 + w) (by omega))).app (Tb.one (v := 58) (by decide))
  unfold pcx
  split
  · exact a1.app (tb_nm _)
  · exact ((a1.app (tb_nm _)).app (Tb.one (by decide))).app (tb_nm _)
theorem sp1_len (T : List Int) : (sp1 T).length ≤ T.length + 1 := by
  unfold sp1
  split
  · omega
  · simp
theorem pcx_len {T : List Int} {h w t b : Int} (ht : t < 100000000000000000) (hb : b < 1000000000000000) : (pcx T h w t b).length ≤ T.length + 37 := by
  have a := sp1_len T
  have lt := nm_len (v := t) 16 ht
  have lb := nm_len (v := b) 14 hb
  unfold pcx
  split
  · simp only [List.length_append, List.length_cons, List.length_nil]; omega
  · simp only [List.length_append, List.length_cons, List.length_nil]; omega
theorem tlw_up {t b : Int} (ht : 0 ≤ t) (hb : 0 < b) : 0 ≤ tlw t b 0 ∧ tlw t b 0 ≤ t := by
  have g := gcd_p (t := t) hb
  unfold tlw
  rw [if_pos rfl]
  exact ⟨td_nn ht g, td_le ht g⟩
theorem tlw_lo {t b : Int} (hb : 0 < b) : 1 ≤ tlw t b 1 ∧ tlw t b 1 ≤ b := by
  have g := gcd_p (t := t) hb
  have gl := gcd_le_b (t := t) hb
  unfold tlw
  rw [if_neg (by decide)]
  refine ⟨?_, td_le (by omega) g⟩
  rw [td_ed (by omega)]
  exact Int.le_ediv_of_mul_le g (by omega)
theorem yt_240 {g : Ck} {X : Int → Int → Int} {D h : Int} (hd : ∀ c, kl c → 0 ≤ due g h c ∧ due g h c ≤ 80) (hD : 0 ≤ D) (hX : ∀ c, kl c → 0 ≤ X h c ∧ X h c ≤ D) : 0 ≤ yt g X h ∧ yt g X h ≤ 240 * D := by
  have h1 : ∀ c, kl c → 0 ≤ due g h c * X h c ∧ due g h c * X h c ≤ 80 * D := fun c hc => by
    have a := hd c hc
    have b := hX c hc
    exact ⟨Int.mul_nonneg a.1 b.1, Int.mul_le_mul a.2 b.2 b.1 (by omega)⟩
  have a0 := h1 0 (by decide); have a1 := h1 1 (by decide); have a2 := h1 2 (by decide)
  show 0 ≤ (s3 fun c => due g h c * X h c) ∧ (s3 fun c => due g h c * X h c) ≤ 240 * D
  simp only [s3]
  omega
/-- what the text says of a house: above, below -/
def tA (M : PM) (X : Int → Int → Int → Int) (D : Int → Int) (h : Int) : Int := tlw (yt (cp_g M) (X (M 11 0)) h) (D (M 11 0)) 0
def tB (M : PM) (X : Int → Int → Int → Int) (D : Int → Int) (h : Int) : Int := tlw (yt (cp_g M) (X (M 11 0)) h) (D (M 11 0)) 1
theorem ty_b {M : PM} {X : Int → Int → Int → Int} {D : Int → Int} (B : XB M) (cf : CF M X D) {h : Int} (hh : hs h) : (0 ≤ yt (cp_g M) (X (M 11 0)) h ∧ yt (cp_g M) (X (M 11 0)) h ≤ 78643200000000000) ∧ (P63 (tA M X D h) ∧ tA M X D h < 100000000000000000) ∧ (1 ≤ tB M X D h ∧ tB M X D h < 1000000000000000) := by
  have f1 := cf.2.2.1 (M 11 0) cf.2.1.1 (Int.le_refl _)
  have y := yt_240 (g := cp_g M) (X := X (M 11 0)) (D := D (M 11 0)) (h := h) (fun c hc => xd_b B hh hc) (by omega) (fun c hc => f1.2.1 h c hh hc)
  have a := tlw_up y.1 f1.1.1
  have b := tlw_lo (t := yt (cp_g M) (X (M 11 0)) h) f1.1.1
  refine ⟨⟨y.1, by omega⟩, ⟨⟨a.1, ?_⟩, ?_⟩, b.1, ?_⟩
  · show tlw (yt (cp_g M) (X (M 11 0)) h) (D (M 11 0)) 0 < 9223372036854775808
    omega
  · show tlw (yt (cp_g M) (X (M 11 0)) h) (D (M 11 0)) 0 < 100000000000000000
    omega
  · show tlw (yt (cp_g M) (X (M 11 0)) h) (D (M 11 0)) 1 < 1000000000000000
    omega
theorem x_spellHouse {K : Nat} {h w : Int} {T : List Int} {M : PM} {X : Int → Int → Int → Int} {D : Int → Int} {Q : Option PV → PM → Prop} (B : XB M) (cf : CF M X D) (hh : hs h) (hw : 1 ≤ w ∧ w ≤ 5) (hT : Hd (M 47 0) (M 48) T) (hl : T.length + 37 ≤ 200) (hq : ∀ M', Ag [47, 48] M M' → Hd (M' 47 0) (M' 48) (pcx T h w (tA M X D h) (tB M X D h)) → Q none M') : Call (K + 4) jClearingWaves_spellHouse [.inr (.inr 0), .inl h, .inl w] P0 P0 M Q := by
  have yb := ty_b B cf hh
  have lA := nm_len (v := tA M X D h) 16 yb.2.1.2
  have lB := nm_len (v := tB M X D h) 14 yb.2.2.2
  have hw0 := cf.2.1
  have f1 := cf.2.2.1 (M 11 0) hw0.1 (Int.le_refl _)
  have dp := D_P cf hw0.1 (Int.le_refl _)
  have P1 : P63 (yt (cp_g M) (X (M 11 0)) h) := ⟨yb.1.1, by omega⟩
  have core : ∀ (M1 : PM), Ag [47, 48] M M1 → Hd (M1 47 0) (M1 48) (sp1 T) → G none (K + 3 + 1) jClearingWaves_spellHouse 19 [(0, .inr (.inr 0)), (1, .inl h), (2, .inl w)] [] P0 P0 M1 Q := by
    intro M1 hA1 h1
    have l1 := sp1_len T
    refine g_x_spellHouse_19 _ _ _ _ _ (pa_add h1 (by omega) (fun M2 hA2 h2 => ⟨⟨by omega, by omega⟩, ?_⟩))
    have n1 := nm_1 (v := w) ⟨by omega, by omega⟩
    refine pa_addNumber (K := K + 1) ⟨by omega, by omega⟩ h2 (by rw [n1]; simp only [List.length_append, List.length_cons, List.length_nil]; omega) (fun M3 hA3 h3 => ?_)
    rw [n1] at h3
    refine pa_add h3 (by simp only [List.length_append, List.length_cons, List.length_nil]; omega) (fun M4 hA4 h4 => ?_)
    have hA : Ag [47, 48] M M4 := ((hA1.tr hA2).tr hA3).tr hA4
    have cf4 : CF M4 X D := cf.of hA (by decide)
    have B4 : XB M4 := B.of (hA 1 (by decide)) (hA 2 (by decide)) (hA 3 (by decide))
    have e11 : M4 11 = M 11 := hA 11 (by decide)
    have e15 : M4 15 = M 15 := hA 15 (by decide)
    refine cp_pays_ (K := K + 1) cf4.2.1 hh (fun c hc => by rw [cf4.2.2.2.1 h c hh hc]; exact xd_b B4 hh hc) ?_
    have ey : (s3 fun c => M4 15 ((h * 3) + c) * cp_X M4 (M4 11 0) h c) = yt (cp_g M) (X (M 11 0)) h := s3_congr fun c hc => by
      rw [e15, cf.2.2.2.1 h c hh hc, (cf4.2.2.1 (M4 11 0) cf4.2.1.1 (Int.le_refl _)).2.2.2 h c hh hc, e11]
      rfl
    rw [ey]
    refine cp_bottom_ (K := K + 2) cf4.2.1 ?_
    rw [e11, hA 14 (by decide), f1.2.2.1]
    refine x_tell (K := K + 1) P1 dp.1 dp.2.1 (by decide) (Or.inl rfl) ?_
    refine pa_addNumber (K := K + 1) (v := tA M X D h) yb.2.1.1 h4 (by simp only [List.length_append, List.length_cons, List.length_nil]; omega) (fun M5 hA5 h5 => ?_)
    refine x_tell (K := K + 1) P1 dp.1 dp.2.1 (by decide) (Or.inr rfl) ?_
    have hA' : Ag [47, 48] M M5 := hA.tr hA5
    refine ⟨⟨by have := yb.2.2.1; unfold tB at this; omega, by have := yb.2.2.2; unfold tB at this; omega⟩, fun q => ?_, fun q => ?_⟩
    · refine hq M5 hA' ?_
      unfold pcx
      rw [if_pos (show tB M X D h = 1 from q)]
      exact h5
    · refine pa_add h5 (by simp only [List.length_append, List.length_cons, List.length_nil]; omega) (fun M6 hA6 h6 => ?_)
      refine pa_addNumber (K := K + 1) (v := tB M X D h) ⟨by have := yb.2.2.1; omega, by have := yb.2.2.2; omega⟩ h6 (by simp only [List.length_append, List.length_cons, List.length_nil]; omega) (fun M7 hA7 h7 => ?_)
      refine hq M7 ((hA'.tr hA6).tr hA7) ?_
      unfold pcx
      rw [if_neg (show ¬ tB M X D h = 1 from q)]
      exact h7
  have e0 := hT.1
  refine c_x_spellHouse (K + 3) h w M Q ⟨⟨by omega, by omega⟩, fun q => core M (Ag.rf _ _) ?_, fun q => pa_add hT (by omega) (fun M1 hA1 h1 => core M1 hA1 ?_)⟩
  · have z : T = [] := List.length_eq_zero_iff.mp (by omega)
    unfold sp1
    rw [if_pos z]; exact hT
  · have z : ¬ T = [] := fun z => by rw [z] at e0; exact q (by rw [e0]; decide)
    unfold sp1
    rw [if_neg z]; exact h1
theorem m_spells_ {K : Nat} {h w a b : Int} {T : List Int} {M : PM} {Y DD : Int} {Q : Option PV → PM → Prop} (hh : hs h) (hw : 1 ≤ w ∧ w ≤ 5) (e60 : M 60 h = w) (hW : 0 ≤ M 52 9 ∧ M 52 9 ≤ 5) (hD : M 59 (M 52 9) = DD) (hDP : P63 DD ∧ 0 < DD) (hY : (s3 fun c => md M h c * rX M (M 52 9) h c) = Y) (hYP : P63 Y) (hm : ∀ c, kl c → 0 ≤ md M h c ∧ md M h c ≤ 80)
    (ea : tlw Y DD 0 = a) (eb : tlw Y DD 1 = b) (ha : P63 a ∧ a < 100000000000000000) (hb : 1 ≤ b ∧ b < 1000000000000000) (hT : Hd (M 52 32) (M 71) T) (hl : T.length + 37 ≤ 200) (hq : ∀ M', Ag [52, 71] M M' → (∀ i, i ≠ 32 → M' 52 i = M 52 i) → Hd (M' 52 32) (M' 71) (pcx T h w a b) → Q none M') : Call (K + 21) jModel_spells [.inr (.inr 52), .inl h] P0 P0 M Q := by
  have lA := nm_len (v := a) 16 ha.2
  have lB := nm_len (v := b) 14 hb.2
  have core : ∀ (M1 : PM), Ag [52, 71] M M1 → (∀ i, i ≠ 32 → M1 52 i = M 52 i) → Hd (M1 52 32) (M1 71) (sp1 T) → G none (K + 20 + 1) jModel_spells 13 [(0, .inr (.inr 52)), (1, .inl h)] [] P0 P0 M1 Q := by
    intro M1 hA1 i1 h1
    have l1 := sp1_len T
    refine g_m_spells_13 _ _ _ _ (m_writes_ h1 (by omega) (fun M2 hA2 i2 h2 => ⟨hh, ?_⟩))
    rw [hA2 60 (by decide), hA1 60 (by decide), e60]
    refine m_writes_ h2 (by simp only [List.length_append, List.length_cons, List.length_nil]; omega) (fun M3 hA3 i3 h3 => ?_)
    refine m_writes_ h3 (by simp only [List.length_append, List.length_cons, List.length_nil]; omega) (fun M4 hA4 i4 h4 => ?_)
    have hA : Ag [52, 71] M M4 := ((hA1.tr hA2).tr hA3).tr hA4
    have iA : ∀ i, i ≠ 32 → M4 52 i = M 52 i := fun i hi => by rw [i4 i hi, i3 i hi, i2 i hi, i1 i hi]
    have e9 : M4 52 9 = M 52 9 := iA 9 (by decide)
    have em : ∀ c, md M4 h c = md M h c := fun c => by unfold md mo; rw [hA 55 (by decide)]
    have ex : ∀ c, rX M4 (M 52 9) h c = rX M (M 52 9) h c := fun c => by unfold rX; rw [hA 58 (by decide)]
    have st : ∀ (c v : Int), kl c → G none (K + 19 + 1) jModel_paysAll 5 [(0, .inr (.inr 52)), (1, .inl h), (2, .inr (.inl (v + md M h c * rX M (M 52 9) h c))), (4, .inl (c + 1))] [] P0 P0 M4 (retL fun r8 M9 => (0 ≤ (M9 52 9) ∧ (M9 52 9) < 6) ∧ Call (K + 20) jModel_lowest [.inr (.inl r8), .inr (.inl (M9 59 (M9 52 9))), .inl 0] P0 P0 M9 (retL fun r11 M12 => Call (K + 20) jModel_writesNumber [.inr (.inr 52), .inr (.inl r11)] P0 P0 M12 (retV fun M14 => (0 ≤ (M14 52 9) ∧ (M14 52 9) < 6) ∧ Call (K + 20) jModel_lowest [.inr (.inl r8), .inr (.inl (M14 59 (M14 52 9))), .inl 1] P0 P0 M14 (retL fun r16 M17 => R64 r16 ∧ (r16 ≤ 1 → Q none M17) ∧ (¬ r16 ≤ 1 → Call (K + 20) jModel_writes [.inr (.inr 52), .inl 47] P0 P0 M17 (retV fun M20 => Call (K + 20) jModel_writesNumber [.inr (.inr 52), .inr (.inl r16)] P0 P0 M20 (retV fun M22 => Q none M22))))))) → G none (K + 19 + 1) jModel_paysAll 5 [(0, .inr (.inr 52)), (1, .inl h), (2, .inr (.inl v)), (4, .inl c)] [] P0 P0 M4 (retL fun r8 M9 => (0 ≤ (M9 52 9) ∧ (M9 52 9) < 6) ∧ Call (K + 20) jModel_lowest [.inr (.inl r8), .inr (.inl (M9 59 (M9 52 9))), .inl 0] P0 P0 M9 (retL fun r11 M12 => Call (K + 20) jModel_writesNumber [.inr (.inr 52), .inr (.inl r11)] P0 P0 M12 (retV fun M14 => (0 ≤ (M14 52 9) ∧ (M14 52 9) < 6) ∧ Call (K + 20) jModel_lowest [.inr (.inl r8), .inr (.inl (M14 59 (M14 52 9))), .inl 1] P0 P0 M14 (retL fun r16 M17 => R64 r16 ∧ (r16 ≤ 1 → Q none M17) ∧ (¬ r16 ≤ 1 → Call (K + 20) jModel_writes [.inr (.inr 52), .inl 47] P0 P0 M17 (retV fun M20 => Call (K + 20) jModel_writesNumber [.inr (.inr 52), .inr (.inl r16)] P0 P0 M20 (retV fun M22 => Q none M22))))))) := by
      intro c v hc go
      have b1 := hm c hc
      refine g_m_paysAll_5 _ _ _ _ _ _ ⟨⟨by omega, by omega⟩, fun q => absurd q (by omega), fun _ => m_due hh hc ⟨by rw [em c]; exact ⟨by omega, by omega⟩, c_m_partAt _ _ _ _ _ _ ⟨⟨by rw [e9]; omega, by rw [e9]; omega⟩, ?_⟩⟩⟩
      show G none (K + 19 + 1) jModel_paysAll 5 [(0, .inr (.inr 52)), (1, .inl h), (2, .inr (.inl (v + md M4 h c * rX M4 (M4 52 9) h c))), (4, .inl (c + 1))] [] P0 P0 M4 _
      rw [e9, em c, ex c]
      exact go
    refine c_m_paysAll (K + 19) h M4 _ (st 0 0 (by decide) (st 1 _ (by decide) (st 2 _ (by decide) ?_)))
    refine g_m_paysAll_5 _ _ _ _ _ _ ⟨by decide, fun _ => ?_, fun q => absurd (by decide) q⟩
    have ey : 0 + md M h 0 * rX M (M 52 9) h 0 + md M h 1 * rX M (M 52 9) h 1 + md M h 2 * rX M (M 52 9) h 2 = Y := by rw [← hY]; simp only [s3]; omega
    rw [ey]
    refine ⟨by rw [e9]; exact ⟨by omega, by omega⟩, ?_⟩
    rw [e9, hA 59 (by decide), hD]
    refine m_lowest (K := K + 18) hYP hDP.1 hDP.2 (by decide) ?_
    rw [ea]
    refine m_writesNumber_ ha.1 h4 (by simp only [List.length_append, List.length_cons, List.length_nil]; omega) (fun M5 hA5 i5 h5 => ?_)
    have e9' : M5 52 9 = M 52 9 := by rw [i5 9 (by decide), e9]
    refine ⟨by rw [e9']; exact ⟨by omega, by omega⟩, ?_⟩
    rw [e9', hA5 59 (by decide), hA 59 (by decide), hD]
    refine m_lowest (K := K + 18) hYP hDP.1 hDP.2 (by decide) ?_
    rw [eb]
    have hA' : Ag [52, 71] M M5 := hA.tr hA5
    have iA' : ∀ i, i ≠ 32 → M5 52 i = M 52 i := fun i hi => by rw [i5 i hi, iA i hi]
    refine ⟨⟨by omega, by omega⟩, fun q => ?_, fun q => ?_⟩
    · refine hq M5 hA' iA' ?_
      unfold pcx
      rw [if_pos (by omega)]
      exact h5
    · refine m_writes_ h5 (by simp only [List.length_append, List.length_cons, List.length_nil]; omega) (fun M6 hA6 i6 h6 => ?_)
      refine m_writesNumber_ ⟨by omega, by omega⟩ h6 (by simp only [List.length_append, List.length_cons, List.length_nil]; omega) (fun M7 hA7 i7 h7 => ?_)
      refine hq M7 ((hA'.tr hA6).tr hA7) (fun i hi => by rw [i7 i hi, i6 i hi, iA' i hi]) ?_
      unfold pcx
      rw [if_neg (by omega)]
      exact h7
  have e0 := hT.1
  refine c_m_spells (K + 20) h M Q ⟨⟨by omega, by omega⟩, fun q => core M (Ag.rf _ _) (fun _ _ => rfl) ?_, fun q => m_writes_ hT (by omega) (fun M1 hA1 i1 h1 => core M1 hA1 i1 ?_)⟩
  · have z : T = [] := List.length_eq_zero_iff.mp (by omega)
    unfold sp1
    rw [if_pos z]; exact hT
  · have z : ¬ T = [] := fun z => by rw [z] at e0; exact q (by rw [e0]; decide)
    unfold sp1
    rw [if_neg z]; exact h1
