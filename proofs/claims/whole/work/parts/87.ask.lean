/-! QUESTIONS about the clearing: what both need -/
/-- a fraction in lowest terms: what is above, or below, the line -/
def tlw (t b w : Int) : Int := if w = 0 then Int.tdiv t ((Int.gcd t b : Nat) : Int) else Int.tdiv b ((Int.gcd t b : Nat) : Int)
abbrev P63 (x : Int) : Prop := 0 ≤ x ∧ x < 9223372036854775808
theorem gcd_p {t b : Int} (hb : 0 < b) : 0 < ((Int.gcd t b : Nat) : Int) := by
  have : 0 < Int.gcd t b := Int.gcd_pos_iff.mpr (Or.inr (by omega))
  omega
theorem gcd_le_b {t b : Int} (hb : 0 < b) : ((Int.gcd t b : Nat) : Int) ≤ b := Int.le_of_dvd hb (Int.gcd_dvd_right _ _)
theorem td_le {a d : Int} (ha : 0 ≤ a) (hd : 0 < d) : Int.tdiv a d ≤ a := by
  rw [td_ed ha]
  exact Int.ediv_le_self _ ha
theorem tlw_b {t b w : Int} (ht : P63 t) (hb : P63 b) (hb0 : 0 < b) : P63 (tlw t b w) := by
  have g := gcd_p (t := t) hb0
  unfold tlw
  split
  · exact ⟨td_nn ht.1 g, by have := td_le ht.1 g; omega⟩
  · exact ⟨td_nn hb.1 g, by have := td_le hb.1 g; omega⟩
theorem P63.R {x : Int} (h : P63 x) : R64 x := ⟨by have := h.1; omega, by have := h.2; omega⟩
theorem x_tell {K : Nat} {t b w : Int} {M : PM} {Q : Option PV → PM → Prop} (ht : P63 t) (hb : P63 b) (hb0 : 0 < b) (hw : R32 w) (hs_ : w = 0 ∨ w = 1) (hq : Q (some (.inr (.inl (tlw t b w)))) M) : Call (K + 2) jRatio_tell [.inr (.inl t), .inr (.inl b), .inl w] P0 P0 M Q := by
  have g := gcd_p (t := t) hb0
  have gl := gcd_le_b (t := t) hb0
  have em : mx2 ((Int.gcd t b : Nat) : Int) 1 = ((Int.gcd t b : Nat) : Int) := by unfold mx2; rw [if_neg (by omega)]
  have R : R64 ((Int.gcd t b : Nat) : Int) := ⟨by omega, by have := hb.2; omega⟩
  refine c_ratio_tell (K + 1) t b w M Q ⟨hw, fun c => x_divisor ht hb ?_, fun c => ⟨fun c1 => x_divisor ht hb ?_, fun c1 => absurd hs_ (by omega)⟩⟩
  · rw [em]
    refine ⟨fun z => absurd c z, fun _ => ⟨ht.R, R, by omega, ?_⟩⟩
    unfold tlw at hq
    rw [if_pos c] at hq
    exact hq
  · rw [em]
    refine ⟨fun _ => ⟨hb.R, R, by omega, ?_⟩, fun z => absurd z c⟩
    unfold tlw at hq
    rw [if_neg c] at hq
    exact hq
theorem x_tell_n {K : Nat} {t b w : Int} {M : PM} {Q : Option PV → PM → Prop} (hw : R32 w) (hs_ : ¬ (w = 0 ∨ w = 1)) (hq : Q (some (.inr (.inl (-9223372036854775808)))) M) : Call (K + 2) jRatio_tell [.inr (.inl t), .inr (.inl b), .inl w] P0 P0 M Q :=
  c_ratio_tell (K + 1) t b w M Q ⟨hw, fun c => absurd (Or.inl c) hs_, fun _ => ⟨fun c => absurd (Or.inr c) hs_, fun _ => hq⟩⟩
theorem m_lowest {K : Nat} {t b w : Int} {M : PM} {Q : Option PV → PM → Prop} (ht : P63 t) (hb : P63 b) (hb0 : 0 < b) (hw : R32 w) (hq : Q (some (.inr (.inl (tlw t b w)))) M) : Call (K + 2) jModel_lowest [.inr (.inl t), .inr (.inl b), .inl w] P0 P0 M Q := by
  have g := gcd_p (t := t) hb0
  have gl := gcd_le_b (t := t) hb0
  have R : R64 ((Int.gcd t b : Nat) : Int) := ⟨by omega, by have := hb.2; omega⟩
  refine c_model_lowest (K + 1) t b w M Q (m_divisor hb ht ?_)
  rw [Int.gcd_comm]
  refine ⟨hw, fun c => ⟨hb.R, R, by omega, ?_⟩, fun c => ⟨ht.R, R, by omega, ?_⟩⟩
  · unfold tlw at hq
    rw [if_neg c] at hq
    exact hq
  · unfold tlw at hq
    rw [if_pos c] at hq
    exact hq
/-- what the class's clearing gives, in one hand -/
def CF (M : PM) (X : Int → Int → Int → Int) (D : Int → Int) : Prop := Clr (cp_g M) (M 1 0) X D (M 11 0) (M 11 1) (M 12) ∧ (0 ≤ M 11 0 ∧ M 11 0 ≤ 5) ∧ (∀ r, 0 ≤ r → r ≤ M 11 0 → (0 < D r ∧ D r ≤ 327680000000000) ∧ (∀ h c, hs h → kl c → 0 ≤ X r h c ∧ X r h c ≤ D r) ∧ M 14 r = D r ∧ ∀ h c, hs h → kl c → cp_X M r h c = X r h c) ∧
  (∀ h c, hs h → kl c → M 15 ((h * 3) + c) = xd M h c) ∧ (∀ h, hs h → M 16 h = s3 fun c => xd M h c) ∧ (0 ≤ M 11 1 ∧ M 11 1 < 32) ∧ ∀ h, hs h → 0 ≤ M 12 h ∧ M 12 h ≤ M 11 0
theorem clr_wv {g : Ck} {n : Int} {X : Int → Int → Int → Int} {D : Int → Int} {W s : Int} {wv : Int → Int} (c : Clr g n X D W s wv) : ∀ h, hs h → (tb s h = false → wv h = 0) ∧ (tb s h = true → 1 ≤ wv h ∧ wv h ≤ W) := by
  obtain ⟨c1, c2, F, c3, c4, c5, c6⟩ := c
  intro h hh
  have w := c6 h hh
  rw [c5 h hh]
  exact ⟨w.1, fun z => ⟨(w.2 z).1, (w.2 z).2.1⟩⟩
theorem cf_of {M : PM} (cx : CXV M) : ∃ X D, CF M X D := by
  obtain ⟨X, D, c1, c2, c3, c4⟩ := cx
  refine ⟨X, D, c1, c1.1, fun r h0 h1 => ?_, c3, c4, c1.2.1, fun h hh => ?_⟩
  · obtain ⟨_, _, F, R, _⟩ := c1
    have rn := R.2.1 r h0 h1
    have a := c2 r h0 (by omega)
    exact ⟨⟨rn.1.1.1, rn.2.2.1⟩, rn.1.1.2.1, a.1, a.2⟩
  · have w := clr_wv c1 h hh
    cases z : tb (M 11 1) h
    · have := w.1 z; have := c1.1; omega
    · have := w.2 z; omega
/-- the model's clearing is the class's -/
theorem jm_of {M1 M2 : PM} {X : Int → Int → Int → Int} {D : Int → Int} (cf : CF M1 X D) (I2 : Iv M2) (hA : Ag [52, 58, 59, 60, 61, 62, 63, 64, 65, 66] M1 M2) (mk : MC M2) : M2 52 9 = M1 11 0 ∧ M2 52 13 = M1 11 1 ∧ (∀ h, hs h → M2 60 h = M1 12 h) ∧ MA M2 X D := by
  obtain ⟨X', D', m1, m2⟩ := mk
  have O := xb_ok I2.1.xb
  have m1' := m1.onr I2.1.eq.symm
  rw [I2.1.n] at m1'
  have c1 := cf.1
  rw [← cp_g_of (hA 1 (by decide)) (hA 2 (by decide)) (hA 3 (by decide)), ← hA 1 (by decide)] at c1
  obtain ⟨u1, u2, u3, u4⟩ := Clr.uniq O c1 m1'
  refine ⟨u1.symm, u2.symm, fun h hh => (u3 h hh).symm, fun r h0 h1 => ?_⟩
  have a := m2 r h0 h1
  have b := u4 r h0 (by rw [u1]; exact h1)
  exact ⟨by rw [a.1, b.1], fun h c hh hc => by rw [a.2 h c hh hc, b.2 h c hh hc]⟩
theorem x_clr {K : Nat} {M : PM} {Q : Option PV → PM → Prop} (I : Iv M) (hq : ∀ M' X D, Ag [0, 11, 12, 13, 14, 15, 16, 17, 18, 19, 20, 22, 23] M M' → (∀ i, i ≠ 7 → M' 0 i = M 0 i) → M' 0 7 = 0 → Iv M' → CF M' X D → Q (some (.inr (.inr 11))) M') : Call (K + 6) jClearingWaves_cleared [.inr (.inr 0)] P0 P0 M Q := by
  have Xc := I.2.2.2.2.2.1
  refine c_x_cleared (K + 5) M Q ⟨by rcases Xc.1 with z | z <;> rw [z] <;> decide, fun c => ?_, fun c => cp_run ⟨I.1.xb, fun h hh => by have := I.1.xb.2.2.2.1 h hh; omega⟩ (fun M1 X1 D1 hA hc ha hd hda => ?_)⟩
  · obtain ⟨X, D, cf⟩ := cf_of (Xc.2 c)
    exact hq M X D (Ag.rf _ _) (fun _ _ => rfl) c I cf
  · have e1 : M1 1 = M 1 := hA 1 (by decide)
    have e2 : M1 2 = M 2 := hA 2 (by decide)
    have e3 : M1 3 = M 3 := hA 3 (by decide)
    have n : ∀ a, a ≠ 0 → (mset M1 0 7 0) a = M1 a := fun a ha => mset_ne ha
    have cx : CXV (mset M1 0 7 0) := by
      have cx1 : CXV M1 := ⟨X1, D1, by rw [cp_g_of e1 e2 e3, e1]; exact hc, ha, by rw [xd_of e3]; exact hd, by rw [xd_of e3]; exact hda⟩
      exact cx1.of (n 1 (by decide)) (n 2 (by decide)) (n 3 (by decide)) (n 11 (by decide)) (n 12 (by decide)) (n 13 (by decide)) (n 14 (by decide)) (n 15 (by decide)) (n 16 (by decide))
    have hA' : Ag [0, 11, 12, 13, 14, 15, 16, 17, 18, 19, 20, 22, 23] M (mset M1 0 7 0) := (hA.mono (by decide)).set (by decide)
    have h0 : ∀ i, i ≠ 7 → (mset M1 0 7 0) 0 i = M 0 i := fun i hi => by rw [show (mset M1 0 7 0) 0 i = M1 0 i by simp [mset, hi], hA 0 (by decide)]
    have h52 : (mset M1 0 7 0) 52 = M 52 := by rw [n 52 (by decide), hA 52 (by decide)]
    obtain ⟨X, D, cf⟩ := cf_of cx
    refine hq _ X D hA' h0 mset_eq (I.upd (hA'.mono (by decide)) (h0 2 (by decide)) (by rw [h52]) (by rw [h52]) (by rw [h52]) ⟨Or.inl mset_eq, fun _ => cx⟩ ?_ ?_) cf
    · exact I.2.2.2.2.2.2.1.of (h0 9 (by decide)) (hA' 1 (by decide)) (hA' 2 (by decide)) (hA' 3 (by decide)) (hA' 37 (by decide)) (hA' 38 (by decide)) (hA' 39 (by decide))
    · exact I.2.2.2.2.2.2.2.of (by rw [h52]) (hA' 55 (by decide)) (by rw [h52]) (by rw [h52]) (hA' 58 (by decide)) (hA' 59 (by decide)) (hA' 60 (by decide)) (hA' 61 (by decide))
/-- asked again: nothing is done -/
theorem x_clr0 {K : Nat} {M : PM} {Q : Option PV → PM → Prop} (h : M 0 7 = 0) (hq : Q (some (.inr (.inr 11))) M) : Call (K + 1) jClearingWaves_cleared [.inr (.inr 0)] P0 P0 M Q :=
  c_x_cleared K M Q ⟨by rw [h]; decide, fun _ => hq, fun c => absurd h c⟩
theorem m_clrj {K : Nat} {M : PM} {X : Int → Int → Int → Int} {D : Int → Int} {Q : Option PV → PM → Prop} (I : Iv M) (cf : CF M X D) (hq : ∀ M', Ag [52, 58, 59, 60, 61, 62, 63, 64, 65, 66] M M' → Iv M' → CF M' X D → M' 52 9 = M 11 0 → M' 52 13 = M 11 1 → (∀ h, hs h → M' 60 h = M 12 h) → MA M' X D → (∀ h, hs h → M' 61 h = M' 55 (3 + h)) → Q none M') : Call (K + 15) jModel_clears [.inr (.inr 52)] P0 P0 M Q := by
  refine m_clr2 I (fun M2 hA h52 mk I2 => ?_)
  obtain ⟨j1, j2, j3, j4⟩ := jm_of cf I2 hA mk.1
  refine hq M2 hA I2 ?_ j1 j2 j3 j4 mk.2
  unfold CF at cf ⊢
  have e : cp_X M2 = cp_X M := by funext r h c; unfold cp_X; rw [hA 13 (by decide)]
  rw [cp_g_of (hA 1 (by decide)) (hA 2 (by decide)) (hA 3 (by decide)), hA 1 (by decide), hA 11 (by decide), hA 12 (by decide), hA 14 (by decide), hA 15 (by decide), hA 16 (by decide), xd_of (hA 3 (by decide)), e]
  exact cf
theorem b_waves {K : Nat} {M : PM} {C : Int → Int → PM → Prop} (I : Iv M) (hq : Ok32 C) : Bi (K + 22) jClearingWaves_waves [.inr (.inr 0)] jModel_waves [.inr (.inr 52)] M C := by
  unfold Bi
  refine c_x_waves (K + 21) M _ (x_clr I (fun M1 X D hA h0 h7 I1 cf => ⟨rfl, ?_⟩))
  refine c_m_waves (K + 21) M1 _ (m_clrj I1 cf (fun M2 hA2 I2 cf2 j1 j2 j3 j4 j5 => ?_))
  show C (M1 11 0) (M2 52 9) M2
  rw [j1]
  exact hq _ _ ⟨by have := cf.2.1; omega, by have := cf.2.1; omega⟩ I2
theorem b_fails {K : Nat} {M : PM} {C : Int → Int → PM → Prop} (I : Iv M) (hq : Ok32 C) : Bi (K + 22) jClearingWaves_fails [.inr (.inr 0)] jModel_fails [.inr (.inr 52)] M C := by
  unfold Bi
  refine c_x_fails (K + 21) M _ (x_clr I (fun M1 X D hA h0 h7 I1 cf => ⟨rfl, ?_⟩))
  refine c_m_fails (K + 21) M1 _ (m_clrj I1 cf (fun M2 hA2 I2 cf2 j1 j2 j3 j4 j5 => ?_))
  show C (M1 11 1) (M2 52 13) M2
  rw [j2]
  have := cf.2.2.2.2.2.1
  exact hq _ _ ⟨by omega, by omega⟩ I2
theorem b_wave {K : Nat} {a : Int} {M : PM} {C : Int → Int → PM → Prop} (I : Iv M) (h1 : R32 a) (hq : Ok32 C) : Bi (K + 22) jClearingWaves_wave [.inr (.inr 0), .inl a] jModel_wave [.inr (.inr 52), .inl a] M C := by
  have B := I.1.xb
  have hn := I.1.n
  unfold Bi
  by_cases p : 0 ≤ a ∧ a < M 1 0
  · have hh : hs a := ⟨p.1, by have := B.1.2; omega⟩
    refine c_x_wave (K + 21) a M _ (x_hasHouse_y B h1 p ⟨by decide, fun q => absurd q (by decide), fun _ => x_clr I (fun M1 X D hA h0 h7 I1 cf => ⟨rfl, hh, ?_⟩)⟩)
    refine c_m_wave (K + 21) a M1 _ (m_isHouse_y I1.1.mb h1 (by rw [I1.1.n, hA 1 (by decide)]; exact p) ⟨by decide, fun _ => m_clrj I1 cf (fun M2 hA2 I2 cf2 j1 j2 j3 j4 j5 => ⟨hh, ?_⟩), fun q => absurd q (by decide)⟩)
    show C (M1 12 a) (M2 60 a) M2
    rw [j3 a hh]
    have b := cf.2.2.2.2.2.2 a hh
    have := cf.2.1
    exact hq _ _ ⟨by omega, by omega⟩ I2
  · refine c_x_wave (K + 21) a M _ (x_hasHouse_n B h1 p ⟨by decide, fun _ => ?_, fun q => absurd rfl q⟩)
    exact c_m_wave (K + 21) a M _ (m_isHouse_n I.1.mb h1 (by rw [hn]; exact p) ⟨by decide, fun q => absurd rfl q, fun _ => hq _ _ (by decide) I⟩)
