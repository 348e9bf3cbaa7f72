theorem b_cause {K : Nat} {a : Int} {M : PM} {C : Int → Int → PM → Prop} (I : Iv M) (h1 : R32 a) (hq : Ok32 C) : Bi (K + 23) jClearingWaves_cause [.inr (.inr 0), .inl a] jModel_cause [.inr (.inr 52), .inl a] M C := by
  have B := I.1.xb
  have hn := I.1.n
  have B1 := B.1
  unfold Bi
  refine c_x_cause (K + 22) a M _ ?_
  by_cases p : 0 ≤ a ∧ a < M 1 0
  · have hh : hs a := ⟨p.1, by omega⟩
    refine c_x_chain (K + 21) a 1 M _ (x_hasHouse_y B h1 p ⟨by decide, fun q => absurd q (by decide), fun _ => ⟨by decide, fun z => absurd z (by decide), fun _ => ⟨fun _ => x_clr I (fun M1 X D hA h0 h7 I1 cf => ⟨rfl, hh, ?_⟩), fun z => absurd (by decide) z⟩⟩⟩)
    have wv := cf.2.2.2.2.2.2 a hh
    have W := cf.2.1
    have en : M1 1 0 = M 1 0 := by rw [hA 1 (by decide)]
    have B' := I1.1.xb
    refine ⟨⟨by omega, by omega⟩, fun z => x_chain B' cf (by decide) (by rw [en]; exact p) ?_, fun z => ?_⟩
    · refine c_m_cause (K + 22) a M1 _ (c_m_refusal (K + 21) a M1 _ (m_isHouse_y I1.1.mb h1 (by rw [I1.1.n, en]; exact p) ⟨by decide, fun _ => m_clrj I1 cf (fun M2 hA2 I2 cf2 j1 j2 j3 j4 j5 => ⟨hh, ?_⟩), fun q => absurd q (by decide)⟩))
      rw [j3 a hh]
      refine ⟨⟨by omega, by omega⟩, fun _ => ⟨by decide, fun _ => ?_, fun q => absurd (by decide) q⟩, fun q => absurd q z⟩
      have eM : cst (cp_g M2) (M2 1 0) X D (M2 12) a = fc M1 X D a := by
        show _ = cst (cp_g M1) (M1 1 0) X D (M1 12) a
        rw [ag_cp hA2, hA2 1 (by decide), hA2 12 (by decide)]
      refine m_causeOf I2 cf2 (by rw [j1, hA2 11 (by decide)]) (fun h hh => by rw [j3 h hh, hA2 12 (by decide)]) j4 hh ?_
      rw [eM]
      show C (it (fc M1 X D) 1 a) (fc M1 X D a) M2
      have e1 : it (fc M1 X D) 1 a = fc M1 X D a := by
        unfold it
        rw [if_neg (by omega)]
        rfl
      rw [e1]
      have := hn_R (by omega) (fc_p (X := X) (D := D) B' a p.1 (by rw [en]; exact p.2))
      exact hq _ _ this.1 I2
    · refine c_m_cause (K + 22) a M1 _ (c_m_refusal (K + 21) a M1 _ (m_isHouse_y I1.1.mb h1 (by rw [I1.1.n, en]; exact p) ⟨by decide, fun _ => m_clrj I1 cf (fun M2 hA2 I2 cf2 j1 j2 j3 j4 j5 => ⟨hh, ?_⟩), fun q => absurd q (by decide)⟩))
      rw [j3 a hh]
      exact ⟨⟨by omega, by omega⟩, fun q => absurd z q, fun _ => ⟨by decide, fun q => absurd q (by decide), fun _ => hq _ _ (by decide) I2⟩⟩
  · refine c_x_chain (K + 21) a 1 M _ (x_hasHouse_n B h1 p ⟨by decide, fun _ => ?_, fun q => absurd rfl q⟩)
    exact c_m_cause (K + 22) a M _ (c_m_refusal (K + 21) a M _ (m_isHouse_n I.1.mb h1 (by rw [hn]; exact p) ⟨by decide, fun q => absurd rfl q, fun _ => ⟨by decide, fun q => absurd q (by decide), fun _ => hq _ _ (by decide) I⟩⟩))
theorem x_root {K : Nat} {a : Int} {M : PM} {X : Int → Int → Int → Int} {D : Int → Int} {Q : Option PV → PM → Prop} (B : XB M) (cf : CF M X D) (ha : 0 ≤ a ∧ a < M 1 0) (hq : Q (some (.inl (rt_ (fc M X D) 5 a))) M) : G none (K + 3 + 1) jClearingWaves_root 35 [(2, .inr (.inr 11)), (3, .inl a), (4, .inl 0)] [] P0 P0 M Q := by
  have B1 := B.1
  have go : ∀ (m : Nat) (i v : Int), 5 - i = (m : Int) → 0 ≤ i → (0 ≤ v ∧ v < M 1 0) → Q (some (.inl (rt_ (fc M X D) m v))) M → G none (K + 3 + 1) jClearingWaves_root 35 [(2, .inr (.inr 11)), (3, .inl v), (4, .inl i)] [] P0 P0 M Q := by
    intro m
    induction m with
    | zero =>
      intro i v hi h0 hv hq
      exact g_x_root_35 _ _ _ _ _ ⟨⟨by omega, by omega⟩, fun _ => hq, fun z => absurd z (by omega)⟩
    | succ m ih =>
      intro i v hi h0 hv hq
      unfold rt_ at hq
      have fp := fc_p (X := X) (D := D) B v hv.1 hv.2
      refine g_x_root_35 _ _ _ _ _ ⟨⟨by omega, by omega⟩, fun z => absurd z (by omega), fun _ => x_causeOf B cf ⟨hv.1, by omega⟩ ⟨(hn_R (by omega) fp).2, fun z => ?_, fun z => ?_⟩⟩
      · by_cases q : fc M X D v < 0
        · rw [sg_n q] at z; exact absurd z (by decide)
        · rw [if_neg q] at hq
          have := ih (i + 1) (fc M X D v) (by omega) (by omega) (by omega) hq
          rw [show sg (cst (cp_g M) (M 1 0) X D (M 12) v) = fc M X D v from sg_y (show 0 ≤ fc M X D v by omega)]
          exact this
      · by_cases q : fc M X D v < 0
        · rw [if_pos q] at hq; exact hq
        · rw [show sg (cst (cp_g M) (M 1 0) X D (M 12) v) = fc M X D v from sg_y (show 0 ≤ fc M X D v by omega)] at z
          omega
  exact go 5 0 a (by omega) (by omega) ha hq
theorem m_rootOf {K : Nat} {a : Int} {M : PM} {X : Int → Int → Int → Int} {D : Int → Int} {Q : Option PV → PM → Prop} (I : Iv M) (cf : CF M X D) (j1 : M 52 9 = M 11 0) (j3 : ∀ h, hs h → M 60 h = M 12 h) (j4 : MA M X D) (ha : 0 ≤ a ∧ a < M 1 0) (hq : Q (some (.inl (rt_ (fc M X D) 5 a))) M) : Call (K + 4 + 1) jModel_rootOf [.inr (.inr 52), .inl a] P0 P0 M Q := by
  have B := I.1.xb
  have B1 := B.1
  have W := cf.2.1
  have go : ∀ (m : Nat) (v : Int), M 12 v ≤ (m : Int) + 1 → (0 ≤ v ∧ v < M 1 0) → Q (some (.inl (rt_ (fc M X D) m v))) M → G none (K + 4 + 1) jModel_rootOf 2 [(0, .inr (.inr 52)), (2, .inl v)] [] P0 P0 M Q := by
    intro m
    induction m with
    | zero =>
      intro v hw hv hq
      have hh : hs v := ⟨hv.1, by omega⟩
      have wv := cf.2.2.2.2.2.2 v hh
      exact g_m_rootOf_2 _ _ _ _ ⟨hh, by rw [j3 v hh]; exact ⟨by omega, by omega⟩, fun _ => hq, fun z => by rw [j3 v hh] at z; omega⟩
    | succ m ih =>
      intro v hw hv hq
      have hh : hs v := ⟨hv.1, by omega⟩
      have wv := cf.2.2.2.2.2.2 v hh
      have c0 : fc M X D v < 0 ↔ M 12 v ≤ 1 := cst_0 cf.1 (by omega) hh
      unfold rt_ at hq
      refine g_m_rootOf_2 _ _ _ _ ⟨hh, by rw [j3 v hh]; exact ⟨by omega, by omega⟩, fun z => ?_, fun z => ?_⟩
      · rw [j3 v hh] at z
        rw [if_pos (c0.mpr z)] at hq
        exact hq
      · rw [j3 v hh] at z
        have nz : ¬ fc M X D v < 0 := fun q => z (c0.mp q)
        rw [if_neg nz] at hq
        have fp : fc M X D v = -5 ∨ (0 ≤ fc M X D v ∧ fc M X D v < M 1 0 ∧ 0 < M 12 (fc M X D v) ∧ M 12 (fc M X D v) < M 12 v) := cst_p (by omega)
        exact m_causeOf I cf j1 j3 j4 hh (ih (fc M X D v) (by omega) (by omega) hq)
  have wv := cf.2.2.2.2.2.2 a ⟨ha.1, by omega⟩
  exact c_m_rootOf _ _ _ _ (go 5 a (by omega) ha hq)
theorem b_root {K : Nat} {a : Int} {M : PM} {C : Int → Int → PM → Prop} (I : Iv M) (h1 : R32 a) (hq : Ok32 C) : Bi (K + 22) jClearingWaves_root [.inr (.inr 0), .inl a] jModel_root [.inr (.inr 52), .inl a] M C := by
  have B := I.1.xb
  have hn := I.1.n
  have B1 := B.1
  unfold Bi
  by_cases p : 0 ≤ a ∧ a < M 1 0
  · have hh : hs a := ⟨p.1, by omega⟩
    refine c_x_root (K + 21) a M _ (x_hasHouse_y B h1 p ⟨by decide, fun _ => x_clr I (fun M1 X D hA h0 h7 I1 cf => ⟨rfl, hh, ?_⟩), fun q => absurd q (by decide)⟩)
    have wv := cf.2.2.2.2.2.2 a hh
    have W := cf.2.1
    have en : M1 1 0 = M 1 0 := by rw [hA 1 (by decide)]
    have B' := I1.1.xb
    refine ⟨⟨by omega, by omega⟩, fun z => x_root B' cf (by rw [en]; exact p) ?_, fun z => ?_⟩
    · refine c_m_root (K + 21) a M1 _ (c_m_refusal (K + 20) a M1 _ (m_isHouse_y I1.1.mb h1 (by rw [I1.1.n, en]; exact p) ⟨by decide, fun _ => m_clrj I1 cf (fun M2 hA2 I2 cf2 j1 j2 j3 j4 j5 => ⟨hh, ?_⟩), fun q => absurd q (by decide)⟩))
      rw [j3 a hh]
      refine ⟨⟨by omega, by omega⟩, fun _ => ⟨by decide, fun _ => ?_, fun q => absurd (by decide) q⟩, fun q => absurd q z⟩
      have eM : fc M2 X D = fc M1 X D := by
        funext h
        show cst (cp_g M2) (M2 1 0) X D (M2 12) h = cst (cp_g M1) (M1 1 0) X D (M1 12) h
        rw [ag_cp hA2, hA2 1 (by decide), hA2 12 (by decide)]
      have e1 : M2 1 0 = M1 1 0 := by rw [hA2 1 (by decide)]
      refine m_rootOf I2 cf2 (by rw [j1, hA2 11 (by decide)]) (fun h hh => by rw [j3 h hh, hA2 12 (by decide)]) j4 (by rw [e1, en]; exact p) ?_
      rw [eM]
      have := rt_p (fc_p (X := X) (D := D) B') 5 a p.1 (by rw [en]; exact p.2)
      exact hq _ _ ⟨by omega, by omega⟩ I2
    · refine c_m_root (K + 21) a M1 _ (c_m_refusal (K + 20) a M1 _ (m_isHouse_y I1.1.mb h1 (by rw [I1.1.n, en]; exact p) ⟨by decide, fun _ => m_clrj I1 cf (fun M2 hA2 I2 cf2 j1 j2 j3 j4 j5 => ⟨hh, ?_⟩), fun q => absurd q (by decide)⟩))
      rw [j3 a hh]
      exact ⟨⟨by omega, by omega⟩, fun q => absurd z q, fun _ => ⟨by decide, fun q => absurd q (by decide), fun _ => hq _ _ (by decide) I2⟩⟩
  · refine c_x_root (K + 21) a M _ (x_hasHouse_n B h1 p ⟨by decide, fun q => absurd rfl q, fun _ => ?_⟩)
    exact c_m_root (K + 21) a M _ (c_m_refusal (K + 20) a M _ (m_isHouse_n I.1.mb h1 (by rw [hn]; exact p) ⟨by decide, fun q => absurd rfl q, fun _ => ⟨by decide, fun q => absurd q (by decide), fun _ => hq _ _ (by decide) I⟩⟩))
/-- how many chains come by a house -/
def pst (wv : Int → Int) (h : Int) : Int := if wv h = 0 then -5 else h
def pul (f wv : Int → Int) (t : Int) : Nat → Int
  | 0 => 0
  | k + 1 => pul f wv t k + pu f t 5 (pst wv (k : Int))
theorem pul_b {f wv : Int → Int} {t : Int} : ∀ k : Nat, 0 ≤ pul f wv t k ∧ pul f wv t k ≤ (k : Int) := by
  intro k
  induction k with
  | zero => unfold pul; omega
  | succ k ih =>
    have := pu_b (f := f) (t := t) 5 (pst wv (k : Int))
    unfold pul
    omega
theorem x_pull {K : Nat} {t c h v : Int} {M : PM} {X : Int → Int → Int → Int} {D : Int → Int} {Q : Option PV → PM → Prop} (B : XB M) (cf : CF M X D) (ht : 0 ≤ t ∧ t < M 1 0) (hv : Hn (M 1 0) v) (hq : G none (K + 3 + 1) jClearingWaves_pulls 23 [(0, .inr (.inr 0)), (1, .inl t), (2, .inr (.inr 11)), (3, .inl (c + pu (fc M X D) t 5 v)), (4, .inl (h + 1))] [] P0 P0 M Q) : G none (K + 3 + 1) jClearingWaves_pulls 56 [(0, .inr (.inr 0)), (1, .inl t), (2, .inr (.inr 11)), (3, .inl c), (4, .inl h), (5, .inl (sg v)), (6, .inl 0)] [] P0 P0 M Q := by
  have B1 := B.1
  have tR : R32 t := ⟨by omega, by omega⟩
  have no : ∀ w : Int, Hn (M 1 0) w → ¬ w = t → ¬ sg w = t := fun w hw z q => by
    rcases hw with e | e
    · rw [e] at q; have : sg (-5) = -1 := by decide
      omega
    · rw [sg_y e.1] at q; exact z q
  have ys : ∀ w : Int, w = t → sg w = t := fun w z => by rw [z]; exact sg_y ht.1
  have e0 : ∀ y : Int, y = 0 → G none (K + 3 + 1) jClearingWaves_pulls 23 [(0, .inr (.inr 0)), (1, .inl t), (2, .inr (.inr 11)), (3, .inl (c + y)), (4, .inl (h + 1))] [] P0 P0 M Q → G none (K + 3 + 1) jClearingWaves_pulls 23 [(0, .inr (.inr 0)), (1, .inl t), (2, .inr (.inr 11)), (3, .inl c), (4, .inl (h + 1))] [] P0 P0 M Q := fun y z g => by rw [z, Int.add_zero] at g; exact g
  have go : ∀ (m : Nat) (i w : Int), 5 - i = (m : Int) → 0 ≤ i → Hn (M 1 0) w → G none (K + 3 + 1) jClearingWaves_pulls 23 [(0, .inr (.inr 0)), (1, .inl t), (2, .inr (.inr 11)), (3, .inl (c + pu (fc M X D) t m w)), (4, .inl (h + 1))] [] P0 P0 M Q → G none (K + 3 + 1) jClearingWaves_pulls 56 [(0, .inr (.inr 0)), (1, .inl t), (2, .inr (.inr 11)), (3, .inl c), (4, .inl h), (5, .inl (sg w)), (6, .inl i)] [] P0 P0 M Q := by
    intro m
    induction m with
    | zero =>
      intro i w hi h0 hw hq
      have R := hn_R (by omega) hw
      unfold pu at hq
      refine g_x_pulls_56 _ _ _ _ _ _ _ _ ⟨⟨by omega, by omega⟩, fun _ => ⟨R.2, tR, fun z => ?_, fun z => ?_⟩, fun z => absurd z (by omega)⟩
      · rw [if_neg (fun q => z (ys w q))] at hq
        exact e0 0 rfl hq
      · have q : w = t := by
          by_cases q : w = t
          · exact q
          · exact absurd z (no w hw q)
        rw [if_pos q] at hq
        exact hq
    | succ m ih =>
      intro i w hi h0 hw hq
      have R := hn_R (by omega) hw
      unfold pu at hq
      refine g_x_pulls_56 _ _ _ _ _ _ _ _ ⟨⟨by omega, by omega⟩, fun z => absurd z (by omega), fun _ => ⟨R.2, fun z => ⟨tR, fun z2 => ?_, fun z2 => by omega⟩, fun z => ⟨tR, fun z2 => ⟨fun z3 => absurd z2 z3, fun _ => ?_⟩, fun z2 => ?_⟩⟩⟩
      · have q : w < 0 := by
          rcases hw with e | e
          · omega
          · rw [sg_y e.1] at z; omega
        rw [if_pos q] at hq
        exact e0 0 rfl hq
      · have q : ¬ w < 0 := fun q => by rw [sg_n q] at z; exact z (by decide)
        rw [sg_y (by omega)] at z2
        rw [if_neg q, if_pos z2] at hq
        exact hq
      · have q : ¬ w < 0 := fun q => by rw [sg_n q] at z; exact z (by decide)
        rw [sg_y (by omega)] at z2 ⊢
        rw [if_neg q, if_neg z2] at hq
        have w1 : 0 ≤ w ∧ w < M 1 0 := by omega
        exact x_causeOf B cf ⟨w1.1, by omega⟩ (ih (i + 1) _ (by omega) (by omega) (fc_p B w w1.1 w1.2) hq)
  exact go 5 0 v (by omega) (by omega) hv hq
theorem m_pull {K : Nat} {t c h v : Int} {M : PM} {X : Int → Int → Int → Int} {D : Int → Int} {Q : Option PV → PM → Prop} (I : Iv M) (cf : CF M X D) (j1 : M 52 9 = M 11 0) (j3 : ∀ h, hs h → M 60 h = M 12 h) (j4 : MA M X D) (ht : 0 ≤ t ∧ t < M 1 0) (hv : Hn (M 1 0) v) (hq : G none (K + 4 + 1) jModel_pulls 18 [(0, .inr (.inr 52)), (1, .inl t), (2, .inl (c + pu (fc M X D) t 5 v)), (3, .inl (h + 1))] [] P0 P0 M Q) : (0 ≤ v → 1 ≤ M 12 v) → G none (K + 4 + 1) jModel_pulls 45 [(0, .inr (.inr 52)), (1, .inl t), (2, .inl c), (3, .inl h), (4, .inl v)] [] P0 P0 M Q := by
  have B := I.1.xb
  have B1 := B.1
  have W := cf.2.1
  have tR : R32 t := ⟨by omega, by omega⟩
  intro v1
  have go : ∀ (m : Nat) (w : Int), Hn (M 1 0) w → (0 ≤ w → 1 ≤ M 12 w ∧ M 12 w ≤ (m : Int)) → G none (K + 4 + 1) jModel_pulls 18 [(0, .inr (.inr 52)), (1, .inl t), (2, .inl (c + pu (fc M X D) t m w)), (3, .inl (h + 1))] [] P0 P0 M Q → G none (K + 4 + 1) jModel_pulls 45 [(0, .inr (.inr 52)), (1, .inl t), (2, .inl c), (3, .inl h), (4, .inl w)] [] P0 P0 M Q := by
    intro m
    induction m with
    | zero =>
      intro w hw w1 hq
      have R := hn_R (by omega) hw
      have q : w < 0 := by
        by_cases q : w < 0
        · exact q
        · have := w1 (by omega); omega
      unfold pu at hq
      rw [if_neg (by omega)] at hq
      exact g_m_pulls_45 _ _ _ _ _ _ _ ⟨R.1, fun z => ⟨tR, fun z2 => hq, fun z2 => absurd z2 (by omega)⟩, fun z => absurd q z⟩
    | succ m ih =>
      intro w hw w1 hq
      have R := hn_R (by omega) hw
      unfold pu at hq
      refine g_m_pulls_45 _ _ _ _ _ _ _ ⟨R.1, fun z => ⟨tR, fun z2 => ?_, fun z2 => absurd z2 (by omega)⟩, fun z => ⟨tR, fun z2 => ⟨fun z3 => absurd z2 z3, fun _ => ?_⟩, fun z2 => ?_⟩⟩
      · rw [if_pos z] at hq; exact hq
      · rw [if_neg z, if_pos z2] at hq; exact hq
      · rw [if_neg z, if_neg z2] at hq
        have b : 0 ≤ w ∧ w < M 1 0 := by omega
        have fp : fc M X D w = -5 ∨ (0 ≤ fc M X D w ∧ fc M X D w < M 1 0 ∧ 0 < M 12 (fc M X D w) ∧ M 12 (fc M X D w) < M 12 w) := cst_p (by omega)
        have w2 := w1 b.1
        exact m_causeOf I cf j1 j3 j4 ⟨b.1, by omega⟩ (ih (fc M X D w) (fc_p B w b.1 b.2) (fun _ => by omega) hq)
  refine go 5 v hv (fun v0 => ⟨v1 v0, ?_⟩) hq
  have := cf.2.2.2.2.2.2 v ⟨v0, by omega⟩
  omega
theorem pst_p {M : PM} {k : Int} (h0 : 0 ≤ k) (h1 : k < M 1 0) : Hn (M 1 0) (pst (M 12) k) := by
  unfold pst
  split
  · exact Or.inl rfl
  · exact Or.inr ⟨h0, h1⟩
theorem x_pulls {K : Nat} {t : Int} {M : PM} {X : Int → Int → Int → Int} {D : Int → Int} {Q : Option PV → PM → Prop} (B : XB M) (cf : CF M X D) (ht : 0 ≤ t ∧ t < M 1 0) (hq : Q (some (.inl (pul (fc M X D) (M 12) t (M 1 0).toNat))) M) : G none (K + 3 + 1) jClearingWaves_pulls 23 [(0, .inr (.inr 0)), (1, .inl t), (2, .inr (.inr 11)), (3, .inl 0), (4, .inl 0)] [] P0 P0 M Q := by
  have B1 := B.1
  have W := cf.2.1
  have go : ∀ (m : Nat) (k : Nat), M 1 0 - (k : Int) = (m : Int) → G none (K + 3 + 1) jClearingWaves_pulls 23 [(0, .inr (.inr 0)), (1, .inl t), (2, .inr (.inr 11)), (3, .inl (pul (fc M X D) (M 12) t k)), (4, .inl (k : Int))] [] P0 P0 M Q := by
    intro m
    induction m with
    | zero =>
      intro k hk
      refine g_x_pulls_23 _ _ _ _ _ _ ⟨⟨by omega, by omega⟩, ⟨by omega, by omega⟩, fun _ => ?_, fun z => absurd z (by omega)⟩
      rw [show (M 1 0).toNat = k by omega] at hq
      exact hq
    | succ m ih =>
      intro k hk
      have kh : hs (k : Int) := ⟨by omega, by omega⟩
      have wk := cf.2.2.2.2.2.2 (k : Int) kh
      have nx := ih (k + 1) (by omega)
      rw [show ((k + 1 : Nat) : Int) = (k : Int) + 1 by omega] at nx
      have pp := pst_p (M := M) (k := (k : Int)) (by omega) (by omega)
      refine g_x_pulls_23 _ _ _ _ _ _ ⟨⟨by omega, by omega⟩, ⟨by omega, by omega⟩, fun z => absurd z (by omega), fun _ => ⟨kh, ⟨by omega, by omega⟩, fun z => ?_, fun z => ?_⟩⟩
      · have := x_pull (K := K) (c := pul (fc M X D) (M 12) t k) (h := (k : Int)) (Q := Q) B cf ht pp nx
        rw [show sg (pst (M 12) (k : Int)) = (k : Int) by unfold pst; rw [if_neg z]; exact sg_y (by omega)] at this
        exact this
      · have := x_pull (K := K) (c := pul (fc M X D) (M 12) t k) (h := (k : Int)) (Q := Q) B cf ht pp nx
        rw [show sg (pst (M 12) (k : Int)) = -1 by unfold pst; rw [if_pos z]; rfl] at this
        exact this
  exact go (M 1 0).toNat 0 (by omega)
theorem m_pulls {K : Nat} {t : Int} {M : PM} {X : Int → Int → Int → Int} {D : Int → Int} {Q : Option PV → PM → Prop} (I : Iv M) (cf : CF M X D) (j1 : M 52 9 = M 11 0) (j3 : ∀ h, hs h → M 60 h = M 12 h) (j4 : MA M X D) (ht : 0 ≤ t ∧ t < M 1 0) (hq : Q (some (.inl (pul (fc M X D) (M 12) t (M 1 0).toNat))) M) : G none (K + 4 + 1) jModel_pulls 18 [(0, .inr (.inr 52)), (1, .inl t), (2, .inl 0), (3, .inl 0)] [] P0 P0 M Q := by
  have B := I.1.xb
  have B1 := B.1
  have W := cf.2.1
  have en : M 55 0 = M 1 0 := I.1.n
  have go : ∀ (m : Nat) (k : Nat), M 1 0 - (k : Int) = (m : Int) → G none (K + 4 + 1) jModel_pulls 18 [(0, .inr (.inr 52)), (1, .inl t), (2, .inl (pul (fc M X D) (M 12) t k)), (3, .inl (k : Int))] [] P0 P0 M Q := by
    intro m
    induction m with
    | zero =>
      intro k hk
      refine g_m_pulls_18 _ _ _ _ _ _ ⟨⟨by omega, by omega⟩, ⟨by omega, by omega⟩, fun _ => ?_, fun z => absurd z (by omega)⟩
      rw [show (M 1 0).toNat = k by omega] at hq
      exact hq
    | succ m ih =>
      intro k hk
      have kh : hs (k : Int) := ⟨by omega, by omega⟩
      have wk := cf.2.2.2.2.2.2 (k : Int) kh
      have nx := ih (k + 1) (by omega)
      rw [show ((k + 1 : Nat) : Int) = (k : Int) + 1 by omega] at nx
      have pp := pst_p (M := M) (k := (k : Int)) (by omega) (by omega)
      refine g_m_pulls_18 _ _ _ _ _ _ ⟨⟨by omega, by omega⟩, ⟨by omega, by omega⟩, fun z => absurd z (by omega), fun _ => ⟨kh, by rw [j3 _ kh]; exact ⟨by omega, by omega⟩, fun z => ?_, fun z => ?_⟩⟩
      · rw [j3 _ kh] at z
        have e : pst (M 12) (k : Int) = -5 := by unfold pst; rw [if_pos (by omega)]
        have := m_pull (K := K) (c := pul (fc M X D) (M 12) t k) (h := (k : Int)) (Q := Q) I cf j1 j3 j4 ht pp nx (fun q => by rw [e] at q; omega)
        rw [e] at this
        exact this
      · rw [j3 _ kh] at z
        have e : pst (M 12) (k : Int) = (k : Int) := by unfold pst; rw [if_neg (by omega)]
        have := m_pull (K := K) (c := pul (fc M X D) (M 12) t k) (h := (k : Int)) (Q := Q) I cf j1 j3 j4 ht pp nx (fun q => by rw [e]; omega)
        rw [e] at this
        exact this
  exact go (M 1 0).toNat 0 (by omega)
theorem b_pulls {K : Nat} {a : Int} {M : PM} {C : Int → Int → PM → Prop} (I : Iv M) (h1 : R32 a) (hq : Ok32 C) : Bi (K + 22) jClearingWaves_pulls [.inr (.inr 0), .inl a] jModel_pulls [.inr (.inr 52), .inl a] M C := by
  have B := I.1.xb
  have hn := I.1.n
  have B1 := B.1
  unfold Bi
  by_cases p : 0 ≤ a ∧ a < M 1 0
  · refine c_x_pulls (K + 21) a M _ (x_hasHouse_y B h1 p ⟨by decide, fun _ => x_clr I (fun M1 X D hA h0 h7 I1 cf => ⟨rfl, ?_⟩), fun q => absurd q (by decide)⟩)
    have en : M1 1 0 = M 1 0 := by rw [hA 1 (by decide)]
    have B' := I1.1.xb
    refine x_pulls B' cf (by rw [en]; exact p) ?_
    refine c_m_pulls (K + 21) a M1 _ (m_isHouse_y I1.1.mb h1 (by rw [I1.1.n, en]; exact p) ⟨by decide, fun _ => m_clrj I1 cf (fun M2 hA2 I2 cf2 j1 j2 j3 j4 j5 => ?_), fun q => absurd q (by decide)⟩)
    have eM : fc M2 X D = fc M1 X D := by
      funext h
      show cst (cp_g M2) (M2 1 0) X D (M2 12) h = cst (cp_g M1) (M1 1 0) X D (M1 12) h
      rw [ag_cp hA2, hA2 1 (by decide), hA2 12 (by decide)]
    have e1 : M2 1 = M1 1 := hA2 1 (by decide)
    refine m_pulls I2 cf2 (by rw [j1, hA2 11 (by decide)]) (fun h hh => by rw [j3 h hh, hA2 12 (by decide)]) j4 (by rw [e1, en]; exact p) ?_
    rw [eM, hA2 12 (by decide), e1]
    have := pul_b (f := fc M1 X D) (wv := M1 12) (t := a) (M1 1 0).toNat
    exact hq _ _ ⟨by omega, by omega⟩ I2
  · refine c_x_pulls (K + 21) a M _ (x_hasHouse_n B h1 p ⟨by decide, fun q => absurd rfl q, fun _ => ?_⟩)
    exact c_m_pulls (K + 21) a M _ (m_isHouse_n I.1.mb h1 (by rw [hn]; exact p) ⟨by decide, fun q => absurd rfl q, fun _ => hq _ _ (by decide) I⟩)
