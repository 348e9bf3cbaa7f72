/-- the causes of causes -/
def it (f : Int → Int) : Nat → Int → Int
  | 0, a => a
  | k + 1, a => if a < 0 then a else it f k (f a)
def rt_ (f : Int → Int) : Nat → Int → Int
  | 0, a => a
  | k + 1, a => if f a < 0 then a else rt_ f k (f a)
def pu (f : Int → Int) (t : Int) : Nat → Int → Int
  | 0, a => if a = t then 1 else 0
  | k + 1, a => if a < 0 then 0 else if a = t then 1 else pu f t k (f a)
theorem pu_b {f : Int → Int} {t : Int} : ∀ (k : Nat) (a : Int), 0 ≤ pu f t k a ∧ pu f t k a ≤ 1 := by
  intro k
  induction k with
  | zero => intro a; unfold pu; split <;> decide
  | succ k ih =>
    intro a
    unfold pu
    split
    · decide
    · split
      · decide
      · exact ih _
/-- a house, or none -/
abbrev Hn (n a : Int) : Prop := a = -5 ∨ (0 ≤ a ∧ a < n)
theorem it_p {f : Int → Int} {n : Int} (hf : ∀ a, 0 ≤ a → a < n → Hn n (f a)) : ∀ (k : Nat) (a : Int), Hn n a → Hn n (it f k a) := by
  intro k
  induction k with
  | zero => intro a h; exact h
  | succ k ih =>
    intro a h
    unfold it
    split
    · exact h
    · exact ih _ (hf a (by omega) (by omega))
theorem rt_p {f : Int → Int} {n : Int} (hf : ∀ a, 0 ≤ a → a < n → Hn n (f a)) : ∀ (k : Nat) (a : Int), 0 ≤ a → a < n → 0 ≤ rt_ f k a ∧ rt_ f k a < n := by
  intro k
  induction k with
  | zero => intro a h0 h1; exact ⟨h0, h1⟩
  | succ k ih =>
    intro a h0 h1
    have := hf a h0 h1
    unfold rt_
    split
    · exact ⟨h0, h1⟩
    · exact ih _ (by omega) (by omega)
abbrev fc (M : PM) (X : Int → Int → Int → Int) (D : Int → Int) (h : Int) : Int := cst (cp_g M) (M 1 0) X D (M 12) h
theorem fc_p {M : PM} {X : Int → Int → Int → Int} {D : Int → Int} (B : XB M) : ∀ a, 0 ≤ a → a < M 1 0 → Hn (M 1 0) (fc M X D a) := fun a h0 h1 => by
  rcases cst_p (g := cp_g M) (n := M 1 0) (X := X) (D := D) (wv := M 12) (h := a) (by omega) with q | q
  · exact Or.inl q
  · exact Or.inr ⟨q.1, q.2.1⟩
theorem sg_y {a : Int} (h : 0 ≤ a) : sg a = a := by unfold sg; rw [if_neg (by omega)]
theorem sg_n {a : Int} (h : a < 0) : sg a = -1 := by unfold sg; rw [if_pos h]
theorem hn_R {n a : Int} (hn : n ≤ 5) (h : Hn n a) : R32 a ∧ R32 (sg a) := by
  rcases h with z | z
  · rw [z]; decide
  · rw [sg_y z.1]; exact ⟨⟨by omega, by omega⟩, ⟨by omega, by omega⟩⟩
theorem x_chain {K : Nat} {n a : Int} {M : PM} {X : Int → Int → Int → Int} {D : Int → Int} {Q : Option PV → PM → Prop} (B : XB M) (cf : CF M X D) (hn : 0 ≤ n ∧ n ≤ 4) (ha : 0 ≤ a ∧ a < M 1 0) (hq : Q (some (.inl (it (fc M X D) n.toNat a))) M) : G none (K + 3 + 1) jClearingWaves_chain 45 [(2, .inl n), (3, .inr (.inr 11)), (4, .inl a), (5, .inl 0)] [] P0 P0 M Q := by
  have B1 := B.1
  have go : ∀ (m : Nat) (i v : Int), n - i = (m : Int) → 0 ≤ i → Hn (M 1 0) v → Q (some (.inl (it (fc M X D) m v))) M → G none (K + 3 + 1) jClearingWaves_chain 45 [(2, .inl n), (3, .inr (.inr 11)), (4, .inl (sg v)), (5, .inl i)] [] P0 P0 M Q := by
    intro m
    induction m with
    | zero =>
      intro i v hi h0 hv hq
      have R := hn_R (by omega) hv
      refine g_x_chain_45 _ _ _ _ _ _ ⟨⟨by omega, by omega⟩, ⟨by omega, by omega⟩, fun _ => ⟨R.2, fun z => ?_, fun z => ?_⟩, fun z => absurd z (by omega)⟩
      · have : v = -5 := by
          rcases hv with q | q
          · exact q
          · rw [sg_y q.1] at z; omega
        rw [this] at hq
        exact hq
      · rcases hv with q | q
        · rw [q] at z; exact absurd (by decide) z
        · rw [sg_y q.1]; exact hq
    | succ m ih =>
      intro i v hi h0 hv hq
      have R := hn_R (by omega) hv
      unfold it at hq
      refine g_x_chain_45 _ _ _ _ _ _ ⟨⟨by omega, by omega⟩, ⟨by omega, by omega⟩, fun z => absurd z (by omega), fun _ => ⟨R.2, fun z => ⟨fun _ => ?_, fun z2 => absurd z z2⟩, fun z => ?_⟩⟩
      · have : v = -5 := by
          rcases hv with q | q
          · exact q
          · rw [sg_y q.1] at z; omega
        rw [this] at hq
        exact hq
      · rcases hv with q | q
        · rw [q] at z; exact absurd (by decide) z
        · rw [sg_y q.1]
          rw [if_neg (by omega)] at hq
          exact x_causeOf B cf ⟨q.1, by omega⟩ (ih (i + 1) _ (by omega) (by omega) (fc_p B v q.1 q.2) hq)
  have := go n.toNat 0 a (by omega) (by omega) (Or.inr ha) hq
  rw [sg_y ha.1] at this
  exact this
theorem m_chain {K : Nat} {n a : Int} {M : PM} {X : Int → Int → Int → Int} {D : Int → Int} {Q : Option PV → PM → Prop} (I : Iv M) (cf : CF M X D) (j1 : M 52 9 = M 11 0) (j3 : ∀ h, hs h → M 60 h = M 12 h) (j4 : MA M X D) (hn : 0 ≤ n ∧ n ≤ 4) (ha : 0 ≤ a ∧ a < M 1 0) (hq : Q (some (.inl (it (fc M X D) n.toNat a))) M) : G none (K + 4 + 1) jModel_chain 32 [(0, .inr (.inr 52)), (2, .inl n), (4, .inl a), (5, .inl 0)] [] P0 P0 M Q := by
  have B := I.1.xb
  have B1 := B.1
  have go : ∀ (m : Nat) (i v : Int), n - i = (m : Int) → 0 ≤ i → Hn (M 1 0) v → Q (some (.inl (it (fc M X D) m v))) M → G none (K + 4 + 1) jModel_chain 32 [(0, .inr (.inr 52)), (2, .inl n), (4, .inl v), (5, .inl i)] [] P0 P0 M Q := by
    intro m
    induction m with
    | zero =>
      intro i v hi h0 hv hq
      exact g_m_chain_32 _ _ _ _ _ _ ⟨⟨by omega, by omega⟩, ⟨by omega, by omega⟩, fun _ => hq, fun z => absurd z (by omega)⟩
    | succ m ih =>
      intro i v hi h0 hv hq
      have R := hn_R (by omega) hv
      unfold it at hq
      refine g_m_chain_32 _ _ _ _ _ _ ⟨⟨by omega, by omega⟩, ⟨by omega, by omega⟩, fun z => absurd z (by omega), fun _ => ⟨R.1, fun z => ?_, fun z => ?_⟩⟩
      · rw [if_pos z] at hq; exact hq
      · rw [if_neg z] at hq
        have q : 0 ≤ v ∧ v < M 1 0 := by omega
        exact m_causeOf I cf j1 j3 j4 ⟨q.1, by omega⟩ (ih (i + 1) _ (by omega) (by omega) (fc_p B v q.1 q.2) hq)
  exact go n.toNat 0 a (by omega) (by omega) (Or.inr ha) hq
theorem b_chain {K : Nat} {a b : Int} {M : PM} {C : Int → Int → PM → Prop} (I : Iv M) (h1 : R32 a) (h2 : R32 b) (hq : Ok32 C) : Bi (K + 22) jClearingWaves_chain [.inr (.inr 0), .inl a, .inl b] jModel_chain [.inr (.inr 52), .inl a, .inl b] M C := by
  have B := I.1.xb
  have hn := I.1.n
  have B1 := B.1
  unfold Bi
  by_cases pb : 0 ≤ b ∧ b ≤ 4
  · by_cases p : 0 ≤ a ∧ a < M 1 0
    · have hh : hs a := ⟨p.1, by omega⟩
      refine c_x_chain (K + 21) a b M _ (x_hasHouse_y B h1 p ⟨by decide, fun q => absurd q (by decide), fun _ => ⟨h2, fun z => absurd z (by omega), fun _ => ⟨fun _ => x_clr I (fun M1 X D hA h0 h7 I1 cf => ⟨rfl, hh, ?_⟩), fun z => absurd z (by omega)⟩⟩⟩)
      have wv := cf.2.2.2.2.2.2 a hh
      have W := cf.2.1
      have en : M1 1 0 = M 1 0 := by rw [hA 1 (by decide)]
      have B' := I1.1.xb
      have B1' := B'.1
      have mid : ∀ (C' : Option PV → PM → Prop), (∀ M2, Ag [52, 58, 59, 60, 61, 62, 63, 64, 65, 66] M1 M2 → Iv M2 → CF M2 X D → M2 52 9 = M1 11 0 → (∀ h, hs h → M2 60 h = M1 12 h) → MA M2 X D → R32 (M2 60 a) ∧ (¬ M2 60 a = 0 → R32 0 ∧ (0 ≤ (0 : Int) → G none (K + 21 + 1) jModel_chain 32 [(0, .inr (.inr 52)), (2, .inl b), (4, .inl a), (5, .inl 0)] [] P0 P0 M2 C') ∧ (¬ 0 ≤ (0 : Int) → C' (some (.inl 0)) M2)) ∧ (M2 60 a = 0 → R32 (-3) ∧ (0 ≤ (-3 : Int) → G none (K + 21 + 1) jModel_chain 32 [(0, .inr (.inr 52)), (2, .inl b), (4, .inl a), (5, .inl 0)] [] P0 P0 M2 C') ∧ (¬ 0 ≤ (-3 : Int) → C' (some (.inl (-3))) M2))) → Call (K + 21 + 1) jModel_chain [.inr (.inr 52), .inl a, .inl b] P0 P0 M1 C' := fun C' go => by
        refine c_m_chain (K + 21) a b M1 _ ⟨h2, m_within_y h2.R64 (by decide) (by decide) pb ⟨by decide, fun _ => c_m_refusal (K + 20) a M1 _ (m_isHouse_y I1.1.mb h1 (by rw [I1.1.n, en]; exact p) ⟨by decide, fun _ => m_clrj I1 cf (fun M2 hA2 I2 cf2 j1 j2 j3 j4 j5 => ⟨hh, ?_⟩), fun q => absurd q (by decide)⟩), fun q => absurd q (by decide)⟩⟩
        have g := go M2 hA2 I2 cf2 j1 j3 j4
        exact ⟨g.1, g.2.1, g.2.2⟩
      refine ⟨⟨by omega, by omega⟩, fun z => x_chain B' cf pb (by rw [en]; exact p) ?_, fun z => ?_⟩
      · refine mid _ (fun M2 hA2 I2 cf2 j1 j3 j4 => ?_)
        rw [j3 a hh]
        refine ⟨⟨by omega, by omega⟩, fun _ => ⟨by decide, fun _ => ?_, fun q => absurd (by decide) q⟩, fun q => absurd q z⟩
        have eM : fc M2 X D = fc M1 X D := by
          funext h
          show cst (cp_g M2) (M2 1 0) X D (M2 12) h = cst (cp_g M1) (M1 1 0) X D (M1 12) h
          rw [ag_cp hA2, hA2 1 (by decide), hA2 12 (by decide)]
        have e1 : M2 1 0 = M1 1 0 := by rw [hA2 1 (by decide)]
        refine m_chain I2 cf2 (by rw [j1, hA2 11 (by decide)]) (fun h hh => by rw [j3 h hh, hA2 12 (by decide)]) j4 pb (by rw [e1, en]; exact p) ?_
        rw [eM]
        have := hn_R (by omega) (it_p (fc_p (X := X) (D := D) B') b.toNat a (Or.inr (by rw [en]; exact p)))
        exact hq _ _ this.1 I2
      · refine mid _ (fun M2 hA2 I2 cf2 j1 j3 j4 => ?_)
        rw [j3 a hh]
        exact ⟨⟨by omega, by omega⟩, fun q => absurd z q, fun _ => ⟨by decide, fun q => absurd q (by decide), fun _ => hq _ _ (by decide) I2⟩⟩
    · refine c_x_chain (K + 21) a b M _ (x_hasHouse_n B h1 p ⟨by decide, fun _ => ?_, fun q => absurd rfl q⟩)
      exact c_m_chain (K + 21) a b M _ ⟨h2, m_within_y h2.R64 (by decide) (by decide) pb ⟨by decide, fun _ => c_m_refusal (K + 20) a M _ (m_isHouse_n I.1.mb h1 (by rw [hn]; exact p) ⟨by decide, fun q => absurd rfl q, fun _ => ⟨by decide, fun q => absurd q (by decide), fun _ => hq _ _ (by decide) I⟩⟩), fun q => absurd q (by decide)⟩⟩
  · have fin : ∀ M', Iv M' → Call (K + 21 + 1) jModel_chain [.inr (.inr 52), .inl a, .inl b] P0 P0 M' (retI fun r2 M2 => C (-1) r2 M2) := fun M' I' => c_m_chain (K + 21) a b M' _ ⟨h2, m_within_n h2.R64 (by decide) (by decide) pb ⟨by decide, fun q => absurd rfl q, fun _ => hq _ _ (by decide) I'⟩⟩
    refine c_x_chain (K + 21) a b M _ ?_
    by_cases p : 0 ≤ a ∧ a < M 1 0
    · exact x_hasHouse_y B h1 p ⟨by decide, fun q => absurd q (by decide), fun _ => ⟨h2, fun z => fin _ I, fun z => ⟨fun z2 => absurd ⟨by omega, by omega⟩ pb, fun _ => fin _ I⟩⟩⟩
    · exact x_hasHouse_n B h1 p ⟨by decide, fun _ => fin _ I, fun q => absurd rfl q⟩
