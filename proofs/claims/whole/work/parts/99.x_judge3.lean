/-! JUDGE -/
def FRc (m B : Int) (V : Int → Int) : Prop := ∀ k, 0 ≤ k → k < m → 0 ≤ V k ∧ V k ≤ B
def FRb (B : Int) : Prop := 1 ≤ B ∧ B ≤ 1000000000000000
theorem x_areFractions {K : Nat} {m B : Int} {V : Int → Int} {M : PM} {Q : Option PV → PM → Prop} (h43 : M 43 0 = B) (hBR : R64 B) (hm : 0 ≤ m ∧ m ≤ 15) (hV : ∀ k, 0 ≤ k → k < m → M 44 k = V k ∧ R64 (V k)) (hy : FRb B → FRc m B V → Q (some (.inl 1)) M) (hn : ¬ (FRb B ∧ FRc m B V) → Q (some (.inl 0)) M) : Call (K + 1) jTold_areFractions [.inr (.inr 43), .inl m] P0 P0 M Q := by
  have loop : FRb B → ∀ (x : Nat) (k : Int), k + (x : Int) = m → 0 ≤ k → (∀ j, 0 ≤ j → j < k → 0 ≤ V j ∧ V j ≤ B) → G none (K + 1) jTold_areFractions 24 [(0, .inr (.inr 43)), (1, .inl m), (2, .inl k)] [] P0 P0 M Q := by
    intro fb x
    induction x with
    | zero =>
      intro k hk k0 ok
      exact g_to_areFractions_24 _ _ _ _ _ ⟨⟨by omega, by omega⟩, ⟨by omega, by omega⟩, fun _ => hy fb (fun j j0 j1 => ok j j0 (by omega)), fun q => absurd (by omega) q⟩
    | succ x ih =>
      intro k hk k0 ok
      have v := hV k k0 (by omega)
      refine g_to_areFractions_24 _ _ _ _ _ ⟨⟨by omega, by omega⟩, ⟨by omega, by omega⟩, fun q => absurd q (by omega), fun _ => ⟨⟨by omega, by omega⟩, by rw [v.1]; exact v.2, fun q => hn fun z => ?_, fun q => ⟨by rw [h43]; exact hBR, fun q2 => ih (k + 1) (by omega) (by omega) (fun j j0 j1 => ?_), fun q2 => hn fun z => ?_⟩⟩⟩
      · rw [v.1] at q
        have := (z.2 k k0 (by omega)).1
        omega
      · rw [v.1] at q q2
        rw [h43] at q2
        by_cases e : j = k
        · rw [e]; exact ⟨by omega, q2⟩
        · exact ok j j0 (by omega)
      · rw [v.1, h43] at q2
        exact q2 (z.2 k k0 (by omega)).2
  refine c_to_areFractions K m M Q ⟨by rw [h43]; exact hBR, fun q => hn fun z => ?_, fun q => ⟨fun q2 => ?_, fun q2 => hn fun z => ?_⟩⟩
  · rw [h43] at q
    have := z.1.1
    omega
  · rw [h43] at q q2
    exact loop ⟨by omega, q2⟩ m.toNat 0 (by omega) (by decide) (fun j j0 j1 => by omega)
  · rw [h43] at q2
    exact q2 z.1.2
theorem m_frac {K : Nat} {m B l4 : Int} {V : Int → Int} {M : PM} {Q : Option PV → PM → Prop} (hBR : R64 B) (hm : 0 ≤ m ∧ m ≤ 15) (hl : 0 ≤ l4 ∧ l4 + m < 80) (hV : ∀ k, 0 ≤ k → k < m → M 72 (l4 + k) = V k ∧ R64 (V k)) (hy : FRc m B V → G none (K + 1 + 1) jModel_judge 105 [(0, .inr (.inr 52)), (4, .inl l4), (7, .inl 0)] [] P0 P0 M Q) (hn : ¬ FRc m B V → Q (some (.inl (-2))) M) : G none (K + 1 + 1) jModel_judge 68 [(0, .inr (.inr 52)), (3, .inl m), (4, .inl l4), (5, .inr (.inl B)), (7, .inl 0)] [] P0 P0 M Q := by
  have loop : ∀ (x : Nat) (k : Int), k + (x : Int) = m → 0 ≤ k → (∀ j, 0 ≤ j → j < k → 0 ≤ V j ∧ V j ≤ B) → G none (K + 1 + 1) jModel_judge 68 [(0, .inr (.inr 52)), (3, .inl m), (4, .inl l4), (5, .inr (.inl B)), (7, .inl k)] [] P0 P0 M Q := by
    intro x
    induction x with
    | zero =>
      intro k hk k0 ok
      exact g_m_judge_68 _ _ _ _ _ _ _ ⟨⟨by omega, by omega⟩, ⟨by omega, by omega⟩, fun _ => hy (fun j j0 j1 => ok j j0 (by omega)), fun q => absurd (by omega) q⟩
    | succ x ih =>
      intro k hk k0 ok
      have v := hV k k0 (by omega)
      refine g_m_judge_68 _ _ _ _ _ _ _ ⟨⟨by omega, by omega⟩, ⟨by omega, by omega⟩, fun q => absurd q (by omega), fun _ => ⟨⟨by omega, by omega⟩, ?_⟩⟩
      rw [v.1]
      by_cases z : 0 ≤ V k ∧ V k ≤ B
      · refine m_within_y v.2 (by decide) hBR z ⟨by decide, fun _ => ih (k + 1) (by omega) (by omega) (fun j j0 j1 => ?_), fun q => absurd q (by decide)⟩
        by_cases e : j = k
        · rw [e]; exact z
        · exact ok j j0 (by omega)
      · exact m_within_n v.2 (by decide) hBR z ⟨by decide, fun q => absurd rfl q, fun _ => hn fun y => z (y k k0 (by omega))⟩
  exact loop m.toNat 0 (by omega) (by decide) (fun j j0 j1 => by omega)
theorem x_areThose {K : Nat} {n B DD : Int} {T X : Int → Int → Int} {M : PM} {Q : Option PV → PM → Prop} (hn5 : 2 ≤ n ∧ n ≤ 5) (h43 : M 43 0 = B) (hB : FRb B) (hW : 0 ≤ M 11 0 ∧ M 11 0 ≤ 5) (hD : M 14 (M 11 0) = DD) (hDP : 0 < DD ∧ DD ≤ 327680000000000) (hX : ∀ h c, hs h → kl c → cp_X M (M 11 0) h c = X h c ∧ 0 ≤ X h c ∧ X h c ≤ DD) (hT : ∀ k c, hs k → k < n → kl c → M 44 ((k * 3) + c) = T k c) (hTb : ∀ k c, hs k → kl c → 0 ≤ T k c ∧ T k c ≤ B) (hy : THO n B DD T X → Q (some (.inl 1)) M) (hno : ¬ THO n B DD T X → Q (some (.inl 0)) M) : Call (K + 2) jTold_areThose [.inr (.inr 43), .inr (.inr 11), .inl (3 * n)] P0 P0 M Q := by
  have B1 := hB.1
  have B2 := hB.2
  have q0 : 0 ≤ Int.tdiv B DD := td_nn (by omega) hDP.1
  have qe := Int.mul_tdiv_add_tmod B DD
  have tmb := tm_b (a := B) (b := DD) (by omega) hDP.1
  have loop : Int.tmod B DD = 0 → ∀ (x : Nat) (k : Int), k + (x : Int) = 3 * n → 0 ≤ k → (∀ h c, hs h → kl c → 3 * h + c < k → T h c = X h c * Int.tdiv B DD) → G none (K + 1 + 1) jTold_areThose 31 [(0, .inr (.inr 43)), (1, .inr (.inr 11)), (2, .inl (3 * n)), (3, .inr (.inl DD)), (5, .inl k)] [] P0 P0 M Q := by
    intro z0 x
    induction x with
    | zero =>
      intro k hk k0 ok
      exact g_to_areThose_31 _ _ _ _ _ _ ⟨⟨by omega, by omega⟩, ⟨by omega, by omega⟩, fun _ => hy ⟨z0, fun h c hh hl hc => ok h c hh hc (by omega)⟩, fun q => absurd (by omega) q⟩
    | succ x ih =>
      intro k hk k0 ok
      have ed : Int.tdiv k 3 = k / 3 := td_ed k0
      have em : Int.tmod k 3 = k % 3 := Int.tmod_eq_emod_of_nonneg k0
      have hh : hs (k / 3) := ⟨by omega, by omega⟩
      have hc : kl (k % 3) := ⟨by omega, by omega⟩
      have x1 := hX _ _ hh hc
      have t1 := hT _ _ hh (by omega) hc
      have t2 := hTb _ _ hh hc
      rw [show (k / 3) * 3 + k % 3 = k by omega] at t1
      have xb : 0 ≤ X (k / 3) (k % 3) * Int.tdiv B DD ∧ X (k / 3) (k % 3) * Int.tdiv B DD ≤ B := ⟨Int.mul_nonneg x1.2.1 q0, by
        have := Int.mul_le_mul_of_nonneg_right x1.2.2 q0
        omega⟩
      refine g_to_areThose_31 _ _ _ _ _ _ ⟨⟨by omega, by omega⟩, ⟨by omega, by omega⟩, fun q => absurd q (by omega), fun _ => ?_⟩
      rw [ed, em]
      refine cp_top_ (K := K) hW hh hc ?_
      rw [x1.1]
      show (0 ≤ k ∧ k < 15) ∧ R64 (M 43 0) ∧ R64 DD ∧ DD ≠ 0 ∧ R64 (M 44 k) ∧ R64 (X (k / 3) (k % 3) * Int.tdiv (M 43 0) DD) ∧ (M 44 k = X (k / 3) (k % 3) * Int.tdiv (M 43 0) DD → G none (K + 1 + 1) jTold_areThose 31 [(0, .inr (.inr 43)), (1, .inr (.inr 11)), (2, .inl (3 * n)), (3, .inr (.inl DD)), (5, .inl (k + 1))] [] P0 P0 M Q) ∧ (¬ M 44 k = X (k / 3) (k % 3) * Int.tdiv (M 43 0) DD → Q (some (.inl 0)) M)
      rw [h43, t1]
      refine ⟨⟨by omega, by omega⟩, ⟨by omega, by omega⟩, ⟨by omega, by omega⟩, by omega, ⟨by omega, by omega⟩, ⟨by omega, by omega⟩, fun q => ih (k + 1) (by omega) (by omega) (fun h c hh' hc' hl => ?_), fun q => hno fun z => q (z.2 _ _ hh (by omega) hc)⟩
      by_cases e : 3 * h + c = k
      · rw [show h = k / 3 by omega, show c = k % 3 by omega]; exact q
      · exact ok h c hh' hc' (by omega)
  refine c_to_areThose (K + 1) (3 * n) M Q (cp_bottom_ (K := K) hW ?_)
  rw [hD]
  show R64 DD ∧ (DD < 1 → Q (some (.inl 0)) M) ∧ (¬ DD < 1 → R64 (M 43 0) ∧ DD ≠ 0 ∧ R64 (Int.tmod (M 43 0) DD) ∧ (Int.tmod (M 43 0) DD = 0 → G none (K + 1 + 1) jTold_areThose 31 [(0, .inr (.inr 43)), (1, .inr (.inr 11)), (2, .inl (3 * n)), (3, .inr (.inl DD)), (5, .inl 0)] [] P0 P0 M Q) ∧ (¬ Int.tmod (M 43 0) DD = 0 → Q (some (.inl 0)) M))
  rw [h43]
  exact ⟨⟨by omega, by omega⟩, fun q => absurd q (by omega), fun _ => ⟨⟨by omega, by omega⟩, by omega, ⟨by omega, by omega⟩, fun z => loop z (3 * n).toNat 0 (by omega) (by decide) (fun h c hh hc hl => by omega), fun z => hno fun y => z y.1⟩⟩
theorem m_ofc {K : Nat} {n B DD l1 W : Int} {T X : Int → Int → Int} {M : PM} {Q : Option PV → PM → Prop} (hn5 : 2 ≤ n ∧ n ≤ 5) (hn : M 55 0 = n) (hB : FRb B) (h9 : M 52 9 = W) (hW : 0 ≤ W ∧ W ≤ 5) (hD : M 59 W = DD) (hDP : 0 < DD ∧ DD ≤ 327680000000000) (hX : ∀ h c, hs h → kl c → M 58 (((15 * W) + (3 * h)) + c) = X h c ∧ 0 ≤ X h c ∧ X h c ≤ DD) (h1 : 0 ≤ l1 ∧ l1 + 3 * n < 80) (hT : ∀ k c, hs k → k < n → kl c → M 72 ((l1 + (3 * k)) + c) = T k c) (hTb : ∀ k c, hs k → kl c → 0 ≤ T k c ∧ T k c ≤ B) (hy : OFC n B DD T X → Q (some (.inl 1)) M) (hno : ¬ OFC n B DD T X → Q (some (.inl 0)) M) : G none (K + 1 + 1) jModel_isOfClearing 23 [(0, .inr (.inr 52)), (1, .inl l1), (2, .inr (.inl B)), (4, .inl 0)] [] P0 P0 M Q := by
  have B1 := hB.1
  have B2 := hB.2
  have loop : ∀ (x : Nat) (k : Int), k + (x : Int) = 3 * n → 0 ≤ k → (∀ h c, hs h → kl c → 3 * h + c < k → T h c * DD = X h c * B) → G none (K + 1 + 1) jModel_isOfClearing 23 [(0, .inr (.inr 52)), (1, .inl l1), (2, .inr (.inl B)), (4, .inl k)] [] P0 P0 M Q := by
    intro x
    induction x with
    | zero =>
      intro k hk k0 ok
      exact g_m_isOfClearing_23 _ _ _ _ _ _ ⟨⟨by omega, by omega⟩, by rw [hn]; exact ⟨by omega, by omega⟩, fun _ => hy (fun h c hh hl hc => ok h c hh hc (by omega)), fun q => absurd (by rw [hn]; omega) q⟩
    | succ x ih =>
      intro k hk k0 ok
      have hh : hs (k / 3) := ⟨by omega, by omega⟩
      have hc : kl (k % 3) := ⟨by omega, by omega⟩
      have x1 := hX _ _ hh hc
      have t1 := hT _ _ hh (by omega) hc
      have t2 := hTb _ _ hh hc
      rw [show (l1 + 3 * (k / 3)) + k % 3 = l1 + k by omega] at t1
      rw [show (15 * W + 3 * (k / 3)) + k % 3 = 15 * W + k by omega] at x1
      refine g_m_isOfClearing_23 _ _ _ _ _ _ ⟨⟨by omega, by omega⟩, by rw [hn]; exact ⟨by omega, by omega⟩, fun q => absurd q (by rw [hn]; omega), fun _ => ⟨⟨by omega, by omega⟩, by rw [h9]; exact ⟨by omega, by omega⟩, by rw [h9]; exact ⟨by omega, by omega⟩, ?_⟩⟩
      rw [h9, hD, x1.1, t1]
      have c0 := cmp_0 (x := T (k / 3) (k % 3)) (y := B) (u := X (k / 3) (k % 3)) (v := DD) ⟨by omega, by omega⟩ ⟨by omega, by omega⟩ x1.2.1 (by omega) hDP.1
      refine m_compared (K := K) ⟨by omega, by omega⟩ ⟨by omega, by omega⟩ ⟨by omega, by omega⟩ ⟨by omega, by omega⟩ (by omega) hDP.1 ⟨cmp_R, fun q => ih (k + 1) (by omega) (by omega) (fun h c hh' hc' hl => ?_), fun q => hno fun z => q (c0.mpr (z _ _ hh (by omega) hc))⟩
      by_cases e : 3 * h + c = k
      · rw [show h = k / 3 by omega, show c = k % 3 by omega]; exact c0.mp q
      · exact ok h c hh' hc' (by omega)
  exact loop (3 * n).toNat 0 (by omega) (by decide) (fun h c hh hc hl => by omega)
theorem x_agree {K : Nat} {n B : Int} {T : Int → Int → Int} {M : PM} {Q : Option PV → PM → Prop} (Xb : XB M) (en : M 1 0 = n) (h43 : M 43 0 = B) (hB : FRb B) (hT : ∀ k c, hs k → k < n → kl c → M 44 ((k * 3) + c) = T k c) (hTb : ∀ k c, hs k → kl c → 0 ≤ T k c ∧ T k c ≤ B) (hy : (∀ h, hs h → h < n → AgH (cp_g M) T B h) → Q (some (.inl 1)) M) (hno : ¬ (∀ h, hs h → h < n → AgH (cp_g M) T B h) → Q (some (.inl 0)) M) : Call (K + 5) jTold_agree [.inr (.inr 43), .inr (.inr 1)] P0 P0 M Q := by
  have hn5 := Xb.1
  have loop : ∀ (x : Nat) (k : Int), k + (x : Int) = n → 0 ≤ k → (∀ h, hs h → h < k → AgH (cp_g M) T B h) → G none (K + 4 + 1) jTold_agree 2 [(0, .inr (.inr 43)), (1, .inr (.inr 1)), (2, .inl k)] [] P0 P0 M Q := by
    intro x
    induction x with
    | zero =>
      intro k hk k0 ok
      exact g_to_agree_2 _ _ _ _ ⟨⟨by omega, by omega⟩, ⟨by omega, by omega⟩, fun _ => hy (fun h hh hl => ok h hh (by omega)), fun q => absurd (by omega) q⟩
    | succ x ih =>
      intro k hk k0 ok
      have hh : hs k := ⟨k0, by omega⟩
      refine g_to_agree_2 _ _ _ _ ⟨⟨by omega, by omega⟩, ⟨by omega, by omega⟩, fun q => absurd q (by omega), fun _ => x_toldAgrees (K := K) Xb hh (by omega) h43 hB (by rw [en]; exact hT) hTb (fun a => ⟨by decide, fun _ => ih (k + 1) (by omega) (by omega) (fun h hh' hl => ?_), fun q => absurd q (by decide)⟩) (fun a => ⟨by decide, fun q => absurd rfl q, fun _ => hno fun z => a (z k hh (by omega))⟩)⟩
      by_cases e : h = k
      · rw [e]; exact a
      · exact ok h hh' (by omega)
  exact c_to_agree (K + 4) M Q (loop n.toNat 0 (by omega) (by decide) (fun h hh hl => by omega))
theorem m_allPay {K : Nat} {B l1 n : Int} {g : Ck} {T : Int → Int → Int} {M : PM} {Q : Option PV → PM → Prop} (Bm : MB M) (O : Okc g) (hn : M 55 0 = n) (eA : M 55 1 = ckA g) (eB : M 55 2 = ckB g) (eC : ∀ k, hs k → M 55 (3 + k) = ckC g k) (eO : ∀ k k' c, hs k → hs k' → kl c → mo M k k' c = ckO g k k' c) (hC : ∀ h, hs h → ckC g h ≤ 200) (hz : ∀ h k c, hs h → hs k → n ≤ k → kl c → ckO g k h c = 0) (h1 : 0 ≤ l1 ∧ l1 + 3 * n < 80) (h72 : M 72 (l1 + 3 * n) = B) (hB : FRb B) (hT : ∀ k c, hs k → k < n → kl c → M 72 ((l1 + (3 * k)) + c) = T k c) (hTb : ∀ k c, hs k → kl c → 0 ≤ T k c ∧ T k c ≤ B)
    (hy : (∀ h, hs h → h < n → AgH g T B h) → Call (K + 6) jModel_isOfClearing [.inr (.inr 52), .inl l1] P0 P0 M (retI fun r3 M4 => R32 r3 ∧ (r3 = 0 → Q (some (.inl 1)) M4) ∧ (¬ r3 = 0 → Q (some (.inl 2)) M4))) (hno : ¬ (∀ h, hs h → h < n → AgH g T B h) → Q (some (.inl 0)) M) : G none (K + 6 + 1) jModel_judge 105 [(0, .inr (.inr 52)), (4, .inl l1), (7, .inl 0)] [] P0 P0 M Q := by
  have hn5 := Bm.1
  rw [hn] at hn5
  have loop : ∀ (x : Nat) (k : Int), k + (x : Int) = n → 0 ≤ k → (∀ h, hs h → h < k → AgH g T B h) → G none (K + 6 + 1) jModel_judge 105 [(0, .inr (.inr 52)), (4, .inl l1), (7, .inl k)] [] P0 P0 M Q := by
    intro x
    induction x with
    | zero =>
      intro k hk k0 ok
      exact g_m_judge_105 _ _ _ _ _ ⟨⟨by omega, by omega⟩, by rw [hn]; exact ⟨by omega, by omega⟩, fun _ => hy (fun h hh hl => ok h hh (by omega)), fun q => absurd (by rw [hn]; omega) q⟩
    | succ x ih =>
      intro k hk k0 ok
      have hh : hs k := ⟨k0, by omega⟩
      refine g_m_judge_105 _ _ _ _ _ ⟨⟨by omega, by omega⟩, by rw [hn]; exact ⟨by omega, by omega⟩, fun q => absurd q (by rw [hn]; omega), fun _ => m_paysSo_ (K := K) Bm O hh hn (by omega) eA eB eC eO (hC k hh) (fun k' c a b d => hz k k' c hh a b d) h1 h72 hB hT hTb (fun a => ⟨by decide, fun _ => ih (k + 1) (by omega) (by omega) (fun h hh' hl => ?_), fun q => absurd q (by decide)⟩) (fun a => ⟨by decide, fun q => absurd rfl q, fun _ => hno fun z => a (z k hh (by omega))⟩)⟩
      by_cases e : h = k
      · rw [e]; exact a
      · exact ok h hh' (by omega)
  exact loop n.toNat 0 (by omega) (by decide) (fun h hh hl => by omega)
theorem b_judge {K : Nat} {a i : Int} {M : PM} {C : Int → Int → PM → Prop} (I : Iv M) (h1 : R32 a) (h2 : R32 i) (hq : Ok32 C) : Bi (K + 22) jClearingWaves_judge [.inr (.inr 0), .inl a, .inl i] jModel_judge [.inr (.inr 52), .inl a, .inl i] M C := by
  have R := I.2.2.2.2.1
  have Xb := I.1.xb
  have hn5 := Xb.1
  unfold Bi
  by_cases pa : 0 ≤ a ∧ a < 4
  · have r := R a pa.1 pa.2
    by_cases pf : 0 ≤ i ∧ i + 3 * M 1 0 < M 50 a
    · have ph : M 50 a ≠ -1 := by omega
      obtain ⟨V, eV⟩ : ∃ V : Int → Int, V = fun k => M 51 ((a * 20) + (i + k)) := ⟨_, rfl⟩
      have vv : ∀ k, 0 ≤ k → k ≤ 3 * M 1 0 → M 51 ((a * 20) + (i + k)) = V k ∧ M 72 (((20 * a) + i) + k) = V k ∧ R64 (V k) := fun k k0 k1 => by
        have z := r.2.2 (i + k) (by omega) (by omega)
        rw [eV]
        refine ⟨rfl, ?_, z.2⟩
        rw [Int.add_assoc]
        exact z.1.symm
      obtain ⟨B, eB⟩ : ∃ B, B = V (3 * M 1 0) := ⟨_, rfl⟩
      have vB := vv (3 * M 1 0) (by omega) (Int.le_refl _)
      rw [← eB] at vB
      -- the class lays the told parts aside
      have rd : ∀ (Q : Option PV → PM → Prop), (∀ M1, Ag [43, 44] M M1 → M1 43 0 = B → (∀ k, 0 ≤ k → k < 3 * M 1 0 → M1 44 k = V k) → Call (K + 21) jTold_areFractions [.inr (.inr 43), .inl (3 * M 1 0)] P0 P0 M1 (retI fun r3 M4 => R32 r3 ∧ (¬ r3 = 0 → Call (K + 21) jClearingWaves_cleared [.inr (.inr 0)] P0 P0 M4 (retR fun r6 M7 => r6 = 11 ∧ Call (K + 21) jTold_areThose [.inr (.inr 43), .inr (.inr 11), .inl (3 * M 1 0)] P0 P0 M7 (retI fun r8 M9 => R32 r8 ∧ (r8 = 0 → Call (K + 21) jTold_agree [.inr (.inr 43), .inr (.inr 1)] P0 P0 M9 (retI fun r11 M12 => R32 r11 ∧ (r11 = 0 → Q (some (.inl 0)) M12) ∧ (¬ r11 = 0 → Q (some (.inl 1)) M12))) ∧ (¬ r8 = 0 → Q (some (.inl 2)) M9)))) ∧ (r3 = 0 → Q (some (.inl (-2))) M4))) → Call (K + 22) jClearingWaves_judge [.inr (.inr 0), .inl a, .inl i] P0 P0 M Q := by
        intro Q go
        have loop : ∀ (x : Nat) (k : Int) (M1 : PM), k + (x : Int) = 3 * M 1 0 → 0 ≤ k → Ag [43, 44] M M1 → M1 43 0 = B → (∀ j, 0 ≤ j → j < k → M1 44 j = V j) → G none (K + 21 + 1) jClearingWaves_judge 78 [(0, .inr (.inr 0)), (1, .inl a), (2, .inl i), (3, .inl (3 * M 1 0)), (4, .inl k)] [] P0 P0 M1 Q := by
          intro x
          induction x with
          | zero =>
            intro k M1 hk k0 hA e43 e44
            exact g_x_judge_78 _ _ _ _ _ _ _ ⟨⟨by omega, by omega⟩, ⟨by omega, by omega⟩, fun _ => go M1 hA e43 (fun j j0 j1 => e44 j j0 (by omega)), fun q => absurd (by omega) q⟩
          | succ x ih =>
            intro k M1 hk k0 hA e43 e44
            refine g_x_judge_78 _ _ _ _ _ _ _ ⟨⟨by omega, by omega⟩, ⟨by omega, by omega⟩, fun q => absurd q (by omega), fun _ => c_ro_at _ _ _ _ _ ⟨⟨by omega, by omega⟩, ⟨⟨by omega, by omega⟩, ?_⟩⟩⟩
            refine ih (k + 1) _ (by omega) (by omega) (hA.set (by decide)) (by rw [mset_ne (by decide)]; exact e43) (fun j j0 j1 => ?_)
            rw [mset_at]
            by_cases e : j = k
            · rw [if_pos e, hA 51 (by decide), e]
              exact (vv k k0 (by omega)).1
            · rw [if_neg e]; exact e44 j j0 (by omega)
        refine c_x_judge (K + 21) a i M Q (ro_has_y h1 pa ⟨by decide, fun _ => ro_holds_y R pa ph ⟨by decide, fun q => absurd q (by decide), fun _ => ⟨h2, fun q => absurd q (by omega), fun _ => c_ro_size _ _ _ _ ⟨pa, ⟨⟨by omega, by omega⟩, fun _ => c_ro_at _ _ _ _ _ ⟨⟨by omega, by omega⟩, ?_⟩, fun q => absurd (by omega) q⟩⟩⟩⟩, fun q => absurd q (by decide)⟩)
        show G none (K + 21 + 1) jClearingWaves_judge 78 [(0, .inr (.inr 0)), (1, .inl a), (2, .inl i), (3, .inl (3 * M 1 0)), (4, .inl 0)] [] P0 P0 (mset M 43 0 (M 51 ((a * 20) + (i + 3 * M 1 0)))) Q
        refine loop (3 * M 1 0).toNat 0 _ (by omega) (by decide) ((Ag.rf _ _).set (by decide)) ?_ (fun j j0 j1 => by omega)
        rw [mset_eq]
        exact vB.1
      -- the model begins so too
      have md_ : ∀ (M1 : PM) (Q : Option PV → PM → Prop), M1 72 = M 72 → M1 73 = M 73 → M1 55 0 = M 1 0 → (FRb B → FRc (3 * M 1 0) B V → G none (K + 21 + 1) jModel_judge 105 [(0, .inr (.inr 52)), (4, .inl ((20 * a) + i)), (7, .inl 0)] [] P0 P0 M1 Q) → (¬ (FRb B ∧ FRc (3 * M 1 0) B V) → Q (some (.inl (-2))) M1) → Call (K + 22) jModel_judge [.inr (.inr 52), .inl a, .inl i] P0 P0 M1 Q := by
        intro M1 Q k72 k73 k55 gy gn
        refine c_m_judge (K + 21) a i M1 Q (m_isRow_y h1 pa ⟨by decide, fun _ => ?_, fun q => absurd q (by decide)⟩)
        rw [k55]
        refine m_hasPlace_y pa (by rw [k73, ← r.1]; exact r.2.1) h2 ⟨by omega, by omega⟩ (by rw [k73, ← r.1]; exact pf) ⟨by decide, fun _ => ⟨⟨by omega, by omega⟩, ?_⟩, fun q => absurd q (by decide)⟩
        rw [k72, vB.2.1]
        by_cases fb : FRb B
        · refine m_within_y vB.2.2 (by decide) (by decide) fb ⟨by decide, fun _ => ?_, fun q => absurd q (by decide)⟩
          exact m_frac (K := K + 20) vB.2.2 ⟨by omega, by omega⟩ ⟨by omega, by omega⟩ (fun k k0 k1 => by rw [k72]; exact (vv k k0 (by omega)).2) (fun fc => gy fb fc) (fun nfc => gn fun z => nfc z.2)
        · exact m_within_n vB.2.2 (by decide) (by decide) fb ⟨by decide, fun q => absurd rfl q, fun _ => gn fun z => fb z.1⟩
      refine rd _ (fun M1 hA1 e43 e44 => ?_)
      have I1 : Iv M1 := I.scrx (hA1.mono (by decide))
      refine x_areFractions (K := K + 20) (B := B) (V := V) e43 vB.2.2 ⟨by omega, by omega⟩ (fun k k0 k1 => ⟨e44 k k0 k1, (vv k k0 (by omega)).2.2⟩) (fun fb fc => ?_) (fun nf => ?_)
      · refine ⟨by decide, fun _ => x_clr (K := K + 15) I1 (fun M2 X D hA2 hi2 h72 I2 cf => ⟨rfl, ?_⟩), fun q => absurd q (by decide)⟩
        have k1 : M2 1 = M 1 := by rw [hA2 1 (by decide), hA1 1 (by decide)]
        have f43 : M2 43 0 = B := by rw [hA2 43 (by decide)]; exact e43
        have Xb2 := I2.1.xb
        have O := xb_ok Xb2
        have hw := cf.2.1
        have f1 := cf.2.2.1 (M2 11 0) hw.1 (Int.le_refl _)
        obtain ⟨T, eT⟩ : ∃ T : Int → Int → Int, T = fun h c => if h < M 1 0 then V ((h * 3) + c) else B := ⟨_, rfl⟩
        have Tl : ∀ k c, k < M 1 0 → T k c = V ((k * 3) + c) := fun k c hk => by rw [eT]; exact if_pos hk
        have Tg : ∀ k c, M 1 0 ≤ k → T k c = B := fun k c hk => by rw [eT]; exact if_neg (by omega)
        have B0 : 0 < B := by have := fb.1; omega
        have hT : ∀ k c, hs k → k < M 1 0 → kl c → M2 44 ((k * 3) + c) = T k c := fun k c hk hl hc => by
          rw [Tl k c hl, hA2 44 (by decide)]
          exact e44 _ (by omega) (by omega)
        have hTb : ∀ k c, hs k → kl c → 0 ≤ T k c ∧ T k c ≤ B := fun k c hk hc => by
          by_cases z : k < M 1 0
          · rw [Tl k c z]; exact fc _ (by omega) (by omega)
          · rw [Tg k c (by omega)]; exact ⟨by omega, Int.le_refl _⟩
        have hX : ∀ h c, hs h → kl c → cp_X M2 (M2 11 0) h c = X (M2 11 0) h c ∧ 0 ≤ X (M2 11 0) h c ∧ X (M2 11 0) h c ≤ D (M2 11 0) := fun h c hh hc => ⟨f1.2.2.2 h c hh hc, f1.2.1 h c hh hc⟩
        have hz : ∀ h c, hs h → M 1 0 ≤ h → kl c → X (M2 11 0) h c = D (M2 11 0) := fun h c hh hl hc => by
          obtain ⟨_, _, F, Rr, _⟩ := cf.1
          obtain ⟨G, rd_, bd, ev, L, Sg, _, _⟩ := Rr.2.1 (M2 11 0) hw.1 (Int.le_refl _)
          refine (Sg h c hh hc).2.1 ?_
          show (s5 fun t => xo M2 h t c) = 0
          rw [s5_congr (g := fun _ => 0) (fun t ht => Xb2.2.2.2.2.2.2.2 h t c hh ht hc (Or.inl (by rw [k1]; exact hl)))]
          rfl
        have hRed : Red (X (M2 11 0)) (D (M2 11 0)) := by
          obtain ⟨_, _, F, Rr, _⟩ := cf.1
          exact (Rr.2.1 (M2 11 0) hw.1 (Int.le_refl _)).2.1
        have iff_ := tho_ofc (n := M 1 0) (B := B) (T := T) B0 f1.1.1 hRed hz
        have imp : THO (M 1 0) B (D (M2 11 0)) T (X (M2 11 0)) → ∀ h, hs h → h < M 1 0 → AgH (cp_g M2) T B h := fun t h hh hl => tho_agrees (n := M 1 0) O (by have := cf.1; rw [k1] at this; exact this) B0 f1.1.1 (fun h c hh hl hc => Tg h c hl) hz t hh hl
        have k72 : M2 72 = M 72 := by rw [hA2 72 (by decide), hA1 72 (by decide)]
        have k73 : M2 73 = M 73 := by rw [hA2 73 (by decide), hA1 73 (by decide)]
        have k55 : M2 55 0 = M 1 0 := by rw [I2.1.n, k1]
        have hT72 : ∀ k c, hs k → k < M 1 0 → kl c → M 72 ((((20 * a) + i) + (3 * k)) + c) = T k c := fun k c hk hl hc => by
          rw [Tl k c hl, ← (vv ((k * 3) + c) (by omega) (by omega)).2.1]
          congr 1
          omega
        -- the model's answer
        have mm : ∀ (r1 : Int), (THO (M 1 0) B (D (M2 11 0)) T (X (M2 11 0)) → r1 = 2) → (¬ THO (M 1 0) B (D (M2 11 0)) T (X (M2 11 0)) → ((∀ h, hs h → h < M 1 0 → AgH (cp_g M2) T B h) → r1 = 1) ∧ (¬ (∀ h, hs h → h < M 1 0 → AgH (cp_g M2) T B h) → r1 = 0)) → Call (K + 22) jModel_judge [.inr (.inr 52), .inl a, .inl i] P0 P0 M2 (retI fun r2 M' => C r1 r2 M') := by
          intro r1 y2 y1
          refine md_ M2 _ k72 k73 k55 (fun _ _ => ?_) (fun nf => absurd ⟨fb, fc⟩ nf)
          refine m_allPay (K := K + 15) (g := cp_g M2) (T := T) (B := B) (n := M 1 0) I2.1.mb O k55 I2.1.a I2.1.b (fun k hk => I2.1.c hk) (fun k k' c a b d => I2.1.o a b d) (fun h hh => (Xb2.2.2.2.1 h hh).2) (fun h k c hh hk hl hc => Xb2.2.2.2.2.2.2.2 k h c hk hh hc (Or.inl (by rw [k1]; exact hl))) ⟨by omega, by omega⟩ (by rw [k72]; exact vB.2.1) fb (by rw [k72]; exact hT72) hTb (fun all => ?_) (fun nall => ?_)
          · refine c_m_isOfClearing (K + 20) ((20 * a) + i) M2 _ (m_clrj (K := K + 5) I2 cf (fun M3 hA3 I3 cf3 j1 j2 j3 j4 j5 => ?_))
            have l72 : M3 72 = M 72 := by rw [hA3 72 (by decide), k72]
            have l55 : M3 55 0 = M 1 0 := by rw [hA3 55 (by decide), k55]
            have aW := j4 (M2 11 0) hw.1 (by rw [j1]; exact Int.le_refl _)
            refine ⟨by rw [l55]; exact ⟨by omega, by omega⟩, ?_⟩
            rw [l55, l72, vB.2.1]
            refine m_ofc (K := K + 19) (n := M 1 0) (W := M2 11 0) (T := T) (X := X (M2 11 0)) (DD := D (M2 11 0)) hn5 l55 fb j1 hw aW.1 f1.1 (fun h c hh hc => ⟨aW.2 h c hh hc, f1.2.1 h c hh hc⟩) ⟨by omega, by omega⟩ (by rw [l72]; exact hT72) hTb (fun o => ⟨by decide, fun q => absurd q (by decide), fun _ => ?_⟩) (fun o => ⟨by decide, fun _ => ?_, fun q => absurd rfl q⟩)
            · rw [y2 (iff_.mpr o)]; exact hq _ _ (by decide) I3
            · rw [(y1 (fun z => o (iff_.mp z))).1 all]; exact hq _ _ (by decide) I3
          · rw [(y1 (fun z => nall (imp z))).2 nall]; exact hq _ _ (by decide) I2
        refine x_areThose (K := K + 19) (n := M 1 0) (T := T) (X := X (M2 11 0)) (DD := D (M2 11 0)) hn5 f43 fb hw f1.2.2.1 f1.1 hX hT hTb (fun t => ⟨by decide, fun q => absurd q (by decide), fun _ => mm 2 (fun _ => rfl) (fun z => absurd t z)⟩) (fun t => ⟨by decide, fun _ => ?_, fun q => absurd rfl q⟩)
        refine x_agree (K := K + 16) Xb2 (by rw [k1]) f43 fb hT hTb (fun all => ⟨by decide, fun q => absurd q (by decide), fun _ => mm 1 (fun z => absurd z t) (fun _ => ⟨fun _ => rfl, fun z => absurd all z⟩)⟩) (fun nall => ⟨by decide, fun _ => mm 0 (fun z => absurd z t) (fun _ => ⟨fun z => absurd z nall, fun _ => rfl⟩), fun q => absurd rfl q⟩)
      · refine ⟨by decide, fun q => absurd rfl q, fun _ => ?_⟩
        exact md_ M1 _ (hA1 72 (by decide)) (hA1 73 (by decide)) (by rw [I1.1.n, hA1 1 (by decide)]) (fun fb fc => absurd ⟨fb, fc⟩ nf) (fun _ => hq _ _ (by decide) I1)
    · have fin : Call (K + 22) jModel_judge [.inr (.inr 52), .inl a, .inl i] P0 P0 M (retI fun r2 M2 => C (-3) r2 M2) := by
        refine c_m_judge (K + 21) a i M _ (m_isRow_y h1 pa ⟨by decide, fun _ => ?_, fun q => absurd q (by decide)⟩)
        rw [I.1.n]
        exact m_hasPlace_n pa (by rw [← r.1]; exact r.2.1) h2 ⟨by omega, by omega⟩ (by rw [← r.1]; exact pf) ⟨by decide, fun q => absurd rfl q, fun _ => hq _ _ (by decide) I⟩
      by_cases ph : M 50 a = -1
      · exact c_x_judge (K + 21) a i M _ (ro_has_y h1 pa ⟨by decide, fun _ => ro_holds_n R pa ph ⟨by decide, fun _ => fin, fun q => absurd rfl q⟩, fun q => absurd q (by decide)⟩)
      · exact c_x_judge (K + 21) a i M _ (ro_has_y h1 pa ⟨by decide, fun _ => ro_holds_y R pa ph ⟨by decide, fun q => absurd q (by decide), fun _ => ⟨h2, fun _ => fin, fun q => c_ro_size _ _ _ _ ⟨pa, ⟨⟨by omega, by omega⟩, fun z => absurd ⟨by omega, by omega⟩ pf, fun _ => fin⟩⟩⟩⟩, fun q => absurd q (by decide)⟩)
  · refine c_x_judge (K + 21) a i M _ (ro_has_n h1 pa ⟨by decide, fun q => absurd rfl q, fun _ => ?_⟩)
    exact c_m_judge (K + 21) a i M _ (m_isRow_n h1 pa ⟨by decide, fun q => absurd rfl q, fun _ => hq _ _ (by decide) I⟩)
