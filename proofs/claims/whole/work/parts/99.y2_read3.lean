/-! DEBTS AS A TEXT: the model reads a part -/
def TM (M : PM) (b : Int → Int) (L i : Int) : Prop := M 52 7 = i ∧ M 52 6 = L ∧ ∀ k, 0 ≤ k → k < L → M 56 k = b k
def F7 (M M' : PM) : Prop := ∀ x, x ≠ 7 → M' 52 x = M 52 x
theorem F7.tr {M M1 M2 : PM} (a : F7 M M1) (b : F7 M1 M2) : F7 M M2 := fun x hx => (b x hx).trans (a x hx)
theorem F7.step (M : PM) (v : Int) : F7 M (mset M 52 7 v) := fun x hx => by rw [mset_at, if_neg hx]
theorem TM.step {M : PM} {b : Int → Int} {L i : Int} (t : TM M b L i) : TM (mset M 52 7 (M 52 7 + 1)) b L (i + 1) := ⟨by rw [mset_eq, t.1], by rw [mset_at, if_neg (by decide)]; exact t.2.1, fun k k0 k1 => by rw [mset_ne (by decide)]; exact t.2.2 k k0 k1⟩
theorem TM.to {M M' : PM} {b : Int → Int} {L i : Int} (t : TM M b L i) (r : F7 M M') (h56 : M' 56 = M 56) {j : Int} (h : M' 52 7 = j) : TM M' b L j := ⟨h, by rw [r 6 (by decide)]; exact t.2.1, by rw [h56]; exact t.2.2⟩
theorem m_peek_ {K : Nat} {b : Int → Int} {L i : Int} {M : PM} {Q : Option PV → PM → Prop} (tb_ : TB b L) (t : TM M b L i) (hi : 0 ≤ i ∧ i ≤ L) (hq : Q (some (.inl (txk b L i))) M) : Call (K + 1) jModel_peek [.inr (.inr 52)] P0 P0 M Q := by
  have L1 := tb_.1
  refine c_m_peek K M Q ?_
  rw [t.1, t.2.1]
  refine ⟨⟨by omega, by omega⟩, ⟨by omega, by omega⟩, fun q => ?_, fun q => ?_⟩
  · have e : txk b L i = 0 := if_neg (by omega)
    rw [e] at hq
    exact hq
  · have e : txk b L i = b i := if_pos (by omega)
    rw [e] at hq
    rw [t.2.2 i hi.1 (by omega)]
    exact ⟨⟨by omega, by omega⟩, hq⟩
theorem m_readsNumber_ {K : Nat} {b : Int → Int} {L i most : Int} {fg : Nat} {M : PM} {Q : Option PV → PM → Prop} (tb_ : TB b L) (t : TM M b L i) (hi : 0 ≤ i ∧ i ≤ L) (hf : fg ≤ 3) (hm : R32 most) (hq : ∀ M', Ag [52] M M' → F7 M M' → M' 52 7 = (nmr b L fg i 0).1 → Q (some (.inl (if (nmr b L fg i 0).1 = i ∨ most < (nmr b L fg i 0).2 then -100 - i else (nmr b L fg i 0).2))) M') : Call (K + 2) jModel_readsNumber [.inr (.inr 52), .inl (fg : Int), .inl most] P0 P0 M Q := by
  have L1 := tb_.1
  have rb := nmr_b (b := b) (L := L) fg i 0 0 hi.2 (Int.le_refl _) (Int.le_refl _)
  have p10 : ((0 : Int) + 1) * 10 ^ fg ≤ 1000000000000000000 := by
    have := ten_le (j := fg) (by omega)
    omega
  have fin : ∀ (M1 : PM), Ag [52] M M1 → F7 M M1 → M1 52 7 = (nmr b L fg i 0).1 → (nmr b L fg i 0).2 ≤ 1000 → (¬ M1 52 7 = i → R32 (nmr b L fg i 0).2 ∧ R32 most ∧ ((nmr b L fg i 0).2 ≤ most → Q (some (.inl (nmr b L fg i 0).2)) M1) ∧ (¬ (nmr b L fg i 0).2 ≤ most → Q (some (.inl ((-100) - i))) M1)) ∧ (M1 52 7 = i → Q (some (.inl ((-100) - (M1 52 7)))) M1) := by
    intro M1 hA f7 e7 hv
    have z := hq M1 hA f7 e7
    rw [e7]
    refine ⟨fun q => ⟨⟨by omega, by omega⟩, hm, fun q2 => ?_, fun q2 => ?_⟩, fun q => ?_⟩
    · rw [if_neg (by omega)] at z; exact z
    · rw [if_pos (by omega)] at z; exact z
    · rw [if_pos (Or.inl q)] at z; rw [q]; exact z
  have loop : ∀ (k : Nat) (i1 v c : Int) (M1 : PM), i1 + (k : Int) = i + (fg : Int) → i ≤ i1 → Ag [52] M M1 → F7 M M1 → TM M1 b L i1 → i1 ≤ L → nmr b L k i1 v = nmr b L fg i 0 → 0 ≤ v → v ≤ c → (c + 1) * 10 ^ k ≤ 1000 → G none (K + 1 + 1) jModel_readsNumber 8 [(0, .inr (.inr 52)), (1, .inl (fg : Int)), (2, .inl most), (3, .inl i), (4, .inl v)] [] P0 P0 M1 Q := by
    intro k
    induction k with
    | zero =>
      intro i1 v c M1 hk hi1 hA f7 ts hL e v0 vc c1
      have e' : (i1, v) = nmr b L fg i 0 := e
      have c2 : (c + 1) * 1 ≤ 1000 := c1
      have z := fin M1 hA f7 (by rw [← e']; exact ts.1) (by rw [← e']; show v ≤ 1000; omega)
      rw [← e'] at z
      refine g_m_readsNumber_8 _ _ _ _ _ _ _ ⟨by rw [ts.1]; exact ⟨by omega, by omega⟩, ⟨by omega, by omega⟩, fun _ => ⟨⟨by omega, by omega⟩, z.1, z.2⟩, fun q => absurd (by rw [ts.1]; omega) q⟩
    | succ k ih =>
      intro i1 v c M1 hk hi1 hA f7 ts hL e v0 vc c1
      have p := ten_p (k + 1)
      have cm : c + 1 ≤ 1000 := by
        have := Int.mul_le_mul_of_nonneg_left (show (1 : Int) ≤ 10 ^ (k + 1) by omega) (show 0 ≤ c + 1 by omega)
        rw [Int.mul_one] at this
        omega
      have tk := txk_b tb_ (show 0 ≤ i1 by omega)
      refine g_m_readsNumber_8 _ _ _ _ _ _ _ ⟨by rw [ts.1]; exact ⟨by omega, by omega⟩, ⟨by omega, by omega⟩, fun q => absurd q (by rw [ts.1]; omega), fun _ => m_peek_ (K := K) tb_ ts ⟨by omega, hL⟩ ⟨⟨by omega, by omega⟩, ?_⟩⟩
      by_cases q : 48 ≤ txk b L i1 ∧ txk b L i1 ≤ 57
      · have e' : nmr b L (k + 1) i1 v = nmr b L k (i1 + 1) (v * 10 + (txk b L i1 - 48)) := if_pos q
        rw [e'] at e
        have lt := txk_lt (b := b) (L := L) (i := i1) (by omega)
        refine m_within_y (K := K) ⟨by omega, by omega⟩ (by decide) (by decide) q ⟨by decide, fun z => absurd z (by decide), fun _ => m_peek_ (K := K) tb_ ts ⟨by omega, hL⟩ ?_⟩
        have ev : 10 * v + txk b L i1 - 48 = v * 10 + (txk b L i1 - 48) := by omega
        show G none (K + 1 + 1) jModel_readsNumber 8 [(0, .inr (.inr 52)), (1, .inl (fg : Int)), (2, .inl most), (3, .inl i), (4, .inl (10 * v + txk b L i1 - 48))] [] P0 P0 (mset M1 52 7 (M1 52 7 + 1)) Q
        rw [ev]
        have ec : (c * 10 + 9 + 1) * 10 ^ k = (c + 1) * 10 ^ (k + 1) := by
          rw [Int.pow_succ, Int.mul_comm (10 ^ k) 10, ← Int.mul_assoc]
          congr 1
          omega
        exact ih (i1 + 1) _ (c * 10 + 9) _ (by omega) (by omega) (hA.set (by decide)) (f7.tr (F7.step M1 _)) ts.step (by omega) e (by omega) (by omega) (by rw [ec]; exact c1)
      · have e' : nmr b L (k + 1) i1 v = (i1, v) := if_neg q
        rw [e'] at e
        have z := fin M1 hA f7 (by rw [← e]; exact ts.1) (by rw [← e]; show v ≤ 1000; omega)
        rw [← e] at z
        exact m_within_n (K := K) ⟨by omega, by omega⟩ (by decide) (by decide) q ⟨by decide, fun _ => ⟨by rw [ts.1]; exact ⟨by omega, by omega⟩, ⟨by omega, by omega⟩, z.1, z.2⟩, fun y => absurd rfl y⟩
  refine c_m_readsNumber (K + 1) (fg : Int) most M Q ?_
  rw [t.1]
  refine loop fg i 0 0 M rfl (Int.le_refl _) (Ag.rf _ _) (fun _ _ => rfl) t hi.2 rfl (Int.le_refl _) (Int.le_refl _) ?_
  have e3 : (10 : Int) ^ fg ≤ 1000 := by
    have h : fg = 0 ∨ fg = 1 ∨ fg = 2 ∨ fg = 3 := by omega
    rcases h with h | h | h | h <;> rw [h] <;> decide
  omega
abbrev KD (J : Int) (M M' : PM) : Prop := ∀ y, y < 2 * J → M' 57 y = M 57 y
theorem m_eq {K : Nat} {b : Int → Int} {L i J k most : Int} {fg : Nat} {M : PM} {Q : Option PV → PM → Prop} (tb_ : TB b L) (t : TM M b L i) (hi : 0 ≤ i ∧ i ≤ L) (hJ : 0 ≤ J ∧ J ≤ 30) (hk : R32 k) (hc : (8 ≤ k ∧ fg = 2 ∧ most = 20) ∨ (¬ 8 ≤ k ∧ fg = 3 ∧ most = 200))
    (hf : (prn b L i fg most k).1 ≠ -1 → ∀ M', Ag [52, 57] M M' → F7 M M' → KD J M M' → Q (some (.inl (-100 - (prn b L i fg most k).1))) M')
    (ho : (prn b L i fg most k).1 = -1 → ∀ M', Ag [52, 57] M M' → F7 M M' → KD J M M' → M' 52 7 = (prn b L i fg most k).2.1 → M' 57 (2 * J) = (prn b L i fg most k).2.2.1 → M' 57 ((2 * J) + 1) = (prn b L i fg most k).2.2.2 → Q (some (.inl 0)) M') :
    G none (K + 2 + 1) jModel_readsPart 139 [(0, .inr (.inr 52)), (1, .inl J), (3, .inl k)] [] P0 P0 M Q := by
  have L1 := tb_.1
  have tk := txk_b tb_ hi.1
  by_cases q : txk b L i = 61
  · have l := txk_lt (b := b) (L := L) (i := i) (by omega)
    have r := nmr_b (b := b) (L := L) fg (i + 1) 0 0 (by omega) (Int.le_refl _) (Int.le_refl _)
    have fin : ∀ M6, Ag [52] (mset M 52 7 (M 52 7 + 1)) M6 → F7 (mset M 52 7 (M 52 7 + 1)) M6 → M6 52 7 = (nmr b L fg (i + 1) 0).1 → (0 ≤ (2 * J) ∧ (2 * J) < 120) ∧ (0 ≤ ((2 * J) + 1) ∧ ((2 * J) + 1) < 120) ∧ R32 (if (nmr b L fg (i + 1) 0).1 = i + 1 ∨ most < (nmr b L fg (i + 1) 0).2 then -100 - (i + 1) else (nmr b L fg (i + 1) 0).2) ∧ Q (some (.inl (mn2 0 (if (nmr b L fg (i + 1) 0).1 = i + 1 ∨ most < (nmr b L fg (i + 1) 0).2 then -100 - (i + 1) else (nmr b L fg (i + 1) 0).2)))) (mset (mset M6 57 (2 * J) k) 57 ((2 * J) + 1) (if (nmr b L fg (i + 1) 0).1 = i + 1 ∨ most < (nmr b L fg (i + 1) 0).2 then -100 - (i + 1) else (nmr b L fg (i + 1) 0).2)) := by
      intro M6 hA6 f6 e6
      have hA : Ag [52, 57] M M6 := ((Ag.rf _ _).set (by decide)).tr (hA6.mono (by decide))
      have ff : F7 M M6 := (F7.step M _).tr f6
      have k57 : M6 57 = M 57 := by rw [hA6 57 (by decide), mset_ne (by decide)]
      refine ⟨⟨by omega, by omega⟩, ⟨by omega, by omega⟩, ?_⟩
      by_cases z : (nmr b L fg (i + 1) 0).1 = i + 1 ∨ most < (nmr b L fg (i + 1) 0).2
      · rw [if_pos z, mn2_ge (by omega)]
        have e : prn b L i fg most k = (i + 1, 0, 0, 0) := by unfold prn; rw [if_pos q, if_pos z]
        refine ⟨⟨by omega, by omega⟩, ?_⟩
        have := hf (by rw [e]; show i + 1 ≠ -1; omega) (mset (mset M6 57 (2 * J) k) 57 ((2 * J) + 1) (-100 - (i + 1))) ((hA.set (by decide)).set (by decide)) (fun x hx => by rw [mset_ne (by decide), mset_ne (by decide)]; exact ff x hx) (fun y hy => by rw [mset_at, if_neg (by omega), mset_at, if_neg (by omega), k57])
        rw [e] at this
        exact this
      · rw [if_neg z]
        have e : prn b L i fg most k = (-1, (nmr b L fg (i + 1) 0).1, k, (nmr b L fg (i + 1) 0).2) := by unfold prn; rw [if_pos q, if_neg z]
        have m200 : most ≤ 200 := by omega
        have e0 : mn2 0 (nmr b L fg (i + 1) 0).2 = 0 := mn2_le r.2.1
        rw [e0]
        refine ⟨⟨by omega, by omega⟩, ?_⟩
        exact ho (by rw [e]) _ ((hA.set (by decide)).set (by decide)) (fun x hx => by rw [mset_ne (by decide), mset_ne (by decide)]; exact ff x hx) (fun y hy => by rw [mset_at, if_neg (by omega), mset_at, if_neg (by omega), k57]) (by rw [e, mset_ne (by decide), mset_ne (by decide)]; exact e6) (by rw [e, mset_at, if_neg (by omega), mset_eq]) (by rw [e, mset_eq])
    have t1 := t.step
    refine g_m_readsPart_139 _ _ _ _ _ (m_peek_ (K := K + 1) tb_ t hi ⟨⟨by omega, by omega⟩, fun _ => ⟨hk, fun c8 => ?_, fun c8 => ?_⟩, fun z => absurd q z⟩)
    · rcases hc with ⟨_, rfl, rfl⟩ | ⟨c9, _⟩
      · exact m_readsNumber_ (K := K) (fg := 2) tb_ t1 ⟨by omega, by omega⟩ (by decide) (by decide) fin
      · exact absurd c8 c9
    · rcases hc with ⟨c9, _⟩ | ⟨_, rfl, rfl⟩
      · exact absurd c9 c8
      · exact m_readsNumber_ (K := K) (fg := 3) tb_ t1 ⟨by omega, by omega⟩ (by decide) (by decide) fin
  · have e : prn b L i fg most k = (i, 0, 0, 0) := if_neg q
    have := hf (by rw [e]; show i ≠ -1; omega) M (Ag.rf _ _) (fun _ _ => rfl) (fun _ _ => rfl)
    rw [e] at this
    refine g_m_readsPart_139 _ _ _ _ _ (m_peek_ (K := K + 1) tb_ t hi ⟨⟨by omega, by omega⟩, fun z => absurd z q, fun _ => ?_⟩)
    rw [t.1]
    exact this
theorem m_readsPart_ {K : Nat} {b : Int → Int} {L i J n : Int} {M : PM} {Q : Option PV → PM → Prop} (B : MB M) (en : M 55 0 = n) (tb_ : TB b L) (t : TM M b L i) (hi : 0 ≤ i ∧ i ≤ L) (hJ : 0 ≤ J ∧ J ≤ 30)
    (hf : (prt b L n i).1 ≠ -1 → ∀ M', Ag [52, 57] M M' → F7 M M' → KD J M M' → Q (some (.inl (-100 - (prt b L n i).1))) M')
    (ho : (prt b L n i).1 = -1 → ∀ M', Ag [52, 57] M M' → F7 M M' → KD J M M' → M' 52 7 = (prt b L n i).2.1 → M' 57 (2 * J) = (prt b L n i).2.2.1 → M' 57 ((2 * J) + 1) = (prt b L n i).2.2.2 → Q (some (.inl 0)) M') :
    Call (K + 3) jModel_readsPart [.inr (.inr 52), .inl J] P0 P0 M Q := by
  have L1 := tb_.1
  have hn5 := B.1
  rw [en] at hn5
  have tk := txk_b tb_ hi.1
  refine c_m_readsPart (K + 2) J M Q (m_peek_ (K := K + 1) tb_ t hi ?_)
  by_cases ph : 0 ≤ txk b L i - 97 ∧ txk b L i - 97 < n
  · have l := txk_lt (b := b) (L := L) (i := i) (by omega)
    refine m_isHouse_y (K := K) B ⟨by omega, by omega⟩ (by rw [en]; exact ph) ⟨by decide, fun _ => ?_, fun z => absurd z (by decide)⟩
    obtain ⟨f, ef⟩ : ∃ f, f = txk b L i - 97 := ⟨_, rfl⟩
    have m3 := mks_b (b := b) (L := L) 3 (i + 1) (by omega)
    obtain ⟨m, em⟩ : ∃ m, m = mks b L 3 (i + 1) := ⟨_, rfl⟩
    rw [← em] at m3
    have t1 := t.step
    have f1 := F7.step M (M 52 7 + 1)
    obtain ⟨M1, e1⟩ : ∃ M1, M1 = mset M 52 7 (M 52 7 + 1) := ⟨_, rfl⟩
    have hA1 : Ag [52, 57] M M1 := by rw [e1]; exact (Ag.rf _ _).set (by decide)
    rw [← e1] at t1 f1
    show Call (K + 2) jModel_peek [.inr (.inr 52)] P0 P0 (mset M 52 7 (M 52 7 + 1)) _
    rw [← e1]
    have tk1 := txk_b tb_ (show 0 ≤ i + 1 by omega)
    refine m_peek_ (K := K + 1) tb_ t1 ⟨by omega, by omega⟩ ⟨⟨by omega, by omega⟩, fun q61 => ?_, fun q61 => ?_⟩
    · -- its cash
      have m0 : m = 0 := by
        rw [em]
        show (if txk b L (i + 1) = 62 then _ else 0) = 0
        exact if_neg (by omega)
      have ep : prt b L n i = prn b L (i + 1) 3 200 (3 + (txk b L i - 97)) := by
        unfold prt
        rw [if_pos ph, ← em, if_pos m0]
      rw [ep] at hf ho
      exact m_eq (K := K) tb_ t1 ⟨by omega, by omega⟩ hJ ⟨by omega, by omega⟩ (Or.inr ⟨by omega, rfl, rfl⟩) (fun h M' hA' f' kd => hf h M' (hA1.tr hA') (f1.tr f') (fun y hy => by rw [kd y hy, e1, mset_ne (by decide)])) (fun h M' hA' f' kd => ho h M' (hA1.tr hA') (f1.tr f') (fun y hy => by rw [kd y hy, e1, mset_ne (by decide)]))
    · -- behind the marks
      rw [← ef] at ph
      show G none (K + 2 + 1) jModel_readsPart 50 [(0, .inr (.inr 52)), (1, .inl J), (2, .inl (txk b L i - 97)), (4, .inl 0)] [] P0 P0 M1 Q
      rw [← ef]
      have beh : ∀ (M2 : PM), Ag [52] M M2 → F7 M M2 → M2 52 7 = i + 1 + m → G none (K + 2 + 1) jModel_readsPart 81 [(0, .inr (.inr 52)), (1, .inl J), (2, .inl f), (4, .inl m)] [] P0 P0 M2 Q := by
        intro M2 hA2 f2 e2
        have t2 : TM M2 b L (i + 1 + m) := t.to f2 (hA2 56 (by decide)) e2
        have kd2 : KD J M M2 := fun y _ => by rw [hA2 57 (by decide)]
        have hj : 0 ≤ i + 1 + m ∧ i + 1 + m ≤ L := ⟨by omega, by omega⟩
        have tk2 := txk_b tb_ hj.1
        have B2 : MB M2 := B.of (hA2 55 (by decide))
        have en2 : M2 55 0 = n := by rw [hA2 55 (by decide), en]
        have bad : prt b L n i = (i + 1 + m, 0, 0, 0) → Q (some (.inl ((-100) - (M2 52 7)))) M2 := fun ep => by
          have := hf (by rw [ep]; show i + 1 + m ≠ -1; omega) M2 (hA2.mono (by decide)) f2 kd2
          rw [ep] at this
          rw [e2]
          exact this
        have bad2 : ¬ m = 0 → ¬ ((0 ≤ txk b L (i + 1 + m) - 97 ∧ txk b L (i + 1 + m) - 97 < n) ∧ ¬ txk b L (i + 1 + m) - 97 = f) → Q (some (.inl ((-100) - (M2 52 7)))) M2 := fun z y => bad (by
          unfold prt
          rw [← ef, ← em, if_pos ph, if_neg z, if_neg y])
        refine g_m_readsPart_81 _ _ _ _ _ _ (m_peek_ (K := K + 1) tb_ t2 hj ⟨⟨by omega, by omega⟩, fun z => ?_, fun z => ?_⟩)
        · -- no mark, no =
          have ep : prt b L n i = prn b L (i + 1) 3 200 (3 + f) := by
            unfold prt
            rw [← ef, if_pos ph, ← em, if_pos z]
          have e0 : prn b L (i + 1) 3 200 (3 + f) = (i + 1, 0, 0, 0) := if_neg q61
          exact bad (by rw [ep, e0, z, Int.add_zero])
        · by_cases pu : 0 ≤ txk b L (i + 1 + m) - 97 ∧ txk b L (i + 1 + m) - 97 < n
          · refine m_isHouse_y (K := K) B2 ⟨by omega, by omega⟩ (by rw [en2]; exact pu) ⟨by decide, fun y => absurd y (by decide), fun _ => ⟨⟨by omega, by omega⟩, ⟨by omega, by omega⟩, fun ne => ?_, fun eq => bad2 z (fun y => y.2 eq)⟩⟩
            obtain ⟨u, eu⟩ : ∃ u, u = txk b L (i + 1 + m) - 97 := ⟨_, rfl⟩
            rw [← eu] at pu ne ⊢
            have l2 := txk_lt (b := b) (L := L) (i := i + 1 + m) (by omega)
            have ep : prt b L n i = prn b L (i + 1 + m + 1) 2 20 (8 + d3 f u (m - 1)) := by
              unfold prt
              rw [← ef, ← em, ← eu, if_pos ph, if_neg z, if_pos ⟨pu, ne⟩]
            rw [ep] at hf ho
            have t3 := t2.step
            have f3 := F7.step M2 (M2 52 7 + 1)
            obtain ⟨M3, e3⟩ : ∃ M3, M3 = mset M2 52 7 (M2 52 7 + 1) := ⟨_, rfl⟩
            have hA3 : Ag [52, 57] M M3 := by rw [e3]; exact (hA2.mono (by decide)).set (by decide)
            have kd3 : ∀ y, M3 57 y = M 57 y := fun y => by rw [e3, mset_ne (by decide), hA2 57 (by decide)]
            rw [← e3] at t3 f3
            show Call (K + 2) jModel_owedAt [.inl f, .inl u, .inl (m - 1)] P0 P0 (mset M2 52 7 (M2 52 7 + 1)) _
            rw [← e3]
            refine m_owedAt (K := K + 1) ?_
            have ek : (8 + (((5 * f) + u) * 3)) + (m - 1) = 8 + d3 f u (m - 1) := by unfold d3; omega
            show G none (K + 2 + 1) jModel_readsPart 139 [(0, .inr (.inr 52)), (1, .inl J), (3, .inl ((8 + (((5 * f) + u) * 3)) + (m - 1)))] [] P0 P0 M3 Q
            rw [ek]
            have ix := d3_75 (f := f) (k := u) (e := m - 1) ⟨ph.1, by omega⟩ ⟨pu.1, by omega⟩ ⟨by omega, by omega⟩
            exact m_eq (K := K) tb_ t3 ⟨by omega, by omega⟩ hJ ⟨by omega, by omega⟩ (Or.inl ⟨by omega, rfl, rfl⟩) (fun h M' hA' f' kd => hf h M' (hA3.tr hA') ((f2.tr f3).tr f') (fun y hy => by rw [kd y hy, kd3])) (fun h M' hA' f' kd => ho h M' (hA3.tr hA') ((f2.tr f3).tr f') (fun y hy => by rw [kd y hy, kd3]))
          · exact m_isHouse_n (K := K) B2 ⟨by omega, by omega⟩ (by rw [en2]; exact pu) ⟨by decide, fun _ => bad2 z (fun y => pu y.1), fun y => absurd rfl y⟩
      have loop : ∀ (k : Nat) (l : Int) (M2 : PM), l + (k : Int) = 3 → 0 ≤ l → Ag [52] M M2 → F7 M M2 → M2 52 7 = i + 1 + l → i + 1 + l ≤ L → l + mks b L k (i + 1 + l) = m → G none (K + 2 + 1) jModel_readsPart 50 [(0, .inr (.inr 52)), (1, .inl J), (2, .inl f), (4, .inl l)] [] P0 P0 M2 Q := by
        intro k
        induction k with
        | zero =>
          intro l M2 hl l0 hA2 f2 e2 hL2 e
          have el : l = m := by
            have e' : l + 0 = m := e
            omega
          refine g_m_readsPart_50 _ _ _ _ _ _ ⟨⟨by omega, by omega⟩, fun _ => ?_, fun y => absurd (by omega) y⟩
          rw [el]
          exact beh M2 hA2 f2 (by rw [e2, el])
        | succ k ih =>
          intro l M2 hl l0 hA2 f2 e2 hL2 e
          have t2 : TM M2 b L (i + 1 + l) := t.to f2 (hA2 56 (by decide)) e2
          have tk2 := txk_b tb_ (show 0 ≤ i + 1 + l by omega)
          refine g_m_readsPart_50 _ _ _ _ _ _ ⟨⟨by omega, by omega⟩, fun y => absurd y (by omega), fun _ => m_peek_ (K := K + 1) tb_ t2 ⟨by omega, hL2⟩ ⟨⟨by omega, by omega⟩, fun q => ?_, fun q => ?_⟩⟩
          · have e' : mks b L (k + 1) (i + 1 + l) = 0 := if_neg q
            rw [e'] at e
            have el : l = m := by omega
            rw [el]
            exact beh M2 hA2 f2 (by rw [e2, el])
          · have lt := txk_lt (b := b) (L := L) (i := i + 1 + l) (by omega)
            have e' : mks b L (k + 1) (i + 1 + l) = 1 + mks b L k (i + 1 + l + 1) := if_pos q
            rw [e'] at e
            refine ih (l + 1) _ (by omega) (by omega) (hA2.set (by decide)) (f2.tr (F7.step M2 _)) (by rw [mset_eq, e2]; omega) (by omega) ?_
            rw [show i + 1 + (l + 1) = i + 1 + l + 1 by omega]
            omega
      exact loop 3 0 M1 (by decide) (by decide) (by rw [e1]; exact (Ag.rf _ _).set (by decide)) f1 (by rw [e1, mset_eq, t.1]; omega) (by omega) (by rw [Int.add_zero, Int.zero_add]; exact em.symm)
  · have ep : prt b L n i = (i, 0, 0, 0) := if_neg ph
    have := hf (by rw [ep]; show i ≠ -1; omega) M (Ag.rf _ _) (fun _ _ => rfl) (fun _ _ => rfl)
    rw [ep] at this
    refine m_isHouse_n (K := K) B ⟨by omega, by omega⟩ (by rw [en]; exact ph) ⟨by decide, fun y => absurd rfl y, fun _ => ?_⟩
    rw [t.1]
    exact this
