/-! BEST: the fund that is worth most -/
def bsf (u : Int → Int → Int) (X : Int → Int → Int) (D : Int) : Nat → Int × Int × Int
  | 0 => (-5, 0, 1)
  | f + 1 => if anyU (u (f : Int)) 15 = true then (match rk (u (f : Int)) X D 15 with
      | none => bsf u X D f
      | some st => if (bsf u X D f).1 < 0 ∨ 0 < cmp st.1 st.2 (bsf u X D f).2.1 (bsf u X D f).2.2 then ((f : Int), st.1, st.2) else bsf u X D f) else bsf u X D f
theorem bsf_0 {u : Int → Int → Int} {X : Int → Int → Int} {D : Int} {f : Nat} (h : anyU (u (f : Int)) 15 = false) : bsf u X D (f + 1) = bsf u X D f := by rw [bsf, h]; exact if_neg (by decide)
theorem bsf_n {u : Int → Int → Int} {X : Int → Int → Int} {D : Int} {f : Nat} (h : rk (u (f : Int)) X D 15 = none) : bsf u X D (f + 1) = bsf u X D f := by
  rw [bsf, h]
  split <;> rfl
theorem bsf_s {u : Int → Int → Int} {X : Int → Int → Int} {D : Int} {f : Nat} {st : Int × Int} (ha : anyU (u (f : Int)) 15 = true) (h : rk (u (f : Int)) X D 15 = some st) : bsf u X D (f + 1) = if (bsf u X D f).1 < 0 ∨ 0 < cmp st.1 st.2 (bsf u X D f).2.1 (bsf u X D f).2.2 then ((f : Int), st.1, st.2) else bsf u X D f := by
  rw [bsf, h, ha]
  exact if_pos rfl
theorem bsf_b {u : Int → Int → Int} {X : Int → Int → Int} {D : Int} (hD : P63 D) (hD0 : 0 < D) (hX : ∀ h c, hs h → kl c → P63 (X h c)) (hu : ∀ f : Int, 0 ≤ f → f < 3 → ∀ k : Int, 0 ≤ k → k < 15 → P_1 (u f k)) : ∀ f : Nat, f ≤ 3 → (-5 ≤ (bsf u X D f).1 ∧ (bsf u X D f).1 < (f : Int)) ∧ P63 (bsf u X D f).2.1 ∧ P63 (bsf u X D f).2.2 ∧ 0 < (bsf u X D f).2.2 := by
  intro f
  induction f with
  | zero => intro _; exact ⟨⟨by show (-5 : Int) ≤ -5; decide, by show (-5 : Int) < 0; decide⟩, by show P63 0; decide, by show P63 1; decide, by show (0 : Int) < 1; decide⟩
  | succ f ih =>
    intro hf
    have i := ih (by omega)
    cases a : anyU (u (f : Int)) 15
    · rw [bsf_0 a]; exact ⟨⟨i.1.1, by omega⟩, i.2⟩
    · cases r : rk (u (f : Int)) X D 15 with
      | none => rw [bsf_n r]; exact ⟨⟨i.1.1, by omega⟩, i.2⟩
      | some st =>
        have b := rk_b hD hD0 hX (hu (f : Int) (by omega) (by omega)) 15 st (by decide) r
        rw [bsf_s a r]
        split
        · exact ⟨⟨by show -5 ≤ (f : Int); omega, by show (f : Int) < ((f + 1 : Nat) : Int); omega⟩, ⟨b.1.1, by show st.1 < _; have := b.1.2; omega⟩, ⟨b.2.1.1, by show st.2 < _; have := b.2.1.2; omega⟩, b.2.2.1⟩
        · exact ⟨⟨i.1.1, by omega⟩, i.2⟩
abbrev xbest (s : Int × Int × Int) (f : Int) : List (Nat × PV) := [(0, .inr (.inr 0)), (1, .inl s.1), (2, .inr (.inl s.2.1)), (4, .inr (.inl s.2.2)), (6, .inl f)]
abbrev mbest (s : Int × Int × Int) (f : Int) : List (Nat × PV) := [(0, .inr (.inr 52)), (1, .inl s.1), (2, .inr (.inl s.2.1)), (4, .inr (.inl s.2.2)), (6, .inl f)]
/-- where nothing is held, the model looks and sees nothing -/
theorem m_looks0 {K : Nat} {f : Int} {M : PM} {Q : Option PV → PM → Prop} (I : Iv M) (hf : 0 ≤ f ∧ f < 3) (ha : anyU (un M f) 15 = false) (hq : ∀ M', Ag trm M M' → Iv M' → Q none M') : Call (K + 16) jModel_looksAt [.inr (.inr 52), .inl f] P0 P0 M Q := by
  refine c_m_looksAt (K + 15) f M Q (m_clr2 I (fun M2 hA2 hi mc I2 => ?_))
  have no : ∀ k : Nat, k < 15 → ¬ 0 < un M f (k : Int) := fun k hk z => by
    have : anyU (un M f) (k + 1) = true := by rw [anyU, decide_eq_true z, Bool.or_true]
    rw [anyU_up this 15 (by omega)] at ha
    exact absurd ha (by decide)
  obtain ⟨M3, h3⟩ : ∃ M3, M3 = mset (mset (mset M2 52 28 0) 52 29 1) 52 30 0 := ⟨_, rfl⟩
  show G none (K + 15 + 1) jModel_looksAt 21 [(0, .inr (.inr 52)), (1, .inl f), (2, .inl 0)] [] P0 P0 (mset (mset (mset M2 52 28 0) 52 29 1) 52 30 0) Q
  rw [← h3]
  have hA : Ag [52] M2 M3 := by rw [h3]; exact (((Ag.rf _ _).set (by decide)).set (by decide)).set (by decide)
  have f3 : F3 M2 M3 := fun i a1 a2 a3 => by rw [h3, mset_at, if_neg a3, mset_at, if_neg a2, mset_at, if_neg a1]
  have t0 : M3 52 30 = 0 := by rw [h3, mset_eq]
  have fin : Q none M3 := hq M3 (hA2.tr (hA.mono (by decide))) (I2.f3 hA f3)
  have loop : ∀ (m k : Nat), k + m = 15 → G none (K + 15 + 1) jModel_looksAt 21 [(0, .inr (.inr 52)), (1, .inl f), (2, .inl (k : Int))] [] P0 P0 M3 Q := by
    intro m
    induction m with
    | zero => intro k hk; exact g_m_looksAt_21 _ _ _ _ _ ⟨⟨by omega, by omega⟩, fun _ => fin, fun z => absurd (by omega) z⟩
    | succ m ih =>
      intro k hk
      have u3 := un_b I hf (k := (k : Int)) (by omega) (by omega)
      have e53 : M3 53 ((83 + (15 * f)) + (k : Int)) = un M f (k : Int) := by rw [hA 53 (by decide), hA2 53 (by decide)]; exact u3.2.2
      have nx := ih (k + 1) (by omega)
      rw [show ((k + 1 : Nat) : Int) = (k : Int) + 1 by omega] at nx
      refine g_m_looksAt_21 _ _ _ _ _ ⟨⟨by omega, by omega⟩, fun z => absurd z (by omega), fun _ => ⟨by rw [t0]; decide, fun z => absurd t0 z, fun _ => ⟨⟨by omega, by omega⟩, by rw [e53]; exact u3.1.R, fun _ => nx, fun z => absurd (by rw [e53]; have := no k (by omega); omega) z⟩⟩⟩
  exact loop 15 0 (by decide)
theorem b_best {K : Nat} {M : PM} {C : Int → Int → PM → Prop} (I : Iv M) (hq : Ok32 C) : Bi (K + 22) jClearingWaves_best [.inr (.inr 0)] jModel_best [.inr (.inr 52)] M C := by
  unfold Bi
  -- the model, where nothing is held
  have m0 : ∀ (M1 : PM), Iv M1 → (∀ f : Nat, f < 3 → anyU (un M1 (f : Int)) 15 = false) → Call (K + 22) jModel_best [.inr (.inr 52)] P0 P0 M1 (retI fun r2 M' => C (-5) r2 M') := by
    intro M1 I1 no
    have loop : ∀ (m f : Nat) (M2 : PM), f + m = 3 → Ag trm M1 M2 → Iv M2 → G none (K + 21 + 1) jModel_best 11 (mbest (-5, 0, 1) (f : Int)) [] P0 P0 M2 (retI fun r2 M' => C (-5) r2 M') := by
      intro m
      induction m with
      | zero => intro f M2 hf hA I2; exact g_m_best_11 _ _ _ _ _ _ _ ⟨⟨by omega, by omega⟩, fun _ => hq _ _ (by decide) I2, fun z => absurd (by omega) z⟩
      | succ m ih =>
        intro f M2 hf hA I2
        have e : ∀ M3, M3 4 = M1 4 → un M3 (f : Int) = un M1 (f : Int) := fun M3 h => by funext k; unfold un; rw [h]
        have a2 : anyU (un M2 (f : Int)) 15 = false := by rw [e M2 (hA 4 (by decide))]; exact no f (by omega)
        refine g_m_best_11 _ _ _ _ _ _ _ ⟨⟨by omega, by omega⟩, fun z => absurd z (by omega), fun _ => m_looks0 (K := K + 5) I2 ⟨by omega, by omega⟩ a2 (fun M3 hA3 I3 => m_hasUnits (K := K + 20) I3 ⟨by omega, by omega⟩ ?_)⟩
        rw [e M3 (by rw [hA3 4 (by decide), hA 4 (by decide)]), no f (by omega)]
        have nx := ih (f + 1) M3 (by omega) (hA.tr hA3) I3
        rw [show ((f + 1 : Nat) : Int) = (f : Int) + 1 by omega] at nx
        exact ⟨by decide, fun _ => nx, fun z => absurd rfl z⟩
    exact c_m_best (K + 21) M1 _ (loop 3 0 M1 (by decide) (Ag.rf _ _) I1)
  -- the model, where the class has cleared
  have m1 : ∀ (M1 : PM) (X : Int → Int → Int → Int) (D : Int → Int), Iv M1 → CF M1 X D → Call (K + 22) jModel_best [.inr (.inr 52)] P0 P0 M1 (retI fun r2 M' => C (bsf (un M1) (X (M1 11 0)) (D (M1 11 0)) 3).1 r2 M') := by
    intro M1 X D I1 cf
    have hw := cf.2.1
    have c := cf.2.2.1 (M1 11 0) hw.1 (Int.le_refl _)
    have dp := D_P cf hw.1 (Int.le_refl _)
    have hX : ∀ h e, hs h → kl e → P63 (X (M1 11 0) h e) := fun h e hh he => by have := c.2.1 h e hh he; exact ⟨this.1, by omega⟩
    have hu : ∀ f : Int, 0 ≤ f → f < 3 → ∀ k : Int, 0 ≤ k → k < 15 → P_1 (un M1 f k) := fun f f0 f1 k k0 k1 => (un_b I1 ⟨f0, f1⟩ k0 k1).1
    obtain ⟨S, hS⟩ : ∃ S, S = bsf (un M1) (X (M1 11 0)) (D (M1 11 0)) := ⟨_, rfl⟩
    have Sb : ∀ f : Nat, f ≤ 3 → (-5 ≤ (S f).1 ∧ (S f).1 < (f : Int)) ∧ P63 (S f).2.1 ∧ P63 (S f).2.2 ∧ 0 < (S f).2.2 := fun f hf => by rw [hS]; exact bsf_b dp.1 dp.2.1 hX hu f hf
    rw [← hS]
    have loop : ∀ (m f : Nat) (M2 : PM), f + m = 3 → Ag trm M1 M2 → Iv M2 → G none (K + 21 + 1) jModel_best 11 (mbest (S f) (f : Int)) [] P0 P0 M2 (retI fun r2 M' => C (S 3).1 r2 M') := by
      intro m
      induction m with
      | zero =>
        intro f M2 hf hA I2
        have b := Sb f (by omega)
        refine g_m_best_11 _ _ _ _ _ _ _ ⟨⟨by omega, by omega⟩, fun _ => ?_, fun z => absurd (by omega) z⟩
        show C (S 3).1 (S f).1 M2
        rw [show f = 3 by omega] at b ⊢
        exact hq _ _ ⟨by omega, by omega⟩ I2
      | succ m ih =>
        intro f M2 hf hA I2
        have b := Sb f (by omega)
        have e : ∀ M3, M3 4 = M1 4 → un M3 (f : Int) = un M1 (f : Int) := fun M3 h => by funext k; unfold un; rw [h]
        have cf2 : CF M2 X D := cf.of hA (by decide)
        refine g_m_best_11 _ _ _ _ _ _ _ ⟨⟨by omega, by omega⟩, fun z => absurd z (by omega), fun _ => m_looksAt (K := K + 5) I2 cf2 ⟨by omega, by omega⟩ (fun M3 hA3 I3 lk => m_hasUnits (K := K + 20) I3 ⟨by omega, by omega⟩ ?_)⟩
        rw [e M2 (hA 4 (by decide)), hA 11 (by decide)] at lk
        rw [e M3 (by rw [hA3 4 (by decide), hA 4 (by decide)])]
        have nx := ih (f + 1) M3 (by omega) (hA.tr hA3) I3
        rw [show ((f + 1 : Nat) : Int) = (f : Int) + 1 by omega] at nx
        refine ⟨b2i_R _, fun z => ?_, fun z => ?_⟩
        · rw [hS] at nx ⊢
          rw [bsf_0 (b2i_0.mp z)] at nx
          exact nx
        · have ha := b2i_n0 z
          rcases lk with ⟨rn, o⟩ | ⟨st, rs, o, q1, q2⟩
          · have es : S (f + 1) = S f := by rw [hS]; exact bsf_n rn
            rw [es] at nx
            rw [o]
            exact ⟨by decide, fun _ => nx, fun z2 => absurd z2 (by decide)⟩
          · have rb := rk_b dp.1 dp.2.1 hX (hu (f : Int) (by omega) (by omega)) 15 st (by decide) rs
            have es : S (f + 1) = if (S f).1 < 0 ∨ 0 < cmp st.1 st.2 (S f).2.1 (S f).2.2 then ((f : Int), st.1, st.2) else S f := by rw [hS]; exact bsf_s ha rs
            rw [es] at nx
            rw [o]
            refine ⟨by decide, fun z2 => absurd rfl z2, fun _ => ⟨⟨by omega, by omega⟩, fun z2 => ?_, fun z2 => ?_⟩⟩
            · rw [if_pos (Or.inl z2)] at nx
              rw [q1, q2]
              exact nx
            · rw [q1, q2]
              refine m_compared ⟨rb.1.1, by have := rb.1.2; omega⟩ ⟨rb.2.1.1, by have := rb.2.1.2; omega⟩ b.2.1 b.2.2.1 rb.2.2.1 b.2.2.2 ⟨cmp_R, fun z3 => ?_, fun z3 => ?_⟩
              · rw [if_neg (by omega)] at nx; exact nx
              · rw [if_pos (by omega)] at nx
                rw [q1, q2]
                exact nx
    have l := loop 3 0 M1 (by decide) (Ag.rf _ _) I1
    rw [show S 0 = (-5, 0, 1) by rw [hS]; rfl] at l
    exact c_m_best (K + 21) M1 _ l
  -- the class, once it has cleared
  have tail : ∀ (M1 : PM) (X : Int → Int → Int → Int) (D : Int → Int), Iv M1 → CF M1 X D → M1 0 7 = 0 → ∀ (S : Nat → Int × Int × Int), S = bsf (un M1) (X (M1 11 0)) (D (M1 11 0)) → ∀ (m f : Nat) (M2 : PM), f + m = 3 → Ag [42] M1 M2 → (G none (K + 21 + 1) jClearingWaves_best 11 (xbest (S f) (f : Int)) [] P0 P0 M2 (retI fun r1 M3 => Call (K + 22) jModel_best [.inr (.inr 52)] P0 P0 M3 (retI fun r2 M' => C r1 r2 M'))) ∧
      (f < 3 → anyU (un M1 (f : Int)) 15 = true → Call (K + 21) jWorth_reckon [.inr (.inr 42), .inr (.inr 1), .inr (.inr 11), .inl (f : Int)] P0 P0 M2 (retI fun r7 M8 => R32 r7 ∧ (¬ r7 = 0 → R32 (S f).1 ∧ ((S f).1 < 0 → G none (K + 21 + 1) jClearingWaves_best 11 [(0, .inr (.inr 0)), (1, .inl (f : Int)), (2, .inr (.inl (M8 42 0))), (4, .inr (.inl (M8 42 1))), (6, .inl ((f : Int) + 1))] [] P0 P0 M8 (retI fun r1 M3 => Call (K + 22) jModel_best [.inr (.inr 52)] P0 P0 M3 (retI fun r2 M' => C r1 r2 M'))) ∧ (¬ (S f).1 < 0 → Call (K + 21) jRatio_order [.inr (.inl (M8 42 0)), .inr (.inl (M8 42 1)), .inr (.inl (S f).2.1), .inr (.inl (S f).2.2)] P0 P0 M8 (retI fun r11 M12 => R32 r11 ∧ (r11 ≤ 0 → G none (K + 21 + 1) jClearingWaves_best 11 (xbest (S f) ((f : Int) + 1)) [] P0 P0 M12 (retI fun r1 M3 => Call (K + 22) jModel_best [.inr (.inr 52)] P0 P0 M3 (retI fun r2 M' => C r1 r2 M'))) ∧ (¬ r11 ≤ 0 → G none (K + 21 + 1) jClearingWaves_best 11 [(0, .inr (.inr 0)), (1, .inl (f : Int)), (2, .inr (.inl (M12 42 0))), (4, .inr (.inl (M12 42 1))), (6, .inl ((f : Int) + 1))] [] P0 P0 M12 (retI fun r1 M3 => Call (K + 22) jModel_best [.inr (.inr 52)] P0 P0 M3 (retI fun r2 M' => C r1 r2 M')))))) ∧ (r7 = 0 → G none (K + 21 + 1) jClearingWaves_best 11 (xbest (S f) ((f : Int) + 1)) [] P0 P0 M8 (retI fun r1 M3 => Call (K + 22) jModel_best [.inr (.inr 52)] P0 P0 M3 (retI fun r2 M' => C r1 r2 M'))))) := by
    intro M1 X D I1 cf h7 S hS
    have hw := cf.2.1
    have c := cf.2.2.1 (M1 11 0) hw.1 (Int.le_refl _)
    have dp := D_P cf hw.1 (Int.le_refl _)
    have hX : ∀ h e, hs h → kl e → P63 (X (M1 11 0) h e) := fun h e hh he => by have := c.2.1 h e hh he; exact ⟨this.1, by omega⟩
    have hu : ∀ f : Int, 0 ≤ f → f < 3 → ∀ k : Int, 0 ≤ k → k < 15 → P_1 (un M1 f k) := fun f f0 f1 k k0 k1 => (un_b I1 ⟨f0, f1⟩ k0 k1).1
    have Sb : ∀ f : Nat, f ≤ 3 → (-5 ≤ (S f).1 ∧ (S f).1 < (f : Int)) ∧ P63 (S f).2.1 ∧ P63 (S f).2.2 ∧ 0 < (S f).2.2 := fun f hf => by rw [hS]; exact bsf_b dp.1 dp.2.1 hX hu f hf
    have e : ∀ M3, Ag [42] M1 M3 → un M3 = un M1 := fun M3 h => by funext f k; unfold un; rw [h 4 (by decide)]
    intro m
    induction m with
    | zero =>
      intro f M2 hf hA
      have I2 : Iv M2 := I1.scrx (hA.mono (by decide))
      refine ⟨g_x_best_11 _ _ _ _ _ _ _ ⟨⟨by omega, by omega⟩, fun _ => ?_, fun z => absurd (by omega) z⟩, fun h => by omega⟩
      have mm := m1 M2 X D I2 (cf.of hA (by decide))
      rw [e M2 hA, hA 11 (by decide), ← hS] at mm
      rw [show f = 3 by omega]
      exact mm
    | succ m ih =>
      intro f M2 hf hA
      have b := Sb f (by omega)
      have I2 : Iv M2 := I1.scrx (hA.mono (by decide))
      have cf2 : CF M2 X D := cf.of hA (by decide)
      have rest := fun (ha : anyU (un M1 (f : Int)) 15 = true) => x_reckon (K := K + 17) (f := (f : Int)) (Q := retI fun r7 M8 => R32 r7 ∧ (¬ r7 = 0 → R32 (S f).1 ∧ ((S f).1 < 0 → G none (K + 21 + 1) jClearingWaves_best 11 [(0, .inr (.inr 0)), (1, .inl (f : Int)), (2, .inr (.inl (M8 42 0))), (4, .inr (.inl (M8 42 1))), (6, .inl ((f : Int) + 1))] [] P0 P0 M8 (retI fun r1 M3 => Call (K + 22) jModel_best [.inr (.inr 52)] P0 P0 M3 (retI fun r2 M' => C r1 r2 M'))) ∧ (¬ (S f).1 < 0 → Call (K + 21) jRatio_order [.inr (.inl (M8 42 0)), .inr (.inl (M8 42 1)), .inr (.inl (S f).2.1), .inr (.inl (S f).2.2)] P0 P0 M8 (retI fun r11 M12 => R32 r11 ∧ (r11 ≤ 0 → G none (K + 21 + 1) jClearingWaves_best 11 (xbest (S f) ((f : Int) + 1)) [] P0 P0 M12 (retI fun r1 M3 => Call (K + 22) jModel_best [.inr (.inr 52)] P0 P0 M3 (retI fun r2 M' => C r1 r2 M'))) ∧ (¬ r11 ≤ 0 → G none (K + 21 + 1) jClearingWaves_best 11 [(0, .inr (.inr 0)), (1, .inl (f : Int)), (2, .inr (.inl (M12 42 0))), (4, .inr (.inl (M12 42 1))), (6, .inl ((f : Int) + 1))] [] P0 P0 M12 (retI fun r1 M3 => Call (K + 22) jModel_best [.inr (.inr 52)] P0 P0 M3 (retI fun r2 M' => C r1 r2 M')))))) ∧ (r7 = 0 → G none (K + 21 + 1) jClearingWaves_best 11 (xbest (S f) ((f : Int) + 1)) [] P0 P0 M8 (retI fun r1 M3 => Call (K + 22) jModel_best [.inr (.inr 52)] P0 P0 M3 (retI fun r2 M' => C r1 r2 M')))) I2 cf2 ⟨by omega, by omega⟩ (fun M3 v hA3 rr => by
        rw [e M2 hA, hA 11 (by decide)] at rr
        have nx := (ih (f + 1) M3 (by omega) (hA.tr hA3)).1
        rw [show ((f + 1 : Nat) : Int) = (f : Int) + 1 by omega] at nx
        rcases rr with ⟨rn, v0⟩ | ⟨st, rs, v1, t0, t1⟩
        · have es : S (f + 1) = S f := by rw [hS]; exact bsf_n rn
          rw [es] at nx
          rw [v0]
          exact ⟨by decide, fun z => absurd rfl z, fun _ => nx⟩
        · have rb := rk_b dp.1 dp.2.1 hX (hu (f : Int) (by omega) (by omega)) 15 st (by decide) rs
          have es : S (f + 1) = if (S f).1 < 0 ∨ 0 < cmp st.1 st.2 (S f).2.1 (S f).2.2 then ((f : Int), st.1, st.2) else S f := by rw [hS]; exact bsf_s ha rs
          rw [es] at nx
          rw [v1]
          refine ⟨by decide, fun _ => ⟨⟨by omega, by omega⟩, fun z2 => ?_, fun z2 => ?_⟩, fun z => absurd z (by decide)⟩
          · rw [if_pos (Or.inl z2)] at nx
            rw [t0, t1]
            exact nx
          · rw [t0, t1]
            refine x_order ⟨rb.1.1, by have := rb.1.2; omega⟩ ⟨rb.2.1.1, by have := rb.2.1.2; omega⟩ b.2.1 b.2.2.1 rb.2.2.1 b.2.2.2 ⟨cmp_R, fun z3 => ?_, fun z3 => ?_⟩
            · rw [if_neg (by omega)] at nx; exact nx
            · rw [if_pos (by omega)] at nx
              rw [t0, t1]
              exact nx)
      refine ⟨g_x_best_11 _ _ _ _ _ _ _ ⟨⟨by omega, by omega⟩, fun z => absurd z (by omega), fun _ => x_hasUnits (K := K + 19) I2 ⟨by omega, by omega⟩ ?_⟩, fun _ ha => rest ha⟩
      rw [e M2 hA]
      refine ⟨b2i_R _, fun z => ?_, fun z => x_clr0 (by rw [hA 0 (by decide)]; exact h7) ⟨rfl, rest (b2i_n0 z)⟩⟩
      have nx := (ih (f + 1) M2 (by omega) hA).1
      rw [show ((f + 1 : Nat) : Int) = (f : Int) + 1 by omega] at nx
      have es : S (f + 1) = S f := by rw [hS]; exact bsf_0 (b2i_0.mp z)
      rw [es] at nx
      exact nx
  have head : ∀ (m f : Nat), f + m = 3 → (∀ j : Nat, j < f → anyU (un M (j : Int)) 15 = false) → G none (K + 21 + 1) jClearingWaves_best 11 (xbest (-5, 0, 1) (f : Int)) [] P0 P0 M (retI fun r1 M3 => Call (K + 22) jModel_best [.inr (.inr 52)] P0 P0 M3 (retI fun r2 M' => C r1 r2 M')) := by
    intro m
    induction m with
    | zero =>
      intro f hf no
      exact g_x_best_11 _ _ _ _ _ _ _ ⟨⟨by omega, by omega⟩, fun _ => m0 M I (fun j hj => no j (by omega)), fun z => absurd (by omega) z⟩
    | succ m ih =>
      intro f hf no
      refine g_x_best_11 _ _ _ _ _ _ _ ⟨⟨by omega, by omega⟩, fun z => absurd z (by omega), fun _ => x_hasUnits (K := K + 19) I ⟨by omega, by omega⟩ ⟨b2i_R _, fun z => ?_, fun z => ?_⟩⟩
      · have nx := ih (f + 1) (by omega) (fun j hj => Classical.byCases (fun q : j = f => by rw [q]; exact b2i_0.mp z) (fun q => no j (by omega)))
        rw [show ((f + 1 : Nat) : Int) = (f : Int) + 1 by omega] at nx
        exact nx
      · refine x_clr (K := K + 15) I (fun M1 X D hA hi h7 I1 cf => ⟨rfl, ?_⟩)
        have e : un M1 = un M := by funext f k; unfold un; rw [hA 4 (by decide)]
        have s0 : ∀ j : Nat, j ≤ f → bsf (un M1) (X (M1 11 0)) (D (M1 11 0)) j = (-5, 0, 1) := by
          intro j
          induction j with
          | zero => intro _; rfl
          | succ j ihj => intro hj; rw [bsf_0 (by rw [e]; exact no j (by omega))]; exact ihj (by omega)
        have t := (tail M1 X D I1 cf h7 _ rfl (m + 1) f M1 (by omega) (Ag.rf _ _)).2 (by omega) (by rw [e]; exact b2i_n0 z)
        rw [s0 f (Nat.le_refl f)] at t
        exact t
  exact c_x_best (K + 21) M _ (head 3 0 (by decide) (fun j hj => by omega))
