/-! TOLD, and which fund is best -/
def anyU (u : Int → Int) : Nat → Bool
  | 0 => false
  | k + 1 => anyU u k || decide (0 < u (k : Int))
theorem anyU_up {u : Int → Int} {k : Nat} (h : anyU u k = true) : ∀ n : Nat, k ≤ n → anyU u n = true := by
  intro n hn
  induction n with
  | zero => rw [show k = 0 by omega] at h; exact h
  | succ n ih =>
    by_cases q : k = n + 1
    · rw [← q]; exact h
    · rw [anyU, ih (by omega), Bool.true_or]
theorem x_hasUnits {K : Nat} {f : Int} {M : PM} {Q : Option PV → PM → Prop} (I : Iv M) (hf : 0 ≤ f ∧ f < 3) (hq : Q (some (.inl (b2i (anyU (un M f) 15)))) M) : Call (K + 2) jBook_hasUnits [.inr (.inr 1), .inl f] P0 P0 M Q := by
  have loop : ∀ (m k : Nat), k + m = 15 → anyU (un M f) k = false → G none (K + 1 + 1) jBook_hasUnits 9 [(0, .inr (.inr 1)), (2, .inl ((((f * 5) + 0) * 3) + 0)), (3, .inl (k : Int))] [] P0 P0 M Q := by
    intro m
    induction m with
    | zero =>
      intro k hk ha
      rw [show k = 15 by omega] at ha
      rw [ha] at hq
      exact g_bk_hasUnits_9 _ _ _ _ _ ⟨⟨by omega, by omega⟩, fun _ => hq, fun z => absurd (by omega) z⟩
    | succ m ih =>
      intro k hk ha
      have u := (un_b I hf (k := (k : Int)) (by omega) (by omega)).1
      have e : M 4 (((((f * 5) + 0) * 3) + 0) + (k : Int)) = un M f (k : Int) := by unfold un; congr 1; omega
      refine g_bk_hasUnits_9 _ _ _ _ _ ⟨⟨by omega, by omega⟩, fun z => absurd z (by omega), fun _ => ⟨⟨by omega, by omega⟩, by rw [e]; exact u.R, fun z => ?_, fun z => ?_⟩⟩
      · rw [e] at z
        have nx := ih (k + 1) (by omega) (by rw [anyU, ha, Bool.false_or]; exact decide_eq_false (by omega))
        rw [show ((k + 1 : Nat) : Int) = (k : Int) + 1 by omega] at nx
        exact nx
      · rw [e] at z
        have a : anyU (un M f) (k + 1) = true := by rw [anyU, ha, Bool.false_or]; exact decide_eq_true (by omega)
        rw [anyU_up a 15 (by omega)] at hq
        exact hq
  exact c_bk_hasUnits (K + 1) f M Q (c_book_unitPlace K f 0 0 M _ (loop 15 0 (by decide) rfl))
theorem m_hasUnits {K : Nat} {f : Int} {M : PM} {Q : Option PV → PM → Prop} (I : Iv M) (hf : 0 ≤ f ∧ f < 3) (hq : Q (some (.inl (b2i (anyU (un M f) 15)))) M) : Call (K + 1) jModel_hasUnits [.inr (.inr 52), .inl f] P0 P0 M Q := by
  have loop : ∀ (m k : Nat), k + m = 15 → G none (K + 1) jModel_hasUnits 4 [(0, .inr (.inr 52)), (1, .inl f), (2, .inl (b2i (anyU (un M f) k))), (3, .inl (k : Int))] [] P0 P0 M Q := by
    intro m
    induction m with
    | zero =>
      intro k hk
      rw [show k = 15 by omega]
      exact g_m_hasUnits_4 _ _ _ _ _ _ ⟨by decide, fun _ => ⟨by cases anyU (un M f) 15 <;> decide, hq⟩, fun z => absurd (by decide) z⟩
    | succ m ih =>
      intro k hk
      have u3 := un_b I hf (k := (k : Int)) (by omega) (by omega)
      have u := u3.1
      have nx := ih (k + 1) (by omega)
      rw [show ((k + 1 : Nat) : Int) = (k : Int) + 1 by omega, anyU] at nx
      refine g_m_hasUnits_4 _ _ _ _ _ _ ⟨⟨by omega, by omega⟩, fun z => absurd z (by omega), fun _ => ⟨b2i_R _, fun z => ?_, fun z => ⟨⟨by omega, by omega⟩, by rw [u3.2.2]; exact u.R, fun z2 => ?_, fun z2 => ?_⟩⟩⟩
      · rw [b2i_n0 z, Bool.true_or] at nx; exact nx
      · rw [u3.2.2] at z2
        rw [b2i_0.mp z, Bool.false_or, decide_eq_false (by omega)] at nx; exact nx
      · rw [u3.2.2] at z2
        rw [b2i_0.mp z, Bool.false_or, decide_eq_true (by omega)] at nx; exact nx
  exact c_m_hasUnits K f M Q (loop 15 0 (by decide))
theorem b_told {K : Nat} {f : Int} {M : PM} {C : Int → Int → PM → Prop} (I : Iv M) (h1 : R32 f) (hq : Ok32 C) : Bi (K + 22) jClearingWaves_told [.inr (.inr 0), .inl f] jModel_told [.inr (.inr 52), .inl f] M C := by
  unfold Bi
  by_cases pf : 0 ≤ f ∧ f < 3
  · refine c_x_told (K + 21) f M _ ⟨h1, fun z => absurd z (by omega), fun _ => ⟨fun _ => x_hasUnits (K := K + 19) I pf ⟨b2i_R _, fun z => ?_, fun z => ?_⟩, fun z => absurd pf.2 z⟩⟩
    · refine x_clr I (fun M1 X D hA hi h7 I1 cf => ⟨rfl, x_reckon (K := K + 17) I1 cf pf (fun M2 v hA2 rr => ?_)⟩)
      have I2 : Iv M2 := I1.scrx (hA2.mono (by decide))
      have cf2 : CF M2 X D := cf.of hA2 (by decide)
      have eu : un M2 f = un M1 f := by funext k; unfold un; rw [hA2 4 (by decide)]
      have eu0 : un M2 f = un M f := by funext k; unfold un; rw [hA2 4 (by decide), hA 4 (by decide)]
      have e11 : M2 11 = M1 11 := hA2 11 (by decide)
      have looks : ∀ (v : Int), (∀ M3, Iv M3 → Lk (un M1 f) (X (M1 11 0)) (D (M1 11 0)) M3 → R32 (M3 52 30) ∧ ((M3 52 30) = 0 → C v 1 M3) ∧ (¬ (M3 52 30) = 0 → C v (-6) M3)) → Call (K + 22) jModel_told [.inr (.inr 52), .inl f] P0 P0 M2 (retI fun r2 M' => C v r2 M') := fun v go =>
        c_m_told (K + 21) f M2 _ (m_isFund_y h1 pf ⟨by decide, fun _ => m_hasUnits (K := K + 20) I2 pf (by
          rw [eu0]
          exact ⟨b2i_R _, fun _ => m_looksAt (K := K + 5) I2 cf2 pf (fun M3 hA3 I3 lk => go M3 I3 (by rw [eu, e11] at lk; exact lk)), fun z2 => absurd z2 z⟩), fun z => absurd z (by decide)⟩)
      rcases rr with ⟨rn, v0⟩ | ⟨st, rs, v1, t0, t1⟩
      · rw [v0]
        refine ⟨by decide, fun _ => looks _ (fun M3 I3 lk => ?_), fun z => absurd rfl z⟩
        rcases lk with ⟨_, o⟩ | ⟨st, rs, _⟩
        · rw [o]; exact ⟨by decide, fun z => absurd z (by decide), fun _ => hq _ _ (by decide) I3⟩
        · rw [rn] at rs; exact absurd rs (by simp)
      · rw [v1]
        refine ⟨by decide, fun z => absurd z (by decide), fun _ => looks _ (fun M3 I3 lk => ?_)⟩
        rcases lk with ⟨rn, _⟩ | ⟨st2, rs2, o, q1, q2⟩
        · rw [rn] at rs; exact absurd rs (by simp)
        · rw [o]; exact ⟨by decide, fun _ => hq _ _ (by decide) I3, fun z => absurd rfl z⟩
    · exact c_m_told (K + 21) f M _ (m_isFund_y h1 pf ⟨by decide, fun _ => m_hasUnits (K := K + 20) I pf ⟨b2i_R _, fun z2 => absurd z z2, fun _ => hq _ _ (by decide) I⟩, fun z => absurd z (by decide)⟩)
  · have fin := c_m_told (K + 21) f M (retI fun r2 M' => C (-1) r2 M') (m_isFund_n h1 pf ⟨by decide, fun z => absurd rfl z, fun _ => hq _ _ (by decide) I⟩)
    exact c_x_told (K + 21) f M _ ⟨h1, fun _ => fin, fun z => ⟨fun z2 => absurd ⟨by omega, z2⟩ pf, fun _ => fin⟩⟩
