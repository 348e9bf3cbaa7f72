/-! FUND, told -/
theorem CF.of {l : List Nat} {M M' : PM} {X : Int → Int → Int → Int} {D : Int → Int} (cf : CF M X D) (hA : Ag l M M') (h : ∀ a, a ∈ [1, 2, 3, 11, 12, 13, 14, 15, 16] → a ∉ l) : CF M' X D := by
  have k : ∀ a, a ∈ [1, 2, 3, 11, 12, 13, 14, 15, 16] → M' a = M a := fun a ha => hA a (h a ha)
  unfold CF at cf ⊢
  have e : cp_X M' = cp_X M := by funext r h c; unfold cp_X; rw [k 13 (by decide)]
  rw [cp_g_of (k 1 (by decide)) (k 2 (by decide)) (k 3 (by decide)), k 1 (by decide), k 11 (by decide), k 12 (by decide), k 14 (by decide), k 15 (by decide), k 16 (by decide), xd_of (k 3 (by decide)), e]
  exact cf
def F3 (M M' : PM) : Prop := ∀ i, i ≠ 28 → i ≠ 29 → i ≠ 30 → M' 52 i = M 52 i
theorem Iv.f3 {M M' : PM} (I : Iv M) (hA : Ag [52] M M') (f : F3 M M') : Iv M' :=
  I.scrm (hA.mono (by decide)) (f 2 (by decide) (by decide) (by decide)) (f 6 (by decide) (by decide) (by decide)) (f 32 (by decide) (by decide) (by decide)) (I.2.2.2.2.2.2.2.of (f 4 (by decide) (by decide) (by decide)) (hA 55 (by decide)) (f 9 (by decide) (by decide) (by decide)) (f 13 (by decide) (by decide) (by decide)) (hA 58 (by decide)) (hA 59 (by decide)) (hA 60 (by decide)) (hA 61 (by decide)))
/-- what is known after the model has looked at a fund -/
def Lk (u : Int → Int) (X : Int → Int → Int) (D : Int) (M : PM) : Prop := (rk u X D 15 = none ∧ M 52 30 = 1) ∨ ∃ st, rk u X D 15 = some st ∧ M 52 30 = 0 ∧ M 52 28 = st.1 ∧ M 52 29 = st.2
theorem m_looksAt {K : Nat} {f : Int} {M : PM} {X : Int → Int → Int → Int} {D : Int → Int} {Q : Option PV → PM → Prop} (I : Iv M) (cf : CF M X D) (hf : 0 ≤ f ∧ f < 3)
    (hq : ∀ M', Ag trm M M' → Iv M' → Lk (un M f) (X (M 11 0)) (D (M 11 0)) M' → Q none M') : Call (K + 16) jModel_looksAt [.inr (.inr 52), .inl f] P0 P0 M Q := by
  refine c_m_looksAt (K + 15) f M Q (m_clrj I cf (fun M2 hA2 I2 cf2 j1 j2 j3 j4 j5 => ?_))
  have hw := cf.2.1
  have c := cf.2.2.1 (M 11 0) hw.1 (Int.le_refl _)
  have dp := D_P cf hw.1 (Int.le_refl _)
  have hX : ∀ h e, hs h → kl e → P63 (X (M 11 0) h e) := fun h e hh he => by have := c.2.1 h e hh he; exact ⟨this.1, by omega⟩
  have aW := j4 (M 11 0) hw.1 (by rw [j1]; exact Int.le_refl _)
  obtain ⟨R, hR⟩ : ∃ R, R = rk (un M f) (X (M 11 0)) (D (M 11 0)) := ⟨_, rfl⟩
  have fin : ∀ M3, Ag [52] M2 M3 → F3 M2 M3 → ((R 15 = none ∧ M3 52 30 = 1) ∨ ∃ st, R 15 = some st ∧ M3 52 30 = 0 ∧ M3 52 28 = st.1 ∧ M3 52 29 = st.2) → Q none M3 := fun M3 hA f3 lk => hq M3 (hA2.tr (hA.mono (by decide))) (I2.f3 hA f3) (by rw [hR] at lk; exact lk)
  have loop : ∀ (m k : Nat) (st : Int × Int) (M3 : PM), k + m = 15 → Ag [52] M2 M3 → F3 M2 M3 → R k = some st → M3 52 30 = 0 → M3 52 28 = st.1 → M3 52 29 = st.2 → G none (K + 15 + 1) jModel_looksAt 21 [(0, .inr (.inr 52)), (1, .inl f), (2, .inl (k : Int))] [] P0 P0 M3 Q := by
    intro m
    induction m with
    | zero =>
      intro k st M3 hk hA f3 hr t0 t1 t2
      exact g_m_looksAt_21 _ _ _ _ _ ⟨⟨by omega, by omega⟩, fun _ => fin M3 hA f3 (Or.inr ⟨st, by rw [show 15 = k by omega]; exact hr, t0, t1, t2⟩), fun z => absurd (by omega) z⟩
    | succ m ih =>
      intro k st M3 hk hA f3 hr t0 t1 t2
      have k15 : (k : Int) < 15 := by omega
      have b := rk_b dp.1 dp.2.1 hX (fun j j0 j1 => (un_b I hf j0 j1).1) k st (by omega) (by rw [← hR]; exact hr)
      have u3 := un_b I hf (k := (k : Int)) (by omega) k15
      have ub := u3.1
      have ed : Int.tdiv (k : Int) 3 = (k : Int) / 3 := td_ed (by omega)
      have em : Int.tmod (k : Int) 3 = (k : Int) % 3 := Int.tmod_eq_emod_of_nonneg (by omega)
      have hh : hs ((k : Int) / 3) := ⟨by omega, by omega⟩
      have hc : kl ((k : Int) % 3) := ⟨by omega, by omega⟩
      have e53 : M3 53 ((83 + (15 * f)) + (k : Int)) = un M f (k : Int) := by rw [hA 53 (by decide), hA2 53 (by decide)]; exact u3.2.2
      have e9 : M3 52 9 = M 11 0 := by rw [f3 9 (by decide) (by decide) (by decide)]; exact j1
      refine g_m_looksAt_21 _ _ _ _ _ ⟨⟨by omega, by omega⟩, fun z => absurd z (by omega), fun _ => ⟨by rw [t0]; decide, fun z => absurd t0 z, fun _ => ⟨⟨by omega, by omega⟩, ?_⟩⟩⟩
      rw [e53]
      refine ⟨ub.R, fun z => ?_, fun z => c_m_partAt _ _ _ _ _ _ ?_⟩
      · have nx := ih (k + 1) st M3 (by omega) hA f3 (by rw [hR] at hr ⊢; exact rk_skip hr (by omega)) t0 t1 t2
        rw [show ((k + 1 : Nat) : Int) = (k : Int) + 1 by omega] at nx
        exact nx
      · rw [ed, em, e9]
        refine ⟨⟨by omega, by omega⟩, ?_⟩
        have ex : M3 58 (((15 * M 11 0) + (3 * ((k : Int) / 3))) + (k : Int) % 3) = X (M 11 0) ((k : Int) / 3) ((k : Int) % 3) := by rw [hA 58 (by decide)]; exact aW.2 _ _ hh hc
        rw [ex]
        refine m_adds (K := K + 12) (hX _ _ hh hc) dp.1 dp.2.1 ub e9 hw (by rw [hA 59 (by decide)]; exact aW.1) t1 t2 t0 b.1 b.2.1 b.2.2.1 (fun M4 hA4 f4 r4 => ?_)
        have hA' : Ag [52] M2 M4 := hA.tr hA4
        have f' : F3 M2 M4 := fun i a1 a2 a3 => by rw [f4 i a1 a2 a3, f3 i a1 a2 a3]
        rcases r4 with ⟨ok, q0, q1, q2⟩ | ⟨no, q0⟩
        · have nx := ih (k + 1) _ M4 (by omega) hA' f' (by rw [hR] at hr ⊢; exact rk_yes hr (by omega) ok) q0 q1 q2
          rw [show ((k + 1 : Nat) : Int) = (k : Int) + 1 by omega] at nx
          exact nx
        · have rn : R (k + 1) = none := by rw [hR] at hr ⊢; exact rk_no hr (by omega) no
          have r15 : R 15 = none := by rw [hR] at rn ⊢; exact rk_none rn 15 (by omega)
          have fn := fin M4 hA' f' (Or.inl ⟨r15, q0⟩)
          exact g_m_looksAt_21 _ _ _ _ _ ⟨⟨by omega, by omega⟩, fun _ => fn, fun _ => ⟨by rw [q0]; decide, fun _ => fn, fun z2 => absurd z2 (by rw [q0]; decide)⟩⟩
  refine loop 15 0 (0, 1) _ (by decide) ((((Ag.rf _ _).set (by decide)).set (by decide)).set (by decide)) (fun i a1 a2 a3 => by rw [mset_at, if_neg a3, mset_at, if_neg a2, mset_at, if_neg a1]) (by rw [hR]; rfl) mset_eq (by rw [mset_at, if_neg (by decide), mset_at, if_neg (by decide), mset_eq]) (by rw [mset_at, if_neg (by decide), mset_eq])
theorem b_fund {K : Nat} {f w : Int} {M : PM} {C : Int → Int → PM → Prop} (I : Iv M) (h1 : R32 f) (h2 : R32 w) (hq : Ok64 C) : Bl (K + 22) jClearingWaves_fund [.inr (.inr 0), .inl f, .inl w] jModel_fund [.inr (.inr 52), .inl f, .inl w] M C := by
  unfold Bl
  by_cases pf : 0 ≤ f ∧ f < 3
  · refine c_x_fund (K + 21) f w M _ ⟨h1, fun z => absurd z (by omega), fun _ => ⟨fun z => absurd z (by omega), fun _ => x_clr I (fun M1 X D hA hi h7 I1 cf => ⟨rfl, x_reckon (K := K + 17) I1 cf pf (fun M2 v hA2 rr => ?_)⟩)⟩⟩
    have I2 : Iv M2 := I1.scrx (hA2.mono (by decide))
    have cf2 : CF M2 X D := cf.of hA2 (by decide)
    have hw := cf.2.1
    have c := cf.2.2.1 (M1 11 0) hw.1 (Int.le_refl _)
    have dp := D_P cf hw.1 (Int.le_refl _)
    have hX : ∀ h e, hs h → kl e → P63 (X (M1 11 0) h e) := fun h e hh he => by have := c.2.1 h e hh he; exact ⟨this.1, by omega⟩
    have eu : un M2 f = un M1 f := by funext k; unfold un; rw [hA2 4 (by decide)]
    have e11 : M2 11 = M1 11 := hA2 11 (by decide)
    have noside : ¬ (w = 0 ∨ w = 1) → Call (K + 22) jModel_fund [.inr (.inr 52), .inl f, .inl w] P0 P0 M2 (retL fun r2 M' => C (-9223372036854775808) r2 M') := fun no =>
      c_m_fund (K + 21) f w M2 _ (m_isFund_y h1 pf ⟨by decide, fun z => absurd z (by decide), fun _ => m_isSide_n h2 no ⟨by decide, fun z => absurd rfl z, fun _ => hq _ _ NO_R I2⟩⟩)
    have looks : ∀ (v : Int), (w = 0 ∨ w = 1) → (∀ M3, Iv M3 → Lk (un M1 f) (X (M1 11 0)) (D (M1 11 0)) M3 → R32 (M3 52 30) ∧ ((M3 52 30) = 0 → R32 w ∧ (¬ w = 0 → C v (M3 52 29) M3) ∧ (w = 0 → C v (M3 52 28) M3)) ∧ (¬ (M3 52 30) = 0 → C v (-9223372036854775808) M3)) → Call (K + 22) jModel_fund [.inr (.inr 52), .inl f, .inl w] P0 P0 M2 (retL fun r2 M' => C v r2 M') := fun v ok go =>
      c_m_fund (K + 21) f w M2 _ (m_isFund_y h1 pf ⟨by decide, fun z => absurd z (by decide), fun _ => m_isSide_y h2 ok ⟨by decide, fun _ => m_looksAt (K := K + 5) I2 cf2 pf (fun M3 hA3 I3 lk => go M3 I3 (by rw [eu, e11] at lk; exact lk)), fun z => absurd z (by decide)⟩⟩)
    rcases rr with ⟨rn, v0⟩ | ⟨st, rs, v1, t0, t1⟩
    · rw [v0]
      refine ⟨by decide, fun z => absurd rfl z, fun _ => ?_⟩
      by_cases ps : w = 0 ∨ w = 1
      · refine looks _ ps (fun M3 I3 lk => ?_)
        rcases lk with ⟨_, o⟩ | ⟨st, rs, _⟩
        · rw [o]; exact ⟨by decide, fun z => absurd z (by decide), fun _ => hq _ _ NO_R I3⟩
        · rw [rn] at rs; exact absurd rs (by simp)
      · exact noside ps
    · rw [v1]
      have b := rk_b dp.1 dp.2.1 hX (fun j j0 j1 => (un_b I1 pf j0 j1).1) 15 st (by decide) rs
      have pt : P63 st.1 := ⟨b.1.1, by have := b.1.2; omega⟩
      have pb : P63 st.2 := ⟨b.2.1.1, by have := b.2.1.2; omega⟩
      refine ⟨by decide, fun _ => ?_, fun z => absurd z (by decide)⟩
      rw [t0, t1]
      by_cases ps : w = 0 ∨ w = 1
      · refine x_tell pt pb b.2.2.1 h2 ps (looks _ ps (fun M3 I3 lk => ?_))
        rcases lk with ⟨rn, _⟩ | ⟨st2, rs2, o, q1, q2⟩
        · rw [rn] at rs; exact absurd rs (by simp)
        · have e : st = st2 := by rw [rs] at rs2; injection rs2
          rw [o, q1, q2, ← e, tlw_id b.2.2.2]
          refine ⟨by decide, fun _ => ⟨h2, fun z => ?_, fun z => ?_⟩, fun z => absurd rfl z⟩
          · rw [if_neg z]; exact hq _ _ pb.R I3
          · rw [if_pos z]; exact hq _ _ pt.R I3
      · exact x_tell_n h2 ps (noside ps)
  · have fin := c_m_fund (K + 21) f w M (retL fun r2 M' => C (-9223372036854775808) r2 M') (m_isFund_n h1 pf ⟨by decide, fun _ => hq _ _ NO_R I, fun z => absurd rfl z⟩)
    exact c_x_fund (K + 21) f w M _ ⟨h1, fun _ => fin, fun _ => ⟨fun _ => fin, fun z => absurd ⟨by omega, by omega⟩ pf⟩⟩
