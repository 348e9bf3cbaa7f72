theorem b_lay {K : Nat} {a i : Int} {M : PM} {C : Int → Int → PM → Prop} (I : Iv M) (h1 : R32 a) (h2 : R32 i) (hq : Ok32 C) : Bi (K + 22) jClearingWaves_lay [.inr (.inr 0), .inl a, .inl i] jModel_lay [.inr (.inr 52), .inl a, .inl i] M C := by
  have R0 := I.2.2.2.2.1
  unfold Bi
  by_cases pa : 0 ≤ a ∧ a < 4
  · have r0 := R0 a pa.1 pa.2
    by_cases ph : M 50 a = -1
    · refine c_x_lay (K + 21) a i M _ (ro_has_y h1 pa ⟨by decide, fun _ => ro_holds_n R0 pa ph ⟨by decide, fun q => absurd rfl q, fun _ => ?_⟩, fun q => absurd q (by decide)⟩)
      exact c_m_lay (K + 21) a i M _ (m_isRow_y h1 pa ⟨by decide, fun _ => ⟨pa, by rw [← r0.1, ph]; decide, fun q => absurd (by rw [← r0.1]; exact ph) q, fun _ => hq _ _ (by decide) I⟩, fun q => absurd q (by decide)⟩)
    · refine c_x_lay (K + 21) a i M _ (ro_has_y h1 pa ⟨by decide, fun _ => ro_holds_y R0 pa ph ⟨by decide, fun _ => x_clr (K := K + 15) I (fun M1 X D hA hi h7 I1 cf => ⟨rfl, x_lay (K := K + 17) I1 cf pa h1 h2 (fun M2 m hA2 mf l => ?_)⟩), fun q => absurd q (by decide)⟩, fun q => absurd q (by decide)⟩)
      have R := I1.2.2.2.2.1
      have r := R a pa.1 pa.2
      have ph1 : ¬ M1 50 a = -1 := by rw [hA 50 (by decide)]; exact ph
      have hw := cf.2.1
      have c := cf.2.2.1 (M1 11 0) hw.1 (Int.le_refl _)
      have hn := I1.1.xb.1
      have IB2 : IvB M2 := I1.1.of (hA2 1 (by decide)) (hA2 2 (by decide)) (hA2 3 (by decide)) (hA2 4 (by decide)) (hA2 53 (by decide)) (hA2 55 (by decide))
      have n52 : M2 52 = M1 52 := hA2 52 (by decide)
      have IM2 : IvM M2 := I1.2.2.2.2.2.2.2.of (by rw [n52]) (hA2 55 (by decide)) (by rw [n52]) (by rw [n52]) (hA2 58 (by decide)) (hA2 59 (by decide)) (hA2 60 (by decide)) (hA2 61 (by decide))
      have e73 : M2 73 = M1 73 := hA2 73 (by decide)
      refine c_m_lay (K + 21) a i M2 _ (m_isRow_y h1 pa ⟨by decide, fun _ => ⟨pa, by rw [e73, ← r.1]; exact ⟨by omega, by omega⟩, fun _ => m_clrB (K := K + 6) IB2 IM2 (fun M3 hA3 fs mk IM3 IB3 => ?_), fun q => absurd (by rw [← q, e73, r.1]) ph1⟩, fun q => absurd q (by decide)⟩)
      obtain ⟨j1, j2, j3, j4⟩ := jm_ofB (cf.of hA2 (by decide)) IB3 hA3 mk.1
      rw [hA2 11 (by decide)] at j1
      have aW := j4 (M1 11 0) hw.1 (by rw [j1]; exact Int.le_refl _)
      have f73 : M3 73 = M1 73 := by rw [hA3 73 (by decide), e73]
      have en : M3 55 0 = M1 1 0 := by rw [IB3.n, hA3 1 (by decide), hA2 1 (by decide)]
      show G none (K + 21 + 1) jModel_lay 40 [(0, .inr (.inr 52)), (1, .inl a), (2, .inl i), (3, .inl (3 * M3 55 0 + 1)), (4, .inl 0)] [] P0 P0 M3 _
      rw [en]
      refine m_lay (K := K + 17) (n := M1 1 0) (X := X (M1 11 0)) (D := D (M1 11 0)) pa (by rw [f73, ← r.1]; exact r.2.1) h2 en hn j1 hw aW.1 aW.2 (fun M4 m' hA4 mf' l' => ?_)
      rw [f73, ← r.1] at mf'
      have em : m' = m := mf'.uniq mf
      rw [em, show M3 72 = M1 72 by rw [hA3 72 (by decide), hA2 72 (by decide)]] at l'
      have kx : ∀ c, c ∉ [72] → c ∉ trm → c ∉ [51] → M4 c = M1 c := fun c a b d => by rw [hA4 c a, hA3 c b, hA2 c d]
      have hAll : Ag (scr ++ [50, 51, 72, 73]) M1 M4 := fun c hc => kx c (fun z => hc (by revert z; simp; omega)) (fun z => hc (by revert z; simp; omega)) (fun z => hc (by revert z; simp; omega))
      have k0 : M4 0 = M1 0 := kx 0 (by decide) (by decide) (by decide)
      have f52 : ∀ i, i ≠ 4 → i ≠ 9 → i ≠ 13 → i ≠ 17 → i ≠ 21 → M4 52 i = M1 52 i := fun i a1 a2 a3 a4 a5 => by rw [hA4 52 (by decide), fs i a1 a2 a3 a4 a5, n52]
      have g52 : M4 52 = M3 52 := hA4 52 (by decide)
      have eR : ∀ k, R64 (ly (X (M1 11 0)) (D (M1 11 0)) (M1 1 0) k) := fun k => by
        have d := c.1
        unfold ly
        split
        · exact ⟨by omega, by omega⟩
        · split
          · next z =>
            have b := c.2.1 (k / 3) (k % 3) ⟨by omega, by omega⟩ ⟨by omega, by omega⟩
            exact ⟨by omega, by omega⟩
          · decide
      have I4 : Iv M4 := I1.all hAll (by rw [k0]) (f52 2 (by decide) (by decide) (by decide) (by decide) (by decide)) (f52 6 (by decide) (by decide) (by decide) (by decide) (by decide)) (f52 32 (by decide) (by decide) (by decide) (by decide) (by decide))
        (R.lays pa mf.2.1 eR (kx 50 (by decide) (by decide) (by decide)) (kx 73 (by decide) (by decide) (by decide)) (by rw [hA4 51 (by decide), hA3 51 (by decide)]; exact l) l')
        (I1.2.2.2.2.2.1.of (by rw [k0]) (kx 1 (by decide) (by decide) (by decide)) (kx 2 (by decide) (by decide) (by decide)) (kx 3 (by decide) (by decide) (by decide)) (kx 11 (by decide) (by decide) (by decide)) (kx 12 (by decide) (by decide) (by decide)) (kx 13 (by decide) (by decide) (by decide)) (kx 14 (by decide) (by decide) (by decide)) (kx 15 (by decide) (by decide) (by decide)) (kx 16 (by decide) (by decide) (by decide)))
        (I1.2.2.2.2.2.2.1.of (by rw [k0]) (kx 1 (by decide) (by decide) (by decide)) (kx 2 (by decide) (by decide) (by decide)) (kx 3 (by decide) (by decide) (by decide)) (kx 37 (by decide) (by decide) (by decide)) (kx 38 (by decide) (by decide) (by decide)) (kx 39 (by decide) (by decide) (by decide)))
        (IM3.of (by rw [g52]) (hA4 55 (by decide)) (by rw [g52]) (by rw [g52]) (hA4 58 (by decide)) (hA4 59 (by decide)) (hA4 60 (by decide)) (hA4 61 (by decide)))
      show C (if m = 3 * M1 1 0 + 1 then 3 * M1 1 0 + 1 else -13) (if m' = 3 * M1 1 0 + 1 then 3 * M1 1 0 + 1 else -13) M4
      rw [em]
      refine hq _ _ ?_ I4
      split
      · exact ⟨by omega, by omega⟩
      · decide
  · refine c_x_lay (K + 21) a i M _ (ro_has_n h1 pa ⟨by decide, fun q => absurd rfl q, fun _ => ?_⟩)
    exact c_m_lay (K + 21) a i M _ (m_isRow_n h1 pa ⟨by decide, fun q => absurd rfl q, fun _ => hq _ _ (by decide) I⟩)
