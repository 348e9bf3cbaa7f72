/-! LAY: the parts of the clearing, in a row -/
def ly (X : Int → Int → Int) (D n k : Int) : Int := if k = 3 * n then D else if 0 ≤ k ∧ k < 3 * n then X (k / 3) (k % 3) else 0
theorem x_lay {K : Nat} {a i : Int} {M : PM} {X : Int → Int → Int → Int} {D : Int → Int} {Q : Option PV → PM → Prop} (I : Iv M) (cf : CF M X D) (ha : 0 ≤ a ∧ a < 4) (h1 : R32 a) (h2 : R32 i)
    (hq : ∀ M' m, Ag [51] M M' → MF (M 50 a) i (3 * M 1 0 + 1) m → LY (M 51) (M' 51) (ly (X (M 11 0)) (D (M 11 0)) (M 1 0)) ((a * 20) + i) m → Q (some (.inl (if m = 3 * M 1 0 + 1 then 3 * M 1 0 + 1 else -13))) M') :
    G none (K + 4 + 1) jClearingWaves_lay 49 [(0, .inr (.inr 0)), (1, .inl a), (2, .inl i), (3, .inr (.inr 11)), (4, .inl (3 * M 1 0)), (5, .inl 1), (6, .inl 0)] [] P0 P0 M Q := by
  have R := I.2.2.2.2.1
  have hn := I.1.xb.1
  have hw := cf.2.1
  have c := cf.2.2.1 (M 11 0) hw.1 (Int.le_refl _)
  have y := (R a ha.1 ha.2).2.1
  obtain ⟨e, he⟩ : ∃ e, e = ly (X (M 11 0)) (D (M 11 0)) (M 1 0) := ⟨_, rfl⟩
  rw [← he] at hq
  have loop : ∀ (x : Nat) (j m : Int) (M1 : PM), j + (x : Int) = 3 * M 1 0 → 0 ≤ j → Ag [51] M M1 → MF (M 50 a) i j m → LY (M 51) (M1 51) e ((a * 20) + i) m → G none (K + 4 + 1) jClearingWaves_lay 49 [(0, .inr (.inr 0)), (1, .inl a), (2, .inl i), (3, .inr (.inr 11)), (4, .inl (3 * M 1 0)), (5, .inl (if m = j then 1 else 0)), (6, .inl j)] [] P0 P0 M1 Q := by
    intro x
    induction x with
    | zero =>
      intro j m M1 hj j0 hA mf l
      have e50 : M1 50 = M 50 := hA 50 (by decide)
      have e11 : M1 11 = M 11 := hA 11 (by decide)
      have ej : j = 3 * M 1 0 := by omega
      have ee : e (3 * M 1 0) = D (M 11 0) := by rw [he]; exact if_pos rfl
      refine g_x_lay_49 _ _ _ _ _ _ _ _ ⟨⟨by omega, by omega⟩, ⟨by omega, by omega⟩, fun _ => cp_bottom_ (by rw [e11]; exact hw) ?_, fun z => absurd (by omega) z⟩
      rw [e11, hA 14 (by decide), c.2.2.1]
      by_cases f : Fit (M 50 a) i (3 * M 1 0)
      · have mj : m = j := by unfold MF at mf; omega
        refine lay_y (by rw [e50]; exact y) h1 h2 ⟨by omega, by omega⟩ ⟨ha, f.1, by rw [e50]; exact f.2⟩ ⟨by decide, fun q => absurd q (by decide), fun _ => ⟨by split <;> decide, fun q => ?_, fun _ => ?_⟩⟩
        · rw [if_pos mj] at q; exact absurd q (by decide)
        · have fin := hq (mset M1 51 ((a * 20) + (i + 3 * M 1 0)) (D (M 11 0))) (3 * M 1 0 + 1) (hA.set (by decide)) ⟨by omega, Or.inr (by rw [show 3 * M 1 0 + 1 - 1 = 3 * M 1 0 by omega]; exact f), Or.inl rfl⟩ (by
            have := l.take (c'' := (mset M1 51 ((a * 20) + (i + 3 * M 1 0)) (D (M 11 0))) 51) (by omega) (fun y => by rw [mset_at, mj, ej, ee, Int.add_assoc])
            rw [mj, ej] at this
            exact this)
          rw [if_pos rfl] at fin
          exact fin
      · have nm : MF (M 50 a) i (3 * M 1 0 + 1) m := by unfold MF at mf ⊢; rw [ej] at mf; omega
        have ne : ¬ m = 3 * M 1 0 + 1 := by unfold MF at mf; omega
        have fin := hq M1 m hA nm l
        rw [if_neg ne] at fin
        exact lay_n (by rw [e50]; exact y) h1 h2 ⟨by omega, by omega⟩ ha (by rw [e50]; exact f) ⟨by decide, fun _ => fin, fun q => absurd rfl q⟩
    | succ x ih =>
      intro j m M1 hj j0 hA mf l
      have e50 : M1 50 = M 50 := hA 50 (by decide)
      have e11 : M1 11 = M 11 := hA 11 (by decide)
      have ed : Int.tdiv j 3 = j / 3 := td_ed j0
      have em : Int.tmod j 3 = j % 3 := Int.tmod_eq_emod_of_nonneg j0
      have hh : hs (j / 3) := ⟨by omega, by omega⟩
      have hc : kl (j % 3) := ⟨by omega, by omega⟩
      have ee : e j = X (M 11 0) (j / 3) (j % 3) := by rw [he]; unfold ly; rw [if_neg (by omega), if_pos ⟨j0, by omega⟩]
      have ex : cp_X M1 (M1 11 0) (j / 3) (j % 3) = e j := by
        rw [ee, ← c.2.2.2 _ _ hh hc, e11]
        unfold cp_X
        rw [hA 13 (by decide)]
      refine g_x_lay_49 _ _ _ _ _ _ _ _ ⟨⟨by omega, by omega⟩, ⟨by omega, by omega⟩, fun z => absurd z (by omega), fun _ => ?_⟩
      rw [ed, em]
      refine cp_top_ (by rw [e11]; exact hw) hh hc ?_
      rw [ex]
      by_cases f : Fit (M 50 a) i j
      · have mj : m = j := by unfold MF at mf; omega
        refine lay_y (by rw [e50]; exact y) h1 h2 ⟨j0, by omega⟩ ⟨ha, f.1, by rw [e50]; exact f.2⟩ ⟨by decide, fun q => absurd q (by decide), fun _ => ⟨by split <;> decide, fun q => ?_, fun _ => ?_⟩⟩
        · rw [if_pos mj] at q; exact absurd q (by decide)
        · have nx := ih (j + 1) (m + 1) (mset M1 51 ((a * 20) + (i + j)) (e j)) (by omega) (by omega) (hA.set (by decide)) (by unfold MF at mf ⊢; rw [show m + 1 - 1 = j by omega]; exact ⟨by omega, Or.inr f, Or.inl (by omega)⟩) (l.take (by omega) (fun y => by rw [mset_at, mj, Int.add_assoc]))
          rw [if_pos (by omega)] at nx
          exact nx
      · have nm : MF (M 50 a) i (j + 1) m := by unfold MF at mf ⊢; omega
        refine lay_n (by rw [e50]; exact y) h1 h2 ⟨j0, by omega⟩ ha (by rw [e50]; exact f) ⟨by decide, fun _ => ?_, fun q => absurd rfl q⟩
        have nx := ih (j + 1) m M1 (by omega) (by omega) hA nm l
        rw [if_neg (by unfold MF at mf; omega)] at nx
        exact nx
  exact loop (3 * M 1 0).toNat 0 0 M (by omega) (by decide) (Ag.rf _ _) (by unfold MF; omega) LY.zero
theorem m_lay {K : Nat} {a i n W : Int} {M : PM} {X : Int → Int → Int} {D : Int} {Q : Option PV → PM → Prop} (ha : 0 ≤ a ∧ a < 4) (hb : -1 ≤ M 73 a ∧ M 73 a ≤ 20) (h2 : R32 i) (hn : M 55 0 = n) (hn5 : 2 ≤ n ∧ n ≤ 5) (hW : M 52 9 = W) (hW5 : 0 ≤ W ∧ W ≤ 5) (eD : M 59 W = D) (eX : ∀ h c, hs h → kl c → M 58 (((15 * W) + (3 * h)) + c) = X h c)
    (hq : ∀ M' m, Ag [72] M M' → MF (M 73 a) i (3 * n + 1) m → LY (M 72) (M' 72) (ly X D n) ((20 * a) + i) m → Q (some (.inl (if m = 3 * n + 1 then 3 * n + 1 else -13))) M') : G none (K + 4 + 1) jModel_lay 40 [(0, .inr (.inr 52)), (1, .inl a), (2, .inl i), (3, .inl (3 * n + 1)), (4, .inl 0)] [] P0 P0 M Q := by
  have loop : ∀ (x : Nat) (j : Int) (M1 : PM), j + (x : Int) = 3 * n + 1 → 0 ≤ j → Ag [72] M M1 → (j ≤ 0 ∨ Fit (M 73 a) i (j - 1)) → LY (M 72) (M1 72) (ly X D n) ((20 * a) + i) j → G none (K + 4 + 1) jModel_lay 40 [(0, .inr (.inr 52)), (1, .inl a), (2, .inl i), (3, .inl (3 * n + 1)), (4, .inl j)] [] P0 P0 M1 Q := by
    intro x
    induction x with
    | zero =>
      intro j M1 hj j0 hA f l
      have fin := hq M1 j hA ⟨⟨j0, by omega⟩, f, Or.inl (by omega)⟩ l
      rw [if_pos (by omega)] at fin
      exact g_m_lay_40 _ _ _ _ _ _ _ ⟨⟨by omega, by omega⟩, ⟨by omega, by omega⟩, fun _ => ⟨fun q => absurd (by omega) q, fun _ => fin⟩, fun q => absurd (by omega) q⟩
    | succ x ih =>
      intro j M1 hj j0 hA f l
      have e73 : M1 73 = M 73 := hA 73 (by decide)
      have e52 : M1 52 = M 52 := hA 52 (by decide)
      refine g_m_lay_40 _ _ _ _ _ _ _ ⟨⟨by omega, by omega⟩, ⟨by omega, by omega⟩, fun q => absurd q (by omega), fun _ => ?_⟩
      by_cases ft : Fit (M 73 a) i j
      · refine m_hasPlace_y ha (by rw [e73]; exact hb) h2 ⟨j0, by omega⟩ (by rw [e73]; exact ft) ⟨by decide, fun q => absurd q (by decide), fun _ => ⟨⟨by omega, by omega⟩, fun q => ?_, fun q => ?_⟩⟩
        · rw [e52, hW, hA 59 (by decide), eD]
          exact ⟨⟨by omega, by omega⟩, ⟨by omega, by omega⟩, ih (j + 1) _ (by omega) (by omega) (hA.set (by decide)) (Or.inr (by rw [show j + 1 - 1 = j by omega]; exact ft)) (l.take j0 (fun y => by rw [mset_at, show ly X D n j = D from if_pos (by omega)]))⟩
        · rw [e52, hW, hA 58 (by decide)]
          have ee : M 58 ((15 * W) + j) = ly X D n j := by
            have := eX (j / 3) (j % 3) ⟨by omega, by omega⟩ ⟨by omega, by omega⟩
            unfold ly
            rw [if_neg (by omega), if_pos ⟨j0, by omega⟩, ← this]
            congr 1
            omega
          rw [ee]
          exact ⟨⟨by omega, by omega⟩, ⟨by omega, by omega⟩, ih (j + 1) _ (by omega) (by omega) (hA.set (by decide)) (Or.inr (by rw [show j + 1 - 1 = j by omega]; exact ft)) (l.take j0 (fun y => by rw [mset_at]))⟩
      · have fin := hq M1 j hA ⟨⟨j0, by omega⟩, f, Or.inr ft⟩ l
        rw [if_neg (by omega)] at fin
        exact m_hasPlace_n ha (by rw [e73]; exact hb) h2 ⟨j0, by omega⟩ (by rw [e73]; exact ft) ⟨by decide, fun _ => ⟨fun _ => fin, fun q => absurd q (by omega)⟩, fun q => absurd rfl q⟩
  exact loop (3 * n + 1).toNat 0 M (by omega) (by decide) (Ag.rf _ _) (Or.inl (Int.le_refl 0)) LY.zero
