/-! THE MODEL's coins: all steps -/
def McV (M : PM) (N : Nat) : Prop := Wlk (gK M) N ∧ CE (mP M) (cit (gK M) N)
theorem mcit_out {M : PM} (B : MB M) (n : Nat) {h t c : Int} (hh : hs h) (ht : hs t) (hc : kl c) (hl : M 55 0 ≤ h ∨ M 55 0 ≤ t) : cit (gK M) n h t c = 0 :=
  cit_z (mk_ok B) n hh ht hc (B.2.2.2.2.2.2.2 h t c hh ht hc hl)
theorem mcit_due {M : PM} (B : MB M) (n : Nat) {h t c : Int} (hh : hs h) (ht : hs t) (hc : kl c) (hd : md M h c = 0) : cit (gK M) n h t c = 0 :=
  cit_z (mk_ok B) n hh ht hc (ow_z (mk_ok B) hh ht hc hd)
theorem ix_of {k : Int} (h0 : 0 ≤ k) (h1 : k < 75) : ∃ h t c, hs h ∧ hs t ∧ kl c ∧ k = (((5 * h) + t) * 3) + c := ⟨k / 15, (k / 3) % 5, k % 3, ⟨by omega, by omega⟩, ⟨by omega, by omega⟩, ⟨by omega, by omega⟩, by omega⟩
theorem m_stepsOn {K : Nat} {M : PM} {Q : Option PV → PM → Prop} (B : MB M) (hq : ∀ M' N, Ag [52, 67, 68] M M' → (∀ i, i ≠ 24 → M' 52 i = M 52 i) → McV M' N → Q (some (.inl (N : Int))) M') : Call (K + 7) jModel_stepsOn [.inr (.inr 52)] P0 P0 M Q := by
  have hn := B.1
  have O := mk_ok B
  have cb : ∀ n h t c, hs h → hs t → kl c → 0 ≤ cit (gK M) n h t c ∧ cit (gK M) n h t c ≤ 20 := fun n h t c hh ht hc => by
    have a := (cit_ok O n).1 h t c hh ht hc
    have b := (O.2.2.2.1 h t c hh ht hc).2
    omega
  have loop : ∀ (k n : Nat) (M1 : PM), n + k = 1501 → Ag [52, 67, 68] M M1 → (∀ i, i ≠ 24 → M1 52 i = M 52 i) → CE (mP M1) (cit (gK M) n) → M1 52 24 = (n : Int) - 1 → (∀ i, i < n → ¬ CE (cit (gK M) (i + 1)) (cit (gK M) i)) → G none (K + 6 + 1) jModel_stepsOn 36 [(0, .inr (.inr 52)), (1, .inl 1)] [] P0 P0 M1 Q := by
    intro k
    induction k with
    | zero =>
      intro n M1 hn1 _ _ _ _ hne
      have := cit_few O hne
      have := csm_nn O n
      omega
    | succ k ih =>
      intro n M1 hn1 hA h52 hP h24 hne
      have fin : (∀ h t c, hs h → hs t → kl c → h < M 55 0 → cit (gK M) (n + 1) h t c = cit (gK M) n h t c) → CE (cit (gK M) (n + 1)) (cit (gK M) n) := fun x h t c hh ht hc => by
        by_cases q : h < M 55 0
        · exact x h t c hh ht hc q
        · rw [mcit_out B (n + 1) hh ht hc (Or.inl (by omega)), mcit_out B n hh ht hc (Or.inl (by omega))]
      refine g_m_stepsOn_36 _ _ _ _ ⟨by decide, fun q => absurd q (by decide), fun _ => ?_⟩
      have hPb : CE (mPb (mcpy M1 67 68 75)) (cit (gK M) n) := fun h t c hh ht hc => by
        unfold mPb mcpy
        rw [if_pos ⟨rfl, by have := hh.2; have := ht.2; have := hc.2; omega⟩]
        exact hP h t c hh ht hc
      have hA2 : Ag [68] M1 (mcpy M1 67 68 75) := fun a ha => mcpy_ne (fun z => ha (by rw [z]; decide))
      -- all houses pay
      have l57 : ∀ (m : Nat) (h : Int) (M3 : PM), 0 ≤ h → h + (m : Int) = M 55 0 → Ag [67] (mcpy M1 67 68 75) M3 → (∀ a t c, hs a → hs t → kl c → a < h → mP M3 a t c = cit (gK M) (n + 1) a t c) → (∀ a t c, hs a → hs t → kl c → h ≤ a → mP M3 a t c = cit (gK M) n a t c) → G none (K + 6 + 1) jModel_stepsOn 57 [(0, .inr (.inr 52)), (2, .inl h)] [] P0 P0 M3 Q := by
        intro m
        induction m with
        | zero =>
          intro h M3 h0 hh hA3 hd hu
          have f55 : M3 55 = M 55 := by rw [hA3 55 (by decide), hA2 55 (by decide), hA 55 (by decide)]
          have f52 : M3 52 = M1 52 := by rw [hA3 52 (by decide), hA2 52 (by decide)]
          have f68 : M3 68 = (mcpy M1 67 68 75) 68 := hA3 68 (by decide)
          have hP3 : CE (mP M3) (cit (gK M) (n + 1)) := fun a t c ha ht hc => by
            by_cases q : a < h
            · exact hd a t c ha ht hc q
            · rw [hu a t c ha ht hc (by omega), mcit_out B (n + 1) ha ht hc (Or.inl (by omega)), mcit_out B n ha ht hc (Or.inl (by omega))]
          have hPb3 : CE (mPb M3) (cit (gK M) n) := fun a t c ha ht hc => by
            unfold mPb
            rw [f68]
            exact hPb a t c ha ht hc
          obtain ⟨M4, hM4⟩ : ∃ M4, M4 = mset M3 52 24 (M3 52 24 + 1) := ⟨_, rfl⟩
          have a4 : Ag [52, 67, 68] M M4 := by rw [hM4]; exact ((hA.tr (hA2.mono (by decide))).tr (hA3.mono (by decide))).set (by decide)
          have i4 : ∀ i, i ≠ 24 → M4 52 i = M 52 i := fun i hi => by
            rw [hM4, show (mset M3 52 24 (M3 52 24 + 1)) 52 i = M3 52 i by simp [mset, hi], f52]
            exact h52 i hi
          have v4 : M4 52 24 = (n : Int) := by rw [hM4, mset_eq, f52, h24]; omega
          have p4 : ∀ h t c, hs h → hs t → kl c → M4 67 ((((5 * h) + t) * 3) + c) = cit (gK M) (n + 1) h t c := fun h t c hh ht hc => by
            rw [hM4, mset_ne (by decide)]
            exact hP3 h t c hh ht hc
          have q4 : ∀ h t c, hs h → hs t → kl c → M4 68 ((((5 * h) + t) * 3) + c) = cit (gK M) n h t c := fun h t c hh ht hc => by
            rw [hM4, mset_ne (by decide)]
            exact hPb3 h t c hh ht hc
          have e4 : gK M4 = gK M := gK_of (by rw [hM4, mset_ne (by decide), f55])
          -- whether something changed
          have l92 : ∀ (m : Nat) (j : Int) (b : Bool), 0 ≤ j → j + (m : Int) = 75 → (b = false ↔ ∀ h t c, hs h → hs t → kl c → (((5 * h) + t) * 3) + c < j → cit (gK M) (n + 1) h t c = cit (gK M) n h t c) → G none (K + 6 + 1) jModel_stepsOn 92 [(0, .inr (.inr 52)), (1, .inl (b2i b)), (2, .inl j)] [] P0 P0 M4 Q := by
            intro m
            induction m with
            | zero =>
              intro j b j0 hj hb
              refine g_m_stepsOn_92 _ _ _ _ _ ⟨⟨by omega, by omega⟩, fun _ => ?_, fun q => absurd (by omega) q⟩
              cases b with
              | false =>
                have hce : CE (cit (gK M) (n + 1)) (cit (gK M) n) := fun h t c hh ht hc => hb.mp rfl h t c hh ht hc (by have := hh.2; have := ht.2; have := hc.2; omega)
                refine g_m_stepsOn_36 _ _ _ _ ⟨by decide, fun _ => ?_, fun q => absurd rfl q⟩
                rw [v4]
                refine hq M4 n a4 i4 ⟨?_, ?_⟩
                · rw [e4]; exact ⟨hce, hne⟩
                · rw [e4]
                  exact CE.trans (fun h t c hh ht hc => p4 h t c hh ht hc) hce
              | true =>
                refine ih (n + 1) M4 (by omega) a4 i4 (fun h t c hh ht hc => p4 h t c hh ht hc) (by rw [v4]; omega) (fun i hi => ?_)
                by_cases y : i = n
                · rw [y]
                  intro z
                  have := hb.mpr (fun h t c hh ht hc _ => z h t c hh ht hc)
                  exact absurd this (by simp)
                · exact hne i (by omega)
            | succ m ih3 =>
              intro j b j0 hj hb
              obtain ⟨h', t', c', hh', ht', hc', ej⟩ := ix_of j0 (show j < 75 by omega)
              have w1 := p4 h' t' c' hh' ht' hc'
              have w2 := q4 h' t' c' hh' ht' hc'
              rw [← ej] at w1 w2
              have b1 := cb (n + 1) h' t' c' hh' ht' hc'
              have b2 := cb n h' t' c' hh' ht' hc'
              have nx : ∀ b', (b' = false ↔ b = false ∧ cit (gK M) (n + 1) h' t' c' = cit (gK M) n h' t' c') → G none (K + 6 + 1) jModel_stepsOn 92 [(0, .inr (.inr 52)), (1, .inl (b2i b')), (2, .inl (j + 1))] [] P0 P0 M4 Q := by
                intro b' hb'
                refine ih3 (j + 1) b' (by omega) (by omega) ?_
                rw [hb', hb]
                constructor
                · rintro ⟨x, y⟩ h t c hh ht hc hl
                  by_cases w : (((5 * h) + t) * 3) + c = j
                  · have e1 : h = h' := by omega
                    have e2 : t = t' := by omega
                    have e3 : c = c' := by omega
                    rw [e1, e2, e3]; exact y
                  · exact x h t c hh ht hc (by omega)
                · intro x
                  exact ⟨fun h t c hh ht hc hl => x h t c hh ht hc (by omega), x h' t' c' hh' ht' hc' (by omega)⟩
              refine g_m_stepsOn_92 _ _ _ _ _ ⟨⟨by omega, by omega⟩, fun q => absurd q (by omega), fun _ => ⟨b2i_R _, fun c => ?_, fun c => ⟨⟨j0, by omega⟩, by rw [w1]; exact ⟨by omega, by omega⟩, by rw [w2]; exact ⟨by omega, by omega⟩, fun c2 => ?_, fun c2 => ?_⟩⟩⟩
              · exact nx true (by rw [b2i_n0 c]; simp)
              · rw [w1, w2] at c2
                exact nx false (by rw [b2i_0.mp c, c2]; simp)
              · rw [w1, w2] at c2
                exact nx true (by
                  constructor
                  · intro z; exact absurd z (by simp)
                  · rintro ⟨_, y⟩; exact absurd y c2)
          refine g_m_stepsOn_57 _ _ _ _ ⟨⟨by omega, by omega⟩, by rw [f55]; exact ⟨by omega, by omega⟩, fun _ => ?_, fun q => absurd (by rw [f55]; omega) q⟩
          rw [← hM4]
          exact l92 75 0 false (by decide) (by decide) ⟨fun _ h t c hh ht hc hl => by have := hh.1; have := ht.1; have := hc.1; omega, fun _ => rfl⟩
        | succ m ih2 =>
          intro h M3 h0 hh hA3 hd hu
          have hhs : hs h := ⟨h0, by omega⟩
          have f55 : M3 55 = M 55 := by rw [hA3 55 (by decide), hA2 55 (by decide), hA 55 (by decide)]
          have f68 : M3 68 = (mcpy M1 67 68 75) 68 := hA3 68 (by decide)
          have hPb3 : CE (mPb M3) (cit (gK M) n) := fun a t c ha ht hc => by
            unfold mPb
            rw [f68]
            exact hPb a t c ha ht hc
          have ex : cgt (mPb M3) h = cgt (cit (gK M) n) h := cgt_ce hPb3 hhs
          have eg := gK_of f55
          refine g_m_stepsOn_57 _ _ _ _ ⟨⟨by omega, by omega⟩, by rw [f55]; exact ⟨by omega, by omega⟩, fun q => absurd q (by rw [f55]; omega), fun _ => m_paysCoins (B.of f55) hhs (by rw [ex]; exact cgt_b O n hhs) (fun t c ht hc hz => ?_) (fun M4 hA4 hp4 ho4 => ?_)⟩
          · rw [hu h t c hhs ht hc (Int.le_refl _)]
            rw [md_of f55] at hz
            exact mcit_due B n hhs ht hc hz
          · rw [eg, ex] at hp4
            refine ih2 (h + 1) M4 (by omega) (by omega) (hA3.tr hA4) (fun a t c ha ht hc hl => ?_) (fun a t c ha ht hc hl => ?_)
            · by_cases y : a = h
              · rw [y]; exact hp4 t c ht hc
              · rw [ho4 a t c ha ht hc y]; exact hd a t c ha ht hc (by omega)
            · rw [ho4 a t c ha ht hc (by omega)]; exact hu a t c ha ht hc (by omega)
      refine l57 (M 55 0).toNat 0 _ (by decide) (by omega) (Ag.rf _ _) (fun a t c ha ht hc hl => by have := ha.1; omega) (fun a t c ha ht hc _ => ?_)
      unfold mP
      rw [mcpy_ne (by decide)]
      exact hP a t c ha ht hc
  have l2 : ∀ (m : Nat) (j : Int) (M1 : PM), 0 ≤ j → j + (m : Int) = 75 → Ag [67] M M1 → (∀ i, 0 ≤ i → i < j → M1 67 i = M 55 (8 + i)) → G none (K + 6 + 1) jModel_stepsOn 2 [(0, .inr (.inr 52)), (1, .inl j)] [] P0 P0 M1 Q := by
    intro m
    induction m with
    | zero =>
      intro j M1 j0 hj hA hI
      refine g_m_stepsOn_2 _ _ _ _ ⟨⟨by omega, by omega⟩, fun _ => ?_, fun q => absurd (by omega) q⟩
      have := loop 1501 0 (mset M1 52 24 (-1)) (by decide) ((hA.mono (by decide)).set (by decide)) (fun i hi => by rw [show (mset M1 52 24 (-1)) 52 i = M1 52 i by simp [mset, hi], hA 52 (by decide)]) (fun h t c hh ht hc => ?_) (by rw [mset_eq]; decide) (fun i hi => absurd hi (by omega))
      · exact this
      · show (mset M1 52 24 (-1)) 67 _ = mo M h t c
        rw [mset_ne (by decide), hI _ (by have := hh.1; have := ht.1; have := hc.1; omega) (by have := hh.2; have := ht.2; have := hc.2; omega)]
        unfold mo
        rw [Int.add_assoc]
    | succ m ih =>
      intro j M1 j0 hj hA hI
      refine g_m_stepsOn_2 _ _ _ _ ⟨⟨by omega, by omega⟩, fun q => absurd q (by omega), fun _ => ⟨⟨by omega, by omega⟩, ⟨by omega, by omega⟩, ih (j + 1) _ (by omega) (by omega) (hA.set (by decide)) (fun i i0 hi => ?_)⟩⟩
      by_cases y : i = j
      · rw [y, mset_eq, hA 55 (by decide)]
      · rw [show ∀ v, (mset M1 67 j v) 67 i = M1 67 i from fun v => by simp [mset, y]]
        exact hI i i0 (by omega)
  exact c_m_stepsOn (K + 6) M Q (l2 75 0 M (by decide) (by decide) (Ag.rf _ _) (fun i h0 h1 => by omega))
