/-! THE MODEL's agrees as a whole -/
theorem GS.scale {g : Ck} {F : Int → Bool} {X X' : Int → Int → Int} {D D' : Int} {d : Int} (hd : 0 < d) (hX : ∀ h c, hs h → kl c → X h c = X' h c * d) (hDe : D = D' * d) (G : GS g F X D) : GS g F X' D' := by
  have hD := G.1.1
  have hD' : 0 < D' := by
    rcases Int.lt_or_le 0 D' with z | z
    · exact z
    · have := Int.mul_nonneg (show 0 ≤ -D' by omega) (Int.le_of_lt hd)
      rw [Int.neg_mul] at this
      omega
  have hyt : ∀ h, hs h → yt g X h = yt g X' h * d := fun h hh => by
    unfold yt
    rw [← s3_mul']
    refine s3_congr fun c hc => ?_
    rw [hX h c hh hc, Int.mul_assoc]
  have hgt : ∀ h, gt g X h = gt g X' h * d := fun h => by
    unfold gt
    rw [← s5_mul']
    refine s5_congr fun k hk => ?_
    rw [← s3_mul']
    refine s3_congr fun c hc => ?_
    rw [hX k c hk hc, Int.mul_assoc]
  have hrt : ∀ h, rt g X D h = rt g X' D' h * d := fun h => by
    unfold rt
    rw [hgt h, hDe]
    grind
  refine ⟨⟨hD', fun h c hh hc => ?_, fun h c c' hh hc hc' hcc hd' hx hdu => ?_, fun h hh hF => ?_⟩, fun Y E hY h c hh hc => ?_⟩
  · have := G.1.2.1 h c hh hc
    rw [hX h c hh hc, hDe] at this
    constructor
    · exact Int.le_of_mul_le_mul_right (show 0 * d ≤ X' h c * d by omega) hd
    · exact Int.le_of_mul_le_mul_right this.2 hd
  · have := G.1.2.2.1 h c c' hh hc hc' hcc hd' (by rw [hX h c' hh hc']; exact Int.mul_pos hx hd) hdu
    rw [hX h c hh hc, hDe] at this
    exact Int.eq_of_mul_eq_mul_right (by omega) this
  · have := G.1.2.2.2 h hh hF
    rw [hyt h hh, hrt h] at this
    exact Int.le_of_mul_le_mul_right (by rw [Int.mul_assoc]; exact this) hd
  · have := G.2 Y E hY h c hh hc
    rw [hX h c hh hc, hDe] at this
    refine Int.le_of_mul_le_mul_right ?_ hd
    rw [Int.mul_assoc, Int.mul_right_comm]
    exact this
/-- a round's parts, as its arrays hold them -/
def rX (M : PM) (r : Int) (h c : Int) : Int := M 58 (((15 * r) + (3 * h)) + c)
/-- one round: the greatest payments that agree, in lowest terms -/
def Rnd (g : Ck) (F : Int → Bool) (X : Int → Int → Int) (D : Int) : Prop := GS g F X D ∧ Red X D ∧ D ≤ 327680000000000 ∧ ∃ e, Lvl e ∧ Seg g e X D ∧ (∀ h, hs h → F h = false → e h = 3) ∧ ∀ h, hs h → F h = true → e h < 3 → rt g X D h = 10 * yt g X h
theorem m_agrees {K : Nat} {M : PM} {F : Int → Bool} {r : Int} {Q : Option PV → PM → Prop} (B : MB M) (hpu : ∀ h, hs h → 0 ≤ M 61 h ∧ M 61 h ≤ 400) (hf : 0 ≤ M 52 13 ∧ M 52 13 < 32) (hF : ∀ h, hs h → F h = (tb (M 52 13) h && decide (h < M 55 0))) (hFn : ∀ h, hs h → tb (M 52 13) h = true → h < M 55 0) (hr : 0 ≤ r ∧ r ≤ 5)
    (hq : ∀ M', Ag [58, 59, 62, 63, 64, 65, 66, 52] M M' → (∀ i, i ≠ 17 → i ≠ 21 → M' 52 i = M 52 i) → (∀ i, i ≠ r → M' 59 i = M 59 i) → (∀ j, ¬ (15 * r ≤ j ∧ j < 15 * r + 15) → M' 58 j = M 58 j) → Rnd (gM M) F (rX M' r) (M' 59 r) → Q none M') :
    Call (K + 13) jModel_agrees [.inr (.inr 52), .inl r] P0 P0 M Q := by
  have Og := gM_ok B hpu
  have l2 : ∀ (n : Nat) (h : Int) (M1 : PM), 0 ≤ h → h + (n : Int) = 5 → Ag [62] M M1 → (∀ k, 0 ≤ k → k < h → M1 62 k = 3) → G none (K + 12 + 1) jModel_agrees 2 [(0, .inr (.inr 52)), (1, .inl r), (2, .inl h)] [] P0 P0 M1 Q := by
    intro n
    induction n with
    | zero =>
      intro h M1 h0 hn hA h3
      have h5 : h = 5 := by omega
      subst h5
      have h55 : M1 55 = M 55 := hA 55 (by decide)
      have h61 : M1 61 = M 61 := hA 61 (by decide)
      have h52 : M1 52 = M 52 := hA 52 (by decide)
      have hg := gM_of h55 h61
      have hL : Lvl (M1 62) := fun k hk => by rw [h3 k hk.1 hk.2]; omega
      refine g_m_agrees_2 _ _ _ _ _ ⟨by decide, fun _ => ?_, fun q => absurd (by decide) q⟩
      refine m_agloop 15 M1 (fun _ _ => 1) 1 ⟨⟨B.of h55, by rw [h61]; exact hpu, hL⟩, by rw [h52]; exact hf, by rw [h52, h55]; exact hF, by rw [h52, h55]; exact hFn, by decide, fun k c hk hc => ⟨fun _ => rfl, fun _ => rfl, fun q => absurd q (by rw [h3 k hk.1 hk.2]; omega), (show (0 : Int) ≤ 1 by decide), (show (1 : Int) ≤ 1 by decide)⟩, fun Y E hY k c hk hc => ?_, fun k hk _ q => absurd q (by rw [h3 k hk.1 hk.2]; omega), fun R hR C => ?_, fun k hk _ => h3 k hk.1 hk.2⟩ ?_ (fun M2 hD => ?_)
      · have := (hY.2.1 k c hk hc).2
        show Y k c * 1 ≤ 1 * E
        omega
      · obtain ⟨k, hk, hRk⟩ := C.1
        have := (hR k hk hRk).2
        rw [h3 k hk.1 hk.2] at this
        exact absurd this (by decide)
      · simp only [s5]
        rw [h3 0 (by omega) (by omega), h3 1 (by omega) (by omega), h3 2 (by omega) (by omega), h3 3 (by omega) (by omega), h3 4 (by omega) (by omega)]
        decide
      · obtain ⟨d1, d2, d3, d4, d5, d6, d7, d8, d9⟩ := hD
        have k55 : M2 55 = M 55 := (d1 55 (by decide)).trans h55
        have k61 : M2 61 = M 61 := (d1 61 (by decide)).trans h61
        have kg := gM_of k55 k61
        refine m_agend d3 d4 d5 d6 hr (fun M3 d hA3 hd1 hd2 hd3 hd4 h59 h59r h58 h58r => ?_)
        rw [kg] at hd3 hd4 h58r
        rw [hg] at d8 d9
        have hdp : (0 : Int) < (d : Int) := by omega
        refine hq M3 (fun a ha => ?_) (fun i h1 h2 => ?_) (fun i hi => ?_) (fun j hj => ?_) ?_
        · rw [hA3 a (fun z => ha (by revert z; simp; omega)), d1 a (fun z => ha (by revert z; simp; omega)), hA a (fun z => ha (by revert z; simp; omega))]
        · rw [hA3 52 (by decide), d2 i h1 h2, h52]
        · rw [h59 i hi, d1 59 (by decide), hA 59 (by decide)]
        · rw [h58 j hj, d1 58 (by decide), hA 58 (by decide)]
        · have hXe : ∀ h c, hs h → kl c → Xs (gM M) (M2 62) (osM M2) (M2 66) (M2 52 21) h c = rX M3 r h c * (d : Int) := fun h c hh hc => by
            unfold rX
            rw [h58r h c hh hc, Int.ediv_mul_cancel (hd3 h c hh hc)]
          have hDe : M2 52 21 = M3 59 r * (d : Int) := by rw [h59r, Int.ediv_mul_cancel hd2]
          have hRed := red_div hd1 hd2 hd3 hd4
          have Sg := xs_seg d5.1 d4.2 d6
          rw [kg] at Sg
          have G2 := GS.scale hdp hXe hDe d8
          refine ⟨G2, ?_, ?_, M2 62, d3.2.2, ?_, d7, fun h hh hFh h3' => ?_⟩
          · intro q hq1 hq2
            refine hRed q ?_ (fun h c hh hc => ?_)
            · rw [← h59r]; exact hq1
            · show (q : Int) ∣ Xs (gM M) (M2 62) (osM M2) (M2 66) (M2 52 21) h c / (d : Int)
              rw [← h58r h c hh hc]
              exact hq2 h c hh hc
          · have h1 := G2.1.1
            have h2 : M3 59 r * 1 ≤ M3 59 r * (d : Int) := Int.mul_le_mul_of_nonneg_left (by omega) (Int.le_of_lt h1)
            rw [← hDe] at h2
            have := d5.2
            omega
          · intro h c hh hc
            have h1 := Sg h c hh hc
            rw [hXe h c hh hc] at h1
            have hne : (d : Int) ≠ 0 := by omega
            refine ⟨fun q => ?_, fun q => ?_, fun q hd => ?_, ?_, ?_⟩
            · have := h1.1 q
              rw [hDe] at this
              exact Int.eq_of_mul_eq_mul_right hne this
            · have := h1.2.1 q
              rw [hDe] at this
              exact Int.eq_of_mul_eq_mul_right hne this
            · have := h1.2.2.1 q hd
              rcases Int.mul_eq_zero.mp this with z | z
              · exact z
              · exact absurd z hne
            · exact Int.le_of_mul_le_mul_right (show 0 * (d : Int) ≤ rX M3 r h c * (d : Int) by have := h1.2.2.2.1; omega) hdp
            · have := h1.2.2.2.2
              rw [hDe] at this
              exact Int.le_of_mul_le_mul_right this hdp
          · have h1 := d9 h hh hFh h3'
            have hyt : yt (gM M) (Xs (gM M) (M2 62) (osM M2) (M2 66) (M2 52 21)) h = yt (gM M) (rX M3 r) h * (d : Int) := by
              unfold yt
              rw [← s3_mul']
              refine s3_congr fun c hc => ?_
              rw [hXe h c hh hc, Int.mul_assoc]
            have hgt : gt (gM M) (Xs (gM M) (M2 62) (osM M2) (M2 66) (M2 52 21)) h = gt (gM M) (rX M3 r) h * (d : Int) := by
              unfold gt
              rw [← s5_mul']
              refine s5_congr fun k hk => ?_
              rw [← s3_mul']
              refine s3_congr fun c hc => ?_
              rw [hXe k c hk hc, Int.mul_assoc]
            have hrt : rt (gM M) (Xs (gM M) (M2 62) (osM M2) (M2 66) (M2 52 21)) (M2 52 21) h = rt (gM M) (rX M3 r) (M3 59 r) h * (d : Int) := by
              unfold rt
              rw [hgt, hDe]
              grind
            rw [hrt, hyt, ← Int.mul_assoc] at h1
            exact Int.eq_of_mul_eq_mul_right (by omega) h1
    | succ n ih =>
      intro h M1 h0 hn hA h3
      refine g_m_agrees_2 _ _ _ _ _ ⟨⟨by omega, by omega⟩, fun q => absurd q (by omega), fun _ => ⟨⟨by omega, by omega⟩, ?_⟩⟩
      refine ih (h + 1) _ (by omega) (by omega) (hA.set (by decide)) (fun k h1 h2 => ?_)
      by_cases q : k = h
      · rw [q, mset_eq]
      · have : (mset M1 62 h 3) 62 k = M1 62 k := by simp [mset, q]
        rw [this]; exact h3 k h1 (by omega)
  exact c_m_agrees (K + 12) r M Q (l2 5 0 M (by decide) (by decide) (Ag.rf _ _) (fun k h1 h2 => absurd h2 (by omega)))
