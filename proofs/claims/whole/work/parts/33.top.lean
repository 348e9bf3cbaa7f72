/-! THE GREATEST stays the greatest where payments are lowered -/
theorem mul_le_swap {x y p q : Int} (hp : 0 < p) (h : x * p ≤ y * p) : x ≤ y := Int.le_of_mul_le_mul_right h hp
theorem low_top {g : Ck} {F : Int → Bool} {e : Int → Int} {X X' : Int → Int → Int} {D D' : Int} (O : Okc g) (hD : 0 < D) (hD' : 0 < D') (T : Top g F X D) (Sg : Seg g e X D) (Sg' : Seg g e X' D') (hle : Le X' D' X D)
    (L : Lvl e) (he : ∀ h, hs h → F h = false → e h = 3)
    (P2 : ∀ h, hs h → F h = true → e h < 3 → rt g X D h ≤ 10 * yt g X h)
    (P2' : ∀ h, hs h → F h = true → e h < 3 → rt g X' D' h ≤ 10 * yt g X' h)
    (NC : ∀ R : Int → Bool, (∀ h, hs h → R h = true → F h = true ∧ e h < 3) → Clo (dd g e) (AA g e) R → (∀ h, hs h → R h = true → rt g X D h = 10 * yt g X h) → (∀ h, hs h → R h = true → rt g X' D' h = 10 * yt g X' h) →
      (∀ h, hs h → R h = true → ∀ k, hs k → R k = false → ckB g * s3 (fun c => ckO g k h c * (X k c * D' - X' k c * D)) = 0) → False) : Top g F X' D' := by
  intro Y E hY
  have hE := hY.1
  have hYX := T Y E hY
  -- the differences
  have dle : ∀ k c, hs k → kl c → (c < e k ∨ due g k c = 0) → Y k c * D' - X' k c * E ≤ 0 := by
    intro k c hk hc hq
    have e1 : X' k c = D' := by
      rcases hq with q | q
      · exact (Sg' k c hk hc).1 q
      · exact (Sg' k c hk hc).2.1 q
    have h1 := Int.mul_le_mul_of_nonneg_right (hY.2.1 k c hk hc).2 (Int.le_of_lt hD')
    rw [e1, Int.mul_comm D' E]
    omega
  have ybeh : ∀ k c, hs k → kl c → e k < c → due g k c ≠ 0 → Y k c = 0 ∧ X' k c = 0 := by
    intro k c hk hc hq hd
    have h1 := hYX k c hk hc
    rw [(Sg k c hk hc).2.2.1 hq hd, Int.zero_mul] at h1
    have h2 := (hY.2.1 k c hk hc).1
    refine ⟨?_, (Sg' k c hk hc).2.2.1 hq hd⟩
    rcases Int.lt_or_le 0 (Y k c) with q | q
    · have := Int.mul_pos q hD; omega
    · omega
  have key : ∀ R : Int → Bool, R = (fun k => F k && (decide (e k < 3) && decide (0 < Y k (e k) * D' - X' k (e k) * E))) → ¬ ∃ k, hs k ∧ R k = true := by
    intro R hR hne
    have hRs : ∀ k, hs k → R k = true → F k = true ∧ e k < 3 ∧ 0 < Y k (e k) * D' - X' k (e k) * E := by
      intro k _ h
      rw [hR] at h
      simpa using h
    have hRk : ∀ k, hs k → R k = true → kl (e k) := fun k hk h => by have := L k hk; have := (hRs k hk h).2.1; exact ⟨by omega, by omega⟩
    have hdp : ∀ k, hs k → R k = true → 0 < due g k (e k) := by
      intro k hk h
      have h1 := due_nn O hk (hRk k hk h)
      rcases Int.lt_or_le 0 (due g k (e k)) with q | q
      · exact q
      · have := dle k (e k) hk (hRk k hk h) (Or.inr (by omega))
        have := (hRs k hk h).2.2
        omega
    have hzero : ∀ k c, hs k → kl c → R k = true → c ≠ e k → due g k c ≠ 0 → Y k c * D' - X' k c * E = 0 := by
      intro k c hk hc h hne hd
      rcases Int.lt_or_gt_of_ne hne with q | q
      · have h1 := (Sg' k c hk hc).1 q
        have h2 : 0 < Y k (e k) := by
          have h3 := (hRs k hk h).2.2
          have h4 := (Sg' k (e k) hk (hRk k hk h)).2.2.2.1
          have h5 := Int.mul_nonneg h4 (Int.le_of_lt hE)
          rcases Int.lt_or_le 0 (Y k (e k)) with z | z
          · exact z
          · have : Y k (e k) * D' ≤ 0 := by
              have := Int.mul_nonneg (show 0 ≤ -Y k (e k) by omega) (Int.le_of_lt hD')
              rw [Int.neg_mul] at this
              omega
            omega
        have h3 := hY.2.2.1 k c (e k) hk hc (hRk k hk h) q (hdp k hk h) h2 (by have := due_nn O hk hc; omega)
        rw [h1, h3, Int.mul_comm]; omega
      · have := ybeh k c hk hc q hd
        rw [this.1, this.2]; omega
    have hneg : ∀ k c, hs k → kl c → R k = false → due g k c ≠ 0 → Y k c * D' - X' k c * E ≤ 0 := by
      intro k c hk hc h hd
      by_cases q : c < e k
      · exact dle k c hk hc (Or.inl q)
      · by_cases q2 : e k < c
        · have := ybeh k c hk hc q2 hd
          rw [this.1, this.2]; omega
        · have hce : c = e k := by omega
          subst hce
          by_cases hF : F k = true
          · rw [hR] at h
            simp only [hF, Bool.true_and, Bool.and_eq_false_iff, decide_eq_false_iff_not] at h
            omega
          · have := he k hk (by simpa using hF)
            omega
    have hcor : ∀ h, hs h → R h = true → dd g e h * (Y h (e h) * D' - X' h (e h) * E) + ((rt g Y E h - 10 * yt g Y h) * D' + (10 * yt g X' h - rt g X' D' h) * E) ≤ s5 (fun k => if R k = true then AA g e k h * (Y k (e k) * D' - X' k (e k) * E) else 0) := by
      intro h hh hRh
      have h1 := rt_lin (g := g) Y X' E D' h
      have h2 := yt_lin (g := g) Y X' D' E h
      have h3 := gt_split (g := g) (e := e) (R := R) (Z := fun k c => Y k c * D' - X' k c * E) (h := h) hRk (fun k c hk hc hRk' hne => by
        by_cases hd : due g k c = 0
        · rw [ow_z O hk hh hc hd, Int.zero_mul]
        · rw [hzero k c hk hc hRk' hne hd, Int.mul_zero])
      have h4 := yt_only (g := g) (e := e) (Z := fun k c => Y k c * D' - X' k c * E) (hRk h hh hRh) (fun c hc hne => by
        by_cases hd : due g h c = 0
        · rw [hd, Int.zero_mul]
        · rw [hzero h c hh hc hRh hne hd, Int.mul_zero])
      have h5 : s5 (fun k => if R k = true then 0 else ckB g * s3 (fun c => ckO g k h c * (Y k c * D' - X' k c * E))) ≤ 0 := by
        have := s5_le (f := fun k => if R k = true then 0 else ckB g * s3 (fun c => ckO g k h c * (Y k c * D' - X' k c * E))) (g := fun _ => 0) (fun k hk => by
          show (if R k = true then 0 else _) ≤ (0 : Int)
          by_cases hRk' : R k = true
          · rw [if_pos hRk']; omega
          · rw [if_neg hRk']
            have h6 : s3 (fun c => ckO g k h c * (Y k c * D' - X' k c * E)) ≤ 0 := by
              have := s3_le (f := fun c => ckO g k h c * (Y k c * D' - X' k c * E)) (g := fun _ => 0) (fun c hc => by
                show ckO g k h c * (Y k c * D' - X' k c * E) ≤ 0
                by_cases hd : due g k c = 0
                · rw [ow_z O hk hh hc hd, Int.zero_mul]; omega
                · have h7 := hneg k c hk hc (by simpa using hRk') hd
                  have h8 := Int.mul_nonneg (O.2.2.2.1 k h c hk hh hc).1 (show 0 ≤ -(Y k c * D' - X' k c * E) by omega)
                  rw [Int.mul_neg] at h8
                  omega)
              simpa [s3] using this
            have h9 := Int.mul_nonneg O.2.1.1 (show 0 ≤ - s3 (fun c => ckO g k h c * (Y k c * D' - X' k c * E)) by omega)
            rw [Int.mul_neg] at h9
            omega)
        simpa [s5] using this
      rw [h3] at h1
      rw [h2] at h4
      have h6 : (rt g Y E h - 10 * yt g Y h) * D' + (10 * yt g X' h - rt g X' D' h) * E = (rt g Y E h * D' - rt g X' D' h * E) - 10 * (yt g Y h * D' - yt g X' h * E) := by grind
      rw [h6, h1, h4]
      omega
    have hs1 : ∀ h, hs h → R h = true → 0 ≤ (rt g Y E h - 10 * yt g Y h) * D' ∧ 0 ≤ (10 * yt g X' h - rt g X' D' h) * E := fun h hh hRh =>
      ⟨Int.mul_nonneg (by have := hY.2.2.2 h hh (hRs h hh hRh).1; omega) (Int.le_of_lt hD'), Int.mul_nonneg (by have := P2' h hh (hRs h hh hRh).1 (hRs h hh hRh).2.1; omega) (Int.le_of_lt hE)⟩
    obtain ⟨C, heq⟩ := flow_clo (d := dd g e) (A := AA g e) (R := R) (x := fun k => Y k (e k) * D' - X' k (e k) * E) hne (fun k hk h => (hRs k hk h).2.2) (fun k hk _ => (flw O L).sub R hk) (fun h hh hRh => by
      have h1 := hcor h hh hRh
      have h2 := hs1 h hh hRh
      show dd g e h * (Y h (e h) * D' - X' h (e h) * E) ≤ _
      omega)
    have hX' : ∀ h, hs h → R h = true → rt g X' D' h = 10 * yt g X' h := by
      intro h hh hRh
      have h1 := hcor h hh hRh
      have h2 := hs1 h hh hRh
      have h3 : dd g e h * (Y h (e h) * D' - X' h (e h) * E) = s5 (fun k => if R k = true then AA g e k h * (Y k (e k) * D' - X' k (e k) * E) else 0) := heq h hh hRh
      have h4 : (10 * yt g X' h - rt g X' D' h) * E = 0 := by omega
      rcases Int.mul_eq_zero.mp h4 with q | q <;> omega
    have hphi := phi O hRk Sg Sg' C
    have hl : s5 (fun h => if R h = true then (rt g X D h - 10 * yt g X h) * D' - (rt g X' D' h - 10 * yt g X' h) * D else 0) = s5 (fun h => if R h = true then (rt g X D h - 10 * yt g X h) * D' else 0) := by
      refine s5_congr fun h hh => ?_
      by_cases hRh : R h = true
      · rw [if_pos hRh, if_pos hRh, hX' h hh hRh]; simp
      · rw [if_neg hRh, if_neg hRh]
    have hnp : ∀ h, hs h → 0 ≤ (if R h = true then (10 * yt g X h - rt g X D h) * D' else 0) := fun h hh => by
      show 0 ≤ (if R h = true then _ else (0 : Int))
      split
      · rename_i hRh
        exact Int.mul_nonneg (by have := P2 h hh (hRs h hh hRh).1 (hRs h hh hRh).2.1; omega) (Int.le_of_lt hD')
      · omega
    have hng : s5 (fun h => if R h = true then (10 * yt g X h - rt g X D h) * D' else 0) = - s5 (fun h => if R h = true then (rt g X D h - 10 * yt g X h) * D' else 0) := by
      rw [← s5_neg]
      refine s5_congr fun h _ => ?_
      split
      · rw [← Int.neg_mul]; congr 1; omega
      · omega
    have hfn : ∀ h, hs h → 0 ≤ (if R h = true then s5 (fun k => if R k = true then 0 else ckB g * s3 (fun c => ckO g k h c * (X k c * D' - X' k c * D))) else 0) := fun h hh => by
      show 0 ≤ (if R h = true then _ else (0 : Int))
      split
      · exact s5_nn (oth_nn O hle hh)
      · omega
    have h1 := s5_nn hnp
    have h2 := s5_nn hfn
    have h3 := s5_nn0 hnp (by omega)
    have h4 := s5_nn0 hfn (by omega)
    refine NC R (fun h hh hRh => ⟨(hRs h hh hRh).1, (hRs h hh hRh).2.1⟩) C (fun h hh hRh => ?_) hX' (fun h hh hRh k hk hRk' => ?_)
    · have := h3 h hh
      rw [if_pos hRh] at this
      rcases Int.mul_eq_zero.mp this with q | q <;> omega
    · have := h4 h hh
      rw [if_pos hRh] at this
      have := s5_nn0 (oth_nn (R := R) O hle hh) (by omega) k hk
      rw [if_neg (by simp [hRk'])] at this
      exact this
  intro h c hh hc
  by_cases hd : due g h c = 0
  · have := dle h c hh hc (Or.inr hd); omega
  · by_cases q : c < e h
    · have := dle h c hh hc (Or.inl q); omega
    · by_cases q2 : e h < c
      · have := ybeh h c hh hc q2 hd
        rw [this.1, this.2]; omega
      · have hce : c = e h := by omega
        subst hce
        rcases Int.lt_or_le 0 (Y h (e h) * D' - X' h (e h) * E) with z | z
        · by_cases hF : F h = true
          · exact absurd ⟨h, hh, by simp [hF, z]; omega⟩ (key _ rfl)
          · have := he h hh (by simpa using hF)
            omega
        · omega
/-- two that are the greatest, and below each other, are the same -/
def GS (g : Ck) (F : Int → Bool) (X : Int → Int → Int) (D : Int) : Prop := Sub g F X D ∧ Top g F X D
theorem GS.uniq {g : Ck} {F : Int → Bool} {X X' : Int → Int → Int} {D D' : Int} (h : GS g F X D) (h' : GS g F X' D') {k c : Int} (hk : hs k) (hc : kl c) : X k c * D' = X' k c * D := by
  have h1 := h.2 X' D' h'.1 k c hk hc
  have h2 := h'.2 X D h.1 k c hk hc
  omega
/-- what ends in a class pays the classes in turn -/
theorem Seg.sub {g : Ck} {F : Int → Bool} {e : Int → Int} {X : Int → Int → Int} {D : Int} (hD : 0 < D) (Sg : Seg g e X D) (hr : ∀ h, hs h → F h = true → 10 * yt g X h ≤ rt g X D h) : Sub g F X D := by
  refine ⟨hD, fun h c hh hc => (Sg h c hh hc).2.2.2, fun h c c' hh hc hc' hcc hd' hX hd => ?_, hr⟩
  have h1 := (Sg h c' hh hc').2.2.1
  by_cases q : e h < c'
  · have := h1 q (by omega); omega
  · exact (Sg h c hh hc).1 (by omega)
/-- fewer payers by rest, or more coins: not less -/
theorem Sub.more {g g' : Ck} {F F' : Int → Bool} {X : Int → Int → Int} {D : Int} (hF : ∀ h, hs h → F' h = true → F h = true) (hA : ckA g' = ckA g) (hA0 : 0 ≤ ckA g) (hB : ckB g' = ckB g) (hO : ckO g' = ckO g) (hC : ∀ h, hs h → ckC g h ≤ ckC g' h) (h : Sub g F X D) : Sub g' F' X D := by
  obtain ⟨h1, h2, h3, h4⟩ := h
  have hdue : due g' = due g := by funext x c; simp only [due, hO]
  refine ⟨h1, h2, fun k c c' hk hc hc' hcc hd' hX hd => h3 k c c' hk hc hc' hcc (hdue ▸ hd') hX (hdue ▸ hd), fun k hk hFk => ?_⟩
  have h5 := h4 k hk (hF k hk hFk)
  have h6 : yt g' X k = yt g X k := by simp only [yt, hdue]
  have h7 : gt g' X k = gt g X k := by simp only [gt, hO]
  have h8 := Int.mul_le_mul_of_nonneg_right (Int.mul_le_mul_of_nonneg_left (hC k hk) hA0) (Int.le_of_lt h1)
  rw [h6]
  unfold rt at h5 ⊢
  rw [hA, hB, h7]
  omega
theorem Top.more {g : Ck} {F F' : Int → Bool} {X : Int → Int → Int} {D : Int} (O : Okc g) (hF : ∀ h, hs h → F' h = true → F h = true) (h : Top g F' X D) : Top g F X D :=
  fun Y E hY => h Y E (Sub.more hF rfl O.1.1 rfl rfl (fun _ _ => Int.le_refl _) hY)
