/-! THE CLASS's coins -/
def xP (M : PM) (h t c : Int) : Int := M 39 ((((h * 5) + t) * 3) + c)
/-- none is paid by or to a house that isn't there; all are small -/
def xPz (M : PM) : Prop := ∀ h t c, hs h → hs t → kl c → (0 ≤ xP M h t c ∧ xP M h t c ≤ 20) ∧ ((M 1 0 ≤ h ∨ M 1 0 ≤ t) → xP M h t c = 0)
theorem ix_inj {h t c h' t' c' : Int} (hh : hs h) (ht : hs t) (hc : kl c) (hh' : hs h') (ht' : hs t') (hc' : kl c') : (((h * 5) + t) * 3) + c = (((h' * 5) + t') * 3) + c' ↔ h = h' ∧ t = t' ∧ c = c' := by
  constructor
  · intro q
    refine ⟨by omega, by omega, by omega⟩
  · rintro ⟨rfl, rfl, rfl⟩; rfl
theorem co_paidCoins {K : Nat} {h t c : Int} {M : PM} {Q : Option PV → PM → Prop} (hh : hs h) (ht : hs t) (hc : kl c) (hq : Q (some (.inl (xP M h t c))) M) : Call (K + 2) jCoins_paidCoins [.inr (.inr 37), .inl h, .inl t, .inl c] P0 P0 M Q :=
  c_co_paidCoins (K + 1) h t c M Q (c_coins_place K h t c M _ ⟨⟨by omega, by omega⟩, hq⟩)
theorem co_takeIn {K : Nat} {M : PM} {Q : Option PV → PM → Prop} (B : XB M) (z : xPz M) (hq : ∀ M', Ag [38] M M' → (∀ h, hs h → h < M 1 0 → M' 38 h = cgt (xP M) h) → Q none M') : Call (K + 3) jCoins_takeIn [.inr (.inr 37)] P0 P0 M Q := by
  have hn := B.1
  have l2 : ∀ (n : Nat) (h : Int) (M1 : PM), 0 ≤ h → h + (n : Int) = M 1 0 → Ag [38] M M1 → (∀ k, hs k → k < h → M1 38 k = cgt (xP M) k) → G none (K + 2 + 1) jCoins_takeIn 2 [(0, .inr (.inr 37)), (1, .inl h)] [] P0 P0 M1 Q := by
    intro n
    induction n with
    | zero =>
      intro h M1 h0 hh hA hI
      have e1 : M1 1 = M 1 := hA 1 (by decide)
      exact g_co_takeIn_2 _ _ _ _ ⟨⟨by omega, by omega⟩, by rw [e1]; exact ⟨by omega, by omega⟩, fun _ => hq M1 hA (fun k hk hl => hI k hk (by omega)), fun q => absurd (by rw [e1]; omega) q⟩
    | succ n ih =>
      intro h M1 h0 hh hA hI
      have e1 : M1 1 = M 1 := hA 1 (by decide)
      have hhs : hs h := ⟨h0, by omega⟩
      have l22 : ∀ (m : Nat) (f : Int) (M2 : PM), 0 ≤ f → f + (m : Int) = M 1 0 → Ag [38] M1 M2 → (∀ k, k ≠ h → M2 38 k = M1 38 k) → M2 38 h = pcs (fun k => s3 fun c => xP M k h c) f.toNat → G none (K + 2 + 1) jCoins_takeIn 22 [(0, .inr (.inr 37)), (1, .inl h), (2, .inl f)] [] P0 P0 M2 Q := by
        intro m
        induction m with
        | zero =>
          intro f M2 f0 hf hA2 hk2 hh2
          have e2 : M2 1 = M 1 := by rw [hA2 1 (by decide), e1]
          refine g_co_takeIn_22 _ _ _ _ _ ⟨⟨by omega, by omega⟩, by rw [e2]; exact ⟨by omega, by omega⟩, fun _ => ih (h + 1) M2 (by omega) (by omega) (hA.tr hA2) (fun k hk hl => ?_), fun q => absurd (by rw [e2]; omega) q⟩
          by_cases y : k = h
          · rw [y, hh2, show f = M 1 0 by omega, pcs_n5 hn (fun k hk hk2 => by
              have := fun c hc => (z k h c hk hhs hc).2 (Or.inl hk2)
              simp only [s3]
              rw [this 0 (by decide), this 1 (by decide), this 2 (by decide)]
              rfl)]
            rfl
          · rw [hk2 k y]; exact hI k hk (by omega)
        | succ m ih2 =>
          intro f M2 f0 hf hA2 hk2 hh2
          have e2 : M2 1 = M 1 := by rw [hA2 1 (by decide), e1]
          have hfs : hs f := ⟨f0, by omega⟩
          refine g_co_takeIn_22 _ _ _ _ _ ⟨⟨by omega, by omega⟩, by rw [e2]; exact ⟨by omega, by omega⟩, fun q => absurd q (by rw [e2]; omega), fun _ => ?_⟩
          have st : ∀ (c : Int) (M3 : PM), kl c → Ag [38] M1 M3 → (∀ k, k ≠ h → M3 38 k = M1 38 k) → (∀ M4, Ag [38] M1 M4 → (∀ k, k ≠ h → M4 38 k = M1 38 k) → M4 38 h = M3 38 h + xP M f h c → G none (K + 2 + 1) jCoins_takeIn 35 [(0, .inr (.inr 37)), (1, .inl h), (2, .inl f), (3, .inl (c + 1))] [] P0 P0 M4 Q) → G none (K + 2 + 1) jCoins_takeIn 35 [(0, .inr (.inr 37)), (1, .inl h), (2, .inl f), (3, .inl c)] [] P0 P0 M3 Q := by
            intro c M3 hc hA3 hk3 go
            refine g_co_takeIn_35 _ _ _ _ _ _ ⟨⟨by omega, by omega⟩, fun q => absurd q (by omega), fun _ => ⟨hhs, co_paidCoins hfs hhs hc (go _ (hA3.set (by decide)) (fun k hk => ?_) ?_)⟩⟩
            · rw [show ∀ v, (mset M3 38 h v) 38 k = M3 38 k from fun v => by simp [mset, hk]]; exact hk3 k hk
            · rw [mset_eq]
              unfold xP
              rw [hA3 39 (by decide), hA 39 (by decide)]
          refine st 0 M2 (by decide) hA2 hk2 (fun M3 a3 k3 v3 => st 1 M3 (by decide) a3 k3 (fun M4 a4 k4 v4 => st 2 M4 (by decide) a4 k4 (fun M5 a5 k5 v5 => ?_)))
          refine g_co_takeIn_35 _ _ _ _ _ _ ⟨by decide, fun _ => ih2 (f + 1) M5 (by omega) (by omega) a5 k5 ?_, fun q => absurd (by decide) q⟩
          rw [v5, v4, v3, hh2, pcs_up _ f0]
          simp only [s3]; omega
      refine g_co_takeIn_2 _ _ _ _ ⟨⟨by omega, by omega⟩, by rw [e1]; exact ⟨by omega, by omega⟩, fun q => absurd q (by rw [e1]; omega), fun _ => ⟨hhs, ?_⟩⟩
      refine l22 (M 1 0).toNat 0 _ (by decide) (by omega) ((Ag.rf _ _).set (by decide)) (fun k hk => by simp [mset, hk]) ?_
      rw [mset_eq]; rfl
  exact c_co_takeIn (K + 2) M Q (l2 (M 1 0).toNat 0 M (by decide) (by omega) (Ag.rf _ _) (fun k hk hl => by have := hk.1; omega))
theorem co_isShort {K : Nat} {h : Int} {M : PM} {Q : Option PV → PM → Prop} (B : XB M) (hh : hs h) (hi : 0 ≤ M 38 h ∧ M 38 h ≤ 300) (hq : Q (some (.inl (b2i (decide (M 2 h + M 38 h < s3 fun c => xd M h c))))) M) : Call (K + 4) jCoins_isShort [.inr (.inr 37), .inl h] P0 P0 M Q := by
  have hc := B.2.2.2.1 h hh
  have d0 := xd_b B hh (c := 0) (by decide); have d1 := xd_b B hh (c := 1) (by decide); have d2 := xd_b B hh (c := 2) (by decide)
  have ds : 0 ≤ (s3 fun c => xd M h c) ∧ (s3 fun c => xd M h c) ≤ 240 := by simp only [s3]; omega
  refine c_co_isShort (K + 3) h M Q ⟨hh, x_dueOf B hh ⟨⟨by omega, by omega⟩, ⟨by omega, by omega⟩, fun c => ?_, fun c => ?_⟩⟩
  · rw [decide_eq_false (by omega)] at hq; exact hq
  · rw [decide_eq_true (by omega)] at hq; exact hq
theorem co_rest {K : Nat} {h : Int} {M : PM} {Q : Option PV → PM → Prop} (B : XB M) (hh : hs h) (hi : 0 ≤ M 38 h ∧ M 38 h ≤ 300) (hq : Q (some (.inl (Int.tdiv (M 1 1 * M 2 h + M 1 2 * M 38 h) 10))) M) : Call (K + 1) jCoins_rest [.inr (.inr 37), .inl h] P0 P0 M Q := by
  have hA := B.2.1
  have hB := B.2.2.1
  have hc := B.2.2.2.1 h hh
  have p1 : 0 ≤ M 1 1 * M 2 h ∧ M 1 1 * M 2 h ≤ 10 * 200 := ⟨Int.mul_nonneg hA.1 hc.1, Int.mul_le_mul hA.2 hc.2 hc.1 (by omega)⟩
  have p2 : 0 ≤ M 1 2 * M 38 h ∧ M 1 2 * M 38 h ≤ 10 * 300 := ⟨Int.mul_nonneg hB.1 hi.1, Int.mul_le_mul hB.2 hi.2 hi.1 (by omega)⟩
  exact c_co_rest K h M Q ⟨hh, ⟨by omega, by omega⟩, hq⟩
/-- what a house pays of what it owes to one -/
theorem co_payOut {K : Nat} {h : Int} {M : PM} {Q : Option PV → PM → Prop} (B : XB M) (z : xPz M) (hh : hs h) (hi : 0 ≤ M 38 h ∧ M 38 h ≤ 300)
    (hq : ∀ M' b, Ag [39] M M' → (∀ t c, hs t → kl c → xP M' h t c = cam (cp_g M) (M 38 h) h t c) → (∀ k t c, hs k → hs t → kl c → k ≠ h → xP M' k t c = xP M k t c) → (b = false ↔ ∀ t c, hs t → kl c → cam (cp_g M) (M 38 h) h t c = xP M h t c) → Q (some (.inl (b2i b))) M') : Call (K + 5) jCoins_payOut [.inr (.inr 37), .inl h] P0 P0 M Q := by
  have hn := B.1
  have O : Okc (cp_g M) := cp_ok ⟨B, fun h hh => by have := B.2.2.2.1 h hh; omega⟩
  have hcl : ∀ c, kl c → 0 ≤ xd M h c ∧ xd M h c ≤ 80 := fun c hc => xd_b B hh hc
  obtain ⟨am, ham⟩ : ∃ am : Int → Int → Int, am = fun t c => cam (cp_g M) (M 38 h) h t c := ⟨_, rfl⟩
  have hz : ∀ t c, hs t → kl c → M 1 0 ≤ t → am t c = 0 := fun t c ht hc hl => by
    have := cam_mono O (x := M 38 h) (y := M 38 h) hh ht hc hi.1 (Int.le_refl _)
    have e : ckO (cp_g M) h t c = 0 := B.2.2.2.2.2.2.2 h t c hh ht hc (Or.inr hl)
    rw [ham]
    show cam (cp_g M) (M 38 h) h t c = 0
    omega
  have hamb : ∀ t c, hs t → kl c → 0 ≤ am t c ∧ am t c ≤ 20 := fun t c ht hc => by
    have := cam_mono O (x := M 38 h) (y := M 38 h) hh ht hc hi.1 (Int.le_refl _)
    have e : ckO (cp_g M) h t c ≤ 20 := (B.2.2.2.2.1 h t c hh ht hc).2
    rw [ham]
    show 0 ≤ cam (cp_g M) (M 38 h) h t c ∧ cam (cp_g M) (M 38 h) h t c ≤ 20
    omega
  -- what is done
  obtain ⟨J, hJ⟩ : ∃ J : Int → Bool → PM → Prop, J = fun k b M1 => Ag [39] M M1 ∧ (∀ t c, hs t → kl c → c * 5 + t < k → t < M 1 0 → xP M1 h t c = am t c) ∧ (∀ a t c, hs a → hs t → kl c → (a ≠ h ∨ k ≤ c * 5 + t ∨ M 1 0 ≤ t) → xP M1 a t c = xP M a t c) ∧ (b = false ↔ ∀ t c, hs t → kl c → c * 5 + t < k → t < M 1 0 → am t c = xP M h t c) := ⟨_, rfl⟩
  have stp : ∀ (t c : Int) (b : Bool) (M1 : PM), hs t → kl c → t < M 1 0 → J (c * 5 + t) b M1 → J (c * 5 + (t + 1)) (b || decide (am t c ≠ xP M1 h t c)) (mset M1 39 ((((h * 5) + t) * 3) + c) (am t c)) := by
    intro t c b M1 ht hc htn hj
    rw [hJ] at hj ⊢
    obtain ⟨a1, a2, a3, a4⟩ := hj
    have hnew : ∀ a t' c', hs a → hs t' → kl c' → xP (mset M1 39 ((((h * 5) + t) * 3) + c) (am t c)) a t' c' = if a = h ∧ t' = t ∧ c' = c then am t c else xP M1 a t' c' := by
      intro a t' c' ha ht' hc'
      unfold xP
      by_cases q : a = h ∧ t' = t ∧ c' = c
      · rw [if_pos q, q.1, q.2.1, q.2.2, mset_eq]
      · rw [if_neg q]
        have := mt (ix_inj ha ht' hc' hh ht hc).mp q
        simp [mset, this]
    have hold : xP M1 h t c = xP M h t c := a3 h t c hh ht hc (Or.inr (Or.inl (Int.le_refl _)))
    refine ⟨a1.set (by decide), fun t' c' ht' hc' hl hl2 => ?_, fun a t' c' ha ht' hc' hne => ?_, ?_⟩
    · rw [hnew h t' c' hh ht' hc']
      by_cases q : t' = t ∧ c' = c
      · rw [if_pos ⟨rfl, q⟩, q.1, q.2]
      · rw [if_neg (fun w => q w.2)]
        exact a2 t' c' ht' hc' (by omega) hl2
    · rw [hnew a t' c' ha ht' hc', if_neg (fun w => by omega)]
      exact a3 a t' c' ha ht' hc' (by omega)
    · rw [Bool.or_eq_false_iff, decide_eq_false_iff_not, a4, hold]
      constructor
      · rintro ⟨x, y⟩ t' c' ht' hc' hl hl2
        by_cases q : t' = t ∧ c' = c
        · rw [q.1, q.2]; exact Classical.byContradiction fun w => y w
        · exact x t' c' ht' hc' (by omega) hl2
      · intro x
        exact ⟨fun t' c' ht' hc' hl hl2 => x t' c' ht' hc' (by omega) hl2, fun y => y (x t c ht hc (by omega) htn)⟩
  have jump : ∀ (c : Int) (b : Bool) (M1 : PM), kl c → J (c * 5 + M 1 0) b M1 → J ((c + 1) * 5) b M1 := by
    intro c b M1 hc hj
    rw [hJ] at hj ⊢
    obtain ⟨a1, a2, a3, a4⟩ := hj
    refine ⟨a1, fun t' c' ht' hc' hl hl2 => a2 t' c' ht' hc' (by have := ht'.1; have := ht'.2; omega) hl2, fun a t' c' ha ht' hc' hne => a3 a t' c' ha ht' hc' (by omega), ?_⟩
    rw [a4]
    exact ⟨fun x t' c' ht' hc' hl hl2 => x t' c' ht' hc' (by have := ht'.1; have := ht'.2; omega) hl2, fun x t' c' ht' hc' hl hl2 => x t' c' ht' hc' (by omega) hl2⟩
  -- a class
  have l64 : ∀ (al l3 l7 : Int) (c : Int), kl c → (∀ t, hs t → am t c = if 0 < xd M h c then Int.tdiv (xo M h t c * l7) (xd M h c) else 0) → 0 ≤ l7 ∧ l7 ≤ 80 → R32 al →
      (∀ b M1, J ((c + 1) * 5) b M1 → G none (K + 4 + 1) jCoins_payOut 26 [(0, .inr (.inr 37)), (1, .inl h), (2, .inl al), (3, .inl (l3 - l7)), (4, .inl (b2i b)), (5, .inl (c + 1))] [] P0 P0 M1 Q) →
      ∀ (n : Nat) (t : Int) (b : Bool) (M1 : PM), 0 ≤ t → t + (n : Int) = M 1 0 → J (c * 5 + t) b M1 → G none (K + 4 + 1) jCoins_payOut 64 [(0, .inr (.inr 37)), (1, .inl h), (2, .inl al), (3, .inl l3), (4, .inl (b2i b)), (5, .inl c), (6, .inl (xd M h c)), (7, .inl l7), (8, .inl t)] [] P0 P0 M1 Q := by
    intro al l3 l7 c hc hav h7 hal go n
    have hd := hcl c hc
    induction n with
    | zero =>
      intro t b M1 t0 ht hj
      have hA : Ag [39] M M1 := by rw [hJ] at hj; exact hj.1
      have e1 : M1 1 = M 1 := hA 1 (by decide)
      refine g_co_payOut_64 _ _ _ _ _ _ _ _ _ _ _ ⟨⟨by omega, by omega⟩, by rw [e1]; exact ⟨by omega, by omega⟩, fun _ => go b M1 (jump c b M1 hc (by rw [← show t = M 1 0 by omega]; exact hj)), fun q => absurd (by rw [e1]; omega) q⟩
    | succ n ih =>
      intro t b M1 t0 ht hj
      have hts : hs t := ⟨t0, by omega⟩
      have hA : Ag [39] M M1 := by rw [hJ] at hj; exact hj.1
      have hold : xP M1 h t c = xP M h t c := by rw [hJ] at hj; exact hj.2.2.1 h t c hh hts hc (Or.inr (Or.inl (Int.le_refl _)))
      have hob := (z h t c hh hts hc).1
      have e1 : M1 1 = M 1 := hA 1 (by decide)
      have e3 : M1 3 = M 3 := hA 3 (by decide)
      have hso := B.2.2.2.2.1 h t c hh hts hc
      have hab := hamb t c hts hc
      have nx := stp t c b M1 hts hc (by omega) hj
      have fin : ∀ v, v = am t c → G none (K + 4 + 1) jCoins_payOut 64 [(0, .inr (.inr 37)), (1, .inl h), (2, .inl al), (3, .inl l3), (4, .inl (b2i (b || decide (am t c ≠ xP M1 h t c)))), (5, .inl c), (6, .inl (xd M h c)), (7, .inl l7), (8, .inl (t + 1))] [] P0 P0 (mset M1 39 ((((h * 5) + t) * 3) + c) v) Q := fun v hv => by
        rw [hv]
        exact ih (t + 1) _ _ (by omega) (by omega) nx
      have hR39 : R32 (M1 39 ((((h * 5) + t) * 3) + c)) := by
        have : M1 39 ((((h * 5) + t) * 3) + c) = xP M h t c := hold
        rw [this]; exact ⟨by omega, by omega⟩
      have hix : 0 ≤ (((h * 5) + t) * 3) + c ∧ (((h * 5) + t) * 3) + c < 75 := ⟨by omega, by omega⟩
      refine g_co_payOut_64 _ _ _ _ _ _ _ _ _ _ _ ⟨⟨by omega, by omega⟩, by rw [e1]; exact ⟨by omega, by omega⟩, fun q => absurd q (by rw [e1]; omega), fun _ => ?_⟩
      refine c_coins_place _ _ _ _ _ _ ⟨⟨by omega, by omega⟩, fun c1 => ?_, fun c1 => ?_⟩
      · have hv : (0 : Int) = am t c := by rw [hav t hts, if_neg (by omega)]
        have f := fin 0 hv
        refine ⟨b2i_R _, fun c2 => ⟨hix, ?_⟩, fun c2 => ⟨hix, hR39, fun c3 => ?_, fun c3 => ?_⟩⟩
        · rw [b2i_n0 c2, Bool.true_or] at f; exact f
        · rw [b2i_0] at c2
          have c3' : (0 : Int) = xP M1 h t c := c3
          rw [c2, Bool.false_or, decide_eq_false (fun w => w (by rw [← hv, ← c3']))] at f
          exact f
        · rw [b2i_0] at c2
          have c3' : ¬ (0 : Int) = xP M1 h t c := c3
          rw [c2, Bool.false_or, decide_eq_true (by rw [← hv]; exact c3')] at f
          exact f
      · have e3' : M1 3 ((((h * 5) + t) * 3) + c) = xo M h t c := by rw [e3]; rfl
        have hv : Int.tdiv (M1 3 ((((h * 5) + t) * 3) + c) * l7) (xd M h c) = am t c := by rw [hav t hts, if_pos (by omega), e3']
        have f := fin _ hv
        have hp : 0 ≤ xo M h t c * l7 ∧ xo M h t c * l7 ≤ 20 * 80 := ⟨Int.mul_nonneg hso.1 h7.1, Int.mul_le_mul hso.2 h7.2 h7.1 (by omega)⟩
        refine ⟨hix, by rw [e3']; exact ⟨by omega, by omega⟩, by omega, b2i_R _, fun c2 => ?_, fun c2 => ⟨by rw [hv]; exact ⟨by omega, by omega⟩, hR39, fun c3 => ?_, fun c3 => ?_⟩⟩
        · rw [b2i_n0 c2, Bool.true_or] at f; exact f
        · rw [b2i_0] at c2
          have c3' : am t c = xP M1 h t c := by rw [← hv]; exact c3
          rw [c2, Bool.false_or, decide_eq_false (fun w => w c3')] at f
          exact f
        · rw [b2i_0] at c2
          have c3' : ¬ am t c = xP M1 h t c := by rw [← hv]; exact c3
          rw [c2, Bool.false_or, decide_eq_true c3'] at f
          exact f
  have hL := cL_mono O hh hi.1 (Int.le_refl (M 38 h))
  have hdue : ∀ c, due (cp_g M) h c = xd M h c := fun c => rfl
  have end26 : ∀ (al l3 : Int) (b : Bool) (M1 : PM), J (3 * 5) b M1 → G none (K + 4 + 1) jCoins_payOut 26 [(0, .inr (.inr 37)), (1, .inl h), (2, .inl al), (3, .inl l3), (4, .inl (b2i b)), (5, .inl 3)] [] P0 P0 M1 Q := by
    intro al l3 b M1 hj
    refine g_co_payOut_26 _ _ _ _ _ _ _ _ ⟨by decide, fun _ => ⟨b2i_01 b, ?_⟩, fun q => absurd (by decide) q⟩
    rw [hJ] at hj
    obtain ⟨a1, a2, a3, a4⟩ := hj
    refine hq M1 b a1 (fun t c ht hc => ?_) (fun k t c hk ht hc hne => a3 k t c hk ht hc (Or.inl hne)) ?_
    · have e : cam (cp_g M) (M 38 h) h t c = am t c := by rw [ham]
      rw [e]
      by_cases q : t < M 1 0
      · exact a2 t c ht hc (by have := hc.2; have := ht.2; omega) q
      · rw [a3 h t c hh ht hc (Or.inr (Or.inr (by omega))), hz t c ht hc (by omega)]
        exact (z h t c hh ht hc).2 (Or.inr (by omega))
    · rw [a4]
      constructor
      · intro x t c ht hc
        have e : cam (cp_g M) (M 38 h) h t c = am t c := by rw [ham]
        rw [e]
        by_cases q : t < M 1 0
        · exact x t c ht hc (by have := hc.2; have := ht.2; omega) q
        · rw [hz t c ht hc (by omega)]
          exact ((z h t c hh ht hc).2 (Or.inr (by omega))).symm
      · intro x t c ht hc _ _
        rw [ham]
        exact x t c ht hc
  have hbook : ∀ b k M1, J k b M1 → XB M1 ∧ xd M1 = xd M := fun b k M1 hj => by
    rw [hJ] at hj
    exact ⟨B.of (hj.1 1 (by decide)) (hj.1 2 (by decide)) (hj.1 3 (by decide)), xd_of (hj.1 3 (by decide))⟩
  have j0 : J 0 false M := by
    rw [hJ]
    exact ⟨Ag.rf _ _, fun t c ht hc hl => by have := ht.1; have := hc.1; omega, fun _ _ _ _ _ _ _ => rfl, by
      refine ⟨fun _ t c ht hc hl => by have := ht.1; have := hc.1; omega, fun _ => rfl⟩⟩
  refine c_co_payOut (K + 4) h M Q (co_isShort B hh hi ⟨b2i_R _, fun c1 => co_rest B hh hi ?_, fun c1 => co_rest B hh hi ?_⟩)
  · -- short: by the rest
    have hs1 := of_decide_eq_true (b2i_n0 c1)
    have eL : cL (cp_g M) (M 38 h) h = Int.tdiv (M 1 1 * M 2 h + M 1 2 * M 38 h) 10 := by
      unfold cL
      exact if_pos hs1
    have c26 : ∀ (c : Int) (b : Bool) (M1 : PM), kl c → J (c * 5) b M1 → (∀ b' M1', J ((c + 1) * 5) b' M1' → G none (K + 4 + 1) jCoins_payOut 26 [(0, .inr (.inr 37)), (1, .inl h), (2, .inl 0), (3, .inl (crl (cp_g M) (cL (cp_g M) (M 38 h) h) h (c + 1).toNat)), (4, .inl (b2i b')), (5, .inl (c + 1))] [] P0 P0 M1' Q) →
        G none (K + 4 + 1) jCoins_payOut 26 [(0, .inr (.inr 37)), (1, .inl h), (2, .inl 0), (3, .inl (crl (cp_g M) (cL (cp_g M) (M 38 h) h) h c.toNat)), (4, .inl (b2i b)), (5, .inl c)] [] P0 P0 M1 Q := by
      intro c b M1 hc hj go
      have hd := hcl c hc
      have hb := hbook _ _ _ hj
      have hr := crl_mono O hh hL.2 hL.1 c.toNat (by have := hc.2; omega)
      have hr3 := crl_mono O hh (L := cL (cp_g M) (M 38 h) h) (L' := 2000) (h := h) (by
        have a := cA_b O hh hi.1
        rw [eL]
        have e : ckA (cp_g M) * ckC (cp_g M) h + ckB (cp_g M) * M 38 h = M 1 1 * M 2 h + M 1 2 * M 38 h := rfl
        have hcc := B.2.2.2.1 h hh
        have e2 : ckC (cp_g M) h = M 2 h := rfl
        rw [e, e2] at a
        rw [td_ed a.1]
        omega) hL.1 c.toNat (by have := hc.2; omega)
      have hle : ∀ n : Nat, n ≤ 3 → crl (cp_g M) 2000 h n ≤ 2000 := fun n => by
        induction n with
        | zero => intro _; exact Int.le_refl _
        | succ n ihn =>
          intro hn3
          have i := ihn (by omega)
          have r := crl_mono O hh (L := 2000) (L' := 2000) (h := h) (Int.le_refl _) (by decide) n (by omega)
          have d := due_nn O hh (c := ((n : Nat) : Int)) ⟨by omega, by omega⟩
          simp only [crl, mn2]
          split <;> omega
      have hr4 := hle c.toNat (by have := hc.2; omega)
      refine g_co_payOut_26 _ _ _ _ _ _ _ _ ⟨⟨by omega, by omega⟩, fun q => absurd q (by omega), fun _ => x_dueIn phk_1_P0 hb.1 hh hc ?_⟩
      rw [hb.2]
      refine ⟨by decide, fun _ => ⟨⟨by omega, by omega⟩, ⟨by omega, by omega⟩, ?_⟩, fun q => absurd rfl q⟩
      have e7 : 0 ≤ mn2 (crl (cp_g M) (cL (cp_g M) (M 38 h) h) h c.toNat) (xd M h c) ∧ mn2 (crl (cp_g M) (cL (cp_g M) (M 38 h) h) h c.toNat) (xd M h c) ≤ 80 := by simp only [mn2]; split <;> omega
      refine l64 0 _ _ c hc (fun t ht => ?_) e7 (by decide) (fun b' M1' j' => ?_) (M 1 0).toNat 0 b M1 (by decide) (by omega) (by rw [Int.add_zero]; exact hj)
      · rw [ham]
        show cam (cp_g M) (M 38 h) h t c = _
        unfold cam
        rw [hdue]
        rfl
      · have e8 : crl (cp_g M) (cL (cp_g M) (M 38 h) h) h c.toNat - mn2 (crl (cp_g M) (cL (cp_g M) (M 38 h) h) h c.toNat) (xd M h c) = crl (cp_g M) (cL (cp_g M) (M 38 h) h) h (c + 1).toNat := by
          rw [show (c + 1).toNat = c.toNat + 1 by have := hc.1; omega, crl, Int.toNat_of_nonneg hc.1, hdue]
        rw [e8]
        exact go b' M1' j'
    have := c26 0 false M (by decide) j0 (fun b1 M1 j1 => c26 1 b1 M1 (by decide) j1 (fun b2 M2 j2 => c26 2 b2 M2 (by decide) j2 (fun b3 M3 j3 => end26 _ _ b3 M3 j3)))
    rw [show (0 : Int).toNat = 0 from rfl, crl, eL] at this
    exact this
  · -- it pays all
    have hs1 := of_decide_eq_false (b2i_0.mp c1)
    have eL : cL (cp_g M) (M 38 h) h = s3 fun c => xd M h c := by
      unfold cL
      exact if_neg hs1
    have c26 : ∀ (c : Int) (b : Bool) (M1 : PM) (l3 : Int), kl c → J (c * 5) b M1 → (∀ b' M1' l3', J ((c + 1) * 5) b' M1' → G none (K + 4 + 1) jCoins_payOut 26 [(0, .inr (.inr 37)), (1, .inl h), (2, .inl 1), (3, .inl l3'), (4, .inl (b2i b')), (5, .inl (c + 1))] [] P0 P0 M1' Q) →
        G none (K + 4 + 1) jCoins_payOut 26 [(0, .inr (.inr 37)), (1, .inl h), (2, .inl 1), (3, .inl l3), (4, .inl (b2i b)), (5, .inl c)] [] P0 P0 M1 Q := by
      intro c b M1 l3 hc hj go
      have hd := hcl c hc
      have hb := hbook _ _ _ hj
      refine g_co_payOut_26 _ _ _ _ _ _ _ _ ⟨⟨by omega, by omega⟩, fun q => absurd q (by omega), fun _ => x_dueIn phk_1_P0 hb.1 hh hc ?_⟩
      rw [hb.2]
      refine ⟨by decide, fun q => absurd q (by decide), fun _ => ?_⟩
      refine l64 1 _ _ c hc (fun t ht => ?_) hd (by decide) (fun b' M1' j' => go b' M1' _ j') (M 1 0).toNat 0 b M1 (by decide) (by omega) (by rw [Int.add_zero]; exact hj)
      rw [ham]
      show cam (cp_g M) (M 38 h) h t c = _
      unfold cam
      have ha := crl_all O hh hc
      have e9 : mn2 (crl (cp_g M) (cL (cp_g M) (M 38 h) h) h c.toNat) (due (cp_g M) h c) = xd M h c := by
        rw [eL]
        have ha' : xd M h c ≤ crl (cp_g M) (s3 fun c => xd M h c) h c.toNat := ha
        rw [hdue, mn2]
        split <;> omega
      rw [e9, hdue]
      rfl
    exact c26 0 false M _ (by decide) j0 (fun b1 M1 l1 j1 => c26 1 b1 M1 l1 (by decide) j1 (fun b2 M2 l2 j2 => c26 2 b2 M2 l2 (by decide) j2 (fun b3 M3 l3 j3 => end26 _ _ b3 M3 j3)))
