/-! LOWEST TERMS -/
theorem m_divisor_nat {K : Nat} {M : PM} {Q : Option PV → PM → Prop} : ∀ (b a : Nat), a < 9223372036854775808 → b < 9223372036854775808 → Q (some (.inr (.inl ((Nat.gcd a b : Nat) : Int)))) M → G none (K + 1) jModel_divisor 6 [(4, .inr (.inl (a : Int))), (6, .inr (.inl (b : Int)))] [] P0 P0 M Q := by
  intro b
  induction b using Nat.strongRecOn with
  | _ b ih =>
    intro a ha hb hq
    refine g_model_divisor_6 _ _ _ _ _ ⟨⟨by omega, by omega⟩, fun c => ?_, fun c => ⟨⟨by omega, by omega⟩, c, ?_⟩⟩
    · have : b = 0 := by omega
      subst this
      rw [Nat.gcd_zero_right] at hq
      exact hq
    · have hb0 : 0 < b := by omega
      have e : Int.tmod (a : Int) (b : Int) = ((a % b : Nat) : Int) := rfl
      rw [e]
      have hlt := Nat.mod_lt a hb0
      refine ih (a % b) hlt b hb (by omega) ?_
      rw [Nat.gcd_comm, ← Nat.gcd_rec, Nat.gcd_comm]
      exact hq
theorem m_divisor {K : Nat} {M : PM} {x y : Int} {Q : Option PV → PM → Prop} (hx : 0 ≤ x ∧ x < 9223372036854775808) (hy : 0 ≤ y ∧ y < 9223372036854775808) (hq : Q (some (.inr (.inl ((Int.gcd x y : Nat) : Int)))) M) : Call (K + 1) jModel_divisor [.inr (.inl x), .inr (.inl y)] P0 P0 M Q := by
  obtain ⟨a, rfl⟩ := Int.eq_ofNat_of_zero_le hx.1
  obtain ⟨b, rfl⟩ := Int.eq_ofNat_of_zero_le hy.1
  refine c_model_divisor K _ _ M Q (m_divisor_nat b a (by omega) (by omega) ?_)
  exact hq
/-- no number but 1 divides all -/
def Red (X : Int → Int → Int) (D : Int) : Prop := ∀ q : Nat, (q : Int) ∣ D → (∀ h c, hs h → kl c → (q : Int) ∣ X h c) → q = 1
theorem red_uniq {X X' : Int → Int → Int} {D D' : Int} (hD : 0 < D) (hD' : 0 < D') (hR : Red X D) (hR' : Red X' D') (h : ∀ k c, hs k → kl c → X k c * D' = X' k c * D) : D = D' ∧ ∀ k c, hs k → kl c → X k c = X' k c := by
  have key : ∀ {X X' : Int → Int → Int} {D D' : Int}, 0 < D → 0 < D' → Red X D → (∀ k c, hs k → kl c → X k c * D' = X' k c * D) → D ∣ D' := by
    intro X X' D D' hD hD' hR h
    obtain ⟨a, rfl⟩ := Int.eq_ofNat_of_zero_le (Int.le_of_lt hD)
    obtain ⟨b, rfl⟩ := Int.eq_ofNat_of_zero_le (Int.le_of_lt hD')
    have ha : 0 < a := by omega
    have hg : 0 < Nat.gcd a b := Nat.gcd_pos_of_pos_left b ha
    have hu : a / Nat.gcd a b = 1 := by
      refine hR (a / Nat.gcd a b) ?_ (fun k c hk hc => ?_)
      · exact Int.natCast_dvd_natCast.mpr (Nat.div_dvd_of_dvd (Nat.gcd_dvd_left a b))
      · have e := h k c hk hc
        have e1 : (a : Int) = ((a / Nat.gcd a b : Nat) : Int) * ((Nat.gcd a b : Nat) : Int) := by
          rw [← Int.natCast_mul, Nat.div_mul_cancel (Nat.gcd_dvd_left a b)]
        have e2 : (b : Int) = ((b / Nat.gcd a b : Nat) : Int) * ((Nat.gcd a b : Nat) : Int) := by
          rw [← Int.natCast_mul, Nat.div_mul_cancel (Nat.gcd_dvd_right a b)]
        have e3 : X k c * ((b / Nat.gcd a b : Nat) : Int) = X' k c * ((a / Nat.gcd a b : Nat) : Int) := by
          have : (X k c * ((b / Nat.gcd a b : Nat) : Int)) * ((Nat.gcd a b : Nat) : Int) = (X' k c * ((a / Nat.gcd a b : Nat) : Int)) * ((Nat.gcd a b : Nat) : Int) := by
            rw [Int.mul_assoc, Int.mul_assoc, ← e1, ← e2]; exact e
          exact Int.eq_of_mul_eq_mul_right (by omega) this
        have hcop : Nat.Coprime (a / Nat.gcd a b) (b / Nat.gcd a b) := Nat.coprime_div_gcd_div_gcd hg
        have hd : (a / Nat.gcd a b) ∣ (X k c).natAbs * (b / Nat.gcd a b) := by
          have := congrArg Int.natAbs e3
          rw [Int.natAbs_mul, Int.natAbs_mul, Int.natAbs_natCast, Int.natAbs_natCast] at this
          rw [this]
          exact Nat.dvd_mul_left _ _
        have := Nat.Coprime.dvd_of_dvd_mul_right hcop hd
        exact Int.ofNat_dvd_left.mpr this
    have : a = Nat.gcd a b := by
      have h1 := Nat.div_mul_cancel (Nat.gcd_dvd_left a b)
      rw [hu, Nat.one_mul] at h1
      exact h1.symm
    refine Int.natCast_dvd_natCast.mpr ?_
    rw [this]
    exact Nat.gcd_dvd_right a b
  have h1 := key hD hD' hR h
  have h2 := key hD' hD hR' (fun k c hk hc => (h k c hk hc).symm)
  have h3 : D = D' := Int.dvd_antisymm (by omega) (by omega) h1 h2
  refine ⟨h3, fun k c hk hc => ?_⟩
  have := h k c hk hc
  rw [← h3] at this
  exact Int.eq_of_mul_eq_mul_right (by omega) this
/-- what is left where all is divided by its greatest common divisor -/
theorem red_div {X : Int → Int → Int} {D : Int} {d : Nat} (hd : 0 < d) (h1 : (d : Int) ∣ D) (h2 : ∀ h c, hs h → kl c → (d : Int) ∣ X h c) (h3 : ∀ q : Nat, (q : Int) ∣ D → (∀ h c, hs h → kl c → (q : Int) ∣ X h c) → q ∣ d) : Red (fun h c => X h c / (d : Int)) (D / (d : Int)) := by
  intro q hq hX
  have h4 : q * d ∣ d := by
    refine h3 (q * d) ?_ (fun h c hh hc => ?_)
    · rw [Int.natCast_mul]
      obtain ⟨z, hz⟩ := hq
      exact ⟨z, by
        have := Int.ediv_mul_cancel h1
        rw [hz] at this
        rw [← this, Int.mul_right_comm]⟩
    · rw [Int.natCast_mul]
      obtain ⟨z, hz⟩ := hX h c hh hc
      exact ⟨z, by
        have hz' : X h c / (d : Int) = (q : Int) * z := hz
        have := Int.ediv_mul_cancel (h2 h c hh hc)
        rw [hz'] at this
        rw [← this, Int.mul_right_comm]⟩
  have h5 := Nat.le_of_dvd hd h4
  have h6 : 0 < q := by
    rcases Nat.eq_zero_or_pos q with z | z
    · rw [z, Nat.zero_mul] at h4
      have := Nat.eq_zero_of_zero_dvd h4
      omega
    · exact z
  rcases Nat.lt_or_ge 1 q with z | z
  · have := Nat.mul_le_mul_right d (show 2 ≤ q from z)
    omega
  · omega
/-- the number of a house and class -/
def kx (X : Int → Int → Int) (k : Int) : Int := X (k / 3) (k % 3)
/-- gcd of acc and the first n -/
def gcs (X : Int → Int → Int) (acc : Int) : Nat → Nat
  | 0 => acc.toNat
  | n + 1 => Int.gcd (gcs X acc n : Nat) (kx X (n : Int))
theorem gcs_dvd {X : Int → Int → Int} {acc : Int} (h0 : 0 ≤ acc) : ∀ n : Nat, ((gcs X acc n : Nat) : Int) ∣ acc ∧ ∀ k : Nat, k < n → ((gcs X acc n : Nat) : Int) ∣ kx X (k : Int)
  | 0 => ⟨by rw [gcs, Int.toNat_of_nonneg h0]; exact Int.dvd_refl _, fun k h => absurd h (by omega)⟩
  | n + 1 => by
    have ih := gcs_dvd (X := X) h0 n
    have h1 : ((gcs X acc (n + 1) : Nat) : Int) ∣ ((gcs X acc n : Nat) : Int) := Int.gcd_dvd_left _ _
    have h2 : ((gcs X acc (n + 1) : Nat) : Int) ∣ kx X (n : Int) := Int.gcd_dvd_right _ _
    refine ⟨Int.dvd_trans h1 ih.1, fun k hk => ?_⟩
    by_cases q : k = n
    · rw [q]; exact h2
    · exact Int.dvd_trans h1 (ih.2 k (by omega))
theorem gcs_max {X : Int → Int → Int} {acc : Int} (h0 : 0 ≤ acc) {q : Nat} (ha : (q : Int) ∣ acc) : ∀ n : Nat, (∀ k : Nat, k < n → (q : Int) ∣ kx X (k : Int)) → q ∣ gcs X acc n
  | 0, _ => by
    rw [gcs]
    have := Int.ofNat_dvd_left.mp ha
    rwa [show acc.natAbs = acc.toNat by omega] at this
  | n + 1, h => by
    have ih := gcs_max h0 ha n fun k hk => h k (by omega)
    rw [gcs]
    exact Int.dvd_gcd (Int.natCast_dvd_natCast.mpr ih) (h n (by omega))
theorem kx_at (X : Int → Int → Int) {h c : Int} (hc : kl c) : kx X (3 * h + c) = X h c := by
  unfold kx
  rw [show (3 * h + c) / 3 = h by omega, show (3 * h + c) % 3 = c by omega]
/-- the model's agrees, its end: parts by d, round r -/
theorem m_agend {K : Nat} {M : PM} {F : Int → Bool} {r : Int} {Q : Option PV → PM → Prop} (S : MS M) (O : OpM M F) (hW : 0 < M 52 21 ∧ M 52 21 ≤ 327680000000000) (hp : ∀ h ∈ osM M, 0 ≤ M 66 h ∧ M 66 h ≤ M 52 21) (hr : 0 ≤ r ∧ r ≤ 5)
    (hq : ∀ (M' : PM) (d : Nat), Ag [58, 59] M M' → 0 < d → (d : Int) ∣ M 52 21 → (∀ h c, hs h → kl c → (d : Int) ∣ Xs (gM M) (M 62) (osM M) (M 66) (M 52 21) h c) → (∀ q : Nat, (q : Int) ∣ M 52 21 → (∀ h c, hs h → kl c → (q : Int) ∣ Xs (gM M) (M 62) (osM M) (M 66) (M 52 21) h c) → q ∣ d) →
      (∀ i, i ≠ r → M' 59 i = M 59 i) → M' 59 r = M 52 21 / (d : Int) → (∀ j, ¬ (15 * r ≤ j ∧ j < 15 * r + 15) → M' 58 j = M 58 j) → (∀ h c, hs h → kl c → M' 58 (((15 * r) + (3 * h)) + c) = Xs (gM M) (M 62) (osM M) (M 66) (M 52 21) h c / (d : Int)) → Q none M') :
    G none (K + 12 + 1) jModel_agrees 39 [(0, .inr (.inr 52)), (1, .inl r), (2, .inr (.inl (M 52 21))), (4, .inl 0)] [] P0 P0 M Q := by
  have B := S.1
  have hm := O.1
  have Sg := xs_seg hW.1 O.2 hp
  have hX : ∀ k : Int, 0 ≤ k → k < 15 → 0 ≤ kx (Xs (gM M) (M 62) (osM M) (M 66) (M 52 21)) k ∧ kx (Xs (gM M) (M 62) (osM M) (M 66) (M 52 21)) k ≤ M 52 21 := fun k h0 h1 => (Sg (k / 3) (k % 3) (by omega) (by omega)).2.2.2
  generalize hXe : Xs (gM M) (M 62) (osM M) (M 66) (M 52 21) = X at hq hX
  have hgp : ∀ n : Nat, 0 < gcs X (M 52 21) n := fun n => by
    have := (gcs_dvd (X := X) (Int.le_of_lt hW.1) n).1
    rcases Nat.eq_zero_or_pos (gcs X (M 52 21) n) with z | z
    · rw [z] at this
      have := Int.zero_dvd.mp this
      omega
    · exact z
  have hgl : ∀ n : Nat, ((gcs X (M 52 21) n : Nat) : Int) ≤ M 52 21 := fun n => Int.le_of_dvd hW.1 (gcs_dvd (X := X) (Int.le_of_lt hW.1) n).1
  -- dividing
  have l182 : ∀ (n : Nat) (k : Int) (M1 : PM), 0 ≤ k → k + (n : Int) = 15 → Ag [58, 59] M M1 → (∀ i, i ≠ r → M1 59 i = M 59 i) → M1 59 r = M 52 21 / ((gcs X (M 52 21) 15 : Nat) : Int) → (∀ j, ¬ (15 * r ≤ j ∧ j < 15 * r + 15) → M1 58 j = M 58 j) →
      (∀ j, 0 ≤ j → j < k → M1 58 (15 * r + j) = kx X j / ((gcs X (M 52 21) 15 : Nat) : Int)) → (∀ j, k ≤ j → j < 15 → M1 58 (15 * r + j) = kx X j) →
      G none (K + 12 + 1) jModel_agrees 182 [(0, .inr (.inr 52)), (1, .inl r), (2, .inr (.inl ((gcs X (M 52 21) 15 : Nat) : Int))), (4, .inl k)] [] P0 P0 M1 Q := by
    intro n
    induction n with
    | zero =>
      intro k M1 h0 hn hA h59 h59r h58 hd1 hd2
      refine g_m_agrees_182 _ _ _ _ _ _ ⟨⟨by omega, by omega⟩, fun _ => ?_, fun q => absurd (by omega) q⟩
      have hg := gcs_dvd (X := X) (Int.le_of_lt hW.1) 15
      have hat : ∀ h c, hs h → kl c → X h c = kx X (((3 * h + c).toNat : Nat) : Int) := fun h c hh hc => by
        rw [Int.toNat_of_nonneg (by omega), kx_at X hc]
      refine hq M1 _ hA (hgp 15) hg.1 (fun h c hh hc => ?_) (fun q hq1 hq2 => gcs_max (Int.le_of_lt hW.1) hq1 15 fun k' hk' => ?_) h59 h59r h58 (fun h c hh hc => ?_)
      · rw [hat h c hh hc]; exact hg.2 _ (by omega)
      · exact hq2 _ _ (by omega) (by omega)
      · rw [show ((15 * r) + (3 * h)) + c = 15 * r + (3 * h + c) by omega, hd1 _ (by omega) (by omega), kx_at X hc]
    | succ n ih =>
      intro k M1 h0 hn hA h59 h59r h58 hd1 hd2
      have hk := hX k h0 (by omega)
      have hv := hd2 k (Int.le_refl k) (by omega)
      have hg1 := hgp 15
      have hg2 := hgl 15
      refine g_m_agrees_182 _ _ _ _ _ _ ⟨⟨by omega, by omega⟩, fun q => absurd q (by omega), fun _ => ⟨⟨by omega, by omega⟩, by rw [hv]; exact ⟨by omega, by omega⟩, ⟨by omega, by omega⟩, by omega, ?_⟩⟩
      rw [hv, Int.tdiv_eq_ediv_of_nonneg hk.1]
      have e : ∀ j, j ≠ 15 * r + k → (mset M1 58 (15 * r + k) (kx X k / ((gcs X (M 52 21) 15 : Nat) : Int))) 58 j = M1 58 j := fun j hj => by simp [mset, hj]
      refine ih (k + 1) _ (by omega) (by omega) (hA.set (by decide)) (fun i hi => by rw [mset_ne (by decide)]; exact h59 i hi) (by rw [mset_ne (by decide)]; exact h59r) (fun j hj => by rw [e j (by omega)]; exact h58 j hj) (fun j h1 h2 => ?_) (fun j h1 h2 => by rw [e _ (by omega)]; exact hd2 j (by omega) h2)
      by_cases q : j = k
      · rw [q, mset_eq]
      · rw [e _ (by omega)]; exact hd1 j h1 (by omega)
  -- gathering
  have l39 : ∀ (n : Nat) (k : Int) (M1 : PM), 0 ≤ k → k + (n : Int) = 15 → Ag [58] M M1 → (∀ j, ¬ (15 * r ≤ j ∧ j < 15 * r + 15) → M1 58 j = M 58 j) → (∀ j, 0 ≤ j → j < k → M1 58 (15 * r + j) = kx X j) →
      G none (K + 12 + 1) jModel_agrees 39 [(0, .inr (.inr 52)), (1, .inl r), (2, .inr (.inl ((gcs X (M 52 21) k.toNat : Nat) : Int))), (4, .inl k)] [] P0 P0 M1 Q := by
    intro n
    induction n with
    | zero =>
      intro k M1 h0 hn hA h58 hd
      have h52 : M1 52 = M 52 := hA 52 (by decide)
      have hk : k = 15 := by omega
      subst hk
      have hg1 := hgp 15
      have hg2 := hgl 15
      refine g_m_agrees_39 _ _ _ _ _ _ ⟨by decide, fun _ => ⟨by rw [h52]; exact ⟨by omega, by omega⟩, ⟨by show _ ≤ ((gcs X (M 52 21) 15 : Nat) : Int); omega, by show ((gcs X (M 52 21) 15 : Nat) : Int) < _; omega⟩, by show ((gcs X (M 52 21) 15 : Nat) : Int) ≠ 0; omega, ⟨by omega, by omega⟩, ?_⟩, fun q => absurd (by decide) q⟩
      rw [h52, Int.tdiv_eq_ediv_of_nonneg (Int.le_of_lt hW.1)]
      refine l182 15 0 _ (by decide) (by decide) ((hA.mono (by decide)).set (by decide)) (fun i hi => ?_) mset_eq (fun j hj => by rw [mset_ne (by decide)]; exact h58 j hj) (fun j h1 h2 => absurd h2 (by omega)) (fun j h1 h2 => by rw [mset_ne (by decide)]; exact hd j h1 (by omega))
      have : (mset M1 59 r (M 52 21 / ((gcs X (M 52 21) 15 : Nat) : Int))) 59 i = M1 59 i := by simp [mset, hi]
      show (mset M1 59 r (M 52 21 / ((gcs X (M 52 21) (15 : Int).toNat : Nat) : Int))) 59 i = M 59 i
      rw [show (15 : Int).toNat = 15 from rfl, this, hA 59 (by decide)]
    | succ n ih =>
      intro k M1 h0 hn hA h58 hd
      have h52 : M1 52 = M 52 := hA 52 (by decide)
      have h62 : M1 62 = M 62 := hA 62 (by decide)
      have h63 : M1 63 = M 63 := hA 63 (by decide)
      have h55 : M1 55 = M 55 := hA 55 (by decide)
      have h66 : M1 66 = M 66 := hA 66 (by decide)
      have ed : Int.tdiv k 3 = k / 3 := Int.tdiv_eq_ediv_of_nonneg h0
      have em : Int.tmod k 3 = k % 3 := Int.tmod_eq_emod_of_nonneg h0
      have hh : hs (k / 3) := by omega
      have hc : kl (k % 3) := by omega
      have hL := S.2.2 (k / 3) hh
      have hkb := hX k h0 (by omega)
      have hg1 := hgp k.toNat
      have hg2 := hgl k.toNat
      have hgn : ((gcs X (M 52 21) (k + 1).toNat : Nat) : Int) = ((Int.gcd ((gcs X (M 52 21) k.toNat : Nat) : Int) (kx X k) : Nat) : Int) := by
        rw [show (k + 1).toNat = k.toNat + 1 by omega, gcs, Int.toNat_of_nonneg h0]
      -- one part is laid
      have go : ∀ v, v = kx X k → Call (K + 12) jModel_divisor [.inr (.inl ((gcs X (M 52 21) k.toNat : Nat) : Int)), .inr (.inl v)] P0 P0 (mset M1 58 ((15 * r) + k) v) (retL fun r2 M3 => G none (K + 12 + 1) jModel_agrees 39 [(0, .inr (.inr 52)), (1, .inl r), (2, .inr (.inl r2)), (4, .inl (k + 1))] [] P0 P0 M3 Q) := by
        intro v hv
        rw [hv]
        refine m_divisor (K := K + 11) ⟨by omega, by omega⟩ ⟨by omega, by omega⟩ ?_
        show G none (K + 12 + 1) jModel_agrees 39 _ _ _ _ _ _
        rw [← hgn]
        have e : ∀ j, j ≠ 15 * r + k → (mset M1 58 (15 * r + k) (kx X k)) 58 j = M1 58 j := fun j hj => by simp [mset, hj]
        refine ih (k + 1) _ (by omega) (by omega) (hA.set (by decide)) (fun j hj => by rw [e j (by omega)]; exact h58 j hj) (fun j h1 h2 => ?_)
        by_cases q : j = k
        · rw [q, mset_eq]
        · rw [e _ (by omega)]; exact hd j h1 (by omega)
      have hval : kx X k = Xs (gM M) (M 62) (osM M) (M 66) (M 52 21) (k / 3) (k % 3) := by rw [hXe]; rfl
      have g81 : kx X k = M 52 21 → G none (K + 12 + 1) jModel_agrees 81 [(0, .inr (.inr 52)), (1, .inl r), (2, .inr (.inl ((gcs X (M 52 21) k.toNat : Nat) : Int))), (4, .inl k), (5, .inl (k / 3)), (6, .inl (k % 3))] [] P0 P0 M1 Q := by
        intro he
        refine g_m_agrees_81 _ _ _ _ _ _ _ _ ⟨⟨by omega, by omega⟩, ?_⟩
        rw [h52]
        exact go _ he.symm
      refine g_m_agrees_39 _ _ _ _ _ _ ⟨⟨by omega, by omega⟩, fun q => absurd q (by omega), fun _ => ?_⟩
      rw [ed, em, h62]
      refine ⟨hh, ⟨by omega, by omega⟩, ⟨by omega, by omega⟩, fun c1 => g81 ?_, fun c1 => m_due hh hc ?_⟩
      · rw [hval]; unfold Xs; rw [if_pos (Or.inl c1)]
      · rw [md_of h55]
        have hdb := md_b B hh hc
        refine ⟨⟨by omega, by omega⟩, fun c2 => ⟨by rw [h62]; exact ⟨by omega, by omega⟩, fun c3 => ⟨⟨by omega, by omega⟩, go 0 ?_⟩, fun c3 => ?_⟩, fun c2 => g81 ?_⟩
        · rw [h62] at c3
          rw [hval]; unfold Xs
          rw [if_neg (fun w => by rcases w with w | w; exact c1 w; exact c2 w), if_neg (fun w => c3 w.1)]
        · rw [h62] at c3
          refine m_isOpen (K := K + 11) (by rw [h52]; exact hm) (fun i h1 h2 => by rw [h63]; have := O.v h1 (by rw [← h52]; exact h2); exact ⟨by omega, by omega⟩) ⟨by omega, by omega⟩ ?_
          rw [show osM M1 = osM M from osM_of h63 (by rw [h52])]
          refine ⟨b2i_R _, fun c4 => ⟨⟨by omega, by omega⟩, go 0 ?_⟩, fun c4 => ⟨⟨by omega, by omega⟩, ?_⟩⟩
          · rw [b2i_0] at c4
            rw [hval]; unfold Xs
            rw [if_neg (fun w => by rcases w with w | w; exact c1 w; exact c2 w), if_neg (fun w => by rw [c4] at w; exact absurd w.2 (by simp))]
          · rw [h66]
            refine go _ ?_
            have ht : Inl (osM M) (k / 3) = true := by
              cases q : Inl (osM M) (k / 3)
              · rw [q] at c4; exact absurd rfl c4
              · rfl
            rw [hval]; unfold Xs
            rw [if_neg (fun w => by rcases w with w | w; exact c1 w; exact c2 w), if_pos ⟨c3, ht⟩]
        · rw [hval]; unfold Xs; rw [if_pos (Or.inr (show due (gM M) (k / 3) (k % 3) = 0 from c2))]
  have h0 : ((gcs X (M 52 21) (0 : Int).toNat : Nat) : Int) = M 52 21 := by
    show (((M 52 21).toNat : Nat) : Int) = M 52 21
    omega
  have := l39 15 0 M (by decide) (by decide) (Ag.rf _ _) (fun _ _ => rfl) (fun j h1 h2 => absurd h2 (by omega))
  rw [h0] at this
  exact this
