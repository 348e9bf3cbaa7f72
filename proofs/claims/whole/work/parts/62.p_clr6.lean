/-! THE GREATEST COMMON DIVISOR, in few steps; a round in lowest terms -/
theorem x_divisor_nat {K : Nat} {M : PM} {Q : Option PV → PM → Prop} : ∀ (k a b : Nat) (l : Int), a < 9223372036854775808 → b < 2 ^ k → k ≤ 63 → 0 ≤ l → l + (2 * k + 1 : Nat) ≤ 1000 → Q (some (.inr (.inl (mx2 ((Nat.gcd a b : Nat) : Int) 1)))) M → G none (K + 1) jRatio_divisor 9 [(4, .inr (.inl (a : Int))), (6, .inr (.inl (b : Int))), (8, .inl l)] [] P0 P0 M Q := by
  intro k
  induction k with
  | zero =>
    intro a b l ha hb _ h0 hl hq
    have : b = 0 := by omega
    subst this
    rw [Nat.gcd_zero_right] at hq
    exact g_ratio_divisor_9 _ _ _ _ _ _ ⟨⟨by omega, by omega⟩, fun c => absurd c (by omega), fun _ => ⟨⟨by omega, by omega⟩, fun _ => ⟨⟨by omega, by omega⟩, hq⟩, fun c => absurd rfl c⟩⟩
  | succ k ih =>
    intro a b l ha hb hk h0 hl hq
    have hp : 2 ^ (k + 1) = 2 * 2 ^ k := by rw [Nat.pow_succ]; omega
    have hp63 : 2 ^ (k + 1) ≤ 2 ^ 63 := Nat.pow_le_pow_right (by omega) hk
    have e63 : 2 ^ 63 = 9223372036854775808 := by decide
    refine g_ratio_divisor_9 _ _ _ _ _ _ ⟨⟨by omega, by omega⟩, fun c => absurd c (by omega), fun _ => ⟨⟨by omega, by omega⟩, fun c => ⟨⟨by omega, by omega⟩, ?_⟩, fun c => ⟨⟨by omega, by omega⟩, c, ?_⟩⟩⟩
    · have : b = 0 := by omega
      rw [this, Nat.gcd_zero_right] at hq
      exact hq
    · have hb0 : 0 < b := by omega
      have e : Int.tmod (a : Int) (b : Int) = ((a % b : Nat) : Int) := rfl
      rw [e]
      have hlt := Nat.mod_lt a hb0
      have hg : Nat.gcd b (a % b) = Nat.gcd a b := by rw [Nat.gcd_comm, ← Nat.gcd_rec, Nat.gcd_comm]
      refine g_ratio_divisor_9 _ _ _ _ _ _ ⟨⟨by omega, by omega⟩, fun c => absurd c (by omega), fun _ => ⟨⟨by omega, by omega⟩, fun c2 => ⟨⟨by omega, by omega⟩, ?_⟩, fun c2 => ⟨⟨by omega, by omega⟩, c2, ?_⟩⟩⟩
      · have : a % b = 0 := by omega
        rw [← hg, this, Nat.gcd_zero_right] at hq
        exact hq
      · have hr0 : 0 < a % b := by omega
        have e2 : Int.tmod (b : Int) ((a % b : Nat) : Int) = ((b % (a % b) : Nat) : Int) := rfl
        rw [e2]
        have hlt2 := Nat.mod_lt b hr0
        have hg2 : Nat.gcd (a % b) (b % (a % b)) = Nat.gcd a b := by rw [Nat.gcd_comm, ← Nat.gcd_rec, Nat.gcd_comm, hg]
        have hhalf : b % (a % b) < 2 ^ k := by
          rcases Nat.lt_or_ge (2 * (a % b)) b with z | z
          · omega
          · rcases Nat.lt_or_ge (a % b) (2 ^ k) with y | y
            · omega
            · have h1 : b % (a % b) = b - a % b := by
                rw [Nat.mod_eq_sub_mod (by omega), Nat.mod_eq_of_lt (by omega)]
              omega
        refine ih (a % b) (b % (a % b)) (l + 1 + 1) (by omega) hhalf (by omega) (by omega) (by omega) ?_
        rw [hg2]
        exact hq
theorem x_divisor {K : Nat} {M : PM} {x y : Int} {Q : Option PV → PM → Prop} (hx : 0 ≤ x ∧ x < 9223372036854775808) (hy : 0 ≤ y ∧ y < 9223372036854775808) (hq : Q (some (.inr (.inl (mx2 ((Int.gcd x y : Nat) : Int) 1)))) M) : Call (K + 1) jRatio_divisor [.inr (.inl x), .inr (.inl y)] P0 P0 M Q := by
  obtain ⟨a, rfl⟩ := Int.eq_ofNat_of_zero_le hx.1
  obtain ⟨b, rfl⟩ := Int.eq_ofNat_of_zero_le hy.1
  have e63 : 2 ^ 63 = 9223372036854775808 := by decide
  exact c_ratio_divisor K _ _ M Q (x_divisor_nat 63 a b 0 (by omega) (by omega) (by decide) (by decide) (by decide) hq)
theorem xs_scale {g : Ck} {e p p' : Int → Int} {os : List Int} {W W' d : Int} (hW : W = W' * d) (hp : ∀ h ∈ os, p h = p' h * d) (h c : Int) : Xs g e os p W h c = Xs g e os p' W' h c * d := by
  unfold Xs
  split
  · exact hW
  · split
    · rename_i q; exact hp h (Inl_mem.mp q.2)
    · simp
theorem rt_scale {g : Ck} {X X' : Int → Int → Int} {W W' d : Int} (hW : W = W' * d) (hX : ∀ h c, X h c = X' h c * d) (h : Int) : rt g X W h = rt g X' W' h * d ∧ yt g X h = yt g X' h * d := by
  have h1 : gt g X h = gt g X' h * d := by
    unfold gt
    rw [← s5_mul']
    refine s5_congr fun k hk => ?_
    rw [← s3_mul']
    refine s3_congr fun c hc => ?_
    rw [hX k c, Int.mul_assoc]
  constructor
  · unfold rt
    rw [h1, hW]
    grind
  · unfold yt
    rw [← s3_mul']
    refine s3_congr fun c hc => ?_
    rw [hX h c, Int.mul_assoc]
theorem pos_of_mul {x d : Int} (hd : 0 < d) (h : 0 < x * d) : 0 < x := by
  rcases Int.lt_or_le 0 x with z | z
  · exact z
  · have := Int.mul_nonneg (show 0 ≤ -x by omega) (Int.le_of_lt hd)
    rw [Int.neg_mul] at this
    omega
theorem ci_scale {g : Ck} {F : Int → Bool} {e p p' : Int → Int} {os : List Int} {W W' d : Int} (I : CI g F e os p W) (hd : 0 < d) (hW : W = W' * d) (hp : ∀ h ∈ os, p h = p' h * d) : CI g F e os p' W' := by
  obtain ⟨i1, i2, i3, i4, i5, i6, i7, i8, i9, i10⟩ := I
  have hW' : 0 < W' := pos_of_mul hd (by rw [← hW]; exact i4.1)
  have hX := xs_scale (g := g) (e := e) hW hp
  have hR := rt_scale (g := g) hW hX
  refine ⟨i1, i2, i3, ⟨hW', fun h hm => ?_⟩, i5, fun h hm => ?_, ?_, fun Y E hY h c hh hc => ?_, fun h hh hF => ?_, fun R hR' C => ?_⟩
  · have h1 := i4.2 h hm
    have h2 : by_ g e os p W h = by_ g e os p' W' h * d := by
      unfold by_
      rw [Int.add_mul, ← s5_mul', hW, Int.mul_assoc]
      congr 1
      refine s5_congr fun k _ => ?_
      split
      · rename_i q
        rw [hp k (Inl_mem.mp q), Int.mul_assoc]
      · simp
    rw [h2, hp h hm, ← Int.mul_assoc] at h1
    exact Int.eq_of_mul_eq_mul_right (by omega) h1
  · have h1 := i6 h hm
    rw [hp h hm, hW] at h1
    exact ⟨pos_of_mul hd h1.1, Int.le_of_mul_le_mul_right h1.2 hd⟩
  · have := Int.mul_le_mul_of_nonneg_left (show 1 ≤ d by omega) (Int.le_of_lt hW')
    rw [Int.mul_one, ← hW] at this
    omega
  · have h1 := i8 Y E hY h c hh hc
    rw [hX h c, hW] at h1
    refine Int.le_of_mul_le_mul_right (a := d) ?_ hd
    have e1 : Y h c * W' * d = Y h c * (W' * d) := Int.mul_assoc _ _ _
    have e2 : Xs g e os p' W' h c * E * d = Xs g e os p' W' h c * d * E := Int.mul_right_comm _ _ _
    rw [e1, e2]
    exact h1
  · have h1 := i9 h hh hF
    rw [(hR h).1, (hR h).2, ← Int.mul_assoc] at h1
    exact Int.le_of_mul_le_mul_right h1 hd
  · have h1 := i10 R hR' C
    have h2 : s5 (fun h => if R h = true then rt g (Xs g e os p W) W h - 10 * yt g (Xs g e os p W) h else 0) = s5 (fun h => if R h = true then rt g (Xs g e os p' W') W' h - 10 * yt g (Xs g e os p' W') h else 0) * d := by
      rw [← s5_scale]
      refine s5_congr fun h _ => ?_
      split
      · rw [(hR h).1, (hR h).2, Int.sub_mul, Int.mul_assoc]
      · rfl
    rw [h2] at h1
    rcases Int.lt_or_le (s5 (fun h => if R h = true then rt g (Xs g e os p' W') W' h - 10 * yt g (Xs g e os p' W') h else 0)) 0 with z | z
    · exact z
    · have := Int.mul_nonneg z (Int.le_of_lt hd)
      omega
theorem kx_p (p : Int → Int) (k : Int) : kx (fun h c => p (3 * h + c)) k = p k := by
  show p (3 * (k / 3) + k % 3) = p k
  congr 1
  omega
/-- what is left where scale and shares are divided by all that divides them: lowest terms -/
theorem red_shares {g : Ck} {e p p' : Int → Int} {os : List Int} {W W' : Int} {d : Nat} (hW0 : 0 < W) (hos : ∀ h ∈ os, hs h ∧ kl (e h) ∧ 0 < due g h (e h)) (hd : 0 < d) (hW : W = W' * (d : Int)) (hp : ∀ h, hs h → p h = p' h * (d : Int)) (h0 : ∀ h, hs h → h ∉ os → p h = 0)
    (hmax : ∀ q : Nat, (q : Int) ∣ W → (∀ h, hs h → (q : Int) ∣ p h) → q ∣ d) : Red (Xs g e os p' W') W' := by
  intro q hq hX
  have h4 : q * d ∣ d := by
    refine hmax (q * d) ?_ (fun h hh => ?_)
    · rw [Int.natCast_mul, hW]
      exact Int.mul_dvd_mul hq (Int.dvd_refl _)
    · by_cases hm : h ∈ os
      · have h1 := hos h hm
        have h2 := hX h (e h) h1.1 h1.2.1
        have h3 : Xs g e os p' W' h (e h) = p' h := by
          unfold Xs
          rw [if_neg (by have := h1.2.2; omega), if_pos ⟨rfl, Inl_mem.mpr hm⟩]
        rw [h3] at h2
        rw [Int.natCast_mul, hp h hh]
        exact Int.mul_dvd_mul h2 (Int.dvd_refl _)
      · rw [h0 h hh hm]
        exact Int.dvd_zero _
  have h5 := Nat.le_of_dvd hd h4
  have h6 : 0 < q := by
    rcases Nat.eq_zero_or_pos q with z | z
    · rw [z, Nat.zero_mul] at h4
      have := Nat.eq_zero_of_zero_dvd h4
      omega
    · exact z
  rcases Nat.lt_or_ge 1 q with z | z
  · have := Nat.mul_le_mul_right d (show 2 ≤ q from z)
    omega
  · omega
theorem tdiv_dvd {a d : Int} (ha : 0 ≤ a) (hd : 0 < d) (h : d ∣ a) : a = Int.tdiv a d * d := by
  obtain ⟨k, rfl⟩ := h
  rw [Int.mul_tdiv_cancel_left _ (by omega), Int.mul_comm]
theorem cp_keepRound {K : Nat} {M : PM} {F : Int → Bool} {Q : Option PV → PM → Prop} (V : cp_V M) (I : CI (cp_g M) F (M 17) (pls (M 18)) (M 19) (M 11 14)) (h0 : ∀ h, hs h → h ∉ pls (M 18) → M 19 h = 0)
    (hq : ∀ M', cp_Fr M M' → M' 17 = M 17 → M' 18 = M 18 → cp_V M' → cp_T M' → CI (cp_g M) F (M 17) (pls (M 18)) (M' 19) (M' 11 14) → (∀ h, hs h → h ∉ pls (M 18) → M' 19 h = 0) → Red (cp_Y M') (M' 11 14) → Q none M') : Call (K + 2) jClearing_keepRound [.inr (.inr 11)] P0 P0 M Q := by
  have hW := I.2.2.2.1.1
  have hWb := I.2.2.2.2.2.2.1
  have hpb : ∀ h, hs h → 0 ≤ M 19 h ∧ M 19 h ≤ M 11 14 := fun h hh => by
    by_cases hm : h ∈ pls (M 18)
    · have := I.2.2.2.2.2.1 h hm; omega
    · have := h0 h hh hm; omega
  obtain ⟨P, hP⟩ : ∃ P : Int → Int → Int, P = fun h c => M 19 (3 * h + c) := ⟨_, rfl⟩
  have hkx : ∀ k, kx P k = M 19 k := fun k => by rw [hP]; exact kx_p _ k
  have hdv := fun n => gcs_dvd (X := P) (acc := M 11 14) (Int.le_of_lt hW) n
  have hgpos : ∀ n, 0 < gcs P (M 11 14) n := fun n => by
    rcases Nat.eq_zero_or_pos (gcs P (M 11 14) n) with z | z
    · have := (hdv n).1
      rw [z] at this
      obtain ⟨y, hy⟩ := this
      simp at hy
      omega
    · exact z
  have hgle : ∀ n, ((gcs P (M 11 14) n : Nat) : Int) ≤ M 11 14 := fun n => Int.le_of_dvd hW (hdv n).1
  obtain ⟨d, hd⟩ : ∃ d : Nat, d = gcs P (M 11 14) 5 := ⟨_, rfl⟩
  have hd0 : 0 < d := by rw [hd]; exact hgpos 5
  have hdW : M 11 14 = Int.tdiv (M 11 14) (d : Int) * (d : Int) := tdiv_dvd (Int.le_of_lt hW) (by omega) (by rw [hd]; exact (hdv 5).1)
  have hdp : ∀ h, hs h → M 19 h = Int.tdiv (M 19 h) (d : Int) * (d : Int) := fun h hh => by
    refine tdiv_dvd (hpb h hh).1 (by omega) ?_
    have := (hdv 5).2 h.toNat (by have := hh.1; have := hh.2; omega)
    rw [Int.toNat_of_nonneg hh.1, hkx] at this
    rw [hd]
    exact this
  have hmax : ∀ q : Nat, (q : Int) ∣ M 11 14 → (∀ h, hs h → (q : Int) ∣ M 19 h) → q ∣ d := fun q h1 h2 => by
    rw [hd]
    exact gcs_max (Int.le_of_lt hW) h1 5 (fun k hk => by rw [hkx]; exact h2 _ ⟨by omega, by omega⟩)
  -- shares are divided
  have l41 : ∀ (n : Nat) (h : Int) (M1 : PM), 0 ≤ h → h + (n : Int) = 5 → Ag [11, 19] M M1 → (∀ i, i ≠ 14 → M1 11 i = M 11 i) → M1 11 14 = Int.tdiv (M 11 14) (d : Int) → (∀ k, hs k → M1 19 k = if k < h then Int.tdiv (M 19 k) (d : Int) else M 19 k) → G none (K + 1 + 1) jClearing_keepRound 41 [(0, .inr (.inr 11)), (1, .inr (.inl (d : Int))), (3, .inl h)] [] P0 P0 M1 Q := by
    intro n
    induction n with
    | zero =>
      intro h M1 hh0 hn hA h11 h14 h19
      have V1 : cp_V M1 := V.of (hA.mono (by decide)) (h11 0 (by decide)) (h11 1 (by decide))
      refine g_cp_keepRound_41 _ _ _ _ _ ⟨⟨by omega, by omega⟩, fun _ => cp_spreadV V1 (fun M2 hA2 k14 k13 V2 T2 => ?_), fun q => absurd (by omega) q⟩
      rw [h11 0 (by decide)] at k14 k13
      have e11 : M2 11 = M1 11 := hA2 _ (by decide)
      have e19 : M2 19 = M1 19 := hA2 _ (by decide)
      have e17 : M2 17 = M 17 := by rw [hA2 17 (by decide), hA 17 (by decide)]
      have e18 : M2 18 = M 18 := by rw [hA2 18 (by decide), hA 18 (by decide)]
      have F2 : cp_Fr M M2 := ⟨(hA.mono (by decide)).tr (hA2.mono (by decide)), fun i hi => by rw [e11]; exact h11 i hi, fun i hi => by rw [k14 i hi, hA 14 (by decide)], fun j hj => by rw [k13 j hj, hA 13 (by decide)]⟩
      have h19' : ∀ k, hs k → M2 19 k = Int.tdiv (M 19 k) (d : Int) := fun k hk => by rw [e19, h19 k hk, if_pos (by have := hk.2; omega)]
      have w2 : M2 11 14 = Int.tdiv (M 11 14) (d : Int) := by rw [e11, h14]
      have hp2 : ∀ k, hs k → M 19 k = M2 19 k * (d : Int) := fun k hk => by rw [h19' k hk]; exact hdp k hk
      have hW2 : M 11 14 = M2 11 14 * (d : Int) := by rw [w2]; exact hdW
      refine hq M2 F2 e17 e18 V2 T2 (ci_scale I (by omega) hW2 (fun k hk => hp2 k (I.2.2.1.2 k hk).1)) (fun k hk hno => ?_) ?_
      · have := hp2 k hk
        rw [h0 k hk hno] at this
        rcases Int.mul_eq_zero.mp this.symm with z | z <;> omega
      · unfold cp_Y
        rw [F2.g, e17, e18]
        exact red_shares hW (fun k hk => by have := I.2.2.1.2 k hk; exact ⟨this.1, this.2.2.1, this.2.2.2⟩) hd0 hW2 hp2 h0 hmax
    | succ n ih =>
      intro h M1 hh0 hn hA h11 h14 h19
      have hh : hs h := ⟨hh0, by omega⟩
      have hb := hpb h hh
      have e1 := h19 h hh
      rw [if_neg (by omega)] at e1
      have hl := hgle 5
      refine g_cp_keepRound_41 _ _ _ _ _ ⟨⟨by omega, by omega⟩, fun q => absurd q (by omega), fun _ => ⟨hh, by rw [e1]; exact ⟨by omega, by omega⟩, ⟨by omega, by omega⟩, by omega, ?_⟩⟩
      rw [e1]
      refine ih (h + 1) _ (by omega) (by omega) (hA.set (by decide)) (fun i hi => by rw [mset_ne (by decide)]; exact h11 i hi) (by rw [mset_ne (by decide)]; exact h14) (fun k hk => ?_)
      by_cases z : k = h
      · rw [z, mset_eq, if_pos (by omega)]
      · rw [show (mset M1 19 h (Int.tdiv (M 19 h) (d : Int))) 19 k = M1 19 k by simp [mset, z], h19 k hk]
        by_cases y : k < h
        · rw [if_pos y, if_pos (by omega)]
        · rw [if_neg y, if_neg (by omega)]
  -- what divides all
  have l7 : ∀ (n : Nat) (h : Nat), h + n = 5 → G none (K + 1 + 1) jClearing_keepRound 7 [(0, .inr (.inr 11)), (1, .inr (.inl ((gcs P (M 11 14) h : Nat) : Int))), (3, .inl (h : Int))] [] P0 P0 M Q := by
    intro n
    induction n with
    | zero =>
      intro h hn
      have h5 : h = 5 := by omega
      have hl := hgle 5
      rw [h5, ← hd]
      refine g_cp_keepRound_7 _ _ _ _ _ ⟨⟨by omega, by omega⟩, fun _ => ⟨⟨by omega, by omega⟩, ⟨by omega, by omega⟩, by omega, ?_⟩, fun q => absurd (by omega) q⟩
      exact l41 5 0 _ (by decide) (by decide) ((Ag.rf _ _).set (by decide)) (fun i hi => by simp [mset, hi]) mset_eq (fun k hk => by rw [mset_ne (by decide), if_neg (by have := hk.1; omega)])
    | succ n ih =>
      intro h hn
      have hh : hs (h : Int) := ⟨by omega, by omega⟩
      have hb := hpb (h : Int) hh
      have hl := hgle h
      refine g_cp_keepRound_7 _ _ _ _ _ ⟨⟨by omega, by omega⟩, fun q => absurd q (by omega), fun _ => ⟨hh, x_divisor ⟨by omega, by omega⟩ ⟨hb.1, by omega⟩ ?_⟩⟩
      have e : ((Int.gcd ((gcs P (M 11 14) h : Nat) : Int) (M 19 (h : Int)) : Nat) : Int) = ((gcs P (M 11 14) (h + 1) : Nat) : Int) := by rw [gcs, hkx]
      have hp1 := hgpos (h + 1)
      rw [e, mx2, if_neg (by omega)]
      have := ih (h + 1) (by omega)
      rw [Int.natCast_succ] at this
      exact this
  have e0 : M 11 14 = ((gcs P (M 11 14) 0 : Nat) : Int) := by rw [gcs, Int.toNat_of_nonneg (Int.le_of_lt hW)]
  refine c_cp_keepRound (K + 1) M Q ?_
  have := l7 5 0 (by decide)
  rw [← e0] at this
  exact this
