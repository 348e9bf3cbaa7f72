theorem ct_keepRound {K : Nat} {M : PM} {F : Int → Bool} {Q : Option PV → PM → Prop} (V : ct_V M) (I : CI (ct_g M) F (M 30) (pls (M 31)) (M 32) (M 24 14)) (h0 : ∀ h, hs h → h ∉ pls (M 31) → M 32 h = 0)
    (hq : ∀ M', ct_Fr M M' → M' 30 = M 30 → M' 31 = M 31 → ct_V M' → ct_T M' → CI (ct_g M) F (M 30) (pls (M 31)) (M' 32) (M' 24 14) → (∀ h, hs h → h ∉ pls (M 31) → M' 32 h = 0) → Red (ct_Y M') (M' 24 14) → Q none M') : Call (K + 2) jClearing_keepRound [.inr (.inr 24)] P0 P0 M Q := by
  have hW := I.2.2.2.1.1
  have hWb := I.2.2.2.2.2.2.1
  have hpb : ∀ h, hs h → 0 ≤ M 32 h ∧ M 32 h ≤ M 24 14 := fun h hh => by
    by_cases hm : h ∈ pls (M 31)
    · have := I.2.2.2.2.2.1 h hm; omega
    · have := h0 h hh hm; omega
  obtain ⟨P, hP⟩ : ∃ P : Int → Int → Int, P = fun h c => M 32 (3 * h + c) := ⟨_, rfl⟩
  have hkx : ∀ k, kx P k = M 32 k := fun k => by rw [hP]; exact kx_p _ k
  have hdv := fun n => gcs_dvd (X := P) (acc := M 24 14) (Int.le_of_lt hW) n
  have hgpos : ∀ n, 0 < gcs P (M 24 14) n := fun n => by
    rcases Nat.eq_zero_or_pos (gcs P (M 24 14) n) with z | z
    · have := (hdv n).1
      rw [z] at this
      obtain ⟨y, hy⟩ := this
      simp at hy
      omega
    · exact z
  have hgle : ∀ n, ((gcs P (M 24 14) n : Nat) : Int) ≤ M 24 14 := fun n => Int.le_of_dvd hW (hdv n).1
  obtain ⟨d, hd⟩ : ∃ d : Nat, d = gcs P (M 24 14) 5 := ⟨_, rfl⟩
  have hd0 : 0 < d := by rw [hd]; exact hgpos 5
  have hdW : M 24 14 = Int.tdiv (M 24 14) (d : Int) * (d : Int) := tdiv_dvd (Int.le_of_lt hW) (by omega) (by rw [hd]; exact (hdv 5).1)
  have hdp : ∀ h, hs h → M 32 h = Int.tdiv (M 32 h) (d : Int) * (d : Int) := fun h hh => by
    refine tdiv_dvd (hpb h hh).1 (by omega) ?_
    have := (hdv 5).2 h.toNat (by have := hh.1; have := hh.2; omega)
    rw [Int.toNat_of_nonneg hh.1, hkx] at this
    rw [hd]
    exact this
  have hmax : ∀ q : Nat, (q : Int) ∣ M 24 14 → (∀ h, hs h → (q : Int) ∣ M 32 h) → q ∣ d := fun q h1 h2 => by
    rw [hd]
    exact gcs_max (Int.le_of_lt hW) h1 5 (fun k hk => by rw [hkx]; exact h2 _ ⟨by omega, by omega⟩)
  -- shares are divided
  have l41 : ∀ (n : Nat) (h : Int) (M1 : PM), 0 ≤ h → h + (n : Int) = 5 → Ag [24, 32] M M1 → (∀ i, i ≠ 14 → M1 24 i = M 24 i) → M1 24 14 = Int.tdiv (M 24 14) (d : Int) → (∀ k, hs k → M1 32 k = if k < h then Int.tdiv (M 32 k) (d : Int) else M 32 k) → G none (K + 1 + 1) jClearing_keepRound 41 [(0, .inr (.inr 24)), (1, .inr (.inl (d : Int))), (3, .inl h)] [] P0 P0 M1 Q := by
    intro n
    induction n with
    | zero =>
      intro h M1 hh0 hn hA h11 h14 h19
      have V1 : ct_V M1 := V.of (hA.mono (by decide)) (h11 0 (by decide)) (h11 1 (by decide))
      refine g_ct_keepRound_41 _ _ _ _ _ ⟨⟨by omega, by omega⟩, fun _ => ct_spreadV V1 (fun M2 hA2 k14 k13 V2 T2 => ?_), fun q => absurd (by omega) q⟩
      rw [h11 0 (by decide)] at k14 k13
      have e11 : M2 24 = M1 24 := hA2 _ (by decide)
      have e19 : M2 32 = M1 32 := hA2 _ (by decide)
      have e17 : M2 30 = M 30 := by rw [hA2 30 (by decide), hA 30 (by decide)]
      have e18 : M2 31 = M 31 := by rw [hA2 31 (by decide), hA 31 (by decide)]
      have F2 : ct_Fr M M2 := ⟨(hA.mono (by decide)).tr (hA2.mono (by decide)), fun i hi => by rw [e11]; exact h11 i hi, fun i hi => by rw [k14 i hi, hA 27 (by decide)], fun j hj => by rw [k13 j hj, hA 26 (by decide)]⟩
      have h19' : ∀ k, hs k → M2 32 k = Int.tdiv (M 32 k) (d : Int) := fun k hk => by rw [e19, h19 k hk, if_pos (by have := hk.2; omega)]
      have w2 : M2 24 14 = Int.tdiv (M 24 14) (d : Int) := by rw [e11, h14]
      have hp2 : ∀ k, hs k → M 32 k = M2 32 k * (d : Int) := fun k hk => by rw [h19' k hk]; exact hdp k hk
      have hW2 : M 24 14 = M2 24 14 * (d : Int) := by rw [w2]; exact hdW
      refine hq M2 F2 e17 e18 V2 T2 (ci_scale I (by omega) hW2 (fun k hk => hp2 k (I.2.2.1.2 k hk).1)) (fun k hk hno => ?_) ?_
      · have := hp2 k hk
        rw [h0 k hk hno] at this
        rcases Int.mul_eq_zero.mp this.symm with z | z <;> omega
      · unfold ct_Y
        rw [F2.g, e17, e18]
        exact red_shares hW (fun k hk => by have := I.2.2.1.2 k hk; exact ⟨this.1, this.2.2.1, this.2.2.2⟩) hd0 hW2 hp2 h0 hmax
    | succ n ih =>
      intro h M1 hh0 hn hA h11 h14 h19
      have hh : hs h := ⟨hh0, by omega⟩
      have hb := hpb h hh
      have e1 := h19 h hh
      rw [if_neg (by omega)] at e1
      have hl := hgle 5
      refine g_ct_keepRound_41 _ _ _ _ _ ⟨⟨by omega, by omega⟩, fun q => absurd q (by omega), fun _ => ⟨hh, by rw [e1]; exact ⟨by omega, by omega⟩, ⟨by omega, by omega⟩, by omega, ?_⟩⟩
      rw [e1]
      refine ih (h + 1) _ (by omega) (by omega) (hA.set (by decide)) (fun i hi => by rw [mset_ne (by decide)]; exact h11 i hi) (by rw [mset_ne (by decide)]; exact h14) (fun k hk => ?_)
      by_cases z : k = h
      · rw [z, mset_eq, if_pos (by omega)]
      · rw [show (mset M1 32 h (Int.tdiv (M 32 h) (d : Int))) 32 k = M1 32 k by simp [mset, z], h19 k hk]
        by_cases y : k < h
        · rw [if_pos y, if_pos (by omega)]
        · rw [if_neg y, if_neg (by omega)]
  -- what divides all
  have l7 : ∀ (n : Nat) (h : Nat), h + n = 5 → G none (K + 1 + 1) jClearing_keepRound 7 [(0, .inr (.inr 24)), (1, .inr (.inl ((gcs P (M 24 14) h : Nat) : Int))), (3, .inl (h : Int))] [] P0 P0 M Q := by
    intro n
    induction n with
    | zero =>
      intro h hn
      have h5 : h = 5 := by omega
      have hl := hgle 5
      rw [h5, ← hd]
      refine g_ct_keepRound_7 _ _ _ _ _ ⟨⟨by omega, by omega⟩, fun _ => ⟨⟨by omega, by omega⟩, ⟨by omega, by omega⟩, by omega, ?_⟩, fun q => absurd (by omega) q⟩
      exact l41 5 0 _ (by decide) (by decide) ((Ag.rf _ _).set (by decide)) (fun i hi => by simp [mset, hi]) mset_eq (fun k hk => by rw [mset_ne (by decide), if_neg (by have := hk.1; omega)])
    | succ n ih =>
      intro h hn
      have hh : hs (h : Int) := ⟨by omega, by omega⟩
      have hb := hpb (h : Int) hh
      have hl := hgle h
      refine g_ct_keepRound_7 _ _ _ _ _ ⟨⟨by omega, by omega⟩, fun q => absurd q (by omega), fun _ => ⟨hh, x_divisor ⟨by omega, by omega⟩ ⟨hb.1, by omega⟩ ?_⟩⟩
      have e : ((Int.gcd ((gcs P (M 24 14) h : Nat) : Int) (M 32 (h : Int)) : Nat) : Int) = ((gcs P (M 24 14) (h + 1) : Nat) : Int) := by rw [gcs, hkx]
      have hp1 := hgpos (h + 1)
      rw [e, mx2, if_neg (by omega)]
      have := ih (h + 1) (by omega)
      rw [Int.natCast_succ] at this
      exact this
  have e0 : M 24 14 = ((gcs P (M 24 14) 0 : Nat) : Int) := by rw [gcs, Int.toNat_of_nonneg (Int.le_of_lt hW)]
  refine c_ct_keepRound (K + 1) M Q ?_
  have := l7 5 0 (by decide)
  rw [← e0] at this
  exact this
