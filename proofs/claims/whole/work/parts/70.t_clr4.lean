theorem et_bottom {K : Nat} {m : Int} {M : PM} {Q : Option PV → PM → Prop} (hm : 0 ≤ m ∧ m ≤ 5) (hq : Q (some (.inr (.inl (M 36 (bShl 1 m - 1))))) M) : Call (K + 1) jEquations_bottom [.inr (.inr 34), .inl m] P0 P0 M Q := by
  have h := dn_full hm
  exact c_et_bottom K m M Q ⟨⟨h.2.1.1, by omega⟩, hq⟩
theorem et_top {K : Nat} {m u : Int} {M : PM} {Q : Option PV → PM → Prop} (hm : 0 ≤ m ∧ m ≤ 5) (hu : 0 ≤ u ∧ u < m) (hq : Q (some (.inr (.inl (sgn (upl m u).length * M 36 (bXor (bShl 1 (m + 1) - 1) (bShl 1 u)))))) M) : Call (K + 1) jEquations_top [.inr (.inr 34), .inl m, .inl u] P0 P0 M Q := by
  have h := dn_out hm hu
  have h2 := (dn_full hm).1
  refine c_et_top K m u M Q ⟨⟨h.1.1, by omega⟩, ⟨by omega, by omega⟩, h.2.2.2.2.1, fun c => ?_, fun c => ?_⟩
  · rw [h.2.2.2.2.2.2 c] at hq
    rw [show -(M 36 (bXor (bShl 1 (m + 1) - 1) (bShl 1 u))) = -1 * M 36 (bXor (bShl 1 (m + 1) - 1) (bShl 1 u)) by omega]
    exact hq
  · rw [h.2.2.2.2.2.1 c, Int.one_mul] at hq
    exact hq
theorem ct_V.of {M M' : PM} (hA : Ag [24, 25, 26, 27, 32, 33, 35, 36] M M') (h0 : M' 24 0 = M 24 0) (h1 : M' 24 1 = M 24 1) (V : ct_V M) : ct_V M' := by
  have e1 : M' 1 = M 1 := hA _ (by decide)
  have e2 : M' 2 = M 2 := hA _ (by decide)
  have e2' : M' 9 = M 9 := hA _ (by decide)
  have e3 : M' 3 = M 3 := hA _ (by decide)
  have e15 : M' 28 = M 28 := hA _ (by decide)
  have e16 : M' 29 = M 29 := hA _ (by decide)
  have e17 : M' 30 = M 30 := hA _ (by decide)
  have e18 : M' 31 = M 31 := hA _ (by decide)
  unfold ct_V at V ⊢
  rw [e15, e16, e17, e18, xd_of e3, h0, h1, e1]
  exact ⟨V.1.of e1 e2 e2' e3, V.2⟩
theorem ct_spreadV {K : Nat} {M : PM} {Q : Option PV → PM → Prop} (V : ct_V M) (hq : ∀ M', Ag [26, 27] M M' → (∀ i, i ≠ M 24 0 → M' 27 i = M 27 i) → (∀ j, ¬ (M 24 0 * 15 ≤ j ∧ j < M 24 0 * 15 + 15) → M' 26 j = M 26 j) → ct_V M' → ct_T M' → Q none M') : Call (K + 1) jClearing_spread [.inr (.inr 24)] P0 P0 M Q := by
  refine ct_spread phk_24_P0 V.2.2.2.2.2.1 V.2.2.2.1 V.2.2.2.2.1 V.d (fun M' hA h14 h14w h13 hX => ?_)
  have e11 : M' 24 = M 24 := hA _ (by decide)
  have V' := V.of (hA.mono (by decide)) (by rw [e11]) (by rw [e11])
  refine hq M' hA h14 h13 V' ⟨fun h c hh hc => ?_, by rw [e11]; exact h14w⟩
  rw [e11, hX h c hh hc, ct_tp_Y V hh hc]
  unfold ct_Y
  rw [ct_g_of (hA 1 (by decide)) (hA 9 (by decide)) (hA 3 (by decide)), hA 30 (by decide), hA 31 (by decide), hA 32 (by decide), e11]
theorem ct_factor {K : Nat} {a f : Int} {M : PM} {Q : Option PV → PM → Prop} (V : ct_V M) (ha : hs a) (hf : hs f) (hk : kl (M 30 f)) (hq : Q (some (.inr (.inl (Rw (ct_g M) (M 30) a f)))) M) : Call (K + 2) jClearing_factor [.inr (.inr 24), .inl a, .inl f] P0 P0 M Q := by
  have hB := V.1.1.2.2.1
  refine c_ct_factor (K + 1) a f M Q ⟨hf, ⟨by omega, by omega⟩, fun _ => ⟨⟨by omega, by omega⟩, ⟨by omega, by omega⟩, fun c => ?_, fun c => ?_⟩, fun q => absurd hk.2 q⟩
  · have hx := V.1.1.2.2.2.2.1 f a (M 30 f) hf ha hk
    have hm : 0 ≤ M 1 2 * xo M f a (M 30 f) ∧ M 1 2 * xo M f a (M 30 f) ≤ 10 * 20 := ⟨Int.mul_nonneg hB.1 hx.1, Int.mul_le_mul hB.2 hx.2 hx.1 (by omega)⟩
    refine x_amount phk_1_P0 hf ha hk ?_
    show R32 ((-(M 1 2)) * xo M f a (M 30 f)) ∧ Q (some (.inr (.inl ((-(M 1 2)) * xo M f a (M 30 f))))) M
    have e : (-(M 1 2)) * xo M f a (M 30 f) = Rw (ct_g M) (M 30) a f := by
      unfold Rw AA
      rw [if_neg (by have := hf.1; omega), if_neg (fun z => c z.symm), if_pos hk.2, Int.neg_mul]
      rfl
    rw [Int.neg_mul]
    refine ⟨⟨by omega, by omega⟩, ?_⟩
    rw [← Int.neg_mul, e]
    exact hq
  · have hd := V.d a (M 30 f) ha hk
    rw [← c] at hk hd hq ⊢
    have e : 10 * M 28 ((a * 3) + M 30 a) = Rw (ct_g M) (M 30) a a := by
      unfold Rw dd
      rw [if_neg (by have := ha.1; omega), if_pos rfl, if_pos hk.2, V.2.1 a (M 30 a) ha hk]
      rfl
    refine ⟨⟨by have := ha.1; have := hk.1; omega, by have := ha.2; have := hk.2; omega⟩, ⟨by omega, by omega⟩, ?_⟩
    rw [e]
    exact hq
theorem ct_balance {K : Nat} {M : PM} {F : Int → Bool} {Q : Option PV → PM → Prop} (V : ct_V M) (Op : Opn (ct_g M) F (M 30) (pls (M 31)))
    (hq : ∀ M', Ag [24, 26, 27, 32, 33, 35, 36] M M' → (∀ i, i ≠ 14 → M' 24 i = M 24 i) → M' 24 14 = Dt (Rw (ct_g M) (M 30)) (pls (M 31)) → (∀ h ∈ pls (M 31), M' 32 h = ev (pls (M 31)) (Xv (Rw (ct_g M) (M 30)) (-1) (pls (M 31))) h) → (∀ h, hs h → h ∉ pls (M 31) → M' 32 h = 0) →
      (∀ i, i ≠ M 24 0 → M' 27 i = M 27 i) → (∀ j, ¬ (M 24 0 * 15 ≤ j ∧ j < M 24 0 * 15 + 15) → M' 26 j = M 26 j) → ct_V M' → ct_T M' → Q none M') : Call (K + 3) jClearing_balance [.inr (.inr 24)] P0 P0 M Q := by
  have O := ct_ok V.1
  -- the end: shares are written
  have fin : ∀ (m : Int) (M4 : PM), 0 ≤ m ∧ m ≤ 5 → Ag [24, 26, 27, 32, 33, 35, 36] M M4 → (∀ i, i ≠ 14 → M4 24 i = M 24 i) → M4 24 14 = Dt (Rw (ct_g M) (M 30)) (pls (M 31)) → (dnl m.toNat).map (M4 33) = pls (M 31) → (∀ i, i ≠ M 24 0 → M4 27 i = M 27 i) → (∀ j, ¬ (M 24 0 * 15 ≤ j ∧ j < M 24 0 * 15 + 15) → M4 26 j = M 26 j) →
      (∀ u, 0 ≤ u → u < m → sgn (upl m u).length * M4 36 (bXor (bShl 1 (m + 1) - 1) (bShl 1 u)) = ev (pls (M 31)) (Xv (Rw (ct_g M) (M 30)) (-1) (pls (M 31))) (M4 33 u)) →
      ∀ (n : Nat) (r : Int) (M5 : PM), 0 ≤ r → r + (n : Int) = m → Ag [32] M4 M5 → (∀ i, 0 ≤ i → i < r → M5 32 (M4 33 i) = ev (pls (M 31)) (Xv (Rw (ct_g M) (M 30)) (-1) (pls (M 31))) (M4 33 i)) → (∀ h, hs h → h ∉ pls (M 31) → M5 32 h = 0) → G none (K + 2 + 1) jClearing_balance 149 [(0, .inr (.inr 24)), (1, .inl m), (2, .inl r)] [] P0 P0 M5 Q := by
    intro m M4 hm hA4 h11 h1114 hos h14 h13 htop n
    induction n with
    | zero =>
      intro r M5 h0 hr hA hI hz
      have e11 : M5 24 = M4 24 := hA _ (by decide)
      have V5 : ct_V M5 := V.of ((hA4.tr (hA.mono (by decide))).mono (by decide)) (by rw [e11]; exact h11 0 (by decide)) (by rw [e11]; exact h11 1 (by decide))
      refine g_ct_balance_149 _ _ _ _ _ ⟨⟨by omega, by omega⟩, ⟨by omega, by omega⟩, fun _ => ct_spreadV V5 (fun M6 hA6 h146 h136 V6 T6 => ?_), fun q => absurd (by omega) q⟩
      have e110 : M5 24 0 = M 24 0 := by rw [e11]; exact h11 0 (by decide)
      have f11 : M6 24 = M5 24 := hA6 _ (by decide)
      have f19 : M6 32 = M5 32 := hA6 _ (by decide)
      rw [e110] at h146 h136
      refine hq M6 ((hA4.tr (hA.mono (by decide))).tr (hA6.mono (by decide))) (fun i hi => by rw [f11, e11]; exact h11 i hi) (by rw [f11, e11]; exact h1114) (fun h hm' => ?_) (fun h hh hno => by rw [f19]; exact hz h hh hno) (fun i hi => ?_) (fun j hj => ?_) V6 T6
      · rw [f19]
        rw [← hos] at hm'
        obtain ⟨i, hi, e⟩ := List.mem_map.mp hm'
        have hi' := dnl_mem.mp hi
        rw [← e]
        exact hI i hi'.1 (by omega)
      · rw [h146 i hi, hA 27 (by decide)]; exact h14 i hi
      · rw [h136 j hj, hA 26 (by decide)]; exact h13 j hj
    | succ n ih =>
      intro r M5 h0 hr hA hI hz
      have e20 : M5 33 = M4 33 := hA _ (by decide)
      have e23 : M5 36 = M4 36 := hA _ (by decide)
      have hin : M4 33 r ∈ pls (M 31) := by
        rw [← hos]
        exact List.mem_map.mpr ⟨r, dnl_mem.mpr ⟨h0, by omega⟩, rfl⟩
      have hh := (pls_mem.mp hin).1
      refine g_ct_balance_149 _ _ _ _ _ ⟨⟨by omega, by omega⟩, ⟨by omega, by omega⟩, fun q => absurd q (by omega), fun _ => ⟨⟨h0, by omega⟩, et_top hm ⟨h0, by omega⟩ ⟨by rw [e20]; exact hh, ?_⟩⟩⟩
      rw [e20, e23, htop r h0 (by omega)]
      refine ih (r + 1) _ (by omega) (by omega) (hA.set (by decide)) (fun i hi0 hi1 => ?_) (fun h hh' hno => ?_)
      · by_cases z : M4 33 i = M4 33 r
        · rw [z, mset_eq]
        · rw [show (mset M5 32 (M4 33 r) (ev (pls (M 31)) (Xv (Rw (ct_g M) (M 30)) (-1) (pls (M 31))) (M4 33 r))) 32 (M4 33 i) = M5 32 (M4 33 i) by simp [mset, z]]
          refine hI i hi0 ?_
          by_cases y : i = r
          · exact absurd (by rw [y]) z
          · omega
      · have z : h ≠ M4 33 r := fun y => hno (by rw [y]; exact hin)
        rw [show (mset M5 32 (M4 33 r) (ev (pls (M 31)) (Xv (Rw (ct_g M) (M 30)) (-1) (pls (M 31))) (M4 33 r))) 32 h = M5 32 h by simp [mset, z]]
        exact hz h hh' hno
  -- the rows are filled
  have fill : ∀ (m : Int) (M2 : PM), 0 ≤ m ∧ m ≤ 5 → Ag [24, 26, 27, 32, 33] M M2 → (∀ i, i ≠ 14 → M2 24 i = M 24 i) → M2 24 14 = 1 → (∀ h, hs h → M2 32 h = 0) → (dnl m.toNat).map (M2 33) = pls (M 31) → (∀ i, i ≠ M 24 0 → M2 27 i = M 27 i) → (∀ j, ¬ (M 24 0 * 15 ≤ j ∧ j < M 24 0 * 15 + 15) → M2 26 j = M 26 j) → ct_V M2 → ct_T M2 →
      ∀ (n : Nat) (r : Int) (M3 : PM), 0 ≤ r → r + (n : Int) = m → Ag [35] M2 M3 → (∀ i j, 0 ≤ i → i < r → 0 ≤ j → j < m → M3 35 ((i * 6) + j) = Rw (ct_g M) (M 30) (M2 33 i) (M2 33 j)) → (∀ i, 0 ≤ i → i < r → M3 35 ((i * 6) + m) = Rw (ct_g M) (M 30) (M2 33 i) (-1)) → G none (K + 2 + 1) jClearing_balance 52 [(0, .inr (.inr 24)), (1, .inl m), (2, .inl r)] [] P0 P0 M3 Q := by
    intro m M2 hm hA2 h11 h1114 h19 hos h14 h13 V2 T2 n
    have eg : ct_g M2 = ct_g M := ct_g_of (hA2 1 (by decide)) (hA2 9 (by decide)) (hA2 3 (by decide))
    have e17 : M2 30 = M 30 := hA2 _ (by decide)
    have e18 : M2 31 = M 31 := hA2 _ (by decide)
    have hunk : ∀ i, 0 ≤ i → i < m → M2 33 i ∈ pls (M 31) := fun i h0 h1 => by
      rw [← hos]
      exact List.mem_map.mpr ⟨i, dnl_mem.mpr ⟨h0, by omega⟩, rfl⟩
    induction n with
    | zero =>
      intro r M3 h0 hr hA hI hJ
      have hrm : r = m := by omega
      refine g_ct_balance_52 _ _ _ _ _ ⟨⟨by omega, by omega⟩, ⟨by omega, by omega⟩, fun _ => et_solve hm (fun M4 hA4 hmi => et_bottom hm ?_), fun q => absurd (by omega) q⟩
      have hnd : ((dnl m.toNat).map (M2 33)).Nodup := by rw [hos]; exact pls_nodup _
      obtain ⟨s1, s2⟩ := eq_solved (g := ct_g M) (e := M 30) (unk := M2 33) (fac := M3 35) hm hnd (fun i j a b c d => hI i j a (by omega) c d) (fun i a b => hJ i a (by omega))
      have hf := dn_full hm
      rw [hos] at s1 s2
      have e1 : M4 36 (bShl 1 m - 1) = Dt (Rw (ct_g M) (M 30)) (pls (M 31)) := by
        rw [hmi _ hf.2.1.1 hf.2.1.2 (by rw [hf.2.2.1]; omega), hf.2.2.1, hf.2.2.2]
        exact s1
      show G none (K + 2 + 1) jClearing_balance 149 [(0, .inr (.inr 24)), (1, .inl m), (2, .inl 0)] [] P0 P0 (mset M4 24 14 (M4 36 (bShl 1 m - 1))) Q
      rw [e1]
      have hA5 : Ag [24, 26, 27, 32, 33, 35, 36] M (mset M4 24 14 (Dt (Rw (ct_g M) (M 30)) (pls (M 31)))) := (((hA2.mono (by decide)).tr (hA.mono (by decide))).tr (hA4.mono (by decide))).set (by decide)
      have k20 : (mset M4 24 14 (Dt (Rw (ct_g M) (M 30)) (pls (M 31)))) 33 = M2 33 := by
        rw [mset_ne (by decide), hA4 33 (by decide), hA 33 (by decide)]
      have k11 : M4 24 = M2 24 := by rw [hA4 24 (by decide), hA 24 (by decide)]
      refine fin m _ hm hA5 (fun i hi => ?_) mset_eq (by rw [k20]; exact hos) (fun i hi => ?_) (fun j hj => ?_) (fun u h0 hu => ?_) m.toNat 0 _ (by decide) (by omega) (Ag.rf _ _) (fun i a b => by omega) (fun h hh hno => ?_)
      · rw [show (mset M4 24 14 (Dt (Rw (ct_g M) (M 30)) (pls (M 31)))) 24 i = M4 24 i by simp [mset, hi], k11]
        exact h11 i hi
      · rw [mset_ne (by decide), hA4 27 (by decide), hA 27 (by decide)]; exact h14 i hi
      · rw [mset_ne (by decide), hA4 26 (by decide), hA 26 (by decide)]; exact h13 j hj
      · rw [k20, ← s2 u h0 hu, mset_ne (by decide)]
        have ho := dn_out hm ⟨h0, hu⟩
        rw [hmi _ ho.1.1 ho.1.2 (by rw [ho.2.1]; omega), ho.2.1, ho.2.2.1]
      · rw [mset_ne (by decide), hA4 32 (by decide), hA 32 (by decide)]; exact h19 h hh
    | succ n ih =>
      intro r M3 h0 hr hA hI hJ
      have e20 : M3 33 = M2 33 := hA _ (by decide)
      have hrin := hunk r h0 (by omega)
      have hrh := (pls_mem.mp hrin).1
      have inner : ∀ (n2 : Nat) (c : Int) (M3' : PM), 0 ≤ c → c + (n2 : Int) = m → Ag [35] M2 M3' → (∀ i j, 0 ≤ i → i < r → 0 ≤ j → j < m → M3' 35 ((i * 6) + j) = Rw (ct_g M) (M 30) (M2 33 i) (M2 33 j)) → (∀ i, 0 ≤ i → i < r → M3' 35 ((i * 6) + m) = Rw (ct_g M) (M 30) (M2 33 i) (-1)) → (∀ j, 0 ≤ j → j < c → M3' 35 ((r * 6) + j) = Rw (ct_g M) (M 30) (M2 33 r) (M2 33 j)) →
          G none (K + 2 + 1) jClearing_balance 67 [(0, .inr (.inr 24)), (1, .inl m), (2, .inl r), (3, .inl (M2 33 r)), (4, .inl c)] [] P0 P0 M3' Q := by
        intro n2
        induction n2 with
        | zero =>
          intro c M3' hc0 hc hA' hI' hJ' hK'
          have V3 : ct_V M3' := V2.of (hA'.mono (by decide)) (by rw [hA' 24 (by decide)]) (by rw [hA' 24 (by decide)])
          have eg3 : ct_g M3' = ct_g M := by rw [ct_g_of (hA' 1 (by decide)) (hA' 9 (by decide)) (hA' 3 (by decide)), eg]
          have f17 : M3' 30 = M 30 := by rw [hA' 30 (by decide), e17]
          have f18 : M3' 31 = M 31 := by rw [hA' 31 (by decide), e18]
          have f19 : ∀ h, hs h → M3' 32 h = 0 := fun h hh => by rw [hA' 32 (by decide)]; exact h19 h hh
          have f14 : M3' 24 14 = 1 := by rw [hA' 24 (by decide)]; exact h1114
          have T3 : ct_T M3' := by
            have eY : ct_Y M3' = ct_Y M2 := by unfold ct_Y; rw [eg3, eg, f17, e17, f18, e18, hA' 32 (by decide), hA' 24 (by decide)]
            have eX : ct_X M3' = ct_X M2 := by funext a b d; unfold ct_X; rw [hA' 26 (by decide)]
            unfold ct_T
            rw [eY, eX, hA' 24 (by decide), hA' 27 (by decide)]
            exact T2
          refine g_ct_balance_67 _ _ _ _ _ _ _ ⟨⟨by omega, by omega⟩, ⟨by omega, by omega⟩, fun _ => ?_, fun q => absurd (by omega) q⟩
          refine ct_restTenths V3.1 hrh V3.2.2.2.2.2.1 (ct_heldTenths hrh (V3.2.2.2.1 _ hrh) (fun c hc => V3.d _ c hrh hc) ?_)
          rw [ct_rt_Y T3, ct_hd_yt V3 hrh (Or.inr (f19 _ hrh))]
          have hb := bs_0 (g := ct_g M) (F := F) (e := M 30) (os := pls (M 31)) (p := M3' 32) O Op hrh f19
          have hv : rt (ct_g M3') (ct_Y M3') (M3' 24 14) (M2 33 r) - 10 * yt (ct_g M3') (ct_Y M3') (M2 33 r) = Rw (ct_g M) (M 30) (M2 33 r) (-1) := by
            unfold ct_Y
            rw [eg3, f17, f18, f14, hb]
            unfold Rw
            rw [if_pos rfl]
          show Call (K + 2) jEquations_put [.inr (.inr 34), .inl r, .inl m, .inr (.inl (rt (ct_g M3') (ct_Y M3') (M3' 24 14) (M2 33 r) - 10 * yt (ct_g M3') (ct_Y M3') (M2 33 r)))] P0 P0 M3' (retV fun M8 => G none (K + 2 + 1) jClearing_balance 52 [(0, .inr (.inr 24)), (1, .inl m), (2, .inl (r + 1))] [] P0 P0 M8 Q)
          rw [hv]
          refine c_et_put _ _ _ _ _ _ ⟨⟨by omega, by omega⟩, ih (r + 1) _ (by omega) (by omega) (hA'.set (by decide)) (fun i j a b c' d => ?_) (fun i a b => ?_)⟩
          · have z : (i * 6) + j ≠ (r * 6) + m := by omega
            rw [show (mset M3' 35 ((r * 6) + m) (Rw (ct_g M) (M 30) (M2 33 r) (-1))) 35 ((i * 6) + j) = M3' 35 ((i * 6) + j) by simp [mset, z]]
            by_cases y : i = r
            · rw [y]; exact hK' j c' (by omega)
            · exact hI' i j a (by omega) c' d
          · by_cases y : i = r
            · rw [y, mset_eq]
            · have z : (i * 6) + m ≠ (r * 6) + m := by omega
              rw [show (mset M3' 35 ((r * 6) + m) (Rw (ct_g M) (M 30) (M2 33 r) (-1))) 35 ((i * 6) + m) = M3' 35 ((i * 6) + m) by simp [mset, z]]
              exact hJ' i a (by omega)
        | succ n2 ih2 =>
          intro c M3' hc0 hc hA' hI' hJ' hK'
          have V3 : ct_V M3' := V2.of (hA'.mono (by decide)) (by rw [hA' 24 (by decide)]) (by rw [hA' 24 (by decide)])
          have eg3 : ct_g M3' = ct_g M := by rw [ct_g_of (hA' 1 (by decide)) (hA' 9 (by decide)) (hA' 3 (by decide)), eg]
          have f17 : M3' 30 = M 30 := by rw [hA' 30 (by decide), e17]
          have f20 : M3' 33 = M2 33 := hA' _ (by decide)
          have hcin := hunk c hc0 (by omega)
          have hch := Op.2 _ hcin
          refine g_ct_balance_67 _ _ _ _ _ _ _ ⟨⟨by omega, by omega⟩, ⟨by omega, by omega⟩, fun q => absurd q (by omega), fun _ => ⟨⟨hc0, by omega⟩, ?_⟩⟩
          rw [f20]
          refine ct_factor V3 hrh hch.1 (by rw [f17]; exact hch.2.2.1) ?_
          rw [eg3, f17]
          refine c_et_put _ _ _ _ _ _ ⟨⟨by omega, by omega⟩, ih2 (c + 1) _ (by omega) (by omega) (hA'.set (by decide)) (fun i j a b c' d => ?_) (fun i a b => ?_) (fun j a b => ?_)⟩
          · have z : (i * 6) + j ≠ (r * 6) + c := by omega
            rw [show (mset M3' 35 ((r * 6) + c) (Rw (ct_g M) (M 30) (M2 33 r) (M2 33 c))) 35 ((i * 6) + j) = M3' 35 ((i * 6) + j) by simp [mset, z]]
            exact hI' i j a b c' d
          · have z : (i * 6) + m ≠ (r * 6) + c := by omega
            rw [show (mset M3' 35 ((r * 6) + c) (Rw (ct_g M) (M 30) (M2 33 r) (M2 33 c))) 35 ((i * 6) + m) = M3' 35 ((i * 6) + m) by simp [mset, z]]
            exact hJ' i a b
          · by_cases y : j = c
            · rw [y, mset_eq]
            · have z : (r * 6) + j ≠ (r * 6) + c := by omega
              rw [show (mset M3' 35 ((r * 6) + c) (Rw (ct_g M) (M 30) (M2 33 r) (M2 33 c))) 35 ((r * 6) + j) = M3' 35 ((r * 6) + j) by simp [mset, z]]
              exact hK' j a (by omega)
      refine g_ct_balance_52 _ _ _ _ _ ⟨⟨by omega, by omega⟩, ⟨by omega, by omega⟩, fun q => absurd q (by omega), fun _ => ⟨⟨h0, by omega⟩, ?_⟩⟩
      rw [e20]
      exact inner m.toNat 0 M3 (by decide) (by omega) hA hI hJ (fun j a b => by omega)
  -- who pays partly
  have l9 : ∀ (n : Nat) (h m : Int) (M1 : PM), 0 ≤ h → h + (n : Int) = 5 → (0 ≤ m ∧ m ≤ h) → Ag [24, 32, 33] M M1 → (∀ i, i ≠ 14 → M1 24 i = M 24 i) → M1 24 14 = 1 → (∀ k, hs k → k < h → M1 32 k = 0) → (dnl m.toNat).map (M1 33) = plsn (M 31) h.toNat → G none (K + 2 + 1) jClearing_balance 9 [(0, .inr (.inr 24)), (1, .inl m), (2, .inl h)] [] P0 P0 M1 Q := by
    intro n
    induction n with
    | zero =>
      intro h m M1 h0 hn hm hA h11 h14 h19 hos
      have hh5 : h = 5 := by omega
      have V1 : ct_V M1 := V.of (hA.mono (by decide)) (h11 0 (by decide)) (h11 1 (by decide))
      refine g_ct_balance_9 _ _ _ _ _ ⟨⟨by omega, by omega⟩, fun _ => ct_spreadV V1 (fun M2 hA2 k14 k13 V2 T2 => ?_), fun q => absurd (by omega) q⟩
      rw [h11 0 (by decide)] at k14 k13
      have e20 : M2 33 = M1 33 := hA2 _ (by decide)
      have e11 : M2 24 = M1 24 := hA2 _ (by decide)
      refine fill m M2 ⟨hm.1, by omega⟩ ((hA.mono (by decide)).tr (hA2.mono (by decide))) (fun i hi => by rw [e11]; exact h11 i hi) (by rw [e11]; exact h14) (fun k hk => by rw [hA2 32 (by decide)]; exact h19 k hk (by have := hk.2; omega)) (by rw [e20, hos, pls_n, hh5]; rfl) (fun i hi => by rw [k14 i hi, hA 27 (by decide)]) (fun j hj => by rw [k13 j hj, hA 26 (by decide)]) V2 T2 m.toNat 0 M2 (by decide) (by omega) (Ag.rf _ _) (fun i j a b => by omega) (fun i a b => by omega)
    | succ n ih =>
      intro h m M1 h0 hn hm hA h11 h14 h19 hos
      have hh : hs h := ⟨h0, by omega⟩
      have e18 : M1 31 = M 31 := hA _ (by decide)
      have hb := V.2.2.2.2.1 h hh
      have hup : (h + 1).toNat = h.toNat + 1 := by omega
      have hcast : ((h.toNat : Nat) : Int) = h := Int.toNat_of_nonneg h0
      refine g_ct_balance_9 _ _ _ _ _ ⟨⟨by omega, by omega⟩, fun q => absurd q (by omega), fun _ => ⟨hh, by rw [e18]; exact ⟨by omega, by omega⟩, fun c => ?_, fun c => ⟨⟨hm.1, by omega⟩, ?_⟩⟩⟩
      · rw [e18] at c
        refine ih (h + 1) m _ (by omega) (by omega) ⟨hm.1, by omega⟩ (hA.set (by decide)) (fun i hi => by rw [mset_ne (by decide)]; exact h11 i hi) (by rw [mset_ne (by decide)]; exact h14) (fun k hk hl => ?_) ?_
        · by_cases z : k = h
          · rw [z, mset_eq]
          · rw [show (mset M1 32 h 0) 32 k = M1 32 k by simp [mset, z]]
            exact h19 k hk (by omega)
        · rw [hup, plsn, hcast, if_neg (fun z => z c), mset_ne (by decide)]
          exact hos
      · rw [e18] at c
        refine ih (h + 1) (m + 1) _ (by omega) (by omega) ⟨by omega, by omega⟩ ((hA.set (by decide)).set (by decide)) (fun i hi => by rw [mset_ne (by decide), mset_ne (by decide)]; exact h11 i hi) (by rw [mset_ne (by decide), mset_ne (by decide)]; exact h14) (fun k hk hl => ?_) ?_
        · rw [mset_ne (by decide)]
          by_cases z : k = h
          · rw [z, mset_eq]
          · rw [show (mset M1 32 h 0) 32 k = M1 32 k by simp [mset, z]]
            exact h19 k hk (by omega)
        · have hmc : ((m.toNat : Nat) : Int) = m := Int.toNat_of_nonneg hm.1
          rw [hup, plsn, hcast, if_pos c, show (m + 1).toNat = m.toNat + 1 by omega, dnl, List.map_cons, hmc, mset_eq]
          congr 1
          rw [← hos]
          refine List.map_congr_left fun i hi => ?_
          have hi' := dnl_mem.mp hi
          have z : i ≠ m := by omega
          simp [mset, z]
  refine c_ct_balance (K + 2) M Q (l9 5 0 0 _ (by decide) (by decide) ⟨by decide, by decide⟩ ((Ag.rf _ _).set (by decide)) (fun i hi => by simp [mset, hi]) mset_eq (fun k hk hl => by have := hk.1; omega) rfl)
