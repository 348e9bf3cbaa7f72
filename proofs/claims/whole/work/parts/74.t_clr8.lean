def ct_A (M : PM) (X : Int → Int → Int → Int) (D : Int → Int) (w : Int) : Prop := ∀ r, 0 ≤ r → r < w → M 27 r = D r ∧ ∀ h c, hs h → kl c → ct_X M r h c = X r h c
def ct_R (g : Ck) (M : PM) (X : Int → Int → Int → Int) (D : Int → Int) (F : Int → Int → Bool) : Prop := ct_g M = g ∧ ct_V M ∧ ct_T M ∧ CI g (fun h => tb (M 24 1) h) (M 30) (pls (M 31)) (M 32) (M 24 14) ∧ (∀ h, hs h → h ∉ pls (M 31) → M 32 h = 0) ∧ RdP g (M 1 0) X D (M 24 0) F ∧ (∀ h, hs h → F (M 24 0) h = tb (M 24 1) h) ∧ Wv F (M 24 0) (M 25) ∧ ct_A M X D (M 24 0) ∧ M 24 0 ≤ cnt (M 24 1)
theorem ct_run {K : Nat} {M : PM} {Q : Option PV → PM → Prop} (P : ct_P M)
    (hq : ∀ M' X D, Ag [24, 25, 26, 27, 28, 29, 30, 31, 32, 33, 35, 36] M M' → Clr (ct_g M) (M 1 0) X D (M' 24 0) (M' 24 1) (M' 25) → ct_A M' X D (M' 24 0 + 1) → (∀ h c, hs h → kl c → M' 28 ((h * 3) + c) = xd M h c) → (∀ h, hs h → M' 29 h = s3 fun c => xd M h c) → Q none M') : Call (K + 5) jClearing_run [.inr (.inr 24)] P0 P0 M Q := by
  have O := ct_ok P
  have loop : ∀ (n : Nat) (l : Int) (M1 : PM) (X : Int → Int → Int → Int) (D : Int → Int) (F : Int → Int → Bool), 0 ≤ l → l + (n : Int) = 21 → Ag [24, 25, 26, 27, 28, 29, 30, 31, 32, 33, 35, 36] M M1 → ct_R (ct_g M) M1 X D F → l + s5 (M1 30) ≤ 15 + M1 24 0 → G none (K + 4 + 1) jClearing_run 6 [(0, .inr (.inr 24)), (1, .inl l)] [] P0 P0 M1 Q := by
    intro n
    induction n with
    | zero =>
      intro l M1 X D F h0 hl hA R hm
      have hs0 : 0 ≤ s5 (M1 30) := s5_nn fun k hk => (R.2.1.2.2.2.1 k hk).1
      have := R.2.1.2.2.2.2.2.1
      omega
    | succ n ih =>
      intro l M1 X D F h0 hl hA R hm
      obtain ⟨eg, V, T, I, hz, Rd, hF, W, A, hcn⟩ := R
      have e1 : M1 1 = M 1 := hA 1 (by decide)
      have e3 : M1 3 = M 3 := hA 3 (by decide)
      have hw := V.2.2.2.2.2.1
      have hWp := I.2.2.2.1.1
      have hWb := I.2.2.2.2.2.2.1
      have eY : ct_Y M1 = Xs (ct_g M) (M1 30) (pls (M1 31)) (M1 32) (M1 24 14) := by unfold ct_Y; rw [eg]
      have Sg := ci_seg I
      have hY : ∀ h c, hs h → kl c → 0 ≤ ct_Y M1 h c ∧ ct_Y M1 h c ≤ M1 24 14 := fun h c hh hc => by rw [eY]; exact (Sg h c hh hc).2.2.2
      refine g_ct_run_6 _ _ _ _ ⟨⟨by omega, by omega⟩, fun q => absurd q (by omega), fun _ => ct_sinking V T ⟨by omega, hWb⟩ hY (fun s hs32 hsb => ⟨⟨by omega, by omega⟩, fun c => ?_, fun c => ?_⟩)⟩
      · -- a round is kept
        rw [c] at hsb
        have hno : ∀ h, hs h → tb (M1 24 1) h = true → h ∉ pls (M1 31) → 10 * yt (ct_g M) (Xs (ct_g M) (M1 30) (pls (M1 31)) (M1 32) (M1 24 14)) h ≤ rt (ct_g M) (Xs (ct_g M) (M1 30) (pls (M1 31)) (M1 32) (M1 24 14)) (M1 24 14) h := by
          intro h hh hFh hnm
          have h1 := mt (hsb h hh).mpr (by rw [tb_0]; simp)
          rw [eg, eY] at h1
          rcases Int.lt_or_le (rt (ct_g M) (Xs (ct_g M) (M1 30) (pls (M1 31)) (M1 32) (M1 24 14)) (M1 24 14) h) (10 * yt (ct_g M) (Xs (ct_g M) (M1 30) (pls (M1 31)) (M1 32) (M1 24 14)) h) with z | z
          · exact absurd ⟨hFh, Classical.byContradiction fun w => hnm (pls_mem.mpr ⟨hh, w⟩), z⟩ h1
          · exact z
        refine ct_keepRound V (by rw [eg]; exact I) hz (fun M2 F2 k17 k18 V2 T2 I2 hz2 hR2 => ?_)
        have eg2 : ct_g M2 = ct_g M := by rw [F2.g, eg]
        have a0 : M2 24 0 = M1 24 0 := F2.2.1 0 (by decide)
        have a1 : M2 24 1 = M1 24 1 := F2.2.1 1 (by decide)
        have e21 : M2 1 = M1 1 := F2.1 1 (by decide)
        have e12 : M2 25 = M1 25 := F2.1 25 (by decide)
        rw [eg] at I2
        have eY2 : ct_Y M2 = Xs (ct_g M) (M1 30) (pls (M1 31)) (M2 32) (M2 24 14) := by unfold ct_Y; rw [eg2, k17, k18]
        rw [eY2] at hR2
        have Sg2 := ci_seg I2
        have hY2 : ∀ h c, hs h → kl c → 0 ≤ ct_Y M2 h c ∧ ct_Y M2 h c ≤ M2 24 14 := fun h c hh hc => by rw [eY2]; exact (Sg2 h c hh hc).2.2.2
        -- the old payments, scaled
        have hno2 : ∀ h, hs h → tb (M1 24 1) h = true → h ∉ pls (M1 31) → 10 * yt (ct_g M) (Xs (ct_g M) (M1 30) (pls (M1 31)) (M2 32) (M2 24 14)) h ≤ rt (ct_g M) (Xs (ct_g M) (M1 30) (pls (M1 31)) (M2 32) (M2 24 14)) (M2 24 14) h := by
          intro h hh hFh hnm
          have h1 := hno h hh hFh hnm
          have hu := sol_uniq O I.1 I.2.2.1 I.2.2.2.1 I2.2.2.2.1 I.2.2.2.2.1
          have hx : ∀ k c, Xs (ct_g M) (M1 30) (pls (M1 31)) (M1 32) (M1 24 14) k c * M2 24 14 = Xs (ct_g M) (M1 30) (pls (M1 31)) (M2 32) (M2 24 14) k c * M1 24 14 := fun k c => by
            unfold Xs
            split
            · rw [Int.mul_comm]
            · split
              · rename_i q; exact hu k (Inl_mem.mp q.2)
              · simp
          obtain ⟨Z, hZ⟩ : ∃ Z : Int → Int → Int, Z = fun k c => Xs (ct_g M) (M1 30) (pls (M1 31)) (M1 32) (M1 24 14) k c * M2 24 14 := ⟨_, rfl⟩
          have s1 := rt_scale (g := ct_g M) (X := Z) (X' := Xs (ct_g M) (M1 30) (pls (M1 31)) (M1 32) (M1 24 14)) (W := M1 24 14 * M2 24 14) (d := M2 24 14) rfl (fun k c => by rw [hZ]) h
          have s2 := rt_scale (g := ct_g M) (X := Z) (X' := Xs (ct_g M) (M1 30) (pls (M1 31)) (M2 32) (M2 24 14)) (W := M1 24 14 * M2 24 14) (d := M1 24 14) (Int.mul_comm _ _) (fun k c => by rw [hZ]; exact hx k c) h
          have h2 := Int.mul_le_mul_of_nonneg_right h1 (Int.le_of_lt I2.2.2.2.1.1)
          refine Int.le_of_mul_le_mul_right (a := M1 24 14) ?_ hWp
          rw [Int.mul_assoc, ← s2.2, ← s2.1, s1.1, s1.2, ← Int.mul_assoc]
          exact h2
        have Rn := ci_gs O I2 hR2 hno2
        have Rn' : Rnd (ct_g M) (F (M1 24 0)) (ct_Y M2) (M2 24 14) := by
          rw [eY2]
          exact Rn.onF O (fun k hk => (hF k hk).symm)
        -- the rounds until now
        obtain ⟨X', hX'⟩ : ∃ X' : Int → Int → Int → Int, X' = fun r => if r = M1 24 0 then ct_Y M2 else X r := ⟨_, rfl⟩
        obtain ⟨D', hD'⟩ : ∃ D' : Int → Int, D' = fun r => if r = M1 24 0 then M2 24 14 else D r := ⟨_, rfl⟩
        have xw : X' (M1 24 0) = ct_Y M2 := by rw [hX']; exact if_pos rfl
        have dw : D' (M1 24 0) = M2 24 14 := by rw [hD']; exact if_pos rfl
        have xo_ : ∀ r, r ≠ M1 24 0 → X' r = X r := fun r hr => by rw [hX']; exact if_neg hr
        have do_ : ∀ r, r ≠ M1 24 0 → D' r = D r := fun r hr => by rw [hD']; exact if_neg hr
        have A2 : ct_A M2 X' D' (M1 24 0 + 1) := by
          intro r hr0 hr1
          by_cases q : r = M1 24 0
          · rw [q, xw, dw]
            have := T2
            unfold ct_T at this
            rw [a0] at this
            exact ⟨this.2, this.1⟩
          · rw [xo_ r q, do_ r q, F2.2.2.1 r q]
            have := A r hr0 (by omega)
            refine ⟨this.1, fun h c hh hc => ?_⟩
            rw [← this.2 h c hh hc]
            unfold ct_X
            rw [F2.2.2.2 _ (by have := hh.1; have := hh.2; have := hc.1; have := hc.2; omega)]
        have hA2 : Ag [24, 25, 26, 27, 28, 29, 30, 31, 32, 33, 35, 36] M M2 := hA.tr (F2.1.mono (by decide))
        refine ct_nextWave V2 T2 ⟨by have := I2.2.2.2.1.1; omega, I2.2.2.2.2.2.2.1⟩ hY2 (by rw [a0, a1]; exact hcn) (fun hend => ⟨by decide, fun q => absurd rfl q, fun _ => ?_⟩) (fun M3 hA3 hw5 b0 bi bt bex b12 b14 b13 V3 T3 => ⟨by decide, fun _ => ?_, fun q => absurd q (by decide)⟩)
        · -- the end
          refine hq M2 X' D' hA2 ⟨by rw [a0]; exact hw, by rw [a1]; exact V.2.2.2.2.2.2.1, F, ⟨Rd.1, fun r hr0 hr1 => ?_, fun r hr0 hr1 => ?_⟩, fun h hh hln hFh => ?_, fun h hh => ?_, ?_⟩ (by rw [a0]; exact A2) (fun h c hh hc => ?_) (fun h hh => ?_)
          · rw [a0] at hr1
            by_cases q : r = M1 24 0
            · rw [q, xw, dw]; exact Rn'
            · rw [xo_ r q, do_ r q]
              exact (Rd.2 r hr0 (by omega)).1
          · rw [a0] at hr1
            have := Rd.2 r hr0 hr1
            rw [xo_ r (by omega), do_ r (by omega)]
            rw [← e1]
            exact this.2
          · rw [a0] at hFh ⊢
            rw [xw, dw, ← eg2]
            exact hend h hh (by rw [e21, e1]; exact hln) (by rw [a1, ← hF h hh]; exact hFh)
          · rw [a0, a1, hF h hh]
          · rw [a0, e12]; exact W
          · rw [F2.1 28 (by decide), V.2.1 h c hh hc, xd_of e3]
          · rw [F2.1 29 (by decide), V.2.2.1 h hh, xd_of e3]
        · -- one wave more
          have c17 : M3 30 = M1 30 := by rw [hA3 30 (by decide), k17]
          have c18 : M3 31 = M1 31 := by rw [hA3 31 (by decide), k18]
          have c19 : M3 32 = M2 32 := hA3 32 (by decide)
          have c14 : M3 24 14 = M2 24 14 := bi 14 (by decide) (by decide)
          have c1 : M3 1 = M1 1 := by rw [hA3 1 (by decide), e21]
          rw [a0] at b0 b12 b14 b13 hw5
          rw [eg2, e21, a1] at bt
          rw [a1] at bex b12
          have eg3 : ct_g M3 = ct_g M := by rw [ct_g_of (hA3 1 (by decide)) (hA3 9 (by decide)) (hA3 3 (by decide)), eg2]
          obtain ⟨F', hF'⟩ : ∃ F' : Int → Int → Bool, F' = fun r => if r = M1 24 0 + 1 then fun h => tb (M3 24 1) h else F r := ⟨_, rfl⟩
          have fw : F' (M1 24 0 + 1) = fun h => tb (M3 24 1) h := by rw [hF']; exact if_pos rfl
          have fo : ∀ r, r ≠ M1 24 0 + 1 → F' r = F r := fun r hr => by rw [hF']; exact if_neg hr
          have hFn : ∀ h, hs h → F' (M1 24 0 + 1) h = (F' (M1 24 0) h || (decide (h < M1 1 0) && decide (fl (ct_g M) (X' (M1 24 0)) (D' (M1 24 0)) h))) := fun h hh => by
            rw [fw, fo (M1 24 0) (by omega), hF h hh, xw, dw]
            exact bt h hh
          refine ih (l + 1) M3 X' D' F' (by omega) (by omega) (hA2.tr (hA3.mono (by decide))) ⟨eg3, V3, T3, ?_, ?_, ⟨fun h hh => ?_, fun r hr0 hr1 => ?_⟩, fun h hh => ?_, fun h hh => ?_, fun r hr0 hr1 => ?_, ?_⟩ ?_
          · rw [c17, c18, c19, c14]
            refine ci_wave O I2 (fun h hh z => ?_) (fun h hh z y => ?_)
            · show tb (M3 24 1) h = true
              rw [bt h hh]
              have z' : tb (M1 24 1) h = true := z
              rw [z', Bool.true_or]
            · have z' : tb (M3 24 1) h = true := z
              have y' : tb (M1 24 1) h = false := y
              rw [bt h hh, y', Bool.false_or, Bool.and_eq_true, decide_eq_true_eq, decide_eq_true_eq, eY2] at z'
              exact z'.2
          · rw [c18, c19]; exact hz2
          · rw [fo 0 (by omega)]; exact Rd.1 h hh
          · rw [b0] at hr1
            rw [c1]
            by_cases q : r = M1 24 0
            · rw [q]
              refine ⟨by rw [fo _ (by omega), xw, dw]; exact Rn', hFn, ?_⟩
              obtain ⟨k, hk, x, y⟩ := bex
              refine ⟨k, hk, by rw [fo _ (by omega), hF k hk]; exact x, by rw [fw]; exact y⟩
            · rw [fo r (by omega), fo (r + 1) (by omega), xo_ r q, do_ r q]
              exact Rd.2 r hr0 (by omega)
          · rw [b0, fw]
          · -- which wave
            rw [b0]
            have w := W h hh
            have hbt := bt h hh
            rw [b12 h hh, e12]
            constructor
            · intro z
              rw [fw] at z
              have z' : tb (M3 24 1) h = false := z
              rw [z', if_neg (by simp)]
              refine w.1 ?_
              rw [hF h hh]
              rw [z'] at hbt
              cases x : tb (M1 24 1) h
              · rfl
              · rw [x, Bool.true_or] at hbt; exact absurd hbt (by simp)
            · intro z
              rw [fw] at z
              have z' : tb (M3 24 1) h = true := z
              cases x : tb (M1 24 1) h
              · rw [if_pos ⟨rfl, z'⟩]
                refine ⟨by omega, by omega, by rw [fw]; exact z, ?_⟩
                rw [show M1 24 0 + 1 - 1 = M1 24 0 by omega, fo _ (by omega), hF h hh]
                exact x
              · rw [if_neg (by simp)]
                have := w.2 (by rw [hF h hh]; exact x)
                rw [fo _ (by omega), fo _ (by omega)]
                exact ⟨this.1, by omega, this.2.2⟩
          · rw [b0] at hr1
            have := A2 r hr0 hr1
            rw [b14 r (by omega)]
            refine ⟨this.1, fun h c hh hc => ?_⟩
            rw [← this.2 h c hh hc]
            unfold ct_X
            rw [b13 _ (by have := hh.1; have := hh.2; have := hc.1; have := hc.2; omega)]
          · rw [b0]
            obtain ⟨k, hk, x, y⟩ := bex
            have := cnt_lt V.2.2.2.2.2.2.1 V3.2.2.2.2.2.2.1 (fun j hj z => by rw [bt j hj, z]; rfl) (fun z => by rw [z] at x; rw [x] at y; exact absurd y (by simp))
            omega
          · rw [c17, b0]; omega
      · -- payments are lowered
        have hO : ∀ h, hs h → M1 31 h ≠ 0 → kl (M1 30 h) := fun h hh z => (I.2.2.1.2 h (pls_mem.mpr ⟨hh, z⟩)).2.2.1
        refine ct_reached V hO hs32 c (fun h hh z => ((hsb h hh).mp z).1) (fun t rch rcl => ?_)
        have htn : ∀ h, hs h → tb t h = true → h < M1 1 0 := fun h hh z => V.2.2.2.2.2.2.2 h hh (rch.2.2.1 h hh z)
        refine ct_lower (s := s) V rch.1 htn (by rw [eg]; exact I) (fun e' he' => ⟨fun h hh => mrg_ok (V.2.2.2.1 h hh), he', fun h hh z => rch.2.2.1 h hh z, fun h hh z => ?_, fun j k hj hk zj zk znk hm0 => ?_, fun P' hb hst h hh z => ?_⟩) (some_bit hs32 c) (fun M2 F2 V2 T2 I2 hz2 hdec => ?_)
        · have h1 := (hsb h hh).mp z
          exact ⟨rch.2.1 h hh z, fun w => (pls_mem.mp w).2 h1.2.1, h1.2.2⟩
        · -- none outside is reached
          have hm' : ¬ ct_fee M1 k j := fun w => by
            have := rcl j k hj hk zj zk w
            have znk' : tb t k = false := znk
            rw [znk'] at this
            exact absurd this (by simp)
          have hkl : kl (mrg (ct_g M1) (M1 30) (pls (M1 31)) j) := by
            rcases mrg_ok (g := ct_g M1) (os := pls (M1 31)) (V.2.2.2.1 j hj) with ⟨a, b⟩ | ⟨a, b, c', _⟩
            · rw [b]; exact hO j hj (pls_mem.mp a).2
            · have := V.2.2.2.1 j hj
              exact ⟨hm0, by omega⟩
          have hnn : 0 ≤ M1 1 2 * xo M1 j k (mrg (ct_g M1) (M1 30) (pls (M1 31)) j) := Int.mul_nonneg V.1.1.2.2.1.1 (V.1.1.2.2.2.2.1 j k _ hj hk hkl).1
          show M1 1 2 * xo M1 j k (mrg (ct_g M1) (M1 30) (pls (M1 31)) j) = 0
          rcases Int.lt_or_le 0 (M1 1 2 * xo M1 j k (mrg (ct_g M1) (M1 30) (pls (M1 31)) j)) with w | w
          · exact absurd ⟨hm0, w⟩ hm'
          · omega
        · refine (rch.2.2.2 (fun h => tb t h = true ∧ P' h) (fun h hh y => ⟨rch.2.1 h hh y, hb h hh y⟩) (fun j k hj hk y hFk w => ?_) h hh z).2
          have hk' := rcl j k hj hk y.1 hFk w
          exact ⟨hk', hst j k hj hk y.1 y.2 w.1 w.2 hk'⟩
        · have eg2 : ct_g M2 = ct_g M := by rw [F2.g, eg]
          have a0 : M2 24 0 = M1 24 0 := F2.2.1 0 (by decide)
          have a1 : M2 24 1 = M1 24 1 := F2.2.1 1 (by decide)
          refine ih (l + 1) M2 X D F (by omega) (by omega) (hA.tr (F2.1.mono (by decide))) ⟨eg2, V2, T2, by rw [eg2] at I2; exact I2, hz2, by rw [a0, F2.1 1 (by decide)]; exact Rd, by rw [a0, a1]; exact hF, by rw [a0, F2.1 25 (by decide)]; exact W, ?_, by rw [a0, a1]; exact hcn⟩ (by rw [a0]; omega)
          rw [a0]
          intro r hr0 hr1
          have := A r hr0 hr1
          rw [F2.2.2.1 r (by omega)]
          refine ⟨this.1, fun h c hh hc => ?_⟩
          rw [← this.2 h c hh hc]
          unfold ct_X
          rw [F2.2.2.2 _ (by have := hh.1; have := hh.2; have := hc.1; have := hc.2; omega)]
  refine c_ct_run (K + 4) M Q (ct_begin phk_24_P0 P.1 (fun M1 hA a0 a1 a14 az a15 a16 b14 bX => ?_))
  have e1 : M1 1 = M 1 := hA 1 (by decide)
  have e3 : M1 3 = M 3 := hA 3 (by decide)
  have eg : ct_g M1 = ct_g M := ct_g_of e1 (hA 9 (by decide)) e3
  have hos : pls (M1 31) = [] := pls_0 fun k hk => (az k hk).2.2.1
  have V1 : ct_V M1 := ⟨P.of e1 (hA 2 (by decide)) (hA 9 (by decide)) e3, fun h c hh hc => by rw [xd_of e3]; exact a15 h c hh hc, fun h hh => by rw [xd_of e3]; exact a16 h hh, fun h hh => by rw [(az h hh).2.1]; decide, fun h hh => Or.inl (az h hh).2.2.1, by rw [a0]; decide, by rw [a1]; decide, fun h hh z => by rw [a1, tb_0] at z; exact absurd z (by simp)⟩
  refine loop 21 0 M1 (fun _ _ _ => 0) (fun _ => 0) (fun _ _ => false) (by decide) (by decide) (hA.mono (by decide)) ⟨eg, V1, ⟨fun h c hh hc => ?_, by rw [a0, a14]; exact b14⟩, ?_, fun h hh _ => (az h hh).2.2.2, ⟨fun _ _ => rfl, fun r hr0 hr1 => by rw [a0] at hr1; omega⟩, fun h hh => by rw [a1, tb_0], fun h hh => ⟨fun _ => (az h hh).1, fun z => absurd z (by simp)⟩, fun r hr0 hr1 => by rw [a0] at hr1; omega, ?_⟩ ?_
  · rw [a0, bX h c hh hc]
    unfold ct_Y Xs
    rw [(az h hh).2.1, if_pos (Or.inl hc.2), a14]
  · rw [hos, a14]
    exact ci_init (fun h hh => by rw [a1, tb_0]) (fun h hh => (az h hh).2.1) rfl
  · rw [a0, a1]
    exact s5_nn fun k _ => by cases tb 0 k <;> decide
  · rw [a0, s5_congr (g := fun _ => 3) (fun k hk => (az k hk).2.1)]
    decide
