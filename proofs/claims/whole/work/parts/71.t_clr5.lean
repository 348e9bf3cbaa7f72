theorem ct_V.of2 {M M' : PM} (hA : Ag [24, 25, 26, 27, 30, 31, 32, 33, 35, 36] M M') (h0 : M' 24 0 = M 24 0) (h1 : M' 24 1 = M 24 1) (hL : Lvl (M' 30)) (hb : ∀ h, hs h → M' 31 h = 0 ∨ M' 31 h = 1) (V : ct_V M) : ct_V M' := by
  have e1 : M' 1 = M 1 := hA _ (by decide)
  have e2 : M' 2 = M 2 := hA _ (by decide)
  have e2' : M' 9 = M 9 := hA _ (by decide)
  have e3 : M' 3 = M 3 := hA _ (by decide)
  have e15 : M' 28 = M 28 := hA _ (by decide)
  have e16 : M' 29 = M 29 := hA _ (by decide)
  refine ⟨V.1.of e1 e2 e2' e3, by rw [e15, xd_of e3]; exact V.2.1, by rw [e16, xd_of e3]; exact V.2.2.1, hL, hb, by rw [h0]; exact V.2.2.2.2.2.1, by rw [h1, e1]; exact V.2.2.2.2.2.2⟩
def ct_Fr (M M' : PM) : Prop := Ag [24, 26, 27, 30, 31, 32, 33, 35, 36] M M' ∧ (∀ i, i ≠ 14 → M' 24 i = M 24 i) ∧ (∀ i, i ≠ M 24 0 → M' 27 i = M 27 i) ∧ ∀ j, ¬ (M 24 0 * 15 ≤ j ∧ j < M 24 0 * 15 + 15) → M' 26 j = M 26 j
theorem ct_Fr.rf (M : PM) : ct_Fr M M := ⟨Ag.rf _ _, fun _ _ => rfl, fun _ _ => rfl, fun _ _ => rfl⟩
theorem ct_Fr.tr {M M1 M2 : PM} (h : ct_Fr M M1) (h2 : ct_Fr M1 M2) : ct_Fr M M2 := by
  have e := h.2.1 0 (by decide)
  refine ⟨h.1.tr h2.1, fun i hi => by rw [h2.2.1 i hi, h.2.1 i hi], fun i hi => ?_, fun j hj => ?_⟩
  · rw [h2.2.2.1 i (by rw [e]; exact hi), h.2.2.1 i hi]
  · rw [h2.2.2.2 j (by rw [e]; exact hj), h.2.2.2 j hj]
theorem ct_Fr.g {M M' : PM} (h : ct_Fr M M') : ct_g M' = ct_g M := ct_g_of (h.1 1 (by decide)) (h.1 9 (by decide)) (h.1 3 (by decide))
theorem ct_bal {K : Nat} {M : PM} {F : Int → Bool} {Q : Option PV → PM → Prop} (V : ct_V M) (Op : Opn (ct_g M) F (M 30) (pls (M 31))) (N : NCl (dd (ct_g M) (M 30)) (AA (ct_g M) (M 30)) (Inl (pls (M 31))))
    (hq : ∀ M', ct_Fr M M' → M' 30 = M 30 → M' 31 = M 31 → Sol (ct_g M) (M 30) (pls (M 31)) (M' 32) (M' 24 14) → M' 24 14 ≤ 327680000000000 → (∀ h, hs h → h ∉ pls (M 31) → M' 32 h = 0) → ct_V M' → ct_T M' → Q none M') : Call (K + 3) jClearing_balance [.inr (.inr 24)] P0 P0 M Q := by
  refine ct_balance V Op (fun M' hA h11 h14 h19 h0 k14 k13 V' T' => ?_)
  have sd := sol_det (ct_ok V.1) V.2.2.2.1 Op N
  refine hq M' ⟨hA.mono (by decide), h11, k14, k13⟩ (hA 30 (by decide)) (hA 31 (by decide)) ?_ (by rw [h14]; exact sd.2) h0 V' T'
  rw [h14]
  exact sd.1.cong h19
theorem ct_lower {K : Nat} {M : PM} {s t : Int} {Q : Option PV → PM → Prop} (V : ct_V M) (ht : 0 ≤ t ∧ t < 32) (htn : ∀ h, hs h → tb t h = true → h < M 1 0) (I : CI (ct_g M) (fun h => tb (M 24 1) h) (M 30) (pls (M 31)) (M 32) (M 24 14))
    (L : ∀ e', (∀ h, hs h → e' h = if tb t h = true then mx2 (mrg (ct_g M) (M 30) (pls (M 31)) h) 0 else M 30 h) → Lw (ct_g M) (fun h => tb (M 24 1) h) (M 30) (pls (M 31)) (M 32) (M 24 14) (mrg (ct_g M) (M 30) (pls (M 31))) e' (fun h => tb s h) (fun h => tb t h)) (hS : ∃ h, hs h ∧ tb s h = true)
    (hq : ∀ M', ct_Fr M M' → ct_V M' → ct_T M' → CI (ct_g M') (fun h => tb (M' 24 1) h) (M' 30) (pls (M' 31)) (M' 32) (M' 24 14) → (∀ h, hs h → h ∉ pls (M' 31) → M' 32 h = 0) → s5 (M' 30) < s5 (M 30) → Q none M') : Call (K + 4) jClearing_lower [.inr (.inr 24), .inl t] P0 P0 M Q := by
  have hn := V.1.1.1
  have O := ct_ok V.1
  -- they rise again
  have l55 : ∀ (M1 : PM), ct_Fr M M1 → ct_V M1 → (∀ h, hs h → M1 30 h = if tb t h = true then mx2 (mrg (ct_g M) (M 30) (pls (M 31)) h) 0 else M 30 h) → (∀ k, k ∈ pls (M1 31) ↔ (k ∈ pls (M 31) ∧ tb t k = false)) →
      ∀ (n : Nat) (tm : Int) (M2 : PM), 0 ≤ tm → tm + (n : Int) = 5 → ct_Fr M1 M2 → M2 30 = M1 30 → ct_V M2 → ct_T M2 → RI (ct_g M) (fun h => tb (M 24 1) h) (M1 30) (pls (M1 31)) (fun h => tb t h) (pls (M2 31)) (M2 32) (M2 24 14) → (∀ h, hs h → h ∉ pls (M2 31) → M2 32 h = 0) → tm ≤ s5 (M2 31) →
      G none (K + 3 + 1) jClearing_lower 55 [(0, .inr (.inr 24)), (1, .inl t), (2, .inl tm)] [] P0 P0 M2 Q := by
    intro M1 F1 V1 he1 hos1 n
    have Lw1 := L (M1 30) he1
    have fin : ∀ M2, ct_Fr M1 M2 → M2 30 = M1 30 → ct_V M2 → ct_T M2 → RI (ct_g M) (fun h => tb (M 24 1) h) (M1 30) (pls (M1 31)) (fun h => tb t h) (pls (M2 31)) (M2 32) (M2 24 14) → (∀ h, hs h → h ∉ pls (M2 31) → M2 32 h = 0) → (∀ h, hs h → tb t h = true → h ∉ pls (M2 31) → by_ (ct_g M) (M1 30) (pls (M2 31)) (M2 32) (M2 24 14) h ≤ 0) → Q none M2 := by
      intro M2 F2 e17 V2 T2 R h0 hcl
      have F02 := F1.tr F2
      have D := lw_done O I Lw1 hos1 R hcl
      refine hq M2 F02 V2 T2 ?_ h0 ?_
      · rw [F02.g, e17, show (fun h => tb (M2 24 1) h) = fun h => tb (M 24 1) h by funext h; rw [F02.2.1 1 (by decide)]]
        exact D
      · rw [e17]
        exact lw_dec O I Lw1 hS
    induction n with
    | zero =>
      intro tm M2 h0 hn5 F2 e17 V2 T2 R hz hs18
      refine g_ct_lower_55 _ _ _ _ _ ⟨⟨by omega, by omega⟩, fun _ => fin M2 F2 e17 V2 T2 R hz (fun h hh _ hno => ?_), fun q => absurd (by omega) q⟩
      exfalso
      have hb := V2.2.2.2.2.1
      have h1 := s5_nn0 (f := fun k => 1 - M2 31 k) (fun k hk => by have := hb k hk; show 0 ≤ 1 - M2 31 k; omega) (by
        rw [s5_sub]
        have : s5 (fun _ => (1 : Int)) = 5 := by decide
        omega) h hh
      exact hno (pls_mem.mpr ⟨hh, by have h1' : 1 - M2 31 h = 0 := h1; omega⟩)
    | succ n ih =>
      intro tm M2 h0 hn5 F2 e17 V2 T2 R hz hs18
      have F02 := F1.tr F2
      have eg := F02.g
      have Sg2 : Seg (ct_g M) (M1 30) (Xs (ct_g M) (M1 30) (pls (M2 31)) (M2 32) (M2 24 14)) (M2 24 14) := xs_seg R.2.1.1 R.1 (fun h hm => by have := R.2.2.2.1 h hm; omega)
      have eY : ct_Y M2 = Xs (ct_g M) (M1 30) (pls (M2 31)) (M2 32) (M2 24 14) := by unfold ct_Y; rw [eg, e17]
      have hY : ∀ h c, hs h → kl c → 0 ≤ ct_Y M2 h c ∧ ct_Y M2 h c ≤ M2 24 14 := fun h c hh hc => by rw [eY]; exact (Sg2 h c hh hc).2.2.2
      have hW := R.2.1.1
      have e1 : M2 1 = M 1 := F02.1 1 (by decide)
      refine g_ct_lower_55 _ _ _ _ _ ⟨⟨by omega, by omega⟩, fun q => absurd q (by omega), fun _ => ct_rising V2 T2 ⟨by omega, R.2.2.2.2.1⟩ hY ht (by rw [e1]; exact htn) (fun u hu hub => ?_)⟩
      -- who rises
      have hup : ∀ h, hs h → (tb u h = true ↔ (tb t h = true ∧ h ∉ pls (M2 31) ∧ 0 < by_ (ct_g M) (M1 30) (pls (M2 31)) (M2 32) (M2 24 14) h)) := by
        intro h hh
        rw [hub h hh, eY, eg]
        constructor
        · rintro ⟨a, b, c⟩
          have hno : h ∉ pls (M2 31) := fun z => (pls_mem.mp z).2 b
          have h1 := xs_by (p := M2 32) (W := M2 24 14) O R.1 hh
          rw [if_neg (fun z => hno (Inl_mem.mp z))] at h1
          exact ⟨a, hno, by omega⟩
        · rintro ⟨a, hno, c⟩
          have h1 := xs_by (p := M2 32) (W := M2 24 14) O R.1 hh
          rw [if_neg (fun z => hno (Inl_mem.mp z))] at h1
          exact ⟨a, Classical.byContradiction fun z => hno (pls_mem.mpr ⟨hh, z⟩), by omega⟩
      refine ⟨⟨by omega, by omega⟩, fun hu0 => ?_, fun hu0 => ?_⟩
      · -- some rise
        have l74 : ∀ (n2 : Nat) (h : Int) (M3 : PM), 0 ≤ h → h + (n2 : Int) = M 1 0 → Ag [31] M2 M3 → (∀ k, hs k → M3 31 k = if k < h ∧ tb u k = true then 1 else M2 31 k) → G none (K + 3 + 1) jClearing_lower 74 [(0, .inr (.inr 24)), (1, .inl t), (2, .inl tm), (3, .inl u), (4, .inl h)] [] P0 P0 M3 Q := by
          intro n2
          induction n2 with
          | zero =>
            intro h M3 hh0 hhn hA h18
            have hhn' : h = M 1 0 := by omega
            have e31 : M3 1 = M 1 := by rw [hA 1 (by decide), e1]
            have h18' : ∀ k, hs k → M3 31 k = if tb u k = true then 1 else M2 31 k := fun k hk => by
              rw [h18 k hk]
              by_cases z : tb u k = true
              · have := htn k hk ((hup k hk).mp z).1
                rw [if_pos ⟨by omega, z⟩, if_pos z]
              · rw [if_neg (fun y => z y.2), if_neg z]
            have V3 : ct_V M3 := V2.of2 (hA.mono (by decide)) (by rw [hA 24 (by decide)]) (by rw [hA 24 (by decide)]) (by rw [hA 30 (by decide)]; exact V2.2.2.2.1) (fun k hk => by
              rw [h18' k hk]
              split
              · exact Or.inr rfl
              · exact V2.2.2.2.2.1 k hk)
            have F3 : ct_Fr M2 M3 := ⟨hA.mono (by decide), fun i _ => by rw [hA 24 (by decide)], fun i _ => by rw [hA 27 (by decide)], fun j _ => by rw [hA 26 (by decide)]⟩
            have eg3 : ct_g M3 = ct_g M := by rw [F3.g, eg]
            have e317 : M3 30 = M1 30 := by rw [hA 30 (by decide), e17]
            have hos3 : ∀ k, k ∈ pls (M3 31) ↔ (k ∈ pls (M2 31) ∨ (hs k ∧ tb t k = true ∧ k ∉ pls (M2 31) ∧ 0 < by_ (ct_g M) (M1 30) (pls (M2 31)) (M2 32) (M2 24 14) k)) := by
              intro k
              constructor
              · intro hk
                obtain ⟨a, b⟩ := pls_mem.mp hk
                rw [h18' k a] at b
                by_cases z : tb u k = true
                · exact Or.inr ⟨a, (hup k a).mp z⟩
                · rw [if_neg z] at b; exact Or.inl (pls_mem.mpr ⟨a, b⟩)
              · rintro (hk | ⟨a, b⟩)
                · obtain ⟨a, b⟩ := pls_mem.mp hk
                  refine pls_mem.mpr ⟨a, ?_⟩
                  rw [h18' k a]
                  split
                  · decide
                  · exact b
                · refine pls_mem.mpr ⟨a, ?_⟩
                  rw [h18' k a, if_pos ((hup k a).mpr b)]
                  decide
            have hopn := ri_open O I Lw1 R (pls_nodup (M3 31)) hos3
            refine g_ct_lower_74 _ _ _ _ _ _ _ ⟨⟨by omega, by omega⟩, by rw [e31]; exact ⟨by omega, by omega⟩, fun _ => ?_, fun q => absurd (by rw [e31]; omega) q⟩
            refine ct_bal (F := fun h => tb (M 24 1) h) V3 (by rw [eg3, e317]; exact hopn.1) (by rw [eg3, e317]; exact hopn.2) (fun M4 F4 k17 k18 Sl hb hz4 V4 T4 => ?_)
            rw [eg3, e317] at Sl
            refine ih (tm + 1) M4 (by omega) (by omega) ((F2.tr F3).tr F4) (by rw [k17, e317]) V4 T4 ?_ ?_ ?_
            · rw [k18]
              exact ri_next O I Lw1 R (pls_nodup (M3 31)) hos3 Sl hb
            · rw [k18]; exact hz4
            · rw [k18]
              obtain ⟨k0, hk0, htk⟩ := some_bit hu hu0
              have hk0' := (hup k0 hk0).mp htk
              have hd : ∀ k, hs k → 0 ≤ M3 31 k - M2 31 k := fun k hk => by
                rw [h18' k hk]
                have := V2.2.2.2.2.1 k hk
                split <;> omega
              have h5 := s5_ge1 (f := fun k => M3 31 k - M2 31 k) hd hk0
              rw [s5_sub] at h5
              have h6 : M3 31 k0 - M2 31 k0 = 1 := by
                rw [h18' k0 hk0, if_pos htk]
                have : M2 31 k0 = 0 := Classical.byContradiction fun z => hk0'.2.1 (pls_mem.mpr ⟨hk0, z⟩)
                omega
              have h7 : M3 31 k0 - M2 31 k0 ≤ s5 (M3 31) - s5 (M2 31) := h5
              omega
          | succ n2 ih2 =>
            intro h M3 hh0 hhn hA h18
            have e31 : M3 1 = M 1 := by rw [hA 1 (by decide), e1]
            have hh : hs h := ⟨hh0, by omega⟩
            refine g_ct_lower_74 _ _ _ _ _ _ _ ⟨⟨by omega, by omega⟩, by rw [e31]; exact ⟨by omega, by omega⟩, fun q => absurd q (by rw [e31]; omega), fun _ => ?_⟩
            rw [bit_get (ms32 hu) ⟨hh0, by omega⟩]
            refine ⟨b2i_R _, fun c => ?_, fun c => ⟨hh, ?_⟩⟩
            · rw [b2i_0] at c
              refine ih2 (h + 1) M3 (by omega) (by omega) hA (fun k hk => ?_)
              rw [h18 k hk]
              by_cases z : k = h
              · rw [z, c, if_neg (by simp), if_neg (by simp)]
              · by_cases y : k < h ∧ tb u k = true
                · rw [if_pos y, if_pos ⟨by omega, y.2⟩]
                · rw [if_neg y, if_neg (fun w => y ⟨by omega, w.2⟩)]
            · have c' := b2i_n0 c
              refine ih2 (h + 1) _ (by omega) (by omega) (hA.set (by decide)) (fun k hk => ?_)
              by_cases z : k = h
              · rw [z, mset_eq, if_pos ⟨by omega, c'⟩]
              · rw [show (mset M3 31 h 1) 31 k = M3 31 k by simp [mset, z], h18 k hk]
                by_cases y : k < h ∧ tb u k = true
                · rw [if_pos y, if_pos ⟨by omega, y.2⟩]
                · rw [if_neg y, if_neg (fun w => y ⟨by omega, w.2⟩)]
        exact l74 (M 1 0).toNat 0 M2 (by decide) (by omega) (Ag.rf _ _) (fun k hk => by rw [if_neg (fun z => by have := hk.1; omega)])
      · refine fin M2 F2 e17 V2 T2 R hz (fun h hh hB hno => ?_)
        have := mt (hup h hh).mpr
        rw [hu0, tb_0] at this
        have h2 := this (by simp)
        rcases Int.lt_or_le 0 (by_ (ct_g M) (M1 30) (pls (M2 31)) (M2 32) (M2 24 14) h) with z | z
        · exact absurd ⟨hB, hno, z⟩ h2
        · exact z
  -- they are held where their class begins
  have l2 : ∀ (n : Nat) (h : Int) (M1 : PM), 0 ≤ h → h + (n : Int) = M 1 0 → Ag [30, 31] M M1 → (∀ k, hs k → M1 30 k = (if k < h ∧ tb t k = true then mx2 (mrg (ct_g M) (M 30) (pls (M 31)) k) 0 else M 30 k) ∧ M1 31 k = (if k < h ∧ tb t k = true then 0 else M 31 k)) → G none (K + 3 + 1) jClearing_lower 2 [(0, .inr (.inr 24)), (1, .inl t), (2, .inl h)] [] P0 P0 M1 Q := by
    have hV : ∀ (h : Int) (M1 : PM), Ag [30, 31] M M1 → (∀ k, hs k → M1 30 k = (if k < h ∧ tb t k = true then mx2 (mrg (ct_g M) (M 30) (pls (M 31)) k) 0 else M 30 k) ∧ M1 31 k = (if k < h ∧ tb t k = true then 0 else M 31 k)) → ct_V M1 := by
      intro h M1 hA hI
      refine V.of2 (hA.mono (by decide)) (by rw [hA 24 (by decide)]) (by rw [hA 24 (by decide)]) (fun k hk => ?_) (fun k hk => ?_)
      · rw [(hI k hk).1]
        have hl := V.2.2.2.1 k hk
        have hr := mrg_R (g := ct_g M) (e := M 30) (os := pls (M 31)) (h := k) hl
        split
        · unfold mx2
          split <;> omega
        · exact hl
      · rw [(hI k hk).2]
        split
        · exact Or.inl rfl
        · exact V.2.2.2.2.1 k hk
    intro n
    induction n with
    | zero =>
      intro h M1 h0 hh hA hI
      have e1 : M1 1 = M 1 := hA 1 (by decide)
      have V1 := hV h M1 hA hI
      have hhn : h = M 1 0 := by omega
      have F1 : ct_Fr M M1 := ⟨hA.mono (by decide), fun i _ => by rw [hA 24 (by decide)], fun i _ => by rw [hA 27 (by decide)], fun j _ => by rw [hA 26 (by decide)]⟩
      have he1 : ∀ k, hs k → M1 30 k = if tb t k = true then mx2 (mrg (ct_g M) (M 30) (pls (M 31)) k) 0 else M 30 k := fun k hk => by
        rw [(hI k hk).1]
        by_cases z : tb t k = true
        · rw [if_pos ⟨by have := htn k hk z; omega, z⟩, if_pos z]
        · rw [if_neg (fun y => z y.2), if_neg z]
      have hos1 : ∀ k, k ∈ pls (M1 31) ↔ (k ∈ pls (M 31) ∧ tb t k = false) := by
        intro k
        rw [pls_mem, pls_mem]
        constructor
        · rintro ⟨a, b⟩
          rw [(hI k a).2] at b
          cases z : tb t k
          · rw [if_neg (fun y => by rw [z] at y; exact absurd y.2 (by simp))] at b; exact ⟨⟨a, b⟩, rfl⟩
          · rw [if_pos ⟨by have := htn k a z; omega, z⟩] at b; exact absurd rfl b
        · rintro ⟨⟨a, b⟩, c⟩
          refine ⟨a, ?_⟩
          rw [(hI k a).2, if_neg (fun y => by rw [c] at y; exact absurd y.2 (by simp))]
          exact b
      have Lw1 := L (M1 30) he1
      have Op1 := lw_opn I Lw1 (pls_nodup (M1 31)) hos1
      have N1 := lw_ncl I Lw1 hos1
      refine g_ct_lower_2 _ _ _ _ _ ⟨⟨by omega, by omega⟩, by rw [e1]; exact ⟨by omega, by omega⟩, fun _ => ?_, fun q => absurd (by rw [e1]; omega) q⟩
      refine ct_bal (F := fun h => tb (M 24 1) h) V1 (by rw [F1.g]; exact Op1) (by rw [F1.g]; exact N1) (fun M2 F2 k17 k18 Sl hb hz V2 T2 => ?_)
      rw [F1.g] at Sl
      refine l55 M1 F1 V1 he1 hos1 5 0 M2 (by decide) (by decide) F2 k17 V2 T2 ?_ (by rw [k18]; exact hz) ?_
      · rw [k18]
        exact ri_first O I Lw1 (pls_nodup (M1 31)) hos1 Sl hb
      · exact s5_nn fun k hk => by have := V2.2.2.2.2.1 k hk; omega
    | succ n ih =>
      intro h M1 h0 hh hA hI
      have e1 : M1 1 = M 1 := hA 1 (by decide)
      have V1 := hV h M1 hA hI
      have hhs : hs h := ⟨h0, by omega⟩
      have F1 : ct_Fr M M1 := ⟨hA.mono (by decide), fun i _ => by rw [hA 24 (by decide)], fun i _ => by rw [hA 27 (by decide)], fun j _ => by rw [hA 26 (by decide)]⟩
      refine g_ct_lower_2 _ _ _ _ _ ⟨⟨by omega, by omega⟩, by rw [e1]; exact ⟨by omega, by omega⟩, fun q => absurd q (by rw [e1]; omega), fun _ => ?_⟩
      rw [bit_get (ms32 ht) ⟨h0, by omega⟩]
      refine ⟨b2i_R _, fun c => ?_, fun c => ct_margin V1 hhs ?_⟩
      · rw [b2i_0] at c
        refine ih (h + 1) M1 (by omega) (by omega) hA (fun k hk => ?_)
        rw [(hI k hk).1, (hI k hk).2]
        by_cases z : k = h
        · rw [z, c]; simp
        · by_cases y : k < h ∧ tb t k = true
          · rw [if_pos y, if_pos y, if_pos ⟨by omega, y.2⟩, if_pos ⟨by omega, y.2⟩]; exact ⟨rfl, rfl⟩
          · rw [if_neg y, if_neg y, if_neg (fun w => y ⟨by omega, w.2⟩), if_neg (fun w => y ⟨by omega, w.2⟩)]; exact ⟨rfl, rfl⟩
      · have c' := b2i_n0 c
        have hIh := hI h hhs
        rw [if_neg (fun z => by omega), if_neg (fun z => by omega)] at hIh
        have em : mrg (ct_g M1) (M1 30) (pls (M1 31)) h = mrg (ct_g M) (M 30) (pls (M 31)) h := by
          rw [F1.g]
          exact mrg_same hIh.1 (by rw [Inl_pls hhs, Inl_pls hhs, hIh.2])
        rw [em]
        have hr := mrg_R (g := ct_g M) (e := M 30) (os := pls (M 31)) (h := h) (V.2.2.2.1 h hhs)
        refine ⟨⟨by omega, by omega⟩, hhs, ih (h + 1) _ (by omega) (by omega) ((hA.set (by decide)).set (by decide)) (fun k hk => ?_)⟩
        by_cases z : k = h
        · rw [z, if_pos ⟨by omega, c'⟩, if_pos ⟨by omega, c'⟩, mset_eq]
          refine ⟨?_, rfl⟩
          rw [mset_ne (by decide), mset_eq]
        · have z1 : (mset (mset M1 30 h (mx2 (mrg (ct_g M) (M 30) (pls (M 31)) h) 0)) 31 h 0) 30 k = M1 30 k := by simp [mset, z]
          have z2 : (mset (mset M1 30 h (mx2 (mrg (ct_g M) (M 30) (pls (M 31)) h) 0)) 31 h 0) 31 k = M1 31 k := by simp [mset, z]
          rw [z1, z2, (hI k hk).1, (hI k hk).2]
          by_cases y : k < h ∧ tb t k = true
          · rw [if_pos y, if_pos y, if_pos ⟨by omega, y.2⟩, if_pos ⟨by omega, y.2⟩]; exact ⟨rfl, rfl⟩
          · rw [if_neg y, if_neg y, if_neg (fun w => y ⟨by omega, w.2⟩), if_neg (fun w => y ⟨by omega, w.2⟩)]; exact ⟨rfl, rfl⟩
  exact c_ct_lower (K + 3) t M Q (l2 (M 1 0).toNat 0 M (by decide) (by omega) (Ag.rf _ _) (fun k hk => by rw [if_neg (fun z => by have := hk.1; omega), if_neg (fun z => by have := hk.1; omega)]; exact ⟨rfl, rfl⟩))
