theorem ct_begin {K : Nat} {ph : PH} (hp : phk_24 ph) {M : PM} {Q : Option PV → PM → Prop} (B : XB M)
    (hq : ∀ M', Ag [24, 25, 26, 27, 28, 29, 30, 31, 32] M M' → M' 24 0 = 0 → M' 24 1 = 0 → M' 24 14 = 1 → (∀ h, hs h → M' 25 h = 0 ∧ M' 30 h = 3 ∧ M' 31 h = 0 ∧ M' 32 h = 0) → (∀ h c, hs h → kl c → M' 28 ((h * 3) + c) = xd M h c) → (∀ h, hs h → M' 29 h = s3 fun c => xd M h c) → M' 27 0 = 1 → (∀ h c, hs h → kl c → ct_X M' 0 h c = 1) → Q none M') : Call (K + 3) jClearing_begin [.inr (.inr 24)] ph ph M Q := by
  have hp1 : phk_1 ph := ⟨Nat.le_trans (by decide) hp.1, fun x hx => hp.2 x (by
    simp only [List.mem_cons, List.not_mem_nil, or_false] at hx ⊢
    rcases hx with rfl | rfl | rfl <;> simp)⟩
  obtain ⟨J, hJ⟩ : ∃ J : Int → PM → Prop, J = fun k M1 => Ag [24, 25, 26, 27, 28, 29, 30, 31, 32] M M1 ∧ M1 24 0 = 0 ∧ M1 24 1 = 0 ∧ M1 24 14 = 1 ∧ (∀ h, hs h → h < k → (M1 25 h = 0 ∧ M1 30 h = 3 ∧ M1 31 h = 0 ∧ M1 32 h = 0) ∧ (∀ c, kl c → M1 28 ((h * 3) + c) = xd M h c) ∧ M1 29 h = s3 fun c => xd M h c) := ⟨_, rfl⟩
  have in_ : ∀ (h : Int) (M1 : PM), hs h → J h M1 → ∀ (n : Nat) (c : Int) (M2 : PM), 0 ≤ c → c + (n : Int) = 3 → Ag [28, 29] M1 M2 → (∀ c', kl c' → c' < c → M2 28 ((h * 3) + c') = xd M h c') → (∀ j, j < h * 3 → M2 28 j = M1 28 j) → M2 29 h = pcs (fun c => xd M h c) c.toNat → (∀ k, k ≠ h → M2 29 k = M1 29 k) → (M2 25 h = 0 ∧ M2 30 h = 3 ∧ M2 31 h = 0 ∧ M2 32 h = 0) →
      (∀ M3, J (h + 1) M3 → G none (K + 2 + 1) jClearing_begin 17 [(0, .inr (.inr 24)), (1, .inl (h + 1))] [] ph ph M3 Q) → G none (K + 2 + 1) jClearing_begin 59 [(0, .inr (.inr 24)), (1, .inl h), (2, .inl c)] [] ph ph M2 Q := by
    intro h M1 hh hj n
    induction n with
    | zero =>
      intro c M2 h0 hc hA h15 h15' h16 h16' hz go
      refine g_ct_begin_59 _ _ hp _ _ _ _ ⟨⟨by omega, by omega⟩, fun _ => go M2 ?_, fun q => absurd (by omega) q⟩
      rw [hJ] at hj ⊢
      obtain ⟨a1, a2, a3, a4, a5⟩ := hj
      have e11 : M2 24 = M1 24 := hA _ (by decide)
      refine ⟨a1.tr (hA.mono (by decide)), by rw [e11]; exact a2, by rw [e11]; exact a3, by rw [e11]; exact a4, fun k hk hl => ?_⟩
      by_cases z : k = h
      · rw [z]
        refine ⟨hz, fun c' hc' => h15 c' hc' (by have := hc'.2; omega), ?_⟩
        rw [h16, show c = 3 by omega]
        show ((0 + xd M h 0) + xd M h 1) + xd M h 2 = s3 fun c => xd M h c
        simp only [s3]; omega
      · have b := a5 k hk (by omega)
        rw [hA 25 (by decide), hA 30 (by decide), hA 31 (by decide), hA 32 (by decide), h16' k z]
        exact ⟨b.1, fun c' hc' => by rw [h15' _ (by have := hc'.2; omega)]; exact b.2.1 c' hc', b.2.2⟩
    | succ n ih =>
      intro c M2 h0 hc hA h15 h15' h16 h16' hz go
      have hck : kl c := ⟨h0, by omega⟩
      have h3 : M2 3 = M 3 := by
        rw [hA 3 (by decide)]
        rw [hJ] at hj
        exact hj.1 3 (by decide)
      have hB : XB M2 := by
        rw [hJ] at hj
        exact B.of (by rw [hA 1 (by decide)]; exact hj.1 1 (by decide)) (by rw [hA 2 (by decide)]; exact hj.1 2 (by decide)) h3
      refine g_ct_begin_59 _ _ hp _ _ _ _ ⟨⟨by omega, by omega⟩, fun q => absurd q (by omega), fun _ => x_dueIn hp1 hB hh hck ⟨⟨by have := hh.1; omega, by have := hh.2; omega⟩, hh, ?_⟩⟩
      rw [xd_of h3]
      refine ih (c + 1) _ (by omega) (by omega) ((hA.set (by decide)).set (by decide)) (fun c' hc' hl => ?_) (fun j hj' => ?_) ?_ (fun k hk => ?_) ?_ go
      · rw [mset_ne (by decide)]
        by_cases z : c' = c
        · rw [z, mset_eq]
        · rw [show (mset M2 28 ((h * 3) + c) (xd M h c)) 28 ((h * 3) + c') = M2 28 ((h * 3) + c') by
            have : h * 3 + c' ≠ h * 3 + c := by omega
            simp [mset, this]]
          exact h15 c' hc' (by omega)
      · rw [mset_ne (by decide)]
        have : j ≠ h * 3 + c := by omega
        rw [show (mset M2 28 ((h * 3) + c) (xd M h c)) 28 j = M2 28 j by simp [mset, this]]
        exact h15' j hj'
      · rw [mset_eq, h16, pcs_up _ h0]
      · rw [show ∀ v, (mset (mset M2 28 ((h * 3) + c) (xd M h c)) 29 h v) 29 k = (mset M2 28 ((h * 3) + c) (xd M h c)) 29 k from fun v => by simp [mset, hk], mset_ne (by decide)]
        exact h16' k hk
      · rw [mset_ne (by decide), mset_ne (by decide), mset_ne (by decide), mset_ne (by decide), mset_ne (by decide), mset_ne (by decide), mset_ne (by decide), mset_ne (by decide)]
        exact hz
  have out : ∀ (n : Nat) (h : Int) (M1 : PM), 0 ≤ h → h + (n : Int) = 5 → J h M1 → G none (K + 2 + 1) jClearing_begin 17 [(0, .inr (.inr 24)), (1, .inl h)] [] ph ph M1 Q := by
    intro n
    induction n with
    | zero =>
      intro h M1 h0 hn hj
      rw [hJ] at hj
      obtain ⟨a1, a2, a3, a4, a5⟩ := hj
      have a5' := fun k (hk : hs k) => a5 k hk (by have := hk.2; omega)
      refine g_ct_begin_17 _ _ hp _ _ _ ⟨⟨by omega, by omega⟩, fun _ => ?_, fun q => absurd (by omega) q⟩
      refine ct_spread hp (by rw [a2]; decide) (fun k hk => by rw [(a5' k hk).1.2.1]; decide) (fun k hk => Or.inl (a5' k hk).1.2.2.1) (fun k c hk hc => by rw [(a5' k hk).2.1 c hc]; exact xd_b B hk hc) (fun M2 hA k14 k14w k13 kX => ?_)
      have e11 : M2 24 = M1 24 := hA _ (by decide)
      rw [a2] at k14w kX
      refine hq M2 (a1.tr (hA.mono (by decide))) (by rw [e11]; exact a2) (by rw [e11]; exact a3) (by rw [e11]; exact a4) (fun k hk => ?_) (fun k c hk hc => ?_) (fun k hk => ?_) (by rw [k14w]; exact a4) (fun k c hk hc => ?_)
      · rw [hA 25 (by decide), hA 30 (by decide), hA 31 (by decide), hA 32 (by decide)]
        exact (a5' k hk).1
      · rw [hA 28 (by decide)]; exact (a5' k hk).2.1 c hc
      · rw [hA 29 (by decide)]; exact (a5' k hk).2.2
      · rw [kX k c hk hc]
        unfold ct_tp
        rw [(a5' k hk).1.2.1, if_pos (Or.inl hc.2)]
        exact a4
    | succ n ih =>
      intro h M1 h0 hn hj
      have hh : hs h := ⟨h0, by omega⟩
      refine g_ct_begin_17 _ _ hp _ _ _ ⟨⟨by omega, by omega⟩, fun q => absurd q (by omega), fun _ => ⟨hh, ?_⟩⟩
      have hj' : J h (mset (mset (mset (mset (mset M1 25 h 0) 30 h 3) 31 h 0) 32 h 0) 29 h 0) := by
        rw [hJ] at hj ⊢
        obtain ⟨a1, a2, a3, a4, a5⟩ := hj
        refine ⟨((((a1.set (by decide)).set (by decide)).set (by decide)).set (by decide)).set (by decide), ?_, ?_, ?_, fun k hk hl => ?_⟩
        · rw [mset_ne (by decide), mset_ne (by decide), mset_ne (by decide), mset_ne (by decide), mset_ne (by decide)]; exact a2
        · rw [mset_ne (by decide), mset_ne (by decide), mset_ne (by decide), mset_ne (by decide), mset_ne (by decide)]; exact a3
        · rw [mset_ne (by decide), mset_ne (by decide), mset_ne (by decide), mset_ne (by decide), mset_ne (by decide)]; exact a4
        · have hne : k ≠ h := by omega
          have b := a5 k hk hl
          simp only [mset, hne]
          simpa using b
      refine in_ h _ hh hj' 3 0 _ (by decide) (by decide) (Ag.rf _ _) (fun c' hc' hl => by have := hc'.1; omega) (fun _ _ => rfl) ?_ (fun _ _ => rfl) ?_ (fun M3 j3 => ih (h + 1) M3 (by omega) (by omega) j3)
      · rw [mset_eq]; rfl
      · simp [mset]
  refine c_ct_begin (K + 2) ph hp M Q (out 5 0 _ (by decide) (by decide) ?_)
  rw [hJ]
  exact ⟨(((Ag.rf _ _).set (by decide)).set (by decide)).set (by decide), by simp [mset], by simp [mset], mset_eq, fun h hh hl => by have := hh.1; omega⟩
theorem ct_wealth {K : Nat} {r h : Int} {M : PM} {Q : Option PV → PM → Prop} (P : ct_P M) (hh : hs h) (hr : 0 ≤ r ∧ r ≤ 5) (hq : Q (some (.inr (.inl (wth (ct_g M) (ct_X M r) (M 27 r) h)))) M) : Call (K + 2) jClearing_wealth [.inr (.inr 24), .inl r, .inl h] P0 P0 M Q := by
  have hp := P.2 h hh
  refine c_ct_wealth (K + 1) r h M Q ⟨⟨by omega, by omega⟩, hh, ⟨by omega, by omega⟩, ct_income P hh hr ?_⟩
  have e : (M 27 r * M 9 h) + gt (ct_g M) (ct_X M r) h = wth (ct_g M) (ct_X M r) (M 27 r) h := by
    show _ = M 9 h * M 27 r + gt (ct_g M) (ct_X M r) h
    rw [Int.mul_comm]
  show Q (some (.inr (.inl ((M 27 r * M 9 h) + gt (ct_g M) (ct_X M r) h)))) M
  rw [e]
  exact hq
theorem ct_nextWave {K : Nat} {M : PM} {Q : Option PV → PM → Prop} (V : ct_V M) (T : ct_T M) (hW : 0 ≤ M 24 14 ∧ M 24 14 ≤ 327680000000000) (hY : ∀ h c, hs h → kl c → 0 ≤ ct_Y M h c ∧ ct_Y M h c ≤ M 24 14) (hcn : M 24 0 ≤ cnt (M 24 1))
    (hq0 : (∀ h, hs h → h < M 1 0 → tb (M 24 1) h = false → ¬ fl (ct_g M) (ct_Y M) (M 24 14) h) → Q (some (.inl 0)) M)
    (hq1 : ∀ M', Ag [24, 25, 26, 27] M M' → M 24 0 < 5 → M' 24 0 = M 24 0 + 1 → (∀ i, i ≠ 0 → i ≠ 1 → M' 24 i = M 24 i) → (∀ h, hs h → tb (M' 24 1) h = (tb (M 24 1) h || (decide (h < M 1 0) && decide (fl (ct_g M) (ct_Y M) (M 24 14) h)))) → (∃ h, hs h ∧ tb (M 24 1) h = false ∧ tb (M' 24 1) h = true) →
      (∀ h, hs h → M' 25 h = if tb (M 24 1) h = false ∧ tb (M' 24 1) h = true then M 24 0 + 1 else M 25 h) → (∀ i, i ≠ M 24 0 + 1 → M' 27 i = M 27 i) → (∀ j, ¬ ((M 24 0 + 1) * 15 ≤ j ∧ j < (M 24 0 + 1) * 15 + 15) → M' 26 j = M 26 j) → ct_V M' → ct_T M' → Q (some (.inl 1)) M') : Call (K + 3) jClearing_nextWave [.inr (.inr 24)] P0 P0 M Q := by
  have hn := V.1.1.1
  have O := ct_ok V.1
  have hw := V.2.2.2.2.2.1
  have hf := V.2.2.2.2.2.2
  have eX : ∀ h, wth (ct_g M) (ct_X M (M 24 0)) (M 27 (M 24 0)) h = wth (ct_g M) (ct_Y M) (M 24 14) h := fun h => by
    unfold wth
    rw [T.2, gt_on T.1 h]
  -- the wave
  have l96 : ∀ s, (0 ≤ s ∧ s < 32) → (∀ h, hs h → (tb s h = true ↔ (h < M 1 0 ∧ tb (M 24 1) h = false ∧ fl (ct_g M) (ct_Y M) (M 24 14) h))) → s ≠ 0 → M 24 0 < 5 →
      ∀ (n : Nat) (h : Int) (M1 : PM), 0 ≤ h → h + (n : Int) = M 1 0 → Ag [24, 25] M M1 → M1 24 0 = M 24 0 + 1 → M1 24 1 = bOr (M 24 1) s → (∀ i, i ≠ 0 → i ≠ 1 → M1 24 i = M 24 i) → (∀ k, hs k → M1 25 k = if k < h ∧ tb s k = true then M 24 0 + 1 else M 25 k) → G none (K + 2 + 1) jClearing_nextWave 96 [(0, .inr (.inr 24)), (1, .inl s), (2, .inl h)] [] P0 P0 M1 Q := by
    intro s hs32 hsb hs0 hw5 n
    have hor := bit_or (ms32 hf.1) (ms32 hs32)
    have hor' : ∀ k, hs k → tb (bOr (M 24 1) s) k = (tb (M 24 1) k || tb s k) := fun k hk => hor.2 k ⟨hk.1, by omega⟩
    have hor32 : 0 ≤ bOr (M 24 1) s ∧ bOr (M 24 1) s < 32 := set32 hor.1 (by rw [hor.2 5 (by decide), tb5 hf.1, tb5 hs32]; rfl)
    induction n with
    | zero =>
      intro h M1 h0 hh hA a0 a1 ai a12
      have e1 : M1 1 = M 1 := hA 1 (by decide)
      have V1 : ct_V M1 := by
        refine ⟨V.1.of e1 (hA 2 (by decide)) (hA 9 (by decide)) (hA 3 (by decide)), by rw [hA 28 (by decide), xd_of (hA 3 (by decide))]; exact V.2.1, by rw [hA 29 (by decide), xd_of (hA 3 (by decide))]; exact V.2.2.1, by rw [hA 30 (by decide)]; exact V.2.2.2.1, by rw [hA 31 (by decide)]; exact V.2.2.2.2.1, by rw [a0]; exact ⟨by omega, by omega⟩, by rw [a1]; exact hor32, fun k hk z => ?_⟩
        rw [a1, hor' k hk] at z
        rw [e1]
        rcases (Bool.or_eq_true _ _).mp z with y | y
        · exact hf.2 k hk y
        · exact ((hsb k hk).mp y).1
      refine g_ct_nextWave_96 _ _ _ _ _ ⟨⟨by omega, by omega⟩, by rw [e1]; exact ⟨by omega, by omega⟩, fun _ => ct_spreadV V1 (fun M2 hA2 k14 k13 V2 T2 => ?_), fun q => absurd (by rw [e1]; omega) q⟩
      rw [a0] at k14 k13
      have e11 : M2 24 = M1 24 := hA2 _ (by decide)
      have hmem : ∀ k, hs k → (tb (M 24 1) k = false ∧ tb (M2 24 1) k = true ↔ tb s k = true) := fun k hk => by
        rw [e11, a1, hor' k hk]
        constructor
        · rintro ⟨x, y⟩
          rw [x, Bool.false_or] at y
          exact y
        · intro y
          refine ⟨((hsb k hk).mp y).2.1, by rw [y, Bool.or_true]⟩
      refine hq1 M2 ((hA.mono (by decide)).tr (hA2.mono (by decide))) hw5 (by rw [e11]; exact a0) (fun i x y => by rw [e11]; exact ai i x y) (fun k hk => ?_) ?_ (fun k hk => ?_) (fun i hi => by rw [k14 i hi, hA 27 (by decide)]) (fun j hj => by rw [k13 j hj, hA 26 (by decide)]) V2 T2
      · rw [e11, a1, hor' k hk]
        cases x : tb (M 24 1) k
        · rw [Bool.false_or, Bool.false_or]
          cases y : tb s k
          · have := mt (hsb k hk).mpr (by rw [y]; simp)
            by_cases z : k < M 1 0
            · rw [decide_eq_true z, Bool.true_and, decide_eq_false (fun w => this ⟨z, x, w⟩)]
            · rw [decide_eq_false z, Bool.false_and]
          · have := (hsb k hk).mp y
            rw [decide_eq_true this.1, decide_eq_true this.2.2]; rfl
        · rw [Bool.true_or, Bool.true_or]
      · obtain ⟨k, hk, y⟩ := some_bit hs32 hs0
        exact ⟨k, hk, (hmem k hk).mpr y⟩
      · rw [hA2 25 (by decide), a12 k hk]
        by_cases y : tb s k = true
        · rw [if_pos ⟨by have := ((hsb k hk).mp y).1; omega, y⟩, if_pos ((hmem k hk).mpr y)]
        · rw [if_neg (fun z => y z.2), if_neg (fun z => y ((hmem k hk).mp z))]
    | succ n ih =>
      intro h M1 h0 hh hA a0 a1 ai a12
      have e1 : M1 1 = M 1 := hA 1 (by decide)
      have hhs : hs h := ⟨h0, by omega⟩
      refine g_ct_nextWave_96 _ _ _ _ _ ⟨⟨by omega, by omega⟩, by rw [e1]; exact ⟨by omega, by omega⟩, fun q => absurd q (by rw [e1]; omega), fun _ => ?_⟩
      rw [bit_get (ms32 hs32) ⟨h0, by omega⟩]
      refine ⟨b2i_R _, fun c => ?_, fun c => ⟨hhs, ?_⟩⟩
      · rw [b2i_0] at c
        refine ih (h + 1) M1 (by omega) (by omega) hA a0 a1 ai (fun k hk => ?_)
        rw [a12 k hk]
        by_cases z : k = h
        · rw [z, c]; simp
        · by_cases y : k < h ∧ tb s k = true
          · rw [if_pos y, if_pos ⟨by omega, y.2⟩]
          · rw [if_neg y, if_neg (fun w => y ⟨by omega, w.2⟩)]
      · have c' := b2i_n0 c
        rw [a0]
        refine ih (h + 1) _ (by omega) (by omega) (hA.set (by decide)) (by rw [mset_ne (by decide)]; exact a0) (by rw [mset_ne (by decide)]; exact a1) (fun i x y => by rw [mset_ne (by decide)]; exact ai i x y) (fun k hk => ?_)
        by_cases z : k = h
        · rw [z, mset_eq, if_pos ⟨by omega, c'⟩]
        · rw [show (mset M1 25 h (M 24 0 + 1)) 25 k = M1 25 k by simp [mset, z], a12 k hk]
          by_cases y : k < h ∧ tb s k = true
          · rw [if_pos y, if_pos ⟨by omega, y.2⟩]
          · rw [if_neg y, if_neg (fun w => y ⟨by omega, w.2⟩)]
  have l4 : ∀ (n : Nat) (h s : Int), 0 ≤ h → h + (n : Int) = M 1 0 → Bs s h (fun h => tb (M 24 1) h = false ∧ fl (ct_g M) (ct_Y M) (M 24 14) h) → G none (K + 2 + 1) jClearing_nextWave 4 [(0, .inr (.inr 24)), (1, .inl s), (2, .inl h)] [] P0 P0 M Q := by
    intro n
    induction n with
    | zero =>
      intro h s h0 hh b
      have hb32 := b.fin (by omega)
      have hhn : h = M 1 0 := by omega
      have hb := fun k (hk : hs k) => b.at hk
      rw [hhn] at hb
      refine g_ct_nextWave_4 _ _ _ _ _ ⟨⟨by omega, by omega⟩, ⟨by omega, by omega⟩, fun _ => ⟨⟨by omega, by omega⟩, fun c => hq0 (fun k hk hl x y => ?_), fun c => ⟨⟨by omega, by omega⟩, fun c2 => ?_, fun c2 => ?_⟩⟩, fun q => absurd (by omega) q⟩
      · have := (hb k hk).mpr ⟨hl, x, y⟩
        rw [c, tb_0] at this
        exact absurd this (by simp)
      · refine l96 s hb32 hb c c2 (M 1 0).toNat 0 _ (by decide) (by omega) (((Ag.rf _ _).set (by decide)).set (by decide)) (by simp [mset]) mset_eq (fun i x y => by simp [mset, x, y]) (fun k hk => ?_)
        rw [mset_ne (by decide), mset_ne (by decide), if_neg (fun z => by have := hk.1; omega)]
      · exfalso
        obtain ⟨k, hk, y⟩ := some_bit hb32 c
        have hb1 := (hb k hk).mp y
        have h1 := bit_or1 hf.1 hk
        have h2 := cnt_lt hf.1 h1.1 (fun j hj z => by rw [h1.2 j ⟨hj.1, by omega⟩, z]; rfl) (fun z => by
          have := hb1.2.1
          rw [z, h1.2 k ⟨hk.1, by omega⟩, decide_eq_true (rfl : k = k), Bool.or_true] at this
          exact absurd this (by simp))
        have := cnt_5 (bOr (M 24 1) (bShl 1 k))
        omega
    | succ n ih =>
      intro h s h0 hh b
      have hhs : hs h := ⟨h0, by omega⟩
      refine g_ct_nextWave_4 _ _ _ _ _ ⟨⟨by omega, by omega⟩, ⟨by omega, by omega⟩, fun q => absurd q (by omega), fun _ => ct_fell (ms32 hf.1) ⟨h0, by omega⟩ ⟨b2i_R _, fun c => ?_, fun c => ct_wealth V.1 hhs hw ⟨hhs, ?_⟩⟩⟩
      · exact ih (h + 1) s (by omega) (by omega) (b.skip fun z => by rw [z.1] at c; exact absurd rfl c)
      · rw [b2i_0] at c
        rw [eX h, V.2.2.1 h hhs]
        have b1 := wth_b O hW.1 hY hhs
        have d0 := xd_b V.1.1 hhs (c := 0) (by decide); have d1 := xd_b V.1.1 hhs (c := 1) (by decide); have d2 := xd_b V.1.1 hhs (c := 2) (by decide)
        have ds : 0 ≤ (s3 fun c => xd M h c) ∧ (s3 fun c => xd M h c) ≤ 240 := by simp only [s3]; omega
        have b2 : 0 ≤ M 24 14 * (s3 fun c => xd M h c) ∧ M 24 14 * (s3 fun c => xd M h c) ≤ M 24 14 * 240 := ⟨Int.mul_nonneg hW.1 ds.1, Int.mul_le_mul_of_nonneg_left ds.2 hW.1⟩
        have hfl : fl (ct_g M) (ct_Y M) (M 24 14) h ↔ ¬ M 24 14 * (s3 fun c => xd M h c) ≤ wth (ct_g M) (ct_Y M) (M 24 14) h := by
          show wth (ct_g M) (ct_Y M) (M 24 14) h < (s3 fun c => xd M h c) * M 24 14 ↔ _
          rw [Int.mul_comm (s3 fun c => xd M h c)]
          omega
        refine ⟨⟨by omega, by omega⟩, ⟨by omega, by omega⟩, ⟨by omega, by omega⟩, fun c2 => ?_, fun c2 => ?_⟩
        · exact ih (h + 1) s (by omega) (by omega) (b.skip fun z => (hfl.mp z.2) c2)
        · exact ih (h + 1) _ (by omega) (by omega) (b.take ⟨c, hfl.mpr c2⟩ ⟨h0, by omega⟩)
  exact c_ct_nextWave (K + 2) M Q (l4 (M 1 0).toNat 0 0 (by decide) (by omega) (Bs.zero _))
