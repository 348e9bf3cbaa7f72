/-! THE CLASS's coins: all steps -/
def CoV (M : PM) : Prop := ∃ N : Nat, Wlk (cp_g M) N ∧ M 37 0 = (N : Int) ∧ CE (xP M) (cit (cp_g M) N) ∧ ∀ h, hs h → h < M 1 0 → M 38 h = cgt (cit (cp_g M) N) h
theorem xb_ok {M : PM} (B : XB M) : Okc (cp_g M) := cp_ok ⟨B, fun h hh => by have := B.2.2.2.1 h hh; omega⟩
theorem cit_out {M : PM} (B : XB M) (n : Nat) {h t c : Int} (hh : hs h) (ht : hs t) (hc : kl c) (hl : M 1 0 ≤ h ∨ M 1 0 ≤ t) : cit (cp_g M) n h t c = 0 :=
  cit_z (xb_ok B) n hh ht hc (B.2.2.2.2.2.2.2 h t c hh ht hc hl)
theorem xPz_cit {M M1 : PM} (B : XB M) (h1 : M1 1 = M 1) {n : Nat} (hc : CE (xP M1) (cit (cp_g M) n)) : xPz M1 := by
  intro h t c hh ht hk
  have e := hc h t c hh ht hk
  have b := (cit_ok (xb_ok B) n).1 h t c hh ht hk
  have b2 := (B.2.2.2.2.1 h t c hh ht hk).2
  have b3 : ckO (cp_g M) h t c ≤ 20 := b2
  rw [e, h1]
  exact ⟨⟨by omega, by omega⟩, fun z => cit_out B n hh ht hk z⟩
theorem co_walk {K : Nat} {M : PM} {Q : Option PV → PM → Prop} (B : XB M) (hq : ∀ M', Ag [37, 38, 39] M M' → CoV M' → Q none M') : Call (K + 6) jCoins_walk [.inr (.inr 37)] P0 P0 M Q := by
  have hn := B.1
  have O := xb_ok B
  have loop : ∀ (k n : Nat) (M1 : PM), n + k = 1501 → Ag [37, 38, 39] M M1 → CE (xP M1) (cit (cp_g M) n) → M1 37 0 = (n : Int) → (∀ i, i < n → ¬ CE (cit (cp_g M) (i + 1)) (cit (cp_g M) i)) → G none (K + 5 + 1) jCoins_walk 28 [(0, .inr (.inr 37)), (1, .inl (n : Int))] [] P0 P0 M1 Q := by
    intro k
    induction k with
    | zero =>
      intro n M1 hn1 _ _ _ hne
      have := cit_few O hne
      have := csm_nn O n
      omega
    | succ k ih =>
      intro n M1 hn1 hA hP h37 hne
      have e1 : M1 1 = M 1 := hA 1 (by decide)
      have e2 : M1 2 = M 2 := hA 2 (by decide)
      have e3 : M1 3 = M 3 := hA 3 (by decide)
      have B1 : XB M1 := B.of e1 e2 e3
      have z1 := xPz_cit B e1 hP
      have fin : (∀ h t c, hs h → hs t → kl c → h < M 1 0 → cit (cp_g M) (n + 1) h t c = cit (cp_g M) n h t c) → CE (cit (cp_g M) (n + 1)) (cit (cp_g M) n) := fun x h t c hh ht hc => by
        by_cases q : h < M 1 0
        · exact x h t c hh ht hc q
        · rw [cit_out B (n + 1) hh ht hc (Or.inl (by omega)), cit_out B n hh ht hc (Or.inl (by omega))]
      refine g_co_walk_28 _ _ _ _ ⟨⟨by omega, by omega⟩, fun q => absurd q (by omega), fun _ => co_takeIn B1 z1 (fun M2 hA2 hI2 => ?_)⟩
      rw [e1] at hI2
      have hg2 : ∀ h, hs h → h < M 1 0 → M2 38 h = cgt (cit (cp_g M) n) h := fun h hh hl => by rw [hI2 h hh hl, cgt_ce hP hh]
      have l43 : ∀ (m : Nat) (h : Int) (b : Bool) (M3 : PM), 0 ≤ h → h + (m : Int) = M 1 0 → Ag [39] M2 M3 → (∀ a t c, hs a → hs t → kl c → a < h → xP M3 a t c = cit (cp_g M) (n + 1) a t c) → (∀ a t c, hs a → hs t → kl c → h ≤ a → xP M3 a t c = cit (cp_g M) n a t c) →
          (b = false ↔ ∀ a t c, hs a → hs t → kl c → a < h → cit (cp_g M) (n + 1) a t c = cit (cp_g M) n a t c) → G none (K + 5 + 1) jCoins_walk 43 [(0, .inr (.inr 37)), (1, .inl (n : Int)), (2, .inl (b2i b)), (3, .inl h)] [] P0 P0 M3 Q := by
        intro m
        induction m with
        | zero =>
          intro h b M3 h0 hh hA3 hd hu hb
          have hhn : h = M 1 0 := by omega
          have f1 : M3 1 = M 1 := by rw [hA3 1 (by decide), hA2 1 (by decide), e1]
          have f37 : M3 37 = M1 37 := by rw [hA3 37 (by decide), hA2 37 (by decide)]
          have hP3 : CE (xP M3) (cit (cp_g M) (n + 1)) := fun a t c ha ht hc => by
            by_cases q : a < h
            · exact hd a t c ha ht hc q
            · rw [hu a t c ha ht hc (by omega), cit_out B (n + 1) ha ht hc (Or.inl (by omega)), cit_out B n ha ht hc (Or.inl (by omega))]
          refine g_co_walk_43 _ _ _ _ _ _ ⟨⟨by omega, by omega⟩, by rw [f1]; exact ⟨by omega, by omega⟩, fun _ => ⟨b2i_R _, fun c => ?_, fun c => ?_⟩, fun q => absurd (by rw [f1]; omega) q⟩
          · have c' := b2i_n0 c
            have := ih (n + 1) (mset M3 37 0 (M3 37 0 + 1)) (by omega) (((hA.tr (hA2.mono (by decide))).tr (hA3.mono (by decide))).set (by decide)) (fun a t c ha ht hc => by
              show (mset M3 37 0 (M3 37 0 + 1)) 39 _ = _
              rw [mset_ne (by decide)]
              exact hP3 a t c ha ht hc) (by rw [mset_eq, f37, h37, Int.natCast_succ]) (fun i hi => ?_)
            · rw [Int.natCast_succ] at this
              exact this
            · by_cases y : i = n
              · rw [y]
                intro z
                have := hb.mpr (fun a t c ha ht hc _ => z a t c ha ht hc)
                rw [c'] at this
                exact absurd this (by simp)
              · exact hne i (by omega)
          · rw [b2i_0] at c
            have hce := fin (fun a t c' ha ht hc hl => hb.mp c a t c' ha ht hc (by omega))
            have eg : cp_g M3 = cp_g M := cp_g_of f1 (by rw [hA3 2 (by decide), hA2 2 (by decide), e2]) (by rw [hA3 3 (by decide), hA2 3 (by decide), e3])
            refine hq M3 ((hA.tr (hA2.mono (by decide))).tr (hA3.mono (by decide))) ⟨n, ?_, by rw [f37, h37], ?_, fun a ha hl => ?_⟩
            · rw [eg]; exact ⟨hce, hne⟩
            · rw [eg]; exact hP3.trans hce
            · rw [eg, hA3 38 (by decide)]
              rw [f1] at hl
              exact hg2 a ha hl
        | succ m ih2 =>
          intro h b M3 h0 hh hA3 hd hu hb
          have hhs : hs h := ⟨h0, by omega⟩
          have f1 : M3 1 = M 1 := by rw [hA3 1 (by decide), hA2 1 (by decide), e1]
          have f2 : M3 2 = M 2 := by rw [hA3 2 (by decide), hA2 2 (by decide), e2]
          have f3 : M3 3 = M 3 := by rw [hA3 3 (by decide), hA2 3 (by decide), e3]
          have B3 : XB M3 := B.of f1 f2 f3
          have eg : cp_g M3 = cp_g M := cp_g_of f1 f2 f3
          have z3 : xPz M3 := by
            intro a t c ha ht hc
            have bb := (B.2.2.2.2.1 a t c ha ht hc).2
            have bb' : ckO (cp_g M) a t c ≤ 20 := bb
            rw [f1]
            by_cases q : a < h
            · rw [hd a t c ha ht hc q]
              have := (cit_ok O (n + 1)).1 a t c ha ht hc
              exact ⟨⟨by omega, by omega⟩, fun w => cit_out B (n + 1) ha ht hc w⟩
            · rw [hu a t c ha ht hc (by omega)]
              have := (cit_ok O n).1 a t c ha ht hc
              exact ⟨⟨by omega, by omega⟩, fun w => cit_out B n ha ht hc w⟩
          have e38 : M3 38 h = cgt (cit (cp_g M) n) h := by rw [hA3 38 (by decide)]; exact hg2 h hhs (by omega)
          have hgb := cgt_b O n hhs
          refine g_co_walk_43 _ _ _ _ _ _ ⟨⟨by omega, by omega⟩, by rw [f1]; exact ⟨by omega, by omega⟩, fun q => absurd q (by rw [f1]; omega), fun _ => co_payOut B3 z3 hhs (by rw [e38]; exact hgb) (fun M4 b4 hA4 hp4 ho4 hb4 => ?_)⟩
          rw [eg, e38] at hp4 hb4
          have nx : ∀ b', (b' = false ↔ b = false ∧ b4 = false) → G none (K + 5 + 1) jCoins_walk 43 [(0, .inr (.inr 37)), (1, .inl (n : Int)), (2, .inl (b2i b')), (3, .inl (h + 1))] [] P0 P0 M4 Q := by
            intro b' hb'
            refine ih2 (h + 1) b' M4 (by omega) (by omega) (hA3.tr (hA4.mono (by decide))) (fun a t c ha ht hc hl => ?_) (fun a t c ha ht hc hl => ?_) ?_
            · by_cases y : a = h
              · rw [y]; exact hp4 t c ht hc
              · rw [ho4 a t c ha ht hc y]; exact hd a t c ha ht hc (by omega)
            · rw [ho4 a t c ha ht hc (by omega)]; exact hu a t c ha ht hc (by omega)
            · rw [hb', hb, hb4]
              constructor
              · rintro ⟨x, y⟩ a t c ha ht hc hl
                by_cases w : a = h
                · rw [w]
                  have := y t c ht hc
                  rw [hu h t c hhs ht hc (Int.le_refl _)] at this
                  exact this
                · exact x a t c ha ht hc (by omega)
              · intro x
                refine ⟨fun a t c ha ht hc hl => x a t c ha ht hc (by omega), fun t c ht hc => ?_⟩
                rw [hu h t c hhs ht hc (Int.le_refl _)]
                exact x h t c hhs ht hc (by omega)
          refine ⟨b2i_R _, fun c => ?_, fun c => ⟨b2i_R _, fun c2 => ?_, fun c2 => ?_⟩⟩
          · have := nx true (by rw [b2i_n0 c]; simp)
            exact this
          · have := nx false (by rw [b2i_0.mp c, b2i_0.mp c2]; simp)
            exact this
          · have := nx true (by rw [b2i_n0 c2]; simp)
            exact this
      have := l43 (M 1 0).toNat 0 false M2 (by decide) (by omega) (Ag.rf _ _) (fun a t c ha ht hc hl => by have := ha.1; omega) (fun a t c ha ht hc _ => by
        show M2 39 _ = _
        rw [hA2 39 (by decide)]
        exact hP a t c ha ht hc) ⟨fun _ a t c ha ht hc hl => by have := ha.1; omega, fun _ => rfl⟩
      exact this
  refine c_co_walk (K + 5) M Q ?_
  have := loop 1501 0 (mset (mcpy M 3 39 75) 37 0 0) (by decide) ?_ (fun h t c hh ht hc => ?_) mset_eq (fun i hi => absurd hi (by omega))
  · exact this
  · intro a ha
    rw [mset_ne (fun z => ha (by rw [z]; decide)), mcpy_ne (fun z => ha (by rw [z]; decide))]
  · show (mset (mcpy M 3 39 75) 37 0 0) 39 _ = xo M h t c
    rw [mset_ne (by decide)]
    unfold mcpy
    rw [if_pos ⟨rfl, by have := hh.2; have := ht.2; have := hc.2; omega⟩]
    rfl
theorem co_shortBits {K : Nat} {M : PM} {Q : Option PV → PM → Prop} (B : XB M) (hi : ∀ h, hs h → h < M 1 0 → 0 ≤ M 38 h ∧ M 38 h ≤ 300)
    (hq : ∀ s, 0 ≤ s ∧ s < 32 → (∀ h, hs h → (tb s h = true ↔ (h < M 1 0 ∧ M 2 h + M 38 h < s3 fun c => xd M h c))) → Q (some (.inl s)) M) : Call (K + 5) jCoins_shortBits [.inr (.inr 37)] P0 P0 M Q := by
  have hn := B.1
  have loop : ∀ (n : Nat) (h s : Int), 0 ≤ h → h + (n : Int) = M 1 0 → Bs s h (fun h => M 2 h + M 38 h < s3 fun c => xd M h c) → G none (K + 4 + 1) jCoins_shortBits 4 [(0, .inr (.inr 37)), (1, .inl s), (2, .inl h)] [] P0 P0 M Q := by
    intro n
    induction n with
    | zero =>
      intro h s h0 hh b
      refine g_co_shortBits_4 _ _ _ _ _ ⟨⟨by omega, by omega⟩, ⟨by omega, by omega⟩, fun _ => hq s (b.fin (by omega)) (fun k hk => by rw [b.at hk, show h = M 1 0 by omega]), fun q => absurd (by omega) q⟩
    | succ n ih =>
      intro h s h0 hh b
      have hhs : hs h := ⟨h0, by omega⟩
      refine g_co_shortBits_4 _ _ _ _ _ ⟨⟨by omega, by omega⟩, ⟨by omega, by omega⟩, fun q => absurd q (by omega), fun _ => co_isShort B hhs (hi h hhs (by omega)) ⟨b2i_R _, fun c => ?_, fun c => ?_⟩⟩
      · exact ih (h + 1) s (by omega) (by omega) (b.skip (of_decide_eq_false (b2i_0.mp c)))
      · exact ih (h + 1) _ (by omega) (by omega) (b.take (of_decide_eq_true (b2i_n0 c)) ⟨h0, by omega⟩)
  exact c_co_shortBits (K + 4) M Q (loop (M 1 0).toNat 0 0 (by decide) (by omega) (Bs.zero _))
/-- what is lost with a house -/
def wst (g : Ck) (x h : Int) : Int := if ckC g h + x < (s3 fun c => due g h c) then ckC g h + x - Int.tdiv (ckA g * ckC g h + ckB g * x) 10 else 0
theorem co_waste {K : Nat} {M : PM} {Q : Option PV → PM → Prop} (B : XB M) (hi : ∀ h, hs h → h < M 1 0 → 0 ≤ M 38 h ∧ M 38 h ≤ 300)
    (hq : Q (some (.inl (pcs (fun h => wst (cp_g M) (M 38 h) h) (M 1 0).toNat))) M) : Call (K + 5) jCoins_waste [.inr (.inr 37)] P0 P0 M Q := by
  have hn := B.1
  have loop : ∀ (n : Nat) (h v : Int), 0 ≤ h → h + (n : Int) = M 1 0 → v = pcs (fun h => wst (cp_g M) (M 38 h) h) h.toNat → G none (K + 4 + 1) jCoins_waste 4 [(0, .inr (.inr 37)), (1, .inl v), (2, .inl h)] [] P0 P0 M Q := by
    intro n
    induction n with
    | zero =>
      intro h v h0 hh hv
      refine g_co_waste_4 _ _ _ _ _ ⟨⟨by omega, by omega⟩, ⟨by omega, by omega⟩, fun _ => ?_, fun q => absurd (by omega) q⟩
      rw [hv, show h = M 1 0 by omega]
      exact hq
    | succ n ih =>
      intro h v h0 hh hv
      have hhs : hs h := ⟨h0, by omega⟩
      refine g_co_waste_4 _ _ _ _ _ ⟨⟨by omega, by omega⟩, ⟨by omega, by omega⟩, fun q => absurd q (by omega), fun _ => co_isShort B hhs (hi h hhs (by omega)) ⟨b2i_R _, fun c => ?_, fun c => ⟨hhs, co_rest B hhs (hi h hhs (by omega)) ?_⟩⟩⟩
      · refine ih (h + 1) v (by omega) (by omega) ?_
        have e : wst (cp_g M) (M 38 h) h = 0 := if_neg (of_decide_eq_false (b2i_0.mp c))
        rw [hv, pcs_up _ h0, e]
        omega
      · refine ih (h + 1) _ (by omega) (by omega) ?_
        have e : wst (cp_g M) (M 38 h) h = M 2 h + M 38 h - Int.tdiv (M 1 1 * M 2 h + M 1 2 * M 38 h) 10 := if_pos (of_decide_eq_true (b2i_n0 c))
        rw [hv, pcs_up _ h0, e]
  exact c_co_waste (K + 4) M Q (loop (M 1 0).toNat 0 0 (by decide) (by omega) rfl)
