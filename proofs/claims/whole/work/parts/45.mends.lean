/-! THE MODEL's endsEarlier: those that can't pay whole what they should end in an earlier class -/
def Erl (M : PM) (F : Int → Bool) (h : Int) : Prop := F h = true ∧ h ∉ osM M ∧ by_ (gM M) (M 62) (osM M) (M 66) (M 52 21) h < 0
def Lowd (M M' : PM) (F : Int → Bool) (h : Int) : Prop := (Erl M F h → (0 ≤ M' 62 h ∧ M' 62 h < M 62 h) ∧ md M h (M' 62 h) ≠ 0 ∧ ∀ c, M' 62 h < c → c < M 62 h → md M h c = 0) ∧ (¬ Erl M F h → M' 62 h = M 62 h)
theorem erl_ex {M : PM} {F : Int → Bool} (S : MS M) (O : OpM M F) (hW : 0 < M 52 21) (hp : ∀ h ∈ osM M, 0 ≤ M 66 h) {h : Int} (hh : hs h) (E : Erl M F h) : ∃ c, kl c ∧ c < M 62 h ∧ md M h c ≠ 0 := by
  rcases Classical.em (∃ c, kl c ∧ c < M 62 h ∧ md M h c ≠ 0) with q | q
  · exact q
  · exfalso
    have B := S.1
    have hno : ∀ c, kl c → c < M 62 h → md M h c = 0 := fun c hc hl => by
      rcases Classical.em (md M h c = 0) with z | z
      · exact z
      · exact absurd ⟨c, hc, hl, z⟩ q
    have h1 : pcs (fun c => md M h c) (M 62 h).toNat = 0 := by
      rw [pcs_s3 (S.2.2 h hh)]
      rw [s3_congr (g := fun _ => 0) (fun c hc => by
        by_cases z : c < M 62 h
        · rw [if_pos z, hno c hc z]
        · rw [if_neg z])]
      rfl
    have hb := bs_pcs S hh
    have h2 : 0 ≤ M 55 1 * M 61 h := Int.mul_nonneg B.2.1.1 (S.2.1 h hh).1
    have h3 : 0 ≤ M 55 2 * s5 (fun k => pcs (fun c => mo M k h c) (M 62 k).toNat) := Int.mul_nonneg B.2.2.1.1 (s5_nn fun k hk => (pcs_b (a := 20) _ (fun c' h0 h1 => B.2.2.2.2.1 k h c' hk hh ⟨h0, by have := S.2.2 k hk; omega⟩)).1)
    have h4 : 0 ≤ s5 (fun k => if Inl (osM M) k = true then AA (gM M) (M 62) k h * M 66 k else 0) := s5_nn fun k hk => by
      show 0 ≤ (if Inl (osM M) k = true then _ else (0 : Int))
      split
      · rename_i hm
        exact Int.mul_nonneg ((flw (gM_ok B S.2.1) S.2.2).1 k h hk hh) (hp k (Inl_mem.mp hm))
      · omega
    have h5 := E.2.2
    unfold by_ at h5
    have h6 : 0 ≤ bs (gM M) (M 62) h * M 52 21 := Int.mul_nonneg (by rw [hb, h1]; omega) (Int.le_of_lt hW)
    omega
theorem m_endsEarlier {K : Nat} {M : PM} {F : Int → Bool} {Q : Option PV → PM → Prop} (S : MS M) (hf : 0 ≤ M 52 13 ∧ M 52 13 < 32) (hF : ∀ h, hs h → F h = (tb (M 52 13) h && decide (h < M 55 0))) (O : OpM M F) (hW : 0 < M 52 21 ∧ M 52 21 ≤ 327680000000000) (hp : ∀ h ∈ osM M, 0 ≤ M 66 h ∧ M 66 h ≤ M 52 21)
    (hq0 : (∀ h, hs h → ¬ Erl M F h) → Q (some (.inl 0)) M) (hq1 : ∀ M', Ag [62] M M' → (∃ h, hs h ∧ Erl M F h) → (∀ h, hs h → Lowd M M' F h) → Q (some (.inl 1)) M') : Call (K + 6) jModel_endsEarlier [.inr (.inr 52)] P0 P0 M Q := by
  have B := S.1
  have hn := B.1
  have hm := O.1
  have hFn : ∀ h, hs h → F h = true → h < M 55 0 := fun h hh hz => by
    have := hF h hh
    rw [hz] at this
    have := this.symm
    simp only [Bool.and_eq_true, decide_eq_true_eq] at this
    exact this.2
  have l4 : ∀ (n2 : Nat) (h st : Int), 0 ≤ h → h + (n2 : Int) = M 55 0 → ms st → (∀ k, mk6 k → (tb st k = true ↔ (k < h ∧ Erl M F k))) →
      (∀ st', ms st' → (∀ k, mk6 k → (tb st' k = true ↔ (k < M 55 0 ∧ Erl M F k))) → G none (K + 5 + 1) jModel_endsEarlier 61 [(0, .inr (.inr 52)), (1, .inl st'), (2, .inl 0)] [] P0 P0 M Q) →
      G none (K + 5 + 1) jModel_endsEarlier 4 [(0, .inr (.inr 52)), (1, .inl st), (2, .inl h)] [] P0 P0 M Q := by
    intro n2
    induction n2 with
    | zero =>
      intro h st h0 hn2 hms htb go
      exact g_m_endsEarlier_4 _ _ _ _ _ ⟨⟨by omega, by omega⟩, ⟨by omega, by omega⟩, fun _ => go st hms (by rw [← show h = M 55 0 by omega]; exact htb), fun q => absurd (by omega) q⟩
    | succ n2 ih2 =>
      intro h st h0 hn2 hms htb go
      have hh : hs h := ⟨h0, by omega⟩
      have hor0 : bOr st 0 = st := by
        have h1 := bit_or hms (t := 0) ⟨by decide, by decide⟩
        refine bit_ext h1.1 hms fun j hj => ?_
        rw [h1.2 j hj, tb_0, Bool.or_false]
      have hskip : ¬ Erl M F h → G none (K + 5 + 1) jModel_endsEarlier 4 [(0, .inr (.inr 52)), (1, .inl (bOr st 0)), (2, .inl (h + 1))] [] P0 P0 M Q := by
        intro hno
        rw [hor0]
        refine ih2 (h + 1) st (by omega) (by omega) hms (fun k hk => ?_) go
        rw [htb k hk]
        constructor
        · rintro ⟨a, b⟩; exact ⟨by omega, b⟩
        · rintro ⟨a, b⟩
          refine ⟨?_, b⟩
          rcases Int.lt_or_le k h with z | z
          · exact z
          · exact absurd (show k = h by omega) (fun w => hno (w ▸ b))
      have htake : Erl M F h → G none (K + 5 + 1) jModel_endsEarlier 4 [(0, .inr (.inr 52)), (1, .inl (bOr st (bShl 1 h))), (2, .inl (h + 1))] [] P0 P0 M Q := by
        intro hyes
        have h1 := bit_one (k := h) ⟨h0, by omega⟩
        have h2 := bit_or hms h1.1
        refine ih2 (h + 1) _ (by omega) (by omega) h2.1 (fun k hk => ?_) go
        rw [h2.2 k hk, h1.2 k hk, Bool.or_eq_true, decide_eq_true_eq, htb k hk]
        constructor
        · rintro (⟨a, b⟩ | a)
          · exact ⟨by omega, b⟩
          · rw [a]; exact ⟨by omega, hyes⟩
        · rintro ⟨a, b⟩
          rcases Int.lt_or_le k h with z | z
          · exact Or.inl ⟨z, b⟩
          · exact Or.inr (by omega)
      have hFh : F h = tb (M 52 13) h := by rw [hF h hh, decide_eq_true (show h < M 55 0 by omega), Bool.and_true]
      refine g_m_endsEarlier_4 _ _ _ _ _ ⟨⟨by omega, by omega⟩, ⟨by omega, by omega⟩, fun q => absurd q (by omega), fun _ => m_isIn ⟨by omega, by omega⟩ ⟨by omega, by omega⟩ ⟨b2i_R _, fun c1 => hskip (fun w => ?_), fun c1 => ?_⟩⟩
      · rw [← hFh, b2i_0] at c1; have := w.1; rw [c1] at this; exact absurd this (by simp)
      · have hFt : F h = true := by
          rw [hFh]
          cases q : tb (M 52 13) h
          · rw [q] at c1; exact absurd rfl c1
          · rfl
        refine m_isOpen hm (fun i h1 h2 => by have := O.v h1 h2; exact ⟨by omega, by omega⟩) ⟨by omega, by omega⟩ ⟨b2i_R _, fun c3 => hskip (fun w => ?_), fun c3 => ?_⟩
        · have : Inl (osM M) h = true := by
            cases q : Inl (osM M) h
            · rw [q] at c3; exact absurd rfl c3
            · rfl
          exact w.2.1 (Inl_mem.mp this)
        · have hno : h ∉ osM M := fun w => by rw [Inl_mem.mpr w] at c3; exact absurd c3 (by decide)
          refine m_beyondAll S O hh ?_
          exact ⟨by_R S O.2 hW hp hh, fun c4 => hskip (fun w => by have := w.2.2; omega), fun c4 => htake ⟨hFt, hno, by omega⟩⟩
  refine c_m_endsEarlier (K + 5) M Q (l4 (M 55 0).toNat 0 0 (by omega) (by omega) ⟨by decide, by decide⟩ (fun k hk => by rw [tb_0]; exact ⟨fun w => absurd w (by simp), fun w => absurd w.1 (by have := hk.1; omega)⟩) (fun st hms htb => ?_))
  -- the levels are lowered
  have hErn : ∀ k, Erl M F k → hs k → k < M 55 0 := fun k hE hk => hFn k hk hE.1
  have l61 : ∀ (n2 : Nat) (h : Int) (M1 : PM), 0 ≤ h → h + (n2 : Int) = M 55 0 → Ag [62] M M1 → (∀ k, hs k → k < h → Lowd M M1 F k) → (∀ k, hs k → h ≤ k → M1 62 k = M 62 k) → (st = 0 → M1 = M) →
      G none (K + 5 + 1) jModel_endsEarlier 61 [(0, .inr (.inr 52)), (1, .inl st), (2, .inl h)] [] P0 P0 M1 Q := by
    intro n2
    induction n2 with
    | zero =>
      intro h M1 h0 hn2 hA hlow hsame hz
      have h55 : M1 55 = M 55 := hA 55 (by decide)
      refine g_m_endsEarlier_61 _ _ _ _ _ ⟨⟨by omega, by omega⟩, by rw [h55]; exact ⟨by omega, by omega⟩, fun _ => ⟨⟨by omega, by omega⟩, fun c => ?_, fun c => ?_⟩, fun q => absurd (by rw [h55]; omega) q⟩
      · rw [hz c]
        refine hq0 fun k hk hE => ?_
        have := (htb k ⟨hk.1, by omega⟩).mpr ⟨hErn k hE hk, hE⟩
        rw [c, tb_0] at this
        exact absurd this (by simp)
      · refine hq1 M1 hA ?_ (fun k hk => ?_)
        · rcases Classical.em (∃ h, hs h ∧ Erl M F h) with w | w
          · exact w
          · exfalso
            refine c (bit_ext hms ⟨by decide, by decide⟩ fun j hj => ?_)
            rw [tb_0]
            cases q : tb st j
            · rfl
            · have := (htb j hj).mp q
              exact absurd ⟨j, ⟨hj.1, by omega⟩, this.2⟩ w
        · rcases Int.lt_or_le k h with w | w
          · exact hlow k hk w
          · refine ⟨fun hE => ?_, fun _ => hsame k hk w⟩
            have := hErn k hE hk
            omega
    | succ n2 ih2 =>
      intro h M1 h0 hn2 hA hlow hsame hz
      have hh : hs h := ⟨h0, by omega⟩
      have h55 : M1 55 = M 55 := hA 55 (by decide)
      refine g_m_endsEarlier_61 _ _ _ _ _ ⟨⟨by omega, by omega⟩, by rw [h55]; exact ⟨by omega, by omega⟩, fun q => absurd q (by rw [h55]; omega), fun _ => m_isIn hms ⟨by omega, by omega⟩ ⟨b2i_R _, fun c1 => ?_, fun c1 => ?_⟩⟩
      · rw [b2i_0] at c1
        have hnE : ¬ Erl M F h := fun hE => by
          have := (htb h ⟨h0, by omega⟩).mpr ⟨hErn h hE hh, hE⟩
          rw [c1] at this
          exact absurd this (by simp)
        refine ih2 (h + 1) M1 (by omega) (by omega) hA (fun k hk hl => ?_) (fun k hk hl => hsame k hk (by omega)) hz
        by_cases q : k = h
        · rw [q]; exact ⟨fun hE => absurd hE hnE, fun _ => hsame h hh (Int.le_refl h)⟩
        · exact hlow k hk (by omega)
      · have ht : tb st h = true := by
          cases q : tb st h
          · rw [q] at c1; exact absurd rfl c1
          · rfl
        have hE := ((htb h ⟨h0, by omega⟩).mp ht).2
        have hst0 : st ≠ 0 := fun z => by rw [z, tb_0] at ht; exact absurd ht (by simp)
        obtain ⟨c0, hc0, hc1, hc2⟩ := erl_ex S O hW.1 (fun h hm => (hp h hm).1) hh hE
        have hL := S.2.2 h hh
        have hMh := hsame h hh (Int.le_refl h)
        refine ⟨hh, ?_⟩
        -- down to a class with something due
        have l89 : ∀ (n3 : Nat) (M2 : PM), Ag [62] M M2 → (∀ k, hs k → k < h → Lowd M M2 F k) → (∀ k, hs k → h < k → M2 62 k = M 62 k) → c0 ≤ M2 62 h → M2 62 h ≤ (n3 : Int) → M2 62 h < M 62 h → (∀ c, M2 62 h < c → c < M 62 h → md M h c = 0) →
            G none (K + 5 + 1) jModel_endsEarlier 89 [(0, .inr (.inr 52)), (1, .inl st), (2, .inl h)] [] P0 P0 M2 Q := by
          intro n3
          induction n3 with
          | zero =>
            intro M2 hA2 hl2 hs2 hc3 hc4 hc5 hz2
            have h55 : M2 55 = M 55 := hA2 55 (by decide)
            have hk : kl (M2 62 h) := ⟨by have := hc0.1; omega, by omega⟩
            have hd := md_b B hh hk
            refine g_m_endsEarlier_89 _ _ _ _ _ ⟨hh, m_due hh hk ?_⟩
            rw [md_of h55]
            have he : M2 62 h = c0 := by have := hc0.1; omega
            refine ⟨⟨by omega, by omega⟩, fun _ => ?_, fun c => absurd c (by rw [he]; exact hc2)⟩
            refine ih2 (h + 1) M2 (by omega) (by omega) hA2 (fun k hk' hl => ?_) (fun k hk' hl => hs2 k hk' (by omega)) (fun z => absurd z hst0)
            by_cases q : k = h
            · rw [q]; exact ⟨fun _ => ⟨⟨hk.1, hc5⟩, by rw [he]; exact hc2, hz2⟩, fun w => absurd hE w⟩
            · exact hl2 k hk' (by omega)
          | succ n3 ih3 =>
            intro M2 hA2 hl2 hs2 hc3 hc4 hc5 hz2
            have h55 : M2 55 = M 55 := hA2 55 (by decide)
            have hk : kl (M2 62 h) := ⟨by have := hc0.1; omega, by omega⟩
            have hd := md_b B hh hk
            refine g_m_endsEarlier_89 _ _ _ _ _ ⟨hh, m_due hh hk ?_⟩
            rw [md_of h55]
            refine ⟨⟨by omega, by omega⟩, fun c => ?_, fun c => ?_⟩
            · refine ih2 (h + 1) M2 (by omega) (by omega) hA2 (fun k hk' hl => ?_) (fun k hk' hl => hs2 k hk' (by omega)) (fun z => absurd z hst0)
              by_cases q : k = h
              · rw [q]; exact ⟨fun _ => ⟨⟨hk.1, hc5⟩, c, hz2⟩, fun w => absurd hE w⟩
              · exact hl2 k hk' (by omega)
            · have hne : c0 ≠ M2 62 h := fun z => hc2 (by rw [z]; exact c)
              have e : (mset M2 62 h (M2 62 h - 1)) 62 h = M2 62 h - 1 := mset_eq
              have e2 : ∀ k, k ≠ h → (mset M2 62 h (M2 62 h - 1)) 62 k = M2 62 k := fun k hk' => by simp [mset, hk']
              refine ih3 _ (hA2.set (by decide)) (fun k hk' hl => ?_) (fun k hk' hl => by rw [e2 k (by omega)]; exact hs2 k hk' hl) (by rw [e]; omega) (by rw [e]; omega) (by rw [e]; omega) (fun c' h1 h2 => ?_)
              · have := hl2 k hk' hl
                unfold Lowd at this ⊢
                rw [e2 k (by omega)]
                exact this
              · rw [e] at h1
                by_cases q : c' = M2 62 h
                · rw [q]; exact c
                · exact hz2 c' (by omega) h2
        have e : (mset M1 62 h (M1 62 h - 1)) 62 h = M1 62 h - 1 := mset_eq
        have e2 : ∀ k, k ≠ h → (mset M1 62 h (M1 62 h - 1)) 62 k = M1 62 k := fun k hk' => by simp [mset, hk']
        refine l89 3 _ (hA.set (by decide)) (fun k hk' hl => ?_) (fun k hk' hl => by rw [e2 k (by omega)]; exact hsame k hk' (by omega)) (by rw [e]; omega) (by rw [e]; omega) (by rw [e]; omega) (fun c' h1 h2 => by rw [e] at h1; omega)
        have := hlow k hk' hl
        unfold Lowd at this ⊢
        rw [e2 k (by omega)]
        exact this
  exact l61 (M 55 0).toNat 0 M (by omega) (by omega) (Ag.rf _ _) (fun k hk hl => absurd hl (by have := hk.1; omega)) (fun _ _ _ => rfl) (fun _ => rfl)
