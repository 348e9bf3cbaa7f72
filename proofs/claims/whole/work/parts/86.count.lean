/-! CALLS: count -/
theorem pcs_cong {f g : Int → Int} : ∀ n : Nat, (∀ j : Int, 0 ≤ j → j < (n : Int) → f j = g j) → pcs f n = pcs g n
  | 0, _ => rfl
  | n + 1, h => by
    rw [pcs, pcs, pcs_cong n fun j a b => h j a (by omega), h (n : Int) (by omega) (by omega)]
theorem pcs_15 (f : Int → Int) (a : Nat) : pcs f (a + 15) = pcs f a + s5 fun t => s3 fun c => f ((a : Int) + (t * 3 + c)) := by
  simp [pcs, s5, s3]
  omega
theorem pcs_75 (f : Int → Int) : pcs f 75 = s5 fun h => s5 fun t => s3 fun c => f (d3 h t c) := by
  have e : ∀ h : Int, (s5 fun t => s3 fun c => f (d3 h t c)) = s5 fun t => s3 fun c => f (h * 15 + (t * 3 + c)) := fun h => by
    refine s5_congr fun t _ => s3_congr fun c _ => ?_
    unfold d3
    congr 1
    omega
  have h1 := pcs_15 f 0
  have h2 := pcs_15 f 15
  have h3 := pcs_15 f 30
  have h4 := pcs_15 f 45
  have h5 := pcs_15 f 60
  rw [show (75 : Nat) = 60 + 15 from rfl, h5, show (60 : Nat) = 45 + 15 from rfl, h4, show (45 : Nat) = 30 + 15 from rfl, h3, show (30 : Nat) = 15 + 15 from rfl, h2, show (15 : Nat) = 0 + 15 from rfl, h1, pcs]
  show _ = (s5 fun t => s3 fun c => f (d3 0 t c)) + (s5 fun t => s3 fun c => f (d3 1 t c)) + (s5 fun t => s3 fun c => f (d3 2 t c)) + (s5 fun t => s3 fun c => f (d3 3 t c)) + (s5 fun t => s3 fun c => f (d3 4 t c))
  rw [e, e, e, e, e]
  simp
theorem x_cashOfAll {K : Nat} {M : PM} {Q : Option PV → PM → Prop} (B : XB M) (hq : Q (some (.inl (s5 (M 2)))) M) : Call (K + 1) jBook_cashOfAll [.inr (.inr 1)] P0 P0 M Q := by
  have hn := B.1
  have loop : ∀ (n : Nat) (h v : Int), 0 ≤ h → h + (n : Int) = M 1 0 → v = pcs (M 2) h.toNat → G none (K + 1) jBook_cashOfAll 4 [(0, .inr (.inr 1)), (1, .inl v), (2, .inl h)] [] P0 P0 M Q := by
    intro n
    induction n with
    | zero =>
      intro h v h0 hh hv
      refine g_bk_cashOfAll_4 _ _ _ _ _ ⟨⟨by omega, by omega⟩, ⟨by omega, by omega⟩, fun _ => ?_, fun q => absurd (by omega) q⟩
      rw [hv, show h = M 1 0 by omega, pcs_n5 hn (fun k hk hk2 => B.2.2.2.2.2.2.1 k hk hk2)]
      exact hq
    | succ n ih =>
      intro h v h0 hh hv
      exact g_bk_cashOfAll_4 _ _ _ _ _ ⟨⟨by omega, by omega⟩, ⟨by omega, by omega⟩, fun q => absurd q (by omega), fun _ => ⟨⟨h0, by omega⟩, ih (h + 1) _ (by omega) (by omega) (by rw [hv, pcs_up _ h0])⟩⟩
  exact c_bk_cashOfAll K M Q (loop (M 1 0).toNat 0 0 (by decide) (by omega) rfl)
theorem x_dueOfAll {K : Nat} {M : PM} {Q : Option PV → PM → Prop} (B : XB M) (hq : Q (some (.inl (s5 fun h => s3 fun c => xd M h c))) M) : Call (K + 4) jBook_dueOfAll [.inr (.inr 1)] P0 P0 M Q := by
  have hn := B.1
  have loop : ∀ (n : Nat) (h v : Int), 0 ≤ h → h + (n : Int) = M 1 0 → v = pcs (fun h => s3 fun c => xd M h c) h.toNat → G none (K + 3 + 1) jBook_dueOfAll 4 [(0, .inr (.inr 1)), (1, .inl v), (2, .inl h)] [] P0 P0 M Q := by
    intro n
    induction n with
    | zero =>
      intro h v h0 hh hv
      refine g_bk_dueOfAll_4 _ _ _ _ _ ⟨⟨by omega, by omega⟩, ⟨by omega, by omega⟩, fun _ => ?_, fun q => absurd (by omega) q⟩
      rw [hv, show h = M 1 0 by omega, pcs_n5 hn (fun k hk hk2 => by
        have e : ∀ c, kl c → xd M k c = 0 := fun c hc => by
          unfold xd
          rw [s5_congr (g := fun _ => 0) (fun t ht => B.2.2.2.2.2.2.2 k t c hk ht hc (Or.inl hk2))]
          rfl
        simp only [s3]
        rw [e 0 (by decide), e 1 (by decide), e 2 (by decide)]
        rfl)]
      exact hq
    | succ n ih =>
      intro h v h0 hh hv
      exact g_bk_dueOfAll_4 _ _ _ _ _ ⟨⟨by omega, by omega⟩, ⟨by omega, by omega⟩, fun q => absurd q (by omega), fun _ => x_dueOf B ⟨h0, by omega⟩ (ih (h + 1) _ (by omega) (by omega) (by rw [hv, pcs_up _ h0]))⟩
  exact c_bk_dueOfAll (K + 3) M Q (loop (M 1 0).toNat 0 0 (by decide) (by omega) rfl)
theorem x_openDebts {K : Nat} {M : PM} {Q : Option PV → PM → Prop} (hb : ∀ j, 0 ≤ j → j < 75 → 0 ≤ M 3 j ∧ M 3 j ≤ 20) (hq : Q (some (.inl (pcs (fun j => if 0 < M 3 j then 1 else 0) 75))) M) : Call (K + 1) jBook_openDebts [.inr (.inr 1)] P0 P0 M Q := by
  have loop : ∀ (n : Nat) (j v : Int), 0 ≤ j → j + (n : Int) = 75 → v = pcs (fun j => if 0 < M 3 j then 1 else 0) j.toNat → G none (K + 1) jBook_openDebts 4 [(0, .inr (.inr 1)), (1, .inl v), (2, .inl j)] [] P0 P0 M Q := by
    intro n
    induction n with
    | zero =>
      intro j v j0 hj hv
      refine g_bk_openDebts_4 _ _ _ _ _ ⟨⟨by omega, by omega⟩, fun _ => ?_, fun q => absurd (by omega) q⟩
      rw [hv, show j.toNat = 75 by omega]
      exact hq
    | succ n ih =>
      intro j v j0 hj hv
      have b := hb j j0 (by omega)
      refine g_bk_openDebts_4 _ _ _ _ _ ⟨⟨by omega, by omega⟩, fun q => absurd q (by omega), fun _ => ⟨⟨j0, by omega⟩, ⟨by omega, by omega⟩, fun q => ih (j + 1) _ (by omega) (by omega) ?_, fun q => ih (j + 1) _ (by omega) (by omega) ?_⟩⟩
      · rw [hv, pcs_up _ j0, if_neg (by omega)]; omega
      · rw [hv, pcs_up _ j0, if_pos (by omega)]
  exact c_bk_openDebts K M Q (loop 75 0 0 (by decide) (by decide) rfl)
theorem m_cashOfAll {K : Nat} {M : PM} {Q : Option PV → PM → Prop} (hq : Q (some (.inl (s5 fun h => M 55 (3 + h)))) M) : Call (K + 1) jModel_cashOfAll [.inr (.inr 52)] P0 P0 M Q := by
  refine c_m_cashOfAll K M Q ?_
  refine g_m_cashOfAll_4 _ _ _ _ _ ⟨by decide, fun q => absurd q (by decide), fun _ => ⟨by decide, ?_⟩⟩
  refine g_m_cashOfAll_4 _ _ _ _ _ ⟨by decide, fun q => absurd q (by decide), fun _ => ⟨by decide, ?_⟩⟩
  refine g_m_cashOfAll_4 _ _ _ _ _ ⟨by decide, fun q => absurd q (by decide), fun _ => ⟨by decide, ?_⟩⟩
  refine g_m_cashOfAll_4 _ _ _ _ _ ⟨by decide, fun q => absurd q (by decide), fun _ => ⟨by decide, ?_⟩⟩
  refine g_m_cashOfAll_4 _ _ _ _ _ ⟨by decide, fun q => absurd q (by decide), fun _ => ⟨by decide, ?_⟩⟩
  refine g_m_cashOfAll_4 _ _ _ _ _ ⟨by decide, fun _ => ?_, fun q => absurd (by decide) q⟩
  have e : 0 + M 55 (3 + 0) + M 55 (3 + (0 + 1)) + M 55 (3 + (0 + 1 + 1)) + M 55 (3 + (0 + 1 + 1 + 1)) + M 55 (3 + (0 + 1 + 1 + 1 + 1)) = s5 fun h => M 55 (3 + h) := by
    simp [s5]
  rw [e]
  exact hq
theorem m_owedOfAll {K : Nat} {b : Bool} {M : PM} {Q : Option PV → PM → Prop} (hb : ∀ j, 0 ≤ j → j < 75 → 0 ≤ M 55 (8 + j) ∧ M 55 (8 + j) ≤ 20) (hq : Q (some (.inl (pcs (fun j => if b = true then mn2 1 (M 55 (8 + j)) else M 55 (8 + j)) 75))) M) : Call (K + 1) jModel_owedOfAll [.inr (.inr 52), .inl (b2i b)] P0 P0 M Q := by
  have loop : ∀ (n : Nat) (j v : Int), 0 ≤ j → j + (n : Int) = 75 → v = pcs (fun j => if b = true then mn2 1 (M 55 (8 + j)) else M 55 (8 + j)) j.toNat → G none (K + 1) jModel_owedOfAll 5 [(0, .inr (.inr 52)), (1, .inl (b2i b)), (2, .inl v), (3, .inl (8 + j))] [] P0 P0 M Q := by
    intro n
    induction n with
    | zero =>
      intro j v j0 hj hv
      refine g_m_owedOfAll_5 _ _ _ _ _ _ ⟨⟨by omega, by omega⟩, fun _ => ?_, fun q => absurd (by omega) q⟩
      rw [hv, show j.toNat = 75 by omega]
      exact hq
    | succ n ih =>
      intro j v j0 hj hv
      have bd := hb j j0 (by omega)
      have nx : G none (K + 1) jModel_owedOfAll 5 [(0, .inr (.inr 52)), (1, .inl (b2i b)), (2, .inl (v + (if b = true then mn2 1 (M 55 (8 + j)) else M 55 (8 + j)))), (3, .inl (8 + j + 1))] [] P0 P0 M Q := by
        rw [show 8 + j + 1 = 8 + (j + 1) by omega]
        exact ih (j + 1) _ (by omega) (by omega) (by rw [hv, pcs_up _ j0])
      refine g_m_owedOfAll_5 _ _ _ _ _ _ ⟨⟨by omega, by omega⟩, fun q => absurd q (by omega), fun _ => ⟨b2i_R _, fun q => ⟨⟨by omega, by omega⟩, ?_⟩, fun q => ⟨⟨by omega, by omega⟩, ⟨by omega, by omega⟩, ?_⟩⟩⟩
      · rw [if_neg (by rw [b2i_0.mp q]; simp)] at nx; exact nx
      · rw [if_pos (b2i_n0 q)] at nx; exact nx
  have := loop 75 0 0 (by decide) (by decide) rfl
  exact c_m_owedOfAll K (b2i b) M Q this
theorem b_count {K : Nat} {a : Int} {M : PM} {C : Int → Int → PM → Prop} (I : Iv M) (h1 : R32 a) (hq : Ok32 C) : Bi (K + 22) jClearingWaves_count [.inr (.inr 0), .inl a] jModel_count [.inr (.inr 52), .inl a] M C := by
  have B := I.1.xb
  have hn := I.1.n
  have B1 := B.1
  unfold Bi
  have d75 : ∀ j, 0 ≤ j → j < 75 → M 3 j = M 55 (8 + j) := fun j j0 j1 => by rw [I.1.2 _ (by omega) (by omega), I.1.1.2.2.2.2.2.2.1 j j0 j1]
  have b75 : ∀ j, 0 ≤ j → j < 75 → 0 ≤ M 3 j ∧ M 3 j ≤ 20 := fun j j0 j1 => by
    have := B.2.2.2.2.1 (j / 15) ((j / 3) % 5) (j % 3) ⟨by omega, by omega⟩ ⟨by omega, by omega⟩ ⟨by omega, by omega⟩
    unfold xo at this
    rw [show (((j / 15) * 5 + (j / 3) % 5) * 3) + j % 3 = j by omega] at this
    exact this
  have bm75 : ∀ j, 0 ≤ j → j < 75 → 0 ≤ M 55 (8 + j) ∧ M 55 (8 + j) ≤ 20 := fun j j0 j1 => by rw [← d75 j j0 j1]; exact b75 j j0 j1
  -- the model's road where nothing of a house is asked
  have pm : ∀ (Q : Option PV → PM → Prop), ¬ (10 ≤ a ∧ a ≤ 14) → ¬ (20 ≤ a ∧ a ≤ 34) → (((a < 0 ∨ 7 < a) → Q (some (.inl (-1))) M) ∧ (a = 0 → Q (some (.inl (M 55 0))) M) ∧ (a = 1 → Q (some (.inl (M 55 1))) M) ∧ (a = 2 → Q (some (.inl (M 55 2))) M) ∧ (a = 3 → Call (K + 21) jModel_cashOfAll [.inr (.inr 52)] P0 P0 M (retI fun r8 M9 => Q (some (.inl r8)) M9)) ∧ (a = 4 → Call (K + 21) jModel_owedOfAll [.inr (.inr 52), .inl 0] P0 P0 M (retI fun r10 M11 => Q (some (.inl r10)) M11)) ∧ (a = 5 → Q (some (.inl (M 52 6))) M) ∧ (a = 6 → Q (some (.inl (M 52 32))) M) ∧ (a = 7 → Call (K + 21) jModel_owedOfAll [.inr (.inr 52), .inl 1] P0 P0 M (retI fun r12 M13 => Q (some (.inl r12)) M13))) → Call (K + 22) jModel_count [.inr (.inr 52), .inl a] P0 P0 M Q :=
    fun Q n1 n2 go => c_m_count (K + 21) a M Q ⟨h1, m_within_n h1.R64 (by decide) (by decide) n1 ⟨by decide, fun _ => m_within_n h1.R64 (by decide) (by decide) n2 ⟨by decide, fun _ => go, fun z => absurd rfl z⟩, fun z => absurd rfl z⟩⟩
  have no : ∀ {p : Prop} {r : Prop}, ¬ p → p → r := fun n x => absurd x n
  by_cases p : a < 0 ∨ 7 < a
  · have xx : ∀ (Q : Option PV → PM → Prop), Call (K + 21) jClearingWaves_countOfHouse [.inr (.inr 0), .inl a] P0 P0 M (retI fun r2 M3 => Q (some (.inl r2)) M3) → Call (K + 22) jClearingWaves_count [.inr (.inr 0), .inl a] P0 P0 M Q :=
      fun Q go => c_x_count (K + 21) a M Q ⟨h1, fun _ => go, fun z => by omega, fun z => by omega, fun z => by omega, fun z => by omega, fun z => by omega, fun z => by omega, fun z => by omega, fun z => by omega⟩
    have nom : ∀ (Q : Option PV → PM → Prop), ¬ (10 ≤ a ∧ a ≤ 14) → ¬ (20 ≤ a ∧ a ≤ 34) → Q (some (.inl (-1))) M → Call (K + 22) jModel_count [.inr (.inr 52), .inl a] P0 P0 M Q :=
      fun Q n1 n2 go => pm Q n1 n2 ⟨fun _ => go, fun z => by omega, fun z => by omega, fun z => by omega, fun z => by omega, fun z => by omega, fun z => by omega, fun z => by omega, fun z => by omega⟩
    refine xx _ (c_x_countOfHouse (K + 20) a M _ ⟨h1, fun l10 => ?_, fun l10 => ?_⟩)
    · refine g_x_countOfHouse_33 _ _ _ _ ⟨h1, fun _ => nom _ (by omega) (by omega) (hq _ _ (by decide) I), fun z => by omega⟩
    · by_cases ph : 0 ≤ a - 10 ∧ a - 10 < M 1 0
      · have hh : hs (a - 10) := ⟨ph.1, by omega⟩
        refine x_hasHouse_y B ⟨by omega, by omega⟩ ph ⟨by decide, fun q => absurd q (by decide), fun _ => ⟨hh, ?_⟩⟩
        refine c_m_count (K + 21) a M _ ⟨h1, m_within_y h1.R64 (by decide) (by decide) (by omega) ⟨by decide, fun q => absurd q (by decide), fun _ => m_isHouse_y I.1.mb ⟨by omega, by omega⟩ (by rw [hn]; exact ph) ⟨by decide, fun q => absurd q (by decide), fun _ => ⟨⟨by omega, by omega⟩, ?_⟩⟩⟩⟩
        rw [show (3 + a) - 10 = 3 + (a - 10) by omega, I.1.c hh]
        have b := B.2.2.2.1 _ hh
        exact hq _ _ ⟨by omega, by omega⟩ I
      · refine x_hasHouse_n B ⟨by omega, by omega⟩ ph ⟨by decide, fun _ => ?_, fun q => absurd rfl q⟩
        refine g_x_countOfHouse_33 _ _ _ _ ⟨h1, fun l20 => ?_, fun l20 => ⟨⟨by omega, by omega⟩, ?_⟩⟩
        · by_cases p14 : a ≤ 14
          · exact c_m_count (K + 21) a M _ ⟨h1, m_within_y h1.R64 (by decide) (by decide) (by omega) ⟨by decide, fun q => absurd q (by decide), fun _ => m_isHouse_n I.1.mb ⟨by omega, by omega⟩ (by rw [hn]; exact ph) ⟨by decide, fun _ => hq _ _ (by decide) I, fun q => absurd rfl q⟩⟩⟩
          · exact nom _ (by omega) (by omega) (hq _ _ (by decide) I)
        · have e3 : Int.tdiv (a - 20) 3 = (a - 20) / 3 := Int.tdiv_eq_ediv_of_nonneg (by omega)
          have e4 : Int.tmod (a - 20) 3 = (a - 20) % 3 := Int.tmod_eq_emod_of_nonneg (by omega)
          rw [e3, e4]
          by_cases ph2 : 0 ≤ (a - 20) / 3 ∧ (a - 20) / 3 < M 1 0
          · have hh : hs ((a - 20) / 3) := ⟨ph2.1, by omega⟩
            have hc : kl ((a - 20) % 3) := ⟨by omega, by omega⟩
            refine x_hasHouse_y B ⟨by omega, by omega⟩ ph2 ⟨by decide, fun q => absurd q (by decide), fun _ => x_dueIn phk_1_P0 B hh hc ?_⟩
            refine c_m_count (K + 21) a M _ ⟨h1, m_within_n h1.R64 (by decide) (by decide) (by omega) ⟨by decide, fun _ => m_within_y h1.R64 (by decide) (by decide) (by omega) ⟨by decide, fun q => absurd q (by decide), fun _ => ⟨⟨by omega, by omega⟩, ?_⟩⟩, fun q => absurd rfl q⟩⟩
            rw [e3, e4]
            refine m_isHouse_y I.1.mb ⟨by omega, by omega⟩ (by rw [hn]; exact ph2) ⟨by decide, fun q => absurd q (by decide), fun _ => m_due hh hc ?_⟩
            rw [I.1.d hh hc]
            have b := xd_b B hh hc
            exact hq _ _ ⟨by omega, by omega⟩ I
          · refine x_hasHouse_n B ⟨by omega, by omega⟩ ph2 ⟨by decide, fun _ => ?_, fun q => absurd rfl q⟩
            by_cases p34 : a ≤ 34
            · refine c_m_count (K + 21) a M _ ⟨h1, m_within_n h1.R64 (by decide) (by decide) (by omega) ⟨by decide, fun _ => m_within_y h1.R64 (by decide) (by decide) (by omega) ⟨by decide, fun q => absurd q (by decide), fun _ => ⟨⟨by omega, by omega⟩, ?_⟩⟩, fun q => absurd rfl q⟩⟩
              rw [e3]
              exact m_isHouse_n I.1.mb ⟨by omega, by omega⟩ (by rw [hn]; exact ph2) ⟨by decide, fun _ => hq _ _ (by decide) I, fun q => absurd rfl q⟩
            · exact nom _ (by omega) (by omega) (hq _ _ (by decide) I)
  · have hc : a = 0 ∨ a = 1 ∨ a = 2 ∨ a = 3 ∨ a = 4 ∨ a = 5 ∨ a = 6 ∨ a = 7 := by omega
    have T := I.2.2.1
    have P := I.2.2.2.1
    have e4 : (s5 fun h => s3 fun c => xd M h c) = pcs (fun j => if false = true then mn2 1 (M 55 (8 + j)) else M 55 (8 + j)) 75 := by
      rw [pcs_cong (g := M 3) 75 (fun j j0 j1 => by rw [if_neg (by simp)]; exact (d75 j j0 j1).symm), pcs_75]
      refine s5_congr fun h hh => ?_
      simp only [s3, xd]
      rw [← s5_add, ← s5_add]
      rfl
    have e7 : pcs (fun j => if 0 < M 3 j then 1 else 0) 75 = pcs (fun j => if true = true then mn2 1 (M 55 (8 + j)) else M 55 (8 + j)) 75 := pcs_cong 75 fun j j0 j1 => by
      have b := b75 j j0 j1
      rw [if_pos rfl, ← d75 j j0 j1]
      simp only [mn2]
      split <;> split <;> omega
    have e3 : (s5 fun h => M 55 (3 + h)) = s5 (M 2) := s5_congr fun h hh => I.1.c hh
    have bc : 0 ≤ s5 (M 2) ∧ s5 (M 2) ≤ 1000 := by
      have c0 := B.2.2.2.1 0 (by decide); have c1 := B.2.2.2.1 1 (by decide); have c2 := B.2.2.2.1 2 (by decide); have c3 := B.2.2.2.1 3 (by decide); have c4 := B.2.2.2.1 4 (by decide)
      simp only [s5]; omega
    have bd : 0 ≤ (s5 fun h => s3 fun c => xd M h c) ∧ (s5 fun h => s3 fun c => xd M h c) ≤ 1200 := by
      have f : ∀ h, hs h → 0 ≤ (s3 fun c => xd M h c) ∧ (s3 fun c => xd M h c) ≤ 240 := fun h hh => by
        have c0 := xd_b B hh (c := 0) (by decide); have c1 := xd_b B hh (c := 1) (by decide); have c2 := xd_b B hh (c := 2) (by decide)
        simp only [s3]; omega
      have c0 := f 0 (by decide); have c1 := f 1 (by decide); have c2 := f 2 (by decide); have c3 := f 3 (by decide); have c4 := f 4 (by decide)
      simp only [s5]; omega
    have bo : 0 ≤ pcs (fun j => if 0 < M 3 j then 1 else 0) 75 ∧ pcs (fun j => if 0 < M 3 j then 1 else 0) 75 ≤ 75 := by
      have := pcs_b (f := fun j => if 0 < M 3 j then 1 else 0) (a := 1) 75 (fun j j0 j1 => by
        show 0 ≤ (if 0 < M 3 j then (1 : Int) else 0) ∧ (if 0 < M 3 j then (1 : Int) else 0) ≤ 1
        split <;> decide)
      omega
    refine c_x_count (K + 21) a M _ ⟨h1, fun z => absurd z p, fun z => ?_, fun z => ?_, fun z => ?_, fun z => x_cashOfAll B ?_, fun z => x_dueOfAll B ?_, fun z => ?_, fun z => ?_, fun z => x_openDebts b75 ?_⟩
    · refine pm _ (by omega) (by omega) ⟨fun y => absurd y p, fun _ => ?_, fun y => by omega, fun y => by omega, fun y => by omega, fun y => by omega, fun y => by omega, fun y => by omega, fun y => by omega⟩
      rw [hn]; exact hq _ _ ⟨by omega, by omega⟩ I
    · refine pm _ (by omega) (by omega) ⟨fun y => absurd y p, fun y => by omega, fun _ => ?_, fun y => by omega, fun y => by omega, fun y => by omega, fun y => by omega, fun y => by omega, fun y => by omega⟩
      rw [I.1.a]; have := B.2.1; exact hq _ _ ⟨by omega, by omega⟩ I
    · refine pm _ (by omega) (by omega) ⟨fun y => absurd y p, fun y => by omega, fun y => by omega, fun _ => ?_, fun y => by omega, fun y => by omega, fun y => by omega, fun y => by omega, fun y => by omega⟩
      rw [I.1.b]; have := B.2.2.1; exact hq _ _ ⟨by omega, by omega⟩ I
    · refine pm _ (by omega) (by omega) ⟨fun y => absurd y p, fun y => by omega, fun y => by omega, fun y => by omega, fun _ => m_cashOfAll ?_, fun y => by omega, fun y => by omega, fun y => by omega, fun y => by omega⟩
      rw [e3]; exact hq _ _ ⟨by omega, by omega⟩ I
    · refine pm _ (by omega) (by omega) ⟨fun y => absurd y p, fun y => by omega, fun y => by omega, fun y => by omega, fun y => by omega, fun _ => m_owedOfAll (b := false) bm75 ?_, fun y => by omega, fun y => by omega, fun y => by omega⟩
      rw [← e4]; exact hq _ _ ⟨by omega, by omega⟩ I
    · refine pm _ (by omega) (by omega) ⟨fun y => absurd y p, fun y => by omega, fun y => by omega, fun y => by omega, fun y => by omega, fun y => by omega, fun _ => ?_, fun y => by omega, fun y => by omega⟩
      rw [← T.1]; have := T.2.1; exact hq _ _ ⟨by omega, by omega⟩ I
    · refine pm _ (by omega) (by omega) ⟨fun y => absurd y p, fun y => by omega, fun y => by omega, fun y => by omega, fun y => by omega, fun y => by omega, fun y => by omega, fun _ => ?_, fun y => by omega⟩
      rw [← P.1]; have := P.2.1; exact hq _ _ ⟨by omega, by omega⟩ I
    · refine pm _ (by omega) (by omega) ⟨fun y => absurd y p, fun y => by omega, fun y => by omega, fun y => by omega, fun y => by omega, fun y => by omega, fun y => by omega, fun y => by omega, fun _ => m_owedOfAll (b := true) bm75 ?_⟩
      rw [← e7]; exact hq _ _ ⟨by omega, by omega⟩ I
