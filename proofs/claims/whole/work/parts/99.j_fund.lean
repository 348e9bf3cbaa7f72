/-! THE WORTH of a fund: sums that may grow too great -/
def pr (a b : Int) : Int := if a < 0 ∨ b < 0 ∨ 9223372036854775807 < a * b then -1 else a * b
def sm (a b : Int) : Int := if a < 0 ∨ b < 0 ∨ 9223372036854775807 < a + b then -1 else a + b
theorem pr_b (a b : Int) : -1 ≤ pr a b ∧ pr a b ≤ 9223372036854775807 ∧ (pr a b = -1 ∨ (0 ≤ a ∧ 0 ≤ b ∧ a * b ≤ 9223372036854775807 ∧ pr a b = a * b)) := by
  unfold pr
  split
  · exact ⟨by decide, by decide, Or.inl rfl⟩
  · next h =>
    have := Int.mul_nonneg (show 0 ≤ a by omega) (show 0 ≤ b by omega)
    exact ⟨by omega, by omega, Or.inr ⟨by omega, by omega, by omega, rfl⟩⟩
theorem sm_b (a b : Int) : -1 ≤ sm a b ∧ sm a b ≤ 9223372036854775807 ∧ (sm a b = -1 ∨ (0 ≤ a ∧ 0 ≤ b ∧ a + b ≤ 9223372036854775807 ∧ sm a b = a + b)) := by
  unfold sm
  split
  · exact ⟨by decide, by decide, Or.inl rfl⟩
  · exact ⟨by omega, by omega, Or.inr ⟨by omega, by omega, by omega, rfl⟩⟩
theorem le_G {a b : Int} (hb : 0 < b) : a ≤ Int.tdiv 9223372036854775807 b ↔ a * b ≤ 9223372036854775807 := by
  rw [td_ed (by decide)]
  exact Int.le_ediv_iff_mul_le hb
theorem G_R {b : Int} (hb : 0 < b) : R64 (Int.tdiv 9223372036854775807 b) := by
  have a := td_le (a := 9223372036854775807) (d := b) (by decide) hb
  have c := td_nn (a := 9223372036854775807) (d := b) (by decide) hb
  exact ⟨by omega, by omega⟩
theorem x_product {K : Nat} {a b : Int} {M : PM} {Q : Option PV → PM → Prop} (ha : R64 a) (hb : R64 b) (hq : Q (some (.inr (.inl (pr a b)))) M) : Call (K + 1) jWorth_product [.inr (.inl a), .inr (.inl b)] P0 P0 M Q := by
  unfold pr at hq
  refine c_worth_product K a b M Q ⟨ha, fun z => ?_, fun z => ⟨hb, fun z2 => ?_, fun z2 => ⟨fun z3 => ?_, fun z3 => ⟨by omega, G_R (by omega), fun z4 => ?_, fun z4 => ?_⟩⟩⟩⟩
  · rw [if_pos (Or.inl z)] at hq; exact hq
  · rw [if_pos (Or.inr (Or.inl z2))] at hq; exact hq
  · have e : b = 0 := by omega
    rw [if_neg (by rw [e, Int.mul_zero]; omega)] at hq; exact hq
  · rw [le_G (by omega)] at z4
    rw [if_neg (by omega)] at hq; exact hq
  · rw [le_G (by omega)] at z4
    rw [if_pos (by omega)] at hq; exact hq
theorem x_sum {K : Nat} {a b : Int} {M : PM} {Q : Option PV → PM → Prop} (ha : R64 a) (hb : R64 b) (hq : Q (some (.inr (.inl (sm a b)))) M) : Call (K + 1) jWorth_sum [.inr (.inl a), .inr (.inl b)] P0 P0 M Q := by
  unfold sm at hq
  refine c_worth_sum K a b M Q ⟨ha, fun z => ?_, fun z => ⟨hb, fun z2 => ?_, fun z2 => ⟨⟨by omega, by omega⟩, fun z4 => ?_, fun z4 => ?_⟩⟩⟩
  · rw [if_pos (Or.inl z)] at hq; exact hq
  · rw [if_pos (Or.inr (Or.inl z2))] at hq; exact hq
  · rw [if_neg (by omega)] at hq; exact hq
  · rw [if_pos (by omega)] at hq; exact hq
/-- all the products and the sum are small enough -/
abbrev okA (t b u c d : Int) : Prop := t * d ≤ 9223372036854775807 ∧ u * c ≤ 9223372036854775807 ∧ (u * c) * b ≤ 9223372036854775807 ∧ t * d + (u * c) * b ≤ 9223372036854775807 ∧ b * d ≤ 9223372036854775807
abbrev P_1 (x : Int) : Prop := 0 ≤ x ∧ x ≤ 9223372036854775807
theorem P_1.R {x : Int} (h : P_1 x) : R64 x := ⟨by omega, by omega⟩
theorem tlw_1 {X D : Int} (hD : P63 D) (hD0 : 0 < D) : 0 < tlw X D 1 := by
  unfold tlw
  rw [if_neg (by decide)]
  have g := gcd_p (t := X) hD0
  rw [td_ed hD.1]
  exact Int.ediv_pos_of_pos_of_dvd hD0 (by omega) (Int.gcd_dvd_right _ _)
theorem x_addUnits {K : Nat} {u X D t b : Int} {M : PM} {Q : Option PV → PM → Prop} (hX : P63 X) (hD : P63 D) (hD0 : 0 < D) (hu : P_1 u) (et : M 42 0 = t) (eb : M 42 1 = b) (ht : P_1 t) (hb : P_1 b) (hb0 : 0 < b)
    (hy : okA t b u (tlw X D 0) (tlw X D 1) → Q (some (.inl 1)) (mset (mset M 42 0 (tlw (t * tlw X D 1 + (u * tlw X D 0) * b) (b * tlw X D 1) 0)) 42 1 (tlw (t * tlw X D 1 + (u * tlw X D 0) * b) (b * tlw X D 1) 1))) (hn : ¬ okA t b u (tlw X D 0) (tlw X D 1) → Q (some (.inl 0)) M) : Call (K + 3) jWorth_addUnits [.inr (.inr 42), .inr (.inl u), .inr (.inl X), .inr (.inl D)] P0 P0 M Q := by
  have c0 := tlw_b (w := 0) hX hD hD0
  have d0 := tlw_b (w := 1) hX hD hD0
  have d1 := tlw_1 (X := X) hD hD0
  obtain ⟨c, hc⟩ : ∃ c, c = tlw X D 0 := ⟨_, rfl⟩
  obtain ⟨d, hd⟩ : ∃ d, d = tlw X D 1 := ⟨_, rfl⟩
  refine c_wo_addUnits (K + 2) u X D M Q (x_tell hX hD hD0 (by decide) (Or.inl rfl) (x_tell hX hD hD0 (by decide) (Or.inr rfl) ?_))
  rw [← hc] at c0 hy hn
  rw [← hd] at d0 d1 hy hn
  show Call (K + 2) jWorth_product [.inr (.inl (M 42 0)), .inr (.inl (tlw X D 1))] P0 P0 M (retL fun r5 M6 => Call (K + 2) jWorth_product [.inr (.inl u), .inr (.inl (tlw X D 0))] P0 P0 M6 _)
  rw [← hc, ← hd, et]
  have p1 := pr_b t d
  have p2 := pr_b u c
  have p3 := pr_b (pr u c) b
  have p4 := sm_b (pr t d) (pr (pr u c) b)
  have p5 := pr_b b d
  refine x_product ht.R ⟨by omega, by omega⟩ (x_product hu.R ⟨by omega, by omega⟩ ?_)
  show Call (K + 2) jWorth_product [.inr (.inl (pr u c)), .inr (.inl (M 42 1))] P0 P0 M (retL fun r9 M10 => Call (K + 2) jWorth_sum [.inr (.inl (pr t d)), .inr (.inl r9)] P0 P0 M10 (retL fun r11 M12 => Call (K + 2) jWorth_product [.inr (.inl (M12 42 1)), .inr (.inl d)] P0 P0 M12 _))
  rw [eb]
  refine x_product ⟨by omega, by omega⟩ hb.R (x_sum ⟨by omega, by omega⟩ ⟨by omega, by omega⟩ ?_)
  show Call (K + 2) jWorth_product [.inr (.inl (M 42 1)), .inr (.inl d)] P0 P0 M _
  rw [eb]
  refine x_product hb.R ⟨by omega, by omega⟩ ?_
  have n1 := Int.mul_nonneg ht.1 d0.1
  have n2 := Int.mul_nonneg hu.1 c0.1
  have n3 := Int.mul_nonneg n2 hb.1
  have n5 := Int.mul_pos hb0 d1
  by_cases ok : okA t b u c d
  · obtain ⟨k1, k2, k3, k4, k5⟩ := ok
    have e1 : pr t d = t * d := by unfold pr; rw [if_neg (by omega)]
    have e2 : pr u c = u * c := by unfold pr; rw [if_neg (by omega)]
    have e3 : pr (u * c) b = (u * c) * b := by unfold pr; rw [if_neg (by omega)]
    have e4 : sm (t * d) ((u * c) * b) = t * d + (u * c) * b := by unfold sm; rw [if_neg (by omega)]
    have e5 : pr b d = b * d := by unfold pr; rw [if_neg (by omega)]
    have y := hy ⟨k1, k2, k3, k4, k5⟩
    rw [e2, e3, e1, e4, e5]
    refine ⟨⟨by omega, by omega⟩, fun z => absurd z (by omega), fun _ => ⟨⟨by omega, by omega⟩, fun _ => x_tell ⟨by omega, by omega⟩ ⟨by omega, by omega⟩ n5 (by decide) (Or.inl rfl) (x_tell ⟨by omega, by omega⟩ ⟨by omega, by omega⟩ n5 (by decide) (Or.inr rfl) y), fun z => absurd z (by omega)⟩⟩
  · refine ⟨⟨by omega, by omega⟩, fun _ => hn ok, fun z => ⟨⟨by omega, by omega⟩, fun z2 => absurd ?_ ok, fun _ => hn ok⟩⟩
    rcases p4.2.2 with q | ⟨q1, q2, q3, q4⟩
    · exact absurd q z
    · rcases p1.2.2 with w | ⟨_, _, w3, w4⟩
      · omega
      · rcases p3.2.2 with v | ⟨v1, _, v3, v4⟩
        · omega
        · rcases p2.2.2 with x | ⟨_, _, x3, x4⟩
          · omega
          · rcases p5.2.2 with y | ⟨_, _, y3, y4⟩
            · exact absurd y z2
            · rw [x4] at v3 v4
              rw [w4, x4, v4] at q3
              exact ⟨w3, x3, v3, q3, y3⟩
theorem m_times {K : Nat} {a b : Int} {M : PM} {Q : Option PV → PM → Prop} (ha : P_1 a) (hb : P_1 b) (hR : R32 (M 52 30)) (hq : ∀ M' v, Ag [52] M M' → (∀ i, i ≠ 30 → M' 52 i = M 52 i) → ((M' 52 30 = 0 ∧ M 52 30 = 0 ∧ a * b ≤ 9223372036854775807 ∧ v = a * b) ∨ (M' 52 30 = 1 ∧ v = 0 ∧ (M 52 30 ≠ 0 ∨ ¬ a * b ≤ 9223372036854775807))) → Q (some (.inr (.inl v))) M') : Call (K + 1) jModel_times [.inr (.inr 52), .inr (.inl a), .inr (.inl b)] P0 P0 M Q := by
  have f : ∀ v, (∀ i, i ≠ 30 → (mset M 52 30 v) 52 i = M 52 i) := fun v i hi => by rw [mset_at, if_neg hi]
  have A : ∀ v, Ag [52] M (mset M 52 30 v) := fun v => (Ag.rf _ _).set (by decide)
  refine c_m_times K a b M Q ⟨hR, fun z => hq _ 0 (A 1) (f 1) (Or.inr ⟨mset_eq, rfl, Or.inl z⟩), fun z => ⟨ha.R, fun z2 => ?_, fun z2 => ⟨by omega, hb.R, G_R (by omega), fun z3 => ?_, fun z3 => ?_⟩⟩⟩
  · have e : a = 0 := by omega
    exact hq _ _ (A 0) (f 0) (Or.inl ⟨mset_eq, z, by rw [e, Int.zero_mul]; decide, rfl⟩)
  · rw [le_G (by omega), Int.mul_comm] at z3
    exact hq _ _ (A 0) (f 0) (Or.inl ⟨mset_eq, z, z3, rfl⟩)
  · rw [le_G (by omega), Int.mul_comm] at z3
    exact hq _ _ (A 1) (f 1) (Or.inr ⟨mset_eq, rfl, Or.inr z3⟩)
theorem m_adds {K : Nat} {u X D t b W : Int} {M : PM} {Q : Option PV → PM → Prop} (hX : P63 X) (hD : P63 D) (hD0 : 0 < D) (hu : P_1 u) (hW : M 52 9 = W) (hW5 : 0 ≤ W ∧ W ≤ 5) (eD : M 59 W = D) (et : M 52 28 = t) (eb : M 52 29 = b) (e0 : M 52 30 = 0) (ht : P_1 t) (hb : P_1 b) (hb0 : 0 < b)
    (hq : ∀ M', Ag [52] M M' → (∀ i, i ≠ 28 → i ≠ 29 → i ≠ 30 → M' 52 i = M 52 i) → ((okA t b u (tlw X D 0) (tlw X D 1) ∧ M' 52 30 = 0 ∧ M' 52 28 = tlw (t * tlw X D 1 + (u * tlw X D 0) * b) (b * tlw X D 1) 0 ∧ M' 52 29 = tlw (t * tlw X D 1 + (u * tlw X D 0) * b) (b * tlw X D 1) 1) ∨ (¬ okA t b u (tlw X D 0) (tlw X D 1) ∧ M' 52 30 = 1)) → Q none M') : Call (K + 3) jModel_adds [.inr (.inr 52), .inr (.inl u), .inr (.inl X)] P0 P0 M Q := by
  have c0 := tlw_b (w := 0) hX hD hD0
  have d0 := tlw_b (w := 1) hX hD hD0
  have d1 := tlw_1 (X := X) hD hD0
  obtain ⟨c, hc⟩ : ∃ c, c = tlw X D 0 := ⟨_, rfl⟩
  obtain ⟨d, hd⟩ : ∃ d, d = tlw X D 1 := ⟨_, rfl⟩
  have pc : P_1 c := by rw [hc]; have := c0.2; exact ⟨c0.1, by omega⟩
  have pd : P_1 d := by rw [hd]; have := d0.2; exact ⟨d0.1, by omega⟩
  have pd1 : 0 < d := by rw [hd]; exact d1
  refine c_m_adds (K + 2) u X M Q ⟨by rw [hW]; exact ⟨by omega, by omega⟩, ?_⟩
  rw [hW, eD]
  refine m_lowest hX hD hD0 (by decide) ⟨by rw [hW]; exact ⟨by omega, by omega⟩, ?_⟩
  rw [hW, eD]
  refine m_lowest hX hD hD0 (by decide) ?_
  rw [← hc, ← hd] at hq
  show Call (K + 2) jModel_times [.inr (.inr 52), .inr (.inl (M 52 28)), .inr (.inl (tlw X D 1))] P0 P0 M (retL fun r7 M8 => Call (K + 2) jModel_times [.inr (.inr 52), .inr (.inl u), .inr (.inl (tlw X D 0))] P0 P0 M8 _)
  rw [← hc, ← hd, et]
  have n1 := Int.mul_nonneg ht.1 pd.1
  have n2 := Int.mul_nonneg hu.1 pc.1
  have n3 := Int.mul_nonneg n2 hb.1
  have n5 := Int.mul_pos hb0 pd1
  refine m_times ht pd (by rw [e0]; decide) (fun M1 v1 A1 f1 r1 => ?_)
  refine m_times hu pc (by rcases r1 with z | z <;> rw [z.1] <;> decide) (fun M2 v2 A2 f2 r2 => ?_)
  have pv2 : P_1 v2 := by rcases r2 with ⟨_, _, z, y⟩ | ⟨_, y, _⟩ <;> rw [y] <;> exact ⟨by omega, by omega⟩
  have e29 : M2 52 29 = b := by rw [f2 29 (by decide), f1 29 (by decide), eb]
  show Call (K + 2) jModel_times [.inr (.inr 52), .inr (.inl v2), .inr (.inl (M2 52 29))] P0 P0 M2 _
  rw [e29]
  refine m_times pv2 hb (by rcases r2 with z | z <;> rw [z.1] <;> decide) (fun M3 v3 A3 f3 r3 => ?_)
  have A : Ag [52] M M3 := (A1.tr A2).tr A3
  have ff : ∀ i, i ≠ 30 → M3 52 i = M 52 i := fun i hi => by rw [f3 i hi, f2 i hi, f1 i hi]
  have g29 : ∀ v, (mset M3 52 30 v) 52 29 = b := fun v => by rw [mset_at, if_neg (by decide), ff 29 (by decide), eb]
  -- it has grown too great
  have over : ∀ Q' : Option PV → PM → Prop, ¬ okA t b u c d → (∀ v M4, M4 52 30 = 1 → Q none M4 → Q' (some (.inr (.inl v))) M4) → Call (K + 2) jModel_times [.inr (.inr 52), .inr (.inl b), .inr (.inl d)] P0 P0 (mset M3 52 30 1) Q' := fun Q' no go => by
    refine m_times hb pd (by rw [mset_eq]; decide) (fun M4 v4 A4 f4 r4 => ?_)
    have e1 : M4 52 30 = 1 := by
      rcases r4 with ⟨_, z, _⟩ | z
      · rw [mset_eq] at z; exact absurd z (by decide)
      · exact z.1
    exact go v4 M4 e1 (hq M4 ((A.set (by decide)).tr A4) (fun i i28 i29 i30 => by rw [f4 i i30, mset_at, if_neg i30, ff i i30]) (Or.inr ⟨no, e1⟩))
  have e3 : R32 (M3 52 30) := by rcases r3 with z | z <;> rw [z.1] <;> decide
  refine ⟨e3, fun z => ?_, fun z => ?_⟩
  · show Call (K + 2) jModel_times [.inr (.inr 52), .inr (.inl (M3 52 29)), .inr (.inl d)] P0 P0 (mset M3 52 30 1) _
    rw [show M3 52 29 = b by rw [ff 29 (by decide), eb]]
    refine over _ ?_ (fun v M4 e1 q => ⟨by rw [e1]; decide, fun _ => q, fun z2 => absurd z2 (by rw [e1]; decide)⟩)
    rintro ⟨k1, k2, k3, k4, k5⟩
    have x1 : M1 52 30 = 0 := by
      rcases r1 with w | ⟨_, _, w⟩
      · exact w.1
      · rcases w with w | w
        · exact absurd e0 w
        · exact absurd k1 w
    have x2 : M2 52 30 = 0 ∧ v2 = u * c := by
      rcases r2 with w | ⟨_, _, w⟩
      · exact ⟨w.1, w.2.2.2⟩
      · rcases w with w | w
        · exact absurd x1 w
        · exact absurd k2 w
    rcases r3 with w | ⟨_, _, w⟩
    · exact z w.1
    · rcases w with w | w
      · exact w x2.1
      · rw [x2.2] at w; exact w k3
  · have x3 : M2 52 30 = 0 ∧ v2 * b ≤ 9223372036854775807 ∧ v3 = v2 * b := by
      rcases r3 with w | ⟨w, _⟩
      · exact ⟨w.2.1, w.2.2.1, w.2.2.2⟩
      · rw [w] at z; exact absurd z (by decide)
    have x2 : M1 52 30 = 0 ∧ u * c ≤ 9223372036854775807 ∧ v2 = u * c := by
      rcases r2 with w | ⟨w, _⟩
      · exact ⟨w.2.1, w.2.2.1, w.2.2.2⟩
      · rw [w] at x3; exact absurd x3.1 (by decide)
    have x1 : t * d ≤ 9223372036854775807 ∧ v1 = t * d := by
      rcases r1 with w | ⟨w, _⟩
      · exact ⟨w.2.2.1, w.2.2.2⟩
      · rw [w] at x2; exact absurd x2.1 (by decide)
    rw [x2.2.2] at x3
    rw [x3.2.2, x1.2]
    have x3b := x3.2.1
    have x1b := x1.1
    refine ⟨⟨by omega, by omega⟩, ⟨by omega, by omega⟩, fun le => ?_, fun nle => ?_⟩
    · show Call (K + 2) jModel_times [.inr (.inr 52), .inr (.inl (M3 52 29)), .inr (.inl d)] P0 P0 (mset M3 52 30 0) _
      rw [show M3 52 29 = b by rw [ff 29 (by decide), eb]]
      refine m_times hb pd (by rw [mset_eq]; decide) (fun M4 v4 A4 f4 r4 => ?_)
      have AA : Ag [52] M M4 := (A.set (by decide)).tr A4
      have f5 : ∀ i, i ≠ 30 → M4 52 i = M 52 i := fun i i30 => by rw [f4 i i30, mset_at, if_neg i30, ff i i30]
      rcases r4 with ⟨y1, _, y3, y4⟩ | ⟨y1, y2, y3⟩
      · refine ⟨by rw [y1]; decide, fun w => absurd y1 w, fun _ => ?_⟩
        rw [y4]
        refine m_lowest ⟨by omega, by omega⟩ ⟨by omega, by omega⟩ n5 (by decide) (m_lowest ⟨by omega, by omega⟩ ⟨by omega, by omega⟩ n5 (by decide) (hq _ ((AA.set (by decide)).set (by decide)) (fun i i28 i29 i30 => by rw [mset_at, if_neg i29, mset_at, if_neg i28, f5 i i30]) (Or.inl ⟨⟨x1.1, x2.2.1, x3.2.1, by omega, y3⟩, ?_, ?_, ?_⟩)))
        · rw [mset_at, if_neg (by decide), mset_at, if_neg (by decide)]; exact y1
        · rw [mset_at, if_neg (by decide), mset_eq]
        · rw [mset_eq]
      · have no : ¬ okA t b u c d := fun k => by
          rcases y3 with w | w
          · exact w mset_eq
          · exact w k.2.2.2.2
        refine ⟨by rw [y1]; decide, fun _ => hq M4 AA (fun i i28 i29 i30 => f5 i i30) (Or.inr ⟨no, y1⟩), fun w => absurd w (by rw [y1]; decide)⟩
    · show Call (K + 2) jModel_times [.inr (.inr 52), .inr (.inl (M3 52 29)), .inr (.inl d)] P0 P0 (mset M3 52 30 1) _
      rw [show M3 52 29 = b by rw [ff 29 (by decide), eb]]
      refine over _ (fun k => ?_) (fun v M4 e1 q => ⟨by rw [e1]; decide, fun _ => q, fun z2 => absurd z2 (by rw [e1]; decide)⟩)
      have := k.2.2.2.1
      omega
