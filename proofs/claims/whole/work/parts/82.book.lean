/-! QUESTIONS of class and model: yes or no -/
theorem x_hasHouse_y {K : Nat} {a : Int} {M : PM} {Q : Option PV → PM → Prop} (B : XB M) (h1 : R32 a) (hP : 0 ≤ a ∧ a < M 1 0) (h : Q (some (.inl 1)) M) : Call (K + 1) jBook_hasHouse [.inr (.inr 1), .inl a] P0 P0 M Q := by
  have hn := B.1
  exact c_bk_hasHouse K a M Q ⟨h1, fun q => absurd q (by omega), fun _ => ⟨⟨by omega, by omega⟩, fun q => absurd q (by omega), fun _ => h⟩⟩
theorem x_hasHouse_n {K : Nat} {a : Int} {M : PM} {Q : Option PV → PM → Prop} (B : XB M) (h1 : R32 a) (hP : ¬ (0 ≤ a ∧ a < M 1 0)) (h : Q (some (.inl 0)) M) : Call (K + 1) jBook_hasHouse [.inr (.inr 1), .inl a] P0 P0 M Q := by
  have hn := B.1
  exact c_bk_hasHouse K a M Q ⟨h1, fun _ => h, fun _ => ⟨⟨by omega, by omega⟩, fun _ => h, fun q => absurd (by omega) hP⟩⟩
theorem x_hasClass_y {K : Nat} {a : Int} {M : PM} {Q : Option PV → PM → Prop} (h1 : R32 a) (hP : kl a) (h : Q (some (.inl 1)) M) : Call (K + 1) jBook_hasClass [.inr (.inr 1), .inl a] P0 P0 M Q :=
  c_bk_hasClass K a M Q ⟨h1, fun q => absurd q (by omega), fun _ => ⟨fun q => absurd q (by omega), fun _ => h⟩⟩
theorem x_hasClass_n {K : Nat} {a : Int} {M : PM} {Q : Option PV → PM → Prop} (h1 : R32 a) (hP : ¬ kl a) (h : Q (some (.inl 0)) M) : Call (K + 1) jBook_hasClass [.inr (.inr 1), .inl a] P0 P0 M Q :=
  c_bk_hasClass K a M Q ⟨h1, fun _ => h, fun _ => ⟨fun _ => h, fun q => absurd (by omega) hP⟩⟩
theorem x_hasPart_y {K : Nat} {a c : Int} {M : PM} {Q : Option PV → PM → Prop} (B : XB M) (h1 : R32 a) (h2 : R32 c) (hP : (0 ≤ a ∧ a < M 1 0) ∧ kl c) (h : Q (some (.inl 1)) M) : Call (K + 2) jBook_hasPart [.inr (.inr 1), .inl a, .inl c] P0 P0 M Q :=
  c_bk_hasPart (K + 1) a c M Q (x_hasHouse_y B h1 hP.1 ⟨by decide, fun q => absurd q (by decide), fun _ => x_hasClass_y h2 hP.2 ⟨by decide, fun q => absurd q (by decide), fun _ => h⟩⟩)
theorem x_hasPart_n {K : Nat} {a c : Int} {M : PM} {Q : Option PV → PM → Prop} (B : XB M) (h1 : R32 a) (h2 : R32 c) (hP : ¬ ((0 ≤ a ∧ a < M 1 0) ∧ kl c)) (h : Q (some (.inl 0)) M) : Call (K + 2) jBook_hasPart [.inr (.inr 1), .inl a, .inl c] P0 P0 M Q := by
  by_cases q : 0 ≤ a ∧ a < M 1 0
  · exact c_bk_hasPart (K + 1) a c M Q (x_hasHouse_y B h1 q ⟨by decide, fun q => absurd q (by decide), fun _ => x_hasClass_n h2 (fun z => hP ⟨q, z⟩) ⟨by decide, fun _ => h, fun q => absurd rfl q⟩⟩)
  · exact c_bk_hasPart (K + 1) a c M Q (x_hasHouse_n B h1 q ⟨by decide, fun _ => h, fun q => absurd rfl q⟩)
abbrev Dbt (M : PM) (f t c : Int) : Prop := ((0 ≤ f ∧ f < M 1 0) ∧ kl c) ∧ (0 ≤ t ∧ t < M 1 0) ∧ f ≠ t
theorem x_hasDebt_y {K : Nat} {f t c : Int} {M : PM} {Q : Option PV → PM → Prop} (B : XB M) (h1 : R32 f) (h2 : R32 t) (h3 : R32 c) (hP : Dbt M f t c) (h : Q (some (.inl 1)) M) : Call (K + 3) jBook_hasDebt [.inr (.inr 1), .inl f, .inl t, .inl c] P0 P0 M Q :=
  c_bk_hasDebt (K + 2) f t c M Q (x_hasPart_y B h1 h3 hP.1 ⟨by decide, fun q => absurd q (by decide), fun _ => x_hasHouse_y B h2 hP.2.1 ⟨by decide, fun q => absurd q (by decide), fun _ => ⟨h1, h2, fun q => absurd q hP.2.2, fun _ => h⟩⟩⟩)
theorem x_hasDebt_n {K : Nat} {f t c : Int} {M : PM} {Q : Option PV → PM → Prop} (B : XB M) (h1 : R32 f) (h2 : R32 t) (h3 : R32 c) (hP : ¬ Dbt M f t c) (h : Q (some (.inl 0)) M) : Call (K + 3) jBook_hasDebt [.inr (.inr 1), .inl f, .inl t, .inl c] P0 P0 M Q := by
  by_cases q : (0 ≤ f ∧ f < M 1 0) ∧ kl c
  · by_cases q2 : 0 ≤ t ∧ t < M 1 0
    · refine c_bk_hasDebt (K + 2) f t c M Q (x_hasPart_y B h1 h3 q ⟨by decide, fun q => absurd q (by decide), fun _ => x_hasHouse_y B h2 q2 ⟨by decide, fun q => absurd q (by decide), fun _ => ⟨h1, h2, fun _ => h, fun z => absurd ⟨q, q2, z⟩ hP⟩⟩⟩)
    · exact c_bk_hasDebt (K + 2) f t c M Q (x_hasPart_y B h1 h3 q ⟨by decide, fun q => absurd q (by decide), fun _ => x_hasHouse_n B h2 q2 ⟨by decide, fun _ => h, fun q => absurd rfl q⟩⟩)
  · exact c_bk_hasDebt (K + 2) f t c M Q (x_hasPart_n B h1 h3 q ⟨by decide, fun _ => h, fun q => absurd rfl q⟩)
theorem m_isHouse_y {K : Nat} {x : Int} {M : PM} {Q : Option PV → PM → Prop} (B : MB M) (h1 : R32 x) (hP : 0 ≤ x ∧ x < M 55 0) (h : Q (some (.inl 1)) M) : Call (K + 2) jModel_isHouse [.inr (.inr 52), .inl x] P0 P0 M Q := m_isHouse B h1 (by rw [decide_eq_true hP]; exact h)
theorem m_isHouse_n {K : Nat} {x : Int} {M : PM} {Q : Option PV → PM → Prop} (B : MB M) (h1 : R32 x) (hP : ¬ (0 ≤ x ∧ x < M 55 0)) (h : Q (some (.inl 0)) M) : Call (K + 2) jModel_isHouse [.inr (.inr 52), .inl x] P0 P0 M Q := m_isHouse B h1 (by rw [decide_eq_false hP]; exact h)
theorem m_arePair_y {K : Nat} {x y : Int} {M : PM} {Q : Option PV → PM → Prop} (B : MB M) (h1 : R32 x) (h2 : R32 y) (hP : (0 ≤ x ∧ x < M 55 0) ∧ (0 ≤ y ∧ y < M 55 0) ∧ x ≠ y) (h : Q (some (.inl 1)) M) : Call (K + 3) jModel_arePair [.inr (.inr 52), .inl x, .inl y] P0 P0 M Q := m_arePair B h1 h2 (by rw [decide_eq_true hP]; exact h)
theorem m_arePair_n {K : Nat} {x y : Int} {M : PM} {Q : Option PV → PM → Prop} (B : MB M) (h1 : R32 x) (h2 : R32 y) (hP : ¬ ((0 ≤ x ∧ x < M 55 0) ∧ (0 ≤ y ∧ y < M 55 0) ∧ x ≠ y)) (h : Q (some (.inl 0)) M) : Call (K + 3) jModel_arePair [.inr (.inr 52), .inl x, .inl y] P0 P0 M Q := m_arePair B h1 h2 (by rw [decide_eq_false hP]; exact h)
theorem m_isClass_y {K : Nat} {x : Int} {M : PM} {Q : Option PV → PM → Prop} (h1 : R32 x) (hP : kl x) (h : Q (some (.inl 1)) M) : Call (K + 2) jModel_isClass [.inl x] P0 P0 M Q := m_isClass h1 (by rw [decide_eq_true hP]; exact h)
theorem m_isClass_n {K : Nat} {x : Int} {M : PM} {Q : Option PV → PM → Prop} (h1 : R32 x) (hP : ¬ kl x) (h : Q (some (.inl 0)) M) : Call (K + 2) jModel_isClass [.inl x] P0 P0 M Q := m_isClass h1 (by rw [decide_eq_false hP]; exact h)
theorem m_isSide_y {K : Nat} {x : Int} {M : PM} {Q : Option PV → PM → Prop} (h1 : R32 x) (hP : x = 0 ∨ x = 1) (h : Q (some (.inl 1)) M) : Call (K + 1) jModel_isSide [.inl x] P0 P0 M Q := m_isSide h1 (by rw [decide_eq_true hP]; exact h)
theorem m_isSide_n {K : Nat} {x : Int} {M : PM} {Q : Option PV → PM → Prop} (h1 : R32 x) (hP : ¬ (x = 0 ∨ x = 1)) (h : Q (some (.inl 0)) M) : Call (K + 1) jModel_isSide [.inl x] P0 P0 M Q := m_isSide h1 (by rw [decide_eq_false hP]; exact h)
theorem m_within_y {K : Nat} {x lo hi : Int} {M : PM} {Q : Option PV → PM → Prop} (h1 : R64 x) (h2 : R64 lo) (h3 : R64 hi) (hP : lo ≤ x ∧ x ≤ hi) (h : Q (some (.inl 1)) M) : Call (K + 1) jModel_within [.inr (.inl x), .inr (.inl lo), .inr (.inl hi)] P0 P0 M Q := m_within h1 h2 h3 (by rw [decide_eq_true hP]; exact h)
theorem m_within_n {K : Nat} {x lo hi : Int} {M : PM} {Q : Option PV → PM → Prop} (h1 : R64 x) (h2 : R64 lo) (h3 : R64 hi) (hP : ¬ (lo ≤ x ∧ x ≤ hi)) (h : Q (some (.inl 0)) M) : Call (K + 1) jModel_within [.inr (.inl x), .inr (.inl lo), .inr (.inl hi)] P0 P0 M Q := m_within h1 h2 h3 (by rw [decide_eq_false hP]; exact h)
theorem R32.R64 {x : Int} (h : R32 x) : R64 x := ⟨by have := h.1; omega, by have := h.2; omega⟩
theorem m_isFund_y {K : Nat} {x : Int} {M : PM} {Q : Option PV → PM → Prop} (h1 : R32 x) (hP : 0 ≤ x ∧ x < 3) (h : Q (some (.inl 1)) M) : Call (K + 2) jModel_isFund [.inl x] P0 P0 M Q := c_model_isFund (K + 1) x M Q ⟨h1, m_within_y h1.R64 (by decide) (by decide) (by omega) ⟨Or.inr rfl, h⟩⟩
theorem m_isFund_n {K : Nat} {x : Int} {M : PM} {Q : Option PV → PM → Prop} (h1 : R32 x) (hP : ¬ (0 ≤ x ∧ x < 3)) (h : Q (some (.inl 0)) M) : Call (K + 2) jModel_isFund [.inl x] P0 P0 M Q := c_model_isFund (K + 1) x M Q ⟨h1, m_within_n h1.R64 (by decide) (by decide) (by omega) ⟨Or.inl rfl, h⟩⟩
theorem m_isRow_y {K : Nat} {x : Int} {M : PM} {Q : Option PV → PM → Prop} (h1 : R32 x) (hP : 0 ≤ x ∧ x < 4) (h : Q (some (.inl 1)) M) : Call (K + 2) jModel_isRow [.inl x] P0 P0 M Q := c_model_isRow (K + 1) x M Q ⟨h1, m_within_y h1.R64 (by decide) (by decide) (by omega) ⟨Or.inr rfl, h⟩⟩
theorem m_isRow_n {K : Nat} {x : Int} {M : PM} {Q : Option PV → PM → Prop} (h1 : R32 x) (hP : ¬ (0 ≤ x ∧ x < 4)) (h : Q (some (.inl 0)) M) : Call (K + 2) jModel_isRow [.inl x] P0 P0 M Q := c_model_isRow (K + 1) x M Q ⟨h1, m_within_n h1.R64 (by decide) (by decide) (by omega) ⟨Or.inl rfl, h⟩⟩
theorem m_isGift_y {K : Nat} {x : Int} {M : PM} {Q : Option PV → PM → Prop} (h1 : R32 x) (hP : 0 ≤ x ∧ x ≤ 200) (h : Q (some (.inl 1)) M) : Call (K + 2) jModel_isGift [.inl x] P0 P0 M Q := c_model_isGift (K + 1) x M Q ⟨h1, m_within_y h1.R64 (by decide) (by decide) hP ⟨Or.inr rfl, h⟩⟩
theorem m_isGift_n {K : Nat} {x : Int} {M : PM} {Q : Option PV → PM → Prop} (h1 : R32 x) (hP : ¬ (0 ≤ x ∧ x ≤ 200)) (h : Q (some (.inl 0)) M) : Call (K + 2) jModel_isGift [.inl x] P0 P0 M Q := c_model_isGift (K + 1) x M Q ⟨h1, m_within_n h1.R64 (by decide) (by decide) hP ⟨Or.inl rfl, h⟩⟩
/-! THE BOOK changes on both sides -/
theorem d3_75 {f k e : Int} (hf : hs f) (hk : hs k) (he : kl e) : 0 ≤ d3 f k e ∧ d3 f k e < 75 := by unfold d3; omega
theorem d3_45 {f k e : Int} (hf : 0 ≤ f ∧ f < 3) (hk : hs k) (he : kl e) : 0 ≤ d3 f k e ∧ d3 f k e < 45 := by unfold d3; omega
theorem d3_h {f k e f' k' e' : Int} (hk : hs k) (he : kl e) (hk' : hs k') (he' : kl e') (h : d3 f k e = d3 f' k' e') : k = k' := by unfold d3 at h; omega
theorem BV.cash {b c d u t b' c' d' u' t' : Int → Int} {h v : Int} (B : BV b c d u t) (hh : hs h) (hl : h < b 0) (hv : 0 ≤ v ∧ v ≤ 200) (hb : b' = b) (hd : d' = d) (hu : u' = u) (hc : ∀ i, c' i = if i = h then v else c i) (ht : ∀ i, t' i = if i = 3 + h then v else t i) : BV b' c' d' u' t' := by
  subst hb; subst hd; subst hu
  obtain ⟨⟨p1, p2, p3, p4, p5, p6, p7, p8⟩, q, r1, r2, r3, r4, r5, r6⟩ := B
  refine ⟨⟨p1, p2, p3, fun i hi => ?_, p5, p6, fun i hi z => ?_, p8⟩, q, ?_, ?_, ?_, fun i hi => ?_, fun j j0 j1 => ?_, fun j j0 j1 => ?_⟩
  · rw [hc]; split
    · exact hv
    · exact p4 i hi
  · rw [hc, if_neg (by omega)]; exact p7 i hi z
  · rw [ht, if_neg (by have := hh.1; omega)]; exact r1
  · rw [ht, if_neg (by have := hh.1; omega)]; exact r2
  · rw [ht, if_neg (by have := hh.1; omega)]; exact r3
  · rw [hc, ht]
    by_cases z : i = h
    · rw [if_pos z, if_pos (by omega)]
    · rw [if_neg z, if_neg (by omega)]; exact r4 i hi
  · rw [ht, if_neg (by have := hh.2; omega)]; exact r5 j j0 j1
  · rw [ht, if_neg (by have := hh.2; omega)]; exact r6 j j0 j1
theorem BV.owe {b c d u t b' c' d' u' t' : Int → Int} {f k e v : Int} (B : BV b c d u t) (hf : hs f) (hk : hs k) (he : kl e) (hfl : f < b 0) (hkl : k < b 0) (hne : f ≠ k) (hv : 0 ≤ v ∧ v ≤ 20) (hb : b' = b) (hc : c' = c) (hu : u' = u) (hd : ∀ i, d' i = if i = d3 f k e then v else d i) (ht : ∀ i, t' i = if i = 8 + d3 f k e then v else t i) : BV b' c' d' u' t' := by
  subst hb; subst hc; subst hu
  obtain ⟨⟨p1, p2, p3, p4, p5, p6, p7, p8⟩, q, r1, r2, r3, r4, r5, r6⟩ := B
  have hix := d3_75 hf hk he
  refine ⟨⟨p1, p2, p3, p4, fun f' k' e' a1 a2 a3 => ?_, fun f' e' a1 a2 => ?_, p7, fun f' k' e' a1 a2 a3 z => ?_⟩, q, ?_, ?_, ?_, fun i hi => ?_, fun j j0 j1 => ?_, fun j j0 j1 => ?_⟩
  · rw [hd]; split
    · exact hv
    · exact p5 f' k' e' a1 a2 a3
  · rw [hd, if_neg (fun z => by have := (ix_inj a1 a1 a2 hf hk he).mp z; omega)]; exact p6 f' e' a1 a2
  · rw [hd, if_neg (fun y => by have := (ix_inj a1 a2 a3 hf hk he).mp y; omega)]; exact p8 f' k' e' a1 a2 a3 z
  · rw [ht, if_neg (by omega)]; exact r1
  · rw [ht, if_neg (by omega)]; exact r2
  · rw [ht, if_neg (by omega)]; exact r3
  · rw [ht, if_neg (by have := hi.2; omega)]; exact r4 i hi
  · rw [hd, ht]
    by_cases z : j = d3 f k e
    · rw [if_pos z, if_pos (by omega)]
    · rw [if_neg z, if_neg (by omega)]; exact r5 j j0 j1
  · rw [ht, if_neg (by omega)]; exact r6 j j0 j1
theorem BV.costs {b c d u t b' c' d' u' t' : Int → Int} {x y : Int} (B : BV b c d u t) (hx : 0 ≤ x ∧ x ≤ 10) (hy : 0 ≤ y ∧ y ≤ 10) (hc : c' = c) (hd : d' = d) (hu : u' = u) (hb0 : b' 0 = b 0) (hb1 : b' 1 = x) (hb2 : b' 2 = y) (ht1 : t' 1 = x) (ht2 : t' 2 = y) (ht : ∀ i, i ≠ 1 → i ≠ 2 → t' i = t i) : BV b' c' d' u' t' := by
  subst hc; subst hd; subst hu
  obtain ⟨⟨p1, p2, p3, p4, p5, p6, p7, p8⟩, q, r1, r2, r3, r4, r5, r6⟩ := B
  refine ⟨⟨by rw [hb0]; exact p1, by rw [hb1]; exact hx, by rw [hb2]; exact hy, p4, p5, p6, by rw [hb0]; exact p7, by rw [hb0]; exact p8⟩, by rw [hb0]; exact q, by rw [hb0, ht 0 (by decide) (by decide)]; exact r1, by rw [hb1, ht1], by rw [hb2, ht2], fun i hi => ?_, fun j j0 j1 => ?_, fun j j0 j1 => ?_⟩
  · rw [ht _ (by have := hi.1; omega) (by have := hi.1; omega)]; exact r4 i hi
  · rw [ht _ (by omega) (by omega)]; exact r5 j j0 j1
  · rw [ht _ (by omega) (by omega)]; exact r6 j j0 j1
theorem BV.units {b c d u t b' c' d' u' t' : Int → Int} {f h e v : Int} (B : BV b c d u t) (hf : 0 ≤ f ∧ f < 3) (hh : hs h) (he : kl e) (hl : h < b 0) (hv : 0 ≤ v ∧ v ≤ 1000000000000) (hb : b' = b) (hc : c' = c) (hd : d' = d) (hu : ∀ i, u' i = if i = d3 f h e then v else u i) (ht : ∀ i, t' i = if i = 83 + d3 f h e then v else t i) : BV b' c' d' u' t' := by
  subst hb; subst hc; subst hd
  obtain ⟨p, ⟨q1, q2⟩, r1, r2, r3, r4, r5, r6⟩ := B
  have hix := d3_45 hf hh he
  refine ⟨p, ⟨fun j j0 j1 => ?_, fun f' h' e' a0 a1 a2 a3 z => ?_⟩, by rw [ht, if_neg (by omega)]; exact r1, by rw [ht, if_neg (by omega)]; exact r2, by rw [ht, if_neg (by omega)]; exact r3, fun i hi => ?_, fun j j0 j1 => ?_, fun j j0 j1 => ?_⟩
  · rw [hu]; split
    · exact hv
    · exact q1 j j0 j1
  · rw [hu, if_neg (fun y => by have := d3_h a2 a3 hh he y; omega)]
    exact q2 f' h' e' a0 a1 a2 a3 z
  · rw [ht, if_neg (by have := hi.2; omega)]; exact r4 i hi
  · rw [ht, if_neg (by omega)]; exact r5 j j0 j1
  · rw [hu, ht]
    by_cases z : j = d3 f h e
    · rw [if_pos z, if_pos (by omega)]
    · rw [if_neg z, if_neg (by omega)]; exact r6 j j0 j1
/-- the same in the places that count -/
theorem BV.cong {b c d u t b' c' d' u' t' : Int → Int} (B : BV b c d u t) (hb : b' 0 = b 0 ∧ b' 1 = b 1 ∧ b' 2 = b 2) (hc : ∀ h, hs h → c' h = c h) (hd : ∀ j, 0 ≤ j → j < 75 → d' j = d j) (hu : ∀ j, 0 ≤ j → j < 45 → u' j = u j) (ht : ∀ j, 0 ≤ j → j < 128 → t' j = t j) : BV b' c' d' u' t' := by
  obtain ⟨⟨p1, p2, p3, p4, p5, p6, p7, p8⟩, ⟨q1, q2⟩, r1, r2, r3, r4, r5, r6⟩ := B
  have i3 : ∀ f k e, hs f → hs k → kl e → d' (d3 f k e) = d (d3 f k e) := fun f k e a1 a2 a3 => hd _ (d3_75 a1 a2 a3).1 (d3_75 a1 a2 a3).2
  refine ⟨⟨by rw [hb.1]; exact p1, by rw [hb.2.1]; exact p2, by rw [hb.2.2]; exact p3, fun h hh => by rw [hc h hh]; exact p4 h hh, fun f k e a1 a2 a3 => by rw [i3 f k e a1 a2 a3]; exact p5 f k e a1 a2 a3, fun f e a1 a2 => by rw [i3 f f e a1 a1 a2]; exact p6 f e a1 a2, fun h hh z => by rw [hc h hh]; rw [hb.1] at z; exact p7 h hh z, fun f k e a1 a2 a3 z => by rw [i3 f k e a1 a2 a3]; rw [hb.1] at z; exact p8 f k e a1 a2 a3 z⟩,
    ⟨fun j j0 j1 => by rw [hu j j0 j1]; exact q1 j j0 j1, fun f h e a0 a1 a2 a3 z => by rw [hu _ (d3_45 ⟨a0, a1⟩ a2 a3).1 (d3_45 ⟨a0, a1⟩ a2 a3).2]; rw [hb.1] at z; exact q2 f h e a0 a1 a2 a3 z⟩, by rw [hb.1, ht 0 (by decide) (by decide)]; exact r1, by rw [hb.2.1, ht 1 (by decide) (by decide)]; exact r2, by rw [hb.2.2, ht 2 (by decide) (by decide)]; exact r3, fun h hh => by rw [hc h hh, ht _ (by omega) (by omega)]; exact r4 h hh, fun j j0 j1 => by rw [hd j j0 j1, ht _ (by omega) (by omega)]; exact r5 j j0 j1, fun j j0 j1 => by rw [hu j j0 j1, ht _ (by omega) (by omega)]; exact r6 j j0 j1⟩
theorem BV.zero {b c d u t : Int → Int} {n : Int} (hn : 2 ≤ n ∧ n ≤ 5) (hb : b 0 = n ∧ b 1 = 10 ∧ b 2 = 10) (hc : ∀ h, hs h → c h = 0) (hd : ∀ j, 0 ≤ j → j < 75 → d j = 0) (hu : ∀ j, 0 ≤ j → j < 45 → u j = 0) (ht : t 0 = n ∧ t 1 = 10 ∧ t 2 = 10 ∧ ∀ j, 3 ≤ j → j < 128 → t j = 0) : BV b c d u t := by
  have i3 : ∀ f k e, hs f → hs k → kl e → d (d3 f k e) = 0 := fun f k e a1 a2 a3 => hd _ (d3_75 a1 a2 a3).1 (d3_75 a1 a2 a3).2
  refine ⟨⟨by rw [hb.1]; exact hn, by rw [hb.2.1]; decide, by rw [hb.2.2]; decide, fun h hh => by rw [hc h hh]; decide, fun f k e a1 a2 a3 => by rw [i3 f k e a1 a2 a3]; decide, fun f e a1 a2 => i3 f f e a1 a1 a2, fun h hh _ => hc h hh, fun f k e a1 a2 a3 _ => i3 f k e a1 a2 a3⟩,
    ⟨fun j j0 j1 => by rw [hu j j0 j1]; decide, fun f h e a0 a1 a2 a3 _ => hu _ (d3_45 ⟨a0, a1⟩ a2 a3).1 (d3_45 ⟨a0, a1⟩ a2 a3).2⟩, by rw [hb.1, ht.1], by rw [hb.2.1, ht.2.1], by rw [hb.2.2, ht.2.2.1], fun h hh => by rw [hc h hh, ht.2.2.2 _ (by omega) (by omega)], fun j j0 j1 => by rw [hd j j0 j1, ht.2.2.2 _ (by omega) (by omega)], fun j j0 j1 => by rw [hu j j0 j1, ht.2.2.2 _ (by omega) (by omega)]⟩
theorem Iv.book {M M' : PM} (I : Iv M) (hA : Ag [0, 1, 2, 3, 4, 52, 53, 55] M M') (h0 : ∀ i, i ≠ 7 → i ≠ 9 → M' 0 i = M 0 i) (h7 : M' 0 7 = 1) (h9 : M' 0 9 = 1) (h52 : ∀ i, i ≠ 4 → M' 52 i = M 52 i) (h4 : M' 52 4 = 0) (b : IvB M') : Iv M' :=
  ⟨b, I.2.1.of (h0 2 (by decide) (by decide)) (h52 2 (by decide)) (hA 5 (by decide)) (hA 6 (by decide)) (hA 7 (by decide)) (hA 8 (by decide)) (hA 54 (by decide)), I.2.2.1.of (by rw [hA 45 (by decide)]) (hA 46 (by decide)) (h52 6 (by decide)) (hA 56 (by decide)), I.2.2.2.1.of (hA 47 (by decide)) (hA 48 (by decide)) (h52 32 (by decide)) (hA 71 (by decide)),
    I.2.2.2.2.1.of (hA 50 (by decide)) (hA 51 (by decide)) (hA 72 (by decide)) (hA 73 (by decide)), ⟨Or.inr h7, fun z => by rw [h7] at z; exact absurd z (by decide)⟩, ⟨Or.inr h9, fun z => by rw [h9] at z; exact absurd z (by decide)⟩, IvM.no h4⟩
/-- a call of the class, then the same call of the model -/
def Bi (K jx : Nat) (A : List PV) (jm : Nat) (A' : List PV) (M : PM) (C : Int → Int → PM → Prop) : Prop := Call K jx A P0 P0 M (retI fun r1 M1 => Call K jm A' P0 P0 M1 (retI fun r2 M2 => C r1 r2 M2))
def Bl (K jx : Nat) (A : List PV) (jm : Nat) (A' : List PV) (M : PM) (C : Int → Int → PM → Prop) : Prop := Call K jx A P0 P0 M (retL fun r1 M1 => Call K jm A' P0 P0 M1 (retL fun r2 M2 => C r1 r2 M2))
abbrev Ok32 (C : Int → Int → PM → Prop) : Prop := ∀ r M', R32 r → Iv M' → C r r M'
abbrev Ok64 (C : Int → Int → PM → Prop) : Prop := ∀ r M', R64 r → Iv M' → C r r M'
theorem mset_at (M : PM) (a : Nat) (j v i : Int) : (mset M a j v) a i = if i = j then v else M a i := by
  by_cases q : i = j
  · rw [q, mset_eq, if_pos rfl]
  · rw [if_neg q]; simp [mset, q]
theorem b_cash {K : Nat} {a v : Int} {M : PM} {C : Int → Int → PM → Prop} (I : Iv M) (h1 : R32 a) (h2 : R32 v) (hq : Ok32 C) : Bi (K + 22) jClearingWaves_cash [.inr (.inr 0), .inl a, .inl v] jModel_cash [.inr (.inr 52), .inl a, .inl v] M C := by
  have B := I.1.xb
  have hn := I.1.n
  unfold Bi
  by_cases p : 0 ≤ a ∧ a < M 1 0
  · have hs_ : hs a := ⟨p.1, by have := B.1.2; omega⟩
    refine c_x_cash (K + 21) a v M _ (x_hasHouse_y B h1 p ⟨by decide, fun _ => ?_, fun q => absurd q (by decide)⟩)
    by_cases pv : 0 ≤ v ∧ v ≤ 200
    · refine ⟨h2, fun q => absurd q (by omega), fun _ => ⟨fun _ => ⟨hs_, c_x_noteChange _ _ _ ?_⟩, fun q => absurd pv.2 q⟩⟩
      obtain ⟨M1, e1⟩ : ∃ M1, M1 = mset (mset (mset M 2 a v) 0 7 1) 0 9 1 := ⟨_, rfl⟩
      rw [← e1]
      have hA : Ag [0, 2] M M1 := by rw [e1]; exact (((Ag.rf _ _).set (by decide)).set (by decide)).set (by decide)
      have k55 : M1 55 = M 55 := hA 55 (by decide)
      have B1 : MB M1 := I.1.mb.of k55
      refine c_m_cash (K + 21) a v M1 _ (m_isHouse_y B1 h1 (by rw [k55, hn]; exact p) ⟨by decide, fun _ => ⟨h2, m_within_y h2.R64 (by decide) (by decide) pv ⟨by decide, fun q => absurd q (by decide), fun _ => c_m_tells _ _ _ _ _ ⟨⟨by omega, by omega⟩, h2, ⟨by omega, by omega⟩, ?_⟩⟩⟩, fun q => absurd q (by decide)⟩)
      rw [k55, I.1.c hs_]
      refine hq _ _ ⟨by have := B.2.2.2.1 a hs_; omega, by have := B.2.2.2.1 a hs_; omega⟩ ?_
      have e53 : M1 53 = M 53 := hA 53 (by decide)
      refine I.book (((hA.mono (by decide)).set (by decide)).set (by decide) |>.set (by decide)) (fun i i7 i9 => ?_) ?_ ?_ (fun i hi => ?_) mset_eq ⟨I.1.1.cash hs_ p.2 pv ?_ ?_ ?_ (fun i => ?_) (fun i => ?_), fun i i0 i1 => ?_⟩
      · rw [mset_ne (by decide), mset_ne (by decide), mset_ne (by decide), e1]; simp [mset, i7, i9]
      · rw [mset_ne (by decide), mset_ne (by decide), mset_ne (by decide), e1]; simp [mset]
      · rw [mset_ne (by decide), mset_ne (by decide), mset_ne (by decide), e1]; simp [mset]
      · rw [show ∀ (N : PM), (mset N 52 4 0) 52 i = N 52 i from fun N => by simp [mset, hi], mset_ne (by decide), mset_ne (by decide), hA 52 (by decide)]
      · rw [mset_ne (by decide), mset_ne (by decide), mset_ne (by decide), hA 1 (by decide)]
      · rw [mset_ne (by decide), mset_ne (by decide), mset_ne (by decide), hA 3 (by decide)]
      · rw [mset_ne (by decide), mset_ne (by decide), mset_ne (by decide), hA 4 (by decide)]
      · rw [mset_ne (by decide), mset_ne (by decide), mset_ne (by decide), e1, mset_ne (by decide), mset_ne (by decide), mset_at]
      · rw [mset_ne (by decide), mset_at, mset_ne (by decide), e53]
      · rw [mset_ne (by decide), mset_ne (by decide), mset_at, mset_ne (by decide), mset_at, mset_ne (by decide), e53, k55]
        split
        · rfl
        · exact I.1.2 i i0 i1
    · have fin : Call (K + 22) jModel_cash [.inr (.inr 52), .inl a, .inl v] P0 P0 M (retI fun r2 M2 => C (-2) r2 M2) :=
        c_m_cash (K + 21) a v M _ (m_isHouse_y I.1.mb h1 (by rw [hn]; exact p) ⟨by decide, fun _ => ⟨h2, m_within_n h2.R64 (by decide) (by decide) pv ⟨by decide, fun _ => hq _ _ (by decide) I, fun q => absurd rfl q⟩⟩, fun q => absurd q (by decide)⟩)
      exact ⟨h2, fun _ => fin, fun _ => ⟨fun q => absurd ⟨by omega, q⟩ pv, fun _ => fin⟩⟩
  · refine c_x_cash (K + 21) a v M _ (x_hasHouse_n B h1 p ⟨by decide, fun q => absurd rfl q, fun _ => ?_⟩)
    exact c_m_cash (K + 21) a v M _ (m_isHouse_n I.1.mb h1 (by rw [hn]; exact p) ⟨by decide, fun q => absurd rfl q, fun _ => hq _ _ (by decide) I⟩)
