/-! CAUSES: cause, chain, root, pulls -/
def cb (wv lk : Int → Int) (h : Int) : Nat → Int
  | 0 => -5
  | k + 1 => if 0 < wv (k : Int) ∧ wv (k : Int) < wv h ∧ (cb wv lk h k < 0 ∨ lk (cb wv lk h k) < lk (k : Int)) then (k : Int) else cb wv lk h k
theorem cb_p {wv lk : Int → Int} {h : Int} : ∀ k : Nat, cb wv lk h k = -5 ∨ (0 ≤ cb wv lk h k ∧ cb wv lk h k < (k : Int) ∧ 0 < wv (cb wv lk h k) ∧ wv (cb wv lk h k) < wv h) := by
  intro k
  induction k with
  | zero => exact Or.inl rfl
  | succ k ih =>
    unfold cb
    split
    next c => exact Or.inr ⟨by omega, by omega, c.1, c.2.1⟩
    next c => rcases ih with z | z
              · exact Or.inl z
              · exact Or.inr ⟨z.1, by omega, z.2.2.1, z.2.2.2⟩
theorem cb_some {wv lk : Int → Int} {h : Int} : ∀ k : Nat, (∃ j : Int, 0 ≤ j ∧ j < (k : Int) ∧ 0 < wv j ∧ wv j < wv h) → 0 ≤ cb wv lk h k := by
  intro k
  induction k with
  | zero => rintro ⟨j, h0, h1, _⟩; omega
  | succ k ih =>
    rintro ⟨j, h0, h1, h2, h3⟩
    unfold cb
    split
    next c => omega
    next c =>
      have p := cb_p (wv := wv) (lk := lk) (h := h) k
      by_cases e : j = (k : Int)
      · rcases p with z | z
        · exact absurd ⟨e ▸ h2, e ▸ h3, Or.inl (by omega)⟩ c
        · exact z.1
      · exact ih ⟨j, h0, by omega, h2, h3⟩
def cst (g : Ck) (n : Int) (X : Int → Int → Int → Int) (D wv : Int → Int) (h : Int) : Int := cb wv (fun f => lck g (X (wv h - 1)) (D (wv h - 1)) h f) h n.toNat
def sg (a : Int) : Int := if a < 0 then -1 else a
theorem cst_p {g : Ck} {n : Int} {X : Int → Int → Int → Int} {D wv : Int → Int} {h : Int} (hn : 0 ≤ n) : cst g n X D wv h = -5 ∨ (0 ≤ cst g n X D wv h ∧ cst g n X D wv h < n ∧ 0 < wv (cst g n X D wv h) ∧ wv (cst g n X D wv h) < wv h) := by
  have p := cb_p (wv := wv) (lk := fun f => lck g (X (wv h - 1)) (D (wv h - 1)) h f) (h := h) n.toNat
  unfold cst
  rcases p with z | z
  · exact Or.inl z
  · exact Or.inr ⟨z.1, by omega, z.2.2.1, z.2.2.2⟩
/-- where a house fails, some house fails first -/
theorem clr_first {g : Ck} {n : Int} {X : Int → Int → Int → Int} {D : Int → Int} {W s : Int} {wv : Int → Int} (c : Clr g n X D W s wv) {h : Int} (hh : hs h) (h1 : 1 ≤ wv h) : ∃ k, hs k ∧ k < n ∧ wv k = 1 := by
  obtain ⟨c1, c2, F, R, c4, c5, c6⟩ := c
  have w0 := c6 h hh
  have hW : 1 ≤ W := by
    cases z : F W h
    · have := w0.1 z; omega
    · have := w0.2 z; omega
  obtain ⟨st, k, hk, k0, k1⟩ := R.2.2 0 (by omega) (by omega)
  have e := st k hk
  rw [k1, k0] at e
  have kn : k < n := by
    by_cases z : k < n
    · exact z
    · rw [decide_eq_false z] at e; simp at e
  have m := R.mono hk
  have wk := c6 k hk
  have kW : F W k = true := by
    have := m (W - 1).toNat (0 + 1) (by omega) (by omega) k1
    rw [show (0 + 1 + (((W - 1).toNat : Nat) : Int)) = W by omega] at this
    exact this
  have b := wk.2 kW
  refine ⟨k, hk, kn, ?_⟩
  by_cases z : wv k = 1
  · exact z
  · have := m (wv k - 2).toNat (0 + 1) (by omega) (by omega) k1
    rw [show (0 + 1 + (((wv k - 2).toNat : Nat) : Int)) = wv k - 1 by omega, b.2.2.2] at this
    exact absurd this (by decide)
theorem cst_0 {g : Ck} {n : Int} {X : Int → Int → Int → Int} {D : Int → Int} {W s : Int} {wv : Int → Int} (c : Clr g n X D W s wv) (hn : 0 ≤ n) {h : Int} (hh : hs h) : cst g n X D wv h < 0 ↔ wv h ≤ 1 := by
  constructor
  · intro z
    by_cases q : wv h ≤ 1
    · exact q
    · obtain ⟨k, hk, kn, k1⟩ := clr_first c hh (by omega)
      have : 0 ≤ cst g n X D wv h := cb_some n.toNat ⟨k, hk.1, by omega, by omega, by omega⟩
      omega
  · intro z
    rcases cst_p (g := g) (n := n) (X := X) (D := D) (wv := wv) (h := h) hn with q | q <;> omega
theorem x_causeOf {K : Nat} {h : Int} {M : PM} {X : Int → Int → Int → Int} {D : Int → Int} {Q : Option PV → PM → Prop} (B : XB M) (cf : CF M X D) (hh : hs h) (hq : Q (some (.inl (sg (cst (cp_g M) (M 1 0) X D (M 12) h)))) M) : Call (K + 3) jClearing_causeOf [.inr (.inr 11), .inl h] P0 P0 M Q := by
  have hn : 1 ≤ M 1 0 ∧ M 1 0 ≤ 5 := ⟨by have := B.1; omega, by have := B.1; omega⟩
  have O := xb_ok B
  have W := cf.2.1
  have wv : ∀ f, hs f → 0 ≤ M 12 f ∧ M 12 f ≤ M 11 0 := cf.2.2.2.2.2.2
  have wh := wv h hh
  let lk : Int → Int := fun f => lck (cp_g M) (X (M 12 h - 1)) (D (M 12 h - 1)) h f
  let cv : Nat → Int := fun k => cb (M 12) lk h k
  have go : ∀ (m : Nat) (k : Nat), M 1 0 - (k : Int) = (m : Int) → G none (K + 2 + 1) jClearing_causeOf 17 [(0, .inr (.inr 11)), (1, .inl h), (2, .inl (M 12 h)), (3, .inl (sg (cv k))), (4, .inr (.inl (if cv k < 0 then -1 else lk (cv k)))), (6, .inl (k : Int))] [] P0 P0 M Q := by
    intro m
    induction m with
    | zero =>
      intro k hk
      refine g_cp_causeOf_17 _ _ _ _ _ _ _ _ ⟨⟨by omega, by omega⟩, ⟨by omega, by omega⟩, fun _ => ?_, fun z => absurd z (by omega)⟩
      have e : cst (cp_g M) (M 1 0) X D (M 12) h = cv k := by
        show cb (M 12) lk h (M 1 0).toNat = cb (M 12) lk h k
        rw [show (M 1 0).toNat = k by omega]
      rw [e] at hq
      exact hq
    | succ m ih =>
      intro k hk
      have kh : hs (k : Int) := ⟨by omega, by omega⟩
      have wk := wv (k : Int) kh
      have p := cb_p (wv := M 12) (lk := lk) (h := h) k
      have nx := ih (k + 1) (by omega)
      rw [show ((k + 1 : Nat) : Int) = (k : Int) + 1 by omega] at nx
      have same : ¬ (0 < M 12 (k : Int) ∧ M 12 (k : Int) < M 12 h ∧ (cv k < 0 ∨ lk (cv k) < lk (k : Int))) → cv (k + 1) = cv k := fun z => by
        show cb (M 12) lk h (k + 1) = _
        unfold cb
        rw [if_neg z]
      have new : (0 < M 12 (k : Int) ∧ M 12 (k : Int) < M 12 h ∧ (cv k < 0 ∨ lk (cv k) < lk (k : Int))) → cv (k + 1) = (k : Int) := fun z => by
        show cb (M 12) lk h (k + 1) = _
        unfold cb
        rw [if_pos z]
      have sgR : R32 (sg (cv k)) := by
        show R32 (sg (cb (M 12) lk h k))
        unfold sg
        split
        · decide
        · exact ⟨by omega, by omega⟩
      refine g_cp_causeOf_17 _ _ _ _ _ _ _ _ ⟨⟨by omega, by omega⟩, ⟨by omega, by omega⟩, fun z => absurd z (by omega), fun _ => ⟨⟨by omega, by omega⟩, fun z1 => ?_, fun z1 => ⟨kh, ⟨by omega, by omega⟩, fun z2 => ?_, fun z2 => ⟨fun z3 => ?_, fun z3 => ?_⟩⟩⟩⟩
      · have e : cst (cp_g M) (M 1 0) X D (M 12) h = -5 := by
          rcases cst_p (g := cp_g M) (n := M 1 0) (X := X) (D := D) (wv := M 12) (h := h) (by omega) with q | q
          · exact q
          · omega
        have e2 : cv k = -5 := by
          rcases p with q | q
          · exact q
          · omega
        rw [e] at hq
        rw [e2]
        exact hq
      · rw [same (by omega)] at nx; exact nx
      · have f0 : (0 : Int) ≤ M 12 h - 1 := by omega
        have f1 : M 12 h - 1 ≤ M 11 0 := by omega
        have dp := cf.2.2.1 (M 12 h - 1) f0 f1
        have lb : ∀ f, hs f → 0 ≤ lk f ∧ lk f ≤ 60 * D (M 12 h - 1) := fun f hf => lck_b O dp.2.1 hh hf
        have lbk := lb (k : Int) kh
        refine x_missing B ⟨by omega, by omega⟩ hh kh ?_
        rw [cf_lck cf f0 f1 kh]
        show R64 (lk (k : Int)) ∧ R64 (if cv k < 0 then -1 else lk (cv k)) ∧ _
        have vR : -1 ≤ (if cv k < 0 then -1 else lk (cv k)) ∧ (if cv k < 0 then -1 else lk (cv k)) ≤ 60 * D (M 12 h - 1) := by
          split
          · exact ⟨by omega, by omega⟩
          next q =>
            have := lb (cv k) (by
              show hs (cb (M 12) lk h k)
              rcases p with q' | q'
              · exact absurd (show cb (M 12) lk h k < 0 by omega) q
              · exact ⟨q'.1, by omega⟩)
            exact ⟨by omega, by omega⟩
        have d1 := dp.1
        refine ⟨⟨by omega, by omega⟩, ⟨by omega, by omega⟩, fun z4' => ?_, fun z4' => ?_⟩
        · have z4 : lk (k : Int) ≤ (if cv k < 0 then -1 else lk (cv k)) := z4'
          rw [same (fun q => ?_)] at nx
          · exact nx
          · rcases q.2.2 with q' | q'
            · rw [if_pos q'] at z4; omega
            · by_cases q2 : cv k < 0
              · rw [if_pos q2] at z4; omega
              · rw [if_neg q2] at z4; omega
        · have z4 : ¬ lk (k : Int) ≤ (if cv k < 0 then -1 else lk (cv k)) := z4'
          rw [new ⟨by omega, z3, ?_⟩] at nx
          · rw [show sg (k : Int) = (k : Int) by unfold sg; rw [if_neg (by omega)], if_neg (by omega)] at nx
            exact nx
          · by_cases q2 : cv k < 0
            · exact Or.inl q2
            · rw [if_neg q2] at z4; exact Or.inr (by omega)
      · rw [same (by omega)] at nx; exact nx
  exact c_cp_causeOf (K + 2) h M Q ⟨hh, go (M 1 0).toNat 0 (by omega)⟩
theorem m_causeOf {K : Nat} {h : Int} {M : PM} {X : Int → Int → Int → Int} {D : Int → Int} {Q : Option PV → PM → Prop} (I : Iv M) (cf : CF M X D) (j1 : M 52 9 = M 11 0) (j3 : ∀ h, hs h → M 60 h = M 12 h) (j4 : MA M X D) (hh : hs h) (hq : Q (some (.inl (cst (cp_g M) (M 1 0) X D (M 12) h))) M) : Call (K + 4) jModel_causeOf [.inr (.inr 52), .inl h] P0 P0 M Q := by
  have B := I.1.xb
  have hn : 1 ≤ M 1 0 ∧ M 1 0 ≤ 5 := ⟨by have := B.1; omega, by have := B.1; omega⟩
  have O := xb_ok B
  have W := cf.2.1
  have wv : ∀ f, hs f → 0 ≤ M 12 f ∧ M 12 f ≤ M 11 0 := cf.2.2.2.2.2.2
  have wh := wv h hh
  have en : M 55 0 = M 1 0 := I.1.n
  let lk : Int → Int := fun f => lck (cp_g M) (X (M 12 h - 1)) (D (M 12 h - 1)) h f
  let cv : Nat → Int := fun k => cb (M 12) lk h k
  have go : ∀ (m : Nat) (k : Nat), M 1 0 - (k : Int) = (m : Int) → G none (K + 3 + 1) jModel_causeOf 5 [(0, .inr (.inr 52)), (1, .inl h), (2, .inl (cv k)), (3, .inl (k : Int))] [] P0 P0 M Q := by
    intro m
    induction m with
    | zero =>
      intro k hk
      refine g_m_causeOf_5 _ _ _ _ _ _ ⟨⟨by omega, by omega⟩, ⟨by omega, by omega⟩, fun _ => ?_, fun z => absurd z (by omega)⟩
      have e : cst (cp_g M) (M 1 0) X D (M 12) h = cv k := by
        show cb (M 12) lk h (M 1 0).toNat = cb (M 12) lk h k
        rw [show (M 1 0).toNat = k by omega]
      rw [e] at hq
      exact hq
    | succ m ih =>
      intro k hk
      have kh : hs (k : Int) := ⟨by omega, by omega⟩
      have wk := wv (k : Int) kh
      have p := cb_p (wv := M 12) (lk := lk) (h := h) k
      have nx := ih (k + 1) (by omega)
      rw [show ((k + 1 : Nat) : Int) = (k : Int) + 1 by omega] at nx
      have same : ¬ (0 < M 12 (k : Int) ∧ M 12 (k : Int) < M 12 h ∧ (cv k < 0 ∨ lk (cv k) < lk (k : Int))) → cv (k + 1) = cv k := fun z => by
        show cb (M 12) lk h (k + 1) = _
        unfold cb
        rw [if_neg z]
      have new : (0 < M 12 (k : Int) ∧ M 12 (k : Int) < M 12 h ∧ (cv k < 0 ∨ lk (cv k) < lk (k : Int))) → cv (k + 1) = (k : Int) := fun z => by
        show cb (M 12) lk h (k + 1) = _
        unfold cb
        rw [if_pos z]
      have cR : R32 (cv k) := by
        show R32 (cb (M 12) lk h k)
        rcases p with q | q
        · rw [q]; decide
        · exact ⟨by omega, by omega⟩
      refine g_m_causeOf_5 _ _ _ _ _ _ ⟨⟨by omega, by omega⟩, ⟨by omega, by omega⟩, fun z => absurd z (by omega), fun _ => ⟨kh, by rw [j3 _ kh]; exact ⟨by omega, by omega⟩, fun z1 => ?_, fun z1 => ⟨hh, by rw [j3 _ hh]; exact ⟨by omega, by omega⟩, fun z2 => ?_, fun z2 => ⟨cR, fun z3 => ?_, fun z3 => ?_⟩⟩⟩⟩
      · rw [j3 _ kh] at z1
        rw [same (by omega)] at nx; exact nx
      · rw [j3 _ kh, j3 _ hh] at z2
        rw [same (by omega)] at nx; exact nx
      · rw [j3 _ kh] at z1 z2
        rw [j3 _ hh] at z2
        rw [new ⟨by omega, by omega, Or.inl z3⟩] at nx; exact nx
      · rw [j3 _ kh] at z1 z2
        rw [j3 _ hh] at z2
        have f0 : (0 : Int) ≤ M 12 h - 1 := by omega
        have f1 : M 12 h - 1 ≤ M 11 0 := by omega
        have dp := cf.2.2.1 (M 12 h - 1) f0 f1
        have d1 := dp.1
        have lb : ∀ f, hs f → 0 ≤ lk f ∧ lk f ≤ 60 * D (M 12 h - 1) := fun f hf => lck_b O dp.2.1 hh hf
        have lbk := lb (k : Int) kh
        have ch : hs (cv k) := by
          show hs (cb (M 12) lk h k)
          rcases p with q | q
          · exact absurd (show cb (M 12) lk h k < 0 by omega) z3
          · exact ⟨q.1, by omega⟩
        have lbc := lb (cv k) ch
        rw [j3 _ hh]
        refine m_lacksIn I.1.mb ⟨by omega, by omega⟩ hh kh ?_
        rw [ma_lck I j4 f0 (by omega) hh kh]
        show Call (K + 3) jModel_lacksIn [.inr (.inr 52), .inl (M 60 h - 1), .inl h, .inl (cv k)] P0 P0 M _
        rw [j3 _ hh]
        refine m_lacksIn I.1.mb ⟨by omega, by omega⟩ hh ch ?_
        rw [ma_lck I j4 f0 (by omega) hh ch]
        refine ⟨⟨by show _ ≤ lk _; omega, by show lk _ < _; omega⟩, ⟨by show _ ≤ lk _; omega, by show lk _ < _; omega⟩, fun z4 => ?_, fun z4 => ?_⟩
        · have z5 : lk (k : Int) ≤ lk (cv k) := z4
          rw [same (fun q => by rcases q.2.2 with q' | q' <;> omega)] at nx
          exact nx
        · have z5 : ¬ lk (k : Int) ≤ lk (cv k) := z4
          rw [new ⟨by omega, by omega, Or.inr (by omega)⟩] at nx
          exact nx
  exact c_m_causeOf (K + 3) h M Q (go (M 1 0).toNat 0 (by omega))
