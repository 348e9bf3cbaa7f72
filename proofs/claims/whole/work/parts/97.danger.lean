/-! DANGER: the house whose want of all coins fells the most -/
theorem c6_5 {s : Int} (h : 0 ≤ s ∧ s < 32) : 0 + b2i (tb s 0) + b2i (tb s 1) + b2i (tb s 2) + b2i (tb s 3) + b2i (tb s 4) = c6 s := by
  have k : ∀ i : Fin 32, 0 + b2i (tb ((i.val : Nat) : Int) 0) + b2i (tb ((i.val : Nat) : Int) 1) + b2i (tb ((i.val : Nat) : Int) 2) + b2i (tb ((i.val : Nat) : Int) 3) + b2i (tb ((i.val : Nat) : Int) 4) = c6 ((i.val : Nat) : Int) := by decide +kernel
  exact fin_all (n := 32) (P := fun s => 0 + b2i (tb s 0) + b2i (tb s 1) + b2i (tb s 2) + b2i (tb s 3) + b2i (tb s 4) = c6 s) k h.1 h.2
theorem m_sizeOf {K : Nat} {s : Int} {M : PM} {Q : Option PV → PM → Prop} (h : 0 ≤ s ∧ s < 32) (hq : Q (some (.inl (c6 s))) M) : Call (K + 1) jModel_sizeOf [.inl s] P0 P0 M Q := by
  have ms_ : ms s := ⟨h.1, by omega⟩
  have st : ∀ (k v : Int), hs k → G none (K + 1) jModel_sizeOf 4 [(0, .inl s), (1, .inl (v + b2i (tb s k))), (2, .inl (k + 1))] [] P0 P0 M Q → G none (K + 1) jModel_sizeOf 4 [(0, .inl s), (1, .inl v), (2, .inl k)] [] P0 P0 M Q := fun k v hk go => by
    refine g_model_sizeOf_4 _ _ _ _ _ _ ⟨⟨by omega, by omega⟩, fun z => absurd z (by omega), fun _ => ?_⟩
    rw [bit_get ms_ ⟨hk.1, by omega⟩]
    exact go
  refine c_model_sizeOf K s M Q (st 0 0 (by decide) (st 1 _ (by decide) (st 2 _ (by decide) (st 3 _ (by decide) (st 4 _ (by decide) ?_)))))
  refine g_model_sizeOf_4 _ _ _ _ _ _ ⟨by decide, fun _ => ?_, fun z => absurd (by decide) z⟩
  rw [c6_5 h]
  exact hq
def Dgr (M : PM) (k who size : Int) : Prop := (k = 0 ∧ size = -1) ∨ ((0 ≤ who ∧ who < k) ∧ (∃ s, FS (xE M who (-200)) (M 1 0) s ∧ size = c6 s) ∧ (∀ j, 0 ≤ j → j < k → ∃ s, FS (xE M j (-200)) (M 1 0) s ∧ c6 s ≤ size) ∧ ∀ j, 0 ≤ j → j < who → ∃ s, FS (xE M j (-200)) (M 1 0) s ∧ c6 s < size)
theorem Dgr.uniq {M : PM} {k who size who' size' : Int} (B : XB M) (hk : 0 < k) (a : Dgr M k who size) (b : Dgr M k who' size') : who = who' := by
  have key : ∀ {w z w' z' : Int}, Dgr M k w z → Dgr M k w' z' → ¬ w < w' := fun {w z w' z'} a b q => by
    rcases a with a | ⟨a0, ⟨s, f, e⟩, a2, a3⟩
    · omega
    rcases b with b | ⟨b0, ⟨s', f', e'⟩, b2, b3⟩
    · omega
    obtain ⟨t, g, l⟩ := b3 w a0.1 q
    obtain ⟨t', g', l'⟩ := a2 w' b0.1 b0.2
    have e1 := FS.uniq (xE_ok B (by decide)) f g
    have e2 := FS.uniq (xE_ok B (by decide)) f' g'
    rw [← e1, ← e] at l
    rw [← e2, ← e'] at l'
    omega
  have x := key a b
  have y := key b a
  omega
theorem Dgr.size {M : PM} {k who size : Int} (a : Dgr M k who size) : -1 ≤ size ∧ size ≤ 6 := by
  rcases a with a | ⟨a0, ⟨s, f, e⟩, a2, a3⟩
  · omega
  · have := (c6_b (s := s) ⟨f.b.1.1, by have := f.b.1.2; omega⟩).1
    omega
theorem Dgr.no {M : PM} {k who size s : Int} (h0 : 0 ≤ k) (a : Dgr M k who size) (f : FS (xE M k (-200)) (M 1 0) s) (hl : c6 s ≤ size) : Dgr M (k + 1) who size := by
  have c := (c6_b (s := s) ⟨f.b.1.1, by have := f.b.1.2; omega⟩).1
  rcases a with a | ⟨a0, a1, a2, a3⟩
  · omega
  · refine Or.inr ⟨⟨a0.1, by omega⟩, a1, fun j j0 j1 => ?_, a3⟩
    by_cases q : j = k
    · exact ⟨s, by rw [q]; exact f, hl⟩
    · exact a2 j j0 (by omega)
theorem Dgr.yes {M : PM} {k who size s : Int} (h0 : 0 ≤ k) (a : Dgr M k who size) (f : FS (xE M k (-200)) (M 1 0) s) (hl : ¬ c6 s ≤ size) : Dgr M (k + 1) k (c6 s) := by
  refine Or.inr ⟨⟨h0, by omega⟩, ⟨s, f, rfl⟩, fun j j0 j1 => ?_, fun j j0 j1 => ?_⟩
  · by_cases q : j = k
    · exact ⟨s, by rw [q]; exact f, by omega⟩
    · rcases a with a | ⟨a0, a1, a2, a3⟩
      · omega
      · obtain ⟨t, g, l⟩ := a2 j j0 (by omega)
        exact ⟨t, g, by omega⟩
  · rcases a with a | ⟨a0, a1, a2, a3⟩
    · omega
    · obtain ⟨t, g, l⟩ := a2 j j0 (by omega)
      exact ⟨t, g, by omega⟩
theorem xE_all {M : PM} {h : Int} (B : XB M) (hh : hs h) : xE M h (-(M 2 h)) = xE M h (-200) := by
  unfold xE
  congr 2
  congr 1
  funext k
  by_cases q : k = h
  · rw [if_pos q, if_pos q, q]
    have := B.2.2.2.1 h hh
    unfold mx2
    split <;> split <;> omega
  · rw [if_neg q, if_neg q]
theorem b_danger {K : Nat} {M : PM} {C : Int → Int → PM → Prop} (I : Iv M) (hq : Ok32 C) : Bi (K + 22) jClearingWaves_danger [.inr (.inr 0)] jModel_danger [.inr (.inr 52)] M C := by
  have B := I.1.xb
  have B1 := B.1
  unfold Bi
  have back : ∀ (M1 : PM) (who size : Int), Iv M1 → (∀ h x, xE M1 h x = xE M h x) → M1 1 0 = M 1 0 → Dgr M (M 1 0) who size → Call (K + 21 + 1) jModel_danger [.inr (.inr 52)] P0 P0 M1 (retI fun r2 M' => C who r2 M') := by
    intro M1 who size I1 e1 en dg
    have loop : ∀ (n : Nat) (k w z : Int) (M2 : PM), M 1 0 - k = (n : Int) → 0 ≤ k → Ag trm M1 M2 → Iv M2 → Dgr M k w z → (k = 0 → w = -1) → G none (K + 21 + 1) jModel_danger 6 [(0, .inr (.inr 52)), (1, .inl w), (2, .inl z), (3, .inl k)] [] P0 P0 M2 (retI fun r2 M' => C who r2 M') := by
      intro n
      induction n with
      | zero =>
        intro k w z M2 hk k0 hA2 I2 d _
        have e2 := ag_xE hA2 (by decide) (by decide) (by decide)
        refine g_m_danger_6 _ _ _ _ _ _ ⟨⟨by omega, by omega⟩, by rw [I2.1.n, e2.2, en]; exact ⟨by omega, by omega⟩, fun _ => ?_, fun q => absurd (by rw [I2.1.n, e2.2, en]; omega) q⟩
        show C who w M2
        rw [show k = M 1 0 by omega] at d
        rw [← dg.uniq B (by omega) d]
        refine hq _ _ ?_ I2
        rcases dg with q | q
        · omega
        · exact ⟨by omega, by omega⟩
      | succ n ih =>
        intro k w z M2 hk k0 hA2 I2 d _
        have e2 := ag_xE hA2 (by decide) (by decide) (by decide)
        refine g_m_danger_6 _ _ _ _ _ _ ⟨⟨by omega, by omega⟩, by rw [I2.1.n, e2.2, en]; exact ⟨by omega, by omega⟩, fun q => absurd q (by rw [I2.1.n, e2.2, en]; omega), fun _ => m_failsIf2 I2 ⟨k0, by omega⟩ (by decide) (fun M3 s hA3 I3 f => m_sizeOf f.b.1 ?_)⟩
        rw [e2.1, e1, e2.2, en] at f
        have c := (c6_b (s := s) ⟨f.b.1.1, by have := f.b.1.2; omega⟩).1
        have zz := d.size
        exact ⟨⟨by omega, by omega⟩, ⟨by omega, by omega⟩, fun q => ih (k + 1) w z M3 (by omega) (by omega) (hA2.tr hA3) I3 (d.no k0 f q) (fun q => by omega), fun q => ih (k + 1) k _ M3 (by omega) (by omega) (hA2.tr hA3) I3 (d.yes k0 f q) (fun q => by omega)⟩
    exact c_m_danger (K + 21) M1 _ (loop (M 1 0).toNat 0 (-1) (-1) M1 (by omega) (by decide) (Ag.rf _ _) I1 (Or.inl ⟨rfl, rfl⟩) (fun _ => rfl))
  have loop : ∀ (n : Nat) (k w z : Int) (M1 : PM), M 1 0 - k = (n : Int) → 0 ≤ k → Ag trx M M1 → Iv M1 → Dgr M k w z → G none (K + 21 + 1) jClearingWaves_danger 6 [(0, .inr (.inr 0)), (1, .inl z), (2, .inl w), (3, .inl k)] [] P0 P0 M1 (retI fun r1 M2 => Call (K + 22) jModel_danger [.inr (.inr 52)] P0 P0 M2 (retI fun r2 M' => C r1 r2 M')) := by
    intro n
    induction n with
    | zero =>
      intro k w z M1 hk k0 hA I1 d
      have e1 := ag_xE hA (by decide) (by decide) (by decide)
      refine g_x_danger_6 _ _ _ _ _ _ ⟨⟨by omega, by omega⟩, by rw [e1.2]; exact ⟨by omega, by omega⟩, fun _ => ?_, fun q => absurd (by rw [e1.2]; omega) q⟩
      rw [show k = M 1 0 by omega] at d
      exact back M1 w z I1 e1.1 e1.2 d
    | succ n ih =>
      intro k w z M1 hk k0 hA I1 d
      have e1 := ag_xE hA (by decide) (by decide) (by decide)
      have kh : hs k := ⟨k0, by omega⟩
      have kc := I1.1.xb.2.2.2.1 k kh
      refine g_x_danger_6 _ _ _ _ _ _ ⟨⟨by omega, by omega⟩, by rw [e1.2]; exact ⟨by omega, by omega⟩, fun q => absurd q (by rw [e1.2]; omega), fun _ => ⟨kh, x_failsWith I1 kh (by omega) (fun M2 s hA2 I2 f => x_bitCount ⟨f.b.1.1, by have := f.b.1.2; omega⟩ ?_)⟩⟩
      rw [xE_all I1.1.xb kh, e1.1, e1.2] at f
      have c := (c6_b (s := s) ⟨f.b.1.1, by have := f.b.1.2; omega⟩).1
      have zz := d.size
      exact ⟨⟨by omega, by omega⟩, ⟨by omega, by omega⟩, fun q => ih (k + 1) w z M2 (by omega) (by omega) (hA.tr hA2) I2 (d.no k0 f q), fun q => ih (k + 1) k _ M2 (by omega) (by omega) (hA.tr hA2) I2 (d.yes k0 f q)⟩
  exact c_x_danger (K + 21) M _ (loop (M 1 0).toNat 0 0 (-1) M (by omega) (by decide) (Ag.rf _ _) I (Or.inl ⟨rfl, rfl⟩))
