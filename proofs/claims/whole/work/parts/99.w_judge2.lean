/-! TOLD PARTS: class and model -/
theorem gt_out {g : Ck} {n h : Int} {T : Int → Int → Int} (hn : 2 ≤ n ∧ n ≤ 5) (hz : ∀ k c, hs k → n ≤ k → kl c → ckO g k h c = 0) : pcs (fun k => s3 fun c => ckO g k h c * T k c) n.toNat = gt g T h := by
  rw [pcs_n5 hn (fun k hk hk2 => by
    simp only [s3]
    rw [hz k 0 hk hk2 (by decide), hz k 1 hk hk2 (by decide), hz k 2 hk hk2 (by decide)]
    omega)]
  rfl
theorem x_incomeByTold {K : Nat} {h : Int} {T : Int → Int → Int} {M : PM} {Q : Option PV → PM → Prop} (B : XB M) (hh : hs h) (hT : ∀ k c, hs k → k < M 1 0 → kl c → M 44 ((k * 3) + c) = T k c) (hq : Q (some (.inr (.inl (gt (cp_g M) T h)))) M) : Call (K + 2) jTold_incomeByTold [.inr (.inr 43), .inr (.inr 1), .inl h] P0 P0 M Q := by
  have hn := B.1
  have in_ : ∀ (f v : Int), hs f → f < M 1 0 → G none (K + 1 + 1) jTold_incomeByTold 5 [(0, .inr (.inr 43)), (1, .inr (.inr 1)), (2, .inl h), (3, .inr (.inl (v + s3 fun c => xo M f h c * T f c))), (5, .inl (f + 1))] [] P0 P0 M Q →
      G none (K + 1 + 1) jTold_incomeByTold 17 [(0, .inr (.inr 43)), (1, .inr (.inr 1)), (2, .inl h), (3, .inr (.inl v)), (5, .inl f), (6, .inl 0)] [] P0 P0 M Q := by
    intro f v hf hl hg
    have st : ∀ (c v' : Int), kl c → G none (K + 1 + 1) jTold_incomeByTold 17 [(0, .inr (.inr 43)), (1, .inr (.inr 1)), (2, .inl h), (3, .inr (.inl (v' + xo M f h c * T f c))), (5, .inl f), (6, .inl (c + 1))] [] P0 P0 M Q →
        G none (K + 1 + 1) jTold_incomeByTold 17 [(0, .inr (.inr 43)), (1, .inr (.inr 1)), (2, .inl h), (3, .inr (.inl v')), (5, .inl f), (6, .inl c)] [] P0 P0 M Q := by
      intro c v' hc hg'
      have hb := B.2.2.2.2.1 f h c hf hh hc
      refine g_to_incomeByTold_17 _ _ _ _ _ _ _ ⟨⟨by omega, by omega⟩, fun q => absurd q (by omega), fun _ => x_amount phk_1_P0 hf hh hc ⟨⟨by omega, by omega⟩, ⟨by omega, by omega⟩, ?_⟩⟩
      rw [hT f c hf hl hc]
      exact hg'
    refine st 0 v (by decide) (st 1 _ (by decide) (st 2 _ (by decide) ?_))
    refine g_to_incomeByTold_17 _ _ _ _ _ _ _ ⟨by decide, fun _ => ?_, fun q => absurd (by decide) q⟩
    have e : v + xo M f h 0 * T f 0 + xo M f h 1 * T f 1 + xo M f h 2 * T f 2 = v + s3 fun c => xo M f h c * T f c := by simp only [s3]; omega
    show G none (K + 1 + 1) jTold_incomeByTold 5 [(0, .inr (.inr 43)), (1, .inr (.inr 1)), (2, .inl h), (3, .inr (.inl (v + xo M f h 0 * T f 0 + xo M f h 1 * T f 1 + xo M f h 2 * T f 2))), (5, .inl (f + 1))] [] P0 P0 M Q
    rw [e]
    exact hg
  have out : ∀ (m : Nat) (f v : Int), 0 ≤ f → f + (m : Int) = M 1 0 → v = pcs (fun f => s3 fun c => xo M f h c * T f c) f.toNat → G none (K + 1 + 1) jTold_incomeByTold 5 [(0, .inr (.inr 43)), (1, .inr (.inr 1)), (2, .inl h), (3, .inr (.inl v)), (5, .inl f)] [] P0 P0 M Q := by
    intro m
    induction m with
    | zero =>
      intro f v h0 hf hv
      refine g_to_incomeByTold_5 _ _ _ _ _ _ ⟨⟨by omega, by omega⟩, ⟨by omega, by omega⟩, fun _ => ?_, fun q => absurd (by omega) q⟩
      have e : v = gt (cp_g M) T h := by
        rw [hv, show f = M 1 0 by omega]
        exact gt_out (g := cp_g M) (T := T) hn (fun k c hk hl hc => B.2.2.2.2.2.2.2 k h c hk hh hc (Or.inl hl))
      rw [e]
      exact hq
    | succ m ih =>
      intro f v h0 hf hv
      refine g_to_incomeByTold_5 _ _ _ _ _ _ ⟨⟨by omega, by omega⟩, ⟨by omega, by omega⟩, fun q => absurd q (by omega), fun _ => in_ f v ⟨h0, by omega⟩ (by omega) (ih (f + 1) _ (by omega) (by omega) ?_)⟩
      rw [hv, pcs_up _ h0]
  exact c_to_incomeByTold (K + 1) h M Q (out (M 1 0).toNat 0 0 (by decide) (by omega) rfl)
/-- the three classes of a house, one behind the other -/
theorem ag3_walk {f r B : Int} {d t w : Int → Int} {S : Int → Int → Prop} {Y N : Prop} (hY : ag3 f r d t w B → Y) (hN : ¬ ag3 f r d t w B → N) (st : ∀ c r', kl c → (0 ≤ r ∧ r ≤ 5000000000000000000 → 0 ≤ r' ∧ r' ≤ 5000000000000000000) → (okp (d c) B (t c) (pyy f r' (w c)) → S (c + 1) (nx f r' (w c))) → (¬ okp (d c) B (t c) (pyy f r' (w c)) → N) → S c r') (hw : ∀ c, kl c → 0 ≤ w c) (fin : ∀ r', Y → S 3 r') : S 0 r := by
  have nb : ∀ c r', kl c → (0 ≤ r' ∧ r' ≤ 5000000000000000000) → 0 ≤ nx f r' (w c) ∧ nx f r' (w c) ≤ 5000000000000000000 := fun c r' hc h => by
    have := hw c hc
    unfold nx mn2
    split
    · exact h
    · split
      · omega
      · omega
  refine st 0 r (by decide) (fun h => h) (fun o0 => ?_) (fun o0 => hN fun a => o0 a.1)
  refine st 1 _ (by decide) (fun h => nb 0 r (by decide) h) (fun o1 => ?_) (fun o1 => hN fun a => o1 a.2.1)
  refine st 2 _ (by decide) (fun h => nb 1 _ (by decide) (nb 0 r (by decide) h)) (fun o2 => ?_) (fun o2 => hN fun a => o2 a.2.2)
  exact fin _ (hY ⟨o0, o1, o2⟩)
theorem gt_B {g : Ck} {T : Int → Int → Int} {B h : Int} (O : Okc g) (hB : 1 ≤ B ∧ B ≤ 1000000000000000) (hT : ∀ k c, hs k → kl c → 0 ≤ T k c ∧ T k c ≤ B) (hh : hs h) : 0 ≤ gt g T h ∧ gt g T h ≤ 240000000000000000 := by
  have := gt_240 O (by omega) hT hh
  exact ⟨this.1, by omega⟩
theorem mul_B {d a B : Int} (hd : 0 ≤ d ∧ d ≤ a) (hB : 1 ≤ B ∧ B ≤ 1000000000000000) : 0 ≤ d * B ∧ d * B ≤ a * 1000000000000000 := ⟨Int.mul_nonneg hd.1 (by omega), Int.mul_le_mul hd.2 hB.2 (by omega) (by omega)⟩
theorem x_toldAgrees {K : Nat} {h B : Int} {T : Int → Int → Int} {M : PM} {Q : Option PV → PM → Prop} (X : XB M) (hh : hs h) (hl : h < M 1 0) (h43 : M 43 0 = B) (hB : 1 ≤ B ∧ B ≤ 1000000000000000) (hT : ∀ k c, hs k → k < M 1 0 → kl c → M 44 ((k * 3) + c) = T k c) (hTb : ∀ k c, hs k → kl c → 0 ≤ T k c ∧ T k c ≤ B) (hy : AgH (cp_g M) T B h → Q (some (.inl 1)) M) (hn : ¬ AgH (cp_g M) T B h → Q (some (.inl 0)) M) : Call (K + 4) jTold_agrees [.inr (.inr 43), .inr (.inr 1), .inl h] P0 P0 M Q := by
  have O := xb_ok X
  have gb := gt_B O hB hTb hh
  have cb := X.2.2.2.1 h hh
  have ab := X.2.1
  have bb := X.2.2.1
  have db : ∀ c, kl c → 0 ≤ xd M h c ∧ xd M h c ≤ 80 := fun c hc => xd_b X hh hc
  have ds : 0 ≤ (s3 fun c => xd M h c) ∧ (s3 fun c => xd M h c) ≤ 240 := by
    have a0 := db 0 (by decide); have a1 := db 1 (by decide); have a2 := db 2 (by decide)
    simp only [s3]; omega
  have m1 := mul_B cb hB
  have m2 := mul_B ds hB
  have mw : ∀ c, kl c → 0 ≤ (10 * xd M h c) * B ∧ (10 * xd M h c) * B ≤ 800 * 1000000000000000 := fun c hc => mul_B ⟨by have := db c hc; omega, by have := db c hc; omega⟩ hB
  have mt : ∀ c, kl c → 0 ≤ (10 * xd M h c) * T h c ∧ (10 * xd M h c) * T h c ≤ 800 * 1000000000000000 := fun c hc => by
    have a := db c hc
    have b := hTb h c hh hc
    exact ⟨Int.mul_nonneg (by omega) b.1, Int.mul_le_mul (by omega) (by omega) b.1 (by omega)⟩
  have rb : 0 ≤ rt (cp_g M) T B h ∧ rt (cp_g M) T B h ≤ 5000000000000000000 := by
    have p1 : 0 ≤ M 1 1 * M 2 h ∧ M 1 1 * M 2 h ≤ 2000 := ⟨Int.mul_nonneg ab.1 cb.1, by
      have := Int.mul_le_mul ab.2 cb.2 cb.1 (by decide)
      omega⟩
    have p2 := mul_B p1 hB
    have p3 : 0 ≤ M 1 2 * gt (cp_g M) T h ∧ M 1 2 * gt (cp_g M) T h ≤ 2400000000000000000 := ⟨Int.mul_nonneg bb.1 gb.1, by
      have := Int.mul_le_mul bb.2 gb.2 gb.1 (by decide)
      omega⟩
    show 0 ≤ M 1 1 * M 2 h * B + M 1 2 * gt (cp_g M) T h ∧ M 1 1 * M 2 h * B + M 1 2 * gt (cp_g M) T h ≤ _
    omega
  have ert : ((M 43 0 * M 1 1) * M 2 h) + (M 1 2 * gt (cp_g M) T h) = rt (cp_g M) T B h := by
    rw [h43]
    show B * M 1 1 * M 2 h + M 1 2 * gt (cp_g M) T h = M 1 1 * M 2 h * B + M 1 2 * gt (cp_g M) T h
    rw [Int.mul_assoc, Int.mul_comm B]
  have walk : ∀ f : Int, (f = 0 ∨ f = 1) → fH (cp_g M) T B h = f → G none (K + 3 + 1) jTold_agrees 74 [(0, .inr (.inr 43)), (1, .inr (.inr 1)), (2, .inl h), (5, .inl f), (6, .inr (.inl (rt (cp_g M) T B h))), (8, .inl 0)] [] P0 P0 M Q := by
    intro f hf ef
    refine ag3_walk (f := f) (r := rt (cp_g M) T B h) (B := B) (d := fun c => xd M h c) (t := fun c => T h c) (w := fun c => (10 * xd M h c) * B) (S := fun c r => G none (K + 3 + 1) jTold_agrees 74 [(0, .inr (.inr 43)), (1, .inr (.inr 1)), (2, .inl h), (5, .inl f), (6, .inr (.inl r)), (8, .inl c)] [] P0 P0 M Q) (Y := Q (some (.inl 1)) M) (N := Q (some (.inl 0)) M) (fun a => hy ?_) (fun a => hn ?_) (fun c r' hc hr go no => ?_) (fun c hc => (mw c hc).1) (fun r' y => g_to_agrees_74 _ _ _ _ _ _ _ ⟨by decide, fun _ => y, fun q => absurd (by decide) q⟩)
    · unfold AgH
      rw [ef]
      exact a
    · unfold AgH
      rw [ef]
      exact a
    · have hr' := hr rb
      have dc := db c hc
      have wc := mw c hc
      have tc := mt c hc
      have tb_ := hTb h c hh hc
      have e44 := hT h c hh hl hc
      have ecm : T h c * (10 * xd M h c) = (10 * xd M h c) * T h c := Int.mul_comm _ _
      refine g_to_agrees_74 _ _ _ _ _ _ _ ⟨⟨by omega, by omega⟩, fun q => absurd q (by omega), fun _ => x_dueIn (K := K + 1) phk_1_P0 X hh hc ⟨⟨by omega, by omega⟩, by rcases hf with z | z <;> rw [z] <;> decide, fun z => ?_, fun z => ?_⟩⟩
      · rw [h43, e44, ecm]
        have po : pyy f r' ((10 * xd M h c) * B) = (10 * xd M h c) * B := if_pos z
        have pn : nx f r' ((10 * xd M h c) * B) = r' - 0 := by unfold nx; rw [if_pos z]; omega
        have go' : okp (xd M h c) B (T h c) ((10 * xd M h c) * B) → G none (K + 3 + 1) jTold_agrees 74 [(0, .inr (.inr 43)), (1, .inr (.inr 1)), (2, .inl h), (5, .inl f), (6, .inr (.inl (r' - 0))), (8, .inl (c + 1))] [] P0 P0 M Q := by
          rw [← po, ← pn]; exact go
        have no' : ¬ okp (xd M h c) B (T h c) ((10 * xd M h c) * B) → Q (some (.inl 0)) M := by rw [← po]; exact no
        refine ⟨⟨by omega, by omega⟩, ⟨by omega, by omega⟩, fun zd => ⟨⟨by omega, by omega⟩, ⟨by omega, by omega⟩, fun q => ⟨fun _ => go' ?_, fun y => absurd z y⟩, fun q => no' fun y => q ?_⟩, fun zd => ⟨⟨by omega, by omega⟩, ⟨by omega, by omega⟩, fun q => ⟨fun _ => go' ?_, fun y => absurd z y⟩, fun q => no' fun y => q ?_⟩⟩
        · unfold okp; rw [if_neg (by omega)]; exact q
        · unfold okp at y; rw [if_neg (by omega)] at y; exact y
        · unfold okp; rw [if_pos (by omega)]; exact q
        · unfold okp at y; rw [if_pos (by omega)] at y; exact y
      · rw [h43, e44, ecm]
        have po : pyy f r' ((10 * xd M h c) * B) = mn2 r' ((10 * xd M h c) * B) := if_neg z
        have pn : nx f r' ((10 * xd M h c) * B) = r' - mn2 r' ((10 * xd M h c) * B) := if_neg z
        have go' : okp (xd M h c) B (T h c) (mn2 r' ((10 * xd M h c) * B)) → G none (K + 3 + 1) jTold_agrees 74 [(0, .inr (.inr 43)), (1, .inr (.inr 1)), (2, .inl h), (5, .inl f), (6, .inr (.inl (r' - mn2 r' ((10 * xd M h c) * B)))), (8, .inl (c + 1))] [] P0 P0 M Q := by
          rw [← pn, ← po]; exact go
        have no' : ¬ okp (xd M h c) B (T h c) (mn2 r' ((10 * xd M h c) * B)) → Q (some (.inl 0)) M := by rw [← po]; exact no
        have mb : R64 (mn2 r' ((10 * xd M h c) * B)) := by
          unfold mn2
          split <;> exact ⟨by omega, by omega⟩
        refine ⟨⟨by omega, by omega⟩, ⟨by omega, by omega⟩, ⟨by omega, by omega⟩, ⟨by omega, by omega⟩, fun zd => ⟨⟨by omega, by omega⟩, mb, fun q => ⟨fun y => absurd y z, fun _ => go' ?_⟩, fun q => no' fun y => q ?_⟩, fun zd => ⟨⟨by omega, by omega⟩, ⟨by omega, by omega⟩, fun q => ⟨fun y => absurd y z, fun _ => go' ?_⟩, fun q => no' fun y => q ?_⟩⟩
        · unfold okp; rw [if_neg (by omega)]; exact q
        · unfold okp at y; rw [if_neg (by omega)] at y; exact y
        · unfold okp; rw [if_pos (by omega)]; exact q
        · unfold okp at y; rw [if_pos (by omega)] at y; exact y
  refine c_to_agrees (K + 3) h M Q (x_incomeByTold (K := K + 1) X hh hT ⟨hh, ⟨by omega, by omega⟩, x_dueOf (K := K) X hh ⟨⟨by omega, by omega⟩, ?_⟩⟩)
  have ec : M 43 0 * M 2 h = M 2 h * B := by rw [h43, Int.mul_comm]
  have ed : M 43 0 * (s3 fun c => xd M h c) = (s3 fun c => xd M h c) * B := by rw [h43, Int.mul_comm]
  rw [ec, ed, ert]
  refine ⟨⟨by omega, by omega⟩, ⟨by omega, by omega⟩, fun q => ⟨⟨by omega, by omega⟩, ⟨by omega, by omega⟩, ⟨by omega, by omega⟩, walk 0 (Or.inl rfl) ?_⟩, fun q => ⟨⟨by omega, by omega⟩, ⟨by omega, by omega⟩, ⟨by omega, by omega⟩, walk 1 (Or.inr rfl) ?_⟩⟩
  · exact if_neg (show ¬ M 2 h * B + gt (cp_g M) T h < (s3 fun c => xd M h c) * B by omega)
  · exact if_pos (show M 2 h * B + gt (cp_g M) T h < (s3 fun c => xd M h c) * B by omega)
theorem m_paysSo_ {K : Nat} {h B l1 n : Int} {g : Ck} {T : Int → Int → Int} {M : PM} {Q : Option PV → PM → Prop} (Bm : MB M) (O : Okc g) (hh : hs h) (hn : M 55 0 = n) (hl : h < n) (eA : M 55 1 = ckA g) (eB : M 55 2 = ckB g) (eC : ∀ k, hs k → M 55 (3 + k) = ckC g k) (eO : ∀ k k' c, hs k → hs k' → kl c → mo M k k' c = ckO g k k' c) (hC : ckC g h ≤ 200) (hz : ∀ k c, hs k → n ≤ k → kl c → ckO g k h c = 0) (h1 : 0 ≤ l1 ∧ l1 + 3 * n < 80) (h72 : M 72 (l1 + 3 * n) = B) (hB : 1 ≤ B ∧ B ≤ 1000000000000000) (hT : ∀ k c, hs k → k < n → kl c → M 72 ((l1 + (3 * k)) + c) = T k c) (hTb : ∀ k c, hs k → kl c → 0 ≤ T k c ∧ T k c ≤ B) (hy : AgH g T B h → Q (some (.inl 1)) M) (hno : ¬ AgH g T B h → Q (some (.inl 0)) M) : Call (K + 6) jModel_paysSo [.inr (.inr 52), .inl l1, .inl h] P0 P0 M Q := by
  have hn5 := Bm.1
  rw [hn] at hn5
  have gb := gt_B O hB hTb hh
  have ab := O.1
  have bb := O.2.1
  have cb := (O.2.2.1 h hh).1
  have ed : ∀ c, kl c → md M h c = due g h c := fun c hc => s5_congr fun k hk => eO h k c hh hk hc
  have db : ∀ c, kl c → 0 ≤ due g h c ∧ due g h c ≤ 80 := fun c hc => ⟨due_nn O hh hc, due_80 O hh hc⟩
  have esd : (s3 fun c => md M h c) = s3 fun c => due g h c := s3_congr ed
  have ds : 0 ≤ (s3 fun c => due g h c) ∧ (s3 fun c => due g h c) ≤ 240 := by
    have a0 := db 0 (by decide); have a1 := db 1 (by decide); have a2 := db 2 (by decide)
    simp only [s3]; omega
  have m1 := mul_B ⟨cb, hC⟩ hB
  have m2 := mul_B ds hB
  have mw : ∀ c, kl c → 0 ≤ (10 * due g h c) * B ∧ (10 * due g h c) * B ≤ 800 * 1000000000000000 := fun c hc => mul_B ⟨by have := db c hc; omega, by have := db c hc; omega⟩ hB
  have mt : ∀ c, kl c → 0 ≤ (10 * due g h c) * T h c ∧ (10 * due g h c) * T h c ≤ 800 * 1000000000000000 := fun c hc => by
    have a := db c hc
    have b := hTb h c hh hc
    exact ⟨Int.mul_nonneg (by omega) b.1, Int.mul_le_mul (by omega) (by omega) b.1 (by omega)⟩
  have p1 : 0 ≤ ckA g * ckC g h ∧ ckA g * ckC g h ≤ 2000 := ⟨Int.mul_nonneg ab.1 cb, by
    have := Int.mul_le_mul ab.2 hC cb (by decide)
    omega⟩
  have p2 := mul_B p1 hB
  have p3 : 0 ≤ ckB g * gt g T h ∧ ckB g * gt g T h ≤ 2400000000000000000 := ⟨Int.mul_nonneg bb.1 gb.1, by
    have := Int.mul_le_mul bb.2 gb.2 gb.1 (by decide)
    omega⟩
  have rb : 0 ≤ rt g T B h ∧ rt g T B h ≤ 5000000000000000000 := by
    show 0 ≤ ckA g * ckC g h * B + ckB g * gt g T h ∧ ckA g * ckC g h * B + ckB g * gt g T h ≤ _
    omega
  -- one class
  have one : ∀ c r', kl c → (0 ≤ r' ∧ r' ≤ 5000000000000000000) → (okp (due g h c) B (T h c) (mn2 r' ((10 * due g h c) * B)) → G none (K + 5 + 1) jModel_paysSo 171 [(0, .inr (.inr 52)), (1, .inl l1), (2, .inl h), (3, .inr (.inl B)), (8, .inr (.inl (r' - mn2 r' ((10 * due g h c) * B)))), (10, .inl (c + 1))] [] P0 P0 M Q) → (¬ okp (due g h c) B (T h c) (mn2 r' ((10 * due g h c) * B)) → Q (some (.inl 0)) M) → G none (K + 5 + 1) jModel_paysSo 171 [(0, .inr (.inr 52)), (1, .inl l1), (2, .inl h), (3, .inr (.inl B)), (8, .inr (.inl r')), (10, .inl c)] [] P0 P0 M Q := by
    intro c r' hc hr' go no
    have dc := db c hc
    have wc := mw c hc
    have tc := mt c hc
    have tb_ := hTb h c hh hc
    have e72 := hT h c hh hl hc
    have mb : R64 (mn2 r' ((10 * due g h c) * B)) := by
      unfold mn2
      split <;> exact ⟨by omega, by omega⟩
    have zw : (10 * due g h c) * B = 0 ↔ due g h c = 0 := by
      constructor
      · intro z
        rcases Int.mul_eq_zero.mp z with y | y
        · omega
        · omega
      · intro z
        rw [z]; omega
    refine g_m_paysSo_171 _ _ _ _ _ _ _ _ ⟨⟨by omega, by omega⟩, fun q => absurd q (by omega), fun _ => m_due hh hc ?_⟩
    rw [ed c hc]
    refine ⟨⟨by omega, by omega⟩, ⟨by omega, by omega⟩, ⟨by omega, by omega⟩, ⟨by omega, by omega⟩, fun zd => m_due hh hc ?_, fun zd => ?_⟩
    · rw [ed c hc]
      refine ⟨⟨by omega, by omega⟩, by rw [e72]; exact ⟨by omega, by omega⟩, mb, fun q => go ?_, fun q => no fun y => q ?_⟩
      · rw [e72] at q
        unfold okp; rw [if_neg (fun y => zd (zw.mpr y))]; exact q
      · unfold okp at y; rw [if_neg (fun y => zd (zw.mpr y))] at y; rw [e72]; exact y
    · refine ⟨by rw [e72]; exact ⟨by omega, by omega⟩, ⟨by omega, by omega⟩, fun q => go ?_, fun q => no fun y => q ?_⟩
      · rw [e72] at q
        unfold okp; rw [if_pos (zw.mp zd)]; exact q
      · unfold okp at y; rw [if_pos (zw.mp zd)] at y; rw [e72]; exact y
  have fin : ∀ r', Q (some (.inl 1)) M → G none (K + 5 + 1) jModel_paysSo 171 [(0, .inr (.inr 52)), (1, .inl l1), (2, .inl h), (3, .inr (.inl B)), (8, .inr (.inl r')), (10, .inl 3)] [] P0 P0 M Q := fun r' y => g_m_paysSo_171 _ _ _ _ _ _ _ _ ⟨by decide, fun _ => y, fun q => absurd (by decide) q⟩
  -- one that fails
  have walk1 : fH g T B h = 1 → G none (K + 5 + 1) jModel_paysSo 171 [(0, .inr (.inr 52)), (1, .inl l1), (2, .inl h), (3, .inr (.inl B)), (8, .inr (.inl (rt g T B h))), (10, .inl 0)] [] P0 P0 M Q := by
    intro ef
    refine ag3_walk (f := 1) (r := rt g T B h) (B := B) (d := fun c => due g h c) (t := fun c => T h c) (w := fun c => (10 * due g h c) * B) (S := fun c r => G none (K + 5 + 1) jModel_paysSo 171 [(0, .inr (.inr 52)), (1, .inl l1), (2, .inl h), (3, .inr (.inl B)), (8, .inr (.inl r)), (10, .inl c)] [] P0 P0 M Q) (Y := Q (some (.inl 1)) M) (N := Q (some (.inl 0)) M) (fun a => hy ?_) (fun a => hno ?_) (fun c r' hc hr go no => one c r' hc (hr rb) go no) (fun c hc => (mw c hc).1) fin
    · unfold AgH; rw [ef]; exact a
    · unfold AgH; rw [ef]; exact a
  -- one that holds
  have walk0 : fH g T B h = 0 → G none (K + 5 + 1) jModel_paysSo 171 [(0, .inr (.inr 52)), (1, .inl l1), (2, .inl h), (3, .inr (.inl B)), (8, .inr (.inl ((10 * (s3 fun c => due g h c)) * B))), (10, .inl 0)] [] P0 P0 M Q := by
    intro ef
    have w0 := mw 0 (by decide)
    have w1 := mw 1 (by decide)
    have w2 := mw 2 (by decide)
    have es : (10 * (s3 fun c => due g h c)) * B = (10 * due g h 0) * B + (10 * due g h 1) * B + (10 * due g h 2) * B := by
      rw [← Int.add_mul, ← Int.add_mul]
      congr 1
      simp only [s3]
      omega
    rw [es]
    have hag : AgH g T B h ↔ okp (due g h 0) B (T h 0) ((10 * due g h 0) * B) ∧ okp (due g h 1) B (T h 1) ((10 * due g h 1) * B) ∧ okp (due g h 2) B (T h 2) ((10 * due g h 2) * B) := by
      unfold AgH ag3
      rw [ef]
      exact Iff.rfl
    have x0 : mn2 ((10 * due g h 0) * B + (10 * due g h 1) * B + (10 * due g h 2) * B) ((10 * due g h 0) * B) = (10 * due g h 0) * B := mn2_ge (by omega)
    have x1 : mn2 ((10 * due g h 0) * B + (10 * due g h 1) * B + (10 * due g h 2) * B - (10 * due g h 0) * B) ((10 * due g h 1) * B) = (10 * due g h 1) * B := mn2_ge (by omega)
    have x2 : mn2 ((10 * due g h 0) * B + (10 * due g h 1) * B + (10 * due g h 2) * B - (10 * due g h 0) * B - (10 * due g h 1) * B) ((10 * due g h 2) * B) = (10 * due g h 2) * B := mn2_ge (by omega)
    refine one 0 _ (by decide) ⟨by omega, by omega⟩ (fun o0 => ?_) (fun o0 => hno fun a => o0 (by rw [x0]; exact (hag.mp a).1))
    rw [x0] at o0 ⊢
    refine one 1 _ (by decide) ⟨by omega, by omega⟩ (fun o1 => ?_) (fun o1 => hno fun a => o1 (by rw [x1]; exact (hag.mp a).2.1))
    rw [x1] at o1 ⊢
    refine one 2 _ (by decide) ⟨by omega, by omega⟩ (fun o2 => ?_) (fun o2 => hno fun a => o2 (by rw [x2]; exact (hag.mp a).2.2))
    rw [x2] at o2
    exact fin _ (hy (hag.mpr ⟨o0, o1, o2⟩))
  have in_ : ∀ (f v : Int), hs f → f < n → G none (K + 5 + 1) jModel_paysSo 22 [(0, .inr (.inr 52)), (1, .inl l1), (2, .inl h), (3, .inr (.inl B)), (5, .inr (.inl (v + s3 fun c => ckO g f h c * T f c))), (7, .inl (f + 1))] [] P0 P0 M Q →
      G none (K + 5 + 1) jModel_paysSo 36 [(0, .inr (.inr 52)), (1, .inl l1), (2, .inl h), (3, .inr (.inl B)), (5, .inr (.inl v)), (7, .inl f), (8, .inl 0)] [] P0 P0 M Q := by
    intro f v hf hfl hg
    have st : ∀ (c v' : Int), kl c → G none (K + 5 + 1) jModel_paysSo 36 [(0, .inr (.inr 52)), (1, .inl l1), (2, .inl h), (3, .inr (.inl B)), (5, .inr (.inl (v' + ckO g f h c * T f c))), (7, .inl f), (8, .inl (c + 1))] [] P0 P0 M Q →
        G none (K + 5 + 1) jModel_paysSo 36 [(0, .inr (.inr 52)), (1, .inl l1), (2, .inl h), (3, .inr (.inl B)), (5, .inr (.inl v')), (7, .inl f), (8, .inl c)] [] P0 P0 M Q := by
      intro c v' hc hg'
      have hb := O.2.2.2.1 f h c hf hh hc
      refine g_m_paysSo_36 _ _ _ _ _ _ _ _ _ ⟨⟨by omega, by omega⟩, fun q => absurd q (by omega), fun _ => m_owes hf hh hc ?_⟩
      rw [eO f h c hf hh hc]
      refine ⟨⟨by omega, by omega⟩, ⟨by omega, by omega⟩, ?_⟩
      rw [hT f c hf hfl hc]
      exact hg'
    refine st 0 v (by decide) (st 1 _ (by decide) (st 2 _ (by decide) ?_))
    refine g_m_paysSo_36 _ _ _ _ _ _ _ _ _ ⟨by decide, fun _ => ?_, fun q => absurd (by decide) q⟩
    have e : v + ckO g f h 0 * T f 0 + ckO g f h 1 * T f 1 + ckO g f h 2 * T f 2 = v + s3 fun c => ckO g f h c * T f c := by simp only [s3]; omega
    rw [e]
    exact hg
  have out : ∀ (m : Nat) (f v : Int), 0 ≤ f → f + (m : Int) = n → v = pcs (fun f => s3 fun c => ckO g f h c * T f c) f.toNat → G none (K + 5 + 1) jModel_paysSo 22 [(0, .inr (.inr 52)), (1, .inl l1), (2, .inl h), (3, .inr (.inl B)), (5, .inr (.inl v)), (7, .inl f)] [] P0 P0 M Q := by
    intro m
    induction m with
    | zero =>
      intro f v h0 hf hv
      have e : v = gt g T h := by
        rw [hv, show f = n by omega]
        exact gt_out hn5 hz
      rw [e]
      refine g_m_paysSo_22 _ _ _ _ _ _ _ _ ⟨⟨by omega, by omega⟩, by rw [hn]; exact ⟨by omega, by omega⟩, fun _ => ⟨⟨by omega, by omega⟩, by rw [eC h hh]; exact ⟨by omega, by omega⟩, m_dueInAll (K := K + 1) hh ?_⟩, fun q => absurd (by rw [hn]; omega) q⟩
      rw [esd, eC h hh]
      refine ⟨⟨by omega, by omega⟩, ⟨by omega, by omega⟩, ⟨by omega, by omega⟩, fun q => m_dueInAll (K := K + 1) hh ?_, fun q => ?_⟩
      · rw [esd]
        refine ⟨⟨by omega, by omega⟩, walk0 ?_⟩
        exact if_neg (show ¬ ckC g h * B + gt g T h < (s3 fun c => due g h c) * B by omega)
      · have ert : ((M 55 1 * M 55 (3 + h)) * B) + (M 55 2 * gt g T h) = rt g T B h := by
          rw [eA, eB, eC h hh]
          rfl
        refine ⟨by rw [eA, eC h hh]; exact ⟨by omega, by omega⟩, by rw [eB]; exact ⟨by omega, by omega⟩, ?_⟩
        rw [ert]
        refine walk1 ?_
        exact if_pos (show ckC g h * B + gt g T h < (s3 fun c => due g h c) * B by omega)
    | succ m ih =>
      intro f v h0 hf hv
      refine g_m_paysSo_22 _ _ _ _ _ _ _ _ ⟨⟨by omega, by omega⟩, by rw [hn]; exact ⟨by omega, by omega⟩, fun q => absurd q (by rw [hn]; omega), fun _ => in_ f v ⟨h0, by omega⟩ (by omega) (ih (f + 1) _ (by omega) (by omega) ?_)⟩
      rw [hv, pcs_up _ h0]
  refine c_m_paysSo (K + 5) l1 h M Q ⟨by rw [hn]; exact ⟨by omega, by omega⟩, ?_⟩
  show G none (K + 5 + 1) jModel_paysSo 22 [(0, .inr (.inr 52)), (1, .inl l1), (2, .inl h), (3, .inr (.inl (M 72 (l1 + (3 * M 55 0))))), (5, .inr (.inl 0)), (7, .inl 0)] [] P0 P0 M Q
  rw [hn, h72]
  exact out n.toNat 0 0 (by decide) (by omega) rfl
