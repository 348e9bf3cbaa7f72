/-! TRIALS: one house has more, or fewer, coins -/
def FS (g : Ck) (n s : Int) : Prop := ∃ X D W wv, Clr g n X D W s wv
theorem FS.uniq {g : Ck} {n s s' : Int} (O : Okc g) (a : FS g n s) (b : FS g n s') : s = s' := by
  obtain ⟨_, _, _, _, c⟩ := a
  obtain ⟨_, _, _, _, c'⟩ := b
  exact (Clr.uniq O c c').2.1
theorem FS.onr {g g' : Ck} {n s : Int} (E : Eqr g g') (a : FS g n s) : FS g' n s := by
  obtain ⟨X, D, W, wv, c⟩ := a
  exact ⟨X, D, W, wv, c.onr E⟩
theorem FS.b {g : Ck} {n s : Int} (a : FS g n s) : (0 ≤ s ∧ s < 32) ∧ ∀ h, hs h → tb s h = true → h < n := by
  obtain ⟨X, D, W, wv, c1, c2, F, R, c4, c5, c6⟩ := a
  refine ⟨c2, fun h hh z => ?_⟩
  have go : ∀ r : Nat, (r : Int) ≤ W → F (r : Int) h = true → h < n := by
    intro r
    induction r with
    | zero => intro _ z; rw [show ((0 : Nat) : Int) = 0 from rfl, R.1 h hh] at z; exact absurd z (by decide)
    | succ r ih =>
      intro hr z
      have e := (R.2.2 (r : Int) (by omega) (by omega)).1 h hh
      rw [show ((r : Int) + 1) = ((r + 1 : Nat) : Int) by omega, z] at e
      cases q : F (r : Int) h
      · rw [q, Bool.false_or] at e
        have := (Bool.and_eq_true_iff.mp e.symm).1
        exact of_decide_eq_true this
      · exact ih (by omega) q
  have := go W.toNat (by omega) (by rw [show ((W.toNat : Nat) : Int) = W by omega, ← c5 h hh]; exact z)
  exact this
theorem FS.mono {g g' : Ck} {n s s' : Int} (O : Okc g) (O' : Okc g') (hA : ckA g' = ckA g) (hB : ckB g' = ckB g) (hO : ckO g' = ckO g) (hC : ∀ h, hs h → ckC g h ≤ ckC g' h) (a : FS g n s) (b : FS g' n s') : ∀ h, hs h → tb s' h = true → tb s h = true := by
  obtain ⟨_, _, _, _, c⟩ := a
  obtain ⟨_, _, _, _, c'⟩ := b
  exact Clr.mono O O' hA hB hO hC c c'
/-- the class's book with x more coins in the house h -/
def xE (M : PM) (h x : Int) : Ck := (M 1 1, M 1 2, fun k => if k = h then mx2 0 (M 2 k + x) else M 2 k, fun k h c => xo M k h c)
theorem xE_of {M M' : PM} {h x : Int} (h1 : M' 1 = M 1) (h2 : M' 2 = M 2) (h3 : M' 3 = M 3) : xE M' h x = xE M h x := by unfold xE; rw [xo_of h3, h1, h2]
theorem xE_ok {M : PM} {h x : Int} (B : XB M) (hx : x ≤ 200) : Okc (xE M h x) := by
  refine ⟨B.2.1, B.2.2.1, fun k hk => ?_, fun k h c hk hh hc => B.2.2.2.2.1 k h c hk hh hc, fun k c hk hc => B.2.2.2.2.2.1 k c hk hc⟩
  have := B.2.2.2.1 k hk
  show 0 ≤ (if k = h then mx2 0 (M 2 k + x) else M 2 k) ∧ (if k = h then mx2 0 (M 2 k + x) else M 2 k) ≤ 400
  unfold mx2
  split
  · split <;> omega
  · omega
theorem xE_E {M : PM} {h x : Int} (I : Iv M) : Eqr (gE M h x) (xE M h x) :=
  ⟨I.1.a.symm, I.1.b.symm, fun k h c hk hh hc => (I.1.o hk hh hc).symm, fun k hk => by
    show (if k = h then mx2 0 (M 2 k + x) else M 2 k) = (if k = h then mx2 0 (M 55 (3 + k) + x) else M 55 (3 + k))
    rw [I.1.c hk]⟩
abbrev trx : List Nat := [9, 24, 25, 26, 27, 28, 29, 30, 31, 32, 33, 35, 36]
theorem x_failsWith {K : Nat} {h x : Int} {M : PM} {Q : Option PV → PM → Prop} (I : Iv M) (hh : hs h) (hx : -1000 ≤ x ∧ x ≤ 200) (hq : ∀ M' s, Ag trx M M' → Iv M' → FS (xE M h x) (M 1 0) s → Q (some (.inl s)) M') : Call (K + 6) jClearingWaves_failsWith [.inr (.inr 0), .inl h, .inl x] P0 P0 M Q := by
  have B := I.1.xb
  have hc := B.2.2.2.1 h hh
  have c9 : ∀ k, hs k → (mcpy M 2 9 5) 9 k = M 2 k := fun k hk => by unfold mcpy; rw [if_pos ⟨rfl, by omega⟩]
  refine c_x_failsWith (K + 5) h x M Q (c_x_loadPurse (K + 4) M _ ⟨hh, by rw [c9 h hh]; exact ⟨by omega, by omega⟩, ?_⟩)
  rw [c9 h hh]
  obtain ⟨N, hN⟩ : ∃ N, N = mset (mcpy M 2 9 5) 9 h (mx2 0 (M 2 h + x)) := ⟨_, rfl⟩
  rw [← hN]
  have n : ∀ a, a ≠ 9 → N a = M a := fun a ha => by rw [hN, mset_ne ha, mcpy_ne ha]
  have n9 : ∀ k, hs k → N 9 k = if k = h then mx2 0 (M 2 k + x) else M 2 k := fun k hk => by
    rw [hN]
    by_cases q : k = h
    · rw [q, mset_eq, if_pos rfl]
    · rw [if_neg q, ← c9 k hk]; simp [mset, q]
  have O := xE_ok (h := h) B hx.2
  have BN : XB N := B.of (n 1 (by decide)) (n 2 (by decide)) (n 3 (by decide))
  have P : ct_P N := ⟨BN, fun k hk => by rw [n9 k hk]; exact O.2.2.1 k hk⟩
  have E : Eqr (ct_g N) (xE M h x) := ⟨by show M 1 1 = N 1 1; rw [n 1 (by decide)], by show M 1 2 = N 1 2; rw [n 1 (by decide)], fun k h c hk hh hc => by show xo M k h c = xo N k h c; rw [xo_of (n 3 (by decide))], fun k hk => (n9 k hk).symm⟩
  refine ct_run P (fun M' X D hA c _ _ _ => ?_)
  have hA' : Ag trx M M' := fun a ha => by
    rw [hA a (fun z => ha (by revert z; simp; omega)), n a (fun z => ha (by rw [z]; decide))]
  refine hq M' _ hA' (I.scrx (hA'.mono (by decide))) ?_
  rw [n 1 (by decide)] at c
  exact ⟨X, D, _, _, c.onr E⟩
abbrev trm : List Nat := [52, 58, 59, 60, 61, 62, 63, 64, 65, 66]
theorem m_failsIf2 {K : Nat} {h x : Int} {M : PM} {Q : Option PV → PM → Prop} (I : Iv M) (hh : hs h) (hx : -1000 ≤ x ∧ x ≤ 200) (hq : ∀ M' s, Ag trm M M' → Iv M' → FS (xE M h x) (M 1 0) s → Q (some (.inl s)) M') : Call (K + 15) jModel_failsIf [.inr (.inr 52), .inl x, .inl h] P0 P0 M Q := by
  refine m_failsIf I.1.mb hh hx (fun M' X D W wv s hA hi h4 O c => ?_)
  rw [I.1.n] at c
  exact hq M' s hA (I.scrm (hA.mono (by decide)) (hi 2 (by decide) (by decide) (by decide) (by decide) (by decide)) (hi 6 (by decide) (by decide) (by decide) (by decide) (by decide)) (hi 32 (by decide) (by decide) (by decide) (by decide) (by decide)) (IvM.no h4)) ⟨X, D, W, wv, c.onr (xE_E I)⟩
theorem ag_xE {l : List Nat} {M M' : PM} (hA : Ag l M M') (h1 : 1 ∉ l) (h2 : 2 ∉ l) (h3 : 3 ∉ l) : (∀ h x, xE M' h x = xE M h x) ∧ M' 1 0 = M 1 0 := ⟨fun h x => xE_of (hA 1 h1) (hA 2 h2) (hA 3 h3), by rw [hA 1 h1]⟩
theorem x_isCoins_y {K : Nat} {x : Int} {M : PM} {Q : Option PV → PM → Prop} (h1 : R32 x) (p : 0 ≤ x ∧ x ≤ 200) (hq : Q (some (.inl 1)) M) : Call (K + 1) jClearingWaves_isCoins [.inl x] P0 P0 M Q :=
  c_clearingwaves_isCoins K x M Q ⟨h1, fun z => absurd z (by omega), fun _ => ⟨fun z => absurd z (by omega), fun _ => hq⟩⟩
theorem x_isCoins_n {K : Nat} {x : Int} {M : PM} {Q : Option PV → PM → Prop} (h1 : R32 x) (p : ¬ (0 ≤ x ∧ x ≤ 200)) (hq : Q (some (.inl 0)) M) : Call (K + 1) jClearingWaves_isCoins [.inl x] P0 P0 M Q :=
  c_clearingwaves_isCoins K x M Q ⟨h1, fun _ => hq, fun _ => ⟨fun _ => hq, fun z => absurd ⟨by omega, by omega⟩ p⟩⟩
theorem b_saved {K : Nat} {a h : Int} {M : PM} {C : Int → Int → PM → Prop} (I : Iv M) (h1 : R32 a) (h2 : R32 h) (hq : Ok32 C) : Bi (K + 22) jClearingWaves_saved [.inr (.inr 0), .inl a, .inl h] jModel_saved [.inr (.inr 52), .inl a, .inl h] M C := by
  have B := I.1.xb
  have B1 := B.1
  have hn := I.1.n
  unfold Bi
  by_cases p : 0 ≤ h ∧ h < M 1 0
  · have hh : hs h := ⟨p.1, by omega⟩
    by_cases pa : 0 ≤ a ∧ a ≤ 200
    · refine c_x_saved (K + 21) a h M _ (x_hasHouse_y B h2 p ⟨by decide, fun _ => x_isCoins_y h1 pa ⟨by decide, fun q => absurd q (by decide), fun _ => x_failsWith I hh (by omega) (fun M1 s hA I1 f => ?_)⟩, fun q => absurd q (by decide)⟩)
      have e1 : M1 1 0 = M 1 0 := (ag_xE hA (by decide) (by decide) (by decide)).2
      refine c_m_saved (K + 21) a h M1 _ (m_isHouse_y I1.1.mb h2 (by rw [I1.1.n, e1]; exact p) ⟨by decide, fun _ => m_isGift_y h1 pa ⟨by decide, fun q => absurd q (by decide), fun _ => m_failsIf2 I1 hh (by omega) (fun M2 s' hA2 I2 f' => ?_)⟩, fun q => absurd q (by decide)⟩)
      rw [(ag_xE hA (by decide) (by decide) (by decide)).1, e1] at f'
      show C s s' M2
      rw [← FS.uniq (xE_ok B (by omega)) f f']
      have := f.b.1
      exact hq _ _ ⟨by omega, by omega⟩ I2
    · refine c_x_saved (K + 21) a h M _ (x_hasHouse_y B h2 p ⟨by decide, fun _ => x_isCoins_n h1 pa ⟨by decide, fun _ => ?_, fun q => absurd rfl q⟩, fun q => absurd q (by decide)⟩)
      exact c_m_saved (K + 21) a h M _ (m_isHouse_y I.1.mb h2 (by rw [hn]; exact p) ⟨by decide, fun _ => m_isGift_n h1 pa ⟨by decide, fun _ => hq _ _ (by decide) I, fun q => absurd rfl q⟩, fun q => absurd q (by decide)⟩)
  · refine c_x_saved (K + 21) a h M _ (x_hasHouse_n B h2 p ⟨by decide, fun q => absurd rfl q, fun _ => ?_⟩)
    exact c_m_saved (K + 21) a h M _ (m_isHouse_n I.1.mb h2 (by rw [hn]; exact p) ⟨by decide, fun q => absurd rfl q, fun _ => hq _ _ (by decide) I⟩)
theorem b_struck {K : Nat} {a h : Int} {M : PM} {C : Int → Int → PM → Prop} (I : Iv M) (h1 : R32 a) (h2 : R32 h) (hq : Ok32 C) : Bi (K + 22) jClearingWaves_struck [.inr (.inr 0), .inl a, .inl h] jModel_struck [.inr (.inr 52), .inl a, .inl h] M C := by
  have B := I.1.xb
  have B1 := B.1
  have hn := I.1.n
  unfold Bi
  by_cases p : 0 ≤ h ∧ h < M 1 0
  · have hh : hs h := ⟨p.1, by omega⟩
    by_cases pa : 0 ≤ a ∧ a ≤ 200
    · refine c_x_struck (K + 21) a h M _ (x_hasHouse_y B h2 p ⟨by decide, fun _ => x_isCoins_y h1 pa ⟨by decide, fun q => absurd q (by decide), fun _ => x_failsWith I hh (by omega) (fun M1 s hA I1 f => ?_)⟩, fun q => absurd q (by decide)⟩)
      have e1 : M1 1 0 = M 1 0 := (ag_xE hA (by decide) (by decide) (by decide)).2
      refine c_m_struck (K + 21) a h M1 _ (m_isHouse_y I1.1.mb h2 (by rw [I1.1.n, e1]; exact p) ⟨by decide, fun _ => m_isGift_y h1 pa ⟨by decide, fun q => absurd q (by decide), fun _ => m_failsIf2 I1 hh (by omega) (fun M2 s' hA2 I2 f' => ?_)⟩, fun q => absurd q (by decide)⟩)
      rw [(ag_xE hA (by decide) (by decide) (by decide)).1, e1] at f'
      show C s s' M2
      rw [← FS.uniq (xE_ok B (by omega)) f f']
      have := f.b.1
      exact hq _ _ ⟨by omega, by omega⟩ I2
    · refine c_x_struck (K + 21) a h M _ (x_hasHouse_y B h2 p ⟨by decide, fun _ => x_isCoins_n h1 pa ⟨by decide, fun _ => ?_, fun q => absurd rfl q⟩, fun q => absurd q (by decide)⟩)
      exact c_m_struck (K + 21) a h M _ (m_isHouse_y I.1.mb h2 (by rw [hn]; exact p) ⟨by decide, fun _ => m_isGift_n h1 pa ⟨by decide, fun _ => hq _ _ (by decide) I, fun q => absurd rfl q⟩, fun q => absurd q (by decide)⟩)
  · refine c_x_struck (K + 21) a h M _ (x_hasHouse_n B h2 p ⟨by decide, fun q => absurd rfl q, fun _ => ?_⟩)
    exact c_m_struck (K + 21) a h M _ (m_isHouse_n I.1.mb h2 (by rw [hn]; exact p) ⟨by decide, fun q => absurd rfl q, fun _ => hq _ _ (by decide) I⟩)
