/-! SAVES: the house that a gift saves most by -/
def xG (M : PM) (e : Int → Int) (h a : Int) : Ck := (M 1 1, M 1 2, fun k => M 2 k + e k + (if k = h then a else 0), fun k h c => xo M k h c)
theorem xG_of {M M' : PM} {e : Int → Int} {h a : Int} (h1 : M' 1 = M 1) (h2 : M' 2 = M 2) (h3 : M' 3 = M 3) : xG M' e h a = xG M e h a := by unfold xG; rw [xo_of h3, h1, h2]
/-- gifts: none too great -/
def Gb (e : Int → Int) (a : Int) : Prop := 0 ≤ a ∧ ∀ k, hs k → 0 ≤ e k ∧ e k + a ≤ 200
theorem xG_ok {M : PM} {e : Int → Int} {h a : Int} (B : XB M) (g : Gb e a) : Okc (xG M e h a) := by
  refine ⟨B.2.1, B.2.2.1, fun k hk => ?_, fun k h c hk hh hc => B.2.2.2.2.1 k h c hk hh hc, fun k c hk hc => B.2.2.2.2.2.1 k c hk hc⟩
  have := B.2.2.2.1 k hk
  have ge := g.2 k hk
  have g0 := g.1
  show 0 ≤ M 2 k + e k + (if k = h then a else 0) ∧ M 2 k + e k + (if k = h then a else 0) ≤ 400
  split <;> omega
/-- who fails, what is paid, over what -/
def TD (g : Ck) (n : Int) (d : Int × Int × Int) : Prop := ∃ X D W wv, Clr g n X D W d.1 wv ∧ d.2.1 = (s5 fun k => gt g (X W) k) ∧ d.2.2 = D W
theorem TD.uniq {g : Ck} {n : Int} {d d' : Int × Int × Int} (O : Okc g) (a : TD g n d) (b : TD g n d') : d = d' := by
  obtain ⟨X, D, W, wv, c, p, q⟩ := a
  obtain ⟨X', D', W', wv', c', p', q'⟩ := b
  obtain ⟨u1, u2, u3, u4⟩ := Clr.uniq O c c'
  have u := u4 W c.1.1 (Int.le_refl _)
  refine Prod.ext u2 (Prod.ext ?_ ?_)
  · rw [p, p', ← u1]
    exact s5_congr fun k hk => gt_on u.2 k
  · rw [q, q', ← u1]; exact u.1
theorem TD.onr {g g' : Ck} {n : Int} {d : Int × Int × Int} (E : Eqr g g') (a : TD g n d) : TD g' n d := by
  obtain ⟨X, D, W, wv, c, p, q⟩ := a
  exact ⟨X, D, W, wv, c.onr E, by rw [p]; exact s5_congr fun k hk => (eqr_gt E _ hk).symm, q⟩
theorem clr_xd {g : Ck} {n : Int} {X : Int → Int → Int → Int} {D : Int → Int} {W s : Int} {wv : Int → Int} (c : Clr g n X D W s wv) : ∀ r, 0 ≤ r → r ≤ W → (0 < D r ∧ D r ≤ 327680000000000) ∧ ∀ h c, hs h → kl c → 0 ≤ X r h c ∧ X r h c ≤ D r := by
  obtain ⟨c1, c2, F, R, _⟩ := c
  intro r h0 h1
  have rn := R.2.1 r h0 h1
  exact ⟨⟨rn.1.1.1, rn.2.2.1⟩, rn.1.1.2.1⟩
theorem TD.b {g : Ck} {n : Int} {d : Int × Int × Int} (O : Okc g) (a : TD g n d) : (0 ≤ d.1 ∧ d.1 < 32) ∧ P63 d.2.1 ∧ P63 d.2.2 ∧ 0 < d.2.2 := by
  obtain ⟨X, D, W, wv, c, p, q⟩ := a
  have x := clr_xd c W c.1.1 (Int.le_refl _)
  have gb : ∀ h, hs h → 0 ≤ gt g (X W) h ∧ gt g (X W) h ≤ 240 * D W := fun h hh => gt_240 O (by omega) x.2 hh
  have c0 := gb 0 (by decide); have c1 := gb 1 (by decide); have c2 := gb 2 (by decide); have c3 := gb 3 (by decide); have c4 := gb 4 (by decide)
  refine ⟨c.2.1, ?_, ⟨by rw [q]; omega, by rw [q]; omega⟩, by rw [q]; exact x.1.1⟩
  rw [p]
  simp only [s5]
  exact ⟨by omega, by omega⟩
/-- is the new one better? -/
abbrev newc (mode who z o : Int) : Prop := who < 0 ∨ (¬ mode = 0 ∧ (0 < o ∨ (o = 0 ∧ 0 < z))) ∨ (mode = 0 ∧ (0 < z ∨ (z = 0 ∧ 0 < o)))
def stp (mode : Int) (st : Int × Int × Int × Int) (d : Int × Int × Int) (k : Int) : Int × Int × Int × Int :=
  if newc mode st.1 (st.2.1 - c6 d.1) (cmp d.2.1 d.2.2 st.2.2.1 st.2.2.2) then (k, c6 d.1, d.2.1, d.2.2) else st
theorem stp_y {mode : Int} {st : Int × Int × Int × Int} {d : Int × Int × Int} {k : Int} (h : newc mode st.1 (st.2.1 - c6 d.1) (cmp d.2.1 d.2.2 st.2.2.1 st.2.2.2)) : stp mode st d k = (k, c6 d.1, d.2.1, d.2.2) := by unfold stp; rw [if_pos h]
theorem stp_n {mode : Int} {st : Int × Int × Int × Int} {d : Int × Int × Int} {k : Int} (h : ¬ newc mode st.1 (st.2.1 - c6 d.1) (cmp d.2.1 d.2.2 st.2.2.1 st.2.2.2)) : stp mode st d k = st := by unfold stp; rw [if_neg h]
def MSt (T : Int → Int × Int × Int → Prop) (mode : Int) : Nat → Int × Int × Int × Int → Prop
  | 0, st => st = (-1, 0, 0, 1)
  | k + 1, st => ∃ st0 d, MSt T mode k st0 ∧ T (k : Int) d ∧ st = stp mode st0 d (k : Int)
theorem MSt.uniq {T : Int → Int × Int × Int → Prop} {mode : Int} (hT : ∀ k d d', T k d → T k d' → d = d') : ∀ (k : Nat) (st st' : Int × Int × Int × Int), MSt T mode k st → MSt T mode k st' → st = st' := by
  intro k
  induction k with
  | zero => intro st st' a b; exact Eq.trans a (Eq.symm b)
  | succ k ih =>
    intro st st' a b
    obtain ⟨s0, d, x, y, z⟩ := a
    obtain ⟨s0', d', x', y', z'⟩ := b
    rw [z, z', ih _ _ x x', hT _ _ _ y y']
theorem MSt.b {T : Int → Int × Int × Int → Prop} {mode : Int} (hT : ∀ k d, T k d → (0 ≤ d.1 ∧ d.1 < 32) ∧ P63 d.2.1 ∧ P63 d.2.2 ∧ 0 < d.2.2) : ∀ (k : Nat) (st : Int × Int × Int × Int), MSt T mode k st → ((-1 ≤ st.1 ∧ st.1 < (k : Int)) ∧ (0 < k → 0 ≤ st.1)) ∧ (0 ≤ st.2.1 ∧ st.2.1 ≤ 6) ∧ P63 st.2.2.1 ∧ P63 st.2.2.2 ∧ 0 < st.2.2.2 := by
  intro k
  induction k with
  | zero =>
    intro st a
    rw [show st = (-1, 0, 0, 1) from a]
    decide
  | succ k ih =>
    intro st a
    obtain ⟨s0, d, x, y, z⟩ := a
    have i := ih s0 x
    have t := hT _ _ y
    by_cases q : newc mode s0.1 (s0.2.1 - c6 d.1) (cmp d.2.1 d.2.2 s0.2.2.1 s0.2.2.2)
    · rw [stp_y q] at z
      rw [z]
      have c := (c6_b (s := d.1) ⟨t.1.1, by omega⟩).1
      exact ⟨⟨⟨by show -1 ≤ (k : Int); omega, by show (k : Int) < ((k + 1 : Nat) : Int); omega⟩, fun _ => by show 0 ≤ (k : Int); omega⟩, c, t.2.1, t.2.2.1, t.2.2.2⟩
    · rw [stp_n q] at z
      rw [z]
      refine ⟨⟨⟨i.1.1.1, by omega⟩, fun _ => ?_⟩, i.2⟩
      unfold newc at q
      omega
theorem x_compare {K : Nat} {a b : Int} {M : PM} {Q : Option PV → PM → Prop} (h1 : R32 a) (h2 : R32 b) (hq : ∀ r, R32 r → (0 < r ↔ 0 < a - b) → (r = 0 ↔ a - b = 0) → Q (some (.inl r)) M) : Call (K + 1) jJInteger_compare [.inl a, .inl b] P0 P0 M Q :=
  c_jinteger_compare K a b M Q ⟨h1, h2, fun z => ⟨fun q => hq 1 (by decide) (by omega) (by omega), fun q => hq 0 (by decide) (by omega) (by omega)⟩, fun z => hq (-1) (by decide) (by omega) (by omega)⟩
theorem x_mostSaved {K : Nat} {e : Int → Int} {a mode : Int} {M : PM} {Q : Option PV → PM → Prop} (I : Iv M) (hp : ∀ k, hs k → M 9 k = M 2 k + e k) (g : Gb e a) (hm : R32 mode) (hq : ∀ M' st, Ag trx M M' → M' 9 = M 9 → Iv M' → MSt (fun h => TD (xG M e h a) (M 1 0)) mode (M 1 0).toNat st → Q (some (.inl st.1)) M') : Call (K + 6) jClearingWaves_mostSaved [.inr (.inr 0), .inl a, .inl mode] P0 P0 M Q := by
  have B := I.1.xb
  have B1 := B.1
  have hT : ∀ k d, TD (xG M e k a) (M 1 0) d → (0 ≤ d.1 ∧ d.1 < 32) ∧ P63 d.2.1 ∧ P63 d.2.2 ∧ 0 < d.2.2 := fun k d t => t.b (xG_ok B g)
  have loop : ∀ (n k : Nat) (st : Int × Int × Int × Int) (M1 : PM), M 1 0 - (k : Int) = (n : Int) → Ag trx M M1 → M1 9 = M 9 → Iv M1 → MSt (fun h => TD (xG M e h a) (M 1 0)) mode k st → G none (K + 5 + 1) jClearingWaves_mostSaved 14 [(0, .inr (.inr 0)), (1, .inl a), (2, .inl mode), (3, .inl st.1), (4, .inl st.2.1), (5, .inr (.inl st.2.2.1)), (7, .inr (.inl st.2.2.2)), (9, .inl (k : Int))] [] P0 P0 M1 Q := by
    intro n
    induction n with
    | zero =>
      intro k st M1 hk hA h9 I1 ms_
      have ex := ag_xE hA (by decide) (by decide) (by decide)
      have b := ms_.b hT
      refine g_x_mostSaved_14 _ _ _ _ _ _ _ _ _ _ ⟨⟨by omega, by omega⟩, by rw [ex.2]; exact ⟨by omega, by omega⟩, fun _ => ⟨⟨by omega, by omega⟩, ?_⟩, fun q => absurd (by rw [ex.2]; omega) q⟩
      rw [show mx2 st.1 0 = st.1 by unfold mx2; split <;> omega]
      exact hq M1 st hA h9 I1 (by rw [show (M 1 0).toNat = k by omega]; exact ms_)
    | succ n ih =>
      intro k st M1 hk hA h9 I1 ms_
      have ex := ag_xE hA (by decide) (by decide) (by decide)
      have b := ms_.b hT
      have kh : hs (k : Int) := ⟨by omega, by omega⟩
      have g0 := g.1
      refine g_x_mostSaved_14 _ _ _ _ _ _ _ _ _ _ ⟨⟨by omega, by omega⟩, by rw [ex.2]; exact ⟨by omega, by omega⟩, fun q => absurd q (by rw [ex.2]; omega), fun _ => ⟨kh, ?_⟩⟩
      obtain ⟨N, hN⟩ : ∃ N, N = mset M1 9 (k : Int) (M1 9 (k : Int) + a) := ⟨_, rfl⟩
      rw [← hN]
      have n' : ∀ c, c ≠ 9 → N c = M1 c := fun c hc => by rw [hN, mset_ne hc]
      have n9 : ∀ j, hs j → N 9 j = M 2 j + e j + (if j = (k : Int) then a else 0) := fun j hj => by
        rw [hN]
        by_cases q : j = (k : Int)
        · rw [q, mset_eq, if_pos rfl, h9, hp _ kh]
        · rw [if_neg q, show (mset M1 9 (k : Int) (M1 9 (k : Int) + a)) 9 j = M1 9 j by simp [mset, q], h9, hp j hj]; omega
      have O : Okc (xG M e (k : Int) a) := xG_ok B g
      have BN : XB N := I1.1.xb.of (n' 1 (by decide)) (n' 2 (by decide)) (n' 3 (by decide))
      have m1 : N 1 = M 1 := by rw [n' 1 (by decide), hA 1 (by decide)]
      have m3 : N 3 = M 3 := by rw [n' 3 (by decide), hA 3 (by decide)]
      have P : ct_P N := ⟨BN, fun j hj => by rw [n9 j hj]; exact O.2.2.1 j hj⟩
      have E : Eqr (ct_g N) (xG M e (k : Int) a) := ⟨by show M 1 1 = N 1 1; rw [m1], by show M 1 2 = N 1 2; rw [m1], fun j h c hj hh hc => by show xo M j h c = xo N j h c; rw [xo_of m3], fun j hj => (n9 j hj).symm⟩
      refine ct_run P (fun M2 X D hA2 c ar d28 d29 => ?_)
      rw [m1] at c
      have c' := c.onr E
      have x := clr_xd c' (M2 24 0) c'.1.1 (Int.le_refl _)
      have arW := ar (M2 24 0) c'.1.1 (by omega)
      obtain ⟨M3, hM3⟩ : ∃ M3, M3 = mset M2 9 (k : Int) (M2 9 (k : Int) - a) := ⟨_, rfl⟩
      show Call (K + 5) jJInteger_bitCount [.inl (M2 24 1)] P0 P0 (mset M2 9 (k : Int) (M2 9 (k : Int) - a)) _
      rw [← hM3]
      have p3 : ∀ c, c ≠ 9 → M3 c = M2 c := fun c hc => by rw [hM3, mset_ne hc]
      have p9 : M3 9 = M 9 := by
        rw [← h9]
        funext j
        rw [hM3]
        by_cases q : j = (k : Int)
        · rw [q, mset_eq, hA2 9 (by decide), hN, mset_eq]; omega
        · rw [show (mset M2 9 (k : Int) (M2 9 (k : Int) - a)) 9 j = M2 9 j by simp [mset, q], hA2 9 (by decide), hN, show (mset M1 9 (k : Int) (M1 9 (k : Int) + a)) 9 j = M1 9 j by simp [mset, q]]
      have hA3 : Ag trx M1 M3 := fun c hc => by
        rw [p3 c (fun z => hc (by rw [z]; decide)), hA2 c (fun z => hc (by revert z; simp; omega)), n' c (fun z => hc (by rw [z]; decide))]
      have I3 : Iv M3 := I1.scrx (hA3.mono (by decide))
      have e24 : M3 24 = M2 24 := p3 24 (by decide)
      have e3 : M3 3 = M 3 := by rw [hA3 3 (by decide), hA 3 (by decide)]
      have s32 := c'.2.1
      have td : TD (xG M e (k : Int) a) (M 1 0) (M2 24 1, (s5 fun h => gt (xG M e (k : Int) a) (X (M2 24 0)) h), D (M2 24 0)) := ⟨X, D, M2 24 0, _, c', rfl, rfl⟩
      have tb_ := td.b O
      refine x_bitCount ⟨s32.1, by omega⟩ ?_
      refine ct_allPaid_ I3.1.xb (by rw [e24]; exact c'.1) (fun h c hh hc => ?_) ?_
      · rw [p3 28 (by decide), d28 h c hh hc, xd_of m3, xd_of e3]
      · have ey : (s5 fun h => yt (ct_g M3) (ct_X M3 (M3 24 0)) h) = s5 fun h => gt (xG M e (k : Int) a) (X (M2 24 0)) h := by
          rw [← paid_got]
          refine s5_congr fun h hh => s3_congr fun c hc => ?_
          have e1 : ct_X M3 (M3 24 0) h c = X (M2 24 0) h c := by
            unfold ct_X
            rw [p3 26 (by decide), e24]
            exact arW.2 h c hh hc
          rw [e1]
          congr 1
          show (s5 fun k => xo M3 h k c) = s5 fun k => xo M h k c
          rw [xo_of e3]
        rw [ey]
        refine ct_bottom_ (by rw [e24]; exact c'.1) ?_
        rw [e24, p3 27 (by decide), arW.1]
        have cc := (c6_b (s := M2 24 1) ⟨s32.1, by omega⟩).1
        refine x_compare ⟨by omega, by omega⟩ ⟨by omega, by omega⟩ (fun r rR r1 r2 => ?_)
        refine x_order tb_.2.1 tb_.2.2.1 b.2.2.1 b.2.2.2.1 tb_.2.2.2 b.2.2.2.2 ?_
        have oR := cmp_R (x := s5 fun h => gt (xG M e (k : Int) a) (X (M2 24 0)) h) (y := D (M2 24 0)) (u := st.2.2.1) (v := st.2.2.2)
        have nx := ih (k + 1) (stp mode st _ (k : Int)) M3 (by omega) (hA.tr hA3) p9 I3 ⟨st, _, ms_, td, rfl⟩
        rw [show ((k + 1 : Nat) : Int) = (k : Int) + 1 by omega] at nx
        rw [stp] at nx
        dsimp only at nx
        obtain ⟨p, hpp⟩ : ∃ p, p = s5 fun h => gt (xG M e (k : Int) a) (X (M2 24 0)) h := ⟨_, rfl⟩
        rw [← hpp] at nx oR ⊢
        obtain ⟨o, ho⟩ : ∃ o, o = cmp p (D (M2 24 0)) st.2.2.1 st.2.2.2 := ⟨_, rfl⟩
        rw [← ho] at nx oR ⊢
        have ny : newc mode st.1 (st.2.1 - c6 (M2 24 1)) o → G none (K + 5 + 1) jClearingWaves_mostSaved 14 [(0, .inr (.inr 0)), (1, .inl a), (2, .inl mode), (3, .inl (k : Int)), (4, .inl (c6 (M2 24 1))), (5, .inr (.inl p)), (7, .inr (.inl (D (M2 24 0)))), (9, .inl ((k : Int) + 1))] [] P0 P0 M3 Q := fun z => by rw [if_pos z] at nx; exact nx
        have no : ¬ newc mode st.1 (st.2.1 - c6 (M2 24 1)) o → G none (K + 5 + 1) jClearingWaves_mostSaved 14 [(0, .inr (.inr 0)), (1, .inl a), (2, .inl mode), (3, .inl st.1), (4, .inl st.2.1), (5, .inr (.inl st.2.2.1)), (7, .inr (.inl st.2.2.2)), (9, .inl ((k : Int) + 1))] [] P0 P0 M3 Q := fun z => by rw [if_neg z] at nx; exact nx
        clear nx
        have wR : R32 st.1 := ⟨by omega, by omega⟩
        refine ⟨hm, fun q => ⟨fun _ => ⟨wR, fun q1 => ny ?_, fun q1 => ⟨oR, fun q2 => ny ?_, fun q2 => ⟨fun q3 => no ?_, fun q3 => ⟨rR, fun q4 => no ?_, fun q4 => ny ?_⟩⟩⟩⟩, fun q0 => absurd q0 q⟩, fun q => ⟨fun q0 => absurd q q0, fun _ => ⟨wR, fun q1 => ny ?_, fun q1 => ⟨rR, fun q2 => ny ?_, fun q2 => ⟨fun q3 => no ?_, fun q3 => ⟨oR, fun q4 => no ?_, fun q4 => ny ?_⟩⟩⟩⟩⟩⟩ <;> (unfold newc; omega)
  exact c_x_mostSaved (K + 5) a mode M Q (loop (M 1 0).toNat 0 (-1, 0, 0, 1) M (by omega) (Ag.rf _ _) rfl I rfl)
