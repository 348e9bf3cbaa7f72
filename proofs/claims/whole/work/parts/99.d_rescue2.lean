/-- rows too have changed on both sides -/
theorem Iv.all {M M' : PM} (I : Iv M) (hA : Ag (scr ++ [50, 51, 72, 73]) M M') (h02 : M' 0 2 = M 0 2) (h2 : M' 52 2 = M 52 2) (h6 : M' 52 6 = M 52 6) (h32 : M' 52 32 = M 52 32) (r : IvR M') (x : IvX M') (c : IvC M') (m : IvM M') : Iv M' :=
  ⟨I.1.of (hA 1 (by decide)) (hA 2 (by decide)) (hA 3 (by decide)) (hA 4 (by decide)) (hA 53 (by decide)) (hA 55 (by decide)), I.2.1.of h02 h2 (hA 5 (by decide)) (hA 6 (by decide)) (hA 7 (by decide)) (hA 8 (by decide)) (hA 54 (by decide)),
    I.2.2.1.of (by rw [hA 45 (by decide)]) (hA 46 (by decide)) h6 (hA 56 (by decide)), I.2.2.2.1.of (hA 47 (by decide)) (hA 48 (by decide)) h32 (hA 71 (by decide)), r, x, c, m⟩
theorem RSt.of {M M' : PM} {a mode : Int} (h1 : M' 1 = M 1) (h2 : M' 2 = M 2) (h3 : M' 3 = M 3) : ∀ (i : Nat) (e : Int → Int), RSt M' a mode i e → RSt M a mode i e := by
  intro i
  induction i with
  | zero => intro e h; exact h
  | succ i ih =>
    intro e h
    obtain ⟨e0, st, r, m, z⟩ := h
    refine ⟨e0, st, ih e0 r, ?_, z⟩
    have exx : (fun h => TD (xG M' e0 h a) (M' 1 0)) = fun h => TD (xG M e0 h a) (M 1 0) := by
      funext h
      rw [xG_of h1 h2 h3, h1]
    rw [exx, h1] at m
    exact m
abbrev rsx : List Nat := [9, 10, 24, 25, 26, 27, 28, 29, 30, 31, 32, 33, 35, 36]
theorem x_rescue {K : Nat} {a i g t mode : Int} {M : PM} {Q : Option PV → PM → Prop} (I : Iv M) (ha : 0 ≤ a ∧ a < 4) (hg : 1 ≤ g ∧ g ≤ 30) (ht : 1 ≤ t ∧ t ≤ 6) (hm : R32 mode) (h1 : R32 a) (h2 : R32 i)
    (hq : ∀ M' e m v, Ag (51 :: rsx) M M' → RSt M g mode t.toNat e → MF (M 50 a) i (M 1 0) m → LY (M 51) (M' 51) e ((a * 20) + i) m → ((m = M 1 0 ∧ FS (xG M e (-1) 0) (M 1 0) v) ∨ (m ≠ M 1 0 ∧ v = -13)) → Q (some (.inl v)) M') :
    G none (K + 7 + 1) jClearingWaves_rescue 72 [(0, .inr (.inr 0)), (1, .inl a), (2, .inl i), (3, .inl g), (4, .inl t), (5, .inl mode), (6, .inl 0)] [] P0 P0 (mcpy M 2 9 5) Q := by
  have B := I.1.xb
  have B1 := B.1
  have hA0 : Ag [9] M (mcpy M 2 9 5) := fun c hc => mcpy_ne (fun z => hc (by rw [z]; decide))
  have h90 : ∀ k, hs k → (mcpy M 2 9 5) 9 k = M 2 k := fun k hk => by unfold mcpy; rw [if_pos ⟨rfl, by omega⟩]
  -- the end
  have fin : ∀ (M1 : PM) (e : Int → Int), Ag rsx M M1 → RSt M g mode t.toNat e → (∀ k, hs k → M1 10 k = e k) → (∀ k, hs k → M1 9 k = M 2 k + e k) → G none (K + 7 + 1) jClearingWaves_rescue 145 [(0, .inr (.inr 0)), (1, .inl a), (2, .inl i), (6, .inl 1), (7, .inl 0)] [] P0 P0 M1 Q := by
    intro M1 e hA rs h10 h9
    have gb := rs.gb0 ⟨by omega, by omega⟩ (by omega)
    have e50 : M1 50 = M 50 := hA 50 (by decide)
    have e11 : M1 1 = M 1 := hA 1 (by decide)
    have I1 : Iv M1 := I.scrx (hA.mono (by decide))
    refine x_lays (K := K + 2) (n := M 1 0) I1.2.2.2.2.1 ha h1 h2 (by rw [e11]) B1 h10 (fun k => ⟨by have := gb.2 k; omega, by have := gb.2 k; omega⟩) (fun M2 m hA2 mf ly => ?_)
    rw [e50] at mf
    rw [hA 51 (by decide)] at ly
    by_cases q : m = M 1 0
    · rw [if_pos q]
      refine ⟨by decide, fun _ => ?_, fun z => absurd z (by decide)⟩
      have O : Okc (xG M e (-1) 0) := xG_ok B gb.1
      have m1 : M2 1 = M 1 := by rw [hA2 1 (by decide), e11]
      have m3 : M2 3 = M 3 := by rw [hA2 3 (by decide), hA 3 (by decide)]
      have n9 : ∀ j, hs j → M2 9 j = M 2 j + e j + (if j = -1 then 0 else 0) := fun j hj => by rw [hA2 9 (by decide), h9 j hj]; split <;> omega
      have P : ct_P M2 := ⟨I1.1.xb.of (hA2 1 (by decide)) (hA2 2 (by decide)) (hA2 3 (by decide)), fun j hj => by rw [n9 j hj]; exact O.2.2.1 j hj⟩
      have E : Eqr (ct_g M2) (xG M e (-1) 0) := ⟨by show M 1 1 = M2 1 1; rw [m1], by show M 1 2 = M2 1 2; rw [m1], fun j h c hj hh hc => by show xo M j h c = xo M2 j h c; rw [xo_of m3], fun j hj => (n9 j hj).symm⟩
      refine ct_run P (fun M3 X D hA3 c ar d28 d29 => ?_)
      rw [m1] at c
      refine hq M3 e m _ (fun c hc => ?_) rs mf ?_ (Or.inl ⟨q, X, D, _, _, c.onr E⟩)
      · rw [hA3 c (fun z => hc (by revert z; simp; omega)), hA2 c (fun z => hc (by revert z; simp; omega)), hA c (fun z => hc (by revert z; simp; omega))]
      · rw [hA3 51 (by decide)]; exact ly
    · rw [if_neg q]
      refine ⟨by decide, fun z => absurd rfl z, fun _ => hq M2 e m (-13) (fun c hc => ?_) rs mf ly (Or.inr ⟨q, rfl⟩)⟩
      rw [hA2 c (fun z => hc (by revert z; simp; omega)), hA c (fun z => hc (by revert z; simp; omega))]
  -- the gifts
  have loop : ∀ (x j : Nat) (e : Int → Int) (M1 : PM), t - (j : Int) = (x : Int) → Ag rsx M M1 → RSt M g mode j e → (∀ k, hs k → M1 10 k = e k) → (∀ k, hs k → M1 9 k = M 2 k + e k) → G none (K + 7 + 1) jClearingWaves_rescue 95 [(0, .inr (.inr 0)), (1, .inl a), (2, .inl i), (3, .inl g), (4, .inl t), (5, .inl mode), (6, .inl (j : Int))] [] P0 P0 M1 Q := by
    intro x
    induction x with
    | zero =>
      intro j e M1 hx hA rs h10 h9
      exact g_x_rescue_95 _ _ _ _ _ _ _ _ _ ⟨⟨by omega, by omega⟩, ⟨by omega, by omega⟩, fun _ => fin M1 e hA (by rw [show t.toNat = j by omega]; exact rs) h10 h9, fun q => absurd (by omega) q⟩
    | succ x ih =>
      intro j e M1 hx hA rs h10 h9
      have gb := rs.gb ⟨by omega, by omega⟩ (by omega)
      have I1 : Iv M1 := I.scrx (hA.mono (by decide))
      refine g_x_rescue_95 _ _ _ _ _ _ _ _ _ ⟨⟨by omega, by omega⟩, ⟨by omega, by omega⟩, fun q => absurd q (by omega), fun _ => x_mostSaved (K := K + 1) (e := e) I1 (fun k hk => by rw [hA 2 (by decide)]; exact h9 k hk) gb hm (fun M2 st hA2 p9 I2 ms_ => ?_)⟩
      have exx : (fun h => TD (xG M1 e h g) (M1 1 0)) = fun h => TD (xG M e h g) (M 1 0) := by
        funext h
        rw [xG_of (hA 1 (by decide)) (hA 2 (by decide)) (hA 3 (by decide)), hA 1 (by decide)]
      rw [exx, hA 1 (by decide)] at ms_
      have b := (msg_b B gb ms_).1
      have sh : hs st.1 := ⟨by omega, by omega⟩
      refine ⟨sh, ?_⟩
      have nx := ih (j + 1) (fun k => e k + (if k = st.1 then g else 0)) (mset (mset M2 10 st.1 (M2 10 st.1 + g)) 9 st.1 (M2 9 st.1 + g)) (by omega) (((hA.tr (hA2.mono (by decide))).set (by decide)).set (by decide)) ⟨e, st, rs, ms_, rfl⟩ (fun k hk => ?_) (fun k hk => ?_)
      · rw [show ((j + 1 : Nat) : Int) = (j : Int) + 1 by omega] at nx
        exact nx
      · rw [mset_ne (by decide), mset_at, hA2 10 (by decide)]
        show _ = e k + (if k = st.1 then g else 0)
        by_cases q : k = st.1
        · rw [if_pos q, if_pos q, q, h10 _ sh]
        · rw [if_neg q, if_neg q, h10 k hk]; omega
      · rw [mset_at, mset_ne (by decide), p9]
        show _ = M 2 k + (e k + (if k = st.1 then g else 0))
        by_cases q : k = st.1
        · rw [if_pos q, if_pos q, q, h9 _ sh]; omega
        · rw [if_neg q, if_neg q, h9 k hk]; omega
  have zer : ∀ (x : Nat) (j : Int) (M1 : PM), j + (x : Int) = 5 → 0 ≤ j → Ag [10] (mcpy M 2 9 5) M1 → (∀ k, hs k → k < j → M1 10 k = 0) → G none (K + 7 + 1) jClearingWaves_rescue 72 [(0, .inr (.inr 0)), (1, .inl a), (2, .inl i), (3, .inl g), (4, .inl t), (5, .inl mode), (6, .inl j)] [] P0 P0 M1 Q := by
    intro x
    induction x with
    | zero =>
      intro j M1 hj j0 hA h
      refine g_x_rescue_72 _ _ _ _ _ _ _ _ _ ⟨⟨by omega, by omega⟩, fun _ => loop t.toNat 0 (fun _ => 0) M1 (by omega) (fun c hc => ?_) rfl (fun k hk => h k hk (by have := hk.2; omega)) (fun k hk => ?_), fun q => absurd (by omega) q⟩
      · rw [hA c (fun z => hc (by revert z; simp; omega)), hA0 c (fun z => hc (by revert z; simp; omega))]
      · rw [hA 9 (by decide), h90 k hk]; exact (Int.add_zero _).symm
    | succ x ih =>
      intro j M1 hj j0 hA h
      refine g_x_rescue_72 _ _ _ _ _ _ _ _ _ ⟨⟨by omega, by omega⟩, fun q => absurd q (by omega), fun _ => ⟨⟨j0, by omega⟩, ih (j + 1) _ (by omega) (by omega) (hA.set (by decide)) (fun k hk hl => ?_)⟩⟩
      rw [mset_at]
      by_cases q : k = j
      · rw [if_pos q]
      · rw [if_neg q]; exact h k hk (by omega)
  exact zer 5 0 _ (by decide) (by decide) (Ag.rf _ _) (fun k hk hl => by have := hk.1; omega)
theorem m_rescue {K : Nat} {a i g t mode : Int} {M : PM} {Q : Option PV → PM → Prop} (I : IvB M) (h4 : Fs M M) (ha : 0 ≤ a ∧ a < 4) (hb : -1 ≤ M 73 a ∧ M 73 a ≤ 20) (hg : 1 ≤ g ∧ g ≤ 30) (ht : 1 ≤ t ∧ t ≤ 6) (hm : R32 mode) (h2 : R32 i)
    (h69 : ∀ k, hs k → M 69 k = 0)
    (hq : ∀ M' e m s, Ag (69 :: 72 :: trm) M M' → Fz M M' → RSt M g mode t.toNat e → MF (M 73 a) i (M 1 0) m → LY (M 72) (M' 72) e ((20 * a) + i) m → FS (xG M e (-1) 0) (M 1 0) s → Q (some (.inl (if m = M 1 0 then s else -13))) M') :
    G none (K + 16 + 1) jModel_rescue 68 [(0, .inr (.inr 52)), (1, .inl a), (2, .inl i), (3, .inl g), (4, .inl t), (5, .inl mode), (6, .inl 0)] [] P0 P0 M Q := by
  have B := I.xb
  have B1 := B.1
  have loop : ∀ (x j : Nat) (e : Int → Int) (M1 : PM), t - (j : Int) = (x : Int) → Ag (69 :: trm) M M1 → Fs M M1 → RSt M g mode j e → (∀ k, hs k → M1 69 k = e k) → G none (K + 16 + 1) jModel_rescue 68 [(0, .inr (.inr 52)), (1, .inl a), (2, .inl i), (3, .inl g), (4, .inl t), (5, .inl mode), (6, .inl (j : Int))] [] P0 P0 M1 Q := by
    intro x
    induction x with
    | zero =>
      intro j e M1 hx hA fs rs h69
      have gb := rs.gb0 ⟨by omega, by omega⟩ (by omega)
      have I1 : IvB M1 := I.of (hA 1 (by decide)) (hA 2 (by decide)) (hA 3 (by decide)) (hA 4 (by decide)) (hA 53 (by decide)) (hA 55 (by decide))
      refine g_m_rescue_68 _ _ _ _ _ _ _ _ _ ⟨⟨by omega, by omega⟩, ⟨by omega, by omega⟩, fun _ => m_supposesGiven (K := K + 1) (e := e) I1 h69 gb.1 (by decide) (fun M2 X D wv hA2 I2 fz c ma => ?_), fun q => absurd (by omega) q⟩
      rw [xG_of (hA 1 (by decide)) (hA 2 (by decide)) (hA 3 (by decide)), hA 1 (by decide)] at c
      have e73 : M2 73 = M 73 := by rw [hA2 73 (by decide), hA 73 (by decide)]
      refine m_lays (K := K + 11) (n := M 1 0) (e := e) ha (by rw [e73]; exact hb) h2 (by rw [I2.n, hA2 1 (by decide), hA 1 (by decide)]) B1 (fun k hk => by rw [hA2 69 (by decide)]; exact h69 k hk) (fun k => ⟨by have := gb.2 k; omega, by have := gb.2 k; omega⟩) (fun M3 m hA3 mf ly => ?_)
      rw [e73] at mf
      rw [hA2 72 (by decide), hA 72 (by decide)] at ly
      have e52 : M3 52 = M2 52 := hA3 52 (by decide)
      exact hq M3 e m _ (fun c hc => by rw [hA3 c (fun z => hc (by revert z; simp; omega)), hA2 c (fun z => hc (by revert z; simp; omega)), hA c (fun z => hc (by revert z; simp; omega))]) ⟨fun i a1 a2 a3 a4 a5 => by rw [e52, fz.1 i a1 a2 a3 a4 a5, fs i a1 a2 a3 a4 a5], by rw [e52]; exact fz.2⟩ (by rw [show t.toNat = j by omega]; exact rs) mf ly ⟨X, D, _, _, c⟩
    | succ x ih =>
      intro j e M1 hx hA fs rs h69
      have gb := rs.gb ⟨by omega, by omega⟩ (by omega)
      have I1 : IvB M1 := I.of (hA 1 (by decide)) (hA 2 (by decide)) (hA 3 (by decide)) (hA 4 (by decide)) (hA 53 (by decide)) (hA 55 (by decide))
      refine g_m_rescue_68 _ _ _ _ _ _ _ _ _ ⟨⟨by omega, by omega⟩, ⟨by omega, by omega⟩, fun q => absurd q (by omega), fun _ => m_savesMost (e := e) I1 h69 gb hm (fun M2 st hA2 I2 fz ms_ => ?_)⟩
      have exx : (fun h => TD (xG M1 e h g) (M1 1 0)) = fun h => TD (xG M e h g) (M 1 0) := by
        funext h
        rw [xG_of (hA 1 (by decide)) (hA 2 (by decide)) (hA 3 (by decide)), hA 1 (by decide)]
      rw [exx, hA 1 (by decide)] at ms_
      have b := (msg_b B gb ms_).1
      have sh : hs st.1 := ⟨by omega, by omega⟩
      refine ⟨sh, ?_⟩
      have nx := ih (j + 1) (fun k => e k + (if k = st.1 then g else 0)) (mset M2 69 st.1 (M2 69 st.1 + g)) (by omega) ((hA.tr (hA2.mono (by decide))).set (by decide)) (fun i a1 a2 a3 a4 a5 => by rw [mset_ne (by decide), fz.1 i a1 a2 a3 a4 a5, fs i a1 a2 a3 a4 a5]) ⟨e, st, rs, ms_, rfl⟩ (fun k hk => ?_)
      · rw [show ((j + 1 : Nat) : Int) = (j : Int) + 1 by omega] at nx
        exact nx
      · rw [mset_at, hA2 69 (by decide)]
        show _ = e k + (if k = st.1 then g else 0)
        by_cases q : k = st.1
        · rw [if_pos q, if_pos q, q, h69 _ sh]
        · rw [if_neg q, if_neg q, h69 k hk]; omega
  exact loop t.toNat 0 (fun _ => 0) M (by omega) (Ag.rf _ _) h4 rfl h69
theorem b_rescue {K : Nat} {a i g t mode : Int} {M : PM} {C : Int → Int → PM → Prop} (I : Iv M) (h1 : R32 a) (h2 : R32 i) (h3 : R32 g) (h4 : R32 t) (h5 : R32 mode) (hq : Ok32 C) : Bi (K + 22) jClearingWaves_rescue [.inr (.inr 0), .inl a, .inl i, .inl g, .inl t, .inl mode] jModel_rescue [.inr (.inr 52), .inl a, .inl i, .inl g, .inl t, .inl mode] M C := by
  have R := I.2.2.2.2.1
  have B := I.1.xb
  have B1 := B.1
  unfold Bi
  by_cases pa : 0 ≤ a ∧ a < 4
  · have r := R a pa.1 pa.2
    by_cases pm : 0 ≤ mode ∧ mode ≤ 1
    · by_cases pg : 1 ≤ g ∧ g ≤ 30
      · by_cases pt : 1 ≤ t ∧ t ≤ 6
        · have mid : ∀ (Q : Option PV → PM → Prop) (M1 : PM), ((0 ≤ a ∧ a < 4) ∧ R32 (M1 73 a) ∧ (¬ M1 73 a = -1 → Call (K + 21) jModel_givesNothing [.inr (.inr 52)] P0 P0 M1 (retV fun M19 => G none (K + 21 + 1) jModel_rescue 68 [(0, .inr (.inr 52)), (1, .inl a), (2, .inl i), (3, .inl g), (4, .inl t), (5, .inl mode), (6, .inl 0)] [] P0 P0 M19 Q)) ∧ (M1 73 a = -1 → Q (some (.inl (-11))) M1)) → Call (K + 22) jModel_rescue [.inr (.inr 52), .inl a, .inl i, .inl g, .inl t, .inl mode] P0 P0 M1 Q :=
            fun Q M1 go => c_m_rescue (K + 21) a i g t mode M1 Q (m_isRow_y h1 pa ⟨by decide, fun q => absurd q (by decide), fun _ => ⟨h5, m_within_y h5.R64 (by decide) (by decide) pm ⟨by decide, fun _ => ⟨h3, m_within_y h3.R64 (by decide) (by decide) pg ⟨by decide, fun q => absurd q (by decide), fun _ => ⟨h4, m_within_y h4.R64 (by decide) (by decide) pt ⟨by decide, fun _ => go, fun q => absurd q (by decide)⟩⟩⟩⟩, fun q => absurd q (by decide)⟩⟩⟩)
          refine c_x_rescue (K + 21) a i g t mode M _ (ro_has_y h1 pa ⟨by decide, fun q => absurd q (by decide), fun _ => ⟨h5, fun z => absurd z (by omega), fun _ => ⟨fun _ => ⟨h3, fun z => absurd z (by omega), fun _ => ⟨fun z => absurd z (by omega), fun _ => ⟨h4, fun z => absurd z (by omega), fun _ => ⟨fun _ => ?_, fun z => absurd pt.2 z⟩⟩⟩⟩, fun z => absurd pm.2 z⟩⟩⟩)
          by_cases ph : M 50 a = -1
          · refine ro_holds_n R pa ph ⟨by decide, fun q => absurd rfl q, fun _ => mid _ M ⟨pa, by rw [← r.1, ph]; decide, fun q => absurd (by rw [← r.1]; exact ph) q, fun _ => hq _ _ (by decide) I⟩⟩
          · refine ro_holds_y R pa ph ⟨by decide, fun _ => c_x_loadPurse (K + 20) M _ (x_rescue (K := K + 14) I pa pg pt h5 h1 h2 (fun M1 e m v hA rs mf ly vv => ?_)), fun q => absurd q (by decide)⟩
            have e73 : M1 73 = M 73 := hA 73 (by decide)
            refine mid _ M1 ⟨pa, by rw [e73, ← r.1]; exact ⟨by omega, by omega⟩, fun _ => m_givesNothing (fun M2 hA2 h69 => ?_), fun q => absurd (by rw [← q, e73, r.1]) ph⟩
            have n1 : M2 1 = M 1 := by rw [hA2 1 (by decide), hA 1 (by decide)]
            have n2 : M2 2 = M 2 := by rw [hA2 2 (by decide), hA 2 (by decide)]
            have n3 : M2 3 = M 3 := by rw [hA2 3 (by decide), hA 3 (by decide)]
            have IB : IvB M2 := I.1.of n1 n2 n3 (by rw [hA2 4 (by decide), hA 4 (by decide)]) (by rw [hA2 53 (by decide), hA 53 (by decide)]) (by rw [hA2 55 (by decide), hA 55 (by decide)])
            have m73 : M2 73 = M 73 := by rw [hA2 73 (by decide), e73]
            have m52 : M2 52 = M 52 := by rw [hA2 52 (by decide), hA 52 (by decide)]
            refine m_rescue (K := K + 5) IB (fun _ _ _ _ _ _ => rfl) pa (by rw [m73, ← r.1]; exact r.2.1) pg pt h5 h2 h69 (fun M3 e' m' s hA3 fz rs' mf' ly' fs => ?_)
            have rs2 := rs'.of n1 n2 n3
            have ee : e' = e := RSt.uniq B ⟨by omega, by omega⟩ t.toNat e' e (by omega) rs2 rs
            rw [m73, ← r.1, n1] at mf'
            have em : m' = m := mf'.uniq mf
            rw [xG_of n1 n2 n3, n1, ee] at fs
            rw [ee, em, show M2 72 = M 72 by rw [hA2 72 (by decide), hA 72 (by decide)]] at ly'
            have gb := rs.gb0 ⟨by omega, by omega⟩ (by omega)
            have hAll : Ag (scr ++ [50, 51, 72, 73]) M M3 := fun c hc => by
              rw [hA3 c (fun z => hc (by revert z; simp; omega)), hA2 c (fun z => hc (by revert z; simp; omega)), hA c (fun z => hc (by revert z; simp; omega))]
            have k0 : M3 0 = M 0 := by rw [hA3 0 (by decide), hA2 0 (by decide), hA 0 (by decide)]
            have kx : ∀ c, c ∉ (69 :: 72 :: trm) → c ∉ [69] → c ∉ (51 :: rsx) → M3 c = M c := fun c a b d => by rw [hA3 c a, hA2 c b, hA c d]
            have I3 : Iv M3 := I.all hAll (by rw [k0]) (by rw [fz.1 2 (by decide) (by decide) (by decide) (by decide) (by decide), m52]) (by rw [fz.1 6 (by decide) (by decide) (by decide) (by decide) (by decide), m52]) (by rw [fz.1 32 (by decide) (by decide) (by decide) (by decide) (by decide), m52])
              (R.lays pa mf.2.1 (fun k => ⟨by have := gb.2 k; omega, by have := gb.2 k; omega⟩) (kx 50 (by decide) (by decide) (by decide)) (kx 73 (by decide) (by decide) (by decide)) (by rw [hA3 51 (by decide), hA2 51 (by decide)]; exact ly) ly')
              (I.2.2.2.2.2.1.of (by rw [k0]) (kx 1 (by decide) (by decide) (by decide)) (kx 2 (by decide) (by decide) (by decide)) (kx 3 (by decide) (by decide) (by decide)) (kx 11 (by decide) (by decide) (by decide)) (kx 12 (by decide) (by decide) (by decide)) (kx 13 (by decide) (by decide) (by decide)) (kx 14 (by decide) (by decide) (by decide)) (kx 15 (by decide) (by decide) (by decide)) (kx 16 (by decide) (by decide) (by decide)))
              (I.2.2.2.2.2.2.1.of (by rw [k0]) (kx 1 (by decide) (by decide) (by decide)) (kx 2 (by decide) (by decide) (by decide)) (kx 3 (by decide) (by decide) (by decide)) (kx 37 (by decide) (by decide) (by decide)) (kx 38 (by decide) (by decide) (by decide)) (kx 39 (by decide) (by decide) (by decide)))
              (IvM.no fz.2)
            show C v (if m' = M2 1 0 then s else -13) M3
            rw [em, n1]
            rcases vv with vv | vv
            · rw [if_pos vv.1, ← FS.uniq (xG_ok B gb.1) vv.2 fs]
              have := vv.2.b.1
              exact hq _ _ ⟨by omega, by omega⟩ I3
            · rw [if_neg vv.1, vv.2]; exact hq _ _ (by decide) I3
        · have fin := c_m_rescue (K + 21) a i g t mode M (retI fun r2 M2 => C (-2) r2 M2) (m_isRow_y h1 pa ⟨by decide, fun q => absurd q (by decide), fun _ => ⟨h5, m_within_y h5.R64 (by decide) (by decide) pm ⟨by decide, fun _ => ⟨h3, m_within_y h3.R64 (by decide) (by decide) pg ⟨by decide, fun q => absurd q (by decide), fun _ => ⟨h4, m_within_n h4.R64 (by decide) (by decide) pt ⟨by decide, fun q => absurd rfl q, fun _ => hq _ _ (by decide) I⟩⟩⟩⟩, fun q => absurd q (by decide)⟩⟩⟩)
          exact c_x_rescue (K + 21) a i g t mode M _ (ro_has_y h1 pa ⟨by decide, fun q => absurd q (by decide), fun _ => ⟨h5, fun z => absurd z (by omega), fun _ => ⟨fun _ => ⟨h3, fun z => absurd z (by omega), fun _ => ⟨fun z => absurd z (by omega), fun _ => ⟨h4, fun _ => fin, fun z => ⟨fun z2 => absurd ⟨by omega, by omega⟩ pt, fun _ => fin⟩⟩⟩⟩, fun z => absurd pm.2 z⟩⟩⟩)
      · have fin := c_m_rescue (K + 21) a i g t mode M (retI fun r2 M2 => C (-2) r2 M2) (m_isRow_y h1 pa ⟨by decide, fun q => absurd q (by decide), fun _ => ⟨h5, m_within_y h5.R64 (by decide) (by decide) pm ⟨by decide, fun _ => ⟨h3, m_within_n h3.R64 (by decide) (by decide) pg ⟨by decide, fun _ => hq _ _ (by decide) I, fun q => absurd rfl q⟩⟩, fun q => absurd q (by decide)⟩⟩⟩)
        exact c_x_rescue (K + 21) a i g t mode M _ (ro_has_y h1 pa ⟨by decide, fun q => absurd q (by decide), fun _ => ⟨h5, fun z => absurd z (by omega), fun _ => ⟨fun _ => ⟨h3, fun _ => fin, fun z => ⟨fun _ => fin, fun z2 => absurd ⟨by omega, by omega⟩ pg⟩⟩, fun z => absurd pm.2 z⟩⟩⟩)
    · have fin := c_m_rescue (K + 21) a i g t mode M (retI fun r2 M2 => C (-1) r2 M2) (m_isRow_y h1 pa ⟨by decide, fun q => absurd q (by decide), fun _ => ⟨h5, m_within_n h5.R64 (by decide) (by decide) pm ⟨by decide, fun q => absurd rfl q, fun _ => hq _ _ (by decide) I⟩⟩⟩)
      exact c_x_rescue (K + 21) a i g t mode M _ (ro_has_y h1 pa ⟨by decide, fun q => absurd q (by decide), fun _ => ⟨h5, fun _ => fin, fun z => ⟨fun z2 => absurd ⟨by omega, by omega⟩ pm, fun _ => fin⟩⟩⟩)
  · refine c_x_rescue (K + 21) a i g t mode M _ (ro_has_n h1 pa ⟨by decide, fun _ => ?_, fun q => absurd rfl q⟩)
    exact c_m_rescue (K + 21) a i g t mode M _ (m_isRow_n h1 pa ⟨by decide, fun _ => hq _ _ (by decide) I, fun q => absurd rfl q⟩)
