/-! SAVES, the model's -/
def Fs (M M' : PM) : Prop := ∀ i, i ≠ 4 → i ≠ 9 → i ≠ 13 → i ≠ 17 → i ≠ 21 → M' 52 i = M 52 i
def Fz (M M' : PM) : Prop := Fs M M' ∧ M' 52 4 = 0
theorem IvB.trm {M M' : PM} (I : IvB M) (hA : Ag trm M M') : IvB M' := I.of (hA 1 (by decide)) (hA 2 (by decide)) (hA 3 (by decide)) (hA 4 (by decide)) (hA 53 (by decide)) (hA 55 (by decide))
theorem Iv.fz {M M' : PM} (I : Iv M) (hA : Ag trm M M') (f : Fz M M') : Iv M' := I.scrm (hA.mono (by decide)) (f.1 2 (by decide) (by decide) (by decide) (by decide) (by decide)) (f.1 6 (by decide) (by decide) (by decide) (by decide) (by decide)) (f.1 32 (by decide) (by decide) (by decide) (by decide) (by decide)) (IvM.no f.2)
theorem ma_gtB {M : PM} {X : Int → Int → Int → Int} {D : Int → Int} (I : IvB M) (a : MA M X D) {r h : Int} (h0 : 0 ≤ r) (h1 : r ≤ M 52 9) (hh : hs h) : gt (gM M) (rX M r) h = gt (cp_g M) (X r) h := by
  have e : gt (gM M) (X r) h = gt (gK M) (X r) h := rfl
  have e1 : gt (gM M) (rX M r) h = gt (gM M) (X r) h := gt_on (a r h0 h1).2 h
  rw [e1, e, eqr_gt I.eq _ hh]
theorem m_allPaidB {K : Nat} {w : Int} {M : PM} {X : Int → Int → Int → Int} {D : Int → Int} {Q : Option PV → PM → Prop} (I : IvB M) (a : MA M X D) (h9 : M 52 9 = w) (hw : 0 ≤ w ∧ w ≤ 5) (hq : Q (some (.inr (.inl (s5 fun h => gt (cp_g M) (X w) h)))) M) : Call (K + 4) jModel_allPaid [.inr (.inr 52)] P0 P0 M Q := by
  have B := I.xb
  have hn := B.1
  have e55 := I.n
  have loop : ∀ (n : Nat) (h v : Int), 0 ≤ h → h + (n : Int) = M 1 0 → v = pcs (fun h => gt (cp_g M) (X w) h) h.toNat → G none (K + 3 + 1) jModel_allPaid 4 [(0, .inr (.inr 52)), (1, .inr (.inl v)), (3, .inl h)] [] P0 P0 M Q := by
    intro n
    induction n with
    | zero =>
      intro h v h0 hh hv
      refine g_m_allPaid_4 _ _ _ _ _ ⟨⟨by omega, by omega⟩, by rw [e55]; exact ⟨by omega, by omega⟩, fun _ => ?_, fun q => absurd (by rw [e55]; omega) q⟩
      rw [hv, show h = M 1 0 by omega, pcs_n5 hn (fun k hk hk2 => gt_0 B _ hk hk2)]
      exact hq
    | succ n ih =>
      intro h v h0 hh hv
      have hhs : hs h := ⟨h0, by omega⟩
      refine g_m_allPaid_4 _ _ _ _ _ ⟨⟨by omega, by omega⟩, by rw [e55]; exact ⟨by omega, by omega⟩, fun q => absurd q (by rw [e55]; omega), fun _ => m_getsIn I.mb hhs (by rw [h9]; exact hw) ?_⟩
      rw [h9, ma_gtB I a hw.1 (by rw [h9]; exact Int.le_refl _) hhs]
      exact ih (h + 1) _ (by omega) (by omega) (by rw [hv, pcs_up _ h0])
  exact c_m_allPaid (K + 3) M Q (loop (M 1 0).toNat 0 0 (by decide) (by omega) rfl)
theorem m_supposesGiven {K : Nat} {e : Int → Int} {a t : Int} {M : PM} {Q : Option PV → PM → Prop} (I : IvB M) (h69 : ∀ k, hs k → M 69 k = e k) (g : Gb e a) (ht : R32 t)
    (hq : ∀ M' X D wv, Ag trm M M' → IvB M' → Fz M M' → Clr (xG M e t a) (M 1 0) X D (M' 52 9) (M' 52 13) wv → MA M' X D → Q none M') : Call (K + 15) jModel_supposesGiven [.inr (.inr 52), .inl a, .inl t] P0 P0 M Q := by
  have B := I.mb
  refine c_m_supposesGiven (K + 14) a t M Q (m_supposesCash (K := K + 13) (fun M1 hA1 i1 j1 h61 => ?_))
  have O := xG_ok (h := t) I.xb g
  have fin : ∀ M2, Ag [61] M1 M2 → (∀ i, hs i → M2 61 i = M 2 i + e i + (if i = t then a else 0)) → Call (K + 14) jModel_goesRound [.inr (.inr 52)] P0 P0 M2 (retV fun M3 => Q none M3) := by
    intro M2 hA2 n61
    have k55 : M2 55 = M 55 := by rw [hA2 55 (by decide), hA1 55 (by decide)]
    have k52 : M2 52 = M1 52 := hA2 52 (by decide)
    have hpu : ∀ k, hs k → 0 ≤ M2 61 k ∧ M2 61 k ≤ 400 := fun k hk => by rw [n61 k hk]; exact O.2.2.1 k hk
    have E : Eqr (gM M2) (xG M e t a) := ⟨by show M 1 1 = M2 55 1; rw [k55, I.a], by show M 1 2 = M2 55 2; rw [k55, I.b], fun j h c hj hh hc => by show xo M j h c = mo M2 j h c; rw [show mo M2 j h c = mo M j h c by unfold mo; rw [k55]]; exact (I.o hj hh hc).symm, fun j hj => (n61 j hj).symm⟩
    refine m_goesRound (K := K) (B.of k55) hpu (fun M3 X D hA3 i3 c ar => ?_)
    rw [k55, I.n] at c
    have hA : Ag trm M M3 := fun b hb => by
      rw [hA3 b (fun z => hb (by revert z; simp; omega)), hA2 b (fun z => hb (by revert z; simp; omega)), hA1 b (fun z => hb (by revert z; simp; omega))]
    have hi : ∀ i, i ≠ 4 → i ≠ 9 → i ≠ 13 → i ≠ 17 → i ≠ 21 → M3 52 i = M 52 i := fun i a1 a2 a3 a4 a5 => by rw [i3 i a2 a3 a4 a5, k52, i1 i a1]
    exact hq M3 X D _ hA (I.trm hA) ⟨hi, by rw [i3 4 (by decide) (by decide) (by decide) (by decide), k52]; exact j1⟩ (c.onr E) ar
  have loop : ∀ (n : Nat) (j : Int) (M2 : PM), j + (n : Int) = 5 → 0 ≤ j → Ag [61] M1 M2 → (∀ i, hs i → M2 61 i = if i < j then M 2 i + e i + (if i = t then a else 0) else M 2 i) → G none (K + 14 + 1) jModel_supposesGiven 6 [(0, .inr (.inr 52)), (1, .inl a), (2, .inl t), (3, .inl j)] [] P0 P0 M2 Q := by
    intro n
    induction n with
    | zero =>
      intro j M2 hj j0 hA2 h
      refine g_m_supposesGiven_6 _ _ _ _ _ _ ⟨⟨by omega, by omega⟩, fun _ => fin M2 hA2 (fun i hi => by rw [h i hi, if_pos (by have := hi.2; omega)]), fun q => absurd (by omega) q⟩
    | succ n ih =>
      intro j M2 hj j0 hA2 h
      have jh : hs j := ⟨j0, by omega⟩
      have e69 : M2 69 j = e j := by rw [hA2 69 (by decide), hA1 69 (by decide), h69 j jh]
      have e61 : M2 61 j = M 2 j := by rw [h j jh, if_neg (by omega)]
      refine g_m_supposesGiven_6 _ _ _ _ _ _ ⟨⟨by omega, by omega⟩, fun q => absurd q (by omega), fun _ => ⟨jh, ht, fun q => ?_, fun q => ?_⟩⟩
      · refine ih (j + 1) _ (by omega) (by omega) (hA2.set (by decide)) (fun i hi => ?_)
        by_cases z : i = j
        · rw [z, mset_eq, if_pos (by omega), if_neg q, e69, e61]; omega
        · rw [show ∀ v, (mset M2 61 j v) 61 i = M2 61 i from fun v => by simp [mset, z], h i hi]
          by_cases w : i < j
          · rw [if_pos w, if_pos (show i < j + 1 by omega)]
          · rw [if_neg w, if_neg (show ¬ i < j + 1 by omega)]
      · refine ih (j + 1) _ (by omega) (by omega) (hA2.set (by decide)) (fun i hi => ?_)
        by_cases z : i = j
        · rw [z, mset_eq, if_pos (by omega), if_pos q, e69, e61]; omega
        · rw [show ∀ v, (mset M2 61 j v) 61 i = M2 61 i from fun v => by simp [mset, z], h i hi]
          by_cases w : i < j
          · rw [if_pos w, if_pos (show i < j + 1 by omega)]
          · rw [if_neg w, if_neg (show ¬ i < j + 1 by omega)]
  exact loop 5 0 M1 (by decide) (by decide) (Ag.rf _ _) (fun i hi => by rw [h61 i hi, I.c hi, if_neg (by have := hi.1; omega)])
theorem m_savesMost {K : Nat} {e : Int → Int} {a mode : Int} {M : PM} {Q : Option PV → PM → Prop} (I : IvB M) (h69 : ∀ k, hs k → M 69 k = e k) (g : Gb e a) (hm : R32 mode) (hq : ∀ M' st, Ag trm M M' → IvB M' → Fz M M' → MSt (fun h => TD (xG M e h a) (M 1 0)) mode (M 1 0).toNat st → Q (some (.inl st.1)) M') : Call (K + 16) jModel_savesMost [.inr (.inr 52), .inl a, .inl mode] P0 P0 M Q := by
  have B := I.xb
  have B1 := B.1
  have hT : ∀ k d, TD (xG M e k a) (M 1 0) d → (0 ≤ d.1 ∧ d.1 < 32) ∧ P63 d.2.1 ∧ P63 d.2.2 ∧ 0 < d.2.2 := fun k d t => t.b (xG_ok B g)
  have loop : ∀ (n k : Nat) (st : Int × Int × Int × Int) (M1 : PM), M 1 0 - (k : Int) = (n : Int) → Ag trm M M1 → IvB M1 → (Fs M M1 ∧ (k = 0 ∨ M1 52 4 = 0)) → MSt (fun h => TD (xG M e h a) (M 1 0)) mode k st → G none (K + 15 + 1) jModel_savesMost 14 [(0, .inr (.inr 52)), (1, .inl a), (2, .inl mode), (3, .inl st.1), (4, .inl st.2.1), (5, .inr (.inl st.2.2.1)), (7, .inr (.inl st.2.2.2)), (9, .inl (k : Int))] [] P0 P0 M1 Q := by
    intro n
    induction n with
    | zero =>
      intro k st M1 hk hA I1 fz ms_
      have ex := ag_xE hA (by decide) (by decide) (by decide)
      refine g_m_savesMost_14 _ _ _ _ _ _ _ _ _ _ ⟨⟨by omega, by omega⟩, by rw [I1.n, ex.2]; exact ⟨by omega, by omega⟩, fun _ => ?_, fun q => absurd (by rw [I1.n, ex.2]; omega) q⟩
      exact hq M1 st hA I1 ⟨fz.1, by rcases fz.2 with z | z <;> omega⟩ (by rw [show (M 1 0).toNat = k by omega]; exact ms_)
    | succ n ih =>
      intro k st M1 hk hA I1 fz ms_
      have ex := ag_xE hA (by decide) (by decide) (by decide)
      have b := ms_.b hT
      have kh : hs (k : Int) := ⟨by omega, by omega⟩
      have g0 := g.1
      refine g_m_savesMost_14 _ _ _ _ _ _ _ _ _ _ ⟨⟨by omega, by omega⟩, by rw [I1.n, ex.2]; exact ⟨by omega, by omega⟩, fun q => absurd q (by rw [I1.n, ex.2]; omega), fun _ => ?_⟩
      refine m_supposesGiven (e := e) I1 (fun j hj => by rw [hA 69 (by decide)]; exact h69 j hj) g ⟨by omega, by omega⟩ (fun M2 X D wv hA2 I2 fz2 c ma => ?_)
      rw [xG_of (hA 1 (by decide)) (hA 2 (by decide)) (hA 3 (by decide)), ex.2] at c
      obtain ⟨W, hW⟩ : ∃ W, W = M2 52 9 := ⟨_, rfl⟩
      obtain ⟨s, hs_⟩ : ∃ s, s = M2 52 13 := ⟨_, rfl⟩
      have c' : Clr (xG M e (k : Int) a) (M 1 0) X D W s wv := by rw [hW, hs_]; exact c
      have s32 := c'.2.1
      have w5 := c'.1
      have aW := ma W w5.1 (by omega)
      have td : TD (xG M e (k : Int) a) (M 1 0) (s, (s5 fun h => gt (xG M e (k : Int) a) (X W) h), D W) := ⟨X, D, W, _, c', rfl, rfl⟩
      have tb_ := td.b (xG_ok B g)
      have cc := (c6_b (s := s) ⟨s32.1, by omega⟩).1
      obtain ⟨p, hpp⟩ : ∃ p, p = s5 fun h => gt (xG M e (k : Int) a) (X W) h := ⟨_, rfl⟩
      rw [← hpp] at td tb_
      have ep : (s5 fun h => gt (cp_g M2) (X W) h) = p := by
        rw [hpp]
        refine s5_congr fun h hh => s5_congr fun k hk => s3_congr fun c hc => ?_
        congr 1
        show xo M2 k h c = xo M k h c
        rw [xo_of (by rw [hA2 3 (by decide), hA 3 (by decide)])]
      have paid : ∀ {Q' : Option PV → PM → Prop}, Q' (some (.inr (.inl p))) M2 → Call (K + 15) jModel_allPaid [.inr (.inr 52)] P0 P0 M2 Q' := fun {Q'} h => m_allPaidB I2 ma hW.symm w5 (by rw [ep]; exact h)
      show Call (K + 15) jModel_sizeOf [.inl (M2 52 13)] P0 P0 M2 _
      rw [← hs_]
      refine m_sizeOf s32 (paid ⟨by rw [← hW]; exact ⟨by omega, by omega⟩, ?_⟩)
      rw [← hW, aW.1]
      refine m_compared tb_.2.1 tb_.2.2.1 b.2.2.1 b.2.2.2.1 tb_.2.2.2 b.2.2.2.2 ?_
      have oR := cmp_R (x := p) (y := D W) (u := st.2.2.1) (v := st.2.2.2)
      have nx := ih (k + 1) (stp mode st _ (k : Int)) M2 (by omega) (hA.tr hA2) I2 ⟨fun i a1 a2 a3 a4 a5 => by rw [fz2.1 i a1 a2 a3 a4 a5, fz.1 i a1 a2 a3 a4 a5], Or.inr fz2.2⟩ ⟨st, _, ms_, td, rfl⟩
      rw [show ((k + 1 : Nat) : Int) = (k : Int) + 1 by omega, stp] at nx
      dsimp only at nx
      obtain ⟨o, ho⟩ : ∃ o, o = cmp p (D W) st.2.2.1 st.2.2.2 := ⟨_, rfl⟩
      rw [← ho] at nx oR ⊢
      have ny : newc mode st.1 (st.2.1 - c6 s) o → G none (K + 15 + 1) jModel_savesMost 112 [(0, .inr (.inr 52)), (1, .inl a), (2, .inl mode), (9, .inl (k : Int))] [] P0 P0 M2 Q := fun z => by
        rw [if_pos z] at nx
        refine g_m_savesMost_112 _ _ _ _ _ _ ?_
        rw [← hs_]
        refine m_sizeOf s32 (paid ⟨by rw [← hW]; exact ⟨by omega, by omega⟩, ?_⟩)
        rw [← hW, aW.1]
        exact nx
      have no : ¬ newc mode st.1 (st.2.1 - c6 s) o → G none (K + 15 + 1) jModel_savesMost 14 [(0, .inr (.inr 52)), (1, .inl a), (2, .inl mode), (3, .inl st.1), (4, .inl st.2.1), (5, .inr (.inl st.2.2.1)), (7, .inr (.inl st.2.2.2)), (9, .inl ((k : Int) + 1))] [] P0 P0 M2 Q := fun z => by rw [if_neg z] at nx; exact nx
      clear nx
      have wR : R32 st.1 := ⟨by omega, by omega⟩
      have zR : R32 (st.2.1 - c6 s) := ⟨by omega, by omega⟩
      refine ⟨hm, fun q => ⟨fun _ => ⟨wR, fun q1 => ny ?_, fun q1 => ⟨oR, fun q2 => ny ?_, fun q2 => ⟨fun q3 => no ?_, fun q3 => ⟨zR, fun q4 => no ?_, fun q4 => ny ?_⟩⟩⟩⟩, fun q0 => absurd q0 q⟩, fun q => ⟨fun q0 => absurd q q0, fun _ => ⟨wR, fun q1 => ny ?_, fun q1 => ⟨zR, fun q2 => ny ?_, fun q2 => ⟨fun q3 => no ?_, fun q3 => ⟨oR, fun q4 => no ?_, fun q4 => ny ?_⟩⟩⟩⟩⟩⟩ <;> (unfold newc; omega)
  exact c_m_savesMost (K + 15) a mode M Q (loop (M 1 0).toNat 0 (-1, 0, 0, 1) M (by omega) (Ag.rf _ _) I ⟨fun _ _ _ _ _ _ => rfl, Or.inl rfl⟩ rfl)
theorem msg_uniq {M : PM} {e : Int → Int} {a mode : Int} {k : Nat} {st st' : Int × Int × Int × Int} (B : XB M) (g : Gb e a) (x : MSt (fun h => TD (xG M e h a) (M 1 0)) mode k st) (y : MSt (fun h => TD (xG M e h a) (M 1 0)) mode k st') : st = st' :=
  MSt.uniq (T := fun h => TD (xG M e h a) (M 1 0)) (fun j d d' p q => TD.uniq (g := xG M e j a) (n := M 1 0) (xG_ok B g) p q) k st st' x y
theorem msg_b {M : PM} {e : Int → Int} {a mode : Int} {k : Nat} {st : Int × Int × Int × Int} (B : XB M) (g : Gb e a) (x : MSt (fun h => TD (xG M e h a) (M 1 0)) mode k st) : ((-1 ≤ st.1 ∧ st.1 < (k : Int)) ∧ (0 < k → 0 ≤ st.1)) ∧ (0 ≤ st.2.1 ∧ st.2.1 ≤ 6) ∧ P63 st.2.2.1 ∧ P63 st.2.2.2 ∧ 0 < st.2.2.2 :=
  MSt.b (T := fun h => TD (xG M e h a) (M 1 0)) (fun j d p => TD.b (g := xG M e j a) (n := M 1 0) (xG_ok B g) p) k st x
theorem m_givesNothing {K : Nat} {M : PM} {Q : Option PV → PM → Prop} (hq : ∀ M', Ag [69] M M' → (∀ k, hs k → M' 69 k = 0) → Q none M') : Call (K + 1) jModel_givesNothing [.inr (.inr 52)] P0 P0 M Q := by
  have loop : ∀ (n : Nat) (j : Int) (M2 : PM), j + (n : Int) = 5 → 0 ≤ j → Ag [69] M M2 → (∀ i, hs i → i < j → M2 69 i = 0) → G none (K + 1) jModel_givesNothing 2 [(0, .inr (.inr 52)), (1, .inl j)] [] P0 P0 M2 Q := by
    intro n
    induction n with
    | zero =>
      intro j M2 hj j0 hA2 h
      exact g_m_givesNothing_2 _ _ _ _ ⟨⟨by omega, by omega⟩, fun _ => hq M2 hA2 (fun i hi => h i hi (by have := hi.2; omega)), fun q => absurd (by omega) q⟩
    | succ n ih =>
      intro j M2 hj j0 hA2 h
      refine g_m_givesNothing_2 _ _ _ _ ⟨⟨by omega, by omega⟩, fun q => absurd q (by omega), fun _ => ⟨⟨j0, by omega⟩, ih (j + 1) _ (by omega) (by omega) (hA2.set (by decide)) (fun i hi hl => ?_)⟩⟩
      by_cases z : i = j
      · rw [z, mset_eq]
      · rw [show (mset M2 69 j 0) 69 i = M2 69 i by simp [mset, z]]; exact h i hi (by omega)
  exact c_m_givesNothing K M Q (loop 5 0 M (by decide) (by decide) (Ag.rf _ _) (fun i hi hl => by have := hi.1; omega))
theorem Iv.giv {M M' : PM} (I : Iv M) (hA : Ag [69] M M') : Iv M' := by
  have h52 : M' 52 = M 52 := hA 52 (by decide)
  exact I.scrm (hA.mono (by decide)) (by rw [h52]) (by rw [h52]) (by rw [h52]) (I.2.2.2.2.2.2.2.of (by rw [h52]) (hA 55 (by decide)) (by rw [h52]) (by rw [h52]) (hA 58 (by decide)) (hA 59 (by decide)) (hA 60 (by decide)) (hA 61 (by decide)))
theorem b_saves {K : Nat} {a mode : Int} {M : PM} {C : Int → Int → PM → Prop} (I : Iv M) (h1 : R32 a) (h2 : R32 mode) (hq : Ok32 C) : Bi (K + 22) jClearingWaves_saves [.inr (.inr 0), .inl a, .inl mode] jModel_saves [.inr (.inr 52), .inl a, .inl mode] M C := by
  have B := I.1.xb
  have B1 := B.1
  unfold Bi
  by_cases pm : 0 ≤ mode ∧ mode ≤ 1
  · by_cases pa : 0 ≤ a ∧ a ≤ 200
    · have g : Gb (fun _ => 0) a := ⟨pa.1, fun k hk => ⟨Int.le_refl 0, by show 0 + a ≤ 200; omega⟩⟩
      refine c_x_saves (K + 21) a mode M _ ⟨h2, fun z => absurd z (by omega), fun _ => ⟨fun _ => x_isCoins_y h1 pa ⟨by decide, fun _ => c_x_loadPurse (K + 20) M _ ?_, fun q => absurd q (by decide)⟩, fun z => absurd z (by omega)⟩⟩
      have hA0 : Ag [9] M (mcpy M 2 9 5) := fun c hc => mcpy_ne (fun z => hc (by rw [z]; decide))
      have I0 : Iv (mcpy M 2 9 5) := I.scrx (hA0.mono (by decide))
      refine x_mostSaved (e := fun _ => 0) I0 (fun k hk => ?_) g h2 (fun M1 st hA h9 I1 ms_ => ?_)
      · show mcpy M 2 9 5 9 k = mcpy M 2 9 5 2 k + 0
        rw [hA0 2 (by decide)]
        unfold mcpy
        rw [if_pos ⟨rfl, by have := hk.2; omega⟩]
        omega
      have exx : (fun h => TD (xG (mcpy M 2 9 5) (fun _ => 0) h a) ((mcpy M 2 9 5) 1 0)) = fun h => TD (xG M (fun _ => 0) h a) (M 1 0) := by
        funext h
        rw [xG_of (hA0 1 (by decide)) (hA0 2 (by decide)) (hA0 3 (by decide)), hA0 1 (by decide)]
      rw [exx, hA0 1 (by decide)] at ms_
      refine c_m_saves (K + 21) a mode M1 _ ⟨h2, m_within_y h2.R64 (by decide) (by decide) pm ⟨by decide, fun _ => m_isGift_y h1 pa ⟨by decide, fun _ => m_givesNothing (fun M2 hA2 h69 => ?_), fun q => absurd q (by decide)⟩, fun q => absurd q (by decide)⟩⟩
      have I2 := I1.giv hA2
      refine m_savesMost (e := fun _ => 0) I2.1 h69 g h2 (fun M3 st' hA3 I3' fz3 ms2 => ?_)
      have I3 := I2.fz hA3 fz3
      have q1 : M2 1 = M 1 := by rw [hA2 1 (by decide), hA 1 (by decide), hA0 1 (by decide)]
      have q2 : M2 2 = M 2 := by rw [hA2 2 (by decide), hA 2 (by decide), hA0 2 (by decide)]
      have q3 : M2 3 = M 3 := by rw [hA2 3 (by decide), hA 3 (by decide), hA0 3 (by decide)]
      have exy : (fun h => TD (xG M2 (fun _ => 0) h a) (M2 1 0)) = fun h => TD (xG M (fun _ => 0) h a) (M 1 0) := by
        funext h
        rw [xG_of q1 q2 q3, q1]
      rw [exy, q1] at ms2
      have u := msg_uniq B g ms_ ms2
      show C st.1 st'.1 M3
      rw [← u]
      have b := (msg_b B g ms_).1
      exact hq _ _ ⟨by omega, by omega⟩ I3
    · refine c_x_saves (K + 21) a mode M _ ⟨h2, fun z => absurd z (by omega), fun _ => ⟨fun _ => x_isCoins_n h1 pa ⟨by decide, fun q => absurd rfl q, fun _ => ?_⟩, fun z => absurd z (by omega)⟩⟩
      exact c_m_saves (K + 21) a mode M _ ⟨h2, m_within_y h2.R64 (by decide) (by decide) pm ⟨by decide, fun _ => m_isGift_n h1 pa ⟨by decide, fun q => absurd rfl q, fun _ => hq _ _ (by decide) I⟩, fun q => absurd q (by decide)⟩⟩
  · have fin := c_m_saves (K + 21) a mode M (retI fun r2 M2 => C (-1) r2 M2) ⟨h2, m_within_n h2.R64 (by decide) (by decide) pm ⟨by decide, fun q => absurd rfl q, fun _ => hq _ _ (by decide) I⟩⟩
    exact c_x_saves (K + 21) a mode M _ ⟨h2, fun _ => fin, fun z => ⟨fun z2 => absurd ⟨by omega, by omega⟩ pm, fun _ => fin⟩⟩
