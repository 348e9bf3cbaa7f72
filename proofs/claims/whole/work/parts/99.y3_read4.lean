/-! READ: part behind part -/
def pA (b : Int → Int) (L n : Int) : Nat → Int
  | 0 => 0
  | j + 1 => (prt b L n (pA b L n j)).2.1 + 1
def pP (b : Int → Int) (L n : Int) (j : Nat) : Int × Int × Int × Int := prt b L n (pA b L n j)
def cnt_ (b : Int → Int) (L n : Int) (j : Nat) : Prop := (pP b L n j).1 = -1 ∧ ¬ (pP b L n j).2.1 = L ∧ txk b L (pP b L n j).2.1 = 59
def outv (b : Int → Int) (L n : Int) (j : Nat) : Int := if (pP b L n j).1 = -1 then (if (pP b L n j).2.1 = L then (j : Int) + 1 else -100 - (pP b L n j).2.1) else -100 - (pP b L n j).1
def STP (b : Int → Int) (L n : Int) (J : Nat) : Prop := (∀ i, i < J → cnt_ b L n i) ∧ ¬ cnt_ b L n J
theorem STP.uniq {b : Int → Int} {L n : Int} {J J' : Nat} (h : STP b L n J) (h' : STP b L n J') : J = J' := by
  rcases Nat.lt_trichotomy J J' with q | q | q
  · exact absurd (h'.1 J q) h.2
  · exact q
  · exact absurd (h.1 J' q) h'.2
theorem pA_b {b : Int → Int} {L n : Int} (hL : 0 ≤ L) : ∀ J : Nat, (∀ i, i < J → cnt_ b L n i) → 4 * (J : Int) ≤ pA b L n J ∧ pA b L n J ≤ L
  | 0, _ => ⟨Int.le_refl _, hL⟩
  | J + 1, h => by
    have r := pA_b (n := n) hL J (fun i hi => h i (by omega))
    have c := h J (by omega)
    have o := prt_o (b := b) (L := L) (n := n) (i := pA b L n J) ⟨by omega, r.2⟩ c.1
    have l := txk_lt (b := b) (L := L) (i := (pP b L n J).2.1) (by have := c.2.2; omega)
    have l' : (prt b L n (pA b L n J)).2.1 < L := l
    show 4 * ((J : Int) + 1) ≤ (prt b L n (pA b L n J)).2.1 + 1 ∧ (prt b L n (pA b L n J)).2.1 + 1 ≤ L
    omega
def tS (b : Int → Int) (L n : Int) (t0 : Int → Int) : Nat → Int → Int
  | 0 => t0
  | j + 1 => fun i => if i = (pP b L n j).2.2.1 then (pP b L n j).2.2.2 else tS b L n t0 j i
theorem BV.efy {M M' : PM} {n k v : Int} {t : Int → Int} (B : BV (M 1) (M 2) (M 3) (M 4) t) (en : M 1 0 = n) (E : EfY n k v M M') (h1 : M' 1 = M 1) (h4 : M' 4 = M 4) : BV (M' 1) (M' 2) (M' 3) (M' 4) (fun i => if i = k then v else t i) := by
  have hn5 : M 1 0 ≤ 5 := B.1.1.2
  rcases E with ⟨h, hh, ek, hv, e2, e3⟩ | ⟨f, u, e, hf, hu, he, ne, ek, hv, e2, e3⟩
  · rw [ek]
    exact B.cash (h := h) (v := v) ⟨hh.1, by omega⟩ (by omega) hv h1 e3 h4 e2 (fun i => rfl)
  · rw [ek]
    exact B.owe (f := f) (k := u) (e := e) (v := v) ⟨hf.1, by omega⟩ ⟨hu.1, by omega⟩ he (by omega) (by omega) ne hv h1 e2 h4 e3 (fun i => rfl)
theorem x_scan {K : Nat} {b : Int → Int} {L dd n : Int} {t0 : Int → Int} {M : PM} {Q : Option PV → PM → Prop} (Bv : BV (M 1) (M 2) (M 3) (M 4) t0) (en : M 1 0 = n) (tb_ : TB b L) (hL : M 45 0 = L) (h46 : ∀ k, 0 ≤ k → k < L → M 46 k = b k) (hd : dd = 0 ∨ dd = 1)
    (hq : ∀ J M', STP b L n J → J ≤ 30 → Ag [2, 3, 45] M M' → M' 45 0 = L → (dd = 0 → EfN M M') → (dd = 1 → (pP b L n J).1 = -1 → BV (M' 1) (M' 2) (M' 3) (M' 4) (tS b L n t0 (J + 1))) → Q (some (.inl (outv b L n J))) M') :
    Call (K + 4) jTape_scan [.inr (.inr 45), .inr (.inr 1), .inl dd] P0 P0 M Q := by
  have L1 := tb_.1
  have XBM : XB M := Bv.1
  have loop : ∀ (x J : Nat) (M1 : PM), J + x = 31 → (∀ i, i < J → cnt_ b L n i) → Ag [2, 3, 45] M M1 → TS M1 b L (pA b L n J) → (dd = 0 → EfN M M1) → (dd = 1 → BV (M1 1) (M1 2) (M1 3) (M1 4) (tS b L n t0 J)) → G none (K + 3 + 1) jTape_scan 7 [(0, .inr (.inr 45)), (1, .inr (.inr 1)), (2, .inl dd), (3, .inl ((J : Int) + 1))] [] P0 P0 M1 Q := by
    intro x
    induction x with
    | zero =>
      intro J M1 hx hc hA t n0 n1
      have r := pA_b (b := b) (L := L) (n := n) L1.1 J hc
      omega
    | succ x ih =>
      intro J M1 hx hc hA t n0 n1
      have r := pA_b (b := b) (L := L) (n := n) L1.1 J hc
      have e1 : M1 1 = M 1 := hA 1 (by decide)
      have e4 : M1 4 = M 4 := hA 4 (by decide)
      have en1 : M1 1 0 = n := by rw [e1, en]
      have XB1 : XB M1 := by
        rcases hd with z | z
        · exact XBM.of e1 (n0 z).1 (n0 z).2
        · exact (n1 z).1
      refine g_ta_scan_7 _ _ _ _ _ ⟨⟨by omega, by omega⟩, fun q => absurd q (by omega), fun _ => x_scanPart (K := K) XB1 en1 tb_ t ⟨by omega, r.2⟩ hd (fun nf M2 hA2 r2 => ?_) (fun ok M2 hA2 r2 e2 m0 m1 => ?_)⟩
      · -- a fault
        have fb := prt_b (b := b) (L := L) (n := n) (i := pA b L n J) ⟨by omega, r.2⟩
        have f0 : 0 ≤ (prt b L n (pA b L n J)).1 ∧ (prt b L n (pA b L n J)).1 ≤ L := by
          rcases fb with z | z
          · exact absurd z nf
          · exact z
        refine ⟨⟨by omega, by omega⟩, fun q => absurd q (by omega), fun _ => ?_⟩
        have hA' : Ag [2, 3, 45] M M2 := hA.tr (hA2.mono (by decide))
        have := hq J M2 ⟨hc, fun z => nf z.1⟩ (by omega) hA' (by rw [r2 0 (by decide)]; exact t.2.1) (fun z => ⟨by rw [hA2 2 (by decide)]; exact (n0 z).1, by rw [hA2 3 (by decide)]; exact (n0 z).2⟩) (fun _ y => absurd y nf)
        have eo : outv b L n J = -100 - (prt b L n (pA b L n J)).1 := if_neg nf
        rw [eo] at this
        exact this
      · -- none
        have o := prt_o (b := b) (L := L) (n := n) (i := pA b L n J) ⟨by omega, r.2⟩ ok
        have hA' : Ag [2, 3, 45] M M2 := hA.tr hA2
        have t2 : TS M2 b L (prt b L n (pA b L n J)).2.1 := ⟨e2, by rw [r2 0 (by decide)]; exact t.2.1, by rw [hA2 46 (by decide)]; exact t.2.2⟩
        have k0 : dd = 0 → EfN M M2 := fun z => ⟨(m0 z).1.trans (n0 z).1, (m0 z).2.trans (n0 z).2⟩
        have k1 : dd = 1 → BV (M2 1) (M2 2) (M2 3) (M2 4) (tS b L n t0 (J + 1)) := fun z => (n1 z).efy en1 (m1 z) (hA2 1 (by decide)) (hA2 4 (by decide))
        have tk := txk_b tb_ (show 0 ≤ (prt b L n (pA b L n J)).2.1 by omega)
        have okP : (pP b L n J).1 = -1 := ok
        refine ⟨by decide, fun _ => ?_, fun q => absurd (by decide) q⟩
        rw [t2.1, t2.2.1]
        refine ⟨⟨by omega, by omega⟩, ⟨by omega, by omega⟩, fun ne => ?_, fun eq => ?_⟩
        · have elt : (prt b L n (pA b L n J)).2.1 < L := by omega
          have et : txk b L (prt b L n (pA b L n J)).2.1 = b (prt b L n (pA b L n J)).2.1 := if_pos elt
          rw [t2.2.2 _ (by omega) elt, ← et]
          refine ⟨⟨by omega, by omega⟩, ⟨by omega, by omega⟩, fun q => ?_, fun q => ?_⟩
          · have c : cnt_ b L n J := ⟨okP, ne, q⟩
            have st : TS (mset M2 45 2 ((prt b L n (pA b L n J)).2.1 + 1)) b L (pA b L n (J + 1)) := by
              have := t2.step
              rw [t2.1] at this
              exact this
            have go := ih (J + 1) (mset M2 45 2 ((prt b L n (pA b L n J)).2.1 + 1)) (by omega) (fun i hi => by
              by_cases z : i = J
              · rw [z]; exact c
              · exact hc i (by omega)) (hA'.set (by decide)) st (fun z => ⟨by rw [mset_ne (by decide)]; exact (k0 z).1, by rw [mset_ne (by decide)]; exact (k0 z).2⟩) (fun z => by rw [mset_ne (by decide), mset_ne (by decide), mset_ne (by decide), mset_ne (by decide)]; exact k1 z)
            exact go
          · have := hq J M2 ⟨hc, fun z => q z.2.2⟩ (by omega) hA' t2.2.1 k0 (fun z _ => k1 z)
            have eo : outv b L n J = -100 - (prt b L n (pA b L n J)).2.1 := by
              unfold outv
              rw [if_pos okP]
              exact if_neg ne
            rw [eo] at this
            exact this
        · have := hq J M2 ⟨hc, fun z => z.2.1 eq⟩ (by omega) hA' t2.2.1 k0 (fun z _ => k1 z)
          have eo : outv b L n J = (J : Int) + 1 := by
            unfold outv
            rw [if_pos okP]
            exact if_pos eq
          rw [eo] at this
          exact this
  refine c_ta_scan (K + 3) dd M Q ?_
  have go := loop 31 0 (mset M 45 2 0) rfl (fun i hi => absurd hi (Nat.not_lt_zero i)) ((Ag.rf _ _).set (by decide)) ⟨mset_eq, by rw [mset_at, if_neg (by decide)]; exact hL, fun k a c => by rw [mset_ne (by decide)]; exact h46 k a c⟩ (fun _ => ⟨mset_ne (by decide), mset_ne (by decide)⟩) (fun _ => by rw [mset_ne (by decide), mset_ne (by decide), mset_ne (by decide), mset_ne (by decide)]; exact Bv)
  exact go
theorem m_readsAll_ {K : Nat} {b : Int → Int} {L n : Int} {M : PM} {Q : Option PV → PM → Prop} (B : MB M) (en : M 55 0 = n) (tb_ : TB b L) (hL : M 52 6 = L) (h56 : ∀ k, 0 ≤ k → k < L → M 56 k = b k)
    (hq : ∀ J M', STP b L n J → J ≤ 30 → Ag [52, 57] M M' → F7 M M' → ((pP b L n J).1 = -1 → ∀ i : Nat, i ≤ J → M' 57 (2 * (i : Int)) = (pP b L n i).2.2.1 ∧ M' 57 ((2 * (i : Int)) + 1) = (pP b L n i).2.2.2) → Q (some (.inl (outv b L n J))) M') :
    Call (K + 4) jModel_readsAll [.inr (.inr 52)] P0 P0 M Q := by
  have L1 := tb_.1
  have loop : ∀ (x J : Nat) (M1 : PM), J + x = 31 → (∀ i, i < J → cnt_ b L n i) → Ag [52, 57] M M1 → F7 M M1 → M1 52 7 = pA b L n J → (∀ i : Nat, i < J → M1 57 (2 * (i : Int)) = (pP b L n i).2.2.1 ∧ M1 57 ((2 * (i : Int)) + 1) = (pP b L n i).2.2.2) → G none (K + 3 + 1) jModel_readsAll 7 [(0, .inr (.inr 52)), (1, .inl (J : Int))] [] P0 P0 M1 Q := by
    intro x
    induction x with
    | zero =>
      intro J M1 hx hc hA f7 e7 dr
      have r := pA_b (b := b) (L := L) (n := n) L1.1 J hc
      omega
    | succ x ih =>
      intro J M1 hx hc hA f7 e7 dr
      have r := pA_b (b := b) (L := L) (n := n) L1.1 J hc
      have t : TM M1 b L (pA b L n J) := ⟨e7, by rw [f7 6 (by decide)]; exact hL, by rw [hA 56 (by decide)]; exact h56⟩
      refine g_m_readsAll_7 _ _ _ _ (m_readsPart_ (K := K) (n := n) (B.of (hA 55 (by decide))) (by rw [hA 55 (by decide)]; exact en) tb_ t ⟨by omega, r.2⟩ ⟨by omega, by omega⟩ (fun nf M2 hA2 f2 kd => ?_) (fun ok M2 hA2 f2 kd e2 d0 d1 => ?_))
      · have fb := prt_b (b := b) (L := L) (n := n) (i := pA b L n J) ⟨by omega, r.2⟩
        have f0 : 0 ≤ (prt b L n (pA b L n J)).1 ∧ (prt b L n (pA b L n J)).1 ≤ L := by
          rcases fb with z | z
          · exact absurd z nf
          · exact z
        refine ⟨⟨by omega, by omega⟩, fun q => absurd q (by omega), fun _ => ?_⟩
        have := hq J M2 ⟨hc, fun z => nf z.1⟩ (by omega) (hA.tr hA2) (f7.tr f2) (fun y => absurd y nf)
        have eo : outv b L n J = -100 - (prt b L n (pA b L n J)).1 := if_neg nf
        rw [eo] at this
        exact this
      · have o := prt_o (b := b) (L := L) (n := n) (i := pA b L n J) ⟨by omega, r.2⟩ ok
        have okP : (pP b L n J).1 = -1 := ok
        have t2 : TM M2 b L (prt b L n (pA b L n J)).2.1 := ⟨e2, by rw [f2 6 (by decide)]; exact t.2.1, by rw [hA2 56 (by decide)]; exact t.2.2⟩
        have tk := txk_b tb_ (show 0 ≤ (prt b L n (pA b L n J)).2.1 by omega)
        have dr2 : ∀ i : Nat, i ≤ J → M2 57 (2 * (i : Int)) = (pP b L n i).2.2.1 ∧ M2 57 ((2 * (i : Int)) + 1) = (pP b L n i).2.2.2 := fun i hi => by
          by_cases z : i = J
          · rw [z]; exact ⟨d0, d1⟩
          · rw [kd _ (by omega), kd _ (by omega)]; exact dr i (by omega)
        refine ⟨by decide, fun _ => ?_, fun q => absurd (by decide) q⟩
        have g7 : M2 52 7 = (prt b L n (pA b L n J)).2.1 := t2.1
        have g6 : M2 52 6 = L := t2.2.1
        refine ⟨by rw [g7]; exact ⟨by omega, by omega⟩, by rw [g6]; exact ⟨by omega, by omega⟩, fun ne => ?_, fun eq => ?_⟩
        · rw [g7, g6] at ne
          refine m_peek_ (K := K + 2) tb_ t2 ⟨by omega, o.1.2⟩ ⟨⟨by omega, by omega⟩, fun q => ?_, fun q => ?_⟩
          · have c : cnt_ b L n J := ⟨okP, ne, q⟩
            have go := ih (J + 1) (mset M2 52 7 (M2 52 7 + 1)) (by omega) (fun i hi => by
              by_cases z : i = J
              · rw [z]; exact c
              · exact hc i (by omega)) ((hA.tr hA2).set (by decide)) ((f7.tr f2).tr (F7.step M2 _)) (by rw [mset_eq, g7]; rfl) (fun i hi => by rw [mset_ne (by decide)]; exact dr2 i (by omega))
            exact go
          · have := hq J M2 ⟨hc, fun z => q z.2.2⟩ (by omega) (hA.tr hA2) (f7.tr f2) (fun _ => dr2)
            have eo : outv b L n J = -100 - (prt b L n (pA b L n J)).2.1 := by
              unfold outv
              rw [if_pos okP]
              exact if_neg ne
            rw [eo] at this
            rw [g7]
            exact this
        · rw [g7, g6] at eq
          have := hq J M2 ⟨hc, fun z => z.2.1 eq⟩ (by omega) (hA.tr hA2) (f7.tr f2) (fun _ => dr2)
          have eo : outv b L n J = (J : Int) + 1 := by
            unfold outv
            rw [if_pos okP]
            exact if_pos eq
          rw [eo] at this
          exact this
  refine c_m_readsAll (K + 3) M Q ?_
  exact loop 31 0 (mset M 52 7 0) rfl (fun i hi => absurd hi (Nat.not_lt_zero i)) ((Ag.rf _ _).set (by decide)) (F7.step M 0) mset_eq (fun i hi => absurd hi (Nat.not_lt_zero i))
theorem PKv.b {n k v : Int} (h : PKv n k v) (hn : n ≤ 5) : (0 ≤ k ∧ k < 83) ∧ R32 v := by
  rcases h with ⟨h, hh, ek, hv⟩ | ⟨f, u, e, hf, hu, he, ne, ek, hv⟩
  · exact ⟨⟨by omega, by omega⟩, by omega, by omega⟩
  · have ix := d3_75 (f := f) (k := u) (e := e) ⟨hf.1, by omega⟩ ⟨hu.1, by omega⟩ he
    exact ⟨⟨by omega, by omega⟩, by omega, by omega⟩
/-- the model tells what the parts say -/
theorem m_tellsAll {K : Nat} {b : Int → Int} {L n r : Int} {J : Nat} {M : PM} {Q : Option PV → PM → Prop} (hn : n ≤ 5) (hJ : J ≤ 30) (hr : r = (J : Int) + 1) (hc : ∀ i, i ≤ J → PKv n (pP b L n i).2.2.1 (pP b L n i).2.2.2) (hd : ∀ i : Nat, i ≤ J → M 57 (2 * (i : Int)) = (pP b L n i).2.2.1 ∧ M 57 ((2 * (i : Int)) + 1) = (pP b L n i).2.2.2) (h55 : ∀ y, 0 ≤ y → y < 83 → M 55 y = M 53 y)
    (hq : ∀ M', Ag [52, 53, 55] M M' → (∀ x, x ≠ 4 → M' 52 x = M 52 x) → M' 52 4 = 0 → M' 53 = tS b L n (M 53) (J + 1) → (∀ y, 0 ≤ y → y < 83 → M' 55 y = M' 53 y) → Q (some (.inl r)) M') :
    G none (K + 1 + 1) jModel_read 12 [(0, .inr (.inr 52)), (1, .inl r), (2, .inl 0)] [] P0 P0 M Q := by
  have loop : ∀ (x i : Nat) (M1 : PM), i + x = J + 1 → Ag [52, 53, 55] M M1 → (∀ x, x ≠ 4 → M1 52 x = M 52 x) → (1 ≤ i → M1 52 4 = 0) → M1 53 = tS b L n (M 53) i → (∀ y, 0 ≤ y → y < 83 → M1 55 y = M1 53 y) → G none (K + 1 + 1) jModel_read 12 [(0, .inr (.inr 52)), (1, .inl r), (2, .inl (i : Int))] [] P0 P0 M1 Q := by
    intro x
    induction x with
    | zero =>
      intro i M1 hx hA f4 e4 e53 e55
      have ei : i = J + 1 := by omega
      refine g_m_read_12 _ _ _ _ _ ⟨⟨by omega, by omega⟩, ⟨by omega, by omega⟩, fun _ => hq M1 hA f4 (e4 (by omega)) (by rw [e53, ei]) e55, fun q => absurd (by omega) q⟩
    | succ x ih =>
      intro i M1 hx hA f4 e4 e53 e55
      have kv := hc i (by omega)
      have kb := kv.b hn
      have d := hd i (by omega)
      refine g_m_read_12 _ _ _ _ _ ⟨⟨by omega, by omega⟩, ⟨by omega, by omega⟩, fun q => absurd q (by omega), fun _ => ⟨⟨by omega, by omega⟩, ⟨by omega, by omega⟩, ?_⟩⟩
      rw [hA 57 (by decide), d.1, d.2]
      refine c_m_tells _ _ _ _ _ ⟨kb.1, kb.2, ⟨by omega, by omega⟩, ?_⟩
      have go := ih (i + 1) (mset (mset (mset M1 55 (pP b L n i).2.2.1 (pP b L n i).2.2.2) 53 (pP b L n i).2.2.1 (pP b L n i).2.2.2) 52 4 0) (by omega) (((hA.set (by decide)).set (by decide)).set (by decide)) (fun x hx => by rw [mset_at, if_neg hx, mset_ne (by decide), mset_ne (by decide)]; exact f4 x hx) (fun _ => mset_eq) (by
        funext y
        rw [mset_ne (by decide), mset_at, mset_ne (by decide), e53]
        rfl) (fun y y0 y1 => by
        rw [mset_ne (by decide), mset_ne (by decide), mset_at, mset_ne (by decide), mset_at, mset_ne (by decide), e55 y y0 y1])
      exact go
  exact loop (J + 1) 0 M (by omega) (Ag.rf _ _) (fun _ _ => rfl) (fun z => absurd z (by decide)) rfl h55
theorem Iv.text {M M' : PM} (I : Iv M) (hA : Ag [45, 52, 57] M M') (f : ∀ i, i ≠ 6 → i ≠ 7 → M' 52 i = M 52 i) (h45 : M' 45 0 = 0) (h6 : M' 52 6 = 0) : Iv M' :=
  ⟨I.1.of (hA 1 (by decide)) (hA 2 (by decide)) (hA 3 (by decide)) (hA 4 (by decide)) (hA 53 (by decide)) (hA 55 (by decide)), I.2.1.of (by rw [hA 0 (by decide)]) (f 2 (by decide) (by decide)) (hA 5 (by decide)) (hA 6 (by decide)) (hA 7 (by decide)) (hA 8 (by decide)) (hA 54 (by decide)), ⟨by rw [h45, h6], by rw [h45]; decide, fun i i0 i1 => by rw [h45] at i1; omega⟩,
    I.2.2.2.1.of (by rw [hA 47 (by decide)]) (hA 48 (by decide)) (f 32 (by decide) (by decide)) (hA 71 (by decide)), I.2.2.2.2.1.of (hA 50 (by decide)) (hA 51 (by decide)) (hA 72 (by decide)) (hA 73 (by decide)),
    I.2.2.2.2.2.1.of (by rw [hA 0 (by decide)]) (hA 1 (by decide)) (hA 2 (by decide)) (hA 3 (by decide)) (hA 11 (by decide)) (hA 12 (by decide)) (hA 13 (by decide)) (hA 14 (by decide)) (hA 15 (by decide)) (hA 16 (by decide)), I.2.2.2.2.2.2.1.of (by rw [hA 0 (by decide)]) (hA 1 (by decide)) (hA 2 (by decide)) (hA 3 (by decide)) (hA 37 (by decide)) (hA 38 (by decide)) (hA 39 (by decide)),
    I.2.2.2.2.2.2.2.of (f 4 (by decide) (by decide)) (hA 55 (by decide)) (f 9 (by decide) (by decide)) (f 13 (by decide) (by decide)) (hA 58 (by decide)) (hA 59 (by decide)) (hA 60 (by decide)) (hA 61 (by decide))⟩
theorem b_read {K : Nat} {M : PM} {C : Int → Int → PM → Prop} (I : Iv M) (hq : Ok32 C) : Bi (K + 22) jClearingWaves_read [.inr (.inr 0)] jModel_read [.inr (.inr 52)] M C := by
  have T := I.2.2.1
  have Bv := I.1.1
  have hn5 : M 1 0 ≤ 5 := Bv.1.1.2
  obtain ⟨n, en⟩ : ∃ n, M 1 0 = n := ⟨_, rfl⟩
  obtain ⟨L, eL⟩ : ∃ L, M 45 0 = L := ⟨_, rfl⟩
  obtain ⟨b, eb⟩ : ∃ b, M 46 = b := ⟨_, rfl⟩
  have tb_ : TB b L := ⟨by rw [← eL]; exact T.2.1, fun k k0 k1 => by rw [← eb]; exact (T.2.2 k k0 (by omega)).2⟩
  have h56 : ∀ k, 0 ≤ k → k < L → M 56 k = b k := fun k k0 k1 => by rw [← eb]; exact (T.2.2 k k0 (by omega)).1.symm
  have L1 := tb_.1
  -- the model's half
  have mm : ∀ (J : Nat) (M1 : PM), STP b L n J → J ≤ 30 → Ag [0, 2, 3, 45] M M1 → (outv b L n J ≤ 0 → Ag [45] M M1 ∧ M1 45 0 = 0) → (0 < outv b L n J → BV (M1 1) (M1 2) (M1 3) (M1 4) (tS b L n (M 53) (J + 1)) ∧ M1 45 0 = 0 ∧ (∀ i, i ≠ 7 → i ≠ 9 → M1 0 i = M 0 i) ∧ M1 0 7 = 1 ∧ M1 0 9 = 1) → Call (K + 22) jModel_read [.inr (.inr 52)] P0 P0 M1 (retI fun r2 M2 => C (outv b L n J) r2 M2) := by
    intro J M1 sj hJ hA c0 c1
    have rJ := pA_b (b := b) (L := L) (n := n) L1.1 J sj.1
    have e52 : M1 52 = M 52 := hA 52 (by decide)
    have rb : R32 (outv b L n J) := by
      have fb := prt_b (b := b) (L := L) (n := n) (i := pA b L n J) ⟨by omega, rJ.2⟩
      have fb' : (pP b L n J).1 = -1 ∨ (0 ≤ (pP b L n J).1 ∧ (pP b L n J).1 ≤ L) := fb
      unfold outv
      split
      · next z =>
        have o := prt_o (b := b) (L := L) (n := n) (i := pA b L n J) ⟨by omega, rJ.2⟩ z
        have o' : pA b L n J + 3 ≤ (pP b L n J).2.1 ∧ (pP b L n J).2.1 ≤ L := o.1
        split
        · exact ⟨by omega, by omega⟩
        · exact ⟨by omega, by omega⟩
      · exact ⟨by omega, by omega⟩
    refine c_m_read (K + 21) M1 _ (m_readsAll_ (K := K + 17) (n := n) (I.1.mb.of (hA 55 (by decide))) (by rw [hA 55 (by decide), I.1.n, en]) tb_ (by rw [e52, ← T.1, eL]) (by rw [hA 56 (by decide)]; exact h56) (fun J' M2 sj' hJ' hA2 f2 dr => ?_))
    have ej : J' = J := sj'.uniq sj
    rw [ej] at dr ⊢
    obtain ⟨M3, e3⟩ : ∃ M3, M3 = mset M2 52 6 0 := ⟨_, rfl⟩
    show G none (K + 21 + 1) jModel_read 12 [(0, .inr (.inr 52)), (1, .inl (outv b L n J)), (2, .inl 0)] [] P0 P0 (mset M2 52 6 0) _
    rw [← e3]
    have hA3 : Ag [52, 57] M1 M3 := by rw [e3]; exact hA2.set (by decide)
    have f3 : ∀ i, i ≠ 6 → i ≠ 7 → M3 52 i = M 52 i := fun i a c => by rw [e3, mset_at, if_neg a, f2 i c, e52]
    have g6 : M3 52 6 = 0 := by rw [e3, mset_eq]
    by_cases z : 0 < outv b L n J
    · -- told
      have cc := c1 z
      have okP : (pP b L n J).1 = -1 := by
        have fb := prt_b (b := b) (L := L) (n := n) (i := pA b L n J) ⟨by omega, rJ.2⟩
        have fb' : (pP b L n J).1 = -1 ∨ (0 ≤ (pP b L n J).1 ∧ (pP b L n J).1 ≤ L) := fb
        rcases fb' with y | y
        · exact y
        · unfold outv at z
          rw [if_neg (by omega)] at z
          omega
      have o := prt_o (b := b) (L := L) (n := n) (i := pA b L n J) ⟨by omega, rJ.2⟩ okP
      have o' : (pA b L n J + 3 ≤ (pP b L n J).2.1 ∧ (pP b L n J).2.1 ≤ L) ∧ PKv n (pP b L n J).2.2.1 (pP b L n J).2.2.2 := o
      have er : outv b L n J = (J : Int) + 1 := by
        unfold outv at z ⊢
        rw [if_pos okP] at z ⊢
        by_cases y : (pP b L n J).2.1 = L
        · rw [if_pos y]
        · rw [if_neg y] at z; omega
      have ok : ∀ i, i ≤ J → PKv n (pP b L n i).2.2.1 (pP b L n i).2.2.2 := fun i hi => by
        by_cases y : i = J
        · rw [y]; exact o'.2
        · have ri := pA_b (b := b) (L := L) (n := n) L1.1 i (fun i' hi' => sj.1 i' (by omega))
          exact (prt_o (b := b) (L := L) (n := n) (i := pA b L n i) ⟨by omega, ri.2⟩ (sj.1 i (by omega)).1).2
      have d3' : M3 57 = M2 57 := by rw [e3, mset_ne (by decide)]
      have k53 : M3 53 = M 53 := by rw [hA3 53 (by decide), hA 53 (by decide)]
      have k55 : M3 55 = M 55 := by rw [hA3 55 (by decide), hA 55 (by decide)]
      refine m_tellsAll (K := K + 20) (n := n) (by omega) hJ er ok (by rw [d3']; exact dr okP) (fun y y0 y1 => by rw [k55, k53]; exact I.1.2 y y0 y1) (fun M4 hA4 f4 e4 e53 e55 => ?_)
      have kx : ∀ a, a ∉ [0, 2, 3, 45] → a ∉ [52, 57] → a ∉ [52, 53, 55] → M4 a = M a := fun a p q r => by rw [hA4 a r, hA3 a q, hA a p]
      have k1 : ∀ a, a ∉ [52, 57] → a ∉ [52, 53, 55] → M4 a = M1 a := fun a q r => by rw [hA4 a r, hA3 a q]
      have f52 : ∀ i, i ≠ 4 → i ≠ 6 → i ≠ 7 → M4 52 i = M 52 i := fun i p q r => by rw [f4 i p, f3 i q r]
      have IB4 : IvB M4 := by
        refine ⟨?_, e55⟩
        rw [e53, k53, k1 1 (by decide) (by decide), k1 2 (by decide) (by decide), k1 3 (by decide) (by decide), k1 4 (by decide) (by decide)]
        exact cc.1
      have k0 : M4 0 = M1 0 := k1 0 (by decide) (by decide)
      have h45 : M4 45 0 = 0 := by rw [k1 45 (by decide) (by decide)]; exact cc.2.1
      refine hq _ _ rb ⟨IB4, I.2.1.of (by rw [k0]; exact cc.2.2.1 2 (by decide) (by decide)) (f52 2 (by decide) (by decide) (by decide)) (kx 5 (by decide) (by decide) (by decide)) (kx 6 (by decide) (by decide) (by decide)) (kx 7 (by decide) (by decide) (by decide)) (kx 8 (by decide) (by decide) (by decide)) (kx 54 (by decide) (by decide) (by decide)),
        ⟨by rw [h45, f4 6 (by decide), g6], by rw [h45]; decide, fun i i0 i1 => by rw [h45] at i1; omega⟩,
        I.2.2.2.1.of (by rw [kx 47 (by decide) (by decide) (by decide)]) (kx 48 (by decide) (by decide) (by decide)) (f52 32 (by decide) (by decide) (by decide)) (kx 71 (by decide) (by decide) (by decide)), I.2.2.2.2.1.of (kx 50 (by decide) (by decide) (by decide)) (kx 51 (by decide) (by decide) (by decide)) (kx 72 (by decide) (by decide) (by decide)) (kx 73 (by decide) (by decide) (by decide)),
        ⟨by rw [k0]; exact Or.inr cc.2.2.2.1, fun y => by rw [k0, cc.2.2.2.1] at y; exact absurd y (by decide)⟩, ⟨by rw [k0]; exact Or.inr cc.2.2.2.2, fun y => by rw [k0, cc.2.2.2.2] at y; exact absurd y (by decide)⟩, IvM.no e4⟩
    · -- a fault
      have c := c0 (by omega)
      have hAll : Ag [45, 52, 57] M M3 := (c.1.mono (by decide)).tr (hA3.mono (by decide))
      have I3 : Iv M3 := I.text hAll f3 (by rw [hA3 45 (by decide)]; exact c.2) g6
      exact g_m_read_12 _ _ _ _ _ ⟨by decide, rb, fun _ => hq _ _ rb I3, fun q => absurd (by omega) q⟩
  unfold Bi
  refine c_x_read (K + 21) M _ (x_scan (K := K + 17) (n := n) Bv en tb_ eL (fun k _ _ => by rw [eb]) (Or.inl rfl) (fun J M1 sj hJ hA1 hL1 n0 _ => ?_))
  have en1 := n0 rfl
  have hA1' : Ag [45] M M1 := fun a ha => by
    by_cases z2 : a = 2
    · rw [z2]; exact en1.1
    · by_cases z3 : a = 3
      · rw [z3]; exact en1.2
      · exact hA1 a (by simp at ha ⊢; omega)
  have rJ := pA_b (b := b) (L := L) (n := n) L1.1 J sj.1
  have rb : R32 (outv b L n J) := by
    have fb := prt_b (b := b) (L := L) (n := n) (i := pA b L n J) ⟨by omega, rJ.2⟩
    have fb' : (pP b L n J).1 = -1 ∨ (0 ≤ (pP b L n J).1 ∧ (pP b L n J).1 ≤ L) := fb
    unfold outv
    split
    · next z =>
      have o := prt_o (b := b) (L := L) (n := n) (i := pA b L n J) ⟨by omega, rJ.2⟩ z
      have o' : pA b L n J + 3 ≤ (pP b L n J).2.1 ∧ (pP b L n J).2.1 ≤ L := o.1
      split
      · exact ⟨by omega, by omega⟩
      · exact ⟨by omega, by omega⟩
    · exact ⟨by omega, by omega⟩
  refine ⟨rb, fun z => c_ta_empty _ _ _ ?_, fun z => ?_⟩
  · refine mm J (mset M1 45 0 0) sj hJ ((hA1'.mono (by decide)).set (by decide)) (fun _ => ⟨hA1'.set (by decide), mset_eq⟩) (fun y => absurd z (by omega))
  · have Bv1 : BV (M1 1) (M1 2) (M1 3) (M1 4) (M 53) := by
      rw [hA1' 1 (by decide), hA1' 2 (by decide), hA1' 3 (by decide), hA1' 4 (by decide)]; exact Bv
    refine x_scan (K := K + 17) (n := n) Bv1 (by rw [hA1' 1 (by decide), en]) tb_ hL1 (fun k k0 k1 => by rw [hA1' 46 (by decide), eb]) (Or.inr rfl) (fun J' M2 sj' hJ' hA2 hL2 _ b1 => ?_)
    have ej : J' = J := sj'.uniq sj
    rw [ej] at b1
    have okP : (pP b L n J).1 = -1 := by
      have fb := prt_b (b := b) (L := L) (n := n) (i := pA b L n J) ⟨by omega, rJ.2⟩
      have fb' : (pP b L n J).1 = -1 ∨ (0 ≤ (pP b L n J).1 ∧ (pP b L n J).1 ≤ L) := fb
      rcases fb' with y | y
      · exact y
      · unfold outv at z
        rw [if_neg (by omega)] at z
        exact absurd (by omega) z
    have bb := b1 rfl okP
    refine c_x_noteChange _ _ _ (c_ta_empty _ _ _ ?_)
    obtain ⟨M3, e3⟩ : ∃ M3, M3 = mset (mset (mset M2 0 7 1) 0 9 1) 45 0 0 := ⟨_, rfl⟩
    show Call (K + 22) jModel_read [.inr (.inr 52)] P0 P0 (mset (mset (mset M2 0 7 1) 0 9 1) 45 0 0) (retI fun r2 M2 => C (outv b L n J) r2 M2)
    rw [← e3]
    have hA3 : Ag [0, 45] M2 M3 := by rw [e3]; exact (((Ag.rf _ _).set (by decide)).set (by decide)).set (by decide)
    have hAll : Ag [0, 2, 3, 45] M M3 := ((hA1'.mono (by decide)).tr (hA2.mono (by decide))).tr (hA3.mono (by decide))
    have k20 : M2 0 = M 0 := by rw [hA2 0 (by decide), hA1' 0 (by decide)]
    refine mm J M3 sj hJ hAll (fun y => absurd y z) (fun _ => ⟨?_, ?_, fun i i7 i9 => ?_, ?_, ?_⟩)
    · rw [hA3 1 (by decide), hA3 2 (by decide), hA3 3 (by decide), hA3 4 (by decide)]; exact bb
    · rw [e3, mset_eq]
    · rw [e3, mset_ne (by decide), mset_at, if_neg i9, mset_at, if_neg i7, k20]
    · rw [e3, mset_ne (by decide), mset_at, if_neg (by decide), mset_eq]
    · rw [e3, mset_ne (by decide), mset_eq]
