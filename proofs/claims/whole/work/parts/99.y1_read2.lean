/-! DEBTS AS A TEXT: the class reads a part -/
abbrev PT := Int × Int × Int × Int
def EfN (M M' : PM) : Prop := M' 2 = M 2 ∧ M' 3 = M 3
def EfY (n k v : Int) (M M' : PM) : Prop := (∃ h, (0 ≤ h ∧ h < n) ∧ k = 3 + h ∧ (0 ≤ v ∧ v ≤ 200) ∧ (∀ i, M' 2 i = if i = h then v else M 2 i) ∧ M' 3 = M 3) ∨
  ∃ f t e, (0 ≤ f ∧ f < n) ∧ (0 ≤ t ∧ t < n) ∧ kl e ∧ f ≠ t ∧ k = 8 + d3 f t e ∧ (0 ≤ v ∧ v ≤ 20) ∧ M' 2 = M 2 ∧ ∀ i, M' 3 i = if i = d3 f t e then v else M 3 i
theorem x_eq0 {K : Nat} {b : Int → Int} {L i f dd n : Int} {M : PM} {Q : Option PV → PM → Prop} (tb_ : TB b L) (t : TS M b L i) (hi : 0 ≤ i ∧ i ≤ L) (hd : dd = 0 ∨ dd = 1) (hf5 : hs f) (hfn : f < n)
    (hf : (prn b L i 3 200 (3 + f)).1 ≠ -1 → ∀ M', Ag [45] M M' → Rw2 M M' → Q (some (.inl (prn b L i 3 200 (3 + f)).1)) M')
    (ho : (prn b L i 3 200 (3 + f)).1 = -1 → ∀ M', Ag [2, 3, 45] M M' → Rw2 M M' → M' 45 2 = (prn b L i 3 200 (3 + f)).2.1 → (dd = 0 → EfN M M') → (dd = 1 → EfY n (prn b L i 3 200 (3 + f)).2.2.1 (prn b L i 3 200 (3 + f)).2.2.2 M M') → Q (some (.inl (-1))) M') :
    G none (K + 1 + 1) jTape_scanPart 100 [(0, .inr (.inr 45)), (1, .inr (.inr 1)), (2, .inl dd), (3, .inl f), (4, .inl 0), (5, .inl f)] [] P0 P0 M Q := by
  have L1 := tb_.1
  refine g_ta_scanPart_100 _ _ _ _ _ _ _ (ta_isNext (K := K) tb_ t hi (by decide) (fun q => ⟨by decide, fun _ => ⟨by decide, fun _ => ?_, fun z => absurd (by decide) z⟩, fun z => absurd z (by decide)⟩) (fun q => ⟨by decide, fun z => absurd rfl z, fun _ => ?_⟩))
  · have l := txk_lt (b := b) (L := L) (i := i) (by omega)
    have r := nmr_b (b := b) (L := L) 3 (i + 1) 0 0 (by omega) (Int.le_refl _) (Int.le_refl _)
    have e10 : ((0 : Int) + 1) * 10 ^ 3 = 1000 := by decide
    rw [e10] at r
    have t1 := t.step
    have r1 := Rw2.step M (M 45 2 + 1)
    rw [t.1] at t1 r1 ⊢
    refine ta_number (K := K) (fg := 3) tb_ t1 ⟨by omega, by omega⟩ (by decide) (fun M6 hA6 r6 e6 => ?_)
    have hA : Ag [45] M M6 := ((Ag.rf _ _).set (by decide)).tr hA6
    have rr : Rw2 M M6 := r1.tr r6
    have fl_ : ((nmr b L 3 (i + 1) 0).1 = i + 1 ∨ 200 < (nmr b L 3 (i + 1) 0).2) → Q (some (.inl (i + 1))) M6 := fun z => by
      have e : prn b L i 3 200 (3 + f) = (i + 1, 0, 0, 0) := by unfold prn; rw [if_pos q, if_pos z]
      have := hf (by rw [e]; show i + 1 ≠ -1; omega) M6 hA rr
      rw [e] at this
      exact this
    have okk : ¬ ((nmr b L 3 (i + 1) 0).1 = i + 1 ∨ 200 < (nmr b L 3 (i + 1) 0).2) → prn b L i 3 200 (3 + f) = (-1, (nmr b L 3 (i + 1) 0).1, 3 + f, (nmr b L 3 (i + 1) 0).2) := fun z => by unfold prn; rw [if_pos q, if_neg z]
    have nd : ¬ ((nmr b L 3 (i + 1) 0).1 = i + 1 ∨ 200 < (nmr b L 3 (i + 1) 0).2) → dd = 0 → Q (some (.inl (-1))) M6 := fun z d0 => by
      have e := okk z
      exact ho (by rw [e]) M6 (hA.mono (by decide)) rr (by rw [e]; exact e6) (fun _ => ⟨hA 2 (by decide), hA 3 (by decide)⟩) (fun d1 => by omega)
    have yd : ¬ ((nmr b L 3 (i + 1) 0).1 = i + 1 ∨ 200 < (nmr b L 3 (i + 1) 0).2) → dd = 1 → Q (some (.inl (-1))) (mset M6 2 f (nmr b L 3 (i + 1) 0).2) := fun z d1 => by
      have e := okk z
      refine ho (by rw [e]) _ ((hA.mono (by decide)).set (by decide)) (fun x hx => by rw [mset_ne (by decide)]; exact rr x hx) (by rw [e, mset_ne (by decide)]; exact e6) (fun d0 => by omega) (fun _ => Or.inl ⟨f, ⟨hf5.1, hfn⟩, by rw [e], ?_, fun j => ?_, ?_⟩)
      · rw [e]; exact ⟨r.2.1, by show (nmr b L 3 (i + 1) 0).2 ≤ 200; omega⟩
      · rw [e, mset_at, hA 2 (by decide)]
      · rw [mset_ne (by decide), hA 3 (by decide)]
    refine ⟨by rw [e6]; exact ⟨by omega, by omega⟩, ⟨by omega, by omega⟩, fun z => fl_ (Or.inl (by rw [← e6]; exact z)), fun z => ⟨fun _ => ⟨⟨by omega, by omega⟩, fun z2 => ⟨by rcases hd with h | h <;> rw [h] <;> decide, fun d0 => ⟨fun _ => ?_, fun d1 => absurd d0 d1⟩, fun d0 => ⟨fun _ => ⟨fun y => absurd y d0, fun _ => ⟨hf5, ?_⟩⟩, fun y => absurd (by decide) y⟩⟩, fun z2 => fl_ (Or.inr (by omega))⟩, fun y => absurd (by decide) y⟩⟩
    · exact nd (fun y => y.elim (fun y => z (by rw [e6]; exact y)) (fun y => by omega)) d0
    · exact yd (fun y => y.elim (fun y => z (by rw [e6]; exact y)) (fun y => by omega)) (by omega)
  · have e : prn b L i 3 200 (3 + f) = (i, 0, 0, 0) := if_neg q
    have := hf (by rw [e]; show i ≠ -1; omega) M (Ag.rf _ _) (fun _ _ => rfl)
    rw [e] at this
    rw [t.1]
    exact this
theorem x_eq1 {K : Nat} {b : Int → Int} {L i f u m dd n : Int} {M : PM} {Q : Option PV → PM → Prop} (tb_ : TB b L) (t : TS M b L i) (hi : 0 ≤ i ∧ i ≤ L) (hd : dd = 0 ∨ dd = 1) (hf5 : hs f) (hu5 : hs u) (hfn : f < n) (hun : u < n) (hne : f ≠ u) (hm : 1 ≤ m ∧ m ≤ 3)
    (hf : (prn b L i 2 20 (8 + d3 f u (m - 1))).1 ≠ -1 → ∀ M', Ag [45] M M' → Rw2 M M' → Q (some (.inl (prn b L i 2 20 (8 + d3 f u (m - 1))).1)) M')
    (ho : (prn b L i 2 20 (8 + d3 f u (m - 1))).1 = -1 → ∀ M', Ag [2, 3, 45] M M' → Rw2 M M' → M' 45 2 = (prn b L i 2 20 (8 + d3 f u (m - 1))).2.1 → (dd = 0 → EfN M M') → (dd = 1 → EfY n (prn b L i 2 20 (8 + d3 f u (m - 1))).2.2.1 (prn b L i 2 20 (8 + d3 f u (m - 1))).2.2.2 M M') → Q (some (.inl (-1))) M') :
    G none (K + 1 + 1) jTape_scanPart 100 [(0, .inr (.inr 45)), (1, .inr (.inr 1)), (2, .inl dd), (3, .inl f), (4, .inl m), (5, .inl u)] [] P0 P0 M Q := by
  have L1 := tb_.1
  have hc : kl (m - 1) := ⟨by omega, by omega⟩
  have ix := d3_75 hf5 hu5 hc
  refine g_ta_scanPart_100 _ _ _ _ _ _ _ (ta_isNext (K := K) tb_ t hi (by decide) (fun q => ⟨by decide, fun _ => ⟨⟨by omega, by omega⟩, fun z => absurd z (by omega), fun _ => ?_⟩, fun z => absurd z (by decide)⟩) (fun q => ⟨by decide, fun z => absurd rfl z, fun _ => ?_⟩))
  · have l := txk_lt (b := b) (L := L) (i := i) (by omega)
    have r := nmr_b (b := b) (L := L) 2 (i + 1) 0 0 (by omega) (Int.le_refl _) (Int.le_refl _)
    have e10 : ((0 : Int) + 1) * 10 ^ 2 = 100 := by decide
    rw [e10] at r
    have t1 := t.step
    have r1 := Rw2.step M (M 45 2 + 1)
    rw [t.1] at t1 r1 ⊢
    refine ta_number (K := K) (fg := 2) tb_ t1 ⟨by omega, by omega⟩ (by decide) (fun M6 hA6 r6 e6 => ?_)
    have hA : Ag [45] M M6 := ((Ag.rf _ _).set (by decide)).tr hA6
    have rr : Rw2 M M6 := r1.tr r6
    have fl_ : ((nmr b L 2 (i + 1) 0).1 = i + 1 ∨ 20 < (nmr b L 2 (i + 1) 0).2) → Q (some (.inl (i + 1))) M6 := fun z => by
      have e : prn b L i 2 20 (8 + d3 f u (m - 1)) = (i + 1, 0, 0, 0) := by unfold prn; rw [if_pos q, if_pos z]
      have := hf (by rw [e]; show i + 1 ≠ -1; omega) M6 hA rr
      rw [e] at this
      exact this
    have okk : ¬ ((nmr b L 2 (i + 1) 0).1 = i + 1 ∨ 20 < (nmr b L 2 (i + 1) 0).2) → prn b L i 2 20 (8 + d3 f u (m - 1)) = (-1, (nmr b L 2 (i + 1) 0).1, 8 + d3 f u (m - 1), (nmr b L 2 (i + 1) 0).2) := fun z => by unfold prn; rw [if_pos q, if_neg z]
    have nd : ¬ ((nmr b L 2 (i + 1) 0).1 = i + 1 ∨ 20 < (nmr b L 2 (i + 1) 0).2) → dd = 0 → Q (some (.inl (-1))) M6 := fun z d0 => by
      have e := okk z
      exact ho (by rw [e]) M6 (hA.mono (by decide)) rr (by rw [e]; exact e6) (fun _ => ⟨hA 2 (by decide), hA 3 (by decide)⟩) (fun d1 => by omega)
    have yd : ¬ ((nmr b L 2 (i + 1) 0).1 = i + 1 ∨ 20 < (nmr b L 2 (i + 1) 0).2) → dd = 1 → Q (some (.inl (-1))) (mset M6 3 ((((f * 5) + u) * 3) + (m - 1)) (nmr b L 2 (i + 1) 0).2) := fun z d1 => by
      have e := okk z
      refine ho (by rw [e]) _ ((hA.mono (by decide)).set (by decide)) (fun x hx => by rw [mset_ne (by decide)]; exact rr x hx) (by rw [e, mset_ne (by decide)]; exact e6) (fun d0 => by omega) (fun _ => Or.inr ⟨f, u, m - 1, ⟨hf5.1, hfn⟩, ⟨hu5.1, hun⟩, hc, hne, by rw [e], ?_, ?_, fun j => ?_⟩)
      · rw [e]; exact ⟨r.2.1, by show (nmr b L 2 (i + 1) 0).2 ≤ 20; omega⟩
      · rw [mset_ne (by decide), hA 2 (by decide)]
      · rw [e, mset_at, hA 3 (by decide)]
    refine ⟨by rw [e6]; exact ⟨by omega, by omega⟩, ⟨by omega, by omega⟩, fun z => fl_ (Or.inl (by rw [← e6]; exact z)), fun z => ⟨fun y => absurd y (by omega), fun _ => ⟨⟨by omega, by omega⟩, fun z2 => ⟨by rcases hd with h | h <;> rw [h] <;> decide, fun d0 => ⟨fun _ => ?_, fun d1 => absurd d0 d1⟩, fun d0 => ⟨fun y => absurd y (by omega), fun _ => c_bk_put _ _ _ _ _ _ _ ⟨ix, ?_⟩⟩⟩, fun z2 => fl_ (Or.inr (by omega))⟩⟩⟩
    · exact nd (fun y => y.elim (fun y => z (by rw [e6]; exact y)) (fun y => by omega)) d0
    · exact yd (fun y => y.elim (fun y => z (by rw [e6]; exact y)) (fun y => by omega)) (by omega)
  · have e : prn b L i 2 20 (8 + d3 f u (m - 1)) = (i, 0, 0, 0) := if_neg q
    have := hf (by rw [e]; show i ≠ -1; omega) M (Ag.rf _ _) (fun _ _ => rfl)
    rw [e] at this
    rw [t.1]
    exact this
theorem x_scanPart {K : Nat} {b : Int → Int} {L i dd n : Int} {M : PM} {Q : Option PV → PM → Prop} (B : XB M) (en : M 1 0 = n) (tb_ : TB b L) (t : TS M b L i) (hi : 0 ≤ i ∧ i ≤ L) (hd : dd = 0 ∨ dd = 1)
    (hf : (prt b L n i).1 ≠ -1 → ∀ M', Ag [45] M M' → Rw2 M M' → Q (some (.inl (prt b L n i).1)) M')
    (ho : (prt b L n i).1 = -1 → ∀ M', Ag [2, 3, 45] M M' → Rw2 M M' → M' 45 2 = (prt b L n i).2.1 → (dd = 0 → EfN M M') → (dd = 1 → EfY n (prt b L n i).2.2.1 (prt b L n i).2.2.2 M M') → Q (some (.inl (-1))) M') :
    Call (K + 3) jTape_scanPart [.inr (.inr 45), .inr (.inr 1), .inl dd] P0 P0 M Q := by
  have L1 := tb_.1
  have hn5 := B.1
  have tx : ∀ {M' : PM}, Ag [45] M M' → EfN M M' := fun hA => ⟨hA 2 (by decide), hA 3 (by decide)⟩
  refine c_ta_scanPart (K + 2) dd M Q (ta_house (K := K) B tb_ t hi (fun ph => ?_) (fun ph => ?_))
  · rw [en] at ph
    have l := txk_lt (b := b) (L := L) (i := i) (by omega)
    have tk := txk_b tb_ hi.1
    have hf5 : hs (txk b L i - 97) := ⟨ph.1, by omega⟩
    obtain ⟨f, ef⟩ : ∃ f, f = txk b L i - 97 := ⟨_, rfl⟩
    rw [← ef] at ph hf5 ⊢
    refine ⟨⟨by omega, by omega⟩, fun _ => ?_, fun z => absurd ph.1 z⟩
    have m3 := mks_b (b := b) (L := L) 3 (i + 1) (by omega)
    -- behind the marks
    have beh : ∀ (m : Int) (M1 : PM), m = mks b L 3 (i + 1) → Ag [45] M M1 → Rw2 M M1 → M1 45 2 = i + 1 + m → G none (K + 2 + 1) jTape_scanPart 59 [(0, .inr (.inr 45)), (1, .inr (.inr 1)), (2, .inl dd), (3, .inl f), (4, .inl m)] [] P0 P0 M1 Q := by
      intro m M1 em hA r1 e1
      have t1 : TS M1 b L (i + 1 + m) := t.to r1 (hA 46 (by decide)) e1
      have B1 : XB M1 := B.of (hA 1 (by decide)) (hA 2 (by decide)) (hA 3 (by decide))
      have en1 : M1 1 0 = n := by rw [hA 1 (by decide), en]
      by_cases z : m = 0
      · have ep : prt b L n i = prn b L (i + 1) 3 200 (3 + f) := by
          unfold prt
          rw [← ef, if_pos ph, if_pos (by rw [← em]; exact z)]
        rw [ep] at hf ho
        refine g_ta_scanPart_59 _ _ _ _ _ _ ⟨⟨by omega, by omega⟩, fun _ => ?_, fun y => absurd (by omega) y⟩
        rw [z]
        rw [z, Int.add_zero] at t1
        exact x_eq0 (K := K + 1) (n := n) tb_ t1 ⟨by omega, by omega⟩ hd hf5 ph.2 (fun h M' hA' r' => hf h M' (hA.tr hA') (r1.tr r')) (fun h M' hA' r' e' n' y' => ho h M' ((hA.mono (by decide)).tr hA') (r1.tr r') e' (fun d => by
          have a := n' d
          have c := tx hA
          exact ⟨a.1.trans c.1, a.2.trans c.2⟩) (fun d => by
          have a := y' d
          unfold EfY at a ⊢
          rw [hA 2 (by decide), hA 3 (by decide)] at a
          exact a))
      · refine g_ta_scanPart_59 _ _ _ _ _ _ ⟨⟨by omega, by omega⟩, fun y => absurd y (by omega), fun _ => ?_⟩
        have hj : 0 ≤ i + 1 + m ∧ i + 1 + m ≤ L := ⟨by omega, by omega⟩
        have bad : ¬ ((0 ≤ txk b L (i + 1 + m) - 97 ∧ txk b L (i + 1 + m) - 97 < n) ∧ ¬ txk b L (i + 1 + m) - 97 = f) → Q (some (.inl (i + 1 + m))) M1 := fun y => by
          have ep : prt b L n i = (i + 1 + m, 0, 0, 0) := by
            unfold prt
            rw [← ef, ← em, if_pos ph, if_neg z, if_neg y]
          have := hf (by rw [ep]; show i + 1 + m ≠ -1; omega) M1 hA r1
          rw [ep] at this
          exact this
        refine ta_house (K := K) B1 tb_ t1 hj (fun pu => ?_) (fun pu => ?_)
        · rw [en1] at pu
          have l2 := txk_lt (b := b) (L := L) (i := i + 1 + m) (by omega)
          have tk2 := txk_b tb_ hj.1
          obtain ⟨u, eu⟩ : ∃ u, u = txk b L (i + 1 + m) - 97 := ⟨_, rfl⟩
          rw [← eu] at pu bad ⊢
          refine ⟨⟨by omega, by omega⟩, fun y => absurd pu.1 (by omega), fun _ => ⟨⟨by omega, by omega⟩, fun ne => ?_, fun eq => ?_⟩⟩
          · have ep : prt b L n i = prn b L (i + 1 + m + 1) 2 20 (8 + d3 f u (m - 1)) := by
              unfold prt
              rw [← ef, ← em, ← eu, if_pos ph, if_neg z, if_pos ⟨pu, ne⟩]
            rw [ep] at hf ho
            have t2 := t1.step
            have r2 := Rw2.step M1 (M1 45 2 + 1)
            rw [t1.1] at t2 r2 ⊢
            have hA2 : Ag [45] M (mset M1 45 2 (i + 1 + m + 1)) := hA.set (by decide)
            exact x_eq1 (K := K + 1) (n := n) tb_ t2 ⟨by omega, by omega⟩ hd hf5 ⟨pu.1, by omega⟩ ph.2 pu.2 (fun e => ne e.symm) ⟨by omega, by omega⟩ (fun h M' hA' r' => hf h M' (hA2.tr hA') ((r1.tr r2).tr r')) (fun h M' hA' r' e' n' y' => ho h M' ((hA2.mono (by decide)).tr hA') ((r1.tr r2).tr r') e' (fun d => by
              have a := n' d
              have c := tx hA2
              exact ⟨a.1.trans c.1, a.2.trans c.2⟩) (fun d => by
              have a := y' d
              unfold EfY at a ⊢
              rw [hA2 2 (by decide), hA2 3 (by decide)] at a
              exact a))
          · rw [e1]; exact bad (fun y => y.2 eq)
        · rw [en1] at pu
          refine ⟨by decide, fun _ => ?_, fun y => absurd (by decide) y⟩
          rw [e1]
          exact bad (fun y => pu y.1)
    -- the marks
    have loop : ∀ (k : Nat) (l : Int) (M1 : PM), l + (k : Int) = 3 → 0 ≤ l → Ag [45] M M1 → Rw2 M M1 → M1 45 2 = i + 1 + l → i + 1 + l ≤ L → l + mks b L k (i + 1 + l) = mks b L 3 (i + 1) → G none (K + 2 + 1) jTape_scanPart 28 [(0, .inr (.inr 45)), (1, .inr (.inr 1)), (2, .inl dd), (3, .inl f), (4, .inl l)] [] P0 P0 M1 Q := by
      intro k
      induction k with
      | zero =>
        intro l M1 hl l0 hA r1 e1 hL1 e
        refine g_ta_scanPart_28 _ _ _ _ _ _ ⟨⟨by omega, by omega⟩, fun _ => beh l M1 (by rw [← e]; show l = l + 0; omega) hA r1 e1, fun q => absurd (by omega) q⟩
      | succ k ih =>
        intro l M1 hl l0 hA r1 e1 hL1 e
        have t1 : TS M1 b L (i + 1 + l) := t.to r1 (hA 46 (by decide)) e1
        refine g_ta_scanPart_28 _ _ _ _ _ _ ⟨⟨by omega, by omega⟩, fun q => absurd q (by omega), fun _ => ta_isNext (K := K + 1) tb_ t1 ⟨by omega, hL1⟩ (by decide) (fun q => ⟨by decide, fun z => absurd z (by decide), fun _ => ?_⟩) (fun q => ⟨by decide, fun _ => ?_, fun z => absurd rfl z⟩)⟩
        · have lt := txk_lt (b := b) (L := L) (i := i + 1 + l) (by omega)
          have e' : mks b L (k + 1) (i + 1 + l) = 1 + mks b L k (i + 1 + l + 1) := if_pos q
          rw [e'] at e
          have r2 := Rw2.step M1 (M1 45 2 + 1)
          refine ih (l + 1) _ (by omega) (by omega) (hA.set (by decide)) (r1.tr r2) (by rw [mset_eq, e1]; omega) (by omega) ?_
          rw [show i + 1 + (l + 1) = i + 1 + l + 1 by omega]
          omega
        · have e' : mks b L (k + 1) (i + 1 + l) = 0 := if_neg q
          rw [e'] at e
          exact beh l M1 (by omega) hA r1 e1
    have r1 := Rw2.step M (M 45 2 + 1)
    exact loop 3 0 _ (by decide) (by decide) ((Ag.rf _ _).set (by decide)) r1 (by rw [mset_eq, t.1]; omega) (by omega) (by rw [Int.add_zero, Int.zero_add])
  · rw [en] at ph
    have ep : prt b L n i = (i, 0, 0, 0) := if_neg ph
    have := hf (by rw [ep]; show i ≠ -1; omega) M (Ag.rf _ _) (fun _ _ => rfl)
    rw [ep] at this
    refine ⟨by decide, fun y => absurd y (by decide), fun _ => ?_⟩
    rw [t.1]
    exact this
