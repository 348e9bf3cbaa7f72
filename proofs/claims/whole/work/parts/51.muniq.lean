/-! THE CLEARING is one: two that keep the rules are the same -/
theorem GS.onF {g : Ck} {F F' : Int → Bool} {X : Int → Int → Int} {D : Int} (O : Okc g) (h : ∀ k, hs k → F k = F' k) (G : GS g F X D) : GS g F' X D :=
  ⟨Sub.more (fun k hk z => by rw [h k hk]; exact z) rfl O.1.1 rfl rfl (fun k _ => Int.le_refl _) G.1, Top.more O (fun k hk z => by rw [← h k hk]; exact z) G.2⟩
theorem gt_on {g : Ck} {X X' : Int → Int → Int} (h : ∀ k c, hs k → kl c → X k c = X' k c) (k : Int) : gt g X k = gt g X' k := by
  unfold gt
  refine s5_congr fun k' hk' => ?_
  refine s3_congr fun c hc => ?_
  rw [h k' c hk' hc]
theorem fl_on {g : Ck} {X X' : Int → Int → Int} {D D' : Int} (hD : D = D') (h : ∀ k c, hs k → kl c → X k c = X' k c) (k : Int) : fl g X D k ↔ fl g X' D' k := by
  unfold fl wth
  rw [gt_on h, hD]
theorem Rnd.uniq {g : Ck} {F F' : Int → Bool} {X X' : Int → Int → Int} {D D' : Int} (O : Okc g) (h : ∀ k, hs k → F k = F' k) (R : Rnd g F X D) (R' : Rnd g F' X' D') : D = D' ∧ ∀ k c, hs k → kl c → X k c = X' k c :=
  red_uniq R.1.1.1 R'.1.1.1 R.2.1 R'.2.1 (fun _ _ hk hc => GS.uniq (GS.onF O h R.1) R'.1 hk hc)
theorem RdS.same {g : Ck} {n : Int} {X X' : Int → Int → Int → Int} {D D' : Int → Int} {W W' : Int} {F F' : Int → Int → Bool} (O : Okc g) (R : RdS g n X D W F) (R' : RdS g n X' D' W' F') : ∀ r : Nat, (r : Int) ≤ W → (r : Int) ≤ W' → (∀ h, hs h → F r h = F' r h) ∧ D r = D' r ∧ ∀ k c, hs k → kl c → X r k c = X' r k c := by
  have fin_ : ∀ r : Nat, (r : Int) ≤ W → (r : Int) ≤ W' → (∀ h, hs h → F r h = F' r h) → (∀ h, hs h → F r h = F' r h) ∧ D r = D' r ∧ ∀ k c, hs k → kl c → X r k c = X' r k c := fun r h1 h2 h => ⟨h, Rnd.uniq O h (R.2.1 r (by omega) h1) (R'.2.1 r (by omega) h2)⟩
  intro r
  induction r with
  | zero => intro h1 h2; exact fin_ 0 h1 h2 (fun h hh => (R.1 h hh).trans (R'.1 h hh).symm)
  | succ r ih =>
    intro h1 h2
    have i := ih (by omega) (by omega)
    refine fin_ (r + 1) h1 h2 (fun h hh => ?_)
    have a := (R.2.2 r (by omega) (by omega)).1 h hh
    have b := (R'.2.2 r (by omega) (by omega)).1 h hh
    rw [Int.natCast_succ, a, b, i.1 h hh, decide_eq_decide.mpr (fl_on i.2.1 i.2.2 h)]
theorem RdS.short {g : Ck} {n : Int} {X X' : Int → Int → Int → Int} {D D' : Int → Int} {W W' : Int} {F F' : Int → Int → Bool} (O : Okc g) (h0 : 0 ≤ W) (R : RdS g n X D W F) (e : ∀ h, hs h → h < n → F W h = false → ¬ fl g (X W) (D W) h) (R' : RdS g n X' D' W' F') : W' ≤ W := by
  rcases Int.lt_or_le W W' with q | q
  · have i := RdS.same O R R' W.toNat (by omega) (by omega)
    rw [Int.toNat_of_nonneg h0] at i
    obtain ⟨s1, h, hh, a, b⟩ := R'.2.2 W h0 q
    have s2 := s1 h hh
    rw [a, b] at s2
    have s3 := (Bool.and_eq_true_iff.mp (by rw [Bool.false_or] at s2; exact s2.symm))
    exact absurd ((fl_on i.2.1 i.2.2 h).mpr (of_decide_eq_true s3.2)) (e h hh (of_decide_eq_true s3.1) ((i.1 h hh).trans a))
  · exact q
theorem RdS.mono {g : Ck} {n : Int} {X : Int → Int → Int → Int} {D : Int → Int} {W : Int} {F : Int → Int → Bool} (R : RdS g n X D W F) {h : Int} (hh : hs h) : ∀ (k : Nat) (r : Int), 0 ≤ r → r + (k : Int) ≤ W → F r h = true → F (r + (k : Int)) h = true
  | 0, r, _, _, hF => by rw [show r + ((0 : Nat) : Int) = r by omega]; exact hF
  | k + 1, r, h0, h1, hF => by
    have i := RdS.mono R hh k r h0 (by omega) hF
    have a := (R.2.2 (r + (k : Int)) (by omega) (by omega)).1 h hh
    rw [i, Bool.true_or] at a
    rw [show r + ((k + 1 : Nat) : Int) = r + (k : Int) + 1 by omega]
    exact a
theorem Clr.uniq {g : Ck} {n : Int} {X X' : Int → Int → Int → Int} {D D' : Int → Int} {W W' s s' : Int} {wv wv' : Int → Int} (O : Okc g) (c : Clr g n X D W s wv) (c' : Clr g n X' D' W' s' wv') :
    W = W' ∧ s = s' ∧ (∀ h, hs h → wv h = wv' h) ∧ ∀ r, 0 ≤ r → r ≤ W → D r = D' r ∧ ∀ h c, hs h → kl c → X r h c = X' r h c := by
  obtain ⟨hW, hs_, F, R, e, b, w⟩ := c
  obtain ⟨hW', hs', F', R', e', b', w'⟩ := c'
  have hWW : W = W' := Int.le_antisymm (RdS.short O hW'.1 R' e' R) (RdS.short O hW.1 R e R')
  subst hWW
  have same : ∀ r, 0 ≤ r → r ≤ W → (∀ h, hs h → F r h = F' r h) ∧ D r = D' r ∧ ∀ k c, hs k → kl c → X r k c = X' r k c := fun r h0 h1 => by
    have i := RdS.same O R R' r.toNat (by omega) (by omega)
    rwa [Int.toNat_of_nonneg h0] at i
  have sW := same W hW.1 (Int.le_refl W)
  refine ⟨rfl, bit_ext ⟨hs_.1, by omega⟩ ⟨hs'.1, by omega⟩ (fun j hj => ?_), fun h hh => ?_, fun r h0 h1 => (same r h0 h1).2⟩
  · by_cases z : j = 5
    · rw [z, tb5 hs_, tb5 hs']
    · have hh : hs j := ⟨hj.1, by omega⟩
      rw [b j hh, b' j hh, sW.1 j hh]
  · cases z : F W h
    · rw [(w h hh).1 z, (w' h hh).1 (by rw [← sW.1 h hh]; exact z)]
    · have a1 := (w h hh).2 z
      have a2 := (w' h hh).2 (by rw [← sW.1 h hh]; exact z)
      rcases Int.lt_trichotomy (wv h) (wv' h) with q | q | q
      · have m := RdS.mono R hh (wv' h - 1 - wv h).toNat (wv h) (by omega) (by omega) a1.2.2.1
        rw [show wv h + (((wv' h - 1 - wv h).toNat : Nat) : Int) = wv' h - 1 by omega, (same _ (by omega) (by omega)).1 h hh, a2.2.2.2] at m
        exact absurd m (by decide)
      · exact q
      · have m := RdS.mono R' hh (wv h - 1 - wv' h).toNat (wv' h) (by omega) (by omega) a2.2.2.1
        rw [show wv' h + (((wv h - 1 - wv' h).toNat : Nat) : Int) = wv h - 1 by omega, ← (same _ (by omega) (by omega)).1 h hh, a1.2.2.2] at m
        exact absurd m (by decide)
