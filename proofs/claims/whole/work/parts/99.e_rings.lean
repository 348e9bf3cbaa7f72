/-! RINGS: the search of both -/
def isn (p : Int → Int) : Nat → Int → Bool
  | 0, _ => false
  | k + 1, x => isn p k x || decide (p (k : Int) = x)
theorem isn_iff {p : Int → Int} {x : Int} : ∀ m : Nat, isn p m x = true ↔ ∃ k : Int, 0 ≤ k ∧ k < (m : Int) ∧ p k = x := by
  intro m
  induction m with
  | zero => unfold isn; exact ⟨fun h => absurd h (by decide), fun ⟨k, h0, h1, _⟩ => by omega⟩
  | succ m ih =>
    unfold isn
    rw [Bool.or_eq_true_iff, ih, decide_eq_true_iff]
    constructor
    · rintro (⟨k, h0, h1, h2⟩ | h)
      · exact ⟨k, h0, by omega, h2⟩
      · exact ⟨(m : Int), by omega, by omega, h⟩
    · rintro ⟨k, h0, h1, h2⟩
      by_cases q : k = (m : Int)
      · exact Or.inr (by rw [← q]; exact h2)
      · exact Or.inl ⟨k, h0, by omega, h2⟩
def lp {β : Type} (f : Int → Option β) : Nat → Int → Option β
  | 0, _ => none
  | m + 1, x => match f x with
    | some r => some r
    | none => lp f m (x + 1)
theorem lp_s {β : Type} {f : Int → Option β} {m : Nat} {x : Int} {r : β} (h : f x = some r) : lp f (m + 1) x = some r := by unfold lp; rw [h]
theorem lp_n {β : Type} {f : Int → Option β} {m : Nat} {x : Int} (h : f x = none) : lp f (m + 1) x = lp f m (x + 1) := by rw [lp, h]
theorem lp_no {β : Type} {f : Int → Option β} (h : ∀ x, f x = none) : ∀ (m : Nat) (x : Int), lp f m x = none
  | 0, _ => rfl
  | m + 1, x => by rw [lp_n (h x)]; exact lp_no h m (x + 1)
theorem lp_ex {β : Type} {f : Int → Option β} {r : β} : ∀ (m : Nat) (x : Int), lp f m x = some r → ∃ y, x ≤ y ∧ y < x + (m : Int) ∧ f y = some r
  | 0, x, h => by unfold lp at h; exact absurd h (by simp)
  | m + 1, x, h => by
    cases q : f x with
    | some r' => rw [lp_s q] at h; exact ⟨x, by omega, by omega, by rw [q]; exact h⟩
    | none => rw [lp_n q] at h; obtain ⟨y, a, b, c⟩ := lp_ex m (x + 1) h; exact ⟨y, by omega, by omega, c⟩
def updp (p : Int → Int) (L x : Int) : Int → Int := fun k => if k = L then x else p k
def rg (o : Int → Int → Int) (n : Int) : Nat → Int → (Int → Int) → Option (Int × (Int → Int))
  | 0, _, _ => none
  | d + 1, L, p => if 1 < L ∧ 0 < o (p (L - 1)) (p 0) then some (L, p) else lp (fun x => if 0 < o (p (L - 1)) x ∧ isn p L.toNat x = false then rg o n d (L + 1) (updp p L x) else none) (n - (p 0 + 1)).toNat (p 0 + 1)
/-- a way: in places of houses, none twice, each owes to the next -/
def PI (n : Int) (o : Int → Int → Int) (L : Int) (p : Int → Int) : Prop := 0 ≤ p 0 ∧ (∀ k, 0 ≤ k → k < L → p 0 ≤ p k ∧ p k < n) ∧ (∀ j k, 0 ≤ j → j < L → 0 ≤ k → k < L → p j = p k → j = k) ∧ ∀ k, 0 ≤ k → k + 1 < L → 0 < o (p k) (p (k + 1))
theorem PI.up {n : Int} {o : Int → Int → Int} {L x : Int} {p : Int → Int} (h : PI n o L p) (hL : 1 ≤ L) (h0 : p 0 < x) (hx : x < n) (hi : isn p L.toNat x = false) (ho : 0 < o (p (L - 1)) x) : PI n o (L + 1) (updp p L x) := by
  have ne : ∀ k, 0 ≤ k → k < L → p k ≠ x := fun k k0 k1 e => by
    have : isn p L.toNat x = true := (isn_iff _).mpr ⟨k, k0, by omega, e⟩
    rw [hi] at this; exact absurd this (by decide)
  have u : ∀ k, k ≠ L → updp p L x k = p k := fun k hk => by unfold updp; rw [if_neg hk]
  have uL : updp p L x L = x := by unfold updp; rw [if_pos rfl]
  have u0 := u 0 (by omega)
  refine ⟨by rw [u0]; exact h.1, fun k k0 k1 => ?_, fun j k j0 j1 k0 k1 e => ?_, fun k k0 k1 => ?_⟩
  · rw [u0]
    by_cases q : k = L
    · rw [q, uL]; omega
    · rw [u k q]; exact h.2.1 k k0 (by omega)
  · by_cases q : j = L
    · by_cases q2 : k = L
      · omega
      · rw [q, uL, u k q2] at e; exact absurd e.symm (ne k k0 (by omega))
    · by_cases q2 : k = L
      · rw [q2, uL, u j q] at e; exact absurd e (ne j j0 (by omega))
      · rw [u j q, u k q2] at e; exact h.2.2.1 j k j0 (by omega) k0 (by omega) e
  · rw [u k (by omega)]
    by_cases q : k + 1 = L
    · rw [q, uL, show k = L - 1 by omega]; exact ho
    · rw [u (k + 1) q]; exact h.2.2.2 k k0 (by omega)
theorem rg_p {o : Int → Int → Int} {n : Int} : ∀ (d : Nat) (L : Int) (p : Int → Int) (L' : Int) (p' : Int → Int), (d : Int) + L = 6 → 1 ≤ L → PI n o L p → rg o n d L p = some (L', p') → PI n o L' p' ∧ (2 ≤ L' ∧ L' ≤ 5) ∧ 0 < o (p' (L' - 1)) (p' 0) := by
  intro d
  induction d with
  | zero => intro L p L' p' _ _ _ h; unfold rg at h; exact absurd h (by simp)
  | succ d ih =>
    intro L p L' p' hd hL hp h
    unfold rg at h
    by_cases c : 1 < L ∧ 0 < o (p (L - 1)) (p 0)
    · rw [if_pos c] at h
      have h' : (L, p) = (L', p') := by injection h
      have e1 : L = L' := congrArg Prod.fst h'
      have e2 : p = p' := congrArg Prod.snd h'
      rw [← e1, ← e2]
      exact ⟨hp, by omega, c.2⟩
    · rw [if_neg c] at h
      obtain ⟨x, x0, x1, hx⟩ := lp_ex _ _ h
      by_cases q : 0 < o (p (L - 1)) x ∧ isn p L.toNat x = false
      · rw [if_pos q] at hx
        have p0 := hp.2.1 0 (by omega) (by omega)
        exact ih (L + 1) _ L' p' (by omega) (by omega) (hp.up hL (by omega) (by omega) q.2 q.1) hx
      · rw [if_neg q] at hx; exact absurd hx (by simp)
def Pth (a p : Int → Int) (L : Int) : Prop := ∀ k, 0 ≤ k → k < L → a k = p k
def Rs (res : Option (Int × (Int → Int))) (L : Int) (p : Int → Int) (r : Int) (a : Int → Int) : Prop := (res = none ∧ r = 0 ∧ Pth a p L) ∨ ∃ L' p', res = some (L', p') ∧ r = L' ∧ Pth a p' L'
theorem Pth.up {a p : Int → Int} {L x : Int} (h : Pth a p L) : Pth (fun k => if k = L then x else a k) (updp p L x) (L + 1) := fun k k0 k1 => by
  show (if k = L then x else a k) = (if k = L then x else p k)
  by_cases q : k = L
  · rw [if_pos q, if_pos q]
  · rw [if_neg q, if_neg q]; exact h k k0 (by omega)
theorem Pth.down {a p : Int → Int} {L x : Int} (h : Pth a (updp p L x) (L + 1)) : Pth a p L := fun k k0 k1 => by
  rw [h k k0 (by omega)]
  unfold updp
  rw [if_neg (by omega)]
theorem x_isOn {K : Nat} {L x : Int} {p : Int → Int} {M : PM} {Q : Option PV → PM → Prop} (hL : 1 ≤ L ∧ L ≤ 5) (hp : Pth (M 41) p L) (hb : ∀ k, 0 ≤ k → k < L → hs (p k)) (hx : R32 x) (hq : Q (some (.inl (b2i (isn p L.toNat x)))) M) : Call (K + 1) jRings_isOn [.inr (.inr 41), .inl L, .inl x] P0 P0 M Q := by
  have loop : ∀ (m : Nat) (k : Int), k + (m : Int) = L → 0 ≤ k → (∀ j, 0 ≤ j → j < k → p j ≠ x) → G none (K + 1) jRings_isOn 2 [(0, .inr (.inr 41)), (1, .inl L), (2, .inl x), (3, .inl k)] [] P0 P0 M Q := by
    intro m
    induction m with
    | zero =>
      intro k hk k0 no
      have e : isn p L.toNat x = false := by
        cases z : isn p L.toNat x
        · rfl
        · obtain ⟨j, j0, j1, j2⟩ := (isn_iff _).mp z
          exact absurd j2 (no j j0 (by omega))
      rw [e] at hq
      exact g_rings_isOn_2 _ _ _ _ _ _ ⟨⟨by omega, by omega⟩, ⟨by omega, by omega⟩, fun _ => hq, fun q => absurd (by omega) q⟩
    | succ m ih =>
      intro k hk k0 no
      have e1 := hp k k0 (by omega)
      have b := hb k k0 (by omega)
      refine g_rings_isOn_2 _ _ _ _ _ _ ⟨⟨by omega, by omega⟩, ⟨by omega, by omega⟩, fun q => absurd q (by omega), fun _ => ⟨⟨k0, by omega⟩, by rw [e1]; exact ⟨by omega, by omega⟩, hx, fun q => ih (k + 1) (by omega) (by omega) (fun j j0 j1 => ?_), fun q => ?_⟩⟩
      · by_cases z : j = k
        · rw [z, ← e1]; exact q
        · exact no j j0 (by omega)
      · have e : isn p L.toNat x = true := (isn_iff _).mpr ⟨k, k0, by omega, by rw [← e1]; exact q⟩
        rw [e] at hq
        exact hq
  exact c_rings_isOn K L x M Q (loop L.toNat 0 (by omega) (by decide) (fun j j0 j1 => by omega))
theorem PI.inh {n : Int} {o : Int → Int → Int} {L : Int} {p : Int → Int} (h : PI n o L p) (hn : n ≤ 5) : ∀ k, 0 ≤ k → k < L → hs (p k) := fun k k0 k1 => ⟨by have := h.2.1 k k0 k1; have := h.1; omega, by have := h.2.1 k k0 k1; omega⟩
theorem x_closed {c n : Int} {o : Int → Int → Int} (hc : kl c) (hn : 2 ≤ n ∧ n ≤ 5) : ∀ (d K : Nat) (L : Int) (p : Int → Int) (M : PM) (Q : Option PV → PM → Prop), (d : Int) + L = 6 → 1 ≤ L → L ≤ 5 → XB M → M 1 0 = n → (o = fun h t => xo M h t c) → PI n o L p → Pth (M 41) p L →
    (∀ M' r, Ag [41] M M' → Rs (rg o n d L p) L p r (M' 41) → Q (some (.inl r)) M') → Call (K + d + 2) jRings_closed [.inr (.inr 1), .inl c, .inr (.inr 41), .inl L] P0 P0 M Q := by
  intro d
  induction d with
  | zero => intro K L p M Q h1 h2 h3; omega
  | succ d ih =>
    intro K L p M Q hd hL hL5 B hn' ho hp ha hq
    have hb := hp.inh hn.2
    have eL := ha (L - 1) (by omega) (by omega)
    have e0 := ha 0 (by omega) (by omega)
    have bL := hb (L - 1) (by omega) (by omega)
    have b0 := hb 0 (by omega) (by omega)
    have p0 := hp.2.1 0 (by omega) (by omega)
    have am : ∀ {K : Nat} {f t : Int} {M1 : PM} {Q : Option PV → PM → Prop}, Ag [41] M M1 → hs f → hs t → (R32 (o f t) → Q (some (.inl (o f t))) M1) → Call (K + 1) jBook_amount [.inr (.inr 1), .inl f, .inl t, .inl c] P0 P0 M1 Q := fun {K f t M1 Q} hA hf ht h => x_amount phk_1_P0 hf ht hc (by
      have e : xo M1 f t c = o f t := by rw [ho, xo_of (hA 3 (by decide))]
      have b := B.2.2.2.2.1 f t c hf ht hc
      rw [e]
      exact h (by rw [ho]; exact ⟨by show _ ≤ xo M f t c; omega, by show xo M f t c < _; omega⟩))
    obtain ⟨F, hF⟩ : ∃ F : Int → Option (Int × (Int → Int)), F = fun x => if 0 < o (p (L - 1)) x ∧ isn p L.toNat x = false then rg o n d (L + 1) (updp p L x) else none := ⟨_, rfl⟩
    have loop : (rg o n (d + 1) L p = lp F (n - (p 0 + 1)).toNat (p 0 + 1)) → ∀ (m : Nat) (x : Int) (M1 : PM), x + (m : Int) = n → p 0 < x → Ag [41] M M1 → Pth (M1 41) p L → lp F m x = lp F (n - (p 0 + 1)).toNat (p 0 + 1) → G none (K + d + 2 + 1) jRings_closed 47 [(0, .inr (.inr 1)), (1, .inl c), (2, .inr (.inr 41)), (3, .inl L), (4, .inl (p (L - 1))), (5, .inl x)] [] P0 P0 M1 Q := by
      intro er m
      induction m with
      | zero =>
        intro x M1 hx x0 hA hP el
        have e1 : M1 1 0 = n := by rw [hA 1 (by decide)]; exact hn'
        exact g_rings_closed_47 _ _ _ _ _ _ _ ⟨⟨by omega, by omega⟩, by rw [e1]; exact ⟨by omega, by omega⟩, fun _ => hq M1 0 hA (Or.inl ⟨by rw [er, ← el]; rfl, rfl, hP⟩), fun q => absurd (by rw [e1]; omega) q⟩
      | succ m ihm =>
        intro x M1 hx x0 hA hP el
        have e1 : M1 1 0 = n := by rw [hA 1 (by decide)]; exact hn'
        have xh : hs x := ⟨by omega, by omega⟩
        refine g_rings_closed_47 _ _ _ _ _ _ _ ⟨⟨by omega, by omega⟩, by rw [e1]; exact ⟨by omega, by omega⟩, fun q => absurd q (by rw [e1]; omega), fun _ => ⟨⟨by omega, by omega⟩, fun q5 => ?_, fun q5 => am hA bL xh (fun oR => ⟨oR, fun q => ?_, fun q => x_isOn ⟨hL, hL5⟩ hP hb ⟨by omega, by omega⟩ ⟨b2i_R _, fun q2 => ?_, fun q2 => ?_⟩⟩)⟩⟩
        · have d0 : d = 0 := by omega
          have nn : ∀ y, F y = none := fun y => by rw [hF, d0]; show (if _ then _ else _) = _; split <;> rfl
          exact hq M1 0 hA (Or.inl ⟨by rw [er, lp_no nn], rfl, hP⟩)
        · have fx : F x = none := by rw [hF]; exact if_neg (fun z => by omega)
          rw [lp_n fx] at el
          exact ihm (x + 1) M1 (by omega) (by omega) hA hP el
        · have fx : F x = none := by rw [hF]; exact if_neg (fun z => by rw [b2i_n0 q2] at z; exact absurd z.2 (by decide))
          rw [lp_n fx] at el
          exact ihm (x + 1) M1 (by omega) (by omega) hA hP el
        · have ni := b2i_0.mp q2
          have fx : F x = rg o n d (L + 1) (updp p L x) := by rw [hF]; exact if_pos ⟨by omega, ni⟩
          refine ⟨⟨by omega, by omega⟩, ?_⟩
          have hA1 : Ag [41] M (mset M1 41 L x) := hA.set (by decide)
          refine ih K (L + 1) (updp p L x) (mset M1 41 L x) _ (by omega) (by omega) (by omega) (B.of (hA1 1 (by decide)) (hA1 2 (by decide)) (hA1 3 (by decide))) (by rw [hA1 1 (by decide)]; exact hn') (by rw [ho, xo_of (hA1 3 (by decide))]) (hp.up hL (by omega) (by omega) ni (by omega)) ?_ (fun M2 r hA2 rs => ?_)
          · have := hP.up (x := x)
            have e : (mset M1 41 L x) 41 = fun k => if k = L then x else M1 41 k := by funext k; rw [mset_at]
            rw [e]; exact this
          · rcases rs with ⟨rn, r0, rP⟩ | ⟨L', p', rn, r0, rP⟩
            · rw [← fx] at rn
              rw [lp_n rn] at el
              rw [r0]
              exact ⟨by decide, fun _ => ihm (x + 1) M2 (by omega) (by omega) (hA1.tr hA2) rP.down el, fun z => absurd (by decide) z⟩
            · have pr := rg_p d (L + 1) _ L' p' (by omega) (by omega) (hp.up hL (by omega) (by omega) ni (by omega)) rn
              rw [← fx] at rn
              rw [lp_s rn] at el
              rw [r0]
              exact ⟨⟨by omega, by omega⟩, fun z => by omega, fun _ => hq M2 L' (hA1.tr hA2) (Or.inr ⟨L', p', by rw [er, ← el], rfl, rP⟩)⟩
    have st : (rg o n (d + 1) L p = lp F (n - (p 0 + 1)).toNat (p 0 + 1)) → G none (K + d + 2 + 1) jRings_closed 47 [(0, .inr (.inr 1)), (1, .inl c), (2, .inr (.inr 41)), (3, .inl L), (4, .inl (p (L - 1))), (5, .inl (p 0 + 1))] [] P0 P0 M Q := fun er => loop er (n - (p 0 + 1)).toNat (p 0 + 1) M (by omega) (by omega) (Ag.rf _ _) ha rfl
    refine c_rings_closed (K + d + 2) c L M Q ⟨⟨by omega, by omega⟩, fun z => absurd z (by omega), fun _ => ⟨fun _ => ⟨⟨by omega, by omega⟩, fun q => ?_, fun q => ?_⟩, fun z => absurd hL5 z⟩⟩
    · rw [eL, e0]
      exact st (by rw [rg, if_neg (fun z => by omega), ← hF])
    · rw [eL, e0]
      refine am (Ag.rf _ _) bL b0 (fun oR => ⟨oR, fun q2 => ?_, fun q2 => ?_⟩)
      · rw [e0]
        exact st (by rw [rg, if_neg (fun z => by omega), ← hF])
      · exact hq M L (Ag.rf _ _) (Or.inr ⟨L, p, by rw [rg, if_pos ⟨by omega, by omega⟩], rfl, ha⟩)
/-- the class's first ring -/
def fr (o : Int → Int → Int) (n : Int) : Option (Int × (Int → Int)) := lp (fun x => rg o n 5 1 (fun _ => x)) n.toNat 0
theorem PI.one {n x : Int} {o : Int → Int → Int} (h0 : 0 ≤ x) (h1 : x < n) : PI n o 1 (fun _ => x) := ⟨h0, fun _ _ _ => ⟨Int.le_refl x, h1⟩, fun j k j0 j1 k0 k1 _ => by omega, fun k k0 k1 => by omega⟩
theorem fr_p {o : Int → Int → Int} {n L' : Int} {p' : Int → Int} (h : fr o n = some (L', p')) : PI n o L' p' ∧ (2 ≤ L' ∧ L' ≤ 5) ∧ 0 < o (p' (L' - 1)) (p' 0) := by
  obtain ⟨x, x0, x1, hx⟩ := lp_ex _ _ h
  exact rg_p 5 1 _ L' p' (by decide) (by decide) (PI.one x0 (by omega)) hx
def Rf (res : Option (Int × (Int → Int))) (r : Int) (a : Int → Int) : Prop := (res = none ∧ r = 0) ∨ ∃ L' p', res = some (L', p') ∧ r = L' ∧ Pth a p' L'
theorem x_find {K : Nat} {c : Int} {M : PM} {Q : Option PV → PM → Prop} (B : XB M) (hc : kl c) (hq : ∀ M' r, Ag [41] M M' → Rf (fr (fun h t => xo M h t c) (M 1 0)) r (M' 41) → Q (some (.inl r)) M') : Call (K + 8) jRings_find [.inr (.inr 40), .inl c] P0 P0 M Q := by
  have hn := B.1
  obtain ⟨n, en⟩ : ∃ n, n = M 1 0 := ⟨_, rfl⟩
  obtain ⟨o, eo⟩ : ∃ o : Int → Int → Int, o = fun h t => xo M h t c := ⟨_, rfl⟩
  rw [← en, ← eo] at hq
  rw [← en] at hn
  have loop : ∀ (m : Nat) (x : Int) (M1 : PM), x + (m : Int) = n → 0 ≤ x → Ag [41] M M1 → lp (fun x => rg o n 5 1 (fun _ => x)) m x = fr o n → G none (K + 7 + 1) jRings_find 2 [(0, .inr (.inr 40)), (1, .inl c), (2, .inl x)] [] P0 P0 M1 Q := by
    intro m
    induction m with
    | zero =>
      intro x M1 hx x0 hA el
      have e1 : M1 1 0 = n := by rw [hA 1 (by decide), en]
      exact g_ri_find_2 _ _ _ _ _ ⟨⟨by omega, by omega⟩, by rw [e1]; exact ⟨by omega, by omega⟩, fun _ => hq M1 0 hA (Or.inl ⟨by rw [← el]; rfl, rfl⟩), fun q => absurd (by rw [e1]; omega) q⟩
    | succ m ih =>
      intro x M1 hx x0 hA el
      have e1 : M1 1 0 = n := by rw [hA 1 (by decide), en]
      have hA1 : Ag [41] M (mset M1 41 0 x) := hA.set (by decide)
      refine g_ri_find_2 _ _ _ _ _ ⟨⟨by omega, by omega⟩, by rw [e1]; exact ⟨by omega, by omega⟩, fun q => absurd q (by rw [e1]; omega), fun _ => x_closed (o := o) hc hn 5 K 1 (fun _ => x) (mset M1 41 0 x) _ (by decide) (by decide) (by decide) (B.of (hA1 1 (by decide)) (hA1 2 (by decide)) (hA1 3 (by decide))) (by rw [hA1 1 (by decide), en]) (by rw [eo, xo_of (hA1 3 (by decide))]) (PI.one x0 (by omega)) (fun k k0 k1 => by rw [mset_at, if_pos (by omega)]) (fun M2 r hA2 rs => ?_)⟩
      rcases rs with ⟨rn, r0, rP⟩ | ⟨L', p', rn, r0, rP⟩
      · rw [lp_n (f := fun x => rg o n 5 1 (fun _ => x)) rn] at el
        rw [r0]
        exact ⟨by decide, fun _ => ih (x + 1) M2 (by omega) (by omega) (hA1.tr hA2) el, fun z => absurd (by decide) z⟩
      · have pr := rg_p 5 1 _ L' p' (by decide) (by decide) (PI.one x0 (by omega)) rn
        rw [lp_s (f := fun x => rg o n 5 1 (fun _ => x)) rn] at el
        rw [r0]
        exact ⟨⟨by omega, by omega⟩, fun z => by omega, fun _ => hq M2 L' (hA1.tr hA2) (Or.inr ⟨L', p', by rw [← el], rfl, rP⟩)⟩
  exact c_ri_find (K + 7) c M Q (loop n.toNat 0 M (by omega) (by decide) (Ag.rf _ _) rfl)
/-- five houses, and no sixth -/
theorem pig : ∀ a b c d e x : Fin 5, (a != b && a != c && a != d && a != e && b != c && b != d && b != e && c != d && c != e && d != e && x != a && x != b && x != c && x != d && x != e) = false := by decide +kernel
theorem PI.full {n x : Int} {o : Int → Int → Int} {p : Int → Int} (h : PI n o 5 p) (hn : n ≤ 5) (hx : hs x) : isn p (5 : Int).toNat x = true := by
  have b_ := h.inh hn
  cases z : isn p (5 : Int).toNat x
  · exfalso
    have ne : ∀ k, 0 ≤ k → k < 5 → x ≠ p k := fun k k0 k1 e => by
      have : isn p (5 : Int).toNat x = true := (isn_iff _).mpr ⟨k, k0, by omega, e.symm⟩
      rw [z] at this; exact absurd this (by decide)
    have mk : ∀ y, hs y → ∃ z : Fin 5, ((z.val : Nat) : Int) = y := fun y hy => ⟨⟨y.toNat, by have := hy.2; omega⟩, by show ((y.toNat : Nat) : Int) = y; have := hy.1; omega⟩
    have df : ∀ (u v : Fin 5) (j k : Int), ((u.val : Nat) : Int) = p j → ((v.val : Nat) : Int) = p k → 0 ≤ j → j < 5 → 0 ≤ k → k < 5 → j ≠ k → (u != v) = true := fun u v j k hu hv j0 j1 k0 k1 jk => bne_iff_ne.mpr fun e => jk (h.2.2.1 j k j0 j1 k0 k1 (by rw [← hu, ← hv, e]))
    have dx : ∀ (u v : Fin 5) (k : Int), ((u.val : Nat) : Int) = x → ((v.val : Nat) : Int) = p k → 0 ≤ k → k < 5 → (u != v) = true := fun u v k hu hv k0 k1 => bne_iff_ne.mpr fun e => ne k k0 k1 (by rw [← hu, ← hv, e])
    obtain ⟨a, ha⟩ := mk _ (b_ 0 (by decide) (by decide))
    obtain ⟨b, hb⟩ := mk _ (b_ 1 (by decide) (by decide))
    obtain ⟨c, hc⟩ := mk _ (b_ 2 (by decide) (by decide))
    obtain ⟨d, hd⟩ := mk _ (b_ 3 (by decide) (by decide))
    obtain ⟨e, he⟩ := mk _ (b_ 4 (by decide) (by decide))
    obtain ⟨y, hy⟩ := mk _ hx
    have g := pig a b c d e y
    rw [df a b 0 1 ha hb (by decide) (by decide) (by decide) (by decide) (by decide), df a c 0 2 ha hc (by decide) (by decide) (by decide) (by decide) (by decide), df a d 0 3 ha hd (by decide) (by decide) (by decide) (by decide) (by decide), df a e 0 4 ha he (by decide) (by decide) (by decide) (by decide) (by decide), df b c 1 2 hb hc (by decide) (by decide) (by decide) (by decide) (by decide), df b d 1 3 hb hd (by decide) (by decide) (by decide) (by decide) (by decide), df b e 1 4 hb he (by decide) (by decide) (by decide) (by decide) (by decide), df c d 2 3 hc hd (by decide) (by decide) (by decide) (by decide) (by decide), df c e 2 4 hc he (by decide) (by decide) (by decide) (by decide) (by decide), df d e 3 4 hd he (by decide) (by decide) (by decide) (by decide) (by decide), dx y a 0 hy ha (by decide) (by decide), dx y b 1 hy hb (by decide) (by decide), dx y c 2 hy hc (by decide) (by decide), dx y d 3 hy hd (by decide) (by decide), dx y e 4 hy he (by decide) (by decide)] at g
    exact absurd g (by decide)
  · rfl
