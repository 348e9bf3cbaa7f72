/-! RINGS, the model's search -/
def Rm (res : Option (Int × (Int → Int))) (L : Int) (p : Int → Int) (r : Int) (a : Int → Int) (len : Int) : Prop := (res = none ∧ r = 0 ∧ Pth a p L ∧ len = L) ∨ ∃ L' p', res = some (L', p') ∧ r = 1 ∧ Pth a p' L' ∧ len = L'
theorem m_isOnWay {K : Nat} {L x : Int} {p : Int → Int} {M : PM} {Q : Option PV → PM → Prop} (hL : 1 ≤ L ∧ L ≤ 5) (hp : Pth (M 70) p L) (hl : M 52 27 = L) (hb : ∀ k, 0 ≤ k → k < L → hs (p k)) (hx : R32 x) (hq : Q (some (.inl (b2i (isn p L.toNat x)))) M) : Call (K + 1) jModel_isOnWay [.inr (.inr 52), .inl x] P0 P0 M Q := by
  have loop : ∀ (m : Nat) (k : Int), k + (m : Int) = L → 0 ≤ k → (∀ j, 0 ≤ j → j < k → p j ≠ x) → G none (K + 1) jModel_isOnWay 2 [(0, .inr (.inr 52)), (1, .inl x), (2, .inl k)] [] P0 P0 M Q := by
    intro m
    induction m with
    | zero =>
      intro k hk k0 no
      have e : isn p L.toNat x = false := by
        cases z : isn p L.toNat x
        · rfl
        · obtain ⟨j, j0, j1, j2⟩ := (isn_iff _).mp z
          exact absurd j2 (no j j0 (by omega))
      rw [e] at hq
      exact g_m_isOnWay_2 _ _ _ _ _ ⟨⟨by omega, by omega⟩, by rw [hl]; exact ⟨by omega, by omega⟩, fun _ => hq, fun q => absurd (by rw [hl]; omega) q⟩
    | succ m ih =>
      intro k hk k0 no
      have e1 := hp k k0 (by omega)
      have b := hb k k0 (by omega)
      refine g_m_isOnWay_2 _ _ _ _ _ ⟨⟨by omega, by omega⟩, by rw [hl]; exact ⟨by omega, by omega⟩, fun q => absurd q (by rw [hl]; omega), fun _ => ⟨⟨k0, by omega⟩, by rw [e1]; exact ⟨by omega, by omega⟩, hx, fun q => ih (k + 1) (by omega) (by omega) (fun j j0 j1 => ?_), fun q => ?_⟩⟩
      · by_cases z : j = k
        · rw [z, ← e1]; exact q
        · exact no j j0 (by omega)
      · have e : isn p L.toNat x = true := (isn_iff _).mpr ⟨k, k0, by omega, by rw [← e1]; exact q⟩
        rw [e] at hq
        exact hq
  exact c_m_isOnWay K x M Q (loop L.toNat 0 (by omega) (by decide) (fun j j0 j1 => by omega))
def F27 (M M' : PM) : Prop := ∀ i, i ≠ 27 → M' 52 i = M 52 i
theorem m_rings {c n : Int} {o : Int → Int → Int} (hc : kl c) (hn : 2 ≤ n ∧ n ≤ 5) : ∀ (d K : Nat) (L : Int) (p : Int → Int) (M : PM) (Q : Option PV → PM → Prop), (d : Int) + L = 6 → 1 ≤ L → L ≤ 5 → MB M → M 55 0 = n → (o = fun h t => mo M h t c) → PI n o L p → Pth (M 70) p L → M 52 27 = L →
    (∀ M' r, Ag [52, 70] M M' → F27 M M' → Rm (rg o n d L p) L p r (M' 70) (M' 52 27) → Q (some (.inl r)) M') → Call (K + d + 3) jModel_rings [.inr (.inr 52), .inl c] P0 P0 M Q := by
  intro d
  induction d with
  | zero => intro K L p M Q h1 h2 h3; omega
  | succ d ih =>
    intro K L p M Q hd hL hL5 B hn' ho hp ha hl hq
    have hb := hp.inh hn.2
    have eL := ha (L - 1) (by omega) (by omega)
    have e0 := ha 0 (by omega) (by omega)
    have bL := hb (L - 1) (by omega) (by omega)
    have b0 := hb 0 (by omega) (by omega)
    have p0 := hp.2.1 0 (by omega) (by omega)
    have am : ∀ {K : Nat} {f t : Int} {M1 : PM} {Q : Option PV → PM → Prop}, Ag [52, 70] M M1 → hs f → hs t → (R32 (o f t) → Q (some (.inl (o f t))) M1) → Call (K + 2) jModel_owes [.inr (.inr 52), .inl f, .inl t, .inl c] P0 P0 M1 Q := fun {K f t M1 Q} hA hf ht h => m_owes hf ht hc (by
      have e : mo M1 f t c = o f t := by rw [ho, mo_of (hA 55 (by decide))]
      have b := B.2.2.2.2.1 f t c hf ht hc
      rw [e]
      exact h (by rw [ho]; exact ⟨by show _ ≤ mo M f t c; omega, by show mo M f t c < _; omega⟩))
    obtain ⟨F, hF⟩ : ∃ F : Int → Option (Int × (Int → Int)), F = fun x => if 0 < o (p (L - 1)) x ∧ isn p L.toNat x = false then rg o n d (L + 1) (updp p L x) else none := ⟨_, rfl⟩
    have loop : (rg o n (d + 1) L p = lp F (n - (p 0 + 1)).toNat (p 0 + 1)) → ∀ (m : Nat) (x : Int) (M1 : PM), x + (m : Int) = n → p 0 < x → Ag [52, 70] M M1 → F27 M M1 → M1 52 27 = L → Pth (M1 70) p L → lp F m x = lp F (n - (p 0 + 1)).toNat (p 0 + 1) → G none (K + d + 3 + 1) jModel_rings 46 [(0, .inr (.inr 52)), (1, .inl c), (2, .inl (p (L - 1))), (3, .inl x)] [] P0 P0 M1 Q := by
      intro er m
      induction m with
      | zero =>
        intro x M1 hx x0 hA h27 hl1 hP el
        have e1 : M1 55 0 = n := by rw [hA 55 (by decide)]; exact hn'
        exact g_m_rings_46 _ _ _ _ _ _ ⟨⟨by omega, by omega⟩, by rw [e1]; exact ⟨by omega, by omega⟩, fun _ => hq M1 0 hA h27 (Or.inl ⟨by rw [er, ← el]; rfl, rfl, hP, hl1⟩), fun q => absurd (by rw [e1]; omega) q⟩
      | succ m ihm =>
        intro x M1 hx x0 hA h27 hl1 hP el
        have e1 : M1 55 0 = n := by rw [hA 55 (by decide)]; exact hn'
        have xh : hs x := ⟨by omega, by omega⟩
        refine g_m_rings_46 _ _ _ _ _ _ ⟨⟨by omega, by omega⟩, by rw [e1]; exact ⟨by omega, by omega⟩, fun q => absurd q (by rw [e1]; omega), fun _ => am hA bL xh (fun oR => ⟨oR, fun q => ?_, fun q => m_isOnWay ⟨hL, hL5⟩ hP hl1 hb ⟨by omega, by omega⟩ ⟨b2i_R _, fun q2 => ?_, fun q2 => ?_⟩⟩)⟩
        · have fx : F x = none := by rw [hF]; exact if_neg (fun z => by omega)
          rw [lp_n fx] at el
          exact ihm (x + 1) M1 (by omega) (by omega) hA h27 hl1 hP el
        · have fx : F x = none := by rw [hF]; exact if_neg (fun z => by rw [b2i_n0 q2] at z; exact absurd z.2 (by decide))
          rw [lp_n fx] at el
          exact ihm (x + 1) M1 (by omega) (by omega) hA h27 hl1 hP el
        · have ni := b2i_0.mp q2
          have L4 : L ≤ 4 := by
            by_cases q5 : L = 5
            · rw [q5] at hp ni
              rw [hp.full hn.2 xh] at ni
              exact absurd ni (by decide)
            · omega
          have fx : F x = rg o n d (L + 1) (updp p L x) := by rw [hF]; exact if_pos ⟨by omega, ni⟩
          rw [hl1]
          refine ⟨⟨by omega, by omega⟩, ?_⟩
          obtain ⟨N, hN⟩ : ∃ N, N = mset (mset M1 70 L x) 52 27 (L + 1) := ⟨_, rfl⟩
          rw [← hN]
          have hA1 : Ag [52, 70] M N := by rw [hN]; exact (hA.set (by decide)).set (by decide)
          have n27 : N 52 27 = L + 1 := by rw [hN, mset_eq]
          have nf : F27 M N := fun i hi => by rw [hN, mset_at, if_neg hi, mset_ne (by decide), h27 i hi]
          refine ih K (L + 1) (updp p L x) N _ (by omega) (by omega) (by omega) (B.of (hA1 55 (by decide))) (by rw [hA1 55 (by decide)]; exact hn') (by rw [ho]; funext h t; rw [mo_of (hA1 55 (by decide))]) (hp.up hL (by omega) (by omega) ni (by omega)) ?_ n27 (fun M2 r hA2 h27' rs => ?_)
          · have := hP.up (x := x)
            have e : N 70 = fun k => if k = L then x else M1 70 k := by funext k; rw [hN, mset_ne (by decide), mset_at]
            rw [e]; exact this
          · have f2 : F27 M M2 := fun i hi => by rw [h27' i hi, nf i hi]
            rcases rs with ⟨rn, r0, rP, rl⟩ | ⟨L', p', rn, r0, rP, rl⟩
            · rw [← fx] at rn
              rw [lp_n rn] at el
              rw [r0]
              refine ⟨by decide, fun _ => ?_, fun z => absurd rfl z⟩
              rw [rl]
              refine ihm (x + 1) _ (by omega) (by omega) ((hA1.tr hA2).set (by decide)) (fun i hi => by rw [mset_at, if_neg hi, f2 i hi]) (by rw [mset_eq]; omega) ?_ el
              rw [mset_ne (by decide)]
              exact rP.down
            · rw [← fx] at rn
              rw [lp_s rn] at el
              rw [r0]
              exact ⟨by decide, fun z => absurd z (by decide), fun _ => hq M2 1 (hA1.tr hA2) f2 (Or.inr ⟨L', p', by rw [er, ← el], rfl, rP, rl⟩)⟩
    have st : (rg o n (d + 1) L p = lp F (n - (p 0 + 1)).toNat (p 0 + 1)) → G none (K + d + 3 + 1) jModel_rings 46 [(0, .inr (.inr 52)), (1, .inl c), (2, .inl (p (L - 1))), (3, .inl (p 0 + 1))] [] P0 P0 M Q := fun er => loop er (n - (p 0 + 1)).toNat (p 0 + 1) M (by omega) (by omega) (Ag.rf _ _) (fun _ _ => rfl) hl ha rfl
    refine c_m_rings (K + d + 3) c M Q ?_
    rw [hl]
    refine ⟨⟨by omega, by omega⟩, ⟨by omega, by omega⟩, fun q => ?_, fun q => ?_⟩
    · rw [eL, e0]
      exact st (by rw [rg, if_neg (fun z => by omega), ← hF])
    · rw [eL, e0]
      refine am (Ag.rf _ _) bL b0 (fun oR => ⟨oR, fun q2 => ?_, fun q2 => ?_⟩)
      · rw [e0]
        exact st (by rw [rg, if_neg (fun z => by omega), ← hF])
      · exact hq M 1 (Ag.rf _ _) (fun _ _ => rfl) (Or.inr ⟨L, p, by rw [rg, if_pos ⟨by omega, by omega⟩], rfl, ha, hl⟩)
def Rn (res : Option (Int × (Int → Int))) (r : Int) (a : Int → Int) (len : Int) : Prop := (res = none ∧ r = 0) ∨ ∃ L' p', res = some (L', p') ∧ r = 1 ∧ Pth a p' L' ∧ len = L'
theorem m_findsRing {K : Nat} {c : Int} {M : PM} {Q : Option PV → PM → Prop} (B : MB M) (hc : kl c) (hq : ∀ M' r, Ag [52, 70] M M' → F27 M M' → Rn (fr (fun h t => mo M h t c) (M 55 0)) r (M' 70) (M' 52 27) → Q (some (.inl r)) M') : Call (K + 9) jModel_findsRing [.inr (.inr 52), .inl c] P0 P0 M Q := by
  have hn := B.1
  obtain ⟨n, en⟩ : ∃ n, n = M 55 0 := ⟨_, rfl⟩
  obtain ⟨o, eo⟩ : ∃ o : Int → Int → Int, o = fun h t => mo M h t c := ⟨_, rfl⟩
  rw [← en, ← eo] at hq
  rw [← en] at hn
  have loop : ∀ (m : Nat) (x : Int) (M1 : PM), x + (m : Int) = n → 0 ≤ x → Ag [52, 70] M M1 → F27 M M1 → lp (fun x => rg o n 5 1 (fun _ => x)) m x = fr o n → G none (K + 8 + 1) jModel_findsRing 2 [(0, .inr (.inr 52)), (1, .inl c), (2, .inl x)] [] P0 P0 M1 Q := by
    intro m
    induction m with
    | zero =>
      intro x M1 hx x0 hA h27 el
      have e1 : M1 55 0 = n := by rw [hA 55 (by decide), en]
      exact g_m_findsRing_2 _ _ _ _ _ ⟨⟨by omega, by omega⟩, by rw [e1]; exact ⟨by omega, by omega⟩, fun _ => hq M1 0 hA h27 (Or.inl ⟨by rw [← el]; rfl, rfl⟩), fun q => absurd (by rw [e1]; omega) q⟩
    | succ m ih =>
      intro x M1 hx x0 hA h27 el
      have e1 : M1 55 0 = n := by rw [hA 55 (by decide), en]
      have hA1 : Ag [52, 70] M (mset (mset M1 70 0 x) 52 27 1) := (hA.set (by decide)).set (by decide)
      have nf : F27 M (mset (mset M1 70 0 x) 52 27 1) := fun i hi => by rw [mset_at, if_neg hi, mset_ne (by decide), h27 i hi]
      refine g_m_findsRing_2 _ _ _ _ _ ⟨⟨by omega, by omega⟩, by rw [e1]; exact ⟨by omega, by omega⟩, fun q => absurd q (by rw [e1]; omega), fun _ => m_rings (o := o) hc hn 5 K 1 (fun _ => x) (mset (mset M1 70 0 x) 52 27 1) _ (by decide) (by decide) (by decide) (B.of (hA1 55 (by decide))) (by rw [hA1 55 (by decide), en]) (by rw [eo]; funext h t; rw [mo_of (hA1 55 (by decide))]) (PI.one x0 (by omega)) (fun k k0 k1 => by rw [mset_ne (by decide), mset_at, if_pos (by omega)]) mset_eq (fun M2 r hA2 h27' rs => ?_)⟩
      have f2 : F27 M M2 := fun i hi => by rw [h27' i hi, nf i hi]
      rcases rs with ⟨rn, r0, rP, rl⟩ | ⟨L', p', rn, r0, rP, rl⟩
      · rw [lp_n (f := fun x => rg o n 5 1 (fun _ => x)) rn] at el
        rw [r0]
        exact ⟨by decide, fun _ => ih (x + 1) M2 (by omega) (by omega) (hA1.tr hA2) f2 el, fun z => absurd rfl z⟩
      · rw [lp_s (f := fun x => rg o n 5 1 (fun _ => x)) rn] at el
        rw [r0]
        exact ⟨by decide, fun z => absurd z (by decide), fun _ => hq M2 1 (hA1.tr hA2) f2 (Or.inr ⟨L', p', by rw [← el], rfl, rP, rl⟩)⟩
  exact c_m_findsRing (K + 8) c M Q (loop n.toNat 0 M (by omega) (by decide) (Ag.rf _ _) (fun _ _ => rfl) rfl)
theorem fr_eq {n : Int} {o o' : Int → Int → Int} (hn : n ≤ 5) (h : ∀ x y, hs x → hs y → o x y = o' x y) : fr o n = fr o' n := by
  have key : ∀ (d : Nat) (L : Int) (p : Int → Int), (d : Int) + L = 6 → 1 ≤ L → PI n o L p → rg o n d L p = rg o' n d L p := by
    intro d
    induction d with
    | zero => intro L p _ _ _; rfl
    | succ d ih =>
      intro L p hd hL hp
      have hb := hp.inh hn
      rw [rg, rg, h _ _ (hb (L - 1) (by omega) (by omega)) (hb 0 (by omega) (by omega))]
      split
      · rfl
      · have bL := hb (L - 1) (by omega) (by omega)
        have b0 := hp.2.1 0 (by omega) (by omega)
        have b00 := hp.1
        have lpe : ∀ (m : Nat) (x : Int), p 0 < x → x + (m : Int) ≤ n → lp (fun x => if 0 < o (p (L - 1)) x ∧ isn p L.toNat x = false then rg o n d (L + 1) (updp p L x) else none) m x = lp (fun x => if 0 < o' (p (L - 1)) x ∧ isn p L.toNat x = false then rg o' n d (L + 1) (updp p L x) else none) m x := by
          intro m
          induction m with
          | zero => intro x _ _; rfl
          | succ m ihm =>
            intro x x0 x1
            have e : (if 0 < o (p (L - 1)) x ∧ isn p L.toNat x = false then rg o n d (L + 1) (updp p L x) else none) = (if 0 < o' (p (L - 1)) x ∧ isn p L.toNat x = false then rg o' n d (L + 1) (updp p L x) else none) := by
              rw [← h _ x bL ⟨by omega, by omega⟩]
              by_cases q : 0 < o (p (L - 1)) x ∧ isn p L.toNat x = false
              · rw [if_pos q, if_pos q]
                exact ih (L + 1) _ (by omega) (by omega) (hp.up hL (by omega) (by omega) q.2 q.1)
              · rw [if_neg q, if_neg q]
            rw [lp, lp, e, ihm (x + 1) (by omega) (by omega)]
        exact lpe _ _ (by omega) (by omega)
  have lpe : ∀ (m : Nat) (x : Int), 0 ≤ x → x + (m : Int) ≤ n → lp (fun x => rg o n 5 1 (fun _ => x)) m x = lp (fun x => rg o' n 5 1 (fun _ => x)) m x := by
    intro m
    induction m with
    | zero => intro x _ _; rfl
    | succ m ihm =>
      intro x x0 x1
      rw [lp, lp, key 5 1 _ (by decide) (by decide) (PI.one x0 (by omega)), ihm (x + 1) (by omega) (by omega)]
  by_cases q : 0 ≤ n
  · exact lpe n.toNat 0 (by decide) (by omega)
  · unfold fr
    rw [show n.toNat = 0 by omega]
    rfl
theorem Iv.ring {M M' : PM} (I : Iv M) (hA : Ag [52, 70] M M') (f : F27 M M') : Iv M' :=
  I.scrm (hA.mono (by decide)) (f 2 (by decide)) (f 6 (by decide)) (f 32 (by decide)) (I.2.2.2.2.2.2.2.of (f 4 (by decide)) (hA 55 (by decide)) (f 9 (by decide)) (f 13 (by decide)) (hA 58 (by decide)) (hA 59 (by decide)) (hA 60 (by decide)) (hA 61 (by decide)))
theorem b_ring {K : Nat} {c k : Int} {M : PM} {C : Int → Int → PM → Prop} (I : Iv M) (h1 : R32 c) (h2 : R32 k) (hq : Ok32 C) : Bi (K + 22) jClearingWaves_ring [.inr (.inr 0), .inl c, .inl k] jModel_ring [.inr (.inr 52), .inl c, .inl k] M C := by
  have B := I.1.xb
  have B1 := B.1
  unfold Bi
  by_cases pc : kl c
  · by_cases pk : 0 ≤ k ∧ k ≤ 4
    · refine c_x_ring (K + 21) c k M _ (x_hasClass_y h1 pc ⟨by decide, fun q => absurd q (by decide), fun _ => ⟨h2, fun z => absurd z (by omega), fun _ => ⟨fun _ => x_find (K := K + 13) B pc (fun M1 r hA rf => ?_), fun z => absurd z (by omega)⟩⟩⟩)
      have I1 : Iv M1 := I.scrx (hA.mono (by decide))
      have back : ∀ (Q : Option PV → PM → Prop), (∀ M2 r', Ag [52, 70] M1 M2 → Iv M2 → Rn (fr (fun h t => xo M h t c) (M 1 0)) r' (M2 70) (M2 52 27) → R32 r' ∧ (r' = 0 → Q (some (.inl (-5))) M2) ∧ (¬ r' = 0 → R32 (M2 52 27) ∧ ((M2 52 27) ≤ k → Q (some (.inl (-5))) M2) ∧ (¬ (M2 52 27) ≤ k → (0 ≤ k ∧ k < 5) ∧ Q (some (.inl (M2 70 k))) M2))) → Call (K + 22) jModel_ring [.inr (.inr 52), .inl c, .inl k] P0 P0 M1 Q := fun Q go =>
        c_m_ring (K + 21) c k M1 Q (m_isClass_y h1 pc ⟨by decide, fun q => absurd q (by decide), fun _ => ⟨h2, m_within_y h2.R64 (by decide) (by decide) pk ⟨by decide, fun _ => m_findsRing (K := K + 12) I1.1.mb pc (fun M2 r' hA2 f27 rn => go M2 r' hA2 (I1.ring hA2 f27) (by
          have e : fr (fun h t => mo M1 h t c) (M1 55 0) = fr (fun h t => xo M h t c) (M 1 0) := by
            rw [I1.1.n, hA 1 (by decide)]
            exact fr_eq B1.2 fun x y hx hy => by rw [I1.1.o hx hy pc, xo_of (hA 3 (by decide))]
          rw [e] at rn
          exact rn)), fun q => absurd q (by decide)⟩⟩⟩)
      rcases rf with ⟨fn, r0⟩ | ⟨L', p', fs, r0, rP⟩
      · rw [r0]
        refine ⟨by decide, fun _ => back _ (fun M2 r' hA2 I2 rn => ?_), fun z => absurd pk.1 z⟩
        rcases rn with ⟨_, r1⟩ | ⟨L', p', fs, _⟩
        · rw [r1]; exact ⟨by decide, fun _ => hq _ _ (by decide) I2, fun z => absurd rfl z⟩
        · rw [fn] at fs; exact absurd fs (by simp)
      · have pr := fr_p fs
        have hb := pr.1.inh B1.2
        rw [r0]
        have back2 : ∀ (v : Int), ((L' ≤ k → v = -5) ∧ (¬ L' ≤ k → v = p' k)) → Call (K + 22) jModel_ring [.inr (.inr 52), .inl c, .inl k] P0 P0 M1 (retI fun r2 M2 => C v r2 M2) := fun v hv => back _ (fun M2 r' hA2 I2 rn => by
          rcases rn with ⟨fn, _⟩ | ⟨L2, p2, fs2, r1, rP2, rl⟩
          · rw [fn] at fs; exact absurd fs (by simp)
          · rw [fs] at fs2
            have h' : (L', p') = (L2, p2) := by injection fs2
            have e1 : L' = L2 := congrArg Prod.fst h'
            have e2 : p' = p2 := congrArg Prod.snd h'
            rw [r1, rl, ← e1]
            refine ⟨by decide, fun z => absurd z (by decide), fun _ => ⟨⟨by omega, by omega⟩, fun z => ?_, fun z => ⟨⟨pk.1, by omega⟩, ?_⟩⟩⟩
            · show C v (-5) M2
              rw [hv.1 z]; exact hq _ _ (by decide) I2
            · show C v (M2 70 k) M2
              rw [hv.2 z, rP2 k pk.1 (by omega), ← e2]
              have := hb k pk.1 (by omega)
              exact hq _ _ ⟨by omega, by omega⟩ I2)
        refine ⟨⟨by omega, by omega⟩, fun z => back2 _ ⟨fun _ => rfl, fun z2 => absurd z z2⟩, fun z => ⟨⟨pk.1, by omega⟩, ?_⟩⟩
        rw [rP k pk.1 (by omega)]
        exact back2 _ ⟨fun z2 => absurd z2 z, fun _ => rfl⟩
    · have fin := c_m_ring (K + 21) c k M (retI fun r2 M2 => C (-1) r2 M2) (m_isClass_y h1 pc ⟨by decide, fun q => absurd q (by decide), fun _ => ⟨h2, m_within_n h2.R64 (by decide) (by decide) pk ⟨by decide, fun q => absurd rfl q, fun _ => hq _ _ (by decide) I⟩⟩⟩)
      exact c_x_ring (K + 21) c k M _ (x_hasClass_y h1 pc ⟨by decide, fun q => absurd q (by decide), fun _ => ⟨h2, fun _ => fin, fun z => ⟨fun z2 => absurd ⟨by omega, by omega⟩ pk, fun _ => fin⟩⟩⟩)
  · refine c_x_ring (K + 21) c k M _ (x_hasClass_n h1 pc ⟨by decide, fun _ => ?_, fun q => absurd rfl q⟩)
    exact c_m_ring (K + 21) c k M _ (m_isClass_n h1 pc ⟨by decide, fun _ => hq _ _ (by decide) I, fun q => absurd rfl q⟩)
