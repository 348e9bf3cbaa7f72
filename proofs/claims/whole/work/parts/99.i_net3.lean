/-! NET, the model's; and both -/
def MN (M M1 : PM) (c : Int) (o : Int → Int → Int) : Prop := Ag [52, 53, 55, 70] M M1 ∧ (∀ i, i ≠ 4 → i ≠ 27 → M1 52 i = M 52 i) ∧ DM M M1 c o ∧ (∀ i, 0 ≤ i → i < 83 → M1 55 i = M1 53 i) ∧ (∀ i, ¬ (8 ≤ i ∧ i < 83) → M1 53 i = M 53 i ∧ M1 55 i = M 55 i) ∧ (M1 52 4 = 0 ∨ (M1 55 = M 55 ∧ M1 53 = M 53 ∧ M1 52 4 = M 52 4))
theorem tm_aft {L k : Int} (h0 : 0 ≤ k) (h1 : k < L) : Int.tmod (k + 1) L = if k + 1 < L then k + 1 else 0 := by
  rw [Int.tmod_eq_emod_of_nonneg (by omega)]
  split
  · exact Int.emod_eq_of_lt (by omega) (by omega)
  · rw [show k + 1 = L by omega]; exact Int.emod_self
theorem MN.put {M M1 : PM} {c h0 t0 v : Int} {o o' : Int → Int → Int} (d : MN M M1 c o) (hc : kl c) (h0h : hs h0) (t0h : hs t0) (e : o' = fun h t => if h = h0 ∧ t = t0 then v else o h t) : MN M (mset (mset (mset M1 55 ((8 + (((5 * h0) + t0) * 3)) + c) v) 53 ((8 + (((5 * h0) + t0) * 3)) + c) v) 52 4 0) c o' := by
  obtain ⟨a1, a2, a3, a4, a5, a6⟩ := d
  refine ⟨((a1.set (by decide)).set (by decide)).set (by decide), fun i i4 i27 => ?_, fun h t k hh ht hk => ?_, fun i i0 i1 => ?_, fun i hi => ?_, Or.inl mset_eq⟩
  · rw [mset_at, if_neg i4, mset_ne (by decide), mset_ne (by decide), a2 i i4 i27]
  · show (mset (mset (mset M1 55 ((8 + (((5 * h0) + t0) * 3)) + c) v) 53 ((8 + (((5 * h0) + t0) * 3)) + c) v) 52 4 0) 55 ((8 + (((5 * h) + t) * 3)) + k) = _
    rw [mset_ne (by decide), mset_ne (by decide), mset_at, e]
    by_cases q : (8 + (((5 * h) + t) * 3)) + k = (8 + (((5 * h0) + t0) * 3)) + c
    · have w : h = h0 ∧ t = t0 ∧ k = c := by omega
      rw [if_pos q, if_pos w.2.2]
      exact (if_pos ⟨w.1, w.2.1⟩).symm
    · rw [if_neg q]
      have := a3 h t k hh ht hk
      show mo M1 h t k = _
      rw [this]
      by_cases z : k = c
      · rw [if_pos z, if_pos z]
        exact (if_neg (fun w => q (by rw [w.1, w.2, z]))).symm
      · rw [if_neg z, if_neg z]
  · rw [mset_ne (by decide), mset_ne (by decide), mset_at, mset_ne (by decide), mset_at, mset_ne (by decide), a4 i i0 i1]
  · have b := a5 i hi
    have ne : i ≠ (8 + (((5 * h0) + t0) * 3)) + c := by omega
    rw [mset_ne (by decide), mset_at, if_neg ne, mset_ne (by decide), mset_ne (by decide), mset_ne (by decide), mset_at, if_neg ne]
    exact b
theorem MN.find {M M1 M2 : PM} {c : Int} {o : Int → Int → Int} (d : MN M M1 c o) (hA : Ag [52, 70] M1 M2) (f : F27 M1 M2) : MN M M2 c o := by
  obtain ⟨a1, a2, a3, a4, a5, a6⟩ := d
  have k55 : M2 55 = M1 55 := hA 55 (by decide)
  have k53 : M2 53 = M1 53 := hA 53 (by decide)
  exact ⟨a1.tr (hA.mono (by decide)), fun i i4 i27 => by rw [f i i27, a2 i i4 i27], fun h t k hh ht hk => by rw [mo_of k55]; exact a3 h t k hh ht hk, fun i i0 i1 => by rw [k55, k53]; exact a4 i i0 i1, fun i hi => by rw [k55, k53]; exact a5 i hi, by rw [k55, k53, f 4 (by decide)]; exact a6⟩
theorem m_net {K : Nat} {c : Int} {o : Int → Int → Int} {M : PM} {Q : Option PV → PM → Prop} (B : MB M) (h53 : ∀ i, 0 ≤ i → i < 83 → M 55 i = M 53 i) (hc : kl c) (ho : ∀ h t, hs h → hs t → mo M h t c = o h t) (N : NI (M 55 0) o)
    (hq : ∀ M', MN M M' c (nw (M 55 0) 25 o 0).2 → Q (some (.inl (nw (M 55 0) 25 o 0).1)) M') : G none (K + 9 + 1) jModel_net 11 [(0, .inr (.inr 52)), (1, .inl c), (2, .inl 0)] [] P0 P0 M Q := by
  have hn := B.1
  obtain ⟨R, hR⟩ : ∃ R, R = nw (M 55 0) 25 o 0 := ⟨_, rfl⟩
  rw [← hR] at hq
  have loop : ∀ (f : Nat) (s : Int) (o1 : Int → Int → Int) (M1 : PM), cnt2 o1 ≤ (f : Int) → MN M M1 c o1 → NI (M 55 0) o1 → nw (M 55 0) f o1 s = R → G none (K + 9 + 1) jModel_net 11 [(0, .inr (.inr 52)), (1, .inl c), (2, .inl s)] [] P0 P0 M1 Q := by
    intro f
    induction f with
    | zero =>
      intro s o1 M1 hf d N1 el
      have e0 : M1 55 0 = M 55 0 := (d.2.2.2.2.1 0 (by decide)).2
      refine g_m_net_11 _ _ _ _ _ (m_findsRing (B.dm hc N1 d.2.2.1 (fun i i0 i1 => (d.2.2.2.2.1 i (by omega)).2)) hc (fun M2 r hA h27 rn => ?_))
      rw [e0, fr_eq hn.2 (o' := o1) (fun x y hx hy => by rw [d.2.2.1 x y c hx hy hc, if_pos rfl])] at rn
      rcases rn with ⟨fn, r0⟩ | ⟨L, p, fs, _⟩
      · rw [nw_no fn] at el
        have e1 : s = R.1 := by rw [← el]
        have e2 : o1 = R.2 := by rw [← el]
        rw [r0, e1]
        exact ⟨by decide, fun _ => hq M2 (by rw [← e2]; exact d.find hA h27), fun z => absurd rfl z⟩
      · have r : RG (M 55 0) o1 L p := fr_p fs
        have := cnt2_dec r hn.2 N1
        have := (cnt2_b (nxt o1 p L)).1
        omega
    | succ f ih =>
      intro s o1 M1 hf d N1 el
      have e0 : M1 55 0 = M 55 0 := (d.2.2.2.2.1 0 (by decide)).2
      refine g_m_net_11 _ _ _ _ _ (m_findsRing (B.dm hc N1 d.2.2.1 (fun i i0 i1 => (d.2.2.2.2.1 i (by omega)).2)) hc (fun M2 rr hA h27 rn => ?_))
      rw [e0, fr_eq hn.2 (o' := o1) (fun x y hx hy => by rw [d.2.2.1 x y c hx hy hc, if_pos rfl])] at rn
      rcases rn with ⟨fn, r0⟩ | ⟨L, p, fs, r1, rP, rl⟩
      · rw [nw_no fn] at el
        have e1 : s = R.1 := by rw [← el]
        have e2 : o1 = R.2 := by rw [← el]
        rw [r0, e1]
        exact ⟨by decide, fun _ => hq M2 (by rw [← e2]; exact d.find hA h27), fun z => absurd rfl z⟩
      · have r : RG (M 55 0) o1 L p := fr_p fs
        have r2 := r.2.1
        have mb := mnr_b r L.toNat (by omega)
        have dec := cnt2_dec r hn.2 N1
        have d2 := d.find hA h27
        rw [nw_so fs] at el
        rw [r1]
        have wy : ∀ k : Int, 0 ≤ k → k < L → ∀ M3 : PM, M3 70 = M2 70 → (0 ≤ Int.tmod (k + 1) L ∧ Int.tmod (k + 1) L < 5) ∧ M3 70 k = p k ∧ M3 70 (Int.tmod (k + 1) L) = aft p L k := fun k k0 k1 M3 e => by
          rw [tm_aft k0 k1, e]
          refine ⟨by split <;> omega, rP k k0 k1, ?_⟩
          unfold aft
          by_cases z : k + 1 < L
          · rw [if_pos z, if_pos z]; exact rP (k + 1) (by omega) z
          · rw [if_neg z, if_neg z]; exact rP 0 (by decide) (by omega)
        obtain ⟨m, hm⟩ : ∃ m, m = mnr o1 p L L.toNat := ⟨_, rfl⟩
        have puts : ∀ (x k : Nat) (M3 : PM), (k : Int) + (x : Int) = L → MN M M3 c (tk o1 p L m k) → M3 70 = M2 70 → M3 52 27 = L → G none (K + 9 + 1) jModel_net 74 [(0, .inr (.inr 52)), (1, .inl c), (2, .inl (s + m * (k : Int))), (3, .inl m), (4, .inl (k : Int))] [] P0 P0 M3 Q := by
          intro x
          induction x with
          | zero =>
            intro k M3 hx d3_ e70 e27
            have ek : L.toNat = k := by omega
            have nx := ih (s + mnr o1 p L L.toNat * L) (nxt o1 p L) M3 (by omega) (by unfold nxt; rw [← hm, ek]; exact d3_) (r.ni hn.2 N1 L.toNat (by omega)) el
            rw [← hm] at nx
            refine g_m_net_74 _ _ _ _ _ _ _ ⟨⟨by omega, by omega⟩, by rw [e27]; exact ⟨by omega, by omega⟩, fun _ => ?_, fun z => absurd (by rw [e27]; omega) z⟩
            rw [show (k : Int) = L by omega]
            exact nx
          | succ x ihx =>
            intro k M3 hx d3_ e70 e27
            have a := r.af hn.2 (k := (k : Int)) (by omega) (by omega)
            have w := wy (k : Int) (by omega) (by omega) M3 e70
            have ob := (N1 _ _ a.1 a.2.1).1
            have le := mb.2.1 (k : Int) (by omega) (by omega)
            have mb1 := mb.1
            refine g_m_net_74 _ _ _ _ _ _ _ ⟨⟨by omega, by omega⟩, by rw [e27]; exact ⟨by omega, by omega⟩, fun z => absurd z (by rw [e27]; omega), fun _ => ⟨⟨by omega, by omega⟩, ⟨by omega, by omega⟩, by rw [e27]; omega, by rw [e27]; exact w.1, ?_⟩⟩
            rw [e27, w.2.1, w.2.2]
            refine m_owedAt ⟨⟨by omega, by omega⟩, ?_⟩
            have em : M3 55 ((8 + (((5 * p (k : Int)) + aft p L (k : Int)) * 3)) + c) = o1 (p (k : Int)) (aft p L (k : Int)) := by
              have := d3_.2.2.1 _ _ c a.1 a.2.1 hc
              rw [if_pos rfl, tk_old r k (by omega) (k : Int) (by omega) (by omega)] at this
              exact this
            rw [em]
            refine c_m_tells _ _ _ _ _ ⟨⟨by omega, by omega⟩, ⟨by omega, by omega⟩, ⟨by omega, by omega⟩, ?_⟩
            have nx := ihx (k + 1) _ (by omega) (d3_.put hc a.1 a.2.1 (o' := tk o1 p L m (k + 1)) (v := o1 (p (k : Int)) (aft p L (k : Int)) - m) rfl) (by rw [mset_ne (by decide), mset_ne (by decide), mset_ne (by decide)]; exact e70) (by rw [mset_at, if_neg (by decide), mset_ne (by decide), mset_ne (by decide)]; exact e27)
            rw [show ((k + 1 : Nat) : Int) = (k : Int) + 1 by omega, show s + m * ((k : Int) + 1) = s + m * (k : Int) + m by rw [Int.mul_add]; omega] at nx
            exact nx
        have mins : ∀ (x k : Nat), (k : Int) + (x : Int) = L → G none (K + 9 + 1) jModel_net 25 [(0, .inr (.inr 52)), (1, .inl c), (2, .inl s), (3, .inl (mnr o1 p L k)), (4, .inl (k : Int))] [] P0 P0 M2 Q := by
          intro x
          induction x with
          | zero =>
            intro k hx
            refine g_m_net_25 _ _ _ _ _ _ _ ⟨⟨by omega, by omega⟩, by rw [rl]; exact ⟨by omega, by omega⟩, fun _ => ?_, fun z => absurd (by rw [rl]; omega) z⟩
            have := puts L.toNat 0 M2 (by omega) d2 rfl rl
            rw [hm, show L.toNat = k by omega] at this
            rw [show s + mnr o1 p L k * ((0 : Nat) : Int) = s by simp] at this
            exact this
          | succ x ihx =>
            intro k hx
            have a := r.af hn.2 (k := (k : Int)) (by omega) (by omega)
            have w := wy (k : Int) (by omega) (by omega) M2 rfl
            have ob := (N1 _ _ a.1 a.2.1).1
            have kb := (mnr_b r k (by omega)).1
            refine g_m_net_25 _ _ _ _ _ _ _ ⟨⟨by omega, by omega⟩, by rw [rl]; exact ⟨by omega, by omega⟩, fun z => absurd z (by rw [rl]; omega), fun _ => ⟨⟨by omega, by omega⟩, ⟨by omega, by omega⟩, by rw [rl]; omega, by rw [rl]; exact w.1, ?_⟩⟩
            rw [rl, w.2.1, w.2.2]
            refine m_owes a.1 a.2.1 hc ?_
            rw [d2.2.2.1 _ _ c a.1 a.2.1 hc, if_pos rfl]
            have nx := ihx (k + 1) (by omega)
            rw [show ((k + 1 : Nat) : Int) = (k : Int) + 1 by omega] at nx
            exact ⟨⟨by omega, by omega⟩, ⟨by omega, by omega⟩, nx⟩
        exact ⟨by decide, fun z => absurd z (by decide), fun _ => mins L.toNat 0 (by omega)⟩
  refine loop 25 0 o M (cnt2_b o).2 ⟨Ag.rf _ _, fun _ _ _ => rfl, fun h t e hh ht he => ?_, h53, fun _ _ => ⟨rfl, rfl⟩, Or.inr ⟨rfl, rfl, rfl⟩⟩ N hR.symm
  split
  · rename_i z; rw [z]; exact ho h t hh ht
  · rfl
theorem XB.ni {M : PM} {c : Int} (B : XB M) (hc : kl c) : NI (M 1 0) (fun h t => xo M h t c) := fun h t hh ht => ⟨B.2.2.2.2.1 h t c hh ht hc, B.2.2.2.2.2.1 h c hh hc, fun z => B.2.2.2.2.2.2.2 h t c hh ht hc z⟩
theorem b_net {K : Nat} {c : Int} {M : PM} {C : Int → Int → PM → Prop} (I : Iv M) (h1 : R32 c) (hq : Ok32 C) : Bi (K + 22) jClearingWaves_net [.inr (.inr 0), .inl c] jModel_net [.inr (.inr 52), .inl c] M C := by
  have B := I.1.xb
  have B1 := B.1
  have en := I.1.n
  unfold Bi
  by_cases pc : kl c
  · refine c_x_net (K + 21) c M _ (x_hasClass_y h1 pc ⟨by decide, fun _ => x_net (K := K + 12) (o := fun h t => xo M h t c) B pc (fun _ _ _ _ => rfl) (B.ni pc) (fun M1 hA h0 h7 h9 dx => ?_), fun q => absurd q (by decide)⟩)
    obtain ⟨R, hR⟩ : ∃ R, R = nw (M 1 0) 25 (fun h t => xo M h t c) 0 := ⟨_, rfl⟩
    rw [← hR] at dx ⊢
    have rb := nw_b B1.2 25 (fun h t => xo M h t c) 0 (B.ni pc)
    rw [← hR] at rb
    have k55 : M1 55 = M 55 := hA 55 (by decide)
    have k53 : M1 53 = M 53 := hA 53 (by decide)
    have e0 : M1 55 0 = M 1 0 := by rw [k55, en]
    refine c_m_net (K + 21) c M1 _ (m_isClass_y h1 pc ⟨by decide, fun _ => m_net (K := K + 12) (o := fun h t => xo M h t c) (I.1.mb.of k55) (fun i i0 i1 => by rw [k55, k53]; exact I.1.2 i i0 i1) pc (fun h t hh ht => by rw [mo_of k55]; exact I.1.o hh ht pc) (by rw [e0]; exact B.ni pc) (fun M2 mn => ?_), fun q => absurd q (by decide)⟩)
    rw [e0, ← hR] at mn ⊢
    show C R.1 R.1 M2
    obtain ⟨a1, a2, a3, a4, a5, a6⟩ := mn
    have hAll : Ag [0, 3, 41, 52, 53, 55, 70] M M2 := (hA.mono (by decide)).tr (a1.mono (by decide))
    have x3 : M2 3 = M1 3 := a1 3 (by decide)
    have x0 : M2 0 = M1 0 := a1 0 (by decide)
    have m1 : M2 1 = M 1 := hAll 1 (by decide)
    have m2 : M2 2 = M 2 := hAll 2 (by decide)
    have m4 : M2 4 = M 4 := hAll 4 (by decide)
    have d2 : DX M M2 c R.2 := fun h t e hh ht he => by rw [xo_of x3]; exact dx h t e hh ht he
    have XB2 : XB M2 := B.dx pc rb.2.2 d2 m1 m2
    have c53 : ∀ i, ¬ (8 ≤ i ∧ i < 83) → M2 53 i = M 53 i := fun i hi => by rw [(a5 i hi).1, k53]
    have bv := I.1.1
    have IB : IvB M2 := by
      refine ⟨⟨XB2, by rw [m1, m4]; exact bv.2.1, by rw [m1, c53 0 (by decide)]; exact bv.2.2.1, by rw [m1, c53 1 (by decide)]; exact bv.2.2.2.1, by rw [m1, c53 2 (by decide)]; exact bv.2.2.2.2.1, fun h hh => by rw [m2, c53 (3 + h) (by omega)]; exact bv.2.2.2.2.2.1 h hh, fun j j0 j1 => ?_, fun j j0 j1 => by rw [m4, c53 (83 + j) (by omega)]; exact bv.2.2.2.2.2.2.2 j j0 j1⟩, a4⟩
      obtain ⟨h, t, e, hh, ht, he, ej⟩ := ix_of j0 j1
      have l : M2 3 j = xo M2 h t e := by unfold xo; congr 1; omega
      have rr : M2 53 (8 + j) = mo M2 h t e := by rw [← a4 (8 + j) (by omega) (by omega)]; unfold mo; congr 1; omega
      rw [l, rr, d2 h t e hh ht he, a3 h t e hh ht he, mo_of k55, I.1.o hh ht he]
    refine hq _ _ ⟨by omega, by omega⟩ ?_
    have f52 : ∀ i, i ≠ 4 → i ≠ 27 → M2 52 i = M 52 i := fun i i4 i27 => by rw [a2 i i4 i27, hA 52 (by decide)]
    refine ⟨IB, I.2.1.of (by rw [x0]; exact h0 2 (by decide) (by decide)) (f52 2 (by decide) (by decide)) (hAll 5 (by decide)) (hAll 6 (by decide)) (hAll 7 (by decide)) (hAll 8 (by decide)) (hAll 54 (by decide)), I.2.2.1.of (by rw [hAll 45 (by decide)]) (hAll 46 (by decide)) (f52 6 (by decide) (by decide)) (hAll 56 (by decide)), I.2.2.2.1.of (hAll 47 (by decide)) (hAll 48 (by decide)) (f52 32 (by decide) (by decide)) (hAll 71 (by decide)),
      I.2.2.2.2.1.of (hAll 50 (by decide)) (hAll 51 (by decide)) (hAll 72 (by decide)) (hAll 73 (by decide)), ⟨Or.inr (by rw [x0]; exact h7), fun z => by rw [x0, h7] at z; exact absurd z (by decide)⟩, ⟨Or.inr (by rw [x0]; exact h9), fun z => by rw [x0, h9] at z; exact absurd z (by decide)⟩, ?_⟩
    rcases a6 with z | ⟨z1, z2, z3⟩
    · exact IvM.no z
    · exact I.2.2.2.2.2.2.2.of (by rw [z3, hA 52 (by decide)]) (by rw [z1, k55]) (f52 9 (by decide) (by decide)) (f52 13 (by decide) (by decide)) (hAll 58 (by decide)) (hAll 59 (by decide)) (hAll 60 (by decide)) (hAll 61 (by decide))
  · refine c_x_net (K + 21) c M _ (x_hasClass_n h1 pc ⟨by decide, fun q => absurd rfl q, fun _ => ?_⟩)
    exact c_m_net (K + 21) c M _ (m_isClass_n h1 pc ⟨by decide, fun q => absurd rfl q, fun _ => hq _ _ (by decide) I⟩)
