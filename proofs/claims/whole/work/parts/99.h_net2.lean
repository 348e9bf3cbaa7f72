/-! NET, both programs -/
def DX (M M' : PM) (c : Int) (o : Int → Int → Int) : Prop := ∀ h t e, hs h → hs t → kl e → xo M' h t e = if e = c then o h t else xo M h t e
def DM (M M' : PM) (c : Int) (o : Int → Int → Int) : Prop := ∀ h t e, hs h → hs t → kl e → mo M' h t e = if e = c then o h t else mo M h t e
theorem XB.dx {M M' : PM} {c : Int} {o : Int → Int → Int} (B : XB M) (hc : kl c) (N : NI (M 1 0) o) (d : DX M M' c o) (h1 : M' 1 = M 1) (h2 : M' 2 = M 2) : XB M' := by
  have z : hs 0 := by decide
  refine ⟨by rw [h1]; exact B.1, by rw [h1]; exact B.2.1, by rw [h1]; exact B.2.2.1, by rw [h2]; exact B.2.2.2.1, fun f t e hf ht he => ?_, fun f e hf he => ?_, by rw [h1, h2]; exact B.2.2.2.2.2.2.1, fun f t e hf ht he hl => ?_⟩
  · rw [d f t e hf ht he]
    split
    · exact (N f t hf ht).1
    · exact B.2.2.2.2.1 f t e hf ht he
  · rw [d f f e hf hf he]
    split
    · exact (N f f hf hf).2.1
    · exact B.2.2.2.2.2.1 f e hf he
  · rw [h1] at hl
    rw [d f t e hf ht he]
    split
    · exact (N f t hf ht).2.2 hl
    · exact B.2.2.2.2.2.2.2 f t e hf ht he hl
theorem MB.dm {M M' : PM} {c : Int} {o : Int → Int → Int} (B : MB M) (hc : kl c) (N : NI (M 55 0) o) (d : DM M M' c o) (h : ∀ i, 0 ≤ i → i < 8 → M' 55 i = M 55 i) : MB M' := by
  have e0 := h 0 (by decide) (by decide)
  refine ⟨by rw [e0]; exact B.1, by rw [h 1 (by decide) (by decide)]; exact B.2.1, by rw [h 2 (by decide) (by decide)]; exact B.2.2.1, fun k hk => by rw [h (3 + k) (by omega) (by omega)]; exact B.2.2.2.1 k hk, fun f t e hf ht he => ?_, fun f e hf he => ?_, fun k hk hl => by rw [h (3 + k) (by omega) (by omega)]; rw [e0] at hl; exact B.2.2.2.2.2.2.1 k hk hl, fun f t e hf ht he hl => ?_⟩
  · rw [d f t e hf ht he]
    split
    · exact (N f t hf ht).1
    · exact B.2.2.2.2.1 f t e hf ht he
  · rw [d f f e hf hf he]
    split
    · exact (N f f hf hf).2.1
    · exact B.2.2.2.2.2.1 f e hf he
  · rw [e0] at hl
    rw [d f t e hf ht he]
    split
    · exact (N f t hf ht).2.2 hl
    · exact B.2.2.2.2.2.2.2 f t e hf ht he hl
theorem DX.put {M M1 : PM} {c h0 t0 v : Int} {o o' : Int → Int → Int} (d : DX M M1 c o) (hc : kl c) (h0h : hs h0) (t0h : hs t0) (e : o' = fun h t => if h = h0 ∧ t = t0 then v else o h t) : DX M (mset M1 3 ((((h0 * 5) + t0) * 3) + c) v) c o' := fun h t k hh ht hk => by
  show (mset M1 3 ((((h0 * 5) + t0) * 3) + c) v) 3 ((((h * 5) + t) * 3) + k) = _
  rw [mset_at, e]
  by_cases q : (((h * 5) + t) * 3) + k = (((h0 * 5) + t0) * 3) + c
  · have w := (ix_inj hh ht hk h0h t0h hc).mp q
    rw [if_pos q, if_pos w.2.2]
    exact (if_pos ⟨w.1, w.2.1⟩).symm
  · rw [if_neg q]
    have := d h t k hh ht hk
    show xo M1 h t k = _
    rw [this]
    by_cases z : k = c
    · rw [if_pos z, if_pos z]
      exact (if_neg (fun w => q (by rw [w.1, w.2, z]))).symm
    · rw [if_neg z, if_neg z]
theorem x_after {K : Nat} {L k : Int} {p : Int → Int} {M : PM} {Q : Option PV → PM → Prop} (hL : 2 ≤ L ∧ L ≤ 5) (hp : Pth (M 41) p L) (k0 : 0 ≤ k) (k1 : k < L) (hq : Q (some (.inl (aft p L k))) M) : Call (K + 1) jRings_after [.inr (.inr 40), .inl k, .inl L] P0 P0 M Q := by
  unfold aft at hq
  refine c_ri_after K k L M Q ⟨⟨by omega, by omega⟩, ⟨by omega, by omega⟩, fun z => ?_, fun z => ⟨⟨by omega, by omega⟩, ?_⟩⟩
  · rw [if_neg (by omega)] at hq
    rw [hp 0 (by decide) (by omega)]; exact hq
  · rw [if_pos (by omega)] at hq
    rw [hp (k + 1) (by omega) (by omega)]; exact hq
theorem x_takeOff {K : Nat} {c : Int} {o : Int → Int → Int} {M : PM} {Q : Option PV → PM → Prop} (B : XB M) (hc : kl c) (ho : ∀ h t, hs h → hs t → xo M h t c = o h t) (N : NI (M 1 0) o)
    (hq : ∀ M' v, Ag [3, 41] M M' → ((fr o (M 1 0) = none ∧ v = 0 ∧ M' 3 = M 3) ∨ ∃ L p, fr o (M 1 0) = some (L, p) ∧ v = mnr o p L L.toNat * L ∧ DX M M' c (nxt o p L)) → Q (some (.inl v)) M') : Call (K + 9) jRings_takeOff [.inr (.inr 40), .inl c] P0 P0 M Q := by
  have hn := B.1
  refine c_ri_takeOff (K + 8) c M Q (x_find B hc (fun M1 r hA rf => ?_))
  rw [fr_eq hn.2 (fun x y hx hy => ho x y hx hy)] at rf
  rcases rf with ⟨fn, r0⟩ | ⟨L, p, fs, r0, rP⟩
  · rw [r0]
    refine g_ri_takeOff_12 _ _ _ _ _ _ _ ⟨by decide, by decide, fun _ => g_ri_takeOff_54 _ _ _ _ _ _ _ ⟨by decide, by decide, fun _ => ?_, fun z => absurd (by decide) z⟩, fun z => absurd (by decide) z⟩
    exact hq M1 (20 * 0) (hA.mono (by decide)) (Or.inl ⟨fn, by decide, hA 3 (by decide)⟩)
  · rw [r0]
    have r : RG (M 1 0) o L p := fr_p fs
    have r2 := r.2.1
    have mb := mnr_b r L.toNat (by omega)
    have am : ∀ {K : Nat} {k : Int} {M2 : PM} {o' : Int → Int → Int} {Q : Option PV → PM → Prop}, DX M M2 c o' → 0 ≤ k → k < L → Q (some (.inl (o' (p k) (aft p L k)))) M2 → Call (K + 1) jBook_amount [.inr (.inr 1), .inl (p k), .inl (aft p L k), .inl c] P0 P0 M2 Q := fun {K k M2 o' Q} d k0 k1 h => by
      have a := r.af hn.2 k0 k1
      refine x_amount phk_1_P0 a.1 a.2.1 hc ?_
      rw [d _ _ c a.1 a.2.1 hc, if_pos rfl]
      exact h
    have d1 : DX M M1 c o := fun h t e hh ht he => by
      rw [xo_of (hA 3 (by decide))]
      split
      · rename_i z; rw [z]; exact ho h t hh ht
      · rfl
    have puts : ∀ (x k : Nat) (M2 : PM), (k : Int) + (x : Int) = L → Ag [3, 41] M M2 → Pth (M2 41) p L → DX M M2 c (tk o p L (mnr o p L L.toNat) k) → G none (K + 8 + 1) jRings_takeOff 54 [(0, .inr (.inr 40)), (1, .inl c), (2, .inl L), (3, .inl (mnr o p L L.toNat)), (4, .inl (k : Int))] [] P0 P0 M2 Q := by
      intro x
      induction x with
      | zero =>
        intro k M2 hx hA2 hP d
        refine g_ri_takeOff_54 _ _ _ _ _ _ _ ⟨⟨by omega, by omega⟩, ⟨by omega, by omega⟩, fun _ => hq M2 _ hA2 (Or.inr ⟨L, p, fs, rfl, ?_⟩), fun z => absurd (by omega) z⟩
        unfold nxt
        rw [show L.toNat = k by omega] at d ⊢
        exact d
      | succ x ih =>
        intro k M2 hx hA2 hP d
        have a := r.af hn.2 (k := (k : Int)) (by omega) (by omega)
        refine g_ri_takeOff_54 _ _ _ _ _ _ _ ⟨⟨by omega, by omega⟩, ⟨by omega, by omega⟩, fun z => absurd z (by omega), fun _ => x_after r2 hP (by omega) (by omega) ⟨⟨by omega, by omega⟩, ?_⟩⟩
        rw [hP (k : Int) (by omega) (by omega)]
        refine am d (by omega) (by omega) ?_
        show Call (K + 8) jBook_put [.inr (.inr 1), .inl (p (k : Int)), .inl (aft p L (k : Int)), .inl c, .inl (tk o p L (mnr o p L L.toNat) k (p (k : Int)) (aft p L (k : Int)) - mnr o p L L.toNat)] P0 P0 M2 _
        rw [tk_old r k (by omega) (k : Int) (by omega) (by omega)]
        refine c_bk_put _ _ _ _ _ _ _ ⟨⟨by omega, by omega⟩, ?_⟩
        have nx := ih (k + 1) _ (by omega) (hA2.set (by decide)) (by rw [mset_ne (by decide)]; exact hP) (d.put hc a.1 a.2.1 (o' := tk o p L (mnr o p L L.toNat) (k + 1)) (v := o (p (k : Int)) (aft p L (k : Int)) - mnr o p L L.toNat) rfl)
        rw [show ((k + 1 : Nat) : Int) = (k : Int) + 1 by omega] at nx
        exact nx
    have mins : ∀ (x k : Nat), (k : Int) + (x : Int) = L → G none (K + 8 + 1) jRings_takeOff 12 [(0, .inr (.inr 40)), (1, .inl c), (2, .inl L), (3, .inl (mnr o p L k)), (4, .inl (k : Int))] [] P0 P0 M1 Q := by
      intro x
      induction x with
      | zero =>
        intro k hx
        refine g_ri_takeOff_12 _ _ _ _ _ _ _ ⟨⟨by omega, by omega⟩, ⟨by omega, by omega⟩, fun _ => ?_, fun z => absurd (by omega) z⟩
        have := puts L.toNat 0 M1 (by omega) (hA.mono (by decide)) rP d1
        rw [show k = L.toNat by omega]
        exact this
      | succ x ih =>
        intro k hx
        have a := r.af hn.2 (k := (k : Int)) (by omega) (by omega)
        have ob := (N _ _ a.1 a.2.1).1
        have kb := (mnr_b r k (by omega)).1
        refine g_ri_takeOff_12 _ _ _ _ _ _ _ ⟨⟨by omega, by omega⟩, ⟨by omega, by omega⟩, fun z => absurd z (by omega), fun _ => ⟨⟨by omega, by omega⟩, x_after r2 rP (by omega) (by omega) ?_⟩⟩
        show Call (K + 8) jBook_amount [.inr (.inr 1), .inl (M1 41 (k : Int)), .inl (aft p L (k : Int)), .inl c] P0 P0 M1 _
        rw [rP (k : Int) (by omega) (by omega)]
        refine am d1 (by omega) (by omega) ⟨⟨by omega, by omega⟩, ⟨by omega, by omega⟩, ?_⟩
        have nx := ih (k + 1) (by omega)
        rw [show ((k + 1 : Nat) : Int) = (k : Int) + 1 by omega] at nx
        exact nx
    exact mins L.toNat 0 (by omega)
theorem nw_b {n : Int} (hn : n ≤ 5) : ∀ (f : Nat) (o : Int → Int → Int) (s : Int), NI n o → s ≤ (nw n f o s).1 ∧ (nw n f o s).1 ≤ s + 100 * (f : Int) ∧ NI n (nw n f o s).2 := by
  intro f
  induction f with
  | zero => intro o s N; exact ⟨Int.le_refl s, by show s ≤ s + 100 * ((0 : Nat) : Int); omega, N⟩
  | succ f ih =>
    intro o s N
    cases q : fr o n with
    | none => rw [nw_no q]; exact ⟨Int.le_refl s, by show s ≤ s + 100 * ((f + 1 : Nat) : Int); omega, N⟩
    | some Lp =>
      obtain ⟨L, p⟩ := Lp
      have r : RG n o L p := fr_p q
      have r2 := r.2.1
      have mb := (mnr_b r L.toNat (by omega)).1
      have m := Int.mul_le_mul mb.2 r2.2 (by omega) (by decide)
      have m0 := Int.mul_nonneg (show 0 ≤ mnr o p L L.toNat by omega) (show 0 ≤ L by omega)
      rw [nw_so q]
      have i := ih (nxt o p L) (s + mnr o p L L.toNat * L) (r.ni hn N L.toNat (by omega))
      exact ⟨by omega, by omega, i.2.2⟩
theorem x_net {K : Nat} {c : Int} {o : Int → Int → Int} {M : PM} {Q : Option PV → PM → Prop} (B : XB M) (hc : kl c) (ho : ∀ h t, hs h → hs t → xo M h t c = o h t) (N : NI (M 1 0) o)
    (hq : ∀ M', Ag [0, 3, 41] M M' → (∀ i, i ≠ 7 → i ≠ 9 → M' 0 i = M 0 i) → M' 0 7 = 1 → M' 0 9 = 1 → DX M M' c (nw (M 1 0) 25 o 0).2 → Q (some (.inl (nw (M 1 0) 25 o 0).1)) M') : G none (K + 9 + 1) jClearingWaves_net 17 [(0, .inr (.inr 0)), (1, .inl c), (2, .inl 0), (3, .inl 0)] [] P0 P0 M Q := by
  have hn := B.1
  obtain ⟨R, hR⟩ : ∃ R, R = nw (M 1 0) 25 o 0 := ⟨_, rfl⟩
  rw [← hR] at hq
  have fin : ∀ (M1 : PM), Ag [3, 41] M M1 → DX M M1 c R.2 → Call (K + 9) jClearingWaves_noteChange [.inr (.inr 0)] P0 P0 M1 (retV fun M3 => Q (some (.inl R.1)) M3) := fun M1 hA d => by
    refine c_x_noteChange _ _ _ (hq _ (((hA.mono (by decide)).set (by decide)).set (by decide)) (fun i i7 i9 => ?_) (by simp [mset]) (by simp [mset]) ?_)
    · rw [mset_at, if_neg i9, mset_at, if_neg i7, hA 0 (by decide)]
    · intro h t e hh ht he
      rw [show ∀ (N : PM), xo (mset (mset N 0 7 1) 0 9 1) h t e = xo N h t e from fun N => by unfold xo; rw [mset_ne (by decide), mset_ne (by decide)]]
      exact d h t e hh ht he
  have loop : ∀ (f : Nat) (i s : Int) (o1 : Int → Int → Int) (M1 : PM), i + (f : Int) = 25 → 0 ≤ i → Ag [3, 41] M M1 → DX M M1 c o1 → NI (M 1 0) o1 → nw (M 1 0) f o1 s = R → G none (K + 9 + 1) jClearingWaves_net 17 [(0, .inr (.inr 0)), (1, .inl c), (2, .inl s), (3, .inl i)] [] P0 P0 M1 Q := by
    intro f
    induction f with
    | zero =>
      intro i s o1 M1 hi i0 hA d N1 el
      have e1 : s = R.1 := by rw [← el]; rfl
      have e2 : o1 = R.2 := by rw [← el]; rfl
      rw [e1]
      rw [e2] at d
      exact g_x_net_17 _ _ _ _ _ _ ⟨⟨by omega, by omega⟩, fun _ => fin M1 hA d, fun z => absurd (by omega) z⟩
    | succ f ih =>
      intro i s o1 M1 hi i0 hA d N1 el
      have m1 : M1 1 = M 1 := hA 1 (by decide)
      refine g_x_net_17 _ _ _ _ _ _ ⟨⟨by omega, by omega⟩, fun z => absurd z (by omega), fun _ => x_takeOff (o := o1) (B.dx hc N1 d m1 (hA 2 (by decide))) hc (fun h t hh ht => by rw [d h t c hh ht hc, if_pos rfl]) (by rw [m1]; exact N1) (fun M2 v hA2 res => ?_)⟩
      rw [m1] at res
      rcases res with ⟨fn, v0, e3⟩ | ⟨L, p, fs, ve, d2⟩
      · rw [nw_no fn] at el
        have e1 : s = R.1 := by rw [← el]
        have e2 : o1 = R.2 := by rw [← el]
        rw [v0, e1]
        rw [e2] at d
        exact ⟨by decide, fun z => absurd rfl z, fun _ => fin M2 (hA.tr hA2) (fun h t e hh ht he => by rw [xo_of e3]; exact d h t e hh ht he)⟩
      · rw [nw_so fs] at el
        have r : RG (M 1 0) o1 L p := fr_p fs
        have r2 := r.2.1
        have mb := (mnr_b r L.toNat (by omega)).1
        have mu := Int.mul_le_mul mb.2 r2.2 (by omega) (by decide)
        have ml := Int.mul_le_mul mb.1 r2.1 (by decide) (by omega)
        have dd : DX M M2 c (nxt o1 p L) := fun h t e hh ht he => by
          rw [d2 h t e hh ht he]
          split
          · rfl
          · rename_i z; rw [d h t e hh ht he, if_neg z]
        rw [ve]
        exact ⟨⟨by omega, by omega⟩, fun _ => ih (i + 1) _ _ M2 (by omega) (by omega) (hA.tr hA2) dd (r.ni hn.2 N1 L.toNat (by omega)) el, fun z => by omega⟩
  refine loop 25 0 0 o M (by decide) (by decide) (Ag.rf _ _) (fun h t e hh ht he => ?_) N hR.symm
  split
  · rename_i z; rw [z]; exact ho h t hh ht
  · rfl
