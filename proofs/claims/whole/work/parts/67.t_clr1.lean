/-! THE CLASS's clearing (ct): its small methods -/
def ct_g (M : PM) : Ck := (M 1 1, M 1 2, fun h => M 9 h, fun k h c => xo M k h c)
def ct_P (M : PM) : Prop := XB M ∧ ∀ h, hs h → 0 ≤ M 9 h ∧ M 9 h ≤ 400
theorem ct_ok {M : PM} (P : ct_P M) : Okc (ct_g M) := ⟨P.1.2.1, P.1.2.2.1, P.2, fun k h c hk hh hc => P.1.2.2.2.2.1 k h c hk hh hc, fun k c hk hc => P.1.2.2.2.2.2.1 k c hk hc⟩
theorem ct_due (M : PM) (h c : Int) : due (ct_g M) h c = xd M h c := rfl
theorem ct_g_of {M M' : PM} (h1 : M' 1 = M 1) (h2 : M' 9 = M 9) (h3 : M' 3 = M 3) : ct_g M' = ct_g M := by unfold ct_g; rw [xo_of h3, h1, h2]
theorem ct_P.of {M M' : PM} (h1 : M' 1 = M 1) (h2 : M' 2 = M 2) (h2' : M' 9 = M 9) (h3 : M' 3 = M 3) (P : ct_P M) : ct_P M' := ⟨P.1.of h1 h2 h3, by rw [h2']; exact P.2⟩
def ct_X (M : PM) (r h c : Int) : Int := M 26 (((r * 15) + (h * 3)) + c)
theorem ct_income {K : Nat} {r h : Int} {M : PM} {Q : Option PV → PM → Prop} (P : ct_P M) (hh : hs h) (hr : 0 ≤ r ∧ r ≤ 5) (hq : Q (some (.inr (.inl (gt (ct_g M) (ct_X M r) h)))) M) : Call (K + 1) jClearing_income [.inr (.inr 24), .inl r, .inl h] P0 P0 M Q := by
  have B := P.1
  have hn := B.1
  have in_ : ∀ (f v : Int), hs f → G none (K + 1) jClearing_income 5 [(0, .inr (.inr 24)), (1, .inl r), (2, .inl h), (3, .inr (.inl (v + s3 fun c => xo M f h c * ct_X M r f c))), (5, .inl (f + 1))] [] P0 P0 M Q →
      G none (K + 1) jClearing_income 40 [(0, .inr (.inr 24)), (1, .inl r), (2, .inl h), (3, .inr (.inl v)), (5, .inl f), (6, .inl (((f * 5) + h) * 3)), (7, .inl (((r * 5) + f) * 3)), (8, .inl 0)] [] P0 P0 M Q := by
    intro f v hf hg
    have st : ∀ (c v' : Int), kl c → G none (K + 1) jClearing_income 40 [(0, .inr (.inr 24)), (1, .inl r), (2, .inl h), (3, .inr (.inl (v' + xo M f h c * ct_X M r f c))), (5, .inl f), (6, .inl (((f * 5) + h) * 3)), (7, .inl (((r * 5) + f) * 3)), (8, .inl (c + 1))] [] P0 P0 M Q →
        G none (K + 1) jClearing_income 40 [(0, .inr (.inr 24)), (1, .inl r), (2, .inl h), (3, .inr (.inl v')), (5, .inl f), (6, .inl (((f * 5) + h) * 3)), (7, .inl (((r * 5) + f) * 3)), (8, .inl c)] [] P0 P0 M Q := by
      intro c v' hc hg'
      have hb := B.2.2.2.2.1 f h c hf hh hc
      have e : (((r * 5) + f) * 3) + c = ((r * 15) + (f * 3)) + c := by omega
      refine g_ct_income_40 _ _ _ _ _ _ _ _ _ _ ⟨⟨by omega, by omega⟩, fun q => absurd q (by omega), fun _ => ⟨⟨by omega, by omega⟩, (show R32 (xo M f h c) from ⟨by omega, by omega⟩), ⟨by omega, by omega⟩, ?_⟩⟩
      rw [e]
      exact hg'
    refine st 0 v (by decide) (st 1 _ (by decide) (st 2 _ (by decide) ?_))
    refine g_ct_income_40 _ _ _ _ _ _ _ _ _ _ ⟨by decide, fun _ => ?_, fun q => absurd (by decide) q⟩
    have e : v + xo M f h 0 * ct_X M r f 0 + xo M f h 1 * ct_X M r f 1 + xo M f h 2 * ct_X M r f 2 = v + s3 fun c => xo M f h c * ct_X M r f c := by simp only [s3]; omega
    show G none (K + 1) jClearing_income 5 [(0, .inr (.inr 24)), (1, .inl r), (2, .inl h), (3, .inr (.inl (v + xo M f h 0 * ct_X M r f 0 + xo M f h 1 * ct_X M r f 1 + xo M f h 2 * ct_X M r f 2))), (5, .inl (f + 1))] [] P0 P0 M Q
    rw [e]
    exact hg
  have out : ∀ (n : Nat) (f v : Int), 0 ≤ f → f + (n : Int) = M 1 0 → v = pcs (fun f => s3 fun c => xo M f h c * ct_X M r f c) f.toNat → G none (K + 1) jClearing_income 5 [(0, .inr (.inr 24)), (1, .inl r), (2, .inl h), (3, .inr (.inl v)), (5, .inl f)] [] P0 P0 M Q := by
    intro n
    induction n with
    | zero =>
      intro f v h0 hf hv
      refine g_ct_income_5 _ _ _ _ _ _ _ ⟨⟨by omega, by omega⟩, ⟨by omega, by omega⟩, fun _ => ?_, fun q => absurd (by omega) q⟩
      rw [hv, show f = M 1 0 by omega, pcs_n5 hn (fun k hk hk2 => by
        have e := fun c hc => B.2.2.2.2.2.2.2 k h c hk hh hc (Or.inl hk2)
        simp only [s3]
        rw [e 0 (by decide), e 1 (by decide), e 2 (by decide)]
        omega)]
      exact hq
    | succ n ih =>
      intro f v h0 hf hv
      refine g_ct_income_5 _ _ _ _ _ _ _ ⟨⟨by omega, by omega⟩, ⟨by omega, by omega⟩, fun q => absurd q (by omega), fun _ => in_ f v ⟨h0, by omega⟩ (ih (f + 1) _ (by omega) (by omega) ?_)⟩
      rw [hv, pcs_up _ h0]
  exact c_ct_income K r h M Q (out (M 1 0).toNat 0 0 (by decide) (by omega) rfl)
theorem ct_restTenths {K : Nat} {h : Int} {M : PM} {Q : Option PV → PM → Prop} (P : ct_P M) (hh : hs h) (hw : 0 ≤ M 24 0 ∧ M 24 0 ≤ 5) (hq : Q (some (.inr (.inl (rt (ct_g M) (ct_X M (M 24 0)) (M 24 14) h)))) M) : Call (K + 2) jClearing_restTenths [.inr (.inr 24), .inl h] P0 P0 M Q := by
  have B := P.1
  have hA := B.2.1
  have hB := B.2.2.1
  have hp := P.2 h hh
  refine c_ct_restTenths (K + 1) h M Q ⟨⟨by omega, by omega⟩, hh, ⟨by omega, by omega⟩, ⟨by omega, by omega⟩, ct_income P hh hw ?_⟩
  have e : ((M 24 14 * M 1 1) * M 9 h) + (M 1 2 * gt (ct_g M) (ct_X M (M 24 0)) h) = rt (ct_g M) (ct_X M (M 24 0)) (M 24 14) h := by
    show _ = M 1 1 * M 9 h * M 24 14 + M 1 2 * gt (ct_g M) (ct_X M (M 24 0)) h
    grind
  show Q (some (.inr (.inl (((M 24 14 * M 1 1) * M 9 h) + (M 1 2 * gt (ct_g M) (ct_X M (M 24 0)) h))))) M
  rw [e]
  exact hq
def ct_hd (M : PM) (h : Int) : Int := pcs (fun c => M 28 ((h * 3) + c)) (M 30 h).toNat
theorem ct_heldTenths {K : Nat} {h : Int} {M : PM} {Q : Option PV → PM → Prop} (hh : hs h) (hL : 0 ≤ M 30 h ∧ M 30 h ≤ 3) (hd : ∀ c, kl c → 0 ≤ M 28 ((h * 3) + c) ∧ M 28 ((h * 3) + c) ≤ 80) (hq : Q (some (.inr (.inl ((M 24 14 * 10) * ct_hd M h)))) M) : Call (K + 1) jClearing_heldTenths [.inr (.inr 24), .inl h] P0 P0 M Q := by
  have out : ∀ (n : Nat) (c v : Int), 0 ≤ c → c + (n : Int) = M 30 h → v = pcs (fun c => M 28 ((h * 3) + c)) c.toNat → G none (K + 1) jClearing_heldTenths 4 [(0, .inr (.inr 24)), (1, .inl h), (2, .inl v), (3, .inl c)] [] P0 P0 M Q := by
    intro n
    induction n with
    | zero =>
      intro c v h0 hc hv
      have hb := pcs_b (f := fun c => M 28 ((h * 3) + c)) (a := 80) c.toNat (fun c' h1 h2 => hd c' ⟨h1, by omega⟩)
      have hb2 : ((c.toNat : Nat) : Int) * 80 ≤ 240 := by omega
      refine g_ct_heldTenths_4 _ _ _ _ _ _ ⟨hh, ⟨by omega, by omega⟩, ⟨by omega, by omega⟩, fun _ => ⟨⟨by omega, by omega⟩, ?_⟩, fun q => absurd (by omega) q⟩
      rw [hv, show c = M 30 h by omega]
      exact hq
    | succ n ih =>
      intro c v h0 hc hv
      refine g_ct_heldTenths_4 _ _ _ _ _ _ ⟨hh, ⟨by omega, by omega⟩, ⟨by omega, by omega⟩, fun q => absurd q (by omega), fun _ => ⟨⟨by omega, by omega⟩, ih (c + 1) _ (by omega) (by omega) ?_⟩⟩
      rw [hv, pcs_up _ h0]
  exact c_ct_heldTenths K h M Q (out (M 30 h).toNat 0 0 (by decide) (by omega) rfl)
theorem ct_fell {K : Nat} {h : Int} {M : PM} {Q : Option PV → PM → Prop} (hf : ms (M 24 1)) (hh : mk6 h) (hq : Q (some (.inl (b2i (tb (M 24 1) h)))) M) : Call (K + 1) jClearing_fell [.inr (.inr 24), .inl h] P0 P0 M Q := by
  refine c_ct_fell K h M Q ?_
  rw [bit_get hf hh]
  refine ⟨b2i_R _, fun c => ?_, fun c => ?_⟩
  · rw [c] at hq; exact hq
  · rw [b2i_n0 c] at hq; exact hq
def ct_tp (M : PM) (h c : Int) : Int := if c < M 30 h ∨ M 28 ((h * 3) + c) = 0 then M 24 14 else if c = M 30 h ∧ M 31 h ≠ 0 then M 32 h else 0
theorem ct_spread {K : Nat} {ph : PH} (hp : phk_24 ph) {M : PM} {Q : Option PV → PM → Prop} (hw : 0 ≤ M 24 0 ∧ M 24 0 ≤ 5) (hL : Lvl (M 30)) (hb : ∀ h, hs h → M 31 h = 0 ∨ M 31 h = 1) (hd : ∀ h c, hs h → kl c → 0 ≤ M 28 ((h * 3) + c) ∧ M 28 ((h * 3) + c) ≤ 80)
    (hq : ∀ M', Ag [26, 27] M M' → (∀ i, i ≠ M 24 0 → M' 27 i = M 27 i) → M' 27 (M 24 0) = M 24 14 → (∀ j, ¬ (M 24 0 * 15 ≤ j ∧ j < M 24 0 * 15 + 15) → M' 26 j = M 26 j) → (∀ h c, hs h → kl c → ct_X M' (M 24 0) h c = ct_tp M h c) → Q none M') : Call (K + 1) jClearing_spread [.inr (.inr 24)] ph ph M Q := by
  obtain ⟨J, hJ⟩ : ∃ J : Int → PM → Prop, J = fun k M1 => Ag [26, 27] M M1 ∧ (∀ i, i ≠ M 24 0 → M1 27 i = M 27 i) ∧ M1 27 (M 24 0) = M 24 14 ∧ (∀ j, ¬ (M 24 0 * 15 ≤ j ∧ j < M 24 0 * 15 + 15) → M1 26 j = M 26 j) ∧ ∀ h c, hs h → kl c → h * 3 + c < k → M1 26 (((M 24 0 * 15) + (h * 3)) + c) = ct_tp M h c := ⟨_, rfl⟩
  have stp : ∀ (h c : Int) (M1 : PM), hs h → kl c → J (h * 3 + c) M1 → J (h * 3 + (c + 1)) (mset M1 26 ((M 24 0 * 15) + (h * 3 + c)) (ct_tp M h c)) := by
    intro h c M1 hh hc hj
    rw [hJ] at hj ⊢
    obtain ⟨a1, a2, a3, a4, a5⟩ := hj
    refine ⟨a1.set (by decide), fun i hi => ?_, ?_, fun j hj => ?_, fun h' c' hh' hc' hl => ?_⟩
    · rw [mset_ne (by decide)]; exact a2 i hi
    · rw [mset_ne (by decide)]; exact a3
    · have : j ≠ (M 24 0 * 15) + (h * 3 + c) := fun z => hj (by omega)
      rw [show (mset M1 26 ((M 24 0 * 15) + (h * 3 + c)) (ct_tp M h c)) 26 j = M1 26 j by simp [mset, this]]
      exact a4 j hj
    · by_cases q : h' * 3 + c' = h * 3 + c
      · have e1 : h' = h := by omega
        have e2 : c' = c := by omega
        rw [e1, e2, show ((M 24 0 * 15) + (h * 3)) + c = (M 24 0 * 15) + (h * 3 + c) by omega, mset_eq]
      · have : ((M 24 0 * 15) + (h' * 3)) + c' ≠ (M 24 0 * 15) + (h * 3 + c) := by omega
        rw [show (mset M1 26 ((M 24 0 * 15) + (h * 3 + c)) (ct_tp M h c)) 26 (((M 24 0 * 15) + (h' * 3)) + c') = M1 26 (((M 24 0 * 15) + (h' * 3)) + c') by simp [mset, this]]
        exact a5 h' c' hh' hc' (by omega)
  have cells : ∀ k M1, J k M1 → M1 24 = M 24 ∧ M1 28 = M 28 ∧ M1 30 = M 30 ∧ M1 31 = M 31 ∧ M1 32 = M 32 := by
    intro k M1 hj
    rw [hJ] at hj
    exact ⟨hj.1 _ (by decide), hj.1 _ (by decide), hj.1 _ (by decide), hj.1 _ (by decide), hj.1 _ (by decide)⟩
  have in_ : ∀ (h c : Int) (M1 : PM), hs h → kl c → J (h * 3 + c) M1 → (∀ M2, J (h * 3 + (c + 1)) M2 → G none (K + 1) jClearing_spread 22 [(0, .inr (.inr 24)), (1, .inl h), (2, .inl (c + 1))] [] ph ph M2 Q) → G none (K + 1) jClearing_spread 22 [(0, .inr (.inr 24)), (1, .inl h), (2, .inl c)] [] ph ph M1 Q := by
    intro h c M1 hh hc hj go
    obtain ⟨e11, e15, e17, e18, e19⟩ := cells _ _ hj
    have hl := hL h hh
    have hbb := hb h hh
    have hdd := hd h c hh hc
    have fin : ∀ v, v = ct_tp M h c → G none (K + 1) jClearing_spread 91 [(0, .inr (.inr 24)), (1, .inl h), (2, .inl c), (3, .inl ((h * 3) + c)), (4, .inr (.inl v))] [] ph ph M1 Q := by
      intro v hv
      refine g_ct_spread_91 _ _ hp _ _ _ _ _ _ ⟨by rw [e11]; exact ⟨by omega, by omega⟩, ?_⟩
      rw [e11, hv]
      exact go _ (stp h c M1 hh hc hj)
    refine g_ct_spread_22 _ _ hp _ _ _ _ ⟨⟨by omega, by omega⟩, fun q => absurd q (by omega), fun _ => ⟨hh, by rw [e17]; exact ⟨by omega, by omega⟩, fun q => ?_, fun q => ⟨⟨by omega, by omega⟩, by rw [e15]; exact ⟨by omega, by omega⟩, fun q2 => ⟨fun q3 => ?_, fun q3 => ⟨by rw [e18]; exact ⟨by omega, by omega⟩, fun q4 => ?_, fun q4 => ?_⟩⟩, fun q2 => ?_⟩⟩⟩
    · rw [e17] at q; rw [e11]; exact fin _ (by unfold ct_tp; rw [if_pos (Or.inl q)])
    · rw [e17] at q q3; rw [e15] at q2
      exact fin _ (by unfold ct_tp; rw [if_neg (by omega), if_neg (fun z => q3 z.1)])
    · rw [e17] at q q3; rw [e15] at q2; rw [e18] at q4
      exact fin _ (by unfold ct_tp; rw [if_neg (by omega), if_neg (fun z => z.2 q4)])
    · rw [e17] at q q3; rw [e15] at q2; rw [e18] at q4; rw [e19]
      exact fin _ (by unfold ct_tp; rw [if_neg (by omega), if_pos ⟨q3, q4⟩])
    · rw [e17] at q; rw [e15] at q2; rw [e11]
      exact fin _ (by unfold ct_tp; rw [if_pos (Or.inr q2)])
  have out : ∀ (n : Nat) (h : Int) (M1 : PM), 0 ≤ h → h + (n : Int) = 5 → J (h * 3) M1 → G none (K + 1) jClearing_spread 15 [(0, .inr (.inr 24)), (1, .inl h)] [] ph ph M1 Q := by
    intro n
    induction n with
    | zero =>
      intro h M1 h0 hn hj
      refine g_ct_spread_15 _ _ hp _ _ _ ⟨⟨by omega, by omega⟩, fun _ => ?_, fun q => absurd (by omega) q⟩
      rw [hJ] at hj
      exact hq M1 hj.1 hj.2.1 hj.2.2.1 hj.2.2.2.1 (fun h' c' hh' hc' => hj.2.2.2.2 h' c' hh' hc' (by omega))
    | succ n ih =>
      intro h M1 h0 hn hj
      have hh : hs h := ⟨h0, by omega⟩
      refine g_ct_spread_15 _ _ hp _ _ _ ⟨⟨by omega, by omega⟩, fun q => absurd q (by omega), fun _ => ?_⟩
      refine in_ h 0 M1 hh (by decide) (by rw [Int.add_zero]; exact hj) (fun M2 j2 => in_ h 1 M2 hh (by decide) j2 (fun M3 j3 => in_ h 2 M3 hh (by decide) j3 (fun M4 j4 => ?_)))
      refine g_ct_spread_22 _ _ hp _ _ _ _ ⟨by decide, fun _ => ih (h + 1) M4 (by omega) (by omega) ?_, fun q => absurd (by decide) q⟩
      rw [show (h + 1) * 3 = h * 3 + (2 + 1) by omega]
      exact j4
  refine c_ct_spread K ph hp M Q ⟨⟨by omega, by omega⟩, out 5 0 _ (by decide) (by decide) ?_⟩
  rw [hJ]
  refine ⟨(Ag.rf _ _).set (by decide), fun i hi => by simp [mset, hi], mset_eq, fun j hj => by rw [mset_ne (by decide)], fun h c hh hc hl => ?_⟩
  have := hh.1; have := hc.1; omega
def ct_V (M : PM) : Prop := ct_P M ∧ (∀ h c, hs h → kl c → M 28 ((h * 3) + c) = xd M h c) ∧ (∀ h, hs h → M 29 h = s3 fun c => xd M h c) ∧ Lvl (M 30) ∧ (∀ h, hs h → M 31 h = 0 ∨ M 31 h = 1) ∧ (0 ≤ M 24 0 ∧ M 24 0 ≤ 5) ∧ ((0 ≤ M 24 1 ∧ M 24 1 < 32) ∧ ∀ h, hs h → tb (M 24 1) h = true → h < M 1 0)
def ct_Y (M : PM) : Int → Int → Int := Xs (ct_g M) (M 30) (pls (M 31)) (M 32) (M 24 14)
def ct_T (M : PM) : Prop := (∀ h c, hs h → kl c → ct_X M (M 24 0) h c = ct_Y M h c) ∧ M 27 (M 24 0) = M 24 14
theorem ct_tp_Y {M : PM} (V : ct_V M) {h c : Int} (hh : hs h) (hc : kl c) : ct_tp M h c = ct_Y M h c := by
  unfold ct_tp ct_Y Xs
  rw [V.2.1 h c hh hc, Inl_pls hh, ct_due]
  simp only [decide_eq_true_eq]
theorem ct_V.d {M : PM} (V : ct_V M) : ∀ h c, hs h → kl c → 0 ≤ M 28 ((h * 3) + c) ∧ M 28 ((h * 3) + c) ≤ 80 := fun h c hh hc => by
  rw [V.2.1 h c hh hc]
  exact xd_b V.1.1 hh hc
theorem ct_hd_yt {M : PM} (V : ct_V M) {h : Int} (hh : hs h) (h0 : M 31 h = 0 ∨ M 32 h = 0) : (M 24 14 * 10) * ct_hd M h = 10 * yt (ct_g M) (ct_Y M) h := by
  have e : ct_hd M h = pcs (fun c => due (ct_g M) h c) (M 30 h).toNat := by
    unfold ct_hd
    rw [pcs_s3 (V.2.2.2.1 h hh), pcs_s3 (V.2.2.2.1 h hh)]
    refine s3_congr fun c hc => ?_
    rw [V.2.1 h c hh hc]
    rfl
  unfold ct_Y
  rw [yt_held (V.2.2.2.1 h hh) (by
    rcases h0 with z | z
    · exact Or.inl fun w => (pls_mem.mp w).2 z
    · exact Or.inr z), e]
  grind
theorem ct_rt_Y {M : PM} (T : ct_T M) (D h : Int) : rt (ct_g M) (ct_X M (M 24 0)) D h = rt (ct_g M) (ct_Y M) D h := by
  unfold rt
  rw [gt_on T.1 h]
theorem ct_hd_b {M : PM} (V : ct_V M) {h : Int} (hh : hs h) : 0 ≤ ct_hd M h ∧ ct_hd M h ≤ 240 := by
  have hl := V.2.2.2.1 h hh
  have hb := pcs_b (f := fun c => M 28 ((h * 3) + c)) (a := 80) (M 30 h).toNat (fun c' h1 h2 => V.d h c' hh ⟨h1, by omega⟩)
  unfold ct_hd
  omega
theorem ct_sinking {K : Nat} {M : PM} {Q : Option PV → PM → Prop} (V : ct_V M) (T : ct_T M) (hW : 0 ≤ M 24 14 ∧ M 24 14 ≤ 327680000000000) (hY : ∀ h c, hs h → kl c → 0 ≤ ct_Y M h c ∧ ct_Y M h c ≤ M 24 14)
    (hq : ∀ s, 0 ≤ s ∧ s < 32 → (∀ h, hs h → (tb s h = true ↔ (tb (M 24 1) h = true ∧ M 31 h = 0 ∧ rt (ct_g M) (ct_Y M) (M 24 14) h < 10 * yt (ct_g M) (ct_Y M) h))) → Q (some (.inl s)) M) : Call (K + 3) jClearing_sinking [.inr (.inr 24)] P0 P0 M Q := by
  have hn := V.1.1.1
  have loop : ∀ (n : Nat) (h s : Int), 0 ≤ h → h + (n : Int) = M 1 0 → Bs s h (fun h => tb (M 24 1) h = true ∧ M 31 h = 0 ∧ rt (ct_g M) (ct_Y M) (M 24 14) h < 10 * yt (ct_g M) (ct_Y M) h) → G none (K + 2 + 1) jClearing_sinking 4 [(0, .inr (.inr 24)), (1, .inl s), (2, .inl h)] [] P0 P0 M Q := by
    intro n
    induction n with
    | zero =>
      intro h s h0 hh b
      refine g_ct_sinking_4 _ _ _ _ _ ⟨⟨by omega, by omega⟩, ⟨by omega, by omega⟩, fun _ => hq s (b.fin (by omega)) (fun k hk => ?_), fun q => absurd (by omega) q⟩
      rw [b.at hk]
      exact ⟨fun z => z.2, fun z => ⟨by have := V.2.2.2.2.2.2.2 k hk z.1; omega, z⟩⟩
    | succ n ih =>
      intro h s h0 hh b
      have hhs : hs h := ⟨h0, by omega⟩
      have hbb := V.2.2.2.2.1 h hhs
      refine g_ct_sinking_4 _ _ _ _ _ ⟨⟨by omega, by omega⟩, ⟨by omega, by omega⟩, fun q => absurd q (by omega), fun _ => ct_fell (ms32 V.2.2.2.2.2.2.1) ⟨h0, by omega⟩ ⟨b2i_R _, fun c => ?_, fun c => ⟨hhs, ⟨by omega, by omega⟩, fun c2 => ?_, fun c2 => ?_⟩⟩⟩
      · exact ih (h + 1) s (by omega) (by omega) (b.skip fun z => by rw [z.1] at c; exact absurd c (by decide))
      · exact ih (h + 1) s (by omega) (by omega) (b.skip fun z => c2 z.2.1)
      · refine ct_restTenths V.1 hhs V.2.2.2.2.2.1 (ct_heldTenths hhs (V.2.2.2.1 h hhs) (fun c hc => V.d h c hhs hc) ?_)
        rw [ct_rt_Y T]
        have e := ct_hd_yt V hhs (Or.inl c2)
        have b1 := rt_b (ct_ok V.1) hW.1 hY hhs
        have b2 := hd_b hW (ct_hd_b V hhs)
        refine ⟨⟨by omega, by omega⟩, b2, fun c3 => ?_, fun c3 => ?_⟩
        · exact ih (h + 1) s (by omega) (by omega) (b.skip fun z => by have := z.2.2; omega)
        · exact ih (h + 1) _ (by omega) (by omega) (b.take ⟨b2i_n0 c, c2, by omega⟩ ⟨h0, by omega⟩)
  exact c_ct_sinking (K + 2) M Q (loop (M 1 0).toNat 0 0 (by decide) (by omega) (Bs.zero _))
theorem ct_rising {K : Nat} {t : Int} {M : PM} {Q : Option PV → PM → Prop} (V : ct_V M) (T : ct_T M) (hW : 0 ≤ M 24 14 ∧ M 24 14 ≤ 327680000000000) (hY : ∀ h c, hs h → kl c → 0 ≤ ct_Y M h c ∧ ct_Y M h c ≤ M 24 14) (ht : 0 ≤ t ∧ t < 32) (htn : ∀ h, hs h → tb t h = true → h < M 1 0)
    (hq : ∀ s, 0 ≤ s ∧ s < 32 → (∀ h, hs h → (tb s h = true ↔ (tb t h = true ∧ M 31 h = 0 ∧ 10 * yt (ct_g M) (ct_Y M) h < rt (ct_g M) (ct_Y M) (M 24 14) h))) → Q (some (.inl s)) M) : Call (K + 3) jClearing_rising [.inr (.inr 24), .inl t] P0 P0 M Q := by
  have hn := V.1.1.1
  have loop : ∀ (n : Nat) (h s : Int), 0 ≤ h → h + (n : Int) = M 1 0 → Bs s h (fun h => tb t h = true ∧ M 31 h = 0 ∧ 10 * yt (ct_g M) (ct_Y M) h < rt (ct_g M) (ct_Y M) (M 24 14) h) → G none (K + 2 + 1) jClearing_rising 4 [(0, .inr (.inr 24)), (1, .inl t), (2, .inl s), (3, .inl h)] [] P0 P0 M Q := by
    intro n
    induction n with
    | zero =>
      intro h s h0 hh b
      refine g_ct_rising_4 _ _ _ _ _ _ ⟨⟨by omega, by omega⟩, ⟨by omega, by omega⟩, fun _ => hq s (b.fin (by omega)) (fun k hk => ?_), fun q => absurd (by omega) q⟩
      rw [b.at hk]
      exact ⟨fun z => z.2, fun z => ⟨by have := htn k hk z.1; omega, z⟩⟩
    | succ n ih =>
      intro h s h0 hh b
      have hhs : hs h := ⟨h0, by omega⟩
      have hbb := V.2.2.2.2.1 h hhs
      refine g_ct_rising_4 _ _ _ _ _ _ ⟨⟨by omega, by omega⟩, ⟨by omega, by omega⟩, fun q => absurd q (by omega), fun _ => ?_⟩
      rw [bit_get (ms32 ht) ⟨h0, by omega⟩]
      refine ⟨b2i_R _, fun c => ?_, fun c => ⟨hhs, ⟨by omega, by omega⟩, fun c2 => ?_, fun c2 => ?_⟩⟩
      · exact ih (h + 1) s (by omega) (by omega) (b.skip fun z => by rw [z.1] at c; exact absurd c (by decide))
      · exact ih (h + 1) s (by omega) (by omega) (b.skip fun z => c2 z.2.1)
      · refine ct_restTenths V.1 hhs V.2.2.2.2.2.1 (ct_heldTenths hhs (V.2.2.2.1 h hhs) (fun c hc => V.d h c hhs hc) ?_)
        rw [ct_rt_Y T]
        have e := ct_hd_yt V hhs (Or.inl c2)
        have b1 := rt_b (ct_ok V.1) hW.1 hY hhs
        have b2 := hd_b hW (ct_hd_b V hhs)
        refine ⟨⟨by omega, by omega⟩, b2, fun c3 => ?_, fun c3 => ?_⟩
        · exact ih (h + 1) s (by omega) (by omega) (b.skip fun z => by have := z.2.2; omega)
        · exact ih (h + 1) _ (by omega) (by omega) (b.take ⟨b2i_n0 c, c2, by omega⟩ ⟨h0, by omega⟩)
  exact c_ct_rising (K + 2) t M Q (loop (M 1 0).toNat 0 0 (by decide) (by omega) (Bs.zero _))
