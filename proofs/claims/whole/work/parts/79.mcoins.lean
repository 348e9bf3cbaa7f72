/-! THE MODEL's coins -/
def mP (M : PM) (h t c : Int) : Int := M 67 ((((5 * h) + t) * 3) + c)
def mPb (M : PM) (h t c : Int) : Int := M 68 ((((5 * h) + t) * 3) + c)
theorem mk_ok {M : PM} (B : MB M) : Okc (gK M) := ⟨B.2.1, B.2.2.1, fun h hh => by have := B.2.2.2.1 h hh; show 0 ≤ M 55 (3 + h) ∧ M 55 (3 + h) ≤ 400; omega, fun k h c hk hh hc => B.2.2.2.2.1 k h c hk hh hc, fun k c hk hc => B.2.2.2.2.2.1 k c hk hc⟩
theorem m_coinsFor_68 {K : Nat} {h : Int} {M : PM} {Q : Option PV → PM → Prop} (hh : hs h) (hq : Q (some (.inl (cgt (fun k t c => M 68 ((((5 * k) + t) * 3) + c)) h))) M) : Call (K + 2) jModel_coinsFor [.inr (.inr 52), .inl h, .inr (.inr 68)] P0 P0 M Q := by
  have st : ∀ (f v : Int), hs f → G none (K + 1 + 1) jModel_coinsFor 5 [(1, .inl h), (2, .inr (.inr 68)), (3, .inl (v + s3 fun c => M 68 ((((5 * f) + h) * 3) + c))), (4, .inl (f + 1))] [] P0 P0 M Q → G none (K + 1 + 1) jModel_coinsFor 5 [(1, .inl h), (2, .inr (.inr 68)), (3, .inl v), (4, .inl f)] [] P0 P0 M Q := by
    intro f v hf go
    have s1 : ∀ (c w : Int), kl c → G none (K + 1 + 1) jModel_coinsFor 14 [(1, .inl h), (2, .inr (.inr 68)), (3, .inl (w + M 68 ((((5 * f) + h) * 3) + c))), (4, .inl f), (5, .inl (c + 1))] [] P0 P0 M Q → G none (K + 1 + 1) jModel_coinsFor 14 [(1, .inl h), (2, .inr (.inr 68)), (3, .inl w), (4, .inl f), (5, .inl c)] [] P0 P0 M Q := by
      intro c w hc go'
      exact g_m_coinsFor_68_14 _ _ _ _ _ _ _ ⟨⟨by omega, by omega⟩, fun q => absurd q (by omega), fun _ => c_model_coinAt _ _ _ _ _ _ ⟨⟨by omega, by omega⟩, go'⟩⟩
    refine g_m_coinsFor_68_5 _ _ _ _ _ _ ⟨⟨by omega, by omega⟩, fun q => absurd q (by omega), fun _ => s1 0 v (by decide) (s1 1 _ (by decide) (s1 2 _ (by decide) ?_))⟩
    refine g_m_coinsFor_68_14 _ _ _ _ _ _ _ ⟨by decide, fun _ => ?_, fun q => absurd (by decide) q⟩
    have e : v + M 68 ((((5 * f) + h) * 3) + 0) + M 68 ((((5 * f) + h) * 3) + 1) + M 68 ((((5 * f) + h) * 3) + 2) = v + s3 fun c => M 68 ((((5 * f) + h) * 3) + c) := by simp only [s3]; omega
    rw [e]
    exact go
  refine c_m_coinsFor_68 (K + 1) h M Q (st 0 0 (by decide) (st 1 _ (by decide) (st 2 _ (by decide) (st 3 _ (by decide) (st 4 _ (by decide) ?_)))))
  refine g_m_coinsFor_68_5 _ _ _ _ _ _ ⟨by decide, fun _ => ?_, fun q => absurd (by decide) q⟩
  have e : 0 + (s3 fun c => M 68 ((((5 * 0) + h) * 3) + c)) + (s3 fun c => M 68 ((((5 * 1) + h) * 3) + c)) + (s3 fun c => M 68 ((((5 * 2) + h) * 3) + c)) + (s3 fun c => M 68 ((((5 * 3) + h) * 3) + c)) + (s3 fun c => M 68 ((((5 * 4) + h) * 3) + c)) = cgt (fun k t c => M 68 ((((5 * k) + t) * 3) + c)) h := by
    simp only [cgt, s5]; omega
  rw [e]
  exact hq
theorem m_coinsFor_67 {K : Nat} {h : Int} {M : PM} {Q : Option PV → PM → Prop} (hh : hs h) (hq : Q (some (.inl (cgt (fun k t c => M 67 ((((5 * k) + t) * 3) + c)) h))) M) : Call (K + 2) jModel_coinsFor [.inr (.inr 52), .inl h, .inr (.inr 67)] P0 P0 M Q := by
  have st : ∀ (f v : Int), hs f → G none (K + 1 + 1) jModel_coinsFor 5 [(1, .inl h), (2, .inr (.inr 67)), (3, .inl (v + s3 fun c => M 67 ((((5 * f) + h) * 3) + c))), (4, .inl (f + 1))] [] P0 P0 M Q → G none (K + 1 + 1) jModel_coinsFor 5 [(1, .inl h), (2, .inr (.inr 67)), (3, .inl v), (4, .inl f)] [] P0 P0 M Q := by
    intro f v hf go
    have s1 : ∀ (c w : Int), kl c → G none (K + 1 + 1) jModel_coinsFor 14 [(1, .inl h), (2, .inr (.inr 67)), (3, .inl (w + M 67 ((((5 * f) + h) * 3) + c))), (4, .inl f), (5, .inl (c + 1))] [] P0 P0 M Q → G none (K + 1 + 1) jModel_coinsFor 14 [(1, .inl h), (2, .inr (.inr 67)), (3, .inl w), (4, .inl f), (5, .inl c)] [] P0 P0 M Q := by
      intro c w hc go'
      exact g_m_coinsFor_67_14 _ _ _ _ _ _ _ ⟨⟨by omega, by omega⟩, fun q => absurd q (by omega), fun _ => c_model_coinAt _ _ _ _ _ _ ⟨⟨by omega, by omega⟩, go'⟩⟩
    refine g_m_coinsFor_67_5 _ _ _ _ _ _ ⟨⟨by omega, by omega⟩, fun q => absurd q (by omega), fun _ => s1 0 v (by decide) (s1 1 _ (by decide) (s1 2 _ (by decide) ?_))⟩
    refine g_m_coinsFor_67_14 _ _ _ _ _ _ _ ⟨by decide, fun _ => ?_, fun q => absurd (by decide) q⟩
    have e : v + M 67 ((((5 * f) + h) * 3) + 0) + M 67 ((((5 * f) + h) * 3) + 1) + M 67 ((((5 * f) + h) * 3) + 2) = v + s3 fun c => M 67 ((((5 * f) + h) * 3) + c) := by simp only [s3]; omega
    rw [e]
    exact go
  refine c_m_coinsFor_67 (K + 1) h M Q (st 0 0 (by decide) (st 1 _ (by decide) (st 2 _ (by decide) (st 3 _ (by decide) (st 4 _ (by decide) ?_)))))
  refine g_m_coinsFor_67_5 _ _ _ _ _ _ ⟨by decide, fun _ => ?_, fun q => absurd (by decide) q⟩
  have e : 0 + (s3 fun c => M 67 ((((5 * 0) + h) * 3) + c)) + (s3 fun c => M 67 ((((5 * 1) + h) * 3) + c)) + (s3 fun c => M 67 ((((5 * 2) + h) * 3) + c)) + (s3 fun c => M 67 ((((5 * 3) + h) * 3) + c)) + (s3 fun c => M 67 ((((5 * 4) + h) * 3) + c)) = cgt (fun k t c => M 67 ((((5 * k) + t) * 3) + c)) h := by
    simp only [cgt, s5]; omega
  rw [e]
  exact hq
theorem m_restOf {K : Nat} {h x : Int} {M : PM} {Q : Option PV → PM → Prop} (B : MB M) (hh : hs h) (hx : 0 ≤ x ∧ x ≤ 300) (hq : Q (some (.inl (Int.tdiv (M 55 1 * M 55 (3 + h) + M 55 2 * x) 10))) M) : Call (K + 1) jModel_restOf [.inr (.inr 52), .inl h, .inl x] P0 P0 M Q := by
  have hA := B.2.1
  have hB := B.2.2.1
  have hc := B.2.2.2.1 h hh
  have p1 : 0 ≤ M 55 1 * M 55 (3 + h) ∧ M 55 1 * M 55 (3 + h) ≤ 10 * 200 := ⟨Int.mul_nonneg hA.1 hc.1, Int.mul_le_mul hA.2 hc.2 hc.1 (by omega)⟩
  have p2 : 0 ≤ M 55 2 * x ∧ M 55 2 * x ≤ 10 * 300 := ⟨Int.mul_nonneg hB.1 hx.1, Int.mul_le_mul hB.2 hx.2 hx.1 (by omega)⟩
  exact c_m_restOf K h x M Q ⟨⟨by omega, by omega⟩, ⟨by omega, by omega⟩, hq⟩
theorem m_paysCoins {K : Nat} {h : Int} {M : PM} {Q : Option PV → PM → Prop} (B : MB M) (hh : hs h) (hx : 0 ≤ cgt (mPb M) h ∧ cgt (mPb M) h ≤ 300) (h0 : ∀ t c, hs t → kl c → md M h c = 0 → mP M h t c = 0)
    (hq : ∀ M', Ag [67] M M' → (∀ t c, hs t → kl c → mP M' h t c = cam (gK M) (cgt (mPb M) h) h t c) → (∀ a t c, hs a → hs t → kl c → a ≠ h → mP M' a t c = mP M a t c) → Q none M') : Call (K + 6) jModel_paysCoins [.inr (.inr 52), .inl h] P0 P0 M Q := by
  have O := mk_ok B
  obtain ⟨x, hxe⟩ : ∃ x, x = cgt (mPb M) h := ⟨_, rfl⟩
  rw [← hxe] at hx hq
  have hL := cL_mono O hh hx.1 (Int.le_refl x)
  have hL2 : cL (gK M) x h ≤ 2000 := by
    have hd := ds_nn O hh
    have a := cA_b O hh hx.1
    have hc := B.2.2.2.1 h hh
    have hcc : ckC (gK M) h = M 55 (3 + h) := rfl
    unfold cL
    split
    · rw [td_ed a.1]; omega
    · omega
  obtain ⟨J, hJ⟩ : ∃ J : Int → PM → Prop, J = fun k M1 => Ag [67] M M1 ∧ (∀ t c, hs t → kl c → c * 5 + t < k → mP M1 h t c = cam (gK M) x h t c) ∧ (∀ a t c, hs a → hs t → kl c → (a ≠ h ∨ k ≤ c * 5 + t) → mP M1 a t c = mP M a t c) := ⟨_, rfl⟩
  have hbook : ∀ k M1, J k M1 → MB M1 ∧ md M1 = md M ∧ mo M1 = mo M := fun k M1 hj => by
    rw [hJ] at hj
    have e : M1 55 = M 55 := hj.1 55 (by decide)
    exact ⟨B.of e, md_of e, mo_of e⟩
  -- one place
  have set1 : ∀ (t c v : Int) (M1 : PM), hs t → kl c → J (c * 5 + t) M1 → v = cam (gK M) x h t c → J (c * 5 + (t + 1)) (mset M1 67 ((((5 * h) + t) * 3) + c) v) := by
    intro t c v M1 ht hc hj hv
    rw [hJ] at hj ⊢
    obtain ⟨a1, a2, a3⟩ := hj
    have hnew : ∀ a t' c', hs a → hs t' → kl c' → mP (mset M1 67 ((((5 * h) + t) * 3) + c) v) a t' c' = if a = h ∧ t' = t ∧ c' = c then v else mP M1 a t' c' := by
      intro a t' c' ha ht' hc'
      unfold mP
      by_cases q : a = h ∧ t' = t ∧ c' = c
      · rw [if_pos q, q.1, q.2.1, q.2.2, mset_eq]
      · rw [if_neg q]
        have : ¬ (((5 * a) + t') * 3) + c' = (((5 * h) + t) * 3) + c := fun w => q ⟨by omega, by omega, by omega⟩
        simp [mset, this]
    refine ⟨a1.set (by decide), fun t' c' ht' hc' hl => ?_, fun a t' c' ha ht' hc' hne => ?_⟩
    · rw [hnew h t' c' hh ht' hc']
      by_cases q : t' = t ∧ c' = c
      · rw [if_pos ⟨rfl, q⟩, q.1, q.2]; exact hv
      · rw [if_neg (fun w => q w.2)]
        exact a2 t' c' ht' hc' (by omega)
    · rw [hnew a t' c' ha ht' hc', if_neg (fun w => by omega)]
      exact a3 a t' c' ha ht' hc' (by omega)
  have skip : ∀ (c : Int) (M1 : PM), kl c → md M h c = 0 → J (c * 5 + 0) M1 → J ((c + 1) * 5) M1 := by
    intro c M1 hc hz hj
    rw [hJ] at hj ⊢
    obtain ⟨a1, a2, a3⟩ := hj
    refine ⟨a1, fun t c' ht hc' hl => ?_, fun a t c' ha ht hc' hne => a3 a t c' ha ht hc' (by omega)⟩
    by_cases q : c' = c
    · rw [q, a3 h t c hh ht hc (Or.inr (by have := ht.1; omega)), h0 t c ht hc hz]
      unfold cam
      have e : due (gK M) h c = 0 := hz
      rw [e, if_neg (by decide)]
    · exact a2 t c' ht hc' (by have := ht.1; have := ht.2; omega)
  have crb : ∀ n : Nat, n ≤ 3 → 0 ≤ crl (gK M) (cL (gK M) x h) h n ∧ crl (gK M) (cL (gK M) x h) h n ≤ 2000 := fun n => by
    induction n with
    | zero => intro _; exact ⟨hL.1, hL2⟩
    | succ n ihn =>
      intro hn3
      have i := ihn (by omega)
      have d := due_nn O hh (c := ((n : Nat) : Int)) ⟨by omega, by omega⟩
      simp only [crl, mn2]
      split <;> omega
  have c46 : ∀ (c : Int) (M1 : PM), kl c → J (c * 5) M1 → (∀ M1', J ((c + 1) * 5) M1' → G none (K + 5 + 1) jModel_paysCoins 46 [(0, .inr (.inr 52)), (1, .inl h), (3, .inl (crl (gK M) (cL (gK M) x h) h (c + 1).toNat)), (4, .inl (c + 1))] [] P0 P0 M1' Q) →
      G none (K + 5 + 1) jModel_paysCoins 46 [(0, .inr (.inr 52)), (1, .inl h), (3, .inl (crl (gK M) (cL (gK M) x h) h c.toNat)), (4, .inl c)] [] P0 P0 M1 Q := by
    intro c M1 hc hj go
    have hb := hbook _ _ hj
    have hd := md_b B hh hc
    have hr := crb c.toNat (by have := hc.2; omega)
    have e8 : crl (gK M) (cL (gK M) x h) h c.toNat - mn2 (crl (gK M) (cL (gK M) x h) h c.toNat) (md M h c) = crl (gK M) (cL (gK M) x h) h (c + 1).toNat := by
      rw [show (c + 1).toNat = c.toNat + 1 by have := hc.1; omega, crl, Int.toNat_of_nonneg hc.1]
      rfl
    have e7 : 0 ≤ mn2 (crl (gK M) (cL (gK M) x h) h c.toNat) (md M h c) ∧ mn2 (crl (gK M) (cL (gK M) x h) h c.toNat) (md M h c) ≤ 80 := by simp only [mn2]; split <;> omega
    refine g_m_paysCoins_46 _ _ _ _ _ _ ⟨⟨by omega, by omega⟩, fun q => absurd q (by omega), fun _ => m_due hh hc ?_⟩
    rw [hb.2.1]
    refine ⟨⟨by omega, by omega⟩, ⟨by omega, by omega⟩, ?_⟩
    by_cases hz : md M h c = 0
    · refine g_m_paysCoins_72 _ _ _ _ _ _ _ _ _ ⟨by decide, fun q => absurd q (by decide), fun _ => ⟨⟨by omega, by omega⟩, fun _ => ?_, fun q => absurd (by omega) q⟩⟩
      rw [e8]
      exact go M1 (skip c M1 hc hz (by rw [Int.add_zero]; exact hj))
    · have l72 : ∀ (n : Nat) (t : Int) (M2 : PM), 0 ≤ t → t + (n : Int) = 5 → J (c * 5 + t) M2 → G none (K + 5 + 1) jModel_paysCoins 72 [(0, .inr (.inr 52)), (1, .inl h), (3, .inl (crl (gK M) (cL (gK M) x h) h c.toNat)), (4, .inl c), (5, .inl (md M h c)), (6, .inl (mn2 (crl (gK M) (cL (gK M) x h) h c.toNat) (md M h c))), (7, .inl t)] [] P0 P0 M2 Q := by
        intro n
        induction n with
        | zero =>
          intro t M2 t0 ht hj2
          refine g_m_paysCoins_72 _ _ _ _ _ _ _ _ _ ⟨⟨by omega, by omega⟩, fun _ => ?_, fun q => absurd (by omega) q⟩
          rw [e8]
          exact go M2 (by rw [show (c + 1) * 5 = c * 5 + t by omega]; exact hj2)
        | succ n ih =>
          intro t M2 t0 ht hj2
          have hts : hs t := ⟨t0, by omega⟩
          have hb2 := hbook _ _ hj2
          have hob := B.2.2.2.2.1 h t c hh hts hc
          have hp : 0 ≤ mo M h t c * mn2 (crl (gK M) (cL (gK M) x h) h c.toNat) (md M h c) ∧ mo M h t c * mn2 (crl (gK M) (cL (gK M) x h) h c.toNat) (md M h c) ≤ 20 * 80 := ⟨Int.mul_nonneg hob.1 e7.1, Int.mul_le_mul hob.2 e7.2 e7.1 (by omega)⟩
          refine g_m_paysCoins_72 _ _ _ _ _ _ _ _ _ ⟨⟨by omega, by omega⟩, fun q => absurd q (by omega), fun _ => ⟨⟨by omega, by omega⟩, fun q => absurd q (by omega), fun _ => c_model_coinAt _ _ _ _ _ _ (m_owes hh hts hc ?_)⟩⟩
          rw [hb2.2.2]
          refine ⟨⟨by omega, by omega⟩, hz, ⟨by omega, by omega⟩, ih (t + 1) _ (by omega) (by omega) (set1 t c _ M2 hts hc hj2 ?_)⟩
          unfold cam
          have e : due (gK M) h c = md M h c := rfl
          rw [e, if_pos (by omega)]
          rfl
      exact l72 5 0 M1 (by decide) (by decide) (by rw [Int.add_zero]; exact hj)
  have j0 : J 0 M := by
    rw [hJ]
    exact ⟨Ag.rf _ _, fun t c ht hc hl => by have := ht.1; have := hc.1; omega, fun _ _ _ _ _ _ _ => rfl⟩
  have all3 : G none (K + 5 + 1) jModel_paysCoins 46 [(0, .inr (.inr 52)), (1, .inl h), (3, .inl (cL (gK M) x h)), (4, .inl 0)] [] P0 P0 M Q := by
    have := c46 0 M (by decide) j0 (fun M1 j1 => c46 1 M1 (by decide) j1 (fun M2 j2 => c46 2 M2 (by decide) j2 (fun M3 j3 => ?_)))
    · exact this
    · refine g_m_paysCoins_46 _ _ _ _ _ _ ⟨by decide, fun _ => ?_, fun q => absurd (by decide) q⟩
      rw [hJ] at j3
      obtain ⟨a1, a2, a3⟩ := j3
      exact hq M3 a1 (fun t c ht hc => a2 t c ht hc (by have := ht.2; have := hc.2; omega)) (fun a t c ha ht hc hne => a3 a t c ha ht hc (Or.inl hne))
  have hc := B.2.2.2.1 h hh
  have ds := ds_nn O hh
  have eds : (s3 fun c => due (gK M) h c) = s3 fun c => md M h c := rfl
  refine c_m_paysCoins (K + 5) h M Q (m_coinsFor_68 hh ?_)
  have ex : cgt (fun k t c => M 68 ((((5 * k) + t) * 3) + c)) h = x := hxe.symm
  rw [ex]
  refine ⟨⟨by omega, by omega⟩, m_dueInAll hh ⟨⟨by omega, by omega⟩, ⟨by omega, by omega⟩, fun c => m_dueInAll hh ?_, fun c => m_restOf B hh hx ?_⟩⟩
  · have e : cL (gK M) x h = s3 fun c => md M h c := by
      unfold cL
      exact if_neg (fun w => by
        have w' : M 55 (3 + h) + x < s3 fun c => md M h c := w
        omega)
    rw [← e]
    exact all3
  · have e : cL (gK M) x h = Int.tdiv (M 55 1 * M 55 (3 + h) + M 55 2 * x) 10 := by
      unfold cL
      exact if_pos (by
        show M 55 (3 + h) + x < s3 fun c => md M h c
        omega)
    rw [← e]
    exact all3
