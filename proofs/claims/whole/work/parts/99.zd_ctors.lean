/-! THE CONSTRUCTORS: what holds at first -/
theorem mclr_ne {M : PM} {a a' : Nat} (h : a' ≠ a) : mclr M a a' = M a' := by
  funext j
  simp [mclr, h]
theorem mclr_at (M : PM) (a : Nat) (j : Int) : mclr M a a j = 0 := by simp [mclr]
theorem Ag.clr {S : List Nat} {M M1 : PM} {a : Nat} (h : Ag S M M1) (ha : a ∈ S) : Ag S M (mclr M1 a) := fun b hb => by
  rw [mclr_ne (fun e => hb (by rw [e]; exact ha))]
  exact h b hb
theorem kp_begin {K : Nat} {ph : PH} (hp : phk_5 ph) {n : Int} {M : PM} {Q : Option PV → PM → Prop} (hq : ∀ M', Ag [5, 6, 7, 8] M M' → Q none M') : Call (K + 1) jBook_begin [.inr (.inr 5), .inl n] ph ph M Q := by
  have l3 : ∀ (k : Nat) (j : Int) (M1 : PM), 0 ≤ j → j + (k : Int) = 45 → Ag [5, 6, 7, 8] M M1 → G none (K + 1) jBook_begin 67 [(0, .inr (.inr 5)), (2, .inl j)] [] ph ph M1 Q := by
    intro k
    induction k with
    | zero =>
      intro j M1 j0 hj hA
      exact g_kp_begin_67 _ _ hp _ _ _ ⟨⟨by omega, by omega⟩, fun _ => hq _ hA, fun q => absurd (by omega) q⟩
    | succ k ih =>
      intro j M1 j0 hj hA
      exact g_kp_begin_67 _ _ hp _ _ _ ⟨⟨by omega, by omega⟩, fun q => absurd q (by omega), fun _ => ⟨⟨by omega, by omega⟩, ih (j + 1) _ (by omega) (by omega) (hA.set (by decide))⟩⟩
  have l2 : ∀ (k : Nat) (j : Int) (M1 : PM), 0 ≤ j → j + (k : Int) = 75 → Ag [5, 6, 7, 8] M M1 → G none (K + 1) jBook_begin 43 [(0, .inr (.inr 5)), (2, .inl j)] [] ph ph M1 Q := by
    intro k
    induction k with
    | zero =>
      intro j M1 j0 hj hA
      exact g_kp_begin_43 _ _ hp _ _ _ ⟨⟨by omega, by omega⟩, fun _ => l3 45 0 M1 (by decide) (by decide) hA, fun q => absurd (by omega) q⟩
    | succ k ih =>
      intro j M1 j0 hj hA
      exact g_kp_begin_43 _ _ hp _ _ _ ⟨⟨by omega, by omega⟩, fun q => absurd q (by omega), fun _ => ⟨⟨by omega, by omega⟩, ih (j + 1) _ (by omega) (by omega) (hA.set (by decide))⟩⟩
  have l1 : ∀ (k : Nat) (j : Int) (M1 : PM), 0 ≤ j → j + (k : Int) = 5 → Ag [5, 6, 7, 8] M M1 → G none (K + 1) jBook_begin 19 [(0, .inr (.inr 5)), (2, .inl j)] [] ph ph M1 Q := by
    intro k
    induction k with
    | zero =>
      intro j M1 j0 hj hA
      exact g_kp_begin_19 _ _ hp _ _ _ ⟨⟨by omega, by omega⟩, fun _ => l2 75 0 M1 (by decide) (by decide) hA, fun q => absurd (by omega) q⟩
    | succ k ih =>
      intro j M1 j0 hj hA
      exact g_kp_begin_19 _ _ hp _ _ _ ⟨⟨by omega, by omega⟩, fun q => absurd q (by omega), fun _ => ⟨⟨by omega, by omega⟩, ih (j + 1) _ (by omega) (by omega) (hA.set (by decide))⟩⟩
  exact c_kp_begin K ph hp n M Q (l1 5 0 _ (by decide) (by decide) ((((Ag.rf _ _).set (by decide)).set (by decide)).set (by decide)))
/-- a book as at first -/
def Bk0 (M : PM) : Prop := (M 1 0 = 2 ∧ M 1 1 = 10 ∧ M 1 2 = 10) ∧ (∀ j, 0 ≤ j → j < 5 → M 2 j = 0) ∧ (∀ j, 0 ≤ j → j < 75 → M 3 j = 0) ∧ ∀ j, 0 ≤ j → j < 45 → M 4 j = 0
theorem Bk0.of {M M' : PM} (h1 : M' 1 = M 1) (h2 : M' 2 = M 2) (h3 : M' 3 = M 3) (h4 : M' 4 = M 4) (b : Bk0 M) : Bk0 M' := by
  unfold Bk0 at b ⊢
  rw [h1, h2, h3, h4]
  exact b
theorem Bk0.bv {M : PM} (b : Bk0 M) {t : Int → Int} (ht : t 0 = 2 ∧ t 1 = 10 ∧ t 2 = 10 ∧ ∀ j, 3 ≤ j → j < 128 → t j = 0) : BV (M 1) (M 2) (M 3) (M 4) t := BV.zero (by decide) b.1 (fun h hh => b.2.1 h hh.1 hh.2) b.2.2.1 b.2.2.2 ht
theorem Bk0.xb {M : PM} (b : Bk0 M) : XB M := (b.bv (t := fun j => if j = 0 then 2 else if j = 1 then 10 else if j = 2 then 10 else 0) ⟨by decide, by decide, by decide, fun j a _ => by
  show (if j = 0 then (2 : Int) else if j = 1 then 10 else if j = 2 then 10 else 0) = 0
  rw [if_neg (by omega), if_neg (by omega), if_neg (by omega)]⟩).1
/-- behind the class's constructor -/
def X0 (M : PM) : Prop := Bk0 M ∧ M 0 2 = 0 ∧ M 0 7 = 1 ∧ M 0 9 = 1 ∧ M 45 0 = 0 ∧ M 47 0 = 0 ∧ ∀ r, 0 ≤ r → r < 4 → M 50 r = -1
theorem X0.of {M M' : PM} (hA : Ag [52, 53, 54, 55, 56, 57, 58, 59, 60, 61, 62, 63, 64, 65, 66, 67, 68, 69, 70, 71, 72, 73] M M') (x : X0 M) : X0 M' := by
  unfold X0 Bk0 at x ⊢
  rw [hA 0 (by decide), hA 1 (by decide), hA 2 (by decide), hA 3 (by decide), hA 4 (by decide), hA 45 (by decide), hA 47 (by decide), hA 50 (by decide)]
  exact x
theorem x_init {K : Nat} {M : PM} {Q : Option PV → PM → Prop} (hq : ∀ M', X0 M' → Q none M') : Call (K + 6) jClearingWaves_init [.inr (.inr 0)] (phx 1 78) (phx 52 21) (mclr M 0) Q := by
  refine c_x_init (K + 5) (mclr M 0) Q (c_bk_init (K + 4) _ _ (x_begin (K := K + 3) ⟨by decide, by decide +kernel⟩ (fun M1 hA1 b0 b1 b2 z2 z3 z4 => ?_)))
  have k1 : Bk0 M1 := ⟨⟨b0, b1, b2⟩, z2, z3, z4⟩
  have n1 : M1 0 = mclr M 0 0 := by rw [hA1 0 (by decide), mclr_ne (by decide), mclr_ne (by decide), mclr_ne (by decide), mclr_ne (by decide)]
  refine c_kp_init (K + 4) _ _ (kp_begin (K := K + 3) ⟨by decide, by decide +kernel⟩ (fun M2 hA2 => ?_))
  have a2 : Ag [5, 6, 7, 8] M1 M2 := (((((Ag.rf _ _).clr (by decide)).clr (by decide)).clr (by decide)).clr (by decide)).tr hA2
  have hB : Ag [5, 6, 7, 8, 9, 10, 11, 12, 13, 14, 15, 16, 17, 18, 19, 20, 21, 22, 23] M1 (mclr (mclr (mclr (mclr (mclr (mclr (mclr (mclr (mclr (mclr (mclr (mclr (mclr (mclr (mclr M2 9) 10) 11) 12) 13) 14) 15) 16) 17) 18) 19) 20) 21) 22) 23) := (((((((((((((((a2.mono (by decide)).clr (by decide)).clr (by decide)).clr (by decide)).clr (by decide)).clr (by decide)).clr (by decide)).clr (by decide)).clr (by decide)).clr (by decide)).clr (by decide)).clr (by decide)).clr (by decide)).clr (by decide)).clr (by decide)).clr (by decide)
  refine c_cp_init (K + 4) _ _ (c_ep_init (K + 3) _ _ (cp_begin (K := K + 1) ⟨by decide, by decide +kernel⟩ (k1.of (hB 1 (by decide)) (hB 2 (by decide)) (hB 3 (by decide)) (hB 4 (by decide))).xb (fun M3 hA3 _ _ _ _ _ _ _ _ => ?_)))
  have a3 : Ag [5, 6, 7, 8, 9, 10, 11, 12, 13, 14, 15, 16, 17, 18, 19, 20, 21, 22, 23] M1 M3 := hB.tr (hA3.mono (by decide))
  have hC : Ag [5, 6, 7, 8, 9, 10, 11, 12, 13, 14, 15, 16, 17, 18, 19, 20, 21, 22, 23, 24, 25, 26, 27, 28, 29, 30, 31, 32, 33, 34, 35, 36] M1 (mclr (mclr (mclr (mclr (mclr (mclr (mclr (mclr (mclr (mclr (mclr (mclr (mclr M3 24) 25) 26) 27) 28) 29) 30) 31) 32) 33) 34) 35) 36) := (((((((((((((a3.mono (by decide)).clr (by decide)).clr (by decide)).clr (by decide)).clr (by decide)).clr (by decide)).clr (by decide)).clr (by decide)).clr (by decide)).clr (by decide)).clr (by decide)).clr (by decide)).clr (by decide)).clr (by decide)
  refine c_ct_init (K + 4) _ _ (c_et_init (K + 3) _ _ (ct_begin (K := K + 1) ⟨by decide, by decide +kernel⟩ (k1.of (hC 1 (by decide)) (hC 2 (by decide)) (hC 3 (by decide)) (hC 4 (by decide))).xb (fun M4 hA4 _ _ _ _ _ _ _ _ => ?_)))
  have a4 : Ag [5, 6, 7, 8, 9, 10, 11, 12, 13, 14, 15, 16, 17, 18, 19, 20, 21, 22, 23, 24, 25, 26, 27, 28, 29, 30, 31, 32, 33, 34, 35, 36] M1 M4 := hC.tr (hA4.mono (by decide))
  refine c_co_init (K + 4) _ _ (c_ri_init (K + 4) _ _ (c_wo_init (K + 4) _ _ (c_to_init (K + 4) _ _ (c_ta_init (K + 4) _ _ (c_pa_init (K + 4) _ _ (c_ro_init (K + 4) _ _ ?_))))))
  obtain ⟨M5, e5⟩ : ∃ M5, M5 = mclr (mclr (mclr (mclr (mclr (mclr (mclr (mclr M4 37) 38) 39) 40) 41) 42) 43) 44 := ⟨_, rfl⟩
  have a5 : Ag [5, 6, 7, 8, 9, 10, 11, 12, 13, 14, 15, 16, 17, 18, 19, 20, 21, 22, 23, 24, 25, 26, 27, 28, 29, 30, 31, 32, 33, 34, 35, 36, 37, 38, 39, 40, 41, 42, 43, 44] M1 M5 := by
    rw [e5]
    exact ((((((((a4.mono (by decide)).clr (by decide)).clr (by decide)).clr (by decide)).clr (by decide)).clr (by decide)).clr (by decide)).clr (by decide)).clr (by decide)
  show Q none (mset (mset (mclr (mset (mset (mset (mset (mclr (mclr (mclr (mclr (mclr (mclr (mclr (mclr (mclr (mclr (mclr (mclr (mclr (mclr M4 37) 38) 39) 40) 41) 42) 43) 44) 45) 46) 47) 48) 49) 50) 50 0 (-1)) 50 1 (-1)) 50 2 (-1)) 50 3 (-1)) 51) 0 7 1) 0 9 1)
  rw [← e5]
  obtain ⟨M6, e6⟩ : ∃ M6, M6 = mclr (mclr (mclr (mclr (mclr M5 45) 46) 47) 48) 49 := ⟨_, rfl⟩
  have a6 : Ag [45, 46, 47, 48, 49] M5 M6 := by
    rw [e6]
    exact (((((Ag.rf _ _).clr (by decide)).clr (by decide)).clr (by decide)).clr (by decide)).clr (by decide)
  have t45 : M6 45 0 = 0 := by rw [e6, mclr_ne (by decide), mclr_ne (by decide), mclr_ne (by decide), mclr_ne (by decide), mclr_at]
  have t47 : M6 47 0 = 0 := by rw [e6, mclr_ne (by decide), mclr_ne (by decide), mclr_at]
  rw [← e6]
  obtain ⟨M7, e7⟩ : ∃ M7, M7 = mset (mset (mset (mset (mclr M6 50) 50 0 (-1)) 50 1 (-1)) 50 2 (-1)) 50 3 (-1) := ⟨_, rfl⟩
  have a7 : Ag [50] M6 M7 := by
    rw [e7]
    exact (((((Ag.rf _ _).clr (by decide)).set (by decide)).set (by decide)).set (by decide)).set (by decide)
  have t50 : ∀ r, 0 ≤ r → r < 4 → M7 50 r = -1 := fun r r0 r1 => by
    have c : r = 0 ∨ r = 1 ∨ r = 2 ∨ r = 3 := by omega
    rw [e7, mset_at, mset_at, mset_at, mset_at]
    rcases c with rfl | rfl | rfl | rfl <;> rfl
  rw [← e7]
  have a8 : Ag [0, 51] M7 (mset (mset (mclr M7 51) 0 7 1) 0 9 1) := (((Ag.rf _ _).clr (by decide)).set (by decide)).set (by decide)
  have kk : ∀ a, a ∉ [5, 6, 7, 8, 9, 10, 11, 12, 13, 14, 15, 16, 17, 18, 19, 20, 21, 22, 23, 24, 25, 26, 27, 28, 29, 30, 31, 32, 33, 34, 35, 36, 37, 38, 39, 40, 41, 42, 43, 44] → a ∉ [45, 46, 47, 48, 49] → a ∉ [50] → M7 a = M1 a := fun a p q r => by rw [a7 a r, a6 a q, a5 a p]
  have k8 : ∀ a, a ∉ [0, 51] → (mset (mset (mclr M7 51) 0 7 1) 0 9 1) a = M7 a := fun a h => a8 a h
  refine hq _ ⟨k1.of ?_ ?_ ?_ ?_, ?_, ?_, ?_, ?_, ?_, fun r r0 r1 => ?_⟩
  · rw [k8 1 (by decide), kk 1 (by decide) (by decide) (by decide)]
  · rw [k8 2 (by decide), kk 2 (by decide) (by decide) (by decide)]
  · rw [k8 3 (by decide), kk 3 (by decide) (by decide) (by decide)]
  · rw [k8 4 (by decide), kk 4 (by decide) (by decide) (by decide)]
  · rw [mset_at, if_neg (by decide), mset_at, if_neg (by decide), mclr_ne (by decide), kk 0 (by decide) (by decide) (by decide), n1, mclr_at]
  · rw [mset_at, if_neg (by decide), mset_eq]
  · rw [mset_eq]
  · rw [k8 45 (by decide), a7 45 (by decide)]; exact t45
  · rw [k8 47 (by decide), a7 47 (by decide)]; exact t47
  · rw [k8 50 (by decide)]; exact t50 r r0 r1
theorem m_init {K : Nat} {M : PM} {Q : Option PV → PM → Prop} (x : X0 M) (hq : ∀ M', Iv M' → Q none M') : Call (K + 3) jModel_init [.inr (.inr 52)] (phx 53 21) (phx 74 0) (mclr M 52) Q := by
  refine c_m_init (K + 2) (mclr M 52) Q ?_
  obtain ⟨M1, e1⟩ : ∃ M1, M1 = mclr (mclr (mclr (mclr (mclr (mclr (mclr (mclr (mclr (mclr (mclr (mclr (mclr (mclr (mclr (mclr (mclr (mclr (mclr (mclr (mclr (mclr M 52) 53) 54) 55) 56) 57) 58) 59) 60) 61) 62) 63) 64) 65) 66) 67) 68) 69) 70) 71) 72) 73 := ⟨_, rfl⟩
  obtain ⟨M0, e0⟩ : ∃ M0, M0 = mclr M 52 := ⟨_, rfl⟩
  have a1 : Ag [53, 54, 55, 56, 57, 58, 59, 60, 61, 62, 63, 64, 65, 66, 67, 68, 69, 70, 71, 72, 73] M0 M1 := by
    rw [e1, ← e0]
    exact (((((((((((((((((((((Ag.rf _ _).clr (by decide)).clr (by decide)).clr (by decide)).clr (by decide)).clr (by decide)).clr (by decide)).clr (by decide)).clr (by decide)).clr (by decide)).clr (by decide)).clr (by decide)).clr (by decide)).clr (by decide)).clr (by decide)).clr (by decide)).clr (by decide)).clr (by decide)).clr (by decide)).clr (by decide)).clr (by decide)).clr (by decide)
  have a0 : Ag [52] M M0 := by rw [e0]; exact (Ag.rf _ _).clr (by decide)
  have z52 : ∀ i, M1 52 i = 0 := fun i => by rw [a1 52 (by decide), e0, mclr_at]
  show Call (K + 2) jModel_asAtFirst [.inr (.inr 52), .inl 2] P0 P0 (mset (mset (mset (mset (mclr (mclr (mclr (mclr (mclr (mclr (mclr (mclr (mclr (mclr (mclr (mclr (mclr (mclr (mclr (mclr (mclr (mclr (mclr (mclr (mclr (mclr M 52) 53) 54) 55) 56) 57) 58) 59) 60) 61) 62) 63) 64) 65) 66) 67) 68) 69) 70) 71) 72) 73) 73 0 (-1)) 73 1 (-1)) 73 2 (-1)) 73 3 (-1)) (retV fun M2 => Q none M2)
  rw [← e1]
  obtain ⟨M2, e2⟩ : ∃ M2, M2 = mset (mset (mset (mset M1 73 0 (-1)) 73 1 (-1)) 73 2 (-1)) 73 3 (-1) := ⟨_, rfl⟩
  have a2 : Ag [73] M1 M2 := by
    rw [e2]
    exact ((((Ag.rf _ _).set (by decide)).set (by decide)).set (by decide)).set (by decide)
  have t73 : ∀ r, 0 ≤ r → r < 4 → M2 73 r = -1 := fun r r0 r1 => by
    have c : r = 0 ∨ r = 1 ∨ r = 2 ∨ r = 3 := by omega
    rw [e2, mset_at, mset_at, mset_at, mset_at]
    rcases c with rfl | rfl | rfl | rfl <;> rfl
  rw [← e2]
  refine m_asAtFirst (K := K) (by decide) (fun M3 hA3 f3 e4 t0 t1 t2 tz t55 => ?_)
  have x3 : X0 M3 := x.of (((a0.mono (by decide)).tr (a1.mono (by decide))).tr ((a2.mono (by decide)).tr (hA3.mono (by decide))))
  have z3 : ∀ i, i ≠ 4 → M3 52 i = 0 := fun i hi => by rw [f3 i hi, a2 52 (by decide)]; exact z52 i
  obtain ⟨xb, x02, x07, x09, x45, x47, x50⟩ := x3
  have y73 : ∀ r, 0 ≤ r → r < 4 → M3 73 r = -1 := fun r r0 r1 => by rw [hA3 73 (by decide)]; exact t73 r r0 r1
  refine hq M3 ⟨⟨xb.bv ⟨t0, t1, t2, tz⟩, t55⟩, Or.inl ⟨x02, z3 2 (by decide)⟩, ⟨by rw [x45, z3 6 (by decide)], by rw [x45]; decide, fun i i0 i1 => by rw [x45] at i1; omega⟩, ⟨by rw [x47, z3 32 (by decide)], by rw [x47]; decide, fun i i0 i1 => by rw [x47] at i1; omega⟩, fun r r0 r1 => ⟨by rw [x50 r r0 r1, y73 r r0 r1], by rw [x50 r r0 r1]; decide, fun i i0 i1 => by rw [x50 r r0 r1] at i1; omega⟩, ⟨Or.inr x07, fun z => by rw [x07] at z; exact absurd z (by decide)⟩, ⟨Or.inr x09, fun z => by rw [x09] at z; exact absurd z (by decide)⟩, IvM.no e4⟩
