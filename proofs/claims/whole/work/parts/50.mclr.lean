/-! THE MODEL's goesRound: all rounds -/
theorem m_round {K : Nat} {M : PM} {F : Int → Bool} {r : Int} {Q : Option PV → PM → Prop} (B : MB M) (hpu : ∀ h, hs h → 0 ≤ M 61 h ∧ M 61 h ≤ 400) (hf : 0 ≤ M 52 13 ∧ M 52 13 < 32) (hF : ∀ h, hs h → F h = (tb (M 52 13) h && decide (h < M 55 0))) (hFn : ∀ h, hs h → tb (M 52 13) h = true → h < M 55 0) (h9 : M 52 9 = r) (hr : 0 ≤ r ∧ r ≤ 5)
    (hq : ∀ (M' : PM) (t : Int) (X : Int → Int → Int) (D : Int), Ag [52, 58, 59, 60, 62, 63, 64, 65, 66] M M' → (∀ i, i ≠ 17 → i ≠ 21 → M' 52 i = M 52 i) → (∀ i, i ≠ r → M' 59 i = M 59 i) → (∀ j, ¬ (15 * r ≤ j ∧ j < 15 * r + 15) → M' 58 j = M 58 j) → Rnd (gM M) F X D → M' 59 r = D → (∀ h c, hs h → kl c → M' 58 (((15 * r) + (3 * h)) + c) = X h c) → (0 ≤ t ∧ t < 32) →
      (∀ k, hs k → tb t k = (decide (k < M 55 0) && (!F k && decide (fl (gM M) X D k)))) → (∀ k, hs k → M' 60 k = if tb t k = true then r + 1 else M 60 k) → Q (some (.inl t)) M') :
    Call (K + 13) jModel_agrees [.inr (.inr 52), .inl r] P0 P0 M (retV fun M3 => Call (K + 13) jModel_failsMore [.inr (.inr 52)] P0 P0 M3 Q) := by
  refine m_agrees (K := K) B hpu hf hF hFn hr (fun M3 hA h52 h59 h58 R => ?_)
  have k55 : M3 55 = M 55 := hA 55 (by decide)
  have k61 : M3 61 = M 61 := hA 61 (by decide)
  have k60 : M3 60 = M 60 := hA 60 (by decide)
  have k9 : M3 52 9 = r := by rw [h52 9 (by decide) (by decide), h9]
  have k13 : M3 52 13 = M 52 13 := h52 13 (by decide) (by decide)
  have kg := gM_of k55 k61
  show Call (K + 13) jModel_failsMore _ _ _ _ _
  refine m_failsMore (K := K + 8) (B.of k55) (by rw [k61]; exact hpu) (by rw [k13]; exact hf) (by rw [k9]; exact hr) (by rw [k9]; exact ⟨R.1.1.1, R.2.2.1⟩) (by rw [k9]; exact R.1.1.2.1) (fun M4 t hA4 ht htb h60 => ?_)
  rw [k9, k13, kg, k55] at htb
  rw [k9, k60] at h60
  refine hq M4 t (rX M3 r) (M3 59 r) (fun a ha => ?_) (fun i h1 h2 => ?_) (fun i hi => ?_) (fun j hj => ?_) R ?_ (fun h c _ _ => ?_) ht (fun k hk => ?_) h60
  · rw [hA4 a (fun z => ha (by revert z; simp; omega)), hA a (fun z => ha (by revert z; simp; omega))]
  · rw [hA4 52 (by decide), h52 i h1 h2]
  · rw [hA4 59 (by decide), h59 i hi]
  · rw [hA4 58 (by decide), h58 j hj]
  · rw [hA4 59 (by decide)]
  · rw [hA4 58 (by decide)]; rfl
  · rw [htb k hk, hF k hk]
    by_cases q : k < M 55 0
    · rw [decide_eq_true q, Bool.and_true]
    · rw [decide_eq_false q, Bool.false_and, Bool.false_and]
def RdS (g : Ck) (n : Int) (X : Int → Int → Int → Int) (D : Int → Int) (W : Int) (F : Int → Int → Bool) : Prop := (∀ h, hs h → F 0 h = false) ∧ (∀ r, 0 ≤ r → r ≤ W → Rnd g (F r) (X r) (D r)) ∧ ∀ r, 0 ≤ r → r < W → (∀ h, hs h → F (r + 1) h = (F r h || (decide (h < n) && decide (fl g (X r) (D r) h)))) ∧ ∃ h, hs h ∧ F r h = false ∧ F (r + 1) h = true
def Wv (F : Int → Int → Bool) (W : Int) (wv : Int → Int) : Prop := ∀ h, hs h → (F W h = false → wv h = 0) ∧ (F W h = true → 1 ≤ wv h ∧ wv h ≤ W ∧ F (wv h) h = true ∧ F (wv h - 1) h = false)
/-- a clearing: its rounds, who failed, in which wave -/
def Clr (g : Ck) (n : Int) (X : Int → Int → Int → Int) (D : Int → Int) (W s : Int) (wv : Int → Int) : Prop :=
  (0 ≤ W ∧ W ≤ 5) ∧ (0 ≤ s ∧ s < 32) ∧ ∃ F : Int → Int → Bool, RdS g n X D W F ∧ (∀ h, hs h → h < n → F W h = false → ¬ fl g (X W) (D W) h) ∧ (∀ h, hs h → tb s h = F W h) ∧ Wv F W wv
theorem tb5 {s : Int} (h : 0 ≤ s ∧ s < 32) : tb s 5 = false := by
  have k : ∀ i : Fin 32, tb ((i.val : Nat) : Int) 5 = false := by decide +kernel
  exact fin_all (n := 32) (P := fun s => tb s 5 = false) k h.1 h.2
theorem some_bit {t : Int} (h : 0 ≤ t ∧ t < 32) (h0 : t ≠ 0) : ∃ k, hs k ∧ tb t k = true := by
  rcases Classical.em (∃ k, hs k ∧ tb t k = true) with q | q
  · exact q
  · refine absurd (bit_ext (s := t) (t := 0) ⟨h.1, by omega⟩ (by decide) (fun j hj => ?_)) h0
    rw [tb_0]
    by_cases z : j = 5
    · rw [z]; exact tb5 h
    · cases w : tb t j
      · rfl
      · exact absurd ⟨j, ⟨hj.1, by omega⟩, w⟩ q
theorem m_goesRound {K : Nat} {M : PM} {Q : Option PV → PM → Prop} (B : MB M) (hpu : ∀ h, hs h → 0 ≤ M 61 h ∧ M 61 h ≤ 400)
    (hq : ∀ (M' : PM) (X : Int → Int → Int → Int) (D : Int → Int), Ag [52, 58, 59, 60, 62, 63, 64, 65, 66] M M' → (∀ i, i ≠ 9 → i ≠ 13 → i ≠ 17 → i ≠ 21 → M' 52 i = M 52 i) → Clr (gM M) (M 55 0) X D (M' 52 9) (M' 52 13) (M' 60) → (∀ r, 0 ≤ r → r ≤ M' 52 9 → M' 59 r = D r ∧ ∀ h c, hs h → kl c → M' 58 (((15 * r) + (3 * h)) + c) = X r h c) → Q none M') :
    Call (K + 14) jModel_goesRound [.inr (.inr 52)] P0 P0 M Q := by
  have hn := B.1
  have l40 : ∀ (n : Nat) (t : Int) (M1 : PM) (F : Int → Int → Bool) (X : Int → Int → Int → Int) (D : Int → Int), M1 52 9 + (n : Int) = 5 → Ag [52, 58, 59, 60, 62, 63, 64, 65, 66] M M1 → (∀ i, i ≠ 9 → i ≠ 13 → i ≠ 17 → i ≠ 21 → M1 52 i = M 52 i) → (0 ≤ M1 52 9 ∧ M1 52 9 ≤ s5 fun h => b2i (F (M1 52 9) h)) → (0 ≤ M1 52 13 ∧ M1 52 13 < 32) → (0 ≤ t ∧ t < 32) → RdS (gM M) (M 55 0) X D (M1 52 9) F →
      (∀ h, hs h → tb (M1 52 13) h = F (M1 52 9) h) → (∀ h, hs h → F (M1 52 9) h = true → h < M 55 0) → (∀ h, hs h → tb t h = (decide (h < M 55 0) && (!F (M1 52 9) h && decide (fl (gM M) (X (M1 52 9)) (D (M1 52 9)) h)))) →
      (∀ r, 0 ≤ r → r ≤ M1 52 9 → M1 59 r = D r ∧ ∀ h c, hs h → kl c → M1 58 (((15 * r) + (3 * h)) + c) = X r h c) → (∀ h, hs h → (F (M1 52 9) h = false → M1 60 h = if tb t h = true then M1 52 9 + 1 else 0) ∧ (F (M1 52 9) h = true → 1 ≤ M1 60 h ∧ M1 60 h ≤ M1 52 9 ∧ F (M1 60 h) h = true ∧ F (M1 60 h - 1) h = false)) →
      G none (K + 13 + 1) jModel_goesRound 40 [(0, .inr (.inr 52)), (1, .inl t)] [] P0 P0 M1 Q := by
    have fin_ : ∀ (t : Int) (M1 : PM) (F : Int → Int → Bool) (X : Int → Int → Int → Int) (D : Int → Int), M1 52 9 ≤ 5 → Ag [52, 58, 59, 60, 62, 63, 64, 65, 66] M M1 → (∀ i, i ≠ 9 → i ≠ 13 → i ≠ 17 → i ≠ 21 → M1 52 i = M 52 i) → 0 ≤ M1 52 9 → (0 ≤ M1 52 13 ∧ M1 52 13 < 32) → RdS (gM M) (M 55 0) X D (M1 52 9) F →
        (∀ h, hs h → tb (M1 52 13) h = F (M1 52 9) h) → (∀ h, hs h → tb t h = (decide (h < M 55 0) && (!F (M1 52 9) h && decide (fl (gM M) (X (M1 52 9)) (D (M1 52 9)) h)))) →
        (∀ r, 0 ≤ r → r ≤ M1 52 9 → M1 59 r = D r ∧ ∀ h c, hs h → kl c → M1 58 (((15 * r) + (3 * h)) + c) = X r h c) → (∀ h, hs h → (F (M1 52 9) h = false → M1 60 h = if tb t h = true then M1 52 9 + 1 else 0) ∧ (F (M1 52 9) h = true → 1 ≤ M1 60 h ∧ M1 60 h ≤ M1 52 9 ∧ F (M1 60 h) h = true ∧ F (M1 60 h - 1) h = false)) → t = 0 → Q none M1 := by
      intro t M1 F X D hW hA h52 hc hs_ R hb htb har hw q
      refine hq M1 X D hA h52 ⟨⟨hc, hW⟩, hs_, F, R, fun h hh hl hF hfl => ?_, hb, fun h hh => ⟨fun z => ?_, (hw h hh).2⟩⟩ har
      · have := htb h hh
        rw [q, tb_0, hF, decide_eq_true hl, decide_eq_true hfl] at this
        exact absurd this (by decide)
      · rw [(hw h hh).1 z, q, tb_0]; rfl
    have cnt : ∀ (t : Int) (f : Int → Bool), (0 ≤ t ∧ t < 32) → t ≠ 0 → (∀ h, hs h → tb t h = true → f h = false) → (s5 fun h => b2i (f h)) + 1 ≤ (s5 fun h => b2i (f h || tb t h)) ∧ (s5 fun h => b2i (f h || tb t h)) ≤ 5 ∧ ∃ k, hs k ∧ tb t k = true := by
      intro t f ht q hf
      obtain ⟨k, hk, hb⟩ := some_bit ht q
      have m : ∀ h, b2i (f h) ≤ b2i (f h || tb t h) ∧ b2i (f h || tb t h) ≤ 1 := fun h => by cases f h <;> cases tb t h <;> decide
      have e1 : b2i (f k) = 0 := by rw [hf k hk hb]; rfl
      have e2 : b2i (f k || tb t k) = 1 := by rw [hb, Bool.or_true]; rfl
      have m0 := m 0; have m1 := m 1; have m2 := m 2; have m3 := m 3; have m4 := m 4
      refine ⟨?_, ?_, k, hk, hb⟩
      · simp only [s5]
        rcases hs5 hk with rfl | rfl | rfl | rfl | rfl <;> omega
      · simp only [s5]; omega
    intro n
    induction n with
    | zero =>
      intro t M1 F X D hW hA h52 hc hs_ ht R hb hbn htb har hw
      refine g_m_goesRound_40 _ _ _ _ ⟨⟨by omega, by omega⟩, fun q => ?_, fun q => ?_⟩
      · exact fin_ t M1 F X D (by omega) hA h52 hc.1 hs_ R hb htb har hw q
      · have := cnt t (F (M1 52 9)) ht q (fun h hh z => by
          have := htb h hh
          rw [z] at this
          cases w : F (M1 52 9) h
          · rfl
          · rw [w, Bool.not_true, Bool.false_and, Bool.and_false] at this
            exact absurd this (by decide))
        omega
    | succ n ih =>
      intro t M1 F X D hW hA h52 hc hs_ ht R hb hbn htb har hw
      refine g_m_goesRound_40 _ _ _ _ ⟨⟨by omega, by omega⟩, fun q => ?_, fun q => ?_⟩
      · exact fin_ t M1 F X D (by omega) hA h52 hc.1 hs_ R hb htb har hw q
      · have htF : ∀ h, hs h → tb t h = true → F (M1 52 9) h = false := fun h hh z => by
          have := htb h hh
          rw [z] at this
          cases w : F (M1 52 9) h
          · rfl
          · rw [w, Bool.not_true, Bool.false_and, Bool.and_false] at this
            exact absurd this (by decide)
        have htn : ∀ h, hs h → tb t h = true → h < M 55 0 := fun h hh z => by
          have := htb h hh
          rw [z] at this
          by_cases w : h < M 55 0
          · exact w
          · rw [decide_eq_false w, Bool.false_and] at this
            exact absurd this (by decide)
        obtain ⟨c1, c2, k0, hk0, hb0⟩ := cnt t (F (M1 52 9)) ht q htF
        have hor := bit_or (s := M1 52 13) (t := t) ⟨hs_.1, by omega⟩ ⟨ht.1, by omega⟩
        have hor5 := set32 hor.1 (by rw [hor.2 5 (by decide), tb5 hs_, tb5 ht]; rfl)
        have hortb : ∀ h, hs h → tb (bOr (M1 52 13) t) h = (F (M1 52 9) h || tb t h) := fun h hh => by rw [hor.2 h ⟨hh.1, by omega⟩, hb h hh]
        have horn : ∀ h, hs h → (F (M1 52 9) h || tb t h) = true → h < M 55 0 := fun h hh z => by
          rcases Bool.or_eq_true_iff.mp z with w | w
          · exact hbn h hh w
          · exact htn h hh w
        generalize hM2 : mset (mset M1 52 13 (bOr (M1 52 13) t)) 52 9 (M1 52 9 + 1) = M2
        have n55 : M2 55 = M 55 := by rw [← hM2, mset_ne (by decide), mset_ne (by decide)]; exact hA 55 (by decide)
        have n61 : M2 61 = M 61 := by rw [← hM2, mset_ne (by decide), mset_ne (by decide)]; exact hA 61 (by decide)
        have n58 : M2 58 = M1 58 := by rw [← hM2, mset_ne (by decide), mset_ne (by decide)]
        have n59 : M2 59 = M1 59 := by rw [← hM2, mset_ne (by decide), mset_ne (by decide)]
        have n60 : M2 60 = M1 60 := by rw [← hM2, mset_ne (by decide), mset_ne (by decide)]
        have n9 : M2 52 9 = M1 52 9 + 1 := by rw [← hM2, mset_eq]
        have n13 : M2 52 13 = bOr (M1 52 13) t := by rw [← hM2]; simp [mset]
        have n52 : ∀ i, i ≠ 9 → i ≠ 13 → M2 52 i = M1 52 i := fun i a1 a2 => by rw [← hM2]; simp [mset, a1, a2]
        have kg := gM_of n55 n61
        refine m_round (K := K) (F := fun h => F (M1 52 9) h || tb t h) (B.of n55) (by rw [n61]; exact hpu) (by rw [n13]; exact hor5) (fun h hh => ?_) (fun h hh z => ?_) n9 ⟨by omega, by omega⟩ (fun M3 t' X' D' hA3 i52 i59 i58 R' e59 e58 ht' htb' i60 => ?_)
        · rw [n13, hortb h hh, n55]
          cases z : (F (M1 52 9) h || tb t h)
          · rfl
          · rw [decide_eq_true (horn h hh z)]; rfl
        · rw [n13, hortb h hh] at z
          rw [n55]
          exact horn h hh z
        · rw [kg] at R' htb'
          rw [n55] at htb'
          have j9 : M3 52 9 = M1 52 9 + 1 := by rw [i52 9 (by decide) (by decide), n9]
          have j13 : M3 52 13 = bOr (M1 52 13) t := by rw [i52 13 (by decide) (by decide), n13]
          have old : ∀ r, r ≤ M1 52 9 → ¬ r = M1 52 9 + 1 := fun r h => by omega
          refine ih t' M3 (fun r h => if r = M1 52 9 + 1 then (F (M1 52 9) h || tb t h) else F r h) (fun r => if r = M1 52 9 + 1 then X' else X r) (fun r => if r = M1 52 9 + 1 then D' else D r) (by rw [j9]; omega) (fun a ha => ?_) (fun i a1 a2 a3 a4 => ?_) ?_ (by rw [j13]; exact hor5) ht' ⟨fun h hh => ?_, fun r r0 r1 => ?_, fun r r0 r1 => ⟨fun h hh => ?_, ?_⟩⟩ (fun h hh => ?_) (fun h hh => ?_) (fun h hh => ?_) (fun r r0 r1 => ?_) (fun h hh => ?_)
          · rw [hA3 a ha, ← hM2, mset_ne (fun z => ha (by rw [z]; decide)), mset_ne (fun z => ha (by rw [z]; decide)), hA a ha]
          · rw [i52 i a3 a4, n52 i a1 a2, h52 i a1 a2 a3 a4]
          · rw [j9]; simp only [if_pos]; omega
          · simp only; rw [if_neg (old 0 hc.1)]; exact R.1 h hh
          · rw [j9] at r1
            by_cases z : r = M1 52 9 + 1
            · simp only [if_pos z]; exact R'
            · simp only [if_neg z]; exact R.2.1 r r0 (by omega)
          · rw [j9] at r1
            have z := old r (by omega)
            simp only [if_neg z]
            by_cases z2 : r = M1 52 9
            · rw [if_pos (by rw [z2]), z2, htb h hh]
              cases F (M1 52 9) h
              · rfl
              · rfl
            · rw [if_neg (by omega)]; exact (R.2.2 r r0 (by omega)).1 h hh
          · rw [j9] at r1
            have z := old r (by omega)
            by_cases z2 : r = M1 52 9
            · refine ⟨k0, hk0, ?_, ?_⟩
              · simp only [if_neg z]; rw [z2]; exact htF k0 hk0 hb0
              · simp only; rw [if_pos (by rw [z2]), hb0, Bool.or_true]
            · obtain ⟨k, hk, a1, a2⟩ := (R.2.2 r r0 (by omega)).2
              refine ⟨k, hk, ?_, ?_⟩
              · simp only [if_neg z]; exact a1
              · simp only; rw [if_neg (by omega)]; exact a2
          · rw [j13, j9, hortb h hh]; simp only [if_pos]
          · rw [j9]; simp only [if_pos]; exact horn h hh
          · rw [j9]; simp only [if_pos]; exact htb' h hh
          · rw [j9] at r1
            by_cases z : r = M1 52 9 + 1
            · simp only [if_pos z]; rw [z]; exact ⟨e59, e58⟩
            · simp only [if_neg z]
              have a := har r r0 (by omega)
              refine ⟨by rw [i59 r z, n59]; exact a.1, fun h c hh hc => ?_⟩
              rw [i58 _ (by omega), n58]; exact a.2 h c hh hc
          · rw [j9, i60 h hh, n60]
            simp only [if_pos]
            have a := hw h hh
            refine ⟨fun z => ?_, fun z => ?_⟩
            · have z' := Bool.or_eq_false_iff.mp z
              rw [a.1 z'.1, z'.2]
              rfl
            · have z0 : tb t' h = false := by rw [htb' h hh, z]; simp
              rw [z0]
              rcases Bool.or_eq_true_iff.mp z with w | w
              · have b := a.2 w
                simp only [Bool.false_eq_true, if_false]
                refine ⟨b.1, by omega, ?_, ?_⟩
                · rw [if_neg (by omega)]; exact b.2.2.1
                · rw [if_neg (by omega)]; exact b.2.2.2
              · have w0 := htF h hh w
                have b := a.1 w0
                rw [if_pos w] at b
                simp only [Bool.false_eq_true, if_false]
                rw [b]
                refine ⟨by omega, by omega, ?_, ?_⟩
                · rw [if_pos rfl]; exact z
                · rw [if_neg (by omega), show M1 52 9 + 1 - 1 = M1 52 9 by omega]; exact w0
  have l12 : ∀ (n : Nat) (h : Int) (M1 : PM), 0 ≤ h → h + (n : Int) = 5 → Ag [52, 60] M M1 → (∀ i, i ≠ 9 → i ≠ 13 → M1 52 i = M 52 i) → M1 52 9 = 0 → M1 52 13 = 0 → (∀ k, 0 ≤ k → k < h → M1 60 k = 0) → G none (K + 13 + 1) jModel_goesRound 12 [(0, .inr (.inr 52)), (1, .inl h)] [] P0 P0 M1 Q := by
    intro n
    induction n with
    | zero =>
      intro h M1 h0 hn' hA h52 h9 h13 h60
      have k55 : M1 55 = M 55 := hA 55 (by decide)
      have k61 : M1 61 = M 61 := hA 61 (by decide)
      have kg := gM_of k55 k61
      refine g_m_goesRound_12 _ _ _ _ ⟨⟨by omega, by omega⟩, fun _ => ?_, fun q => absurd (by omega) q⟩
      refine m_round (K := K) (F := fun _ => false) (B.of k55) (by rw [k61]; exact hpu) (by rw [h13]; decide) (fun k hk => by rw [h13, tb_0]; rfl) (fun k hk q => by rw [h13, tb_0] at q; exact absurd q (by decide)) h9 (by decide) (fun M2 t X D hA2 i52 i59 i58 R e59 e58 ht htb i60 => ?_)
      rw [kg] at R htb
      rw [k55] at htb
      have j9 : M2 52 9 = 0 := by rw [i52 9 (by decide) (by decide), h9]
      have j13 : M2 52 13 = 0 := by rw [i52 13 (by decide) (by decide), h13]
      refine l40 5 t M2 (fun _ _ => false) (fun _ => X) (fun _ => D) (by rw [j9]; rfl) (fun a ha => ?_) (fun i a1 a2 a3 a4 => by rw [i52 i a3 a4, h52 i a1 a2]) (by rw [j9]; decide) (by rw [j13]; decide) ht ⟨fun _ _ => rfl, fun r _ _ => R, fun r r1 r2 => absurd r2 (by rw [j9]; omega)⟩ (fun k hk => by rw [j13, tb_0]) (fun k hk q => absurd q (by decide)) htb (fun r r1 r2 => ?_) (fun k hk => ⟨fun _ => ?_, fun q => absurd q (by decide)⟩)
      · rw [hA2 a ha, hA a (fun z => ha (by revert z; simp; omega))]
      · have : r = 0 := by omega
        subst this
        exact ⟨e59, e58⟩
      · rw [i60 k hk, j9, h60 k hk.1 (by omega)]
    | succ n ih =>
      intro h M1 h0 hn' hA h52 h9 h13 h60
      refine g_m_goesRound_12 _ _ _ _ ⟨⟨by omega, by omega⟩, fun q => absurd q (by omega), fun _ => ⟨⟨by omega, by omega⟩, ?_⟩⟩
      refine ih (h + 1) _ (by omega) (by omega) (hA.set (by decide)) (fun i a1 a2 => by rw [mset_ne (by decide)]; exact h52 i a1 a2) (by rw [mset_ne (by decide)]; exact h9) (by rw [mset_ne (by decide)]; exact h13) (fun k h1 h2 => ?_)
      by_cases q : k = h
      · rw [q, mset_eq]
      · have : (mset M1 60 h 0) 60 k = M1 60 k := by simp [mset, q]
        rw [this]; exact h60 k h1 (by omega)
  refine c_m_goesRound (K + 13) M Q (l12 5 0 _ (by decide) (by decide) (((Ag.rf _ _).set (by decide)).set (by decide)) (fun i a1 a2 => by simp [mset, a1, a2]) (by simp [mset]) (by simp [mset]) (fun k h1 h2 => absurd h2 (by omega)))
