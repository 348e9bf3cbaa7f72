/-! THE CLASS's book; sets of houses, house by house -/
def xo (M : PM) (f t c : Int) : Int := M 3 ((((f * 5) + t) * 3) + c)
def XB (M : PM) : Prop := (2 ≤ M 1 0 ∧ M 1 0 ≤ 5) ∧ (0 ≤ M 1 1 ∧ M 1 1 ≤ 10) ∧ (0 ≤ M 1 2 ∧ M 1 2 ≤ 10) ∧ (∀ h, hs h → 0 ≤ M 2 h ∧ M 2 h ≤ 200) ∧ (∀ f t c, hs f → hs t → kl c → 0 ≤ xo M f t c ∧ xo M f t c ≤ 20) ∧ (∀ f c, hs f → kl c → xo M f f c = 0) ∧
  (∀ h, hs h → M 1 0 ≤ h → M 2 h = 0) ∧ ∀ f t c, hs f → hs t → kl c → (M 1 0 ≤ f ∨ M 1 0 ≤ t) → xo M f t c = 0
def xd (M : PM) (h c : Int) : Int := s5 fun k => xo M h k c
theorem xo_of {M M' : PM} (h : M' 3 = M 3) : xo M' = xo M := by funext f t c; unfold xo; rw [h]
theorem xd_of {M M' : PM} (h : M' 3 = M 3) : xd M' = xd M := by funext f c; unfold xd; rw [xo_of h]
theorem XB.of {M M' : PM} (h1 : M' 1 = M 1) (h2 : M' 2 = M 2) (h3 : M' 3 = M 3) (B : XB M) : XB M' := by
  unfold XB at B ⊢
  rw [xo_of h3, h1, h2]
  exact B
theorem xd_b {M : PM} (B : XB M) {h c : Int} (hh : hs h) (hc : kl c) : 0 ≤ xd M h c ∧ xd M h c ≤ 80 := by
  have z := B.2.2.2.2.2.1 h c hh hc
  have o := fun k hk => B.2.2.2.2.1 h k c hh hk hc
  have := o 0 (by omega); have := o 1 (by omega); have := o 2 (by omega); have := o 3 (by omega); have := o 4 (by omega)
  simp only [xd, s5]
  rcases hs5 hh with rfl | rfl | rfl | rfl | rfl <;> omega
theorem pcs_n5 {w : Int → Int} {n : Int} (hn : 2 ≤ n ∧ n ≤ 5) (z : ∀ k, hs k → n ≤ k → w k = 0) : pcs w n.toNat = s5 w := by
  have hc : n = 2 ∨ n = 3 ∨ n = 4 ∨ n = 5 := by omega
  rcases hc with rfl | rfl | rfl | rfl
  · have z2 := z 2 (by omega) (by omega); have z3 := z 3 (by omega) (by omega); have z4 := z 4 (by omega) (by omega)
    show (0 + w 0) + w 1 = _
    simp only [s5]; omega
  · have z3 := z 3 (by omega) (by omega); have z4 := z 4 (by omega) (by omega)
    show ((0 + w 0) + w 1) + w 2 = _
    simp only [s5]; omega
  · have z4 := z 4 (by omega) (by omega)
    show (((0 + w 0) + w 1) + w 2) + w 3 = _
    simp only [s5]; omega
  · show ((((0 + w 0) + w 1) + w 2) + w 3) + w 4 = _
    simp only [s5]; omega
theorem pcs_up (w : Int → Int) {f : Int} (h0 : 0 ≤ f) : pcs w (f + 1).toNat = pcs w f.toNat + w f := by
  rw [show (f + 1).toNat = f.toNat + 1 by omega, pcs, Int.toNat_of_nonneg h0]
theorem x_amount {K : Nat} {ph : PH} (hp : phk_1 ph) {f t c : Int} {M : PM} {Q : Option PV → PM → Prop} (hf : hs f) (ht : hs t) (hc : kl c) (h : Q (some (.inl (xo M f t c))) M) : Call (K + 1) jBook_amount [.inr (.inr 1), .inl f, .inl t, .inl c] ph ph M Q :=
  c_bk_amount K ph hp f t c M Q ⟨⟨by omega, by omega⟩, h⟩
theorem x_dueIn {K : Nat} {ph : PH} (hp : phk_1 ph) {h c : Int} {M : PM} {Q : Option PV → PM → Prop} (B : XB M) (hh : hs h) (hc : kl c) (hq : Q (some (.inl (xd M h c))) M) : Call (K + 2) jBook_dueIn [.inr (.inr 1), .inl h, .inl c] ph ph M Q := by
  have hn := B.1
  have out : ∀ (n : Nat) (f v : Int), 0 ≤ f → f + (n : Int) = M 1 0 → v = pcs (fun t => xo M h t c) f.toNat → G none (K + 1 + 1) jBook_dueIn 5 [(0, .inr (.inr 1)), (1, .inl h), (2, .inl c), (3, .inl v), (4, .inl f)] [] ph ph M Q := by
    intro n
    induction n with
    | zero =>
      intro f v h0 hf hv
      refine g_bk_dueIn_5 _ _ hp _ _ _ _ _ _ ⟨⟨by omega, by omega⟩, ⟨by omega, by omega⟩, fun _ => ?_, fun q => absurd (by omega) q⟩
      rw [hv, show f = M 1 0 by omega, pcs_n5 hn (fun k hk hk2 => B.2.2.2.2.2.2.2 h k c hh hk hc (Or.inr hk2))]
      exact hq
    | succ n ih =>
      intro f v h0 hf hv
      refine g_bk_dueIn_5 _ _ hp _ _ _ _ _ _ ⟨⟨by omega, by omega⟩, ⟨by omega, by omega⟩, fun q => absurd q (by omega), fun _ => x_amount hp hh ⟨h0, by omega⟩ hc (ih (f + 1) _ (by omega) (by omega) ?_)⟩
      rw [hv, pcs_up _ h0]
  exact c_bk_dueIn (K + 1) ph hp h c M Q (out (M 1 0).toNat 0 0 (by decide) (by omega) rfl)
theorem x_dueOf {K : Nat} {h : Int} {M : PM} {Q : Option PV → PM → Prop} (B : XB M) (hh : hs h) (hq : Q (some (.inl (s3 fun c => xd M h c))) M) : Call (K + 3) jBook_dueOf [.inr (.inr 1), .inl h] P0 P0 M Q :=
  c_bk_dueOf (K + 2) h M Q (x_dueIn phk_1_P0 B hh (by decide) (x_dueIn phk_1_P0 B hh (by decide) (x_dueIn phk_1_P0 B hh (by decide) hq)))
theorem b2i_n0 {b : Bool} (h : ¬ b2i b = 0) : b = true := by
  cases b
  · exact absurd rfl h
  · rfl
/-- a set: of the houses below h just those with P -/
def Bs (s h : Int) (P : Int → Prop) : Prop := ms s ∧ ∀ k, mk6 k → (tb s k = true ↔ (k < h ∧ P k))
theorem Bs.zero (P : Int → Prop) : Bs 0 0 P := ⟨⟨by decide, by decide⟩, fun k hk => ⟨fun z => by rw [tb_0] at z; exact absurd z (by simp), fun z => absurd z.1 (by have := hk.1; omega)⟩⟩
theorem Bs.skip {s h : Int} {P : Int → Prop} (b : Bs s h P) (hn : ¬ P h) : Bs s (h + 1) P := ⟨b.1, fun k hk => by
  rw [b.2 k hk]
  constructor
  · rintro ⟨a, c⟩; exact ⟨by omega, c⟩
  · rintro ⟨a, c⟩
    refine ⟨?_, c⟩
    by_cases q : k = h
    · rw [q] at c; exact absurd c hn
    · omega⟩
theorem Bs.take {s h : Int} {P : Int → Prop} (b : Bs s h P) (hp : P h) (h6 : mk6 h) : Bs (bOr s (bShl 1 h)) (h + 1) P := by
  have h1 := bit_one h6
  have h2 := bit_or b.1 h1.1
  refine ⟨h2.1, fun k hk => ?_⟩
  rw [h2.2 k hk, h1.2 k hk, Bool.or_eq_true, decide_eq_true_eq, b.2 k hk]
  constructor
  · rintro (⟨a, c⟩ | a)
    · exact ⟨by omega, c⟩
    · rw [a]; exact ⟨by omega, hp⟩
  · rintro ⟨a, c⟩
    by_cases q : k = h
    · exact Or.inr q
    · exact Or.inl ⟨by omega, c⟩
theorem Bs.fin {s n : Int} {P : Int → Prop} (b : Bs s n P) (hn : n ≤ 5) : 0 ≤ s ∧ s < 32 := by
  refine set32 b.1 ?_
  cases q : tb s 5
  · rfl
  · have := ((b.2 5 (by decide)).mp q).1; omega
theorem Bs.at {s n : Int} {P : Int → Prop} (b : Bs s n P) {k : Int} (hk : hs k) : tb s k = true ↔ (k < n ∧ P k) := b.2 k ⟨hk.1, by omega⟩
theorem ms32 {s : Int} (h : 0 ≤ s ∧ s < 32) : ms s := ⟨h.1, by omega⟩
theorem ms_R {s : Int} (h : ms s) : R32 s := ⟨by have := h.1; omega, by have := h.2; omega⟩
/-- houses that are marked, the greatest first -/
def pls (f : Int → Int) : List Int := [4, 3, 2, 1, 0].filter fun h => decide (f h ≠ 0)
theorem pls_mem {f : Int → Int} {h : Int} : h ∈ pls f ↔ (hs h ∧ f h ≠ 0) := by
  unfold pls
  rw [List.mem_filter, decide_eq_true_eq]
  constructor
  · rintro ⟨a, b⟩
    refine ⟨?_, b⟩
    simp only [List.mem_cons, List.not_mem_nil, or_false] at a
    omega
  · rintro ⟨a, b⟩
    refine ⟨?_, b⟩
    rcases hs5 a with rfl | rfl | rfl | rfl | rfl <;> simp
theorem pls_nodup (f : Int → Int) : (pls f).Nodup := List.Nodup.sublist List.filter_sublist (by decide)
theorem pls_congr {f f' : Int → Int} (h : ∀ k, hs k → f k = f' k) : pls f = pls f' := by
  unfold pls
  refine List.filter_congr fun k hk => ?_
  simp only [List.mem_cons, List.not_mem_nil, or_false] at hk
  rw [h k (by omega)]
theorem Inl_pls {f : Int → Int} {h : Int} (hh : hs h) : Inl (pls f) h = decide (f h ≠ 0) := by
  by_cases q : f h ≠ 0
  · rw [decide_eq_true q, Inl_mem.mpr (pls_mem.mpr ⟨hh, q⟩)]
  · rw [decide_eq_false q]
    cases z : Inl (pls f) h
    · rfl
    · exact absurd (pls_mem.mp (Inl_mem.mp z)).2 q
/-- the class in which a house pays less, if it pays a little less -/
def mrg (g : Ck) (e : Int → Int) (os : List Int) (h : Int) : Int := if Inl os h = true then e h else if 2 < e h ∧ due g h 2 ≠ 0 then 2 else if 1 < e h ∧ due g h 1 ≠ 0 then 1 else if 0 < e h ∧ due g h 0 ≠ 0 then 0 else -1
theorem mrg_ok {g : Ck} {e : Int → Int} {os : List Int} {h : Int} (he : 0 ≤ e h ∧ e h ≤ 3) : Mgn g e os h (mrg g e os h) := by
  have key : ∀ c', (c' = 0 ∨ c' = 1 ∨ c' = 2 ∨ c' < 0 ∨ 3 ≤ c') := fun c' => by omega
  unfold mrg
  by_cases q : Inl os h = true
  · rw [if_pos q]; exact Or.inl ⟨Inl_mem.mp q, rfl⟩
  · rw [if_neg q]
    have hno : h ∉ os := fun z => q (Inl_mem.mpr z)
    right
    by_cases q2 : 2 < e h ∧ due g h 2 ≠ 0
    · rw [if_pos q2]; exact ⟨hno, by omega, by omega, fun _ => q2.2, fun c' h1 h2 => by omega⟩
    · rw [if_neg q2]
      by_cases q1 : 1 < e h ∧ due g h 1 ≠ 0
      · rw [if_pos q1]
        refine ⟨hno, by omega, by omega, fun _ => q1.2, fun c' h1 h2 => ?_⟩
        have : c' = 2 := by omega
        rw [this] at h2 ⊢
        exact Classical.byContradiction fun z => q2 ⟨h2, z⟩
      · rw [if_neg q1]
        by_cases q0 : 0 < e h ∧ due g h 0 ≠ 0
        · rw [if_pos q0]
          refine ⟨hno, by omega, by omega, fun _ => q0.2, fun c' h1 h2 => ?_⟩
          have : c' = 1 ∨ c' = 2 := by omega
          rcases this with z | z <;> rw [z] at h2 ⊢
          · exact Classical.byContradiction fun y => q1 ⟨h2, y⟩
          · exact Classical.byContradiction fun y => q2 ⟨h2, y⟩
        · rw [if_neg q0]
          refine ⟨hno, by omega, by omega, fun z => absurd z (by decide), fun c' h1 h2 => ?_⟩
          have : c' = 0 ∨ c' = 1 ∨ c' = 2 := by omega
          rcases this with z | z | z <;> rw [z] at h2 ⊢
          · exact Classical.byContradiction fun y => q0 ⟨h2, y⟩
          · exact Classical.byContradiction fun y => q1 ⟨h2, y⟩
          · exact Classical.byContradiction fun y => q2 ⟨h2, y⟩
theorem Mgn.det {g : Ck} {e : Int → Int} {os : List Int} {h c c' : Int} (a : Mgn g e os h c) (b : Mgn g e os h c') : c = c' := by
  rcases a with ⟨a1, a2⟩ | ⟨a1, a2, a3, a4, a5⟩
  · rcases b with ⟨b1, b2⟩ | ⟨b1, b2⟩
    · omega
    · exact absurd a1 b1
  · rcases b with ⟨b1, b2⟩ | ⟨b1, b2, b3, b4, b5⟩
    · exact absurd b1 a1
    · rcases Int.lt_or_le c c' with z | z
      · exact absurd (a5 c' z b3) (b4 (by omega))
      · rcases Int.lt_or_le c' c with y | y
        · exact absurd (b5 c y a3) (a4 (by omega))
        · omega
theorem mrg_R {g : Ck} {e : Int → Int} {os : List Int} {h : Int} (he : 0 ≤ e h ∧ e h ≤ 3) : -1 ≤ mrg g e os h ∧ mrg g e os h ≤ 3 := by
  rcases mrg_ok (g := g) (os := os) he with ⟨_, b⟩ | ⟨_, b, c, _⟩ <;> omega
/-! bounds -/
theorem rt_b {g : Ck} {X : Int → Int → Int} {D h : Int} (O : Okc g) (hD : 0 ≤ D) (hX : ∀ k c, hs k → kl c → 0 ≤ X k c ∧ X k c ≤ D) (hh : hs h) : 0 ≤ rt g X D h ∧ rt g X D h ≤ 7000 * D := by
  have h1 : ∀ k c, hs k → kl c → 0 ≤ ckO g k h c * X k c ∧ ckO g k h c * X k c ≤ 20 * D := fun k c hk hc => by
    have a := O.2.2.2.1 k h c hk hh hc
    have b := hX k c hk hc
    exact ⟨Int.mul_nonneg a.1 b.1, Int.mul_le_mul a.2 b.2 b.1 (by omega)⟩
  have h3 : ∀ k, hs k → 0 ≤ (s3 fun c => ckO g k h c * X k c) ∧ (s3 fun c => ckO g k h c * X k c) ≤ 60 * D := fun k hk => by
    have a0 := h1 k 0 hk (by decide); have a1 := h1 k 1 hk (by decide); have a2 := h1 k 2 hk (by decide)
    simp only [s3]; omega
  have hg : 0 ≤ gt g X h ∧ gt g X h ≤ 300 * D := by
    have a0 := h3 0 (by decide); have a1 := h3 1 (by decide); have a2 := h3 2 (by decide); have a3 := h3 3 (by decide); have a4 := h3 4 (by decide)
    show 0 ≤ (s5 fun k => s3 fun c => ckO g k h c * X k c) ∧ (s5 fun k => s3 fun c => ckO g k h c * X k c) ≤ 300 * D
    simp only [s5]; omega
  have hc := O.2.2.1 h hh
  have hA : 0 ≤ ckA g * ckC g h ∧ ckA g * ckC g h ≤ 10 * 400 := ⟨Int.mul_nonneg O.1.1 hc.1, Int.mul_le_mul O.1.2 hc.2 hc.1 (by omega)⟩
  have h4 : 0 ≤ ckA g * ckC g h * D ∧ ckA g * ckC g h * D ≤ (10 * 400) * D := ⟨Int.mul_nonneg hA.1 hD, Int.mul_le_mul_of_nonneg_right hA.2 hD⟩
  have h5 : 0 ≤ ckB g * gt g X h ∧ ckB g * gt g X h ≤ 10 * (300 * D) := ⟨Int.mul_nonneg O.2.1.1 hg.1, Int.mul_le_mul O.2.1.2 hg.2 hg.1 (by omega)⟩
  unfold rt
  omega
/-- what a house pays whole, if it doesn't pay partly -/
theorem yt_held {g : Ck} {e : Int → Int} {os : List Int} {p : Int → Int} {W h : Int} (he : 0 ≤ e h ∧ e h ≤ 3) (hno : h ∉ os ∨ p h = 0) : yt g (Xs g e os p W) h = W * pcs (fun c => due g h c) (e h).toNat := by
  rw [pcs_s3 he, ← s3_mul]
  unfold yt
  refine s3_congr fun c hc => ?_
  unfold Xs
  by_cases q : c < e h
  · rw [if_pos (Or.inl q), if_pos q, Int.mul_comm]
  · rw [if_neg q]
    by_cases q2 : due g h c = 0
    · rw [q2]; simp
    · rw [if_neg (by omega)]
      by_cases q3 : c = e h ∧ Inl os h = true
      · rw [if_pos q3]
        rcases hno with z | z
        · exact absurd (Inl_mem.mp q3.2) z
        · rw [z]; simp
      · rw [if_neg q3]; simp
