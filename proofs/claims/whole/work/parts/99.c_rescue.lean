/-! RESCUE: gift after gift, then who fails, and the gifts laid in a row -/
def RSt (M : PM) (a mode : Int) : Nat → (Int → Int) → Prop
  | 0, e => e = fun _ => 0
  | i + 1, e => ∃ e0 st, RSt M a mode i e0 ∧ MSt (fun h => TD (xG M e0 h a) (M 1 0)) mode (M 1 0).toNat st ∧ e = fun k => e0 k + (if k = st.1 then a else 0)
theorem RSt.b {M : PM} {a mode : Int} (ha : 0 ≤ a) : ∀ (i : Nat) (e : Int → Int), RSt M a mode i e → ∀ k, 0 ≤ e k ∧ e k ≤ (i : Int) * a := by
  intro i
  induction i with
  | zero => intro e h k; rw [show e = fun _ => 0 from h]; show (0 : Int) ≤ 0 ∧ (0 : Int) ≤ ((0 : Nat) : Int) * a; simp
  | succ i ih =>
    intro e h k
    obtain ⟨e0, st, r, m, z⟩ := h
    have := ih e0 r k
    rw [z]
    show 0 ≤ e0 k + (if k = st.1 then a else 0) ∧ e0 k + (if k = st.1 then a else 0) ≤ ((i + 1 : Nat) : Int) * a
    have e1 : ((i + 1 : Nat) : Int) * a = (i : Int) * a + a := by rw [show ((i + 1 : Nat) : Int) = (i : Int) + 1 by omega, Int.add_mul, Int.one_mul]
    rw [e1]
    split <;> omega
theorem RSt.gb {M : PM} {a mode : Int} (ha : 0 ≤ a ∧ a ≤ 30) {i : Nat} (hi : i ≤ 5) {e : Int → Int} (r : RSt M a mode i e) : Gb e a := ⟨ha.1, fun k hk => by
  have b := r.b ha.1 i e k
  have m := Int.mul_le_mul (show (i : Int) ≤ 5 by omega) ha.2 ha.1 (by decide)
  exact ⟨b.1, by omega⟩⟩
theorem RSt.gb0 {M : PM} {a mode : Int} (ha : 0 ≤ a ∧ a ≤ 30) {i : Nat} (hi : i ≤ 6) {e : Int → Int} (r : RSt M a mode i e) : Gb e 0 ∧ ∀ k, 0 ≤ e k ∧ e k ≤ 180 := by
  have w : ∀ k, 0 ≤ e k ∧ e k ≤ 180 := fun k => by
    have b := r.b ha.1 i e k
    have m := Int.mul_le_mul (show (i : Int) ≤ 6 by omega) ha.2 ha.1 (by decide)
    exact ⟨b.1, by omega⟩
  exact ⟨⟨Int.le_refl 0, fun k hk => by have := w k; omega⟩, w⟩
theorem RSt.uniq {M : PM} {a mode : Int} (B : XB M) (ha : 0 ≤ a ∧ a ≤ 30) : ∀ (i : Nat) (e e' : Int → Int), i ≤ 6 → RSt M a mode i e → RSt M a mode i e' → e = e' := by
  intro i
  induction i with
  | zero => intro e e' _ x y; exact Eq.trans x (Eq.symm y)
  | succ i ih =>
    intro e e' hi x y
    obtain ⟨e0, st, r, m, z⟩ := x
    obtain ⟨e0', st', r', m', z'⟩ := y
    have u := ih e0 e0' (by omega) r r'
    rw [← u] at m' z'
    have v := msg_uniq B (r.gb ha (by omega)) m m'
    rw [z, z', v]
/-- what is laid: the first m values, so far as there is place -/
abbrev Fit (len i k : Int) : Prop := 0 ≤ i ∧ i + k < len
def LY (c c' e : Int → Int) (base m : Int) : Prop := ∀ y, c' y = if base ≤ y ∧ y < base + m then e (y - base) else c y
def MF (len i n m : Int) : Prop := (0 ≤ m ∧ m ≤ n) ∧ (m ≤ 0 ∨ Fit len i (m - 1)) ∧ (m = n ∨ ¬ Fit len i m)
theorem MF.uniq {len i n m m' : Int} (a : MF len i n m) (b : MF len i n m') : m = m' := by
  unfold MF at a b
  omega
theorem LY.zero {c e : Int → Int} {base : Int} : LY c c e base 0 := fun y => by rw [if_neg (by omega)]
theorem LY.take {c c' c'' e : Int → Int} {base m : Int} (h : LY c c' e base m) (h0 : 0 ≤ m) (h2 : ∀ y, c'' y = if y = base + m then e m else c' y) : LY c c'' e base (m + 1) := fun y => by
  rw [h2 y]
  by_cases q : y = base + m
  · rw [if_pos q, if_pos (by omega), q]
    congr 1
    omega
  · rw [if_neg q, h y]
    by_cases w : base ≤ y ∧ y < base + m
    · rw [if_pos w, if_pos (by omega)]
    · rw [if_neg w, if_neg (by omega)]
theorem IvR.lays {M M' : PM} {a i m : Int} {e : Int → Int} (R : IvR M) (ha : 0 ≤ a ∧ a < 4) (hm : m ≤ 0 ∨ Fit (M 50 a) i (m - 1)) (hv : ∀ k, R64 (e k)) (h50 : M' 50 = M 50) (h73 : M' 73 = M 73) (h51 : LY (M 51) (M' 51) e ((a * 20) + i) m) (h72 : LY (M 72) (M' 72) e ((20 * a) + i) m) : IvR M' := by
  intro r r0 r1
  have x := R r r0 r1
  have y := (R a ha.1 ha.2).2.1
  have xb := x.2.1
  rw [h50, h73]
  refine ⟨x.1, x.2.1, fun k k0 k1 => ?_⟩
  have z := x.2.2 k k0 k1
  rw [h51, h72]
  by_cases q : r = a ∧ i ≤ k ∧ k < i + m
  · rw [if_pos (by omega), if_pos (by omega), show (r * 20 + k) - (a * 20 + i) = k - i by omega, show (20 * r + k) - (20 * a + i) = k - i by omega]
    exact ⟨rfl, hv _⟩
  · rw [if_neg (by omega), if_neg (by omega)]; exact z
theorem lay_y {K : Nat} {a i k v : Int} {M : PM} {Q : Option PV → PM → Prop} (b : -1 ≤ M 50 a ∧ M 50 a ≤ 20) (h1 : R32 a) (h2 : R32 i) (hk : 0 ≤ k ∧ k ≤ 20) (hP : (0 ≤ a ∧ a < 4) ∧ 0 ≤ i ∧ i + k < M 50 a) (h : Q (some (.inl 1)) (mset M 51 ((a * 20) + (i + k)) v)) : Call (K + 3) jRows_layAt [.inr (.inr 49), .inl a, .inl i, .inl k, .inr (.inl v)] P0 P0 M Q := by
  refine c_ro_layAt (K + 2) a i k v M Q ⟨h2, fun q => absurd q (by omega), fun _ => ⟨fun q => absurd q (by omega), fun _ => c_ro_hasPlace (K + 1) a (i + k) M _ (ro_has_y h1 hP.1 ⟨by decide, fun q => absurd q (by decide), fun _ => ⟨⟨by omega, by omega⟩, fun q => absurd q (by omega), fun _ => ⟨hP.1, ⟨by omega, by omega⟩, fun q => absurd q (by omega), fun _ => ⟨by decide, fun _ => ⟨⟨by omega, by omega⟩, ?_⟩, fun q => absurd q (by decide)⟩⟩⟩⟩)⟩⟩
  rw [Int.add_assoc]
  exact h
theorem lay_n {K : Nat} {a i k v : Int} {M : PM} {Q : Option PV → PM → Prop} (b : -1 ≤ M 50 a ∧ M 50 a ≤ 20) (h1 : R32 a) (h2 : R32 i) (hk : 0 ≤ k ∧ k ≤ 20) (ha : 0 ≤ a ∧ a < 4) (hP : ¬ (0 ≤ i ∧ i + k < M 50 a)) (h : Q (some (.inl 0)) M) : Call (K + 3) jRows_layAt [.inr (.inr 49), .inl a, .inl i, .inl k, .inr (.inl v)] P0 P0 M Q := by
  by_cases q0 : i < 0
  · exact c_ro_layAt (K + 2) a i k v M Q ⟨h2, fun _ => h, fun q => absurd q0 q⟩
  · by_cases q1 : 20 ≤ i
    · exact c_ro_layAt (K + 2) a i k v M Q ⟨h2, fun q => absurd q q0, fun _ => ⟨fun _ => h, fun q => absurd q1 q⟩⟩
    · exact c_ro_layAt (K + 2) a i k v M Q ⟨h2, fun q => absurd q q0, fun _ => ⟨fun q => absurd q q1, fun _ => c_ro_hasPlace (K + 1) a (i + k) M _ (ro_has_y h1 ha ⟨by decide, fun q => absurd q (by decide), fun _ => ⟨⟨by omega, by omega⟩, fun q => absurd q (by omega), fun _ => ⟨ha, ⟨by omega, by omega⟩, fun _ => ⟨by decide, fun q => absurd rfl q, fun _ => h⟩, fun q => absurd ⟨by omega, by omega⟩ hP⟩⟩⟩)⟩⟩
/-- the class lays -/
theorem x_lays {K : Nat} {a i n : Int} {e : Int → Int} {M : PM} {Q : Option PV → PM → Prop} (R : IvR M) (ha : 0 ≤ a ∧ a < 4) (h1 : R32 a) (h2 : R32 i) (hn : M 1 0 = n) (hn5 : 2 ≤ n ∧ n ≤ 5) (h10 : ∀ k, hs k → M 10 k = e k) (he : ∀ k, R32 (e k))
    (hq : ∀ M' m, Ag [51] M M' → MF (M 50 a) i n m → LY (M 51) (M' 51) e ((a * 20) + i) m → (R32 (if m = n then 1 else 0) ∧ (¬ (if m = n then (1 : Int) else 0) = 0 → Call (K + 5) jClearing_run [.inr (.inr 24)] P0 P0 M' (retV fun M5 => Q (some (.inl (M5 24 1))) M5)) ∧ ((if m = n then (1 : Int) else 0) = 0 → Q (some (.inl (-13))) M'))) : G none (K + 5 + 1) jClearingWaves_rescue 145 [(0, .inr (.inr 0)), (1, .inl a), (2, .inl i), (6, .inl 1), (7, .inl 0)] [] P0 P0 M Q := by
  have loop : ∀ (x : Nat) (j m : Int) (M1 : PM), j + (x : Int) = n → 0 ≤ j → Ag [51] M M1 → MF (M 50 a) i j m → LY (M 51) (M1 51) e ((a * 20) + i) m → G none (K + 5 + 1) jClearingWaves_rescue 145 [(0, .inr (.inr 0)), (1, .inl a), (2, .inl i), (6, .inl (if m = j then 1 else 0)), (7, .inl j)] [] P0 P0 M1 Q := by
    intro x
    induction x with
    | zero =>
      intro j m M1 hj j0 hA mf ly
      have e1 : M1 1 0 = n := by rw [hA 1 (by decide)]; exact hn
      rw [show j = n by omega] at mf ⊢
      exact g_x_rescue_145 _ _ _ _ _ _ _ ⟨⟨by omega, by omega⟩, by rw [e1]; exact ⟨by omega, by omega⟩, fun _ => hq M1 m hA mf ly, fun q => absurd (by rw [e1]; omega) q⟩
    | succ x ih =>
      intro j m M1 hj j0 hA mf ly
      have e1 : M1 1 0 = n := by rw [hA 1 (by decide)]; exact hn
      have e10 : M1 10 j = e j := by rw [hA 10 (by decide)]; exact h10 j ⟨j0, by omega⟩
      have ej := he j
      have e50 : M1 50 = M 50 := hA 50 (by decide)
      refine g_x_rescue_145 _ _ _ _ _ _ _ ⟨⟨by omega, by omega⟩, by rw [e1]; exact ⟨by omega, by omega⟩, fun q => absurd q (by rw [e1]; omega), fun _ => ⟨⟨by omega, by omega⟩, by rw [e10]; exact ej, ?_⟩⟩
      rw [e10]
      have y := (R a ha.1 ha.2).2.1
      by_cases f : Fit (M 50 a) i j
      · have mj : m = j := by unfold MF at mf; omega
        refine lay_y (by rw [e50]; exact y) h1 h2 ⟨j0, by omega⟩ ⟨ha, f.1, by rw [e50]; exact f.2⟩ ⟨by decide, fun q => absurd q (by decide), fun _ => ⟨by split <;> decide, fun q => ?_, fun _ => ?_⟩⟩
        · rw [if_pos mj] at q; exact absurd q (by decide)
        · have nx := ih (j + 1) (m + 1) (mset M1 51 ((a * 20) + (i + j)) (e j)) (by omega) (by omega) (hA.set (by decide)) (by unfold MF at mf ⊢; rw [show m + 1 - 1 = j by omega]; exact ⟨by omega, Or.inr f, Or.inl (by omega)⟩) (ly.take (by omega) (fun y => by rw [mset_at, mj, Int.add_assoc]))
          rw [if_pos (by omega)] at nx
          exact nx
      · have nm : MF (M 50 a) i (j + 1) m := by unfold MF at mf ⊢; omega
        refine lay_n (by rw [e50]; exact y) h1 h2 ⟨j0, by omega⟩ ha (by rw [e50]; exact f) ⟨by decide, fun _ => ?_, fun q => absurd rfl q⟩
        have nx := ih (j + 1) m M1 (by omega) (by omega) hA nm ly
        rw [if_neg (by unfold MF at mf; omega)] at nx
        exact nx
  exact loop n.toNat 0 0 M (by omega) (by decide) (Ag.rf _ _) (by unfold MF; omega) LY.zero
/-- the model lays -/
theorem m_lays {K : Nat} {a i n s : Int} {e : Int → Int} {M : PM} {Q : Option PV → PM → Prop} (ha : 0 ≤ a ∧ a < 4) (hb : -1 ≤ M 73 a ∧ M 73 a ≤ 20) (h2 : R32 i) (hn : M 55 0 = n) (hn5 : 2 ≤ n ∧ n ≤ 5) (h69 : ∀ k, hs k → M 69 k = e k) (he : ∀ k, R32 (e k))
    (hq : ∀ M' m, Ag [72] M M' → MF (M 73 a) i n m → LY (M 72) (M' 72) e ((20 * a) + i) m → Q (some (.inl (if m = n then s else -13))) M') : G none (K + 5 + 1) jModel_rescue 112 [(0, .inr (.inr 52)), (1, .inl a), (2, .inl i), (6, .inl s), (7, .inl 0)] [] P0 P0 M Q := by
  have loop : ∀ (x : Nat) (j : Int) (M1 : PM), j + (x : Int) = n → 0 ≤ j → Ag [72] M M1 → (j ≤ 0 ∨ Fit (M 73 a) i (j - 1)) → LY (M 72) (M1 72) e ((20 * a) + i) j → G none (K + 5 + 1) jModel_rescue 112 [(0, .inr (.inr 52)), (1, .inl a), (2, .inl i), (6, .inl s), (7, .inl j)] [] P0 P0 M1 Q := by
    intro x
    induction x with
    | zero =>
      intro j M1 hj j0 hA f ly
      have e1 : M1 55 0 = n := by rw [hA 55 (by decide)]; exact hn
      have fin := hq M1 j hA ⟨⟨j0, by omega⟩, f, Or.inl (by omega)⟩ ly
      rw [if_pos (by omega)] at fin
      exact g_m_rescue_112 _ _ _ _ _ _ _ ⟨⟨by omega, by omega⟩, by rw [e1]; exact ⟨by omega, by omega⟩, fun _ => ⟨fun q => absurd (by rw [e1]; omega) q, fun _ => fin⟩, fun q => absurd (by rw [e1]; omega) q⟩
    | succ x ih =>
      intro j M1 hj j0 hA f ly
      have e1 : M1 55 0 = n := by rw [hA 55 (by decide)]; exact hn
      have e69 : M1 69 j = e j := by rw [hA 69 (by decide)]; exact h69 j ⟨j0, by omega⟩
      have e73 : M1 73 = M 73 := hA 73 (by decide)
      have ej := he j
      refine g_m_rescue_112 _ _ _ _ _ _ _ ⟨⟨by omega, by omega⟩, by rw [e1]; exact ⟨by omega, by omega⟩, fun q => absurd q (by rw [e1]; omega), fun _ => ?_⟩
      by_cases ft : Fit (M 73 a) i j
      · refine m_hasPlace_y ha (by rw [e73]; exact hb) h2 ⟨j0, by omega⟩ (by rw [e73]; exact ft) ⟨by decide, fun q => absurd q (by decide), fun _ => ⟨⟨by omega, by omega⟩, by rw [e69]; exact ej, ⟨by omega, by omega⟩, ?_⟩⟩
        rw [e69]
        exact ih (j + 1) _ (by omega) (by omega) (hA.set (by decide)) (Or.inr (by rw [show j + 1 - 1 = j by omega]; exact ft)) (ly.take j0 (fun y => by rw [mset_at]))
      · have fin := hq M1 j hA ⟨⟨j0, by omega⟩, f, Or.inr ft⟩ ly
        rw [if_neg (by omega)] at fin
        exact m_hasPlace_n ha (by rw [e73]; exact hb) h2 ⟨j0, by omega⟩ (by rw [e73]; exact ft) ⟨by decide, fun _ => ⟨by rw [e1]; exact ⟨by omega, by omega⟩, fun _ => fin, fun q => absurd q (by rw [e1]; omega)⟩, fun q => absurd rfl q⟩
  exact loop n.toNat 0 M (by omega) (by decide) (Ag.rf _ _) (Or.inl (Int.le_refl 0)) LY.zero
