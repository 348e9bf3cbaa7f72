/-! THE ORDER of two fractions: both programs go the same way -/
def cq : Nat → Int → Int → Int → Int → Int → Int
  | 0, _, _, _, _, _ => 0
  | k + 1, x, y, u, v, s => if Int.tdiv x y = Int.tdiv u v then (if Int.tmod x y = 0 ∨ Int.tmod u v = 0 then (if Int.tmod x y = Int.tmod u v then 0 else if Int.tmod x y = 0 then -s else s) else cq k y (Int.tmod x y) v (Int.tmod u v) (-s)) else if Int.tdiv x y ≤ Int.tdiv u v then -s else s
theorem cq_b : ∀ (k : Nat) (x y u v s : Int), (s = 1 ∨ s = -1) → -1 ≤ cq k x y u v s ∧ cq k x y u v s ≤ 1 := by
  intro k
  induction k with
  | zero => intro x y u v s _; unfold cq; omega
  | succ k ih =>
    intro x y u v s hs_
    have i := ih y (Int.tmod x y) v (Int.tmod u v) (-s) (by omega)
    unfold cq
    split
    · split
      · split
        · omega
        · split <;> omega
      · exact i
    · split <;> omega
theorem tm_b {a b : Int} (ha : 0 ≤ a) (hb : 0 < b) : 0 ≤ Int.tmod a b ∧ Int.tmod a b < b := by
  rw [Int.tmod_eq_emod_of_nonneg ha]
  exact ⟨Int.emod_nonneg _ (by omega), Int.emod_lt_of_pos _ hb⟩
theorem tm_half {a b : Int} (hb : 0 < b) (hab : b < a) : 2 * Int.tmod a b ≤ a := by
  rw [Int.tmod_eq_emod_of_nonneg (by omega)]
  have e := Int.mul_ediv_add_emod a b
  have r := Int.emod_lt_of_pos a hb
  have q := Int.ediv_nonneg (a := a) (b := b) (by omega) (by omega)
  by_cases z : a / b = 0
  · rw [z] at e; simp at e; omega
  · have := Int.mul_le_mul_of_nonneg_left (show 1 ≤ a / b by omega) (show 0 ≤ b by omega)
    omega
theorem tm_step {x y : Int} {k : Nat} (hx : 0 ≤ x) (hy : 0 < y) (hr : ¬ Int.tmod x y = 0) (h : y * Int.tmod x y < 2 ^ (k + 1)) : Int.tmod x y * Int.tmod y (Int.tmod x y) < 2 ^ k := by
  have b := tm_b hx hy
  have t := tm_half (a := y) (b := Int.tmod x y) (by omega) b.2
  have m := Int.mul_le_mul_of_nonneg_left t b.1
  have e : Int.tmod x y * (2 * Int.tmod y (Int.tmod x y)) = 2 * (Int.tmod x y * Int.tmod y (Int.tmod x y)) := Int.mul_left_comm _ _ _
  have c : Int.tmod x y * y = y * Int.tmod x y := Int.mul_comm _ _
  rw [Int.pow_succ] at h
  omega
theorem tm_end {x y : Int} (hx : 0 ≤ x) (hy : 0 < y) (hr : ¬ Int.tmod x y = 0) (h : y * Int.tmod x y < 2 ^ 0) : False := by
  have b := tm_b hx hy
  have := Int.mul_le_mul (show 1 ≤ y by omega) (show 1 ≤ Int.tmod x y by omega) (by decide) (by omega)
  rw [Int.pow_zero] at h
  omega
theorem P63.q {a b : Int} (ha : P63 a) (hb : 0 < b) : R64 (Int.tdiv a b) := by
  have := td_le ha.1 hb
  have := td_nn ha.1 hb
  have := ha.2
  exact ⟨by omega, by omega⟩
theorem P63.m {a b : Int} (ha : P63 a) (hb : 0 < b) (hB : P63 b) : P63 (Int.tmod a b) := by
  have t := tm_b ha.1 hb
  have := hB.2
  exact ⟨t.1, by omega⟩
theorem x_order_go {K : Nat} {M : PM} {Q : Option PV → PM → Prop} : ∀ (k : Nat) (x y u v s i : Int), P63 x → P63 y → P63 u → P63 v → 0 < y → 0 < v → y * Int.tmod x y < 2 ^ k → 0 ≤ i → i + (k : Int) < 1000 → Q (some (.inl (cq (k + 1) x y u v s))) M → G none (K + 1) jRatio_order 20 [(8, .inr (.inl x)), (10, .inr (.inl y)), (12, .inr (.inl u)), (14, .inr (.inl v)), (16, .inl s), (17, .inl i)] [] P0 P0 M Q := by
  intro k
  induction k with
  | zero =>
    intro x y u v s i hx hy hu hv hy0 hv0 hk i0 ik hq
    unfold cq at hq
    refine g_ratio_order_20 _ _ _ _ _ _ _ _ _ ⟨⟨by omega, by omega⟩, fun z => absurd z (by omega), fun _ => ⟨hy.R, fun z => absurd z (by omega), fun _ => ⟨hv.R, fun z => absurd z (by omega), fun _ => ⟨hx.R, by omega, hu.R, by omega, hx.q hy0, hu.q hv0, fun q => ⟨(hx.m hy0 hy).R, fun q1 => ⟨(hu.m hv0 hv).R, fun q2 => ⟨fun q3 => absurd q1 q3, fun _ => ?_⟩, fun q2 => ?_⟩, fun q1 => ⟨(hu.m hv0 hv).R, fun q2 => (tm_end hx.1 hy0 q1 hk).elim, fun q2 => ⟨fun q3 => ⟨fun _ => ?_, fun q4 => absurd q4 q1⟩, fun q3 => ?_⟩⟩⟩, fun q => ⟨fun q1 => ?_, fun q1 => ?_⟩⟩⟩⟩⟩
    · rw [if_pos q, if_pos (Or.inl q1), if_neg q2, if_pos q1] at hq; exact hq
    · rw [if_pos q, if_pos (Or.inl q1), if_pos q2] at hq; exact hq
    · rw [if_pos q, if_pos (Or.inr q2), if_neg q3, if_neg q1] at hq; exact hq
    · rw [if_pos q, if_pos (Or.inr q2), if_pos q3] at hq; exact hq
    · rw [if_neg q, if_pos q1] at hq; exact hq
    · rw [if_neg q, if_neg q1] at hq; exact hq
  | succ k ih =>
    intro x y u v s i hx hy hu hv hy0 hv0 hk i0 ik hq
    unfold cq at hq
    have mx := hx.m hy0 hy
    have mu := hu.m hv0 hv
    refine g_ratio_order_20 _ _ _ _ _ _ _ _ _ ⟨⟨by omega, by omega⟩, fun z => absurd z (by omega), fun _ => ⟨hy.R, fun z => absurd z (by omega), fun _ => ⟨hv.R, fun z => absurd z (by omega), fun _ => ⟨hx.R, by omega, hu.R, by omega, hx.q hy0, hu.q hv0, fun q => ⟨mx.R, fun q1 => ⟨mu.R, fun q2 => ⟨fun q3 => absurd q1 q3, fun _ => ?_⟩, fun q2 => ?_⟩, fun q1 => ⟨mu.R, fun q2 => ?_, fun q2 => ⟨fun q3 => ⟨fun _ => ?_, fun q4 => absurd q4 q1⟩, fun q3 => ?_⟩⟩⟩, fun q => ⟨fun q1 => ?_, fun q1 => ?_⟩⟩⟩⟩⟩
    · rw [if_pos q, if_pos (Or.inl q1), if_neg q2, if_pos q1] at hq; exact hq
    · rw [if_pos q, if_pos (Or.inl q1), if_pos q2] at hq; exact hq
    · rw [if_pos q, if_neg (fun z => by rcases z with z | z <;> contradiction)] at hq
      exact ih y _ v _ (-s) (i + 1) hy mx hv mu (by have := mx.1; omega) (by have := mu.1; omega) (tm_step hx.1 hy0 q1 hk) (by omega) (by omega) hq
    · rw [if_pos q, if_pos (Or.inr q2), if_neg q3, if_neg q1] at hq; exact hq
    · rw [if_pos q, if_pos (Or.inr q2), if_pos q3] at hq; exact hq
    · rw [if_neg q, if_pos q1] at hq; exact hq
    · rw [if_neg q, if_neg q1] at hq; exact hq
theorem m_order_go {K : Nat} {M : PM} {Q : Option PV → PM → Prop} : ∀ (k : Nat) (x y u v s : Int), P63 x → P63 y → P63 u → P63 v → 0 < y → 0 < v → y * Int.tmod x y < 2 ^ k → Q (some (.inl (cq (k + 1) x y u v s))) M → G none (K + 1) jModel_compared 17 [(8, .inr (.inl x)), (10, .inr (.inl y)), (12, .inr (.inl u)), (14, .inr (.inl v)), (16, .inl s)] [] P0 P0 M Q := by
  intro k
  induction k with
  | zero =>
    intro x y u v s hx hy hu hv hy0 hv0 hk hq
    unfold cq at hq
    have mx := hx.m hy0 hy
    have mu := hu.m hv0 hv
    refine g_model_compared_17 _ _ _ _ _ _ _ _ ⟨hx.R, hy.R, by omega, hu.R, hv.R, by omega, hx.q hy0, hu.q hv0, fun q => ⟨mx.R, fun q1 => ⟨mu.R, fun q2 => ⟨fun _ => ?_, fun q3 => absurd (by omega) q3⟩, fun q2 => ?_⟩, fun q1 => ⟨mu.R, fun q2 => (tm_end hx.1 hy0 q1 hk).elim, fun q2 => ⟨fun q3 => ⟨fun q4 => absurd (by have := mx.1; omega) q1, fun _ => ?_⟩, fun q3 => ?_⟩⟩⟩, fun q => ⟨fun q1 => ?_, fun q1 => ?_⟩⟩
    · rw [if_pos q, if_pos (Or.inl q1), if_neg q2, if_pos q1] at hq; exact hq
    · rw [if_pos q, if_pos (Or.inl q1), if_pos q2] at hq; exact hq
    · rw [if_pos q, if_pos (Or.inr q2), if_neg q3, if_neg q1] at hq; exact hq
    · rw [if_pos q, if_pos (Or.inr q2), if_pos q3] at hq; exact hq
    · rw [if_neg q, if_pos q1] at hq; exact hq
    · rw [if_neg q, if_neg q1] at hq; exact hq
  | succ k ih =>
    intro x y u v s hx hy hu hv hy0 hv0 hk hq
    unfold cq at hq
    have mx := hx.m hy0 hy
    have mu := hu.m hv0 hv
    refine g_model_compared_17 _ _ _ _ _ _ _ _ ⟨hx.R, hy.R, by omega, hu.R, hv.R, by omega, hx.q hy0, hu.q hv0, fun q => ⟨mx.R, fun q1 => ⟨mu.R, fun q2 => ⟨fun _ => ?_, fun q3 => absurd (by omega) q3⟩, fun q2 => ?_⟩, fun q1 => ⟨mu.R, fun q2 => ?_, fun q2 => ⟨fun q3 => ⟨fun q4 => absurd (by have := mx.1; omega) q1, fun _ => ?_⟩, fun q3 => ?_⟩⟩⟩, fun q => ⟨fun q1 => ?_, fun q1 => ?_⟩⟩
    · rw [if_pos q, if_pos (Or.inl q1), if_neg q2, if_pos q1] at hq; exact hq
    · rw [if_pos q, if_pos (Or.inl q1), if_pos q2] at hq; exact hq
    · rw [if_pos q, if_neg (fun z => by rcases z with z | z <;> contradiction)] at hq
      exact ih y _ v _ (-s) hy mx hv mu (by have := mx.1; omega) (by have := mu.1; omega) (tm_step hx.1 hy0 q1 hk) hq
    · rw [if_pos q, if_pos (Or.inr q2), if_neg q3, if_neg q1] at hq; exact hq
    · rw [if_pos q, if_pos (Or.inr q2), if_pos q3] at hq; exact hq
    · rw [if_neg q, if_pos q1] at hq; exact hq
    · rw [if_neg q, if_neg q1] at hq; exact hq
theorem tm_126 {x y : Int} (hx : P63 x) (hy : P63 y) (hy0 : 0 < y) : y * Int.tmod x y < 2 ^ 126 := by
  have b := tm_b hx.1 hy0
  have := Int.mul_le_mul (show y ≤ 9223372036854775807 by have := hy.2; omega) (show Int.tmod x y ≤ 9223372036854775807 by have := hy.2; omega) b.1 (by decide)
  have e : (2 : Int) ^ 126 = 85070591730234615865843651857942052864 := by decide
  omega
/-- the order of two fractions: 1, 0 or -1 -/
def cmp (x y u v : Int) : Int := cq 127 x y u v 1
theorem cmp_R {x y u v : Int} : R32 (cmp x y u v) := by
  have := cq_b 127 x y u v 1 (Or.inl rfl)
  unfold cmp
  exact ⟨by omega, by omega⟩
theorem x_order {K : Nat} {x y u v : Int} {M : PM} {Q : Option PV → PM → Prop} (hx : P63 x) (hy : P63 y) (hu : P63 u) (hv : P63 v) (hy0 : 0 < y) (hv0 : 0 < v) (hq : Q (some (.inl (cmp x y u v))) M) : Call (K + 1) jRatio_order [.inr (.inl x), .inr (.inl y), .inr (.inl u), .inr (.inl v)] P0 P0 M Q :=
  c_ratio_order K x y u v M Q (x_order_go 126 x y u v 1 0 hx hy hu hv hy0 hv0 (tm_126 hx hy hy0) (by decide) (by decide) hq)
theorem m_compared {K : Nat} {x y u v : Int} {M : PM} {Q : Option PV → PM → Prop} (hx : P63 x) (hy : P63 y) (hu : P63 u) (hv : P63 v) (hy0 : 0 < y) (hv0 : 0 < v) (hq : Q (some (.inl (cmp x y u v))) M) : Call (K + 1) jModel_compared [.inr (.inl x), .inr (.inl y), .inr (.inl u), .inr (.inl v)] P0 P0 M Q :=
  c_model_compared K x y u v M Q (m_order_go 126 x y u v 1 hx hy hu hv hy0 hv0 (tm_126 hx hy hy0) hq)
