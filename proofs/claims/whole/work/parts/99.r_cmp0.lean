/-! Two fractions of one order are equal -/
theorem cq_0 : ∀ (k : Nat) (x y u v s : Int), 0 ≤ x → 0 ≤ u → 0 < y → 0 < v → (s = 1 ∨ s = -1) → y * Int.tmod x y < 2 ^ k → (cq (k + 1) x y u v s = 0 ↔ x * v = u * y) := by
  intro k
  induction k with
  | zero =>
    intro x y u v s hx hu hy hv hs_ hk
    have r0 : Int.tmod x y = 0 := by
      by_cases q : Int.tmod x y = 0
      · exact q
      · exact (tm_end hx hy q hk).elim
    have e1 := Int.mul_tdiv_add_tmod x y
    have e2 := Int.mul_tdiv_add_tmod u v
    have b2 := tm_b hu hv
    rw [r0] at e1
    have a1 : x * v = y * v * Int.tdiv x y := by rw [Int.mul_assoc, Int.mul_comm v, ← Int.mul_assoc]; rw [show y * Int.tdiv x y = x by omega]
    have a2 : u * y = y * v * Int.tdiv u v + Int.tmod u v * y := by
      rw [Int.mul_assoc, ← Int.mul_comm (v * Int.tdiv u v), ← Int.add_mul, e2]
    have p := Int.mul_pos hy hv
    have m0 := Int.mul_nonneg b2.1 (show 0 ≤ y by omega)
    have m1 := Int.mul_lt_mul_of_pos_right b2.2 hy
    have m2 : v * y = y * v := Int.mul_comm _ _
    unfold cq
    by_cases q : Int.tdiv x y = Int.tdiv u v
    · rw [if_pos q, if_pos (Or.inl r0), r0, a1, a2, q]
      by_cases z : 0 = Int.tmod u v
      · rw [if_pos z, ← z]; simp
      · rw [if_neg z, if_pos rfl]
        have := Int.mul_pos (show 0 < Int.tmod u v by omega) hy
        constructor
        · intro w; omega
        · intro w; omega
    · rw [if_neg q, a1, a2]
      have key : ¬ y * v * Int.tdiv x y = y * v * Int.tdiv u v + Int.tmod u v * y := by
        intro w
        rcases Int.lt_trichotomy (Int.tdiv x y) (Int.tdiv u v) with z | z | z
        · have := Int.mul_lt_mul_of_pos_left z p; omega
        · exact q z
        · have := Int.mul_le_mul_of_nonneg_left (show Int.tdiv u v + 1 ≤ Int.tdiv x y by omega) (show 0 ≤ y * v by omega)
          rw [Int.mul_add, Int.mul_one] at this
          omega
      split
      · exact ⟨fun w => by omega, fun w => absurd w key⟩
      · exact ⟨fun w => by omega, fun w => absurd w key⟩
  | succ k ih =>
    intro x y u v s hx hu hy hv hs_ hk
    have e1 := Int.mul_tdiv_add_tmod x y
    have e2 := Int.mul_tdiv_add_tmod u v
    have b1 := tm_b hx hy
    have b2 := tm_b hu hv
    have a1 : x * v = y * v * Int.tdiv x y + Int.tmod x y * v := by
      rw [Int.mul_assoc, Int.mul_comm v, ← Int.mul_assoc, ← Int.add_mul, e1]
    have a2 : u * y = y * v * Int.tdiv u v + Int.tmod u v * y := by
      rw [Int.mul_assoc, ← Int.mul_comm (v * Int.tdiv u v), ← Int.add_mul, e2]
    have p := Int.mul_pos hy hv
    have m0 := Int.mul_nonneg b2.1 (show 0 ≤ y by omega)
    have m1 := Int.mul_lt_mul_of_pos_right b2.2 hy
    have n0 := Int.mul_nonneg b1.1 (show 0 ≤ v by omega)
    have n1 := Int.mul_lt_mul_of_pos_right b1.2 hv
    have m2 : v * y = y * v := Int.mul_comm _ _
    unfold cq
    by_cases q : Int.tdiv x y = Int.tdiv u v
    · rw [if_pos q, a1, a2, q]
      by_cases z : Int.tmod x y = 0 ∨ Int.tmod u v = 0
      · rw [if_pos z]
        by_cases w : Int.tmod x y = Int.tmod u v
        · have w1 : Int.tmod u v = 0 := by omega
          rw [if_pos w, w, w1]; simp
        · rw [if_neg w]
          rcases z with z | z
          · have := Int.mul_pos (show 0 < Int.tmod u v by omega) hy
            rw [if_pos z, z]
            exact ⟨fun t => by omega, fun t => by omega⟩
          · have := Int.mul_pos (show 0 < Int.tmod x y by omega) hv
            rw [if_neg (by omega), z]
            exact ⟨fun t => by omega, fun t => by omega⟩
      · rw [if_neg z]
        have i := ih y (Int.tmod x y) v (Int.tmod u v) (-s) (by omega) (by omega) (by omega) (by omega) (by omega) (tm_step hx hy (by omega) hk)
        rw [i, Int.mul_comm y, Int.mul_comm v (Int.tmod x y)]
        constructor <;> intro t <;> omega
    · rw [if_neg q, a1, a2]
      have key : ¬ y * v * Int.tdiv x y + Int.tmod x y * v = y * v * Int.tdiv u v + Int.tmod u v * y := by
        intro w
        rcases Int.lt_trichotomy (Int.tdiv x y) (Int.tdiv u v) with z | z | z
        · have := Int.mul_le_mul_of_nonneg_left (show Int.tdiv x y + 1 ≤ Int.tdiv u v by omega) (show 0 ≤ y * v by omega)
          rw [Int.mul_add, Int.mul_one] at this
          omega
        · exact q z
        · have := Int.mul_le_mul_of_nonneg_left (show Int.tdiv u v + 1 ≤ Int.tdiv x y by omega) (show 0 ≤ y * v by omega)
          rw [Int.mul_add, Int.mul_one] at this
          omega
      split
      · exact ⟨fun w => by omega, fun w => absurd w key⟩
      · exact ⟨fun w => by omega, fun w => absurd w key⟩
theorem cmp_0 {x y u v : Int} (hx : P63 x) (hy : P63 y) (hu : 0 ≤ u) (hy0 : 0 < y) (hv0 : 0 < v) : cmp x y u v = 0 ↔ x * v = u * y := cq_0 126 x y u v 1 hx.1 hu hy0 hv0 (Or.inl rfl) (tm_126 hx hy hy0)
