/-! MORE COINS: no more fail -/
theorem gt_le {g : Ck} {X X' : Int → Int → Int} {D D' : Int} (O : Okc g) (hle : Le X D X' D') {h : Int} (hh : hs h) : gt g X h * D' ≤ gt g X' h * D := by
  unfold gt
  rw [← s5_mul', ← s5_mul']
  refine s5_le fun k hk => ?_
  show s3 _ * D' ≤ s3 _ * D
  rw [← s3_mul', ← s3_mul']
  refine s3_le fun c hc => ?_
  show ckO g k h c * X k c * D' ≤ ckO g k h c * X' k c * D
  rw [Int.mul_assoc, Int.mul_assoc]
  exact Int.mul_le_mul_of_nonneg_left (hle k c hk hc) (O.2.2.2.1 k h c hk hh hc).1
theorem Clr.mono {g g' : Ck} {n : Int} {X X' : Int → Int → Int → Int} {D D' : Int → Int} {W W' s s' : Int} {wv wv' : Int → Int} (O : Okc g) (O' : Okc g') (hA : ckA g' = ckA g) (hB : ckB g' = ckB g) (hO : ckO g' = ckO g) (hC : ∀ h, hs h → ckC g h ≤ ckC g' h) (c : Clr g n X D W s wv) (c' : Clr g' n X' D' W' s' wv') : ∀ h, hs h → tb s' h = true → tb s h = true := by
  obtain ⟨hW, hs_, F, R, e, b, w⟩ := c
  obtain ⟨hW', hs', F', R', e', b', w'⟩ := c'
  have RW := R.2.1 W hW.1 (Int.le_refl W)
  have hdue : due g' = due g := by funext x c; simp only [due, hO]
  have hgt : gt g' = gt g := by funext x c; simp only [gt, hO]
  have key : ∀ r : Nat, (r : Int) ≤ W' → ∀ h, hs h → F' r h = true → F W h = true := by
    intro r
    induction r with
    | zero => intro _ h hh z; rw [show ((0 : Nat) : Int) = 0 from rfl, R'.1 h hh] at z; exact absurd z (by decide)
    | succ r ih =>
      intro h1 h hh z
      have i := ih (by omega)
      have st := (R'.2.2 r (by omega) (by omega)).1 h hh
      rw [Int.natCast_succ, st] at z
      rcases Bool.or_eq_true_iff.mp z with q | q
      · exact i h hh q
      · have q' := Bool.and_eq_true_iff.mp q
        have hl := of_decide_eq_true q'.1
        have hf := of_decide_eq_true q'.2
        cases u : F W h
        · have nf := e h hh hl u
          have Rr := R'.2.1 r (by omega) (by omega)
          have hle : Le (X W) (D W) (X' r) (D' r) := Rr.1.2 (X W) (D W) (Sub.more i hA O.1.1 hB hO hC RW.1.1)
          have hg := gt_le O hle hh
          have p1 := RW.1.1.1
          have p2 := Rr.1.1.1
          unfold fl wth at nf hf
          rw [hdue, hgt] at hf
          have nf' : (s3 fun c => due g h c) * D W ≤ ckC g h * D W + gt g (X W) h := by omega
          have a1 := Int.mul_le_mul_of_nonneg_right nf' (Int.le_of_lt p2)
          have a2 := Int.mul_lt_mul_of_pos_right hf p1
          have a3 := Int.mul_le_mul_of_nonneg_right (hC h hh) (Int.mul_nonneg (Int.le_of_lt p1) (Int.le_of_lt p2))
          rw [Int.add_mul] at a1 a2
          rw [Int.mul_assoc, Int.mul_assoc] at a1
          rw [Int.mul_assoc, Int.mul_assoc, Int.mul_comm (D' (r : Int)) (D W)] at a2
          omega
        · rfl
  intro h hh z
  rw [b' h hh] at z
  rw [b h hh]
  have := key W'.toNat (by omega) h hh
  rw [Int.toNat_of_nonneg hW'.1] at this
  exact this z
