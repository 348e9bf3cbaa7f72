/-! THE WORTH of a fund: both programs -/
def rk (u : Int → Int) (X : Int → Int → Int) (D : Int) : Nat → Option (Int × Int)
  | 0 => some (0, 1)
  | k + 1 => match rk u X D k with
    | none => none
    | some st => if 0 < u (k : Int) then (if okA st.1 st.2 (u (k : Int)) (tlw (X ((k : Int) / 3) ((k : Int) % 3)) D 0) (tlw (X ((k : Int) / 3) ((k : Int) % 3)) D 1) then some (tlw (st.1 * tlw (X ((k : Int) / 3) ((k : Int) % 3)) D 1 + (u (k : Int) * tlw (X ((k : Int) / 3) ((k : Int) % 3)) D 0) * st.2) (st.2 * tlw (X ((k : Int) / 3) ((k : Int) % 3)) D 1) 0, tlw (st.1 * tlw (X ((k : Int) / 3) ((k : Int) % 3)) D 1 + (u (k : Int) * tlw (X ((k : Int) / 3) ((k : Int) % 3)) D 0) * st.2) (st.2 * tlw (X ((k : Int) / 3) ((k : Int) % 3)) D 1) 1) else none) else some st
theorem rk_none {u : Int → Int} {X : Int → Int → Int} {D : Int} {k : Nat} (h : rk u X D k = none) : ∀ n : Nat, k ≤ n → rk u X D n = none := by
  intro n hn
  induction n with
  | zero => rw [show k = 0 by omega] at h; exact h
  | succ n ih =>
    by_cases q : k = n + 1
    · rw [← q]; exact h
    · rw [rk, ih (by omega)]
theorem rk_skip {u : Int → Int} {X : Int → Int → Int} {D : Int} {k : Nat} {st : Int × Int} (h : rk u X D k = some st) (hu : ¬ 0 < u (k : Int)) : rk u X D (k + 1) = some st := by rw [rk, h]; exact if_neg hu
theorem rk_no {u : Int → Int} {X : Int → Int → Int} {D : Int} {k : Nat} {st : Int × Int} (h : rk u X D k = some st) (hu : 0 < u (k : Int)) (n : ¬ okA st.1 st.2 (u (k : Int)) (tlw (X ((k : Int) / 3) ((k : Int) % 3)) D 0) (tlw (X ((k : Int) / 3) ((k : Int) % 3)) D 1)) : rk u X D (k + 1) = none := by
  rw [rk, h]
  exact (if_pos hu).trans (if_neg n)
theorem rk_yes {u : Int → Int} {X : Int → Int → Int} {D : Int} {k : Nat} {st : Int × Int} (h : rk u X D k = some st) (hu : 0 < u (k : Int)) (y : okA st.1 st.2 (u (k : Int)) (tlw (X ((k : Int) / 3) ((k : Int) % 3)) D 0) (tlw (X ((k : Int) / 3) ((k : Int) % 3)) D 1)) : rk u X D (k + 1) = some (tlw (st.1 * tlw (X ((k : Int) / 3) ((k : Int) % 3)) D 1 + (u (k : Int) * tlw (X ((k : Int) / 3) ((k : Int) % 3)) D 0) * st.2) (st.2 * tlw (X ((k : Int) / 3) ((k : Int) % 3)) D 1) 0, tlw (st.1 * tlw (X ((k : Int) / 3) ((k : Int) % 3)) D 1 + (u (k : Int) * tlw (X ((k : Int) / 3) ((k : Int) % 3)) D 0) * st.2) (st.2 * tlw (X ((k : Int) / 3) ((k : Int) % 3)) D 1) 1) := by
  rw [rk, h]
  exact (if_pos hu).trans (if_pos y)
theorem rk_zero {u : Int → Int} {X : Int → Int → Int} {D : Int} {k : Nat} (hz : ∀ j : Nat, k ≤ j → u (j : Int) = 0) : ∀ n : Nat, k ≤ n → rk u X D n = rk u X D k := by
  intro n hn
  induction n with
  | zero => rw [show k = 0 by omega]
  | succ n ih =>
    by_cases q : k = n + 1
    · rw [q]
    · rw [← ih (by omega)]
      cases z : rk u X D n with
      | none => exact rk_none z (n + 1) (by omega)
      | some st => exact rk_skip z (by rw [hz n (by omega)]; decide)
theorem tlw_red {S T : Int} (hS : 0 ≤ S) (hT : 0 < T) : Int.gcd (tlw S T 0) (tlw S T 1) = 1 := by
  have e0 : tlw S T 0 = S / ((Int.gcd S T : Nat) : Int) := by unfold tlw; rw [if_pos rfl, td_ed hS]
  have e1 : tlw S T 1 = T / ((Int.gcd S T : Nat) : Int) := by unfold tlw; rw [if_neg (by decide), td_ed (by omega)]
  rw [e0, e1]
  exact Int.gcd_ediv_gcd_ediv_gcd (Int.gcd_pos_iff.mpr (Or.inr (by omega)))
theorem tlw_id {t b w : Int} (h : Int.gcd t b = 1) : tlw t b w = if w = 0 then t else b := by
  unfold tlw
  rw [h]
  split <;> simp
theorem rk_b {u : Int → Int} {X : Int → Int → Int} {D : Int} (hD : P63 D) (hD0 : 0 < D) (hX : ∀ h c, hs h → kl c → P63 (X h c)) (hu : ∀ k : Int, 0 ≤ k → k < 15 → P_1 (u k)) : ∀ (k : Nat) (st : Int × Int), k ≤ 15 → rk u X D k = some st → P_1 st.1 ∧ P_1 st.2 ∧ 0 < st.2 ∧ Int.gcd st.1 st.2 = 1 := by
  intro k
  induction k with
  | zero =>
    intro st _ h
    have e : (0, 1) = st := by rw [rk] at h; injection h
    rw [← e]; decide
  | succ k ih =>
    intro st hk h
    cases z : rk u X D k with
    | none => rw [rk_none z (k + 1) (by omega)] at h; exact absurd h (by simp)
    | some s0 =>
      have i := ih s0 (by omega) z
      by_cases hu0 : 0 < u (k : Int)
      · by_cases ok : okA s0.1 s0.2 (u (k : Int)) (tlw (X ((k : Int) / 3) ((k : Int) % 3)) D 0) (tlw (X ((k : Int) / 3) ((k : Int) % 3)) D 1)
        · rw [rk_yes z hu0 ok] at h
          have x := hX ((k : Int) / 3) ((k : Int) % 3) ⟨by omega, by omega⟩ ⟨by omega, by omega⟩
          have c0 := tlw_b (w := 0) x hD hD0
          have d0 := tlw_b (w := 1) x hD hD0
          have d1 := tlw_1 (X := X ((k : Int) / 3) ((k : Int) % 3)) hD hD0
          have uu := hu (k : Int) (by omega) (by omega)
          have n1 := Int.mul_nonneg i.1.1 d0.1
          have n3 := Int.mul_nonneg (Int.mul_nonneg uu.1 c0.1) i.2.1.1
          have n5 := Int.mul_pos i.2.2.1 d1
          obtain ⟨k1, k2, k3, k4, k5⟩ := ok
          obtain ⟨S, hS⟩ : ∃ S, S = s0.1 * tlw (X ((k : Int) / 3) ((k : Int) % 3)) D 1 + (u (k : Int) * tlw (X ((k : Int) / 3) ((k : Int) % 3)) D 0) * s0.2 := ⟨_, rfl⟩
          obtain ⟨T, hT⟩ : ∃ T, T = s0.2 * tlw (X ((k : Int) / 3) ((k : Int) % 3)) D 1 := ⟨_, rfl⟩
          rw [← hS, ← hT] at h
          have e : (tlw S T 0, tlw S T 1) = st := by injection h
          rw [← hS] at k4
          rw [← hT] at k5 n5
          have pS : P63 S := ⟨by omega, by omega⟩
          have pT : P63 T := ⟨by omega, by omega⟩
          have a := tlw_b (w := 0) pS pT n5
          have b := tlw_b (w := 1) pS pT n5
          rw [← e]
          exact ⟨⟨a.1, by have := a.2; show tlw S T 0 ≤ _; omega⟩, ⟨b.1, by have := b.2; show tlw S T 1 ≤ _; omega⟩, tlw_1 pT n5, tlw_red pS.1 n5⟩
        · rw [rk_no z hu0 ok] at h; exact absurd h (by simp)
      · rw [rk_skip z hu0] at h
        have e : s0 = st := by injection h
        rw [← e]; exact i
/-- the units of a fund -/
def un (M : PM) (f k : Int) : Int := M 4 ((15 * f) + k)
theorem un_b {M : PM} (I : Iv M) {f k : Int} (hf : 0 ≤ f ∧ f < 3) (h0 : 0 ≤ k) (h1 : k < 15) : P_1 (un M f k) ∧ (M 1 0 * 3 ≤ k → un M f k = 0) ∧ M 53 ((83 + (15 * f)) + k) = un M f k := by
  have bv := I.1.1
  have b := bv.2.1.1 ((15 * f) + k) (by omega) (by omega)
  refine ⟨⟨b.1, by show M 4 _ ≤ _; omega⟩, fun hl => ?_, ?_⟩
  · have z := bv.2.1.2 f (k / 3) (k % 3) (by omega) (by omega) ⟨by omega, by omega⟩ ⟨by omega, by omega⟩ (by omega)
    unfold un
    rw [show (15 * f) + k = d3 f (k / 3) (k % 3) by unfold d3; omega]
    exact z
  · have := bv.2.2.2.2.2.2.2 ((15 * f) + k) (by omega) (by omega)
    unfold un
    rw [this]
    congr 1
    omega
theorem x_reckon {K : Nat} {f : Int} {M : PM} {X : Int → Int → Int → Int} {D : Int → Int} {Q : Option PV → PM → Prop} (I : Iv M) (cf : CF M X D) (hf : 0 ≤ f ∧ f < 3)
    (hq : ∀ M' v, Ag [42] M M' → ((rk (un M f) (X (M 11 0)) (D (M 11 0)) 15 = none ∧ v = 0) ∨ ∃ st, rk (un M f) (X (M 11 0)) (D (M 11 0)) 15 = some st ∧ v = 1 ∧ M' 42 0 = st.1 ∧ M' 42 1 = st.2) → Q (some (.inl v)) M') : Call (K + 4) jWorth_reckon [.inr (.inr 42), .inr (.inr 1), .inr (.inr 11), .inl f] P0 P0 M Q := by
  have B := I.1.xb
  have hn := B.1
  have hw := cf.2.1
  have c := cf.2.2.1 (M 11 0) hw.1 (Int.le_refl _)
  have dp := D_P cf hw.1 (Int.le_refl _)
  have hX : ∀ h e, hs h → kl e → P63 (X (M 11 0) h e) := fun h e hh he => by have := c.2.1 h e hh he; exact ⟨this.1, by omega⟩
  obtain ⟨R, hR⟩ : ∃ R, R = rk (un M f) (X (M 11 0)) (D (M 11 0)) := ⟨_, rfl⟩
  rw [← hR] at hq
  have loop : ∀ (m k : Nat) (st : Int × Int) (M1 : PM), k + m = (M 1 0 * 3).toNat → Ag [42] M M1 → R k = some st → M1 42 0 = st.1 → M1 42 1 = st.2 → G none (K + 3 + 1) jWorth_reckon 13 [(0, .inr (.inr 42)), (1, .inr (.inr 1)), (2, .inr (.inr 11)), (3, .inl f), (4, .inl (k : Int))] [] P0 P0 M1 Q := by
    intro m
    induction m with
    | zero =>
      intro k st M1 hk hA hr t0 t1
      have e1 : M1 1 = M 1 := hA 1 (by decide)
      refine g_wo_reckon_13 _ _ _ _ _ ⟨⟨by omega, by omega⟩, by rw [e1]; exact ⟨by omega, by omega⟩, fun _ => hq M1 1 hA (Or.inr ⟨st, ?_, rfl, t0, t1⟩), fun z => absurd (by rw [e1]; omega) z⟩
      have zz : ∀ n : Nat, k ≤ n → n ≤ 15 → R n = some st := by
        intro n
        induction n with
        | zero => intro h _; rw [show k = 0 by omega] at hr; exact hr
        | succ n ihn =>
          intro h h2
          by_cases q : k = n + 1
          · rw [← q]; exact hr
          · have i := ihn (by omega) (by omega)
            rw [hR] at i ⊢
            exact rk_skip i (by rw [(un_b I hf (k := (n : Int)) (by omega) (by omega)).2.1 (by omega)]; decide)
      exact zz 15 (by omega) (by decide)
    | succ m ih =>
      intro k st M1 hk hA hr t0 t1
      have e1 : M1 1 = M 1 := hA 1 (by decide)
      have e4 : M1 4 = M 4 := hA 4 (by decide)
      have e11 : M1 11 = M 11 := hA 11 (by decide)
      have k15 : (k : Int) < 15 := by omega
      have b := rk_b dp.1 dp.2.1 hX (fun j j0 j1 => (un_b I hf j0 j1).1) k st (by omega) (by rw [← hR]; exact hr)
      have ub := (un_b I hf (k := (k : Int)) (by omega) k15).1
      have ed : Int.tdiv (k : Int) 3 = (k : Int) / 3 := td_ed (by omega)
      have em : Int.tmod (k : Int) 3 = (k : Int) % 3 := Int.tmod_eq_emod_of_nonneg (by omega)
      have hh : hs ((k : Int) / 3) := ⟨by omega, by omega⟩
      have hc : kl ((k : Int) % 3) := ⟨by omega, by omega⟩
      refine g_wo_reckon_13 _ _ _ _ _ ⟨⟨by omega, by omega⟩, by rw [e1]; exact ⟨by omega, by omega⟩, fun z => absurd z (by rw [e1]; omega), fun _ => c_book_unitPlace _ _ _ _ _ _ ⟨by rw [ed, em]; omega, ?_⟩⟩
      rw [ed, em]
      refine cp_top_ (by rw [e11]; exact hw) hh hc ?_
      have eu : M1 4 ((((f * 5) + (k : Int) / 3) * 3) + (k : Int) % 3) = un M f (k : Int) := by rw [e4]; unfold un; congr 1; omega
      have ex : cp_X M1 (M1 11 0) ((k : Int) / 3) ((k : Int) % 3) = X (M 11 0) ((k : Int) / 3) ((k : Int) % 3) := by
        rw [← c.2.2.2 _ _ hh hc, e11]
        unfold cp_X
        rw [hA 13 (by decide)]
      rw [eu, ex]
      refine ⟨ub.R, fun z => ?_, fun z => cp_bottom_ (by rw [e11]; exact hw) ?_⟩
      · have nx := ih (k + 1) st M1 (by omega) hA (by rw [hR] at hr ⊢; exact rk_skip hr (by omega)) t0 t1
        rw [show ((k + 1 : Nat) : Int) = (k : Int) + 1 by omega] at nx
        exact nx
      · have eb : M1 14 (M1 11 0) = D (M 11 0) := by rw [e11, hA 14 (by decide)]; exact c.2.2.1
        rw [eb]
        refine x_addUnits (hX _ _ hh hc) dp.1 dp.2.1 ub t0 t1 b.1 b.2.1 b.2.2.1 (fun ok => ⟨by decide, fun _ => ?_, fun w => absurd w (by decide)⟩) (fun no => ⟨by decide, fun w => absurd rfl w, fun _ => hq M1 0 hA (Or.inl ⟨?_, rfl⟩)⟩)
        · have nx : ∀ (s0 s1 : Int), R (k + 1) = some (s0, s1) → G none (K + 3 + 1) jWorth_reckon 13 [(0, .inr (.inr 42)), (1, .inr (.inr 1)), (2, .inr (.inr 11)), (3, .inl f), (4, .inl ((k : Int) + 1))] [] P0 P0 (mset (mset M1 42 0 s0) 42 1 s1) Q := fun s0 s1 h => by
            have := ih (k + 1) (s0, s1) (mset (mset M1 42 0 s0) 42 1 s1) (by omega) ((hA.set (by decide)).set (by decide)) h (by rw [mset_at, if_neg (by decide), mset_eq]) mset_eq
            rw [show ((k + 1 : Nat) : Int) = (k : Int) + 1 by omega] at this
            exact this
          exact nx _ _ (by rw [hR] at hr ⊢; exact rk_yes hr (by omega) ok)
        · rw [hR] at hr ⊢
          exact rk_none (rk_no hr (by omega) no) 15 (by omega)
  refine c_wo_reckon (K + 3) f M Q (loop (M 1 0 * 3).toNat 0 (0, 1) _ (by omega) (((Ag.rf _ _).set (by decide)).set (by decide)) (by rw [hR]; rfl) (by rw [mset_at, if_neg (by decide), mset_eq]) mset_eq)
