/-! NET: ring after ring is taken off -/
def aft (p : Int → Int) (L k : Int) : Int := if k + 1 < L then p (k + 1) else p 0
def mnr (o : Int → Int → Int) (p : Int → Int) (L : Int) : Nat → Int
  | 0 => 20
  | k + 1 => mn2 (mnr o p L k) (o (p (k : Int)) (aft p L (k : Int)))
def tk (o : Int → Int → Int) (p : Int → Int) (L m : Int) : Nat → Int → Int → Int
  | 0 => o
  | k + 1 => fun h t => if h = p (k : Int) ∧ t = aft p L (k : Int) then o (p (k : Int)) (aft p L (k : Int)) - m else tk o p L m k h t
def nxt (o : Int → Int → Int) (p : Int → Int) (L : Int) : Int → Int → Int := tk o p L (mnr o p L L.toNat) L.toNat
def nw (n : Int) : Nat → (Int → Int → Int) → Int → Int × (Int → Int → Int)
  | 0, o, s => (s, o)
  | f + 1, o, s => match fr o n with
    | none => (s, o)
    | some (L, p) => nw n f (nxt o p L) (s + mnr o p L L.toNat * L)
theorem nw_no {n s : Int} {f : Nat} {o : Int → Int → Int} (h : fr o n = none) : nw n f o s = (s, o) := by
  cases f with
  | zero => rfl
  | succ f => rw [nw, h]
theorem nw_so {n s L : Int} {f : Nat} {o : Int → Int → Int} {p : Int → Int} (h : fr o n = some (L, p)) : nw n (f + 1) o s = nw n f (nxt o p L) (s + mnr o p L L.toNat * L) := by rw [nw, h]
/-- the debts of a class -/
def NI (n : Int) (o : Int → Int → Int) : Prop := ∀ h t, hs h → hs t → (0 ≤ o h t ∧ o h t ≤ 20) ∧ o h h = 0 ∧ ((n ≤ h ∨ n ≤ t) → o h t = 0)
/-- a ring -/
def RG (n : Int) (o : Int → Int → Int) (L : Int) (p : Int → Int) : Prop := PI n o L p ∧ (2 ≤ L ∧ L ≤ 5) ∧ 0 < o (p (L - 1)) (p 0)
theorem RG.edge {n : Int} {o : Int → Int → Int} {L : Int} {p : Int → Int} (r : RG n o L p) {k : Int} (k0 : 0 ≤ k) (k1 : k < L) : 0 < o (p k) (aft p L k) := by
  unfold aft
  split
  · exact r.1.2.2.2 k k0 (by omega)
  · rw [show k = L - 1 by omega]; exact r.2.2
theorem RG.af {n : Int} {o : Int → Int → Int} {L : Int} {p : Int → Int} (r : RG n o L p) (hn : n ≤ 5) {k : Int} (k0 : 0 ≤ k) (k1 : k < L) : hs (p k) ∧ hs (aft p L k) ∧ p k < n ∧ aft p L k < n ∧ p k ≠ aft p L k := by
  have b := r.1.inh hn
  have c := r.1.2.1
  have r2 := r.2.1
  unfold aft
  split
  · exact ⟨b k k0 k1, b (k + 1) (by omega) (by omega), (c k k0 k1).2, (c (k + 1) (by omega) (by omega)).2, fun e => by have := r.1.2.2.1 k (k + 1) k0 k1 (by omega) (by omega) e; omega⟩
  · exact ⟨b k k0 k1, b 0 (by omega) (by omega), (c k k0 k1).2, (c 0 (by omega) (by omega)).2, fun e => by have := r.1.2.2.1 k 0 k0 k1 (by omega) (by omega) e; omega⟩
theorem mnr_b {n : Int} {o : Int → Int → Int} {L : Int} {p : Int → Int} (r : RG n o L p) : ∀ k : Nat, (k : Int) ≤ L → (1 ≤ mnr o p L k ∧ mnr o p L k ≤ 20) ∧ (∀ j : Int, 0 ≤ j → j < (k : Int) → mnr o p L k ≤ o (p j) (aft p L j)) ∧ (mnr o p L k = 20 ∨ ∃ j : Int, 0 ≤ j ∧ j < (k : Int) ∧ mnr o p L k = o (p j) (aft p L j)) := by
  intro k
  induction k with
  | zero => intro _; exact ⟨⟨by show (1 : Int) ≤ 20; decide, by show (20 : Int) ≤ 20; decide⟩, fun j j0 j1 => by omega, Or.inl rfl⟩
  | succ k ih =>
    intro hk
    obtain ⟨i1, i2, i3⟩ := ih (by omega)
    have e := r.edge (k := (k : Int)) (by omega) (by omega)
    have c : mnr o p L (k + 1) = mnr o p L k ∧ mnr o p L k ≤ o (p (k : Int)) (aft p L (k : Int)) ∨ mnr o p L (k + 1) = o (p (k : Int)) (aft p L (k : Int)) ∧ o (p (k : Int)) (aft p L (k : Int)) ≤ mnr o p L k := by
      rw [mnr, mn2]
      split <;> omega
    refine ⟨by omega, fun j j0 j1 => ?_, ?_⟩
    · by_cases q : j = (k : Int)
      · rw [q]; omega
      · have := i2 j j0 (by omega); omega
    · rcases c with c | c
      · rcases i3 with z | ⟨j, j0, j1, j2⟩
        · exact Or.inl (by omega)
        · exact Or.inr ⟨j, j0, by omega, by omega⟩
      · exact Or.inr ⟨(k : Int), by omega, by omega, c.1⟩
theorem tk_old {n : Int} {o : Int → Int → Int} {L m : Int} {p : Int → Int} (r : RG n o L p) : ∀ (k : Nat), (k : Int) ≤ L → ∀ j : Int, (k : Int) ≤ j → j < L → ∀ t, tk o p L m k (p j) t = o (p j) t := by
  intro k
  induction k with
  | zero => intro _ j _ _ t; rfl
  | succ k ih =>
    intro hk j h0 h1 t
    have ne : ¬ (p j = p (k : Int) ∧ t = aft p L (k : Int)) := fun z => by have := r.1.2.2.1 j (k : Int) (by omega) h1 (by omega) (by omega) z.1; omega
    rw [tk]
    show (if p j = p (k : Int) ∧ t = aft p L (k : Int) then _ else tk o p L m k (p j) t) = _
    rw [if_neg ne]
    exact ih (by omega) j (by omega) h1 t
theorem tk_v {n : Int} {o : Int → Int → Int} {L m : Int} {p : Int → Int} (r : RG n o L p) : ∀ (k : Nat), (k : Int) ≤ L → ∀ h t, tk o p L m k h t = o h t ∨ (∃ j : Int, 0 ≤ j ∧ j < (k : Int) ∧ h = p j ∧ t = aft p L j ∧ tk o p L m k h t = o h t - m) := by
  intro k
  induction k with
  | zero => intro _ h t; exact Or.inl rfl
  | succ k ih =>
    intro hk h t
    have i := ih (by omega) h t
    rw [tk]
    show (if h = p (k : Int) ∧ t = aft p L (k : Int) then o (p (k : Int)) (aft p L (k : Int)) - m else tk o p L m k h t) = _ ∨ ∃ j : Int, _ ∧ _ ∧ _ ∧ _ ∧ (if h = p (k : Int) ∧ t = aft p L (k : Int) then o (p (k : Int)) (aft p L (k : Int)) - m else tk o p L m k h t) = _
    by_cases q : h = p (k : Int) ∧ t = aft p L (k : Int)
    · rw [if_pos q]
      exact Or.inr ⟨(k : Int), by omega, by omega, q.1, q.2, by rw [← q.1, ← q.2]⟩
    · rw [if_neg q]
      rcases i with z | ⟨j, j0, j1, j2, j3, j4⟩
      · exact Or.inl z
      · exact Or.inr ⟨j, j0, by omega, j2, j3, j4⟩
theorem tk_hit {n : Int} {o : Int → Int → Int} {L m : Int} {p : Int → Int} (r : RG n o L p) : ∀ (k : Nat), (k : Int) ≤ L → ∀ j : Int, 0 ≤ j → j < (k : Int) → tk o p L m k (p j) (aft p L j) = o (p j) (aft p L j) - m := by
  intro k
  induction k with
  | zero => intro _ j j0 j1; omega
  | succ k ih =>
    intro hk j j0 j1
    rw [tk]
    show (if p j = p (k : Int) ∧ aft p L j = aft p L (k : Int) then o (p (k : Int)) (aft p L (k : Int)) - m else tk o p L m k (p j) (aft p L j)) = _
    by_cases q : j = (k : Int)
    · rw [q, if_pos ⟨rfl, rfl⟩]
    · rw [if_neg (fun z => q (r.1.2.2.1 j (k : Int) j0 (by omega) (by omega) (by omega) z.1))]
      exact ih (by omega) j j0 (by omega)
theorem RG.ni {n : Int} {o : Int → Int → Int} {L : Int} {p : Int → Int} (r : RG n o L p) (hn : n ≤ 5) (N : NI n o) (k : Nat) (hk : (k : Int) ≤ L) : NI n (tk o p L (mnr o p L L.toNat) k) := by
  have r2 := r.2.1
  have mb := mnr_b r L.toNat (by omega)
  intro h t hh ht
  have N1 := N h t hh ht
  have v := tk_v (m := mnr o p L L.toNat) r k hk h t
  have d : tk o p L (mnr o p L L.toNat) k h h = 0 := by
    rcases tk_v (m := mnr o p L L.toNat) r k hk h h with z | ⟨j, j0, j1, j2, j3, _⟩
    · rw [z]; exact N1.2.1
    · exact absurd (by rw [← j2, ← j3]) (r.af hn j0 (by omega)).2.2.2.2
  rcases v with z | ⟨j, j0, j1, j2, j3, j4⟩
  · rw [z]; exact ⟨N1.1, d, N1.2.2⟩
  · have a := r.af hn j0 (show j < L by omega)
    have le := mb.2.1 j j0 (by omega)
    rw [← j2, ← j3] at le a
    rw [j4]
    exact ⟨by omega, d, fun z => by omega⟩
def cnt2 (o : Int → Int → Int) : Int := s5 fun h => s5 fun t => if 0 < o h t then 1 else 0
theorem cnt2_b (o : Int → Int → Int) : 0 ≤ cnt2 o ∧ cnt2 o ≤ 25 := by
  have b : ∀ h t, 0 ≤ (if 0 < o h t then (1 : Int) else 0) ∧ (if 0 < o h t then (1 : Int) else 0) ≤ 1 := fun h t => by split <;> decide
  refine ⟨s5_nn fun h _ => s5_nn fun t _ => (b h t).1, ?_⟩
  have : cnt2 o ≤ s5 fun _ => s5 fun _ => 1 := s5_le fun h _ => s5_le fun t _ => (b h t).2
  have e : (s5 fun _ => s5 fun _ => (1 : Int)) = 25 := by decide
  omega
theorem cnt2_dec {n : Int} {o : Int → Int → Int} {L : Int} {p : Int → Int} (r : RG n o L p) (hn : n ≤ 5) (N : NI n o) : cnt2 (nxt o p L) + 1 ≤ cnt2 o := by
  have r2 := r.2.1
  have mb := mnr_b r L.toNat (by omega)
  have le : ∀ h t, (if 0 < nxt o p L h t then (1 : Int) else 0) ≤ if 0 < o h t then 1 else 0 := fun h t => by
    have v := tk_v (m := mnr o p L L.toNat) r L.toNat (by omega) h t
    have : nxt o p L h t ≤ o h t := by
      rcases v with z | ⟨j, _, _, _, _, z⟩
      · show tk _ _ _ _ _ _ _ ≤ _; omega
      · show tk _ _ _ _ _ _ _ ≤ _; omega
    split <;> split <;> omega
  have hit : ∃ j : Int, 0 ≤ j ∧ j < L ∧ mnr o p L L.toNat = o (p j) (aft p L j) := by
    rcases mb.2.2 with z | ⟨j, j0, j1, j2⟩
    · have a := r.af hn (k := 0) (by omega) (by omega)
      have b := (N _ _ a.1 a.2.1).1
      have c := mb.2.1 0 (by omega) (by omega)
      exact ⟨0, by omega, by omega, by omega⟩
    · exact ⟨j, j0, by omega, j2⟩
  obtain ⟨j, j0, j1, j2⟩ := hit
  have a := r.af hn j0 j1
  have z : nxt o p L (p j) (aft p L j) = 0 := by
    show tk o p L (mnr o p L L.toNat) L.toNat (p j) (aft p L j) = 0
    rw [tk_hit r L.toNat (by omega) j j0 (by omega)]
    omega
  have e := r.edge j0 j1
  have d : ∀ h t, 0 ≤ (if 0 < o h t then (1 : Int) else 0) - (if 0 < nxt o p L h t then (1 : Int) else 0) := fun h t => by have := le h t; omega
  have e1 : cnt2 o - cnt2 (nxt o p L) = s5 fun h => s5 fun t => (if 0 < o h t then (1 : Int) else 0) - (if 0 < nxt o p L h t then (1 : Int) else 0) := by
    unfold cnt2
    rw [← s5_sub]
    refine s5_congr fun h _ => ?_
    rw [← s5_sub]
  have e2 := s5_ge1 (f := fun h => s5 fun t => (if 0 < o h t then (1 : Int) else 0) - (if 0 < nxt o p L h t then (1 : Int) else 0)) (fun h _ => s5_nn fun t _ => d h t) a.1
  have e3 := s5_ge1 (f := fun t => (if 0 < o (p j) t then (1 : Int) else 0) - (if 0 < nxt o p L (p j) t then (1 : Int) else 0)) (fun t _ => d (p j) t) a.2.1
  have e4 : (if 0 < o (p j) (aft p L j) then (1 : Int) else 0) - (if 0 < nxt o p L (p j) (aft p L j) then (1 : Int) else 0) = 1 := by rw [if_pos e, z]; rfl
  have e3' : 1 ≤ s5 fun t => (if 0 < o (p j) t then (1 : Int) else 0) - (if 0 < nxt o p L (p j) t then (1 : Int) else 0) := Int.le_trans (Int.le_of_eq e4.symm) e3
  have e2' : (s5 fun t => (if 0 < o (p j) t then (1 : Int) else 0) - (if 0 < nxt o p L (p j) t then (1 : Int) else 0)) ≤ cnt2 o - cnt2 (nxt o p L) := by rw [e1]; exact e2
  omega
