/-! SETS of houses as bits -/
def tb (s k : Int) : Bool := s.toNat.testBit k.toNat
theorem fin_all {P : Int → Prop} {n : Nat} (h : ∀ i : Fin n, P ((i.val : Nat) : Int)) {x : Int} (h0 : 0 ≤ x) (h1 : x < (n : Int)) : P x := by
  have := h ⟨x.toNat, by omega⟩
  rwa [show (((⟨x.toNat, by omega⟩ : Fin n).val : Nat) : Int) = x from Int.toNat_of_nonneg h0] at this
abbrev ms (s : Int) : Prop := 0 ≤ s ∧ s < 64
abbrev mk6 (k : Int) : Prop := 0 ≤ k ∧ k < 6
theorem bit_get {s k : Int} (hs_ : ms s) (hk : mk6 k) : bAnd (bShr s k) 1 = b2i (tb s k) := by
  refine fin_all (n := 64) (P := fun s => bAnd (bShr s k) 1 = b2i (tb s k)) (fun i => ?_) hs_.1 hs_.2
  refine fin_all (n := 6) (P := fun k => bAnd (bShr ((i.val : Nat) : Int) k) 1 = b2i (tb ((i.val : Nat) : Int) k)) (fun j => ?_) hk.1 hk.2
  revert i j
  decide +kernel
theorem bit_one {k : Int} (hk : mk6 k) : ms (bShl 1 k) ∧ ∀ j, mk6 j → tb (bShl 1 k) j = decide (j = k) := by
  have h : ∀ i : Fin 6, ms (bShl 1 ((i.val : Nat) : Int)) ∧ ∀ j : Fin 6, tb (bShl 1 ((i.val : Nat) : Int)) ((j.val : Nat) : Int) = decide (((j.val : Nat) : Int) = ((i.val : Nat) : Int)) := by decide +kernel
  refine fin_all (n := 6) (P := fun k => ms (bShl 1 k) ∧ ∀ j, mk6 j → tb (bShl 1 k) j = decide (j = k)) (fun i => ⟨(h i).1, fun j hj => ?_⟩) hk.1 hk.2
  exact fin_all (n := 6) (P := fun j => tb (bShl 1 ((i.val : Nat) : Int)) j = decide (j = ((i.val : Nat) : Int))) (h i).2 hj.1 hj.2
theorem bit_or {s t : Int} (hs_ : ms s) (ht : ms t) : ms (bOr s t) ∧ ∀ j, mk6 j → tb (bOr s t) j = (tb s j || tb t j) := by
  have h : ∀ i k : Fin 64, ms (bOr ((i.val : Nat) : Int) ((k.val : Nat) : Int)) ∧ ∀ j : Fin 6, tb (bOr ((i.val : Nat) : Int) ((k.val : Nat) : Int)) ((j.val : Nat) : Int) = (tb ((i.val : Nat) : Int) ((j.val : Nat) : Int) || tb ((k.val : Nat) : Int) ((j.val : Nat) : Int)) := by decide +kernel
  refine fin_all (n := 64) (P := fun s => ms (bOr s t) ∧ ∀ j, mk6 j → tb (bOr s t) j = (tb s j || tb t j)) (fun i => ?_) hs_.1 hs_.2
  refine fin_all (n := 64) (P := fun t => ms (bOr ((i.val : Nat) : Int) t) ∧ ∀ j, mk6 j → tb (bOr ((i.val : Nat) : Int) t) j = (tb ((i.val : Nat) : Int) j || tb t j)) (fun k => ⟨(h i k).1, fun j hj => ?_⟩) ht.1 ht.2
  exact fin_all (n := 6) (P := fun j => tb (bOr ((i.val : Nat) : Int) ((k.val : Nat) : Int)) j = (tb ((i.val : Nat) : Int) j || tb ((k.val : Nat) : Int) j)) (h i k).2 hj.1 hj.2
theorem bit_ext {s t : Int} (hs_ : ms s) (ht : ms t) (h : ∀ j, mk6 j → tb s j = tb t j) : s = t := by
  have key : ∀ i k : Fin 64, (∀ j : Fin 6, tb ((i.val : Nat) : Int) ((j.val : Nat) : Int) = tb ((k.val : Nat) : Int) ((j.val : Nat) : Int)) → i = k := by decide +kernel
  have h1 := key ⟨s.toNat, by omega⟩ ⟨t.toNat, by omega⟩ (fun j => by
    have := h ((j.val : Nat) : Int) ⟨by omega, by omega⟩
    rw [show (((⟨s.toNat, by omega⟩ : Fin 64).val : Nat) : Int) = s from Int.toNat_of_nonneg hs_.1, show (((⟨t.toNat, by omega⟩ : Fin 64).val : Nat) : Int) = t from Int.toNat_of_nonneg ht.1]
    exact this)
  have h2 := congrArg Fin.val h1
  simp only at h2
  omega
theorem tb_0 (j : Int) : tb 0 j = false := by simp [tb]
/-- the columns that are in a set, from j on -/
def remf (s : Int) (j : Int) : Nat → List Int
  | 0 => []
  | n + 1 => if tb s j = true then j :: remf s (j + 1) n else remf s (j + 1) n
theorem rem_cut {s j m : Int} (hs_ : 0 ≤ s ∧ s < 32) (hj : 0 ≤ j ∧ j ≤ m) (hm : m ≤ 5) : remf s 0 m.toNat = remf s 0 j.toNat ++ remf s j (m - j).toNat := by
  have h : ∀ (i : Fin 32) (m j : Fin 6), j ≤ m → remf ((i.val : Nat) : Int) 0 (((m.val : Nat) : Int)).toNat = remf ((i.val : Nat) : Int) 0 (((j.val : Nat) : Int)).toNat ++ remf ((i.val : Nat) : Int) ((j.val : Nat) : Int) (((m.val : Nat) : Int) - ((j.val : Nat) : Int)).toNat := by decide +kernel
  have := h ⟨s.toNat, by omega⟩ ⟨m.toNat, by omega⟩ ⟨j.toNat, by omega⟩ (by show j.toNat ≤ m.toNat; omega)
  simpa only [Int.toNat_of_nonneg hs_.1, Int.toNat_of_nonneg hj.1, Int.toNat_of_nonneg (show 0 ≤ m by omega)] using this
theorem rem_out {s j m : Int} (hs_ : 0 ≤ s ∧ s < 32) (hj : 0 ≤ j ∧ j < m) (hm : m ≤ 5) (ht : tb s j = true) : (0 ≤ s - bShl 1 j ∧ s - bShl 1 j < 32) ∧ remf (s - bShl 1 j) 0 m.toNat = remf s 0 j.toNat ++ remf s (j + 1) (m - j - 1).toNat := by
  have h : ∀ (i : Fin 32) (m j : Fin 6), j < m → tb ((i.val : Nat) : Int) ((j.val : Nat) : Int) = true → (0 ≤ ((i.val : Nat) : Int) - bShl 1 ((j.val : Nat) : Int) ∧ ((i.val : Nat) : Int) - bShl 1 ((j.val : Nat) : Int) < 32) ∧ remf (((i.val : Nat) : Int) - bShl 1 ((j.val : Nat) : Int)) 0 (((m.val : Nat) : Int)).toNat = remf ((i.val : Nat) : Int) 0 (((j.val : Nat) : Int)).toNat ++ remf ((i.val : Nat) : Int) (((j.val : Nat) : Int) + 1) (((m.val : Nat) : Int) - ((j.val : Nat) : Int) - 1).toNat := by decide +kernel
  have := h ⟨s.toNat, by omega⟩ ⟨m.toNat, by omega⟩ ⟨j.toNat, by omega⟩ (by show j.toNat < m.toNat; omega)
  simp only [Int.toNat_of_nonneg hs_.1, Int.toNat_of_nonneg hj.1, Int.toNat_of_nonneg (show 0 ≤ m by omega)] at this
  exact this ht
theorem rem_next {s j : Int} (hs_ : 0 ≤ s ∧ s < 32) (hj : 0 ≤ j ∧ j < 5) : remf s 0 (j + 1).toNat = remf s 0 j.toNat ++ (if tb s j = true then [j] else []) := by
  have h : ∀ (i : Fin 32) (j : Fin 5), remf ((i.val : Nat) : Int) 0 (((j.val : Nat) : Int) + 1).toNat = remf ((i.val : Nat) : Int) 0 (((j.val : Nat) : Int)).toNat ++ (if tb ((i.val : Nat) : Int) ((j.val : Nat) : Int) = true then [((j.val : Nat) : Int)] else []) := by decide +kernel
  have := h ⟨s.toNat, by omega⟩ ⟨j.toNat, by omega⟩
  simpa only [Int.toNat_of_nonneg hs_.1, Int.toNat_of_nonneg hj.1] using this
/-- the numbers 0 .. m - 1 -/
def upto (m : Int) : List Int := remf 31 0 m.toNat
theorem rem_full {m : Int} (hm : 0 ≤ m ∧ m ≤ 5) : (0 ≤ bShl 1 m - 1 ∧ bShl 1 m - 1 < 32) ∧ remf (bShl 1 m - 1) 0 m.toNat = upto m := by
  have h : ∀ (m : Fin 6), (0 ≤ bShl 1 ((m.val : Nat) : Int) - 1 ∧ bShl 1 ((m.val : Nat) : Int) - 1 < 32) ∧ remf (bShl 1 ((m.val : Nat) : Int) - 1) 0 (((m.val : Nat) : Int)).toNat = upto ((m.val : Nat) : Int) := by decide +kernel
  exact fin_all (n := 6) (P := fun m => (0 ≤ bShl 1 m - 1 ∧ bShl 1 m - 1 < 32) ∧ remf (bShl 1 m - 1) 0 m.toNat = upto m) h hm.1 (by omega)
theorem m_isIn {K : Nat} {s k : Int} {M : PM} {Q : Option PV → PM → Prop} (hs_ : ms s) (hk : mk6 k) (h : Q (some (.inl (b2i (tb s k)))) M) : Call (K + 1) jModel_isIn [.inl s, .inl k] P0 P0 M Q := by
  have e := bit_get hs_ hk
  refine c_model_isIn K s k M Q ⟨?_, fun c => ?_, fun c => ?_⟩
  · rw [e]; exact b2i_R _
  · rw [e] at c
    cases q : tb s k
    · rw [q] at h; exact h
    · rw [q] at c; exact absurd rfl c
  · rw [e] at c
    rw [b2i_1.mp c] at h
    exact h
/-! THE MODEL's determinant -/
def en (M : PM) (sw i c : Int) : Int := if c = sw then M 65 i else M 64 ((5 * i) + c)
def rws (M : PM) (sw : Int) : Int → Nat → List (Int → Int)
  | _, 0 => []
  | i, d + 1 => en M sw i :: rws M sw (i + 1) d
def MatR (M : PM) (m : Int) : Prop := ∀ i, 0 ≤ i → i < m → R64 (M 65 i) ∧ ∀ j, 0 ≤ j → j < m → R64 (M 64 ((5 * i) + j))
theorem m_det {M : PM} {m sw : Int} (hm : M 52 17 = m) (h5 : 0 ≤ m ∧ m ≤ 5) (hR : MatR M m) (hsw : R32 sw) : ∀ (d K : Nat) (row s : Int) (Q : Option PV → PM → Prop), 0 ≤ row → row + (d : Int) = m → 0 ≤ s ∧ s < 32 →
    Q (some (.inr (.inl (dt (rws M sw row d) (remf s 0 m.toNat))))) M → Call (K + d + 2) jModel_determinant [.inr (.inr 52), .inl row, .inl s, .inl sw] P0 P0 M Q := by
  intro d
  induction d with
  | zero =>
    intro K row s Q h0 hd hs_ hq
    refine c_m_determinant (K + 1) row s sw M Q ⟨⟨by omega, by omega⟩, ⟨by omega, by omega⟩, fun c => absurd (by omega) c, fun _ => hq⟩
  | succ d ih =>
    intro K row s Q h0 hd hs_ hq
    refine c_m_determinant (K + d + 2) row s sw M Q ⟨⟨by omega, by omega⟩, ⟨by omega, by omega⟩, fun _ => ?_, fun c => absurd c (by omega)⟩
    have loop : ∀ (n : Nat) (j sum sg : Int), 0 ≤ j → j + (n : Int) = m → Q (some (.inr (.inl (sum + sg * ex (fun l => dt (rws M sw (row + 1) d) (remf s 0 j.toNat ++ l)) (en M sw row) (remf s j n))))) M →
        G none (K + d + 2 + 1) jModel_determinant 19 [(0, .inr (.inr 52)), (1, .inl row), (2, .inl s), (3, .inl sw), (4, .inr (.inl sum)), (6, .inr (.inl sg)), (8, .inl j)] [] P0 P0 M Q := by
      intro n
      induction n with
      | zero =>
        intro j sum sg hj hn h
        refine g_m_determinant_19 _ _ _ _ _ _ _ _ _ ⟨⟨by omega, by omega⟩, ⟨by omega, by omega⟩, fun _ => ?_, fun c => absurd (by omega) c⟩
        have e : sum + sg * ex (fun l => dt (rws M sw (row + 1) d) (remf s 0 j.toNat ++ l)) (en M sw row) (remf s j 0) = sum := by
          simp [remf, ex]
        rw [e] at h
        exact h
      | succ n ihn =>
        intro j sum sg hj hn h
        have hjm : j < m := by omega
        have hmem := hR row h0 (by omega)
        refine g_m_determinant_19 _ _ _ _ _ _ _ _ _ ⟨⟨by omega, by omega⟩, ⟨by omega, by omega⟩, fun c => absurd c (by omega), fun _ => m_isIn ⟨by omega, by omega⟩ ⟨by omega, by omega⟩ ⟨b2i_R _, fun c => ?_, fun c => ?_⟩⟩
        · have ht := b2i_0.mp c
          refine ihn (j + 1) sum sg (by omega) (by omega) ?_
          rw [remf, if_neg (by rw [ht]; simp)] at h
          rw [rem_next hs_ ⟨hj, by omega⟩, ht, if_neg (by simp), List.append_nil]
          exact h
        · have ht : tb s j = true := by
            cases q : tb s j
            · rw [q] at c; exact absurd rfl c
            · rfl
          obtain ⟨ho1, ho2⟩ := rem_out hs_ ⟨hj, hjm⟩ h5.2 ht
          have hnx := rem_next hs_ ⟨hj, show j < 5 by omega⟩
          rw [ht, if_pos rfl] at hnx
          have hnn : (m - j - 1).toNat = n := by omega
          rw [hnn] at ho2
          -- the step of the sum
          have hgo : ∀ v : Int, en M sw row j = v → Q (some (.inr (.inl ((sum + (sg * v) * dt (rws M sw (row + 1) d) (remf (s - bShl 1 j) 0 m.toNat)) + (-sg) * ex (fun l => dt (rws M sw (row + 1) d) (remf s 0 (j + 1).toNat ++ l)) (en M sw row) (remf s (j + 1) n))))) M := by
            intro v hv
            rw [remf, if_pos ht, ex, hv] at h
            rw [ho2, hnx]
            have e1 : ex (fun l => dt (rws M sw (row + 1) d) (remf s 0 j.toNat ++ [j] ++ l)) (en M sw row) (remf s (j + 1) n) = ex (fun l => dt (rws M sw (row + 1) d) (remf s 0 j.toNat ++ (j :: l))) (en M sw row) (remf s (j + 1) n) := ex_congr _ _ fun l => by simp
            rw [e1]
            have e2 : sum + sg * (v * dt (rws M sw (row + 1) d) (remf s 0 j.toNat ++ remf s (j + 1) n) - ex (fun l => dt (rws M sw (row + 1) d) (remf s 0 j.toNat ++ (j :: l))) (en M sw row) (remf s (j + 1) n)) = sum + sg * v * dt (rws M sw (row + 1) d) (remf s 0 j.toNat ++ remf s (j + 1) n) + -sg * ex (fun l => dt (rws M sw (row + 1) d) (remf s 0 j.toNat ++ (j :: l))) (en M sw row) (remf s (j + 1) n) := by grind
            rw [← e2]
            exact h
          refine ⟨hsw, fun c3 => ?_, fun c3 => ?_⟩
          · refine ⟨⟨by omega, by omega⟩, hmem.2 j hj hjm, fun c4 => ?_, fun c4 => ?_⟩
            · refine ih K (row + 1) (s - bShl 1 j) _ (by omega) (by omega) ho1 ?_
              refine ihn (j + 1) _ _ (by omega) (by omega) (hgo _ ?_)
              unfold en; rw [if_neg c3]
            · refine ihn (j + 1) _ _ (by omega) (by omega) ?_
              have := hgo 0 (by unfold en; rw [if_neg c3]; exact c4)
              rw [Int.mul_zero, Int.zero_mul] at this
              exact this
          · refine ⟨⟨by omega, by omega⟩, hmem.1, fun c4 => ?_, fun c4 => ?_⟩
            · refine ih K (row + 1) (s - bShl 1 j) _ (by omega) (by omega) ho1 ?_
              refine ihn (j + 1) _ _ (by omega) (by omega) (hgo _ ?_)
              unfold en; rw [if_pos c3]
            · refine ihn (j + 1) _ _ (by omega) (by omega) ?_
              have := hgo 0 (by unfold en; rw [if_pos c3]; exact c4)
              rw [Int.mul_zero, Int.zero_mul] at this
              exact this
    refine loop m.toNat 0 0 1 (by omega) (by omega) ?_
    have e : 0 + 1 * ex (fun l => dt (rws M sw (row + 1) d) (remf s 0 (0 : Int).toNat ++ l)) (en M sw row) (remf s 0 m.toNat) = dt (rws M sw row (d + 1)) (remf s 0 m.toNat) := by
      rw [rws, dt]
      simp only [Int.zero_add, Int.one_mul]
      exact ex_congr _ _ fun l => by simp [remf]
    rw [e]
    exact hq
