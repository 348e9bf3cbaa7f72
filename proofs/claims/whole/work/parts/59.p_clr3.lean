/-! DETERMINANTS by sets of columns, the greatest first -/
def dnl : Nat → List Int
  | 0 => []
  | k + 1 => ((k : Nat) : Int) :: dnl k
def remd (s : Int) : Nat → List Int
  | 0 => []
  | k + 1 => if tb s ((k : Nat) : Int) = true then ((k : Nat) : Int) :: remd s k else remd s k
def c6 (s : Int) : Int := ((remd s 6).length : Int)
def hid (s c : Int) : List Int := (remd s 6).filter fun x => decide (c < x)
def bct (a1 : Int) : Int := (bAnd (((bAnd (((bAnd (a1 - (bAnd (bUsr a1 1) 1431655765)) 858993459) + (bAnd (bUsr (a1 - (bAnd (bUsr a1 1) 1431655765)) 2) 858993459)) + (bUsr ((bAnd (a1 - (bAnd (bUsr a1 1) 1431655765)) 858993459) + (bAnd (bUsr (a1 - (bAnd (bUsr a1 1) 1431655765)) 2) 858993459)) 4)) 252645135) + (bUsr (bAnd (((bAnd (a1 - (bAnd (bUsr a1 1) 1431655765)) 858993459) + (bAnd (bUsr (a1 - (bAnd (bUsr a1 1) 1431655765)) 2) 858993459)) + (bUsr ((bAnd (a1 - (bAnd (bUsr a1 1) 1431655765)) 858993459) + (bAnd (bUsr (a1 - (bAnd (bUsr a1 1) 1431655765)) 2) 858993459)) 4)) 252645135) 8)) + (bUsr ((bAnd (((bAnd (a1 - (bAnd (bUsr a1 1) 1431655765)) 858993459) + (bAnd (bUsr (a1 - (bAnd (bUsr a1 1) 1431655765)) 2) 858993459)) + (bUsr ((bAnd (a1 - (bAnd (bUsr a1 1) 1431655765)) 858993459) + (bAnd (bUsr (a1 - (bAnd (bUsr a1 1) 1431655765)) 2) 858993459)) 4)) 252645135) + (bUsr (bAnd (((bAnd (a1 - (bAnd (bUsr a1 1) 1431655765)) 858993459) + (bAnd (bUsr (a1 - (bAnd (bUsr a1 1) 1431655765)) 2) 858993459)) + (bUsr ((bAnd (a1 - (bAnd (bUsr a1 1) 1431655765)) 858993459) + (bAnd (bUsr (a1 - (bAnd (bUsr a1 1) 1431655765)) 2) 858993459)) 4)) 252645135) 8)) 16)) 63)
theorem bct_c6 {s : Int} (h : ms s) : bct s = c6 s := by
  have k : ∀ i : Fin 64, bct ((i.val : Nat) : Int) = c6 ((i.val : Nat) : Int) := by decide +kernel
  exact fin_all (n := 64) (P := fun s => bct s = c6 s) k h.1 h.2
theorem x_bitCount {K : Nat} {s : Int} {M : PM} {Q : Option PV → PM → Prop} (h : ms s) (hq : Q (some (.inl (c6 s))) M) : Call (K + 1) jJInteger_bitCount [.inl s] P0 P0 M Q := by
  refine c_jinteger_bitCount K s M Q ?_
  show Q (some (.inl (bct s))) M
  rw [bct_c6 h]
  exact hq
theorem c6_b {s : Int} (h : ms s) : (0 ≤ c6 s ∧ c6 s ≤ 6) ∧ (s ≠ 0 → 1 ≤ c6 s) := by
  have k : ∀ i : Fin 64, (0 ≤ c6 ((i.val : Nat) : Int) ∧ c6 ((i.val : Nat) : Int) ≤ 6) ∧ (((i.val : Nat) : Int) ≠ 0 → 1 ≤ c6 ((i.val : Nat) : Int)) := by decide +kernel
  exact fin_all (n := 64) (P := fun s => (0 ≤ c6 s ∧ c6 s ≤ 6) ∧ (s ≠ 0 → 1 ≤ c6 s)) k h.1 h.2
theorem bit_and {s c : Int} (h : ms s) (hc : mk6 c) : R32 (bAnd s (bShl 1 c)) ∧ (bAnd s (bShl 1 c) = 0 ↔ tb s c = false) := by
  have k : ∀ (i : Fin 64) (j : Fin 6), R32 (bAnd ((i.val : Nat) : Int) (bShl 1 ((j.val : Nat) : Int))) ∧ (bAnd ((i.val : Nat) : Int) (bShl 1 ((j.val : Nat) : Int)) = 0 ↔ tb ((i.val : Nat) : Int) ((j.val : Nat) : Int) = false) := by decide +kernel
  refine fin_all (n := 64) (P := fun s => R32 (bAnd s (bShl 1 c)) ∧ (bAnd s (bShl 1 c) = 0 ↔ tb s c = false)) (fun i => ?_) h.1 h.2
  exact fin_all (n := 6) (P := fun c => R32 (bAnd ((i.val : Nat) : Int) (bShl 1 c)) ∧ (bAnd ((i.val : Nat) : Int) (bShl 1 c) = 0 ↔ tb ((i.val : Nat) : Int) c = false)) (k i) hc.1 hc.2
theorem rmd_out {s c : Int} (h : ms s) (hc : mk6 c) : (tb s c = true → (0 ≤ bXor s (bShl 1 c) ∧ bXor s (bShl 1 c) < s) ∧ c6 (bXor s (bShl 1 c)) = c6 s - 1 ∧ remd (bXor s (bShl 1 c)) 6 = hid s c ++ remd s c.toNat) ∧ hid s (c - 1) = hid s c ++ (if tb s c = true then [c] else []) := by
  have k : ∀ (i : Fin 64) (j : Fin 6), (tb ((i.val : Nat) : Int) ((j.val : Nat) : Int) = true → (0 ≤ bXor ((i.val : Nat) : Int) (bShl 1 ((j.val : Nat) : Int)) ∧ bXor ((i.val : Nat) : Int) (bShl 1 ((j.val : Nat) : Int)) < ((i.val : Nat) : Int)) ∧ c6 (bXor ((i.val : Nat) : Int) (bShl 1 ((j.val : Nat) : Int))) = c6 ((i.val : Nat) : Int) - 1 ∧ remd (bXor ((i.val : Nat) : Int) (bShl 1 ((j.val : Nat) : Int))) 6 = hid ((i.val : Nat) : Int) ((j.val : Nat) : Int) ++ remd ((i.val : Nat) : Int) (((j.val : Nat) : Int)).toNat) ∧ hid ((i.val : Nat) : Int) (((j.val : Nat) : Int) - 1) = hid ((i.val : Nat) : Int) ((j.val : Nat) : Int) ++ (if tb ((i.val : Nat) : Int) ((j.val : Nat) : Int) = true then [((j.val : Nat) : Int)] else []) := by decide +kernel
  refine fin_all (n := 64) (P := fun s => (tb s c = true → (0 ≤ bXor s (bShl 1 c) ∧ bXor s (bShl 1 c) < s) ∧ c6 (bXor s (bShl 1 c)) = c6 s - 1 ∧ remd (bXor s (bShl 1 c)) 6 = hid s c ++ remd s c.toNat) ∧ hid s (c - 1) = hid s c ++ (if tb s c = true then [c] else [])) (fun i => ?_) h.1 h.2
  exact fin_all (n := 6) (P := fun c => (tb ((i.val : Nat) : Int) c = true → (0 ≤ bXor ((i.val : Nat) : Int) (bShl 1 c) ∧ bXor ((i.val : Nat) : Int) (bShl 1 c) < ((i.val : Nat) : Int)) ∧ c6 (bXor ((i.val : Nat) : Int) (bShl 1 c)) = c6 ((i.val : Nat) : Int) - 1 ∧ remd (bXor ((i.val : Nat) : Int) (bShl 1 c)) 6 = hid ((i.val : Nat) : Int) c ++ remd ((i.val : Nat) : Int) c.toNat) ∧ hid ((i.val : Nat) : Int) (c - 1) = hid ((i.val : Nat) : Int) c ++ (if tb ((i.val : Nat) : Int) c = true then [c] else [])) (k i) hc.1 hc.2
theorem hid_5 {s : Int} (h : ms s) : hid s 5 = [] := by
  have k : ∀ i : Fin 64, hid ((i.val : Nat) : Int) 5 = [] := by decide +kernel
  exact fin_all (n := 64) (P := fun s => hid s 5 = []) k h.1 h.2
def upl (m u : Int) : List Int := (dnl m.toNat).filter fun x => decide (u < x)
theorem dn_full {m : Int} (hm : 0 ≤ m ∧ m ≤ 5) : (R32 (bShl 1 (m + 1)) ∧ bShl 1 (m + 1) ≤ 64 ∧ 1 < bShl 1 (m + 1)) ∧ (0 ≤ bShl 1 m - 1 ∧ bShl 1 m - 1 < bShl 1 (m + 1)) ∧ c6 (bShl 1 m - 1) = m ∧ remd (bShl 1 m - 1) 6 = dnl m.toNat := by
  have k : ∀ m : Fin 6, (R32 (bShl 1 (((m.val : Nat) : Int) + 1)) ∧ bShl 1 (((m.val : Nat) : Int) + 1) ≤ 64 ∧ 1 < bShl 1 (((m.val : Nat) : Int) + 1)) ∧ (0 ≤ bShl 1 ((m.val : Nat) : Int) - 1 ∧ bShl 1 ((m.val : Nat) : Int) - 1 < bShl 1 (((m.val : Nat) : Int) + 1)) ∧ c6 (bShl 1 ((m.val : Nat) : Int) - 1) = ((m.val : Nat) : Int) ∧ remd (bShl 1 ((m.val : Nat) : Int) - 1) 6 = dnl (((m.val : Nat) : Int)).toNat := by decide +kernel
  exact fin_all (n := 6) (P := fun m => (R32 (bShl 1 (m + 1)) ∧ bShl 1 (m + 1) ≤ 64 ∧ 1 < bShl 1 (m + 1)) ∧ (0 ≤ bShl 1 m - 1 ∧ bShl 1 m - 1 < bShl 1 (m + 1)) ∧ c6 (bShl 1 m - 1) = m ∧ remd (bShl 1 m - 1) 6 = dnl m.toNat) k hm.1 (by omega)
theorem dn_out {m u : Int} (hm : 0 ≤ m ∧ m ≤ 5) (hu : 0 ≤ u ∧ u < m) : (0 ≤ bXor (bShl 1 (m + 1) - 1) (bShl 1 u) ∧ bXor (bShl 1 (m + 1) - 1) (bShl 1 u) < bShl 1 (m + 1)) ∧ c6 (bXor (bShl 1 (m + 1) - 1) (bShl 1 u)) = m ∧ remd (bXor (bShl 1 (m + 1) - 1) (bShl 1 u)) 6 = m :: (upl m u ++ dnl u.toNat) ∧ dnl m.toNat = upl m u ++ u :: dnl u.toNat ∧ (R32 (Int.tmod ((m - 1) - u) 2)) ∧ (Int.tmod ((m - 1) - u) 2 = 0 → sgn (upl m u).length = 1) ∧ (Int.tmod ((m - 1) - u) 2 ≠ 0 → sgn (upl m u).length = -1) := by
  have k : ∀ m u : Fin 6, u < m → (0 ≤ bXor (bShl 1 (((m.val : Nat) : Int) + 1) - 1) (bShl 1 ((u.val : Nat) : Int)) ∧ bXor (bShl 1 (((m.val : Nat) : Int) + 1) - 1) (bShl 1 ((u.val : Nat) : Int)) < bShl 1 (((m.val : Nat) : Int) + 1)) ∧ c6 (bXor (bShl 1 (((m.val : Nat) : Int) + 1) - 1) (bShl 1 ((u.val : Nat) : Int))) = ((m.val : Nat) : Int) ∧ remd (bXor (bShl 1 (((m.val : Nat) : Int) + 1) - 1) (bShl 1 ((u.val : Nat) : Int))) 6 = ((m.val : Nat) : Int) :: (upl ((m.val : Nat) : Int) ((u.val : Nat) : Int) ++ dnl (((u.val : Nat) : Int)).toNat) ∧ dnl (((m.val : Nat) : Int)).toNat = upl ((m.val : Nat) : Int) ((u.val : Nat) : Int) ++ ((u.val : Nat) : Int) :: dnl (((u.val : Nat) : Int)).toNat ∧ (R32 (Int.tmod ((((m.val : Nat) : Int) - 1) - ((u.val : Nat) : Int)) 2)) ∧ (Int.tmod ((((m.val : Nat) : Int) - 1) - ((u.val : Nat) : Int)) 2 = 0 → sgn (upl ((m.val : Nat) : Int) ((u.val : Nat) : Int)).length = 1) ∧ (Int.tmod ((((m.val : Nat) : Int) - 1) - ((u.val : Nat) : Int)) 2 ≠ 0 → sgn (upl ((m.val : Nat) : Int) ((u.val : Nat) : Int)).length = -1) := by decide +kernel
  have := k ⟨m.toNat, by omega⟩ ⟨u.toNat, by omega⟩ (by show u.toNat < m.toNat; omega)
  simpa only [Int.toNat_of_nonneg hm.1, Int.toNat_of_nonneg hu.1] using this
theorem dnl_mem {k : Nat} {c : Int} : c ∈ dnl k ↔ 0 ≤ c ∧ c < (k : Int) := by
  induction k with
  | zero => simp [dnl]
  | succ k ih =>
    rw [dnl, List.mem_cons, ih]
    omega
theorem dt_map2 {r r' : Int → Int → Int} {φ : Int → Int} : ∀ (is cs : List Int), (∀ i ∈ is, ∀ c ∈ cs, r i c = r' (φ i) (φ c)) → dt (is.map r) cs = dt ((is.map φ).map r') (cs.map φ)
  | [], _, _ => rfl
  | i :: is, cs, h => by
    show ex (dt (is.map r)) (r i) cs = ex (dt ((is.map φ).map r')) (r' (φ i)) (cs.map φ)
    refine ex_map cs _ _ (h i List.mem_cons_self) fun l hl => ?_
    exact dt_map2 is l fun i' hi c hc => h i' (List.mem_cons_of_mem _ hi) c (hl c hc)
/-- rows by number: the greatest first -/
def rwf (fac : Int → Int) (k : Nat) : List (Int → Int) := (dnl k).map fun i c => fac ((i * 6) + c)
theorem rwf_succ (fac : Int → Int) (k : Nat) : rwf fac (k + 1) = (fun c => fac (((((k : Nat) : Int)) * 6) + c)) :: rwf fac k := rfl
theorem eq_solved {g : Ck} {e unk fac : Int → Int} {m : Int} (hm : 0 ≤ m ∧ m ≤ 5) (hn : ((dnl m.toNat).map unk).Nodup) (h1 : ∀ i j, 0 ≤ i → i < m → 0 ≤ j → j < m → fac ((i * 6) + j) = Rw g e (unk i) (unk j)) (h2 : ∀ i, 0 ≤ i → i < m → fac ((i * 6) + m) = Rw g e (unk i) (-1)) :
    dt (rwf fac m.toNat) (dnl m.toNat) = Dt (Rw g e) ((dnl m.toNat).map unk) ∧ ∀ u, 0 ≤ u → u < m → sgn (upl m u).length * dt (rwf fac m.toNat) (m :: (upl m u ++ dnl u.toNat)) = ev ((dnl m.toNat).map unk) (Xv (Rw g e) (-1) ((dnl m.toNat).map unk)) (unk u) := by
  have hmn : ((m.toNat : Nat) : Int) = m := Int.toNat_of_nonneg hm.1
  obtain ⟨φ, hφ⟩ : ∃ φ : Int → Int, φ = fun j => if j = m then -1 else unk j := ⟨_, rfl⟩
  have hφ1 : ∀ j, j ≠ m → φ j = unk j := fun j hj => by rw [hφ]; exact if_neg hj
  have hφ2 : φ m = -1 := by rw [hφ]; exact if_pos rfl
  have hmap : ∀ l : List Int, (∀ x ∈ l, x ∈ dnl m.toNat) → l.map φ = l.map unk := fun l hl => List.map_congr_left fun x hx => hφ1 x (by have := dnl_mem.mp (hl x hx); omega)
  have hos := hmap (dnl m.toNat) (fun _ z => z)
  have hrw : ∀ i ∈ dnl m.toNat, ∀ c, 0 ≤ c → c ≤ m → fac ((i * 6) + c) = Rw g e (φ i) (φ c) := by
    intro i hi c h0 hc
    have hi' := dnl_mem.mp hi
    rw [hmn] at hi'
    rw [hφ1 i (by omega)]
    by_cases q : c = m
    · rw [q, hφ2]; exact h2 i hi'.1 hi'.2
    · rw [hφ1 c q]; exact h1 i c hi'.1 hi'.2 h0 (by omega)
  constructor
  · unfold rwf Dt
    rw [dt_map2 (φ := φ) (r' := Rw g e) (dnl m.toNat) (dnl m.toNat) (fun i hi c hc => by
      have := dnl_mem.mp hc
      exact hrw i hi c this.1 (by omega)), hos]
  · intro u h0 hu
    obtain ⟨_, _, _, hsp, _, _, _⟩ := dn_out hm ⟨h0, hu⟩
    have hA : ∀ x ∈ upl m u ++ dnl u.toNat, x ∈ dnl m.toNat := fun x hx => by
      rw [hsp]
      rcases List.mem_append.mp hx with z | z
      · exact List.mem_append.mpr (Or.inl z)
      · exact List.mem_append.mpr (Or.inr (List.mem_cons_of_mem _ z))
    unfold rwf
    rw [dt_map2 (φ := φ) (r' := Rw g e) (dnl m.toNat) (m :: (upl m u ++ dnl u.toNat)) (fun i hi c hc => by
      rcases List.mem_cons.mp hc with z | z
      · rw [z]; exact hrw i hi m hm.1 (Int.le_refl m)
      · have := dnl_mem.mp (hA c z)
        exact hrw i hi c this.1 (by omega)), hos, List.map_cons, hφ2, hmap _ hA, List.map_append]
    have hos2 : (dnl m.toNat).map unk = (upl m u).map unk ++ unk u :: (dnl u.toNat).map unk := by
      rw [hsp, List.map_append, List.map_cons]
    have hx := Xv_at (Rw g e) (-1) ((upl m u).map unk) ((dnl u.toNat).map unk) (unk u) (by rw [← hos2]; exact hn)
    rw [← hos2] at hx
    rw [hx]
    have hl : (([] : List Int) ++ (-1) :: ((upl m u).map unk ++ (dnl u.toNat).map unk)).length = (((dnl m.toNat).map unk).map (Rw g e)).length := by
      rw [List.length_map, hos2]
      simp
      omega
    have hmv := dt_move (((dnl m.toNat).map unk).map (Rw g e)) (-1) ((upl m u).map unk) [] ((dnl u.toNat).map unk) hl
    simp only [List.nil_append, List.length_map] at hmv
    rw [hmv, ← Int.mul_assoc, sgn_sq, Int.one_mul]
/-! THE CLASS's equations -/
theorem ep_expand {K : Nat} {s row : Int} {M : PM} {Q : Option PV → PM → Prop} {f : List Int → Int} (hm : ms s) (hr : 0 ≤ row ∧ row < 5) (hf : ∀ c, mk6 c → tb s c = true → M 23 (bXor s (bShl 1 c)) = f (hid s c ++ remd s c.toNat)) (hq : Q (some (.inr (.inl (ex f (fun c => M 22 ((row * 6) + c)) (remd s 6))))) M) : Call (K + 1) jEquations_expand [.inr (.inr 21), .inl s, .inl row] P0 P0 M Q := by
  have loop : ∀ (n : Nat) (c v sg : Int), c + 1 = (n : Int) → c ≤ 5 → v + sg * ex (fun l => f (hid s c ++ l)) (fun c => M 22 ((row * 6) + c)) (remd s n) = ex f (fun c => M 22 ((row * 6) + c)) (remd s 6) → G none (K + 1) jEquations_expand 8 [(0, .inr (.inr 21)), (1, .inl s), (2, .inl row), (3, .inr (.inl v)), (5, .inr (.inl sg)), (7, .inl c)] [] P0 P0 M Q := by
    intro n
    induction n with
    | zero =>
      intro c v sg hc h5 he
      refine g_ep_expand_8 _ _ _ _ _ _ _ _ ⟨⟨by omega, by omega⟩, fun _ => ?_, fun q => absurd (by omega) q⟩
      have : v = ex f (fun c => M 22 ((row * 6) + c)) (remd s 6) := by
        rw [← he, remd, ex]; omega
      rw [this]
      exact hq
    | succ n ih =>
      intro c v sg hc h5 he
      have hcn : c = (n : Int) := by omega
      have h6 : mk6 c := ⟨by omega, by omega⟩
      have hA := bit_and hm h6
      have hR := rmd_out hm h6
      have hms := hm.1
      have hms2 := hm.2
      rw [remd, ← hcn] at he
      refine g_ep_expand_8 _ _ _ _ _ _ _ _ ⟨⟨by omega, by omega⟩, fun q => absurd q (by omega), fun _ => ⟨hA.1, fun q => ?_, fun q => ?_⟩⟩
      · have ht := hA.2.mp q
        rw [if_neg (by rw [ht]; simp)] at he
        refine ih (c + (-1)) v sg (by omega) (by omega) ?_
        have e := hR.2
        rw [if_neg (by rw [ht]; simp), List.append_nil] at e
        rw [show c + (-1) = c - 1 by omega, e]
        exact he
      · have ht : tb s c = true := by
          cases z : tb s c
          · exact absurd (hA.2.mpr z) q
          · rfl
        have hx := hR.1 ht
        rw [if_pos ht] at he
        have hmi := hf c h6 ht
        refine ⟨⟨by omega, by omega⟩, ⟨hx.1.1, by omega⟩, ih (c + (-1)) _ _ (by omega) (by omega) ?_⟩
        have e := hR.2
        rw [if_pos ht] at e
        rw [show c + (-1) = c - 1 by omega, e, hmi, ← he, ex]
        have e2 : (fun l => f ((hid s c ++ [c]) ++ l)) = fun l => f (hid s c ++ c :: l) := by
          funext l
          rw [List.append_assoc]
          rfl
        rw [e2, show c.toNat = n by omega]
        grind
  refine c_ep_expand K s row M Q (loop 6 5 0 1 (by decide) (by decide) ?_)
  have e : (fun l => f (hid s 5 ++ l)) = f := by
    funext l
    rw [hid_5 hm, List.nil_append]
  rw [e]
  omega
theorem ep_solve {K : Nat} {m : Int} {M : PM} {Q : Option PV → PM → Prop} (hm : 0 ≤ m ∧ m ≤ 5) (hq : ∀ M', Ag [23] M M' → (∀ s, 0 ≤ s → s < bShl 1 (m + 1) → c6 s ≤ m → M' 23 s = dt (rwf (M 22) (c6 s).toNat) (remd s 6)) → Q none M') : Call (K + 2) jEquations_solve [.inr (.inr 21), .inl m] P0 P0 M Q := by
  have hN := (dn_full hm).1
  have loop : ∀ (n : Nat) (s : Int) (M1 : PM), 1 ≤ s → s + (n : Int) = bShl 1 (m + 1) → Ag [23] M M1 → (∀ s', 0 ≤ s' → s' < s → c6 s' ≤ m → M1 23 s' = dt (rwf (M 22) (c6 s').toNat) (remd s' 6)) → G none (K + 1 + 1) jEquations_solve 9 [(0, .inr (.inr 21)), (1, .inl m), (2, .inl s)] [] P0 P0 M1 Q := by
    intro n
    induction n with
    | zero =>
      intro s M1 h1 hs_ hA hI
      refine g_ep_solve_9 _ _ _ _ _ ⟨⟨by omega, by omega⟩, hN.1, fun _ => hq M1 hA (fun s' h0 hl hc => hI s' h0 (by omega) hc), fun q => absurd (by omega) q⟩
    | succ n ih =>
      intro s M1 h1 hs_ hA hI
      have hms : ms s := ⟨by omega, by omega⟩
      have hc := c6_b hms
      have hc1 := hc.2 (by omega)
      refine g_ep_solve_9 _ _ _ _ _ ⟨⟨by omega, by omega⟩, hN.1, fun q => absurd q (by omega), fun _ => x_bitCount hms ⟨⟨by omega, by omega⟩, ⟨by omega, by omega⟩, fun q => ?_, fun q => ?_⟩⟩
      · refine ih (s + 1) M1 (by omega) (by omega) hA (fun s' h0 hl hc' => ?_)
        by_cases z : s' = s
        · rw [z] at hc'; omega
        · exact hI s' h0 (by omega) hc'
      · have e22 : M1 22 = M 22 := hA _ (by decide)
        refine ep_expand (f := dt (rwf (M 22) (c6 s - 1).toNat)) hms ⟨by omega, by omega⟩ (fun c h6 ht => ?_) ⟨⟨by omega, by omega⟩, ih (s + 1) _ (by omega) (by omega) (hA.set (by decide)) (fun s' h0 hl hc' => ?_)⟩
        · have hx := (rmd_out hms h6).1 ht
          rw [hI _ hx.1.1 hx.1.2 (by rw [hx.2.1]; omega), hx.2.1, hx.2.2]
        · by_cases z : s' = s
          · rw [z, mset_eq, e22]
            have e : (c6 s).toNat = (c6 s - 1).toNat + 1 := by omega
            rw [e, rwf_succ, dt]
            have e2 : (((c6 s - 1).toNat : Nat) : Int) = c6 s - 1 := by omega
            rw [e2]
          · rw [show (mset M1 23 s (ex (dt (rwf (M 22) (c6 s - 1).toNat)) (fun c => M1 22 (((c6 s - 1) * 6) + c)) (remd s 6))) 23 s' = M1 23 s' by simp [mset, z]]
            exact hI s' h0 (by omega) hc'
  refine c_ep_solve (K + 1) m M Q (loop (bShl 1 (m + 1) - 1).toNat 1 _ (by decide) (by omega) ((Ag.rf _ _).set (by decide)) (fun s' h0 hl _ => ?_))
  have : s' = 0 := by omega
  rw [this, mset_eq]
  have e : c6 0 = 0 := by decide +kernel
  rw [e]
  rfl
