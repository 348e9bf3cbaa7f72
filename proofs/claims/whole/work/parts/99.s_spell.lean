/-! NUMBERS as texts, and what a text holds -/
def ds : Nat → Int → List Int
  | 0, v => [48 + v % 10]
  | j + 1, v => (48 + (v / 10 ^ (j + 1)) % 10) :: ds j v
theorem ds_len (v : Int) : ∀ j, (ds j v).length = j + 1
  | 0 => rfl
  | j + 1 => by
    show (ds j v).length + 1 = j + 1 + 1
    rw [ds_len v j]
theorem ds_b (v : Int) : ∀ j, ∀ x ∈ ds j v, 48 ≤ x ∧ x ≤ 57
  | 0, x, h => by
    have e : x = 48 + v % 10 := by simpa [ds] using h
    omega
  | j + 1, x, h => by
    rcases List.mem_cons.mp h with e | h
    · omega
    · exact ds_b v j x h
theorem ds_up (v : Int) : ∀ j, ds (j + 1) v = ds j (v / 10) ++ [48 + v % 10]
  | 0 => by
    show [48 + (v / 10 ^ (0 + 1)) % 10, 48 + v % 10] = [48 + (v / 10) % 10] ++ [48 + v % 10]
    rfl
  | j + 1 => by
    show (48 + (v / 10 ^ (j + 1 + 1)) % 10) :: ds (j + 1) v = ((48 + ((v / 10) / 10 ^ (j + 1)) % 10) :: ds j (v / 10)) ++ [48 + v % 10]
    have e : (v / 10) / 10 ^ (j + 1) = v / 10 ^ (j + 1 + 1) := by
      rw [Int.ediv_ediv_of_nonneg (by decide)]
      congr 1
      rw [Int.pow_succ 10 (j + 1), Int.mul_comm]
    rw [e, ds_up v j]
    rfl
def nj : Nat → Int → Nat
  | 0, _ => 0
  | f + 1, v => if v ≤ 9 then 0 else nj f (v / 10) + 1
theorem nj_b : ∀ (d f : Nat) (v : Int), v < 10 ^ (d + 1) → nj f v ≤ d
  | d, 0, _, _ => Nat.zero_le _
  | 0, f + 1, v, h => by
    have h' : v < 10 := h
    show (if v ≤ 9 then 0 else nj f (v / 10) + 1) ≤ 0
    rw [if_pos (by omega)]
    exact Nat.le_refl 0
  | d + 1, f + 1, v, h => by
    show (if v ≤ 9 then 0 else nj f (v / 10) + 1) ≤ d + 1
    by_cases q : v ≤ 9
    · rw [if_pos q]; exact Nat.zero_le _
    · rw [if_neg q]
      have e : (10 : Int) ^ (d + 1 + 1) = 10 ^ (d + 1) * 10 := Int.pow_succ 10 (d + 1)
      rw [e] at h
      have := nj_b d f (v / 10) (by omega)
      omega
theorem nj_f : ∀ (f : Nat) (v : Int), nj f v ≤ f
  | 0, _ => Nat.le_refl 0
  | f + 1, v => by
    show (if v ≤ 9 then 0 else nj f (v / 10) + 1) ≤ f + 1
    by_cases q : v ≤ 9
    · rw [if_pos q]; exact Nat.zero_le _
    · rw [if_neg q]
      have := nj_f f (v / 10)
      omega
/-- a number's text -/
def nm (v : Int) : List Int := ds (nj 18 v) v
theorem nm_b {v : Int} {x : Int} (h : x ∈ nm v) : 48 ≤ x ∧ x ≤ 57 := ds_b v _ x h
theorem nm_len {v : Int} (d : Nat) (h : v < 10 ^ (d + 1)) : (nm v).length ≤ d + 1 := by
  unfold nm
  rw [ds_len]
  have := nj_b d 18 v h
  omega
theorem nm_1 {v : Int} (h : 0 ≤ v ∧ v ≤ 9) : nm v = [48 + v] := by
  have e : nj 18 v = 0 := if_pos h.2
  unfold nm
  rw [e]
  show [48 + v % 10] = [48 + v]
  rw [Int.emod_eq_of_lt h.1 (by omega)]
/-- the text T stands in c, its length in l -/
def Hd (l : Int) (c : Int → Int) (T : List Int) : Prop := l = (T.length : Int) ∧ ∀ k : Nat, k < T.length → c (k : Int) = T.getD k 0
theorem Hd.nil (c : Int → Int) : Hd 0 c [] := ⟨rfl, fun k h => absurd h (Nat.not_lt_zero k)⟩
theorem Hd.push {l v : Int} {c c' : Int → Int} {T : List Int} (h : Hd l c T) (hc : ∀ i, c' i = if i = l then v else c i) : Hd (l + 1) c' (T ++ [v]) := by
  refine ⟨by rw [h.1]; simp, fun k hk => ?_⟩
  have hk' : k < T.length + 1 := by simpa using hk
  rw [hc, h.1]
  by_cases q : k = T.length
  · rw [if_pos (by rw [q]), q]; simp
  · rw [if_neg (by omega), h.2 k (by omega)]
    rw [List.getD_eq_getElem?_getD, List.getD_eq_getElem?_getD, List.getElem?_append_left (by omega)]
theorem pa_add {K : Nat} {v : Int} {T : List Int} {M : PM} {Q : Option PV → PM → Prop} (h : Hd (M 47 0) (M 48) T) (hl : T.length < 200) (hq : ∀ M', Ag [47, 48] M M' → Hd (M' 47 0) (M' 48) (T ++ [v]) → Q none M') : Call (K + 1) jPaper_add [.inr (.inr 47), .inl v] P0 P0 M Q := by
  have e := h.1
  refine c_pa_add K v M Q ⟨⟨by omega, by omega⟩, fun q => absurd q (by omega), fun _ => ⟨⟨by omega, by omega⟩, hq _ (((Ag.rf _ _).set (by decide)).set (by decide)) ?_⟩⟩
  rw [mset_eq, mset_ne (by decide)]
  exact h.push (fun i => mset_at M 48 (M 47 0) v i)
theorem m_writes_ {K : Nat} {v : Int} {T : List Int} {M : PM} {Q : Option PV → PM → Prop} (h : Hd (M 52 32) (M 71) T) (hl : T.length < 200) (hq : ∀ M', Ag [52, 71] M M' → (∀ i, i ≠ 32 → M' 52 i = M 52 i) → Hd (M' 52 32) (M' 71) (T ++ [v]) → Q none M') : Call (K + 1) jModel_writes [.inr (.inr 52), .inl v] P0 P0 M Q := by
  have e := h.1
  refine c_m_writes K v M Q ⟨⟨by omega, by omega⟩, hq _ (((Ag.rf _ _).set (by decide)).set (by decide)) (fun i hi => by rw [mset_at, if_neg hi, mset_ne (by decide)]) ?_⟩
  rw [mset_eq, mset_ne (by decide)]
  exact h.push (fun i => mset_at M 71 (M 52 32) v i)
theorem ten_p (j : Nat) : (0 : Int) < 10 ^ j := by
  induction j with
  | zero => decide
  | succ j ih => rw [Int.pow_succ]; omega
theorem ten_le {j : Nat} (h : j ≤ 18) : (10 : Int) ^ j ≤ 1000000000000000000 := by
  have key : ∀ d : Nat, (10 : Int) ^ j ≤ 10 ^ (j + d) := by
    intro d
    induction d with
    | zero => exact Int.le_refl _
    | succ d ih =>
      have e : (10 : Int) ^ (j + (d + 1)) = 10 ^ (j + d) * 10 := Int.pow_succ 10 (j + d)
      have := ten_p (j + d)
      omega
  have := key (18 - j)
  rw [show j + (18 - j) = 18 by omega] at this
  exact this
theorem pa_addNumber {K : Nat} {v : Int} {T : List Int} {M : PM} {Q : Option PV → PM → Prop} (hv : P63 v) (h : Hd (M 47 0) (M 48) T) (hl : T.length + (nm v).length ≤ 200) (hq : ∀ M', Ag [47, 48] M M' → Hd (M' 47 0) (M' 48) (T ++ nm v) → Q none M') : Call (K + 2) jPaper_addNumber [.inr (.inr 47), .inr (.inl v)] P0 P0 M Q := by
  -- the figures, from the first
  have out : ∀ (j : Nat) (k : Int) (T1 : List Int) (M1 : PM), k + (j : Int) ≤ 18 → 0 ≤ k → Ag [47, 48] M M1 → Hd (M1 47 0) (M1 48) T1 → T1.length + (j + 1) ≤ 200 → (∀ M', Ag [47, 48] M M' → Hd (M' 47 0) (M' 48) (T1 ++ ds j v) → Q none M') → G none (K + 1 + 1) jPaper_addNumber 37 [(0, .inr (.inr 47)), (1, .inr (.inl v)), (3, .inr (.inl (10 ^ j))), (5, .inl k)] [] P0 P0 M1 Q := by
    intro j
    induction j with
    | zero =>
      intro k T1 M1 hk k0 hA h1 hl1 go
      have eu : Int.tdiv v (10 ^ 0) = v := by rw [show (10 : Int) ^ 0 = 1 from rfl, Int.tdiv_one]
      refine g_pa_addNumber_37 _ _ _ _ _ _ ⟨⟨by omega, by omega⟩, fun q => absurd q (by omega), fun _ => ⟨by decide, fun q => absurd q (by decide), fun _ => ⟨hv.R, by decide, by rw [eu]; exact hv.R, pa_add h1 (by omega) (fun M2 hA2 h2 => ?_)⟩⟩⟩
      have fin : Q none M2 := go M2 (hA.tr hA2) (by
        rw [eu, Int.tmod_eq_emod_of_nonneg hv.1] at h2
        exact h2)
      exact g_pa_addNumber_37 _ _ _ _ _ _ ⟨⟨by omega, by omega⟩, fun _ => fin, fun _ => ⟨by decide, fun _ => fin, fun q => absurd (by decide) q⟩⟩
    | succ j ih =>
      intro k T1 M1 hk k0 hA h1 hl1 go
      have p := ten_p (j + 1)
      have b := ten_le (j := j + 1) (by omega)
      have eu : Int.tdiv v (10 ^ (j + 1)) = v / 10 ^ (j + 1) := td_ed hv.1
      have n0 : 0 ≤ v / 10 ^ (j + 1) := Int.ediv_nonneg hv.1 (by omega)
      have n1 : v / 10 ^ (j + 1) ≤ v := Int.ediv_le_self _ hv.1
      have ed : Int.tdiv ((10 : Int) ^ (j + 1)) 10 = 10 ^ j := by
        rw [td_ed (by omega), Int.pow_succ, Int.mul_ediv_cancel _ (by decide)]
      refine g_pa_addNumber_37 _ _ _ _ _ _ ⟨⟨by omega, by omega⟩, fun q => absurd q (by omega), fun _ => ⟨⟨by omega, by omega⟩, fun q => absurd q (by omega), fun _ => ⟨hv.R, by omega, by rw [eu]; have := hv.2; exact ⟨by omega, by omega⟩, pa_add h1 (by omega) (fun M2 hA2 h2 => ?_)⟩⟩⟩
      show G none (K + 1 + 1) jPaper_addNumber 37 [(0, .inr (.inr 47)), (1, .inr (.inl v)), (3, .inr (.inl (Int.tdiv (10 ^ (j + 1)) 10))), (5, .inl (k + 1))] [] P0 P0 M2 Q
      rw [ed]
      rw [eu, Int.tmod_eq_emod_of_nonneg n0] at h2
      refine ih (k + 1) _ M2 (by omega) (by omega) (hA.tr hA2) h2 (by simp; omega) (fun M' hA' h' => go M' hA' ?_)
      rw [List.append_assoc] at h'
      exact h'
  -- how many there are
  have cnt : ∀ (f i : Nat), i + f = 18 → nj 18 v = i + nj f (v / 10 ^ i) → G none (K + 1 + 1) jPaper_addNumber 5 [(0, .inr (.inr 47)), (1, .inr (.inl v)), (3, .inr (.inl (10 ^ i))), (5, .inl ((i : Int) + 1))] [] P0 P0 M Q := by
    have fin : ∀ i : Nat, i ≤ 18 → nj 18 v = i → G none (K + 1 + 1) jPaper_addNumber 37 [(0, .inr (.inr 47)), (1, .inr (.inl v)), (3, .inr (.inl (10 ^ i))), (5, .inl 0)] [] P0 P0 M Q := by
      intro i hi e
      have el : (nm v).length = i + 1 := by unfold nm; rw [ds_len, e]
      refine out i 0 T M (by omega) (by decide) (Ag.rf _ _) h (by omega) (fun M' hA' h' => hq M' hA' ?_)
      unfold nm
      rw [e]
      exact h'
    intro f
    induction f with
    | zero =>
      intro i hi e
      have e18 : i = 18 := by omega
      refine g_pa_addNumber_5 _ _ _ _ _ _ ⟨⟨by omega, by omega⟩, fun _ => fin i (by omega) e, fun q => absurd (by omega) q⟩
    | succ f ih =>
      intro i hi e
      have p := ten_p i
      have b := ten_le (j := i) (by omega)
      have eu : Int.tdiv v (10 ^ i) = v / 10 ^ i := td_ed hv.1
      have n0 : 0 ≤ v / 10 ^ i := Int.ediv_nonneg hv.1 (by omega)
      have n1 : v / 10 ^ i ≤ v := Int.ediv_le_self _ hv.1
      refine g_pa_addNumber_5 _ _ _ _ _ _ ⟨⟨by omega, by omega⟩, fun q => absurd q (by omega), fun _ => ⟨hv.R, ⟨by omega, by omega⟩, by omega, by rw [eu]; have := hv.2; exact ⟨by omega, by omega⟩, fun q => ?_, fun q => ?_⟩⟩
      · rw [eu] at q
        have e2 : nj (f + 1) (v / 10 ^ i) = 0 := if_pos (by omega)
        exact fin i (by omega) (by rw [e, e2]; rfl)
      · rw [eu] at q
        have e2 : nj (f + 1) (v / 10 ^ i) = nj f (v / 10 ^ i / 10) + 1 := if_neg (by omega)
        have e3 : v / 10 ^ i / 10 = v / 10 ^ (i + 1) := by rw [Int.ediv_ediv_of_nonneg (by omega), Int.pow_succ]
        have nx := ih (i + 1) (by omega) (by rw [e, e2, e3]; omega)
        rw [Int.pow_succ] at nx
        exact nx
  refine c_pa_addNumber (K + 1) v M Q ?_
  have c0 := cnt 18 0 rfl (by rw [show v / 10 ^ 0 = v by rw [show (10 : Int) ^ 0 = 1 from rfl, Int.ediv_one]]; omega)
  exact c0
theorem m_writesNumber_go {K : Nat} : ∀ (f : Nat) (v : Int) (T : List Int) (M : PM) (Q : Option PV → PM → Prop), P63 v → v < 10 ^ (f + 1) → Hd (M 52 32) (M 71) T → T.length + (nj f v + 1) ≤ 200 → (∀ M', Ag [52, 71] M M' → (∀ i, i ≠ 32 → M' 52 i = M 52 i) → Hd (M' 52 32) (M' 71) (T ++ ds (nj f v) v) → Q none M') → Call (K + f + 2) jModel_writesNumber [.inr (.inr 52), .inr (.inl v)] P0 P0 M Q := by
  intro f
  induction f with
  | zero =>
    intro v T M Q hv hb h hl hq
    have h9 : v < 10 := hb
    refine c_m_writesNumber (K + 0 + 1) v M Q ⟨hv.R, fun _ => m_writes_ h (by omega) (fun M1 hA i1 h1 => hq M1 hA i1 ?_), fun q => absurd (by omega) q⟩
    rw [Int.tmod_eq_emod_of_nonneg hv.1] at h1
    exact h1
  | succ f ih =>
    intro v T M Q hv hb h hl hq
    by_cases q9 : v ≤ 9
    · have e : nj (f + 1) v = 0 := if_pos q9
      rw [e] at hq hl
      refine c_m_writesNumber (K + (f + 1) + 1) v M Q ⟨hv.R, fun _ => m_writes_ h (by omega) (fun M1 hA i1 h1 => hq M1 hA i1 ?_), fun q => absurd q9 q⟩
      rw [Int.tmod_eq_emod_of_nonneg hv.1] at h1
      exact h1
    · have e : nj (f + 1) v = nj f (v / 10) + 1 := if_neg q9
      rw [e] at hq hl
      have et : Int.tdiv v 10 = v / 10 := td_ed hv.1
      have ep : (10 : Int) ^ (f + 1 + 1) = 10 ^ (f + 1) * 10 := Int.pow_succ 10 (f + 1)
      rw [ep] at hb
      have hv0 := hv.1
      have hv1 := hv.2
      refine c_m_writesNumber (K + (f + 1) + 1) v M Q ⟨hv.R, fun q => absurd q q9, fun _ => ?_⟩
      rw [et]
      refine ih (v / 10) T M _ ⟨by omega, by omega⟩ (by omega) h (by omega) (fun M1 hA i1 h1 => ?_)
      refine m_writes_ h1 (by rw [List.length_append, ds_len]; omega) (fun M2 hA2 i2 h2 => hq M2 (hA.tr hA2) (fun i hi => by rw [i2 i hi, i1 i hi]) ?_)
      rw [Int.tmod_eq_emod_of_nonneg hv0, List.append_assoc, ← ds_up v] at h2
      exact h2
theorem m_writesNumber_ {K : Nat} {v : Int} {T : List Int} {M : PM} {Q : Option PV → PM → Prop} (hv : P63 v) (h : Hd (M 52 32) (M 71) T) (hl : T.length + (nm v).length ≤ 200) (hq : ∀ M', Ag [52, 71] M M' → (∀ i, i ≠ 32 → M' 52 i = M 52 i) → Hd (M' 52 32) (M' 71) (T ++ nm v) → Q none M') : Call (K + 20) jModel_writesNumber [.inr (.inr 52), .inr (.inl v)] P0 P0 M Q := by
  have h10 : v < 10 ^ (18 + 1) := by
    have e : (10 : Int) ^ (18 + 1) = 10000000000000000000 := by decide
    have := hv.2
    omega
  refine m_writesNumber_go (K := K) 18 v T M Q hv h10 h ?_ hq
  unfold nm at hl
  rw [ds_len] at hl
  exact hl
