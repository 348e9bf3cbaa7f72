/-! more houses are opened; the equations are solved -/
theorem Inl_mem {os : List Int} {k : Int} : Inl os k = true ↔ k ∈ os := by simp [Inl]
theorem nc_ext {g : Ck} {F : Int → Bool} {e : Int → Int} {os0 os : List Int} {p0 : Int → Int} {W0 D : Int} {X : Int → Int → Int} (O : Okc g) (L : Lvl e) (Op0 : Opn g F e os0) (S0 : Sol g e os0 p0 W0) (hp0 : ∀ h ∈ os0, 0 ≤ p0 h ∧ p0 h ≤ W0) (N0 : NCl (dd g e) (AA g e) (Inl os0)) (Op : Opn g F e os)
    (hD : 0 < D) (Sg : Seg g e X D) (hX : ∀ h, hs h → F h = true → e h < 3 → rt g X D h ≤ 10 * yt g X h) (hnew : ∀ h ∈ os, h ∉ os0 → 0 < by_ g e os0 p0 W0 h) : NCl (dd g e) (AA g e) (Inl os) := by
  intro R hR C
  by_cases hin : ∀ h, hs h → R h = true → Inl os0 h = true
  · exact N0 R hin C
  · have hW0 := S0.1
    have hRos : ∀ h, hs h → R h = true → h ∈ os := fun h hh q => Inl_mem.mp (hR h hh q)
    have hle := (sol_le O L Op0 S0 N0 hD Sg (fun h hm => hX h (Op0.2 h hm).1 (Op0.2 h hm).2.1 (Op0.2 h hm).2.2.1.2)).2
    have Sg0 := xs_seg hW0 Op0 hp0
    have h1 := phi_le O (fun k hk q => (Op.2 k (hRos k hk q)).2.2.1) Sg Sg0 C hle
    have h2 : s5 (fun h => if R h = true then (rt g X D h - 10 * yt g X h) * W0 else 0) ≤ 0 := by
      have := s5_le (f := fun h => if R h = true then (rt g X D h - 10 * yt g X h) * W0 else 0) (g := fun _ => 0) (fun h hh => by
        show (if R h = true then _ else (0 : Int)) ≤ 0
        split
        · rename_i q
          have hm := Op.2 h (hRos h hh q)
          have := Int.mul_nonneg (show 0 ≤ -(rt g X D h - 10 * yt g X h) by have := hX h hh hm.2.1 hm.2.2.1.2; omega) (Int.le_of_lt hW0)
          rw [Int.neg_mul] at this
          omega
        · omega)
      simpa [s5] using this
    have h3 : ∀ h, hs h → 0 ≤ (if R h = true then (rt g (Xs g e os0 p0 W0) W0 h - 10 * yt g (Xs g e os0 p0 W0) h) * D else 0) := by
      intro h hh
      show 0 ≤ (if R h = true then _ else (0 : Int))
      split
      · rename_i q
        by_cases hm : h ∈ os0
        · rw [S0.rest O Op0 hm]; simp
        · have h4 := xs_by (p := p0) (W := W0) O Op0 hh
          rw [if_neg (fun z => hm (Inl_mem.mp z))] at h4
          have := hnew h (hRos h hh q) hm
          exact Int.mul_nonneg (by omega) (Int.le_of_lt hD)
      · omega
    have h4 := s5_nn0 h3 (by omega)
    refine hin fun h hh q => ?_
    by_cases hm : h ∈ os0
    · exact Inl_mem.mpr hm
    · have h5 := h4 h hh
      have h6 := xs_by (p := p0) (W := W0) O Op0 hh
      rw [if_neg (fun z => hm (Inl_mem.mp z))] at h6
      have h7 := hnew h (hRos h hh q) hm
      rw [if_pos q] at h5
      rcases Int.mul_eq_zero.mp h5 with z | z <;> omega
theorem by_diff {g : Ck} {e : Int → Int} {os0 os : List Int} {p0 p : Int → Int} {W0 W h : Int} (hsub : ∀ k ∈ os0, k ∈ os) :
    s5 (fun k => if Inl os k = true then AA g e k h * (p k * W0 - (if Inl os0 k = true then p0 k else 0) * W) else 0) = by_ g e os p W h * W0 - by_ g e os0 p0 W0 h * W := by
  have e1 : s5 (fun k => if Inl os k = true then AA g e k h * (p k * W0 - (if Inl os0 k = true then p0 k else 0) * W) else 0) = s5 (fun k => if Inl os k = true then AA g e k h * p k else 0) * W0 - s5 (fun k => if Inl os0 k = true then AA g e k h * p0 k else 0) * W := by
    rw [← s5_mul', ← s5_mul', ← s5_sub]
    refine s5_congr fun k _ => ?_
    by_cases hm : Inl os k = true
    · by_cases hm0 : Inl os0 k = true
      · simp only [hm, hm0, if_true]
        rw [Int.mul_sub, Int.mul_assoc, Int.mul_assoc]
      · simp only [hm, hm0, if_true]
        grind
    · have hm0 : ¬ Inl os0 k = true := fun z => hm (Inl_mem.mpr (hsub k (Inl_mem.mp z)))
      simp only [hm, hm0]
      simp
  rw [e1]
  unfold by_
  grind
theorem sol_mono {g : Ck} {F : Int → Bool} {e : Int → Int} {os0 os : List Int} {p0 p : Int → Int} {W0 W : Int} (O : Okc g) (L : Lvl e) (Op : Opn g F e os) (hsub : ∀ k ∈ os0, k ∈ os) (S0 : Sol g e os0 p0 W0) (S : Sol g e os p W) (N : NCl (dd g e) (AA g e) (Inl os)) (hnew : ∀ h ∈ os, h ∉ os0 → 0 < by_ g e os0 p0 W0 h) :
    (∀ h ∈ os0, p0 h * W ≤ p h * W0) ∧ ∀ h ∈ os, h ∉ os0 → 0 < p h := by
  have hW0 := S0.1
  have hW := S.1
  have key : ∀ h, hs h → Inl os h = true → s5 (fun k => if Inl os k = true then AA g e k h * (p k * W0 - (if Inl os0 k = true then p0 k else 0) * W) else 0) ≤ dd g e h * (p h * W0 - (if Inl os0 h = true then p0 h else 0) * W) ∧ (h ∉ os0 → s5 (fun k => if Inl os k = true then AA g e k h * (p k * W0 - (if Inl os0 k = true then p0 k else 0) * W) else 0) < dd g e h * (p h * W0 - (if Inl os0 h = true then p0 h else 0) * W)) := by
    intro h hh hO
    rw [by_diff hsub]
    have h1 := S.2 h (Inl_mem.mp hO)
    by_cases hm : h ∈ os0
    · rw [if_pos (Inl_mem.mpr hm)]
      have h2 := S0.2 h hm
      refine ⟨?_, fun z => absurd hm z⟩
      rw [← h1, ← h2]
      grind
    · rw [if_neg (fun z => hm (Inl_mem.mp z)), ← h1]
      have h2 := Int.mul_pos (hnew h (Inl_mem.mp hO) hm) hW
      have h3 : dd g e h * (p h * W0 - 0 * W) = dd g e h * p h * W0 := by grind
      rw [h3]
      exact ⟨by omega, fun _ => by omega⟩
  have h1 := mm_nn (flw O L) N (fun h hh hO => (key h hh hO).1)
  refine ⟨fun h hm => ?_, fun h hm hn => ?_⟩
  · have := h1 h (Op.2 h (hsub h hm)).1 (Inl_mem.mpr (hsub h hm))
    rw [if_pos (Inl_mem.mpr hm)] at this
    omega
  · have := mm_pos (flw O L) N (fun h hh hO => (key h hh hO).1) (Op.2 h hm).1 (Inl_mem.mpr hm) ((key h (Op.2 h hm).1 (Inl_mem.mpr hm)).2 hn)
    rw [if_neg (fun z => hn (Inl_mem.mp z))] at this
    have h3 : 0 < p h * W0 := by omega
    rcases Int.lt_or_le 0 (p h) with z | z
    · exact z
    · have := Int.mul_nonneg (show 0 ≤ - p h by omega) (Int.le_of_lt hW0)
      rw [Int.neg_mul] at this
      omega
theorem sol_uniq {g : Ck} {F : Int → Bool} {e : Int → Int} {os : List Int} {p0 p : Int → Int} {W0 W : Int} (O : Okc g) (L : Lvl e) (Op : Opn g F e os) (S0 : Sol g e os p0 W0) (S : Sol g e os p W) (N : NCl (dd g e) (AA g e) (Inl os)) : ∀ h ∈ os, p0 h * W = p h * W0 := by
  intro h hm
  have h1 := (sol_mono O L Op (fun _ z => z) S0 S N (fun _ a b => absurd a b)).1 h hm
  have h2 := (sol_mono O L Op (fun _ z => z) S S0 N (fun _ a b => absurd a b)).1 h hm
  omega
/-- the rows of the equations of a level: -1 is the side without unknowns -/
def Rw (g : Ck) (e : Int → Int) (h k : Int) : Int := if k = -1 then bs g e h else if k = h then dd g e h else - AA g e k h
theorem Rw_ok (g : Ck) (e : Int → Int) : RowOf (dd g e) (AA g e) (Rw g e) := by
  intro h k _ hk
  unfold Rw
  rw [if_neg (by omega)]
theorem pd_le {d : Int → Int} : ∀ (os : List Int), (∀ k ∈ os, 0 ≤ d k ∧ d k ≤ 800) → 0 ≤ pd d os ∧ pd d os ≤ 800 ^ os.length
  | [], _ => by simp [pd]
  | c :: os, h => by
    have ih := pd_le os fun k hk => h k (List.mem_cons_of_mem _ hk)
    have hc := h c List.mem_cons_self
    refine ⟨Int.mul_nonneg hc.1 ih.1, ?_⟩
    show d c * pd d os ≤ 800 ^ (os.length + 1)
    have h1 := Int.mul_le_mul hc.2 ih.2 ih.1 (by omega)
    rw [Int.pow_succ, Int.mul_comm (800 ^ os.length) 800]
    exact h1
theorem os_len : ∀ (os : List Int), os.Nodup → (∀ k ∈ os, hs k) → os.length ≤ 5 := by
  intro os hn ho
  have h1 : ∀ (l m : List Int), l.Nodup → (∀ k ∈ l, k ∈ m) → l.length ≤ m.length := by
    intro l
    induction l with
    | nil => intro m _ _; simp
    | cons c l ih =>
      intro m hn hm
      have hc := hm c List.mem_cons_self
      have hn' := List.nodup_cons.mp hn
      have h2 := ih (m.erase c) hn'.2 (fun k hk => by
        have hne : k ≠ c := fun z => hn'.1 (z ▸ hk)
        exact (List.mem_erase_of_ne hne).mpr (hm k (List.mem_cons_of_mem _ hk)))
      have h3 := List.length_erase_of_mem hc
      have h4 : 0 < m.length := List.length_pos_of_mem hc
      simp only [List.length_cons]
      omega
  have := h1 os [0, 1, 2, 3, 4] hn (fun k hk => by
    rcases hs5 (ho k hk) with rfl | rfl | rfl | rfl | rfl <;> simp)
  simpa using this
/-- SOLVED by determinants -/
theorem sol_det {g : Ck} {F : Int → Bool} {e : Int → Int} {os : List Int} (O : Okc g) (L : Lvl e) (Op : Opn g F e os) (N : NCl (dd g e) (AA g e) (Inl os)) :
    Sol g e os (ev os (Xv (Rw g e) (-1) os)) (Dt (Rw g e) os) ∧ Dt (Rw g e) os ≤ 327680000000000 := by
  have hos : ∀ k ∈ os, hs k := fun k hk => (Op.2 k hk).1
  obtain ⟨h1, h2⟩ := Dt_pos (flw O L) (Rw_ok g e) os Op.1 hos N
  refine ⟨⟨h1, fun h hm => ?_⟩, ?_⟩
  · have h3 := cramer_h (flw O L) (Rw_ok g e) Op.1 hos (-1) hm
    unfold by_
    have h4 : Rw g e h (-1) = bs g e h := by unfold Rw; rw [if_pos rfl]
    rw [h4] at h3
    omega
  · have h3 := (pd_le (d := dd g e) os (fun k hk => by
      have hk' := Op.2 k hk
      unfold dd
      rw [if_pos hk'.2.2.1.2]
      have := due_80 O hk'.1 hk'.2.2.1
      omega)).2
    have h4 := os_len os Op.1 hos
    have h5 : (800 : Int) ^ os.length ≤ 327680000000000 := by
      have : os.length = 0 ∨ os.length = 1 ∨ os.length = 2 ∨ os.length = 3 ∨ os.length = 4 ∨ os.length = 5 := by omega
      rcases this with z | z | z | z | z | z <;> rw [z] <;> decide
    omega
