/-! EQUATIONS of houses in a set O: what each pays (d) less what it gets of O (A); none of O's parts feeds itself alone -/
def NCl (d : Int → Int) (A : Int → Int → Int) (O : Int → Bool) : Prop := ∀ R : Int → Bool, (∀ h, hs h → R h = true → O h = true) → ¬ Clo d A R
/-- flows are not below 0; none to itself; all that k pays is d k at most -/
def Flw (d : Int → Int) (A : Int → Int → Int) : Prop := (∀ k h, hs k → hs h → 0 ≤ A k h) ∧ (∀ k, hs k → A k k = 0) ∧ ∀ k, hs k → s5 (fun h => A k h) ≤ d k
theorem Flw.sub {d : Int → Int} {A : Int → Int → Int} (F : Flw d A) (R : Int → Bool) {k : Int} (hk : hs k) : s5 (fun h => if R h = true then A k h else 0) ≤ d k := by
  refine Int.le_trans (s5_le fun h hh => ?_) (F.2.2 k hk)
  split
  · omega
  · exact F.1 k h hk hh
theorem Flw.d0 {d : Int → Int} {A : Int → Int → Int} (F : Flw d A) {k : Int} (hk : hs k) : 0 ≤ d k :=
  Int.le_trans (s5_nn fun h hh => F.1 k h hk hh) (F.2.2 k hk)
theorem NCl.pos {d : Int → Int} {A : Int → Int → Int} {O : Int → Bool} (F : Flw d A) (N : NCl d A O) {k : Int} (hk : hs k) (hO : O k = true) : 0 < d k := by
  have h0 := F.d0 hk
  rcases Int.lt_or_le 0 (d k) with h | h
  · exact h
  · refine absurd ?_ (N (fun h => decide (h = k)) (fun h _ hR => by have := of_decide_eq_true hR; rw [this]; exact hO))
    refine ⟨⟨k, hk, by simp⟩, fun k' hk' hR => ?_⟩
    have := of_decide_eq_true hR
    subst this
    have e : s5 (fun h => if decide (h = k') = true then A k' h else 0) = 0 := by
      rw [s5_congr (g := fun h => if h = k' then A k' k' else 0) (fun h _ => by by_cases q : h = k' <;> simp [q]), s5_one hk', F.2.1 k' hk']
    rw [e]
    omega
/-- what pays at least what it gets is not below 0 -/
theorem mm_nn {d : Int → Int} {A : Int → Int → Int} {O : Int → Bool} {x : Int → Int} (F : Flw d A) (N : NCl d A O) (hx : ∀ h, hs h → O h = true → s5 (fun k => if O k = true then A k h * x k else 0) ≤ d h * x h) : ∀ h, hs h → O h = true → 0 ≤ x h := by
  intro h hh hO
  rcases Int.lt_or_le (x h) 0 with hlt | hle
  · refine absurd (flow_clo (d := d) (A := A) (R := fun k => O k && decide (x k < 0)) (x := fun k => - x k) ⟨h, hh, by simp [hO, hlt]⟩ (fun k _ hR => ?_) (fun k hk _ => F.sub _ hk) (fun j hj hR => ?_)).1 (N _ (fun k _ hR => ?_))
    · simp at hR; omega
    · simp at hR
      have h1 := hx j hj hR.1
      have h2 : s5 (fun k => if (O k && decide (x k < 0)) = true then A k j * x k else 0) ≤ s5 (fun k => if O k = true then A k j * x k else 0) := by
        refine s5_le fun k hk => ?_
        by_cases hOk : O k = true
        · by_cases hxk : x k < 0
          · simp [hOk, hxk]
          · have := Int.mul_nonneg (F.1 k j hk hj) (show 0 ≤ x k by omega)
            simp [hOk, hxk, this]
        · simp [hOk]
      have h3 : s5 (fun k => if (O k && decide (x k < 0)) = true then A k j * -x k else 0) = - s5 (fun k => if (O k && decide (x k < 0)) = true then A k j * x k else 0) := by
        rw [← s5_neg]
        refine s5_congr fun k _ => ?_
        split
        · rw [Int.mul_neg]
        · omega
      have h4 : d j * -x j = - (d j * x j) := Int.mul_neg _ _
      show d j * -x j ≤ s5 (fun k => if (O k && decide (x k < 0)) = true then A k j * -x k else 0)
      omega
    · simp at hR; exact hR.1
  · exact hle
theorem mm_pos {d : Int → Int} {A : Int → Int → Int} {O : Int → Bool} {x : Int → Int} (F : Flw d A) (N : NCl d A O) (hx : ∀ h, hs h → O h = true → s5 (fun k => if O k = true then A k h * x k else 0) ≤ d h * x h) {h : Int} (hh : hs h) (hO : O h = true) (hst : s5 (fun k => if O k = true then A k h * x k else 0) < d h * x h) : 0 < x h := by
  have h0 := mm_nn F N hx
  have h1 : 0 ≤ s5 (fun k => if O k = true then A k h * x k else 0) := s5_nn fun k hk => by
    show 0 ≤ (if O k = true then _ else 0)
    split
    · exact Int.mul_nonneg (F.1 k h hk hh) (h0 k hk (by assumption))
    · omega
  have h2 := h0 h hh hO
  rcases Int.lt_or_le 0 (x h) with q | q
  · exact q
  · have : x h = 0 := by omega
    rw [this, Int.mul_zero] at hst
    omega
/-! lists of houses -/
def ev : List Int → List Int → Int → Int
  | c :: cs, x :: xs, k => if k = c then x else ev cs xs k
  | _, _, _ => 0
def Inl (os : List Int) (k : Int) : Bool := decide (k ∈ os)
theorem zs_ev (g : Int → Int) : ∀ (os vs : List Int), os.Nodup → (∀ k ∈ os, hs k) → vs.length = os.length → zs g os vs = s5 (fun k => if Inl os k = true then g k * ev os vs k else 0)
  | [], _, _, _, _ => by simp [zs, Inl, s5]
  | c :: cs, [], _, _, h => by simp at h
  | c :: cs, x :: xs, hn, hh, hl => by
    have hc := hh c List.mem_cons_self
    have hn' := List.nodup_cons.mp hn
    have ih := zs_ev g cs xs hn'.2 (fun k hk => hh k (List.mem_cons_of_mem _ hk)) (by simpa using hl)
    rw [zs, ih]
    have e : s5 (fun k => if Inl (c :: cs) k = true then g k * ev (c :: cs) (x :: xs) k else 0) = s5 (fun k => (if k = c then g c * x else 0) + (if Inl cs k = true then g k * ev cs xs k else 0)) := by
      refine s5_congr fun k _ => ?_
      by_cases hk : k = c
      · subst hk
        have : Inl cs k = false := by simp [Inl, hn'.1]
        simp [Inl, ev, this, hn'.1]
      · by_cases hm : k ∈ cs
        · simp [Inl, hk, hm, ev]
        · simp [Inl, hk, hm]
    rw [e, s5_add, s5_one hc]
/-- rows of the equations: d on the own place, less A elsewhere; anything at another place -/
def RowOf (d : Int → Int) (A : Int → Int → Int) (rw_ : Int → Int → Int) : Prop := ∀ h k, hs h → hs k → rw_ h k = if k = h then d h else - A k h
theorem row_sum {d : Int → Int} {A : Int → Int → Int} {rw_ : Int → Int → Int} (F : Flw d A) (Rw : RowOf d A rw_) {os : List Int} {x : Int → Int} {h : Int} (hh : hs h) :
    s5 (fun k => if Inl os k = true then rw_ h k * x k else 0) = (if Inl os h = true then d h * x h else 0) - s5 (fun k => if Inl os k = true then A k h * x k else 0) := by
  have e : s5 (fun k => if Inl os k = true then rw_ h k * x k else 0) = s5 (fun k => (if k = h then (if Inl os h = true then d h * x h else 0) else 0) - (if Inl os k = true then A k h * x k else 0)) := by
    refine s5_congr fun k hk => ?_
    rw [Rw h k hh hk]
    by_cases hkh : k = h
    · subst hkh
      rw [F.2.1 k hk]
      simp
    · by_cases hm : Inl os k = true
      · simp [hkh, hm, Int.neg_mul]
      · simp [hkh, hm]
  rw [e, s5_sub, s5_one hh]
def Dt (rw_ : Int → Int → Int) (os : List Int) : Int := dt (os.map rw_) os
def Xv (rw_ : Int → Int → Int) (q : Int) (os : List Int) : List Int := cf (fun l => dt (os.map rw_) (q :: l)) os
theorem Xv_len (rw_ : Int → Int → Int) (q : Int) (os : List Int) : (Xv rw_ q os).length = os.length := cf_len os _
/-- CRAMER over houses -/
theorem cramer_h {d : Int → Int} {A : Int → Int → Int} {rw_ : Int → Int → Int} (F : Flw d A) (Rw : RowOf d A rw_) {os : List Int} (hn : os.Nodup) (ho : ∀ k ∈ os, hs k) (q : Int) {h : Int} (hm : h ∈ os) :
    d h * ev os (Xv rw_ q os) h - s5 (fun k => if Inl os k = true then A k h * ev os (Xv rw_ q os) k else 0) = rw_ h q * Dt rw_ os := by
  have h1 := cramer (os.map rw_) os q (rw_ h) (List.mem_map_of_mem hm)
  rw [show cf (fun l => dt (os.map rw_) (q :: l)) os = Xv rw_ q os from rfl, zs_ev _ os _ hn ho (Xv_len _ _ _), row_sum F Rw (ho h hm), if_pos (by simp [Inl, hm])] at h1
  exact h1
theorem Dt_cons {d : Int → Int} {A : Int → Int → Int} {rw_ : Int → Int → Int} (F : Flw d A) (Rw : RowOf d A rw_) {j : Int} {os : List Int} (hn : (j :: os).Nodup) (ho : ∀ k ∈ j :: os, hs k) :
    Dt rw_ (j :: os) = d j * Dt rw_ os + s5 (fun k => if Inl os k = true then A k j * ev os (Xv rw_ j os) k else 0) := by
  have hj := ho j List.mem_cons_self
  have hn' := List.nodup_cons.mp hn
  show dt (rw_ j :: os.map rw_) (j :: os) = _
  rw [dt_cons, show cf (fun l => dt (os.map rw_) (j :: l)) os = Xv rw_ j os from rfl, zs_ev _ os _ hn'.2 (fun k hk => ho k (List.mem_cons_of_mem _ hk)) (Xv_len _ _ _), row_sum F Rw hj, if_neg (by simp [Inl, hn'.1]), Rw j j hj hj, if_pos rfl]
  show d j * Dt rw_ os - _ = _
  omega
def pd (d : Int → Int) : List Int → Int
  | [] => 1
  | c :: cs => d c * pd d cs
/-- THE DETERMINANT is above 0, and at most the product of what is on the own places -/
theorem Dt_pos {d : Int → Int} {A : Int → Int → Int} {rw_ : Int → Int → Int} (F : Flw d A) (Rw : RowOf d A rw_) : ∀ (os : List Int), os.Nodup → (∀ k ∈ os, hs k) → NCl d A (Inl os) → 0 < Dt rw_ os ∧ Dt rw_ os ≤ pd d os
  | [], _, _, _ => ⟨show (0 : Int) < 1 by omega, Int.le_refl _⟩
  | j :: os, hn, ho, N => by
    have hj := ho j List.mem_cons_self
    have hn' := List.nodup_cons.mp hn
    have ho' : ∀ k ∈ os, hs k := fun k hk => ho k (List.mem_cons_of_mem _ hk)
    have N' : NCl d A (Inl os) := fun R hR => N R fun h hh q => by
      have := of_decide_eq_true (hR h hh q)
      simp [Inl, this]
    obtain ⟨hp, hu⟩ := Dt_pos F Rw os hn'.2 ho' N'
    have hdj := F.d0 hj
    have e := Dt_cons F Rw hn ho
    have hw : ∀ h, hs h → Inl os h = true → 0 ≤ - ev os (Xv rw_ j os) h := by
      refine mm_nn F N' fun h hh hO => ?_
      have hm : h ∈ os := of_decide_eq_true hO
      have h1 := cramer_h F Rw hn'.2 ho' j hm
      have hne : ¬ j = h := fun q => hn'.1 (q ▸ hm)
      rw [Rw h j hh hj, if_neg hne, Int.neg_mul] at h1
      have h2 := Int.mul_nonneg (F.1 j h hj hh) (Int.le_of_lt hp)
      have h3 : s5 (fun k => if Inl os k = true then A k h * -ev os (Xv rw_ j os) k else 0) = - s5 (fun k => if Inl os k = true then A k h * ev os (Xv rw_ j os) k else 0) := by
        rw [← s5_neg]
        refine s5_congr fun k _ => ?_
        split
        · rw [Int.mul_neg]
        · omega
      rw [h3, Int.mul_neg]
      omega
    have hs1 : s5 (fun k => if Inl os k = true then A k j * ev os (Xv rw_ j os) k else 0) ≤ 0 := by
      have := s5_le (f := fun k => if Inl os k = true then A k j * ev os (Xv rw_ j os) k else 0) (g := fun _ => 0) (fun k hk => by
        show (if Inl os k = true then _ else 0) ≤ 0
        split
        · have h1 := hw k hk (by assumption)
          have h2 := Int.mul_nonneg (F.1 k j hk hj) h1
          rw [Int.mul_neg] at h2
          omega
        · omega)
      simpa [s5] using this
    refine ⟨?_, ?_⟩
    · rcases Int.lt_or_le 0 (Dt rw_ (j :: os)) with q | q
      · exact q
      · have hx : ∀ h, hs h → Inl (j :: os) h = true → d h * (if h = j then Dt rw_ os else - ev os (Xv rw_ j os) h) ≤ s5 (fun k => if Inl (j :: os) k = true then A k h * (if k = j then Dt rw_ os else - ev os (Xv rw_ j os) k) else 0) := by
          intro h hh hO
          have e2 : s5 (fun k => if Inl (j :: os) k = true then A k h * (if k = j then Dt rw_ os else - ev os (Xv rw_ j os) k) else 0) = A j h * Dt rw_ os - s5 (fun k => if Inl os k = true then A k h * ev os (Xv rw_ j os) k else 0) := by
            have e3 : s5 (fun k => if Inl (j :: os) k = true then A k h * (if k = j then Dt rw_ os else - ev os (Xv rw_ j os) k) else 0) = s5 (fun k => (if k = j then A j h * Dt rw_ os else 0) - (if Inl os k = true then A k h * ev os (Xv rw_ j os) k else 0)) := by
              refine s5_congr fun k _ => ?_
              by_cases hk : k = j
              · subst hk
                simp [Inl, hn'.1]
              · by_cases hm : k ∈ os
                · simp [Inl, hk, hm, Int.mul_neg]
                · simp [Inl, hk, hm]
            rw [e3, s5_sub, s5_one hj]
          rw [e2]
          by_cases hhj : h = j
          · subst hhj
            rw [if_pos rfl, F.2.1 h hh]
            omega
          · have hm : h ∈ os := by
              have := of_decide_eq_true hO
              rcases List.mem_cons.mp this with z | z
              · exact absurd z hhj
              · exact z
            have h1 := cramer_h F Rw hn'.2 ho' j hm
            rw [Rw h j hh hj, if_neg (fun z => hhj z.symm), Int.neg_mul] at h1
            rw [if_neg hhj, Int.mul_neg]
            omega
        refine absurd (flow_clo (d := d) (A := A) (R := fun k => Inl (j :: os) k && decide (0 < (if k = j then Dt rw_ os else - ev os (Xv rw_ j os) k))) (x := fun k => if k = j then Dt rw_ os else - ev os (Xv rw_ j os) k) ⟨j, hj, by simp [Inl, hp]⟩ (fun k _ hR => ?_) (fun k hk _ => F.sub _ hk) (fun h hh hR => ?_)).1 (N _ (fun k _ hR => ?_))
        · simp only [Bool.and_eq_true, decide_eq_true_eq] at hR; exact hR.2
        · simp only [Bool.and_eq_true, decide_eq_true_eq] at hR
          refine Int.le_trans (hx h hh hR.1) (s5_le fun k hk => ?_)
          by_cases hO : Inl (j :: os) k = true
          · by_cases hz : 0 < (if k = j then Dt rw_ os else - ev os (Xv rw_ j os) k)
            · simp [hO, hz]
            · have hz0 : A k h * (if k = j then Dt rw_ os else - ev os (Xv rw_ j os) k) ≤ 0 := by
                have h1 := Int.mul_nonneg (F.1 k h hk hh) (show 0 ≤ - (if k = j then Dt rw_ os else - ev os (Xv rw_ j os) k) by omega)
                rw [Int.mul_neg] at h1
                omega
              have hb : (Inl (j :: os) k && decide (0 < (if k = j then Dt rw_ os else - ev os (Xv rw_ j os) k))) = false := by simp only [hz, decide_false, Bool.and_false]
              simp only [hb, Bool.false_eq_true, if_false]
              simp only [hO, if_true]
              exact hz0
          · simp [hO]
        · simp only [Bool.and_eq_true, decide_eq_true_eq] at hR; exact hR.1
    · have h1 := Int.mul_le_mul_of_nonneg_left hu hdj
      show Dt rw_ (j :: os) ≤ d j * pd d os
      omega
