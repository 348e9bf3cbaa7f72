/-! THE CLASS lowers payments, pure: e the classes in which houses end, os those that pay it partly, p of W -/
/-- the class in which a house pays less, if it pays a little less; below 0: it pays nothing -/
def Mgn (g : Ck) (e : Int → Int) (os : List Int) (h c : Int) : Prop := (h ∈ os ∧ c = e h) ∨ (h ∉ os ∧ -1 ≤ c ∧ c < e h ∧ (0 ≤ c → due g h c ≠ 0) ∧ ∀ c', c < c' → c' < e h → due g h c' = 0)
def CI (g : Ck) (F : Int → Bool) (e : Int → Int) (os : List Int) (p : Int → Int) (W : Int) : Prop :=
  Lvl e ∧ (∀ h, hs h → F h = false → e h = 3) ∧ Opn g F e os ∧ Sol g e os p W ∧ NCl (dd g e) (AA g e) (Inl os) ∧ (∀ h ∈ os, 0 < p h ∧ p h ≤ W) ∧ W ≤ 327680000000000 ∧ Top g F (Xs g e os p W) W ∧
  (∀ h, hs h → F h = true → rt g (Xs g e os p W) W h ≤ 10 * yt g (Xs g e os p W) h) ∧ Neg g F e (Xs g e os p W) W
/-- who is lowered: those of B; S are those that can't pay what they should; m: where -/
def Lw (g : Ck) (F : Int → Bool) (e : Int → Int) (os : List Int) (p : Int → Int) (W : Int) (m e' : Int → Int) (S B : Int → Bool) : Prop :=
  (∀ h, hs h → Mgn g e os h (m h)) ∧ (∀ h, hs h → e' h = if B h = true then mx2 (m h) 0 else e h) ∧ (∀ h, hs h → B h = true → F h = true) ∧
  (∀ h, hs h → S h = true → B h = true ∧ h ∉ os ∧ rt g (Xs g e os p W) W h < 10 * yt g (Xs g e os p W) h) ∧
  (∀ j k, hs j → hs k → B j = true → F k = true → B k = false → 0 ≤ m j → ckB g * ckO g j k (m j) = 0) ∧
  ∀ P : Int → Prop, (∀ h, hs h → S h = true → P h) → (∀ j k, hs j → hs k → B j = true → P j → 0 ≤ m j → 0 < ckB g * ckO g j k (m j) → B k = true → P k) → ∀ h, hs h → B h = true → P h
theorem lw_B {g : Ck} {F : Int → Bool} {e : Int → Int} {os : List Int} {p : Int → Int} {W : Int} {m e' : Int → Int} {S B : Int → Bool} (O : Okc g) (I : CI g F e os p W) (L : Lw g F e os p W m e' S B) {h : Int} (hh : hs h) (hB : B h = true) :
    (0 ≤ m h ∧ m h ≤ e h ∧ e' h = m h ∧ kl (m h) ∧ 0 < due g h (m h) ∧ (h ∉ os → m h < e h ∧ ∀ c', m h < c' → c' < e h → due g h c' = 0)) ∨ (m h < 0 ∧ e' h = 0 ∧ h ∉ os ∧ ∀ c, 0 ≤ c → c < e h → due g h c = 0) := by
  have h1 := L.1 h hh
  have h2 := L.2.1 h hh
  have h3 := I.1 h hh
  rw [if_pos hB] at h2
  rcases h1 with ⟨a, b⟩ | ⟨a, b, c, d, e1⟩
  · have h4 := I.2.2.1.2 h a
    left
    have h5 := h4.2.2.1
    refine ⟨by omega, by omega, by rw [h2, mx2, if_neg (by omega)], by rw [b]; exact h5, by rw [b]; exact h4.2.2.2, fun z => absurd a z⟩
  · by_cases q : 0 ≤ m h
    · left
      have h5 : kl (m h) := ⟨q, by omega⟩
      have h6 := due_nn O hh h5
      have h7 := d q
      refine ⟨q, by omega, by rw [h2, mx2, if_neg (by omega)], h5, by omega, fun _ => ⟨c, e1⟩⟩
    · right
      refine ⟨by omega, by rw [h2, mx2, if_pos (by omega)], a, fun c h0 h1 => e1 c (by omega) h1⟩
theorem lw_nB {g : Ck} {F : Int → Bool} {e : Int → Int} {os : List Int} {p : Int → Int} {W : Int} {m e' : Int → Int} {S B : Int → Bool} (L : Lw g F e os p W m e' S B) {h : Int} (hh : hs h) (hB : B h = false) : e' h = e h := by
  rw [L.2.1 h hh, if_neg (by rw [hB]; simp)]
theorem lw_lvl {g : Ck} {F : Int → Bool} {e : Int → Int} {os : List Int} {p : Int → Int} {W : Int} {m e' : Int → Int} {S B : Int → Bool} (O : Okc g) (I : CI g F e os p W) (L : Lw g F e os p W m e' S B) : Lvl e' := by
  intro h hh
  have h3 := I.1 h hh
  cases hB : B h
  · rw [lw_nB L hh hB]; exact h3
  · rcases lw_B O I L hh hB with q | q
    · omega
    · omega
theorem lw_he {g : Ck} {F : Int → Bool} {e : Int → Int} {os : List Int} {p : Int → Int} {W : Int} {m e' : Int → Int} {S B : Int → Bool} (I : CI g F e os p W) (L : Lw g F e os p W m e' S B) : ∀ h, hs h → F h = false → e' h = 3 := by
  intro h hh hF
  cases hB : B h
  · rw [lw_nB L hh hB]; exact I.2.1 h hh hF
  · have := L.2.2.1 h hh hB; rw [hF] at this; exact absurd this (by simp)
theorem ci_seg {g : Ck} {F : Int → Bool} {e : Int → Int} {os : List Int} {p : Int → Int} {W : Int} (I : CI g F e os p W) : Seg g e (Xs g e os p W) W :=
  xs_seg I.2.2.2.1.1 I.2.2.1 (fun h hm => by have := I.2.2.2.2.2.1 h hm; omega)
theorem lw_seg {g : Ck} {F : Int → Bool} {e : Int → Int} {os : List Int} {p : Int → Int} {W : Int} {m e' : Int → Int} {S B : Int → Bool} (O : Okc g) (I : CI g F e os p W) (L : Lw g F e os p W m e' S B) : Seg g e' (Xs g e os p W) W := by
  intro h c hh hc
  have Sg := ci_seg I h c hh hc
  cases hB : B h
  · rw [lw_nB L hh hB]; exact Sg
  · refine ⟨fun q => ?_, Sg.2.1, fun q hd => ?_, Sg.2.2.2⟩
    · rcases lw_B O I L hh hB with z | z
      · exact Sg.1 (by omega)
      · have := hc.1; omega
    · rcases lw_B O I L hh hB with z | z
      · by_cases ho : h ∈ os
        · rcases L.1 h hh with y | y
          · exact Sg.2.2.1 (by omega) hd
          · exact absurd ho y.1
        · by_cases hl : c < e h
          · exact absurd ((z.2.2.2.2.2 ho).2 c (by omega) hl) hd
          · unfold Xs
            rw [if_neg (by omega), if_neg (fun w => ho (Inl_mem.mp w.2))]
      · by_cases hl : c < e h
        · exact absurd (z.2.2.2 c hc.1 hl) hd
        · unfold Xs
          rw [if_neg (by omega), if_neg (fun w => z.2.2.1 (Inl_mem.mp w.2))]
theorem lw_opn {g : Ck} {F : Int → Bool} {e : Int → Int} {os os1 : List Int} {p : Int → Int} {W : Int} {m e' : Int → Int} {S B : Int → Bool} (I : CI g F e os p W) (L : Lw g F e os p W m e' S B) (hn : os1.Nodup) (h1 : ∀ k, k ∈ os1 ↔ (k ∈ os ∧ B k = false)) : Opn g F e' os1 := by
  refine ⟨hn, fun k hk => ?_⟩
  have h2 := (h1 k).mp hk
  have h3 := I.2.2.1.2 k h2.1
  rw [lw_nB L h3.1 h2.2]
  exact h3
theorem lw_ncl {g : Ck} {F : Int → Bool} {e : Int → Int} {os os1 : List Int} {p : Int → Int} {W : Int} {m e' : Int → Int} {S B : Int → Bool} (I : CI g F e os p W) (L : Lw g F e os p W m e' S B) (h1 : ∀ k, k ∈ os1 ↔ (k ∈ os ∧ B k = false)) : NCl (dd g e') (AA g e') (Inl os1) := by
  intro R hR C
  have hsub : ∀ h, hs h → R h = true → h ∈ os ∧ B h = false := fun h hh q => (h1 h).mp (Inl_mem.mp (hR h hh q))
  refine I.2.2.2.2.1 R (fun h hh q => Inl_mem.mpr (hsub h hh q).1) ⟨C.1, fun k hk q => ?_⟩
  have h2 := C.2 k hk q
  have h3 := lw_nB L hk (hsub k hk q).2
  unfold dd AA at h2 ⊢
  rw [h3] at h2
  exact h2
/-- those that are not lowered pay as before: by what the lowered ones pay whole -/
theorem lw_sol {g : Ck} {F : Int → Bool} {e : Int → Int} {os os1 : List Int} {p : Int → Int} {W : Int} {m e' : Int → Int} {S B : Int → Bool} (O : Okc g) (I : CI g F e os p W) (L : Lw g F e os p W m e' S B) (hn : os1.Nodup) (h1 : ∀ k, k ∈ os1 ↔ (k ∈ os ∧ B k = false)) : Sol g e' os1 p W := by
  have Op1 := lw_opn I L hn h1
  refine ⟨I.2.2.2.1.1, fun h hm => ?_⟩
  have h2 := (h1 h).mp hm
  have h3 := I.2.2.1.2 h h2.1
  have h4 := xs_by (p := p) (W := W) O Op1 h3.1
  rw [if_pos (Inl_mem.mpr hm)] at h4
  have h5 := I.2.2.2.1.rest O I.2.2.1 h2.1
  have hx : ∀ k c, hs k → kl c → B k = false → Xs g e' os1 p W k c = Xs g e os p W k c := by
    intro k c hk hc hB
    unfold Xs
    rw [lw_nB L hk hB]
    have : Inl os1 k = Inl os k := by
      cases q : Inl os k
      · cases q2 : Inl os1 k
        · rfl
        · have := ((h1 k).mp (Inl_mem.mp q2)).1
          rw [Inl_mem.mpr this] at q; exact absurd q (by simp)
      · exact Inl_mem.mpr ((h1 k).mpr ⟨Inl_mem.mp q, hB⟩)
    rw [this]
  have hyt : yt g (Xs g e' os1 p W) h = yt g (Xs g e os p W) h := by
    unfold yt
    exact s3_congr fun c hc => by rw [hx h c h3.1 hc h2.2]
  have hgt : ckB g * gt g (Xs g e' os1 p W) h = ckB g * gt g (Xs g e os p W) h := by
    unfold gt
    rw [← s5_mul, ← s5_mul]
    refine s5_congr fun k hk => ?_
    show ckB g * s3 _ = ckB g * s3 _
    rw [← s3_mul, ← s3_mul]
    refine s3_congr fun c hc => ?_
    cases hB : B k
    · rw [hx k c hk hc hB]
    · by_cases hd : due g k c = 0
      · rw [ow_z O hk h3.1 hc hd]; simp
      · have hsame : c ≠ m k ∨ m k < 0 → Xs g e' os1 p W k c = Xs g e os p W k c := by
          intro hne
          have hni : ¬ Inl os1 k = true := fun z => by
            have := ((h1 k).mp (Inl_mem.mp z)).2
            rw [hB] at this; exact absurd this (by simp)
          rcases lw_B O I L hk hB with z | z
          · unfold Xs
            rw [z.2.2.1]
            by_cases c1 : c < m k
            · rw [if_pos (Or.inl c1), if_pos (Or.inl (by omega))]
            · rw [if_neg (by omega), if_neg (fun w => hni w.2)]
              by_cases ho : k ∈ os
              · rcases L.1 k hk with y | y
                · rw [if_neg (by omega), if_neg (by omega)]
                · exact absurd ho y.1
              · by_cases c2 : c < e k
                · exact absurd ((z.2.2.2.2.2 ho).2 c (by omega) c2) hd
                · rw [if_neg (by omega), if_neg (fun w => ho (Inl_mem.mp w.2))]
          · unfold Xs
            rw [z.2.1, if_neg (by have := hc.1; omega), if_neg (fun w => hni w.2)]
            by_cases c2 : c < e k
            · exact absurd (z.2.2.2 c hc.1 c2) hd
            · rw [if_neg (by omega), if_neg (fun w => z.2.2.1 (Inl_mem.mp w.2))]
        by_cases q : c ≠ m k ∨ m k < 0
        · rw [hsame q]
        · have q1 : c = m k := Classical.byContradiction fun z => q (Or.inl z)
          have h6 := L.2.2.2.2.1 k h hk h3.1 hB h3.2.1 h2.2 (by have := hc.1; omega)
          rw [← Int.mul_assoc, ← Int.mul_assoc, q1, h6]
          simp
  unfold rt at h4 h5
  rw [hgt, hyt] at h4
  omega
/-- while they rise again -/
def RI (g : Ck) (F : Int → Bool) (e' : Int → Int) (os1 : List Int) (B : Int → Bool) (os2 : List Int) (p2 : Int → Int) (W2 : Int) : Prop :=
  Opn g F e' os2 ∧ Sol g e' os2 p2 W2 ∧ NCl (dd g e') (AA g e') (Inl os2) ∧ (∀ h ∈ os2, 0 < p2 h ∧ p2 h ≤ W2) ∧ W2 ≤ 327680000000000 ∧ (∀ k ∈ os1, k ∈ os2) ∧ ∀ k ∈ os2, k ∈ os1 ∨ B k = true
theorem lw_hX {g : Ck} {F : Int → Bool} {e : Int → Int} {os : List Int} {p : Int → Int} {W : Int} {e' : Int → Int} (I : CI g F e os p W) : ∀ h, hs h → F h = true → e' h < 3 → rt g (Xs g e os p W) W h ≤ 10 * yt g (Xs g e os p W) h :=
  fun h hh hF _ => I.2.2.2.2.2.2.2.2.1 h hh hF
theorem ri_le {g : Ck} {F : Int → Bool} {e : Int → Int} {os os2 : List Int} {p p2 : Int → Int} {W W2 : Int} {m e' : Int → Int} {S B : Int → Bool} (O : Okc g) (I : CI g F e os p W) (L : Lw g F e os p W m e' S B) (Op : Opn g F e' os2) (Sl : Sol g e' os2 p2 W2) (N : NCl (dd g e') (AA g e') (Inl os2)) :
    (∀ h ∈ os2, p2 h ≤ W2) ∧ Le (Xs g e' os2 p2 W2) W2 (Xs g e os p W) W := by
  have hW := I.2.2.2.1.1
  have Sg := lw_seg O I L
  have h1 := sol_le O (lw_lvl O I L) Op Sl N hW Sg (fun h hm => lw_hX (e' := e') I h (Op.2 h hm).1 (Op.2 h hm).2.1 (Op.2 h hm).2.2.1.2)
  refine ⟨fun h hm => ?_, h1.2⟩
  have h2 := h1.1 h hm
  have h3 := Int.mul_le_mul_of_nonneg_right (Sg h (e' h) (Op.2 h hm).1 (Op.2 h hm).2.2.1).2.2.2.2 (Int.le_of_lt Sl.1)
  rw [Int.mul_comm W W2] at h3
  exact Int.le_of_mul_le_mul_right (Int.le_trans h2 h3) hW
theorem ri_first {g : Ck} {F : Int → Bool} {e : Int → Int} {os os1 : List Int} {p p1 : Int → Int} {W W1 : Int} {m e' : Int → Int} {S B : Int → Bool} (O : Okc g) (I : CI g F e os p W) (L : Lw g F e os p W m e' S B) (hn : os1.Nodup) (h1 : ∀ k, k ∈ os1 ↔ (k ∈ os ∧ B k = false)) (Sl : Sol g e' os1 p1 W1) (hb : W1 ≤ 327680000000000) : RI g F e' os1 B os1 p1 W1 := by
  have Op := lw_opn I L hn h1
  have N := lw_ncl I L h1
  have hu := sol_uniq O (lw_lvl O I L) Op (lw_sol O I L hn h1) Sl N
  have hl := ri_le O I L Op Sl N
  refine ⟨Op, Sl, N, fun h hm => ⟨?_, hl.1 h hm⟩, hb, fun _ z => z, fun _ z => Or.inl z⟩
  have h2 := hu h hm
  have h3 := I.2.2.2.2.2.1 h ((h1 h).mp hm).1
  have h4 := Int.mul_pos h3.1 Sl.1
  rcases Int.lt_or_le 0 (p1 h) with z | z
  · exact z
  · have := Int.mul_nonneg (show 0 ≤ - p1 h by omega) (Int.le_of_lt I.2.2.2.1.1)
    rw [Int.neg_mul] at this
    omega
/-- some more rise -/
theorem ri_open {g : Ck} {F : Int → Bool} {e : Int → Int} {os os1 os2 os3 : List Int} {p p2 : Int → Int} {W W2 : Int} {m e' : Int → Int} {S B : Int → Bool} (O : Okc g) (I : CI g F e os p W) (L : Lw g F e os p W m e' S B) (R : RI g F e' os1 B os2 p2 W2) (hn : os3.Nodup) (h3 : ∀ k, k ∈ os3 ↔ (k ∈ os2 ∨ (hs k ∧ B k = true ∧ k ∉ os2 ∧ 0 < by_ g e' os2 p2 W2 k))) :
    Opn g F e' os3 ∧ NCl (dd g e') (AA g e') (Inl os3) := by
  have hW := I.2.2.2.1.1
  have Sg := lw_seg O I L
  have Lv := lw_lvl O I L
  have hnew : ∀ k, hs k → B k = true → k ∉ os2 → 0 < by_ g e' os2 p2 W2 k → e' k < 3 := by
    intro k hk hB hm hby
    rcases lw_B O I L hk hB with z | z
    · have := z.2.2.2.1.2; omega
    · omega
  have hOp : Opn g F e' os3 := by
    refine ⟨hn, fun k hk => ?_⟩
    rcases (h3 k).mp hk with z | z
    · exact R.1.2 k z
    · have h4 := hnew k z.1 z.2.1 z.2.2.1 z.2.2.2
      have hF := L.2.2.1 k z.1 z.2.1
      exact ⟨z.1, hF, ⟨(Lv k z.1).1, h4⟩, new_due O Lv R.1 R.2.1 R.2.2.1 hW Sg (lw_hX I) z.1 hF h4 z.2.2.1 z.2.2.2⟩
  refine ⟨hOp, nc_ext O Lv R.1 R.2.1 (fun h hm => by have := R.2.2.2.1 h hm; omega) R.2.2.1 hOp hW Sg (lw_hX I) (fun h hm hno => ?_)⟩
  rcases (h3 h).mp hm with z | z
  · exact absurd z hno
  · exact z.2.2.2
theorem ri_next {g : Ck} {F : Int → Bool} {e : Int → Int} {os os1 os2 os3 : List Int} {p p2 p3 : Int → Int} {W W2 W3 : Int} {m e' : Int → Int} {S B : Int → Bool} (O : Okc g) (I : CI g F e os p W) (L : Lw g F e os p W m e' S B) (R : RI g F e' os1 B os2 p2 W2) (hn : os3.Nodup) (h3 : ∀ k, k ∈ os3 ↔ (k ∈ os2 ∨ (hs k ∧ B k = true ∧ k ∉ os2 ∧ 0 < by_ g e' os2 p2 W2 k)))
    (Sl : Sol g e' os3 p3 W3) (hb : W3 ≤ 327680000000000) : RI g F e' os1 B os3 p3 W3 := by
  obtain ⟨Op, N⟩ := ri_open O I L R hn h3
  have hl := ri_le O I L Op Sl N
  have hmo := sol_mono O (lw_lvl O I L) Op (fun k hk => (h3 k).mpr (Or.inl hk)) R.2.1 Sl N (fun h hm hno => by
    rcases (h3 h).mp hm with z | z
    · exact absurd z hno
    · exact z.2.2.2)
  refine ⟨Op, Sl, N, fun h hm => ⟨?_, hl.1 h hm⟩, hb, fun k hk => (h3 k).mpr (Or.inl (R.2.2.2.2.2.1 k hk)), fun k hk => ?_⟩
  · by_cases q : h ∈ os2
    · have h1 := hmo.1 h q
      have h2 := Int.mul_pos (R.2.2.2.1 h q).1 Sl.1
      rcases Int.lt_or_le 0 (p3 h) with z | z
      · exact z
      · have := Int.mul_nonneg (show 0 ≤ - p3 h by omega) (Int.le_of_lt R.2.1.1)
        rw [Int.neg_mul] at this
        omega
    · exact hmo.2 h hm q
  · rcases (h3 k).mp hk with z | z
    · exact R.2.2.2.2.2.2 k z
    · exact Or.inr z.2.1
theorem rt_le {g : Ck} {X Y : Int → Int → Int} {D E : Int} (O : Okc g) (hle : Le Y E X D) {h : Int} (hh : hs h) : rt g Y E h * D ≤ rt g X D h * E := by
  have h1 := rt_lin (g := g) X Y D E h
  have h2 : 0 ≤ gt g (fun k c => X k c * E - Y k c * D) h := s5_nn fun k hk => s3_nn fun c hc => Int.mul_nonneg (O.2.2.2.1 k h c hk hh hc).1 (show 0 ≤ X k c * E - Y k c * D by have := hle k c hk hc; omega)
  have h3 := Int.mul_nonneg O.2.1.1 h2
  omega
theorem rt_lt {g : Ck} {X Y : Int → Int → Int} {D E : Int} (O : Okc g) (hle : Le Y E X D) {h j c : Int} (hh : hs h) (hj : hs j) (hc : kl c) (hf : 0 < ckB g * ckO g j h c) (hs_ : Y j c * D < X j c * E) : rt g Y E h * D < rt g X D h * E := by
  have h1 := rt_lin (g := g) X Y D E h
  have hnn : ∀ k, hs k → ∀ c, kl c → 0 ≤ ckO g k h c * (X k c * E - Y k c * D) := fun k hk c hc => Int.mul_nonneg (O.2.2.2.1 k h c hk hh hc).1 (by have := hle k c hk hc; omega)
  have h2 : s3 (fun c => ckO g j h c * (X j c * E - Y j c * D)) ≤ gt g (fun k c => X k c * E - Y k c * D) h := s5_ge1 (f := fun k => s3 fun c => ckO g k h c * (X k c * E - Y k c * D)) (fun k hk => s3_nn fun c hc => hnn k hk c hc) hj
  have h3 : ckO g j h c * (X j c * E - Y j c * D) ≤ s3 (fun c => ckO g j h c * (X j c * E - Y j c * D)) := by
    have a0 := hnn j hj 0 (by omega)
    have a1 := hnn j hj 1 (by omega)
    have a2 := hnn j hj 2 (by omega)
    simp only [s3]
    rcases kl3 hc with rfl | rfl | rfl <;> omega
  have h4 := Int.mul_le_mul_of_nonneg_left (Int.le_trans h3 h2) O.2.1.1
  have h5 := Int.mul_pos hf (show 0 < X j c * E - Y j c * D by omega)
  rw [Int.mul_assoc] at h5
  omega
/-- each of the lowered that pays anything pays strictly less -/
theorem lw_strict {g : Ck} {F : Int → Bool} {e : Int → Int} {os os1 os2 : List Int} {p p2 : Int → Int} {W W2 : Int} {m e' : Int → Int} {S B : Int → Bool} (O : Okc g) (I : CI g F e os p W) (L : Lw g F e os p W m e' S B) (R : RI g F e' os1 B os2 p2 W2) :
    ∀ h, hs h → B h = true → 0 ≤ m h → Xs g e' os2 p2 W2 h (m h) * W < Xs g e os p W h (m h) * W2 := by
  have hW := I.2.2.2.1.1
  have hW2 := R.2.1.1
  have hle := (ri_le O I L R.1 R.2.1 R.2.2.1).2
  have hXp : ∀ h, hs h → B h = true → 0 ≤ m h → 0 < Xs g e os p W h (m h) := by
    intro h hh hB h0
    rcases lw_B O I L hh hB with z | z
    · by_cases ho : h ∈ os
      · rcases L.1 h hh with y | y
        · have : Xs g e os p W h (m h) = p h := by
            unfold Xs
            rw [if_neg (by omega), if_pos ⟨y.2, Inl_mem.mpr ho⟩]
          rw [this]; exact (I.2.2.2.2.2.1 h ho).1
        · exact absurd ho y.1
      · have : Xs g e os p W h (m h) = W := by
          unfold Xs
          rw [if_pos (Or.inl (z.2.2.2.2.2 ho).1)]
        rw [this]; exact hW
    · omega
  have hone : ∀ h, hs h → B h = true → 0 ≤ m h → (rt g (Xs g e' os2 p2 W2) W2 h * W < 10 * yt g (Xs g e os p W) h * W2) → Xs g e' os2 p2 W2 h (m h) * W < Xs g e os p W h (m h) * W2 := by
    intro h hh hB h0 hr
    rcases lw_B O I L hh hB with z | z
    · by_cases h2 : h ∈ os2
      · have h3 := R.2.1.rest O R.1 h2
        have h4 := hle h (m h) hh z.2.2.2.1
        rcases Int.lt_or_le (Xs g e' os2 p2 W2 h (m h) * W) (Xs g e os p W h (m h) * W2) with w | w
        · exact w
        · exfalso
          have Sg := lw_seg O I L
          have Sg2 : Seg g e' (Xs g e' os2 p2 W2) W2 := xs_seg hW2 R.1 (fun h hm => by have := R.2.2.2.1 h hm; omega)
          have h5 : yt g (Xs g e' os2 p2 W2) h * W = yt g (Xs g e os p W) h * W2 := by
            unfold yt
            rw [← s3_mul', ← s3_mul']
            refine s3_congr fun c hc => ?_
            by_cases hd : due g h c = 0
            · rw [hd]; simp
            · rw [Int.mul_assoc, Int.mul_assoc]
              congr 1
              by_cases c1 : c < e' h
              · rw [(Sg h c hh hc).1 c1, (Sg2 h c hh hc).1 c1, Int.mul_comm]
              · by_cases c2 : e' h < c
                · rw [(Sg h c hh hc).2.2.1 c2 hd, (Sg2 h c hh hc).2.2.1 c2 hd]; simp
                · have : c = m h := by omega
                  rw [this]; omega
          rw [h3, Int.mul_assoc, h5, Int.mul_assoc] at hr
          omega
      · have : Xs g e' os2 p2 W2 h (m h) = 0 := by
          unfold Xs
          rw [if_neg (by omega), if_neg (fun w => h2 (Inl_mem.mp w.2))]
        rw [this, Int.zero_mul]
        exact Int.mul_pos (hXp h hh hB h0) hW2
    · omega
  intro h hh hB
  refine L.2.2.2.2.2 (fun h => hs h → 0 ≤ m h → Xs g e' os2 p2 W2 h (m h) * W < Xs g e os p W h (m h) * W2) (fun h hh hS _ h0 => ?_) (fun j k hj hk hBj hP h0 hf hBk _ h0k => ?_) h hh hB hh
  · have h1 := L.2.2.2.1 h hh hS
    refine hone h hh h1.1 h0 ?_
    have h2 := rt_le O hle hh
    have h3 := Int.mul_lt_mul_of_pos_right h1.2.2 hW2
    omega
  · refine hone k hk hBk h0k ?_
    have h1 : kl (m j) := by
      rcases lw_B O I L hj hBj with z | z
      · exact z.2.2.2.1
      · omega
    have h2 := rt_lt O hle hk hj h1 hf (hP hj h0)
    have h3 := Int.mul_le_mul_of_nonneg_right (I.2.2.2.2.2.2.2.2.1 k hk (L.2.2.1 k hk hBk)) (Int.le_of_lt hW2)
    omega
/-- no part of the houses below class 3 feeds itself alone without a loss -/
theorem lw_neg {g : Ck} {F : Int → Bool} {e : Int → Int} {os os1 os2 : List Int} {p p2 : Int → Int} {W W2 : Int} {m e' : Int → Int} {S B : Int → Bool} (O : Okc g) (I : CI g F e os p W) (L : Lw g F e os p W m e' S B) (R : RI g F e' os1 B os2 p2 W2) : Neg g F e' (Xs g e' os2 p2 W2) W2 := by
  intro Q hQ C
  have hW := I.2.2.2.1.1
  have hW2 := R.2.1.1
  have hle := (ri_le O I L R.1 R.2.1 R.2.2.1).2
  have Sg := lw_seg O I L
  have Sg2 : Seg g e' (Xs g e' os2 p2 W2) W2 := xs_seg hW2 R.1 (fun h hm => by have := R.2.2.2.1 h hm; omega)
  have Lv := lw_lvl O I L
  have hk : ∀ k, hs k → Q k = true → kl (e' k) := fun k hk q => ⟨(Lv k hk).1, (hQ k hk q).2⟩
  have hph := phi O hk Sg Sg2 C
  have hP2 : ∀ h, hs h → (if Q h = true then rt g (Xs g e os p W) W h - 10 * yt g (Xs g e os p W) h else 0) ≤ 0 := by
    intro h hh
    split
    · rename_i q
      have := I.2.2.2.2.2.2.2.2.1 h hh (hQ h hh q).1; omega
    · omega
  have hsplit : s5 (fun h => if Q h = true then (rt g (Xs g e os p W) W h - 10 * yt g (Xs g e os p W) h) * W2 - (rt g (Xs g e' os2 p2 W2) W2 h - 10 * yt g (Xs g e' os2 p2 W2) h) * W else 0) = s5 (fun h => if Q h = true then rt g (Xs g e os p W) W h - 10 * yt g (Xs g e os p W) h else 0) * W2 - s5 (fun h => if Q h = true then rt g (Xs g e' os2 p2 W2) W2 h - 10 * yt g (Xs g e' os2 p2 W2) h else 0) * W := by
    rw [← s5_mul', ← s5_mul', ← s5_sub]
    refine s5_congr fun h _ => ?_
    split
    · rfl
    · simp
  rw [hsplit] at hph
  have hin : ∀ h, hs h → 0 ≤ (if Q h = true then s5 (fun k => if Q k = true then 0 else ckB g * s3 (fun c => ckO g k h c * (Xs g e os p W k c * W2 - Xs g e' os2 p2 W2 k c * W))) else 0) := by
    intro h hh
    split
    · exact s5_nn (oth_nn O hle hh)
    · omega
  have hin0 := s5_nn hin
  -- it is enough that the old sum is below 0, or that less comes in
  have hend : (s5 (fun h => if Q h = true then rt g (Xs g e os p W) W h - 10 * yt g (Xs g e os p W) h else 0) < 0 ∨ 0 < s5 (fun h => if Q h = true then s5 (fun k => if Q k = true then 0 else ckB g * s3 (fun c => ckO g k h c * (Xs g e os p W k c * W2 - Xs g e' os2 p2 W2 k c * W))) else 0)) → s5 (fun h => if Q h = true then rt g (Xs g e' os2 p2 W2) W2 h - 10 * yt g (Xs g e' os2 p2 W2) h else 0) < 0 := by
    intro q
    rcases Int.lt_or_le (s5 (fun h => if Q h = true then rt g (Xs g e' os2 p2 W2) W2 h - 10 * yt g (Xs g e' os2 p2 W2) h else 0)) 0 with z | z
    · exact z
    · exfalso
      have h1 := Int.mul_nonneg z (Int.le_of_lt hW)
      have h2 : s5 (fun h => if Q h = true then rt g (Xs g e os p W) W h - 10 * yt g (Xs g e os p W) h else 0) ≤ 0 := by
        have := s5_le (f := fun h => if Q h = true then rt g (Xs g e os p W) W h - 10 * yt g (Xs g e os p W) h else 0) (g := fun _ => 0) hP2
        simpa [s5] using this
      have h3 := Int.mul_nonneg (show 0 ≤ - s5 (fun h => if Q h = true then rt g (Xs g e os p W) W h - 10 * yt g (Xs g e os p W) h else 0) by omega) (Int.le_of_lt hW2)
      rw [Int.neg_mul] at h3
      rcases q with q | q
      · have := Int.mul_pos (show 0 < - s5 (fun h => if Q h = true then rt g (Xs g e os p W) W h - 10 * yt g (Xs g e os p W) h else 0) by omega) hW2
        rw [Int.neg_mul] at this
        omega
      · omega
  apply hend
  by_cases hsome : ∃ h, hs h ∧ Q h = true ∧ B h = true
  · rcases Classical.em (∃ h, hs h ∧ Q h = true ∧ S h = true) with q | q
    · left
      obtain ⟨h, hh, hQh, hS⟩ := q
      rcases Int.lt_or_le (s5 (fun h => if Q h = true then rt g (Xs g e os p W) W h - 10 * yt g (Xs g e os p W) h else 0)) 0 with z | z
      · exact z
      · exfalso
        have hn : s5 (fun k => - (if Q k = true then rt g (Xs g e os p W) W k - 10 * yt g (Xs g e os p W) k else 0)) ≤ 0 := by rw [s5_neg]; omega
        have h1 := s5_nn0 (fun k hk => by have := hP2 k hk; omega) hn h hh
        rw [if_pos hQh] at h1
        have := (L.2.2.2.1 h hh hS).2.2
        omega
    · right
      -- someone outside pays someone of them, and pays less
      have hedge : ∃ j k, hs j ∧ hs k ∧ B j = true ∧ Q j = false ∧ Q k = true ∧ 0 ≤ m j ∧ 0 < ckB g * ckO g j k (m j) := by
        rcases Classical.em (∃ j k, hs j ∧ hs k ∧ B j = true ∧ Q j = false ∧ Q k = true ∧ 0 ≤ m j ∧ 0 < ckB g * ckO g j k (m j)) with w | w
        · exact w
        · exfalso
          obtain ⟨h, hh, hQh, hBh⟩ := hsome
          have := L.2.2.2.2.2 (fun h => Q h = false) (fun h hh hS => by
            cases z : Q h
            · rfl
            · exact absurd ⟨h, hh, z, hS⟩ q) (fun j k hj hk hBj hP h0 hf hBk => by
            cases z : Q k
            · rfl
            · exact absurd ⟨j, k, hj, hk, hBj, hP, z, h0, hf⟩ w) h hh hBh
          rw [hQh] at this
          exact absurd this (by simp)
      obtain ⟨j, k, hj, hk', hBj, hQj, hQk, h0, hf⟩ := hedge
      have hkl : kl (m j) := by
        rcases lw_B O I L hj hBj with z | z
        · exact z.2.2.2.1
        · omega
      have hst := lw_strict O I L R j hj hBj h0
      have h1 := s5_ge1 hin hk'
      rw [if_pos hQk] at h1
      have h2 := s5_ge1 (oth_nn (R := Q) O hle hk') hj
      rw [if_neg (by rw [hQj]; simp)] at h2
      have hnn : ∀ c, kl c → 0 ≤ ckO g j k c * (Xs g e os p W j c * W2 - Xs g e' os2 p2 W2 j c * W) := fun c hc => Int.mul_nonneg (O.2.2.2.1 j k c hj hk' hc).1 (by have := hle j c hj hc; omega)
      have h3 : ckO g j k (m j) * (Xs g e os p W j (m j) * W2 - Xs g e' os2 p2 W2 j (m j) * W) ≤ s3 (fun c => ckO g j k c * (Xs g e os p W j c * W2 - Xs g e' os2 p2 W2 j c * W)) := by
        have a0 := hnn 0 (by omega)
        have a1 := hnn 1 (by omega)
        have a2 := hnn 2 (by omega)
        simp only [s3]
        rcases kl3 hkl with z | z | z <;> rw [z] <;> omega
      have h4 := Int.mul_le_mul_of_nonneg_left h3 O.2.1.1
      have h5 := Int.mul_pos hf (show 0 < Xs g e os p W j (m j) * W2 - Xs g e' os2 p2 W2 j (m j) * W by omega)
      rw [Int.mul_assoc] at h5
      omega
  · left
    have hnB : ∀ k, hs k → Q k = true → e' k = e k := fun k hk q => by
      cases z : B k
      · exact lw_nB L hk z
      · exact absurd ⟨k, hk, q, z⟩ hsome
    refine I.2.2.2.2.2.2.2.2.2 Q (fun k hk q => ⟨(hQ k hk q).1, by rw [← hnB k hk q]; exact (hQ k hk q).2⟩) ⟨C.1, fun k hk q => ?_⟩
    have h2 := C.2 k hk q
    unfold dd AA at h2 ⊢
    rw [hnB k hk q] at h2
    exact h2
/-- THE LOWERED payments keep the rules -/
theorem lw_done {g : Ck} {F : Int → Bool} {e : Int → Int} {os os1 os2 : List Int} {p p2 : Int → Int} {W W2 : Int} {m e' : Int → Int} {S B : Int → Bool} (O : Okc g) (I : CI g F e os p W) (L : Lw g F e os p W m e' S B) (h1 : ∀ k, k ∈ os1 ↔ (k ∈ os ∧ B k = false)) (R : RI g F e' os1 B os2 p2 W2)
    (hcl : ∀ h, hs h → B h = true → h ∉ os2 → by_ g e' os2 p2 W2 h ≤ 0) : CI g F e' os2 p2 W2 := by
  have hW := I.2.2.2.1.1
  have hW2 := R.2.1.1
  have Sg := lw_seg O I L
  have Sg2 : Seg g e' (Xs g e' os2 p2 W2) W2 := xs_seg hW2 R.1 (fun h hm => by have := R.2.2.2.1 h hm; omega)
  have Lv := lw_lvl O I L
  have hle := (ri_le O I L R.1 R.2.1 R.2.2.1).2
  have P2' : ∀ h, hs h → F h = true → rt g (Xs g e' os2 p2 W2) W2 h ≤ 10 * yt g (Xs g e' os2 p2 W2) h := by
    intro h hh hF
    by_cases q : h ∈ os2
    · rw [R.2.1.rest O R.1 q]; omega
    · cases hB : B h
      · have h2 := rt_le O hle hh
        have h3 := I.2.2.2.2.2.2.2.2.1 h hh hF
        have hno : h ∉ os := fun z => q (R.2.2.2.2.2.1 h ((h1 h).mpr ⟨z, hB⟩))
        have h4 : yt g (Xs g e' os2 p2 W2) h * W = yt g (Xs g e os p W) h * W2 := by
          unfold yt
          rw [← s3_mul', ← s3_mul']
          refine s3_congr fun c hc => ?_
          rw [Int.mul_assoc, Int.mul_assoc]
          congr 1
          unfold Xs
          rw [lw_nB L hh hB]
          by_cases c1 : c < e h ∨ due g h c = 0
          · rw [if_pos c1, if_pos c1, Int.mul_comm]
          · rw [if_neg c1, if_neg c1, if_neg (fun w => q (Inl_mem.mp w.2)), if_neg (fun w => hno (Inl_mem.mp w.2))]; simp
        have h5 := Int.mul_le_mul_of_nonneg_right h3 (Int.le_of_lt hW2)
        refine Int.le_of_mul_le_mul_right ?_ hW
        rw [Int.mul_assoc 10, h4, ← Int.mul_assoc]
        omega
      · have h2 := xs_by (p := p2) (W := W2) O R.1 hh
        rw [if_neg (fun z => q (Inl_mem.mp z))] at h2
        have := hcl h hh hB q
        omega
  have Ng := lw_neg O I L R
  refine ⟨Lv, lw_he I L, R.1, R.2.1, R.2.2.1, R.2.2.2.1, R.2.2.2.2.1, ?_, P2', Ng⟩
  refine low_top O hW hW2 I.2.2.2.2.2.2.2.1 Sg Sg2 hle Lv (lw_he I L) (fun h hh hF _ => I.2.2.2.2.2.2.2.2.1 h hh hF) (fun h hh hF _ => P2' h hh hF) (fun Q hQ C _ h2 _ => ?_)
  have h3 := Ng Q hQ C
  rw [s5_congr (g := fun _ => 0) (fun h hh => by
    by_cases q : Q h = true
    · rw [if_pos q, h2 h hh q]; omega
    · rw [if_neg q])] at h3
  simp [s5] at h3
/-- the classes go down -/
theorem lw_dec {g : Ck} {F : Int → Bool} {e : Int → Int} {os : List Int} {p : Int → Int} {W : Int} {m e' : Int → Int} {S B : Int → Bool} (O : Okc g) (I : CI g F e os p W) (L : Lw g F e os p W m e' S B) (hS : ∃ h, hs h ∧ S h = true) : s5 e' < s5 e := by
  have hle : ∀ k, hs k → 0 ≤ e k - e' k := by
    intro k hk
    cases hB : B k
    · rw [lw_nB L hk hB]; omega
    · have := I.1 k hk
      rcases lw_B O I L hk hB with z | z <;> omega
  obtain ⟨h, hh, hSh⟩ := hS
  have h1 := L.2.2.2.1 h hh hSh
  have h2 := s5_ge1 hle hh
  rw [s5_sub] at h2
  have h3 := I.2.2.2.1.1
  rcases lw_B O I L hh h1.1 with z | z
  · have := (z.2.2.2.2.2 h1.2.1).1
    omega
  · exfalso
    have h4 : yt g (Xs g e os p W) h = 0 := by
      unfold yt
      rw [s3_congr (g := fun _ => 0) (fun c hc => by
        by_cases hd : due g h c = 0
        · rw [hd, Int.zero_mul]
        · unfold Xs
          rw [if_neg (fun w => by
            rcases w with w | w
            · exact hd (z.2.2.2 c hc.1 w)
            · exact hd w), if_neg (fun w => z.2.2.1 (Inl_mem.mp w.2)), Int.mul_zero])]
      rfl
    have h5 : 0 ≤ rt g (Xs g e os p W) W h := by
      unfold rt
      have a1 := Int.mul_nonneg (Int.mul_nonneg O.1.1 (O.2.2.1 h hh).1) (Int.le_of_lt h3)
      have a2 : 0 ≤ gt g (Xs g e os p W) h := s5_nn fun k hk => s3_nn fun c hc => Int.mul_nonneg (O.2.2.2.1 k h c hk hh hc).1 (ci_seg I k c hk hc).2.2.2.1
      have a3 := Int.mul_nonneg O.2.1.1 a2
      omega
    have := h1.2.2
    rw [h4] at this
    omega
