/-! THE CLEARING: g holds costs a, b, coins of each house, what is owed (from, to, class). X h c by D: the part that h pays of class c -/
abbrev Ck : Type := Int × Int × (Int → Int) × (Int → Int → Int → Int)
def ckA (g : Ck) : Int := g.1
def ckB (g : Ck) : Int := g.2.1
def ckC (g : Ck) (h : Int) : Int := g.2.2.1 h
def ckO (g : Ck) (k h c : Int) : Int := g.2.2.2 k h c
def Okc (g : Ck) : Prop := (0 ≤ ckA g ∧ ckA g ≤ 10) ∧ (0 ≤ ckB g ∧ ckB g ≤ 10) ∧ (∀ h, hs h → 0 ≤ ckC g h ∧ ckC g h ≤ 400) ∧ (∀ k h c, hs k → hs h → kl c → 0 ≤ ckO g k h c ∧ ckO g k h c ≤ 20) ∧ ∀ k c, hs k → kl c → ckO g k k c = 0
def due (g : Ck) (h c : Int) : Int := s5 fun k => ckO g h k c
def gt (g : Ck) (X : Int → Int → Int) (h : Int) : Int := s5 fun k => s3 fun c => ckO g k h c * X k c
def yt (g : Ck) (X : Int → Int → Int) (h : Int) : Int := s3 fun c => due g h c * X h c
def rt (g : Ck) (X : Int → Int → Int) (D h : Int) : Int := ckA g * ckC g h * D + ckB g * gt g X h
theorem due_nn {g : Ck} (O : Okc g) {h c : Int} (hh : hs h) (hc : kl c) : 0 ≤ due g h c := s5_nn fun k hk => (O.2.2.2.1 h k c hh hk hc).1
theorem due_80 {g : Ck} (O : Okc g) {h c : Int} (hh : hs h) (hc : kl c) : due g h c ≤ 80 := by
  have z := O.2.2.2.2 h c hh hc
  have o := fun k hk => (O.2.2.2.1 h k c hh hk hc).2
  have := o 0 (by omega); have := o 1 (by omega); have := o 2 (by omega); have := o 3 (by omega); have := o 4 (by omega)
  simp only [due, s5]
  rcases hs5 hh with rfl | rfl | rfl | rfl | rfl <;> omega
theorem ow_due {g : Ck} (O : Okc g) {h k c : Int} (hh : hs h) (hk : hs k) (hc : kl c) : ckO g h k c ≤ due g h c := s5_ge1 (fun k hk => (O.2.2.2.1 h k c hh hk hc).1) hk
theorem ow_z {g : Ck} (O : Okc g) {h k c : Int} (hh : hs h) (hk : hs k) (hc : kl c) (h0 : due g h c = 0) : ckO g h k c = 0 := by
  have := ow_due O hh hk hc
  have := (O.2.2.2.1 h k c hh hk hc).1
  omega
theorem gt_lin {g : Ck} (X Y : Int → Int → Int) (p q h : Int) : gt g (fun k c => X k c * p - Y k c * q) h = gt g X h * p - gt g Y h * q := by
  unfold gt
  rw [← s5_mul', ← s5_mul', ← s5_sub]
  refine s5_congr fun k _ => ?_
  rw [← s3_mul', ← s3_mul', ← s3_sub]
  refine s3_congr fun c _ => ?_
  rw [Int.mul_sub, Int.mul_assoc, Int.mul_assoc]
theorem yt_lin {g : Ck} (X Y : Int → Int → Int) (p q h : Int) : yt g (fun k c => X k c * p - Y k c * q) h = yt g X h * p - yt g Y h * q := by
  unfold yt
  rw [← s3_mul', ← s3_mul', ← s3_sub]
  refine s3_congr fun c _ => ?_
  rw [Int.mul_sub, Int.mul_assoc, Int.mul_assoc]
theorem rt_lin {g : Ck} (X Y : Int → Int → Int) (D E h : Int) : rt g X D h * E - rt g Y E h * D = ckB g * gt g (fun k c => X k c * E - Y k c * D) h := by
  rw [gt_lin, rt, rt]
  grind
theorem s3_only {f : Int → Int} {e : Int} (he : kl e) (h : ∀ c, kl c → c ≠ e → f c = 0) : s3 f = f e := by
  simp only [s3]
  rcases kl3 he with rfl | rfl | rfl
  · rw [h 1 (by omega) (by omega), h 2 (by omega) (by omega)]; omega
  · rw [h 0 (by omega) (by omega), h 2 (by omega) (by omega)]; omega
  · rw [h 0 (by omega) (by omega), h 1 (by omega) (by omega)]; omega
/-- payments that end in class e h: before it all, behind it nothing -/
def Seg (g : Ck) (e : Int → Int) (X : Int → Int → Int) (D : Int) : Prop := ∀ h c, hs h → kl c → (c < e h → X h c = D) ∧ (due g h c = 0 → X h c = D) ∧ (e h < c → due g h c ≠ 0 → X h c = 0) ∧ 0 ≤ X h c ∧ X h c ≤ D
def Sub (g : Ck) (F : Int → Bool) (X : Int → Int → Int) (D : Int) : Prop := 0 < D ∧ (∀ h c, hs h → kl c → 0 ≤ X h c ∧ X h c ≤ D) ∧ (∀ h c c', hs h → kl c → kl c' → c < c' → 0 < due g h c' → 0 < X h c' → 0 < due g h c → X h c = D) ∧ ∀ h, hs h → F h = true → 10 * yt g X h ≤ rt g X D h
def Le (X : Int → Int → Int) (D : Int) (Y : Int → Int → Int) (E : Int) : Prop := ∀ h c, hs h → kl c → X h c * E ≤ Y h c * D
def Top (g : Ck) (F : Int → Bool) (X : Int → Int → Int) (D : Int) : Prop := ∀ X' D', Sub g F X' D' → Le X' D' X D
/-- what a house pays in its class, what of it goes where -/
def dd (g : Ck) (e : Int → Int) (k : Int) : Int := if e k < 3 then 10 * due g k (e k) else 0
def AA (g : Ck) (e : Int → Int) (k h : Int) : Int := if e k < 3 then ckB g * ckO g k h (e k) else 0
def Lvl (e : Int → Int) : Prop := ∀ h, hs h → 0 ≤ e h ∧ e h ≤ 3
theorem flw {g : Ck} (O : Okc g) {e : Int → Int} (L : Lvl e) : Flw (dd g e) (AA g e) := by
  refine ⟨fun k h hk hh => ?_, fun k hk => ?_, fun k hk => ?_⟩
  · unfold AA
    have := L k hk
    split
    · exact Int.mul_nonneg O.2.1.1 (O.2.2.2.1 k h (e k) hk hh (by omega)).1
    · omega
  · unfold AA
    split
    · rw [O.2.2.2.2 k (e k) hk ⟨by have := L k hk; omega, by omega⟩]; omega
    · rfl
  · unfold AA dd
    have := L k hk
    split
    · rw [s5_mul]
      exact Int.mul_le_mul_of_nonneg_right O.2.1.2 (due_nn O hk (by omega))
    · simp [s5]
/-- flows of a set of houses that differ in their class alone, and of the others -/
theorem gt_split {g : Ck} {e : Int → Int} {R : Int → Bool} {Z : Int → Int → Int} {h : Int} (he : ∀ k, hs k → R k = true → kl (e k)) (hz : ∀ k c, hs k → kl c → R k = true → c ≠ e k → ckO g k h c * Z k c = 0) :
    ckB g * gt g Z h = s5 (fun k => if R k = true then AA g e k h * Z k (e k) else 0) + s5 (fun k => if R k = true then 0 else ckB g * s3 (fun c => ckO g k h c * Z k c)) := by
  unfold gt
  rw [← s5_mul, ← s5_add]
  refine s5_congr fun k hk => ?_
  by_cases hR : R k = true
  · have hk3 := he k hk hR
    rw [if_pos hR, if_pos hR, s3_only hk3 (fun c hc hne => hz k c hk hc hR hne)]
    unfold AA
    rw [if_pos (by omega), Int.mul_assoc]
    omega
  · rw [if_neg hR, if_neg hR]
    omega
theorem yt_only {g : Ck} {e : Int → Int} {Z : Int → Int → Int} {h : Int} (he : kl (e h)) (hz : ∀ c, kl c → c ≠ e h → due g h c * Z h c = 0) : 10 * yt g Z h = dd g e h * Z h (e h) := by
  unfold yt dd
  rw [s3_only he hz, if_pos (by omega), Int.mul_assoc]
/-- PHI: how what a set that feeds itself alone has less than it pays changes: by what comes from others -/
theorem phi {g : Ck} {e : Int → Int} {R : Int → Bool} {X X' : Int → Int → Int} {D D' : Int} (O : Okc g) (he : ∀ k, hs k → R k = true → kl (e k)) (Sg : Seg g e X D) (Sg' : Seg g e X' D') (C : Clo (dd g e) (AA g e) R) :
    s5 (fun h => if R h = true then (rt g X D h - 10 * yt g X h) * D' - (rt g X' D' h - 10 * yt g X' h) * D else 0) = s5 (fun h => if R h = true then s5 (fun k => if R k = true then 0 else ckB g * s3 (fun c => ckO g k h c * (X k c * D' - X' k c * D))) else 0) := by
  have hz : ∀ k c, hs k → kl c → R k = true → c ≠ e k → due g k c ≠ 0 → X k c * D' - X' k c * D = 0 := by
    intro k c hk hc hR hne hd
    rcases Int.lt_or_gt_of_ne hne with q | q
    · rw [(Sg k c hk hc).1 q, (Sg' k c hk hc).1 q, Int.mul_comm]; omega
    · rw [(Sg k c hk hc).2.2.1 q hd, (Sg' k c hk hc).2.2.1 q hd]; omega
  have e1 : ∀ h, hs h → R h = true → (rt g X D h - 10 * yt g X h) * D' - (rt g X' D' h - 10 * yt g X' h) * D = s5 (fun k => if R k = true then 0 else ckB g * s3 (fun c => ckO g k h c * (X k c * D' - X' k c * D))) - (dd g e h * (X h (e h) * D' - X' h (e h) * D) - s5 (fun k => if R k = true then AA g e k h * (X k (e k) * D' - X' k (e k) * D) else 0)) := by
    intro h hh hR
    have h1 := rt_lin (g := g) X X' D D' h
    have h2 := yt_lin (g := g) X X' D' D h
    have h3 := gt_split (g := g) (e := e) (R := R) (Z := fun k c => X k c * D' - X' k c * D) (h := h) he (fun k c hk hc hRk hne => by
      by_cases hd : due g k c = 0
      · rw [ow_z O hk hh hc hd, Int.zero_mul]
      · rw [hz k c hk hc hRk hne hd, Int.mul_zero])
    have h4 := yt_only (g := g) (e := e) (Z := fun k c => X k c * D' - X' k c * D) (he h hh hR) (fun c hc hne => by
      by_cases hd : due g h c = 0
      · rw [hd, Int.zero_mul]
      · rw [hz h c hh hc hR hne hd, Int.mul_zero])
    rw [h3] at h1
    rw [h2] at h4
    have h5 : (rt g X D h - 10 * yt g X h) * D' - (rt g X' D' h - 10 * yt g X' h) * D = (rt g X D h * D' - rt g X' D' h * D) - 10 * (yt g X h * D' - yt g X' h * D) := by grind
    rw [h5, h1, h4]
    omega
  have e2 : s5 (fun h => if R h = true then dd g e h * (X h (e h) * D' - X' h (e h) * D) - s5 (fun k => if R k = true then AA g e k h * (X k (e k) * D' - X' k (e k) * D) else 0) else 0) = 0 := by
    rw [flow_eq (x := fun k => X k (e k) * D' - X' k (e k) * D)]
    rw [s5_congr (g := fun _ => 0) (fun k hk => by
      by_cases hR : R k = true
      · rw [if_pos hR, C.2 k hk hR]; simp
      · rw [if_neg hR])]
    simp [s5]
  have e3 : s5 (fun h => if R h = true then (rt g X D h - 10 * yt g X h) * D' - (rt g X' D' h - 10 * yt g X' h) * D else 0) = s5 (fun h => if R h = true then s5 (fun k => if R k = true then 0 else ckB g * s3 (fun c => ckO g k h c * (X k c * D' - X' k c * D))) else 0) - s5 (fun h => if R h = true then dd g e h * (X h (e h) * D' - X' h (e h) * D) - s5 (fun k => if R k = true then AA g e k h * (X k (e k) * D' - X' k (e k) * D) else 0) else 0) := by
    rw [← s5_sub]
    refine s5_congr fun h hh => ?_
    by_cases hR : R h = true
    · rw [if_pos hR, if_pos hR, if_pos hR, e1 h hh hR]
    · rw [if_neg hR, if_neg hR, if_neg hR]; omega
  rw [e3, e2]
  omega
/-- what comes from others is not less where all pay not less -/
theorem oth_nn {g : Ck} {X X' : Int → Int → Int} {D D' : Int} {R : Int → Bool} (O : Okc g) (hle : Le X' D' X D) {h : Int} (hh : hs h) : ∀ k, hs k → 0 ≤ (if R k = true then 0 else ckB g * s3 (fun c => ckO g k h c * (X k c * D' - X' k c * D))) := by
  intro k hk
  split
  · omega
  · refine Int.mul_nonneg O.2.1.1 (s3_nn fun c hc => Int.mul_nonneg (O.2.2.2.1 k h c hk hh hc).1 ?_)
    have := hle k c hk hc
    omega
theorem phi_le {g : Ck} {e : Int → Int} {R : Int → Bool} {X X' : Int → Int → Int} {D D' : Int} (O : Okc g) (he : ∀ k, hs k → R k = true → kl (e k)) (Sg : Seg g e X D) (Sg' : Seg g e X' D') (C : Clo (dd g e) (AA g e) R) (hle : Le X' D' X D) :
    s5 (fun h => if R h = true then (rt g X' D' h - 10 * yt g X' h) * D else 0) ≤ s5 (fun h => if R h = true then (rt g X D h - 10 * yt g X h) * D' else 0) := by
  have h1 := phi O he Sg Sg' C
  have h2 : 0 ≤ s5 (fun h => if R h = true then s5 (fun k => if R k = true then 0 else ckB g * s3 (fun c => ckO g k h c * (X k c * D' - X' k c * D))) else 0) := s5_nn fun h hh => by
    show 0 ≤ (if R h = true then _ else 0)
    split
    · exact s5_nn (oth_nn O hle hh)
    · omega
  have h3 : s5 (fun h => if R h = true then (rt g X D h - 10 * yt g X h) * D' - (rt g X' D' h - 10 * yt g X' h) * D else 0) = s5 (fun h => if R h = true then (rt g X D h - 10 * yt g X h) * D' else 0) - s5 (fun h => if R h = true then (rt g X' D' h - 10 * yt g X' h) * D else 0) := by
    rw [← s5_sub]
    refine s5_congr fun h _ => ?_
    split <;> omega
  omega
