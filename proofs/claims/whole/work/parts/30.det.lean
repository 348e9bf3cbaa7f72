/-! DETERMINANTS by rows: ex f r cs lays row r over the columns cs, with signs, times f of the other columns -/
def ex (f : List Int → Int) (r : Int → Int) : List Int → Int
  | [] => 0
  | c :: cs => r c * f cs - ex (fun l => f (c :: l)) r cs
def dt : List (Int → Int) → List Int → Int
  | [], _ => 1
  | r :: rs, cs => ex (dt rs) r cs
theorem ex_lin (a : Int) (r : Int → Int) : ∀ (cs : List Int) (f g : List Int → Int), ex (fun l => a * f l - g l) r cs = a * ex f r cs - ex g r cs
  | [], f, g => by simp [ex]
  | c :: cs, f, g => by
    have ih := ex_lin a r cs (fun l => f (c :: l)) (fun l => g (c :: l))
    simp only [ex, ih]
    grind
theorem ex_zero (r : Int → Int) : ∀ (cs : List Int), ex (fun _ => 0) r cs = 0
  | [] => rfl
  | c :: cs => by
    have ih := ex_zero r cs
    simp only [ex, ih]
    omega
theorem ex_neg (r : Int → Int) (cs : List Int) (f : List Int → Int) : ex (fun l => - f l) r cs = - ex f r cs := by
  have h := ex_lin 0 r cs f f
  simpa using h
theorem ex_anti (r s : Int → Int) : ∀ (cs : List Int) (f : List Int → Int), ex (ex f r) s cs = - ex (ex f s) r cs
  | [], f => by simp [ex]
  | c :: cs, f => by
    have ih := ex_anti r s cs (fun l => f (c :: l))
    have e1 : ex (fun l => ex f r (c :: l)) s cs = r c * ex f s cs - ex (ex (fun l => f (c :: l)) r) s cs := ex_lin (r c) s cs f _
    have e2 : ex (fun l => ex f s (c :: l)) r cs = s c * ex f r cs - ex (ex (fun l => f (c :: l)) s) r cs := ex_lin (s c) r cs f _
    rw [ex, ex, e1, e2, ih]
    omega
theorem ex_self (r : Int → Int) (cs : List Int) (f : List Int → Int) : ex (ex f r) r cs = 0 := by
  have := ex_anti r r cs f
  omega
theorem ex_congr (r : Int → Int) (cs : List Int) {f g : List Int → Int} (h : ∀ l, f l = g l) : ex f r cs = ex g r cs := by
  rw [show f = g from funext h]
/-- a row that stands among the rows: 0 -/
theorem dt_rep (r : Int → Int) : ∀ (rs : List (Int → Int)), r ∈ rs → ∀ cs, ex (dt rs) r cs = 0
  | [], h, _ => by simp at h
  | s :: rs, h, cs => by
    show ex (ex (dt rs) s) r cs = 0
    rcases List.mem_cons.mp h with rfl | h
    · exact ex_self r cs _
    · rw [ex_anti]
      have ih := dt_rep r rs h
      rw [ex_congr s cs (g := fun _ => 0) ih, ex_zero]
      rfl
/-- the factors that ex lays beside the columns -/
def cf (f : List Int → Int) : List Int → List Int
  | [] => []
  | c :: cs => f cs :: (cf (fun l => f (c :: l)) cs).map (fun x => -x)
theorem cf_len : ∀ (cs : List Int) (f : List Int → Int), (cf f cs).length = cs.length
  | [], _ => rfl
  | c :: cs, f => by simp [cf, cf_len cs]
def zs (r : Int → Int) : List Int → List Int → Int
  | c :: cs, x :: xs => r c * x + zs r cs xs
  | _, _ => 0
theorem zs_neg (r : Int → Int) : ∀ (cs xs : List Int), zs r cs (xs.map (fun x => -x)) = - zs r cs xs
  | [], _ => by simp [zs]
  | c :: cs, [] => by simp [zs]
  | c :: cs, x :: xs => by
    have ih := zs_neg r cs xs
    simp only [List.map_cons, zs, ih, Int.mul_neg]
    omega
theorem ex_cf (r : Int → Int) : ∀ (cs : List Int) (f : List Int → Int), ex f r cs = zs r cs (cf f cs)
  | [], _ => rfl
  | c :: cs, f => by
    rw [ex, cf, zs, zs_neg, ex_cf r cs]
    omega
/-- CRAMER: rows rs, columns cs, a further column q -/
theorem cramer (rs : List (Int → Int)) (cs : List Int) (q : Int) (r : Int → Int) (h : r ∈ rs) : zs r cs (cf (fun l => dt rs (q :: l)) cs) = r q * dt rs cs := by
  have h1 := dt_rep r rs h (q :: cs)
  rw [ex, ex_cf] at h1
  omega
theorem dt_cons (r : Int → Int) (rs : List (Int → Int)) (c : Int) (cs : List Int) : dt (r :: rs) (c :: cs) = r c * dt rs cs - zs r cs (cf (fun l => dt rs (c :: l)) cs) := by
  show ex (dt rs) r (c :: cs) = _
  rw [ex, ex_cf]
/-! columns change places -/
theorem ex_congr' (r : Int → Int) : ∀ (cs : List Int) {f g : List Int → Int}, (∀ l, l.length + 1 = cs.length → f l = g l) → ex f r cs = ex g r cs
  | [], _, _, _ => rfl
  | c :: cs, f, g, h => by
    rw [ex, ex, h cs (by simp)]
    rw [ex_congr' r cs (f := fun l => f (c :: l)) (g := fun l => g (c :: l)) (fun l hl => h (c :: l) (by simp; omega))]
theorem ex_swap (r : Int → Int) : ∀ (l1 : List Int) (f : List Int → Int) (c c' : Int) (l2 : List Int), (∀ l c c' l2', (l ++ c :: c' :: l2').length = l1.length + 1 + l2.length → f (l ++ c :: c' :: l2') = - f (l ++ c' :: c :: l2')) → ex f r (l1 ++ c :: c' :: l2) = - ex f r (l1 ++ c' :: c :: l2)
  | [], f, c, c', l2, hf => by
    simp only [List.nil_append, ex]
    have e : ex (fun l => f (c :: c' :: l)) r l2 = - ex (fun l => f (c' :: c :: l)) r l2 := by
      rw [← ex_neg]
      exact ex_congr' r l2 fun l hl => hf [] c c' l (by simp; omega)
    rw [e]
    omega
  | d :: l1, f, c, c', l2, hf => by
    simp only [List.cons_append, ex]
    have e1 := hf l1 c c' l2 (by simp; omega)
    have e2 := ex_swap r l1 (fun l => f (d :: l)) c c' l2 (fun l c c' l2' hl => hf (d :: l) c c' l2' (by simp at hl ⊢; omega))
    rw [e1, e2, Int.mul_neg]
    omega
theorem dt_swap : ∀ (rs : List (Int → Int)) (l : List Int) (c c' : Int) (l2 : List Int), (l ++ c :: c' :: l2).length = rs.length → dt rs (l ++ c :: c' :: l2) = - dt rs (l ++ c' :: c :: l2)
  | [], l, c, c', l2, h => by simp at h
  | r :: rs, l, c, c', l2, h => ex_swap r l (dt rs) c c' l2 (fun l' d d' l2' hl => dt_swap rs l' d d' l2' (by simp at h hl ⊢; omega))
/-- a column q before l goes behind it -/
def sgn : Nat → Int
  | 0 => 1
  | n + 1 => - sgn n
theorem dt_move (rs : List (Int → Int)) (q : Int) : ∀ (l l0 l2 : List Int), (l0 ++ q :: (l ++ l2)).length = rs.length → dt rs (l0 ++ q :: (l ++ l2)) = sgn l.length * dt rs (l0 ++ (l ++ q :: l2))
  | [], l0, l2, _ => by simp [sgn]
  | c :: l, l0, l2, h => by
    rw [List.cons_append, dt_swap rs l0 q c (l ++ l2) (by simpa using h)]
    have ih := dt_move rs q l (l0 ++ [c]) l2 (by simp at h ⊢; omega)
    simp only [List.append_assoc, List.cons_append, List.nil_append] at ih
    rw [ih]
    simp only [sgn, List.length_cons, List.cons_append]
    rw [Int.neg_mul]
/-! SUMS over houses 0 .. 4 and classes 0 .. 2 -/
def s5 (f : Int → Int) : Int := f 0 + f 1 + f 2 + f 3 + f 4
def s3 (f : Int → Int) : Int := f 0 + f 1 + f 2
theorem s5_swap (f : Int → Int → Int) : s5 (fun h => s5 (fun k => f h k)) = s5 (fun k => s5 (fun h => f h k)) := by
  simp only [s5]; omega
theorem s5_add (f g : Int → Int) : s5 (fun k => f k + g k) = s5 f + s5 g := by simp only [s5]; omega
theorem s5_sub (f g : Int → Int) : s5 (fun k => f k - g k) = s5 f - s5 g := by simp only [s5]; omega
theorem s5_neg (f : Int → Int) : s5 (fun k => - f k) = - s5 f := by simp only [s5]; omega
theorem s5_mul (a : Int) (f : Int → Int) : s5 (fun k => a * f k) = a * s5 f := by simp only [s5, Int.mul_add]
theorem s5_mul' (a : Int) (f : Int → Int) : s5 (fun k => f k * a) = s5 f * a := by simp only [s5, Int.add_mul]
theorem s3_add (f g : Int → Int) : s3 (fun k => f k + g k) = s3 f + s3 g := by simp only [s3]; omega
theorem s3_sub (f g : Int → Int) : s3 (fun k => f k - g k) = s3 f - s3 g := by simp only [s3]; omega
theorem s3_mul (a : Int) (f : Int → Int) : s3 (fun k => a * f k) = a * s3 f := by simp only [s3, Int.mul_add]
theorem s3_mul' (a : Int) (f : Int → Int) : s3 (fun k => f k * a) = s3 f * a := by simp only [s3, Int.add_mul]
/-- a house; a class -/
abbrev hs (h : Int) : Prop := 0 ≤ h ∧ h < 5
abbrev kl (c : Int) : Prop := 0 ≤ c ∧ c < 3
theorem hs5 {h : Int} (H : hs h) : h = 0 ∨ h = 1 ∨ h = 2 ∨ h = 3 ∨ h = 4 := by omega
theorem kl3 {c : Int} (H : kl c) : c = 0 ∨ c = 1 ∨ c = 2 := by omega
theorem s5_congr {f g : Int → Int} (h : ∀ k, hs k → f k = g k) : s5 f = s5 g := by
  simp only [s5]
  rw [h 0 (by omega), h 1 (by omega), h 2 (by omega), h 3 (by omega), h 4 (by omega)]
theorem s3_congr {f g : Int → Int} (h : ∀ k, kl k → f k = g k) : s3 f = s3 g := by
  simp only [s3]
  rw [h 0 (by omega), h 1 (by omega), h 2 (by omega)]
theorem s5_le {f g : Int → Int} (h : ∀ k, hs k → f k ≤ g k) : s5 f ≤ s5 g := by
  simp only [s5]
  have := h 0 (by omega); have := h 1 (by omega); have := h 2 (by omega); have := h 3 (by omega); have := h 4 (by omega)
  omega
theorem s3_le {f g : Int → Int} (h : ∀ k, kl k → f k ≤ g k) : s3 f ≤ s3 g := by
  simp only [s3]
  have := h 0 (by omega); have := h 1 (by omega); have := h 2 (by omega)
  omega
theorem s5_nn {f : Int → Int} (h : ∀ k, hs k → 0 ≤ f k) : 0 ≤ s5 f := by
  have := s5_le (f := fun _ => 0) h
  simpa [s5] using this
theorem s5_nn0 {f : Int → Int} (h : ∀ k, hs k → 0 ≤ f k) (hz : s5 f ≤ 0) : ∀ k, hs k → f k = 0 := by
  intro k hk
  simp only [s5] at hz
  have := h 0 (by omega); have := h 1 (by omega); have := h 2 (by omega); have := h 3 (by omega); have := h 4 (by omega)
  rcases hs5 hk with rfl | rfl | rfl | rfl | rfl <;> omega
theorem s3_nn {f : Int → Int} (h : ∀ k, kl k → 0 ≤ f k) : 0 ≤ s3 f := by
  have := s3_le (f := fun _ => 0) h
  simpa [s3] using this
theorem s3_nn0 {f : Int → Int} (h : ∀ k, kl k → 0 ≤ f k) (hz : s3 f ≤ 0) : ∀ k, kl k → f k = 0 := by
  intro k hk
  simp only [s3] at hz
  have := h 0 (by omega); have := h 1 (by omega); have := h 2 (by omega)
  rcases kl3 hk with rfl | rfl | rfl <;> omega
theorem s5_ge1 {f : Int → Int} (h : ∀ k, hs k → 0 ≤ f k) {j : Int} (hj : hs j) : f j ≤ s5 f := by
  simp only [s5]
  have := h 0 (by omega); have := h 1 (by omega); have := h 2 (by omega); have := h 3 (by omega); have := h 4 (by omega)
  rcases hs5 hj with rfl | rfl | rfl | rfl | rfl <;> omega
theorem s5_one {j : Int} (hj : hs j) (x : Int) : s5 (fun k => if k = j then x else 0) = x := by
  simp only [s5]
  rcases hs5 hj with rfl | rfl | rfl | rfl | rfl <;> simp
/-! FLOWS: of what k pays (d k), A k h goes to h; R is a set of houses (0 or 1) -/
/-- R keeps all it pays -/
def Clo (d : Int → Int) (A : Int → Int → Int) (R : Int → Bool) : Prop := (∃ k, hs k ∧ R k = true) ∧ ∀ k, hs k → R k = true → s5 (fun h => if R h = true then A k h else 0) = d k
theorem flow_eq {d : Int → Int} {A : Int → Int → Int} {R : Int → Bool} {x : Int → Int} :
    s5 (fun h => if R h = true then d h * x h - s5 (fun k => if R k = true then A k h * x k else 0) else 0) = s5 (fun k => if R k = true then x k * (d k - s5 (fun h => if R h = true then A k h else 0)) else 0) := by
  have e1 : ∀ h, (if R h = true then d h * x h - s5 (fun k => if R k = true then A k h * x k else 0) else 0) = (if R h = true then d h * x h else 0) - s5 (fun k => if R h = true then (if R k = true then A k h * x k else 0) else 0) := by
    intro h
    split
    · rfl
    · simp [s5]
  have e2 : ∀ k, (if R k = true then x k * (d k - s5 (fun h => if R h = true then A k h else 0)) else 0) = (if R k = true then d k * x k else 0) - s5 (fun h => if R h = true then (if R k = true then A k h * x k else 0) else 0) := by
    intro k
    split
    · rename_i hk
      rw [Int.mul_sub, ← s5_mul, Int.mul_comm]
      congr 1
      apply s5_congr
      intro h _
      split
      · rw [Int.mul_comm]
      · simp
    · simp [s5]
  rw [s5_congr (fun h _ => e1 h), s5_congr (fun k _ => e2 k), s5_sub, s5_sub, s5_swap]
/-- a set whose x is above 0 and that has to be fed by itself keeps all that it pays -/
theorem flow_clo {d : Int → Int} {A : Int → Int → Int} {R : Int → Bool} {x : Int → Int} (hne : ∃ k, hs k ∧ R k = true) (hx : ∀ k, hs k → R k = true → 0 < x k) (hd : ∀ k, hs k → R k = true → s5 (fun h => if R h = true then A k h else 0) ≤ d k)
    (hf : ∀ h, hs h → R h = true → d h * x h ≤ s5 (fun k => if R k = true then A k h * x k else 0)) :
    Clo d A R ∧ ∀ h, hs h → R h = true → d h * x h = s5 (fun k => if R k = true then A k h * x k else 0) := by
  have e := flow_eq (d := d) (A := A) (R := R) (x := x)
  have h1 : s5 (fun h => if R h = true then d h * x h - s5 (fun k => if R k = true then A k h * x k else 0) else 0) ≤ 0 := by
    have := s5_le (f := fun h => if R h = true then d h * x h - s5 (fun k => if R k = true then A k h * x k else 0) else 0) (g := fun _ => 0) (fun k hk => by
      show (if R k = true then _ else 0) ≤ 0
      split
      · have := hf k hk (by assumption); omega
      · omega)
    simpa [s5] using this
  have h2 : ∀ k, hs k → 0 ≤ (if R k = true then x k * (d k - s5 (fun h => if R h = true then A k h else 0)) else 0) := by
    intro k hk
    split
    · rename_i hR
      exact Int.mul_nonneg (by have := hx k hk hR; omega) (by have := hd k hk hR; omega)
    · omega
  rw [e] at h1
  have h3 := s5_nn0 h2 h1
  have h4 : ∀ k, hs k → R k = true → s5 (fun h => if R h = true then A k h else 0) = d k := by
    intro k hk hR
    have := h3 k hk
    rw [if_pos hR] at this
    rcases Int.mul_eq_zero.mp this with h | h
    · have := hx k hk hR; omega
    · omega
  refine ⟨⟨hne, h4⟩, fun h hh hR => ?_⟩
  have h5 : s5 (fun h => if R h = true then s5 (fun k => if R k = true then A k h * x k else 0) - d h * x h else 0) ≤ 0 := by
    have e2 : s5 (fun h => if R h = true then s5 (fun k => if R k = true then A k h * x k else 0) - d h * x h else 0) = - s5 (fun h => if R h = true then d h * x h - s5 (fun k => if R k = true then A k h * x k else 0) else 0) := by
      rw [← s5_neg]
      apply s5_congr
      intro k _
      split <;> omega
    rw [e2, e]
    have := s5_nn h2
    omega
  have := s5_nn0 (f := fun h => if R h = true then s5 (fun k => if R k = true then A k h * x k else 0) - d h * x h else 0) (fun k hk => by
    show 0 ≤ (if R k = true then _ else 0)
    split
    · have := hf k hk (by assumption); omega
    · omega) h5 h hh
  rw [if_pos hR] at this
  omega
