/-! A LEVEL e with the houses os open in their class: they pay p of W there; the others end where their class begins -/
def Z0 (g : Ck) (e : Int → Int) (h c : Int) : Int := if c < e h ∨ due g h c = 0 then 1 else 0
def Pp (g : Ck) (e : Int → Int) (os : List Int) (p : Int → Int) (h c : Int) : Int := if c < e h ∨ due g h c = 0 then 0 else if c = e h ∧ Inl os h = true then p h else 0
def Xs (g : Ck) (e : Int → Int) (os : List Int) (p : Int → Int) (W h c : Int) : Int := if c < e h ∨ due g h c = 0 then W else if c = e h ∧ Inl os h = true then p h else 0
/-- ten times what a house has beyond what it pays whole, by what all pay whole -/
def bs (g : Ck) (e : Int → Int) (h : Int) : Int := rt g (Z0 g e) 1 h - 10 * yt g (Z0 g e) h
/-- the same by parts, too, times W -/
def by_ (g : Ck) (e : Int → Int) (os : List Int) (p : Int → Int) (W h : Int) : Int := bs g e h * W + s5 fun k => if Inl os k = true then AA g e k h * p k else 0
def Opn (g : Ck) (F : Int → Bool) (e : Int → Int) (os : List Int) : Prop := os.Nodup ∧ ∀ k ∈ os, hs k ∧ F k = true ∧ kl (e k) ∧ 0 < due g k (e k)
theorem xs_split (g : Ck) (e : Int → Int) (os : List Int) (p : Int → Int) (W h c : Int) : Xs g e os p W h c = Z0 g e h c * W - Pp g e os p h c * (-1) := by
  unfold Xs Z0 Pp
  split
  · omega
  · omega
theorem xs_by {g : Ck} {F : Int → Bool} {e : Int → Int} {os : List Int} {p : Int → Int} {W : Int} (O : Okc g) (Op : Opn g F e os) {h : Int} (hh : hs h) :
    rt g (Xs g e os p W) W h - 10 * yt g (Xs g e os p W) h = by_ g e os p W h - (if Inl os h = true then dd g e h * p h else 0) := by
  have hX : Xs g e os p W = fun k c => Z0 g e k c * W - Pp g e os p k c * (-1) := by funext k c; exact xs_split g e os p W k c
  have h1 : ckB g * gt g (Pp g e os p) h = s5 (fun k => if Inl os k = true then AA g e k h * p k else 0) := by
    unfold gt
    rw [← s5_mul]
    refine s5_congr fun k hk => ?_
    by_cases hm : Inl os k = true
    · have hm' := Op.2 k (of_decide_eq_true hm)
      rw [if_pos hm, s3_only hm'.2.2.1 (fun c hc hne => by
        have : Pp g e os p k c = 0 := by
          unfold Pp
          split
          · rfl
          · rw [if_neg (fun q => hne q.1)]
        rw [this, Int.mul_zero])]
      have : Pp g e os p k (e k) = p k := by
        unfold Pp
        rw [if_neg (by have := hm'.2.2.2; omega), if_pos ⟨rfl, hm⟩]
      rw [this, AA, if_pos hm'.2.2.1.2, Int.mul_assoc]
    · rw [if_neg hm]
      have : s3 (fun c => ckO g k h c * Pp g e os p k c) = 0 := by
        rw [s3_congr (g := fun _ => 0) (fun c _ => by
          have : Pp g e os p k c = 0 := by
            unfold Pp
            split
            · rfl
            · rw [if_neg (fun q => hm q.2)]
          rw [this, Int.mul_zero])]
        rfl
      rw [this, Int.mul_zero]
  have h2 : 10 * yt g (Pp g e os p) h = (if Inl os h = true then dd g e h * p h else 0) := by
    unfold yt
    by_cases hm : Inl os h = true
    · have hm' := Op.2 h (of_decide_eq_true hm)
      rw [if_pos hm, s3_only hm'.2.2.1 (fun c hc hne => by
        have : Pp g e os p h c = 0 := by
          unfold Pp
          split
          · rfl
          · rw [if_neg (fun q => hne q.1)]
        rw [this, Int.mul_zero])]
      have : Pp g e os p h (e h) = p h := by
        unfold Pp
        rw [if_neg (by have := hm'.2.2.2; omega), if_pos ⟨rfl, hm⟩]
      rw [this, dd, if_pos hm'.2.2.1.2, Int.mul_assoc]
    · rw [if_neg hm]
      have : s3 (fun c => due g h c * Pp g e os p h c) = 0 := by
        rw [s3_congr (g := fun _ => 0) (fun c _ => by
          have : Pp g e os p h c = 0 := by
            unfold Pp
            split
            · rfl
            · rw [if_neg (fun q => hm q.2)]
          rw [this, Int.mul_zero])]
        rfl
      rw [this]; rfl
  have h3 := gt_lin (g := g) (Z0 g e) (Pp g e os p) W (-1) h
  have h4 := yt_lin (g := g) (Z0 g e) (Pp g e os p) W (-1) h
  rw [hX]
  unfold by_ bs
  unfold rt
  rw [h3, h4, ← h1, ← h2]
  grind
/-- the equations of the open houses hold -/
def Sol (g : Ck) (e : Int → Int) (os : List Int) (p : Int → Int) (W : Int) : Prop := 0 < W ∧ ∀ h ∈ os, dd g e h * p h = by_ g e os p W h
theorem Sol.rest {g : Ck} {F : Int → Bool} {e : Int → Int} {os : List Int} {p : Int → Int} {W : Int} (O : Okc g) (Op : Opn g F e os) (S : Sol g e os p W) {h : Int} (hm : h ∈ os) : rt g (Xs g e os p W) W h = 10 * yt g (Xs g e os p W) h := by
  have h1 := xs_by (p := p) (W := W) O Op (Op.2 h hm).1
  rw [if_pos (by simp [Inl, hm]), S.2 h hm] at h1
  omega
theorem xs_seg {g : Ck} {F : Int → Bool} {e : Int → Int} {os : List Int} {p : Int → Int} {W : Int} (hW : 0 < W) (Op : Opn g F e os) (hp : ∀ h ∈ os, 0 ≤ p h ∧ p h ≤ W) : Seg g e (Xs g e os p W) W := by
  intro h c hh hc
  refine ⟨fun q => ?_, fun q => ?_, fun q hd => ?_, ?_⟩
  · unfold Xs; rw [if_pos (Or.inl q)]
  · unfold Xs; rw [if_pos (Or.inr q)]
  · unfold Xs; rw [if_neg (by omega), if_neg (by omega)]
  · unfold Xs
    split
    · omega
    · split
      · rename_i q
        exact hp h (of_decide_eq_true q.2)
      · omega
/-- the open houses pay not more than by payments from above -/
theorem sol_le {g : Ck} {F : Int → Bool} {e : Int → Int} {os : List Int} {p : Int → Int} {W D : Int} {X : Int → Int → Int} (O : Okc g) (L : Lvl e) (Op : Opn g F e os) (S : Sol g e os p W) (N : NCl (dd g e) (AA g e) (Inl os)) (hD : 0 < D) (Sg : Seg g e X D)
    (hX : ∀ h ∈ os, rt g X D h ≤ 10 * yt g X h) : (∀ h ∈ os, p h * D ≤ X h (e h) * W) ∧ Le (Xs g e os p W) W X D := by
  have hW := S.1
  -- X beside the held payments
  have hdec : ∀ h, hs h → ∀ c, kl c → X h c = Z0 g e h c * D + (if c < e h ∨ due g h c = 0 then 0 else X h c) := by
    intro h hh c hc
    unfold Z0
    by_cases q : c < e h ∨ due g h c = 0
    · rw [if_pos q, if_pos q]
      rcases q with q | q
      · rw [(Sg h c hh hc).1 q]; omega
      · rw [(Sg h c hh hc).2.1 q]; omega
    · rw [if_neg q, if_neg q]; omega
  have hnn : ∀ h ∈ os, s5 (fun k => if Inl os k = true then AA g e k h * (X k (e k) * W - p k * D) else 0) ≤ dd g e h * (X h (e h) * W - p h * D) := by
    intro h hm
    have hh := (Op.2 h hm).1
    have h1 := hX h hm
    have h2 := S.2 h hm
    -- rest by X: at least that of the held and the open ones
    have h3 : rt g X D h - rt g (Z0 g e) 1 h * D = ckB g * gt g (fun k c => if c < e k ∨ due g k c = 0 then 0 else X k c) h := by
      have e1 : gt g X h = gt g (Z0 g e) h * D + gt g (fun k c => if c < e k ∨ due g k c = 0 then 0 else X k c) h := by
        have := gt_lin (g := g) (Z0 g e) (fun k c => if c < e k ∨ due g k c = 0 then 0 else X k c) D (-1) h
        have e2 : gt g X h = gt g (fun k c => Z0 g e k c * D - (if c < e k ∨ due g k c = 0 then 0 else X k c) * (-1)) h := by
          unfold gt
          refine s5_congr fun k hk => s3_congr fun c hc => ?_
          rw [hdec k hk c hc]
          congr 1
          by_cases q : c < e k ∨ due g k c = 0
          · simp only [if_pos q]; omega
          · simp only [if_neg q]; omega
        rw [e2, this]
        omega
      unfold rt
      rw [e1]
      grind
    have h4 : s5 (fun k => if Inl os k = true then AA g e k h * X k (e k) else 0) ≤ ckB g * gt g (fun k c => if c < e k ∨ due g k c = 0 then 0 else X k c) h := by
      unfold gt
      rw [← s5_mul]
      refine s5_le fun k hk => ?_
      have hin : ∀ c, kl c → 0 ≤ ckO g k h c * (if c < e k ∨ due g k c = 0 then 0 else X k c) := fun c hc => Int.mul_nonneg (O.2.2.2.1 k h c hk hh hc).1 (by
        split
        · omega
        · exact (Sg k c hk hc).2.2.2.1)
      by_cases hmk : Inl os k = true
      · have hk' := Op.2 k (of_decide_eq_true hmk)
        rw [if_pos hmk, AA, if_pos hk'.2.2.1.2, Int.mul_assoc]
        refine Int.mul_le_mul_of_nonneg_left ?_ O.2.1.1
        have := s3_only (f := fun c => if c = e k then ckO g k h c * (if c < e k ∨ due g k c = 0 then 0 else X k c) else 0) hk'.2.2.1 (fun c _ hne => if_neg hne)
        rw [if_pos rfl, if_neg (by have := hk'.2.2.2; omega)] at this
        rw [← this]
        refine s3_le fun c hc => ?_
        split
        · exact Int.le_refl _
        · exact hin c hc
      · rw [if_neg hmk]
        exact Int.mul_nonneg O.2.1.1 (s3_nn hin)
    have h5 : 10 * yt g X h = 10 * yt g (Z0 g e) h * D + dd g e h * X h (e h) := by
      have hh' := Op.2 h hm
      have e1 : yt g X h = yt g (Z0 g e) h * D + due g h (e h) * X h (e h) := by
        have e2 : yt g X h = yt g (fun k c => Z0 g e k c * D - (if c < e k ∨ due g k c = 0 then 0 else X k c) * (-1)) h := by
          unfold yt
          refine s3_congr fun c hc => ?_
          rw [hdec h hh c hc]
          congr 1
          by_cases q : c < e h ∨ due g h c = 0
          · simp only [if_pos q]; omega
          · simp only [if_neg q]; omega
        have e3 : yt g (fun k c => if c < e k ∨ due g k c = 0 then 0 else X k c) h = due g h (e h) * X h (e h) := by
          unfold yt
          rw [s3_only hh'.2.2.1 (fun c hc hne => by
            show due g h c * (if c < e h ∨ due g h c = 0 then 0 else X h c) = 0
            by_cases q : c < e h ∨ due g h c = 0
            · rw [if_pos q, Int.mul_zero]
            · rw [if_neg q]
              rw [(Sg h c hh hc).2.2.1 (by omega) (by omega), Int.mul_zero])]
          show due g h (e h) * (if e h < e h ∨ due g h (e h) = 0 then 0 else X h (e h)) = _
          rw [if_neg (by have := hh'.2.2.2; omega)]
        rw [e2, yt_lin, e3]
        omega
      rw [e1, dd, if_pos hh'.2.2.1.2]
      grind
    have h6 : s5 (fun k => if Inl os k = true then AA g e k h * (X k (e k) * W - p k * D) else 0) = s5 (fun k => if Inl os k = true then AA g e k h * X k (e k) else 0) * W - s5 (fun k => if Inl os k = true then AA g e k h * p k else 0) * D := by
      rw [← s5_mul', ← s5_mul', ← s5_sub]
      refine s5_congr fun k _ => ?_
      split
      · rw [Int.mul_sub, Int.mul_assoc, Int.mul_assoc]
      · omega
    have h7 := Int.mul_le_mul_of_nonneg_right h4 (Int.le_of_lt hW)
    have h8 := Int.mul_le_mul_of_nonneg_right h1 (Int.le_of_lt hW)
    rw [h6]
    unfold by_ bs at h2
    have h9 : dd g e h * (X h (e h) * W - p h * D) = dd g e h * X h (e h) * W - (dd g e h * p h) * D := by grind
    rw [h9, h2]
    rw [← h3] at h7
    rw [h5] at h8
    grind
  have hle : ∀ h ∈ os, p h * D ≤ X h (e h) * W := by
    intro h hm
    have := mm_nn (flw O L) N (x := fun k => X k (e k) * W - p k * D) (fun h _ hO => hnn h (of_decide_eq_true hO)) h (Op.2 h hm).1 (by simp [Inl, hm])
    show p h * D ≤ X h (e h) * W
    have h0 : 0 ≤ X h (e h) * W - p h * D := this
    omega
  refine ⟨hle, fun h c hh hc => ?_⟩
  unfold Xs
  by_cases q : c < e h ∨ due g h c = 0
  · rw [if_pos q]
    have : X h c = D := by
      rcases q with q | q
      · exact (Sg h c hh hc).1 q
      · exact (Sg h c hh hc).2.1 q
    rw [this, Int.mul_comm]
    omega
  · rw [if_neg q]
    by_cases q2 : c = e h ∧ Inl os h = true
    · rw [if_pos q2, q2.1]
      exact hle h (of_decide_eq_true q2.2)
    · rw [if_neg q2, Int.zero_mul]
      exact Int.mul_nonneg (Sg h c hh hc).2.2.2.1 (Int.le_of_lt hW)
