/-! DEBTS AS A TEXT: what a text says (b its bytes, L how many) -/
def txk (b : Int → Int) (L i : Int) : Int := if i < L then b i else 0
def nmr (b : Int → Int) (L : Int) : Nat → Int → Int → Int × Int
  | 0, i, v => (i, v)
  | k + 1, i, v => if 48 ≤ txk b L i ∧ txk b L i ≤ 57 then nmr b L k (i + 1) (v * 10 + (txk b L i - 48)) else (i, v)
def mks (b : Int → Int) (L : Int) : Nat → Int → Int
  | 0, _ => 0
  | k + 1, i => if txk b L i = 62 then 1 + mks b L k (i + 1) else 0
/-- from the = on: fault, end, place, value -/
def prn (b : Int → Int) (L j : Int) (fg : Nat) (most k : Int) : Int × Int × Int × Int :=
  if txk b L j = 61 then (if (nmr b L fg (j + 1) 0).1 = j + 1 ∨ most < (nmr b L fg (j + 1) 0).2 then (j + 1, 0, 0, 0) else (-1, (nmr b L fg (j + 1) 0).1, k, (nmr b L fg (j + 1) 0).2)) else (j, 0, 0, 0)
def prt (b : Int → Int) (L n i : Int) : Int × Int × Int × Int :=
  if 0 ≤ txk b L i - 97 ∧ txk b L i - 97 < n then
    (if mks b L 3 (i + 1) = 0 then prn b L (i + 1) 3 200 (3 + (txk b L i - 97)) else
      (if (0 ≤ txk b L (i + 1 + mks b L 3 (i + 1)) - 97 ∧ txk b L (i + 1 + mks b L 3 (i + 1)) - 97 < n) ∧ ¬ txk b L (i + 1 + mks b L 3 (i + 1)) - 97 = txk b L i - 97 then
        prn b L (i + 1 + mks b L 3 (i + 1) + 1) 2 20 (8 + d3 (txk b L i - 97) (txk b L (i + 1 + mks b L 3 (i + 1)) - 97) (mks b L 3 (i + 1) - 1)) else (i + 1 + mks b L 3 (i + 1), 0, 0, 0)))
  else (i, 0, 0, 0)
def TB (b : Int → Int) (L : Int) : Prop := (0 ≤ L ∧ L ≤ 120) ∧ ∀ k, 0 ≤ k → k < L → 1 ≤ b k ∧ b k ≤ 127
theorem txk_lt {b : Int → Int} {L i : Int} (h : txk b L i ≠ 0) : i < L := by
  unfold txk at h
  by_cases q : i < L
  · exact q
  · rw [if_neg q] at h; exact absurd rfl h
theorem txk_b {b : Int → Int} {L i : Int} (t : TB b L) (h : 0 ≤ i) : 0 ≤ txk b L i ∧ txk b L i ≤ 127 := by
  unfold txk
  split
  · next q => have := t.2 i h q; omega
  · decide
theorem nmr_b {b : Int → Int} {L : Int} : ∀ (k : Nat) (i v c : Int), i ≤ L → 0 ≤ v → v ≤ c → (i ≤ (nmr b L k i v).1 ∧ (nmr b L k i v).1 ≤ L) ∧ 0 ≤ (nmr b L k i v).2 ∧ (nmr b L k i v).2 ≤ (c + 1) * 10 ^ k
  | 0, i, v, c, hi, h0, h1 => ⟨⟨Int.le_refl _, hi⟩, h0, by show v ≤ (c + 1) * 1; omega⟩
  | k + 1, i, v, c, hi, h0, h1 => by
    unfold nmr
    by_cases q : 48 ≤ txk b L i ∧ txk b L i ≤ 57
    · rw [if_pos q]
      have l := txk_lt (b := b) (L := L) (i := i) (by omega)
      have r := nmr_b (b := b) (L := L) k (i + 1) (v * 10 + (txk b L i - 48)) (c * 10 + 9) (by omega) (by omega) (by omega)
      have e : (c * 10 + 9 + 1) * 10 ^ k = (c + 1) * 10 ^ (k + 1) := by
        rw [Int.pow_succ, Int.mul_comm (10 ^ k) 10, ← Int.mul_assoc]
        congr 1
        omega
      rw [e] at r
      exact ⟨⟨by omega, r.1.2⟩, r.2⟩
    · rw [if_neg q]
      have p := ten_p (k + 1)
      have m : c + 1 ≤ (c + 1) * 10 ^ (k + 1) := by
        have := Int.mul_le_mul_of_nonneg_left (show (1 : Int) ≤ 10 ^ (k + 1) by omega) (show 0 ≤ c + 1 by omega)
        rw [Int.mul_one] at this
        exact this
      exact ⟨⟨Int.le_refl _, hi⟩, h0, by show v ≤ _; omega⟩
theorem mks_b {b : Int → Int} {L : Int} : ∀ (k : Nat) (i : Int), i ≤ L → (0 ≤ mks b L k i ∧ mks b L k i ≤ (k : Int)) ∧ i + mks b L k i ≤ L
  | 0, i, hi => ⟨⟨Int.le_refl _, Int.le_refl _⟩, by show i + 0 ≤ L; omega⟩
  | k + 1, i, hi => by
    unfold mks
    by_cases q : txk b L i = 62
    · rw [if_pos q]
      have l := txk_lt (b := b) (L := L) (i := i) (by omega)
      have r := mks_b (b := b) (L := L) k (i + 1) (by omega)
      omega
    · rw [if_neg q]
      omega
theorem prn_f {b : Int → Int} {L j : Int} {fg : Nat} {most k : Int} (hj : 0 ≤ j ∧ j ≤ L) : (prn b L j fg most k).1 = -1 ∨ (0 ≤ (prn b L j fg most k).1 ∧ (prn b L j fg most k).1 ≤ L) := by
  unfold prn
  by_cases q : txk b L j = 61
  · rw [if_pos q]
    have l := txk_lt (b := b) (L := L) (i := j) (by omega)
    split
    · exact Or.inr ⟨by show 0 ≤ j + 1; omega, by show j + 1 ≤ L; omega⟩
    · exact Or.inl rfl
  · rw [if_neg q]
    exact Or.inr hj
theorem prn_o {b : Int → Int} {L j : Int} {fg : Nat} {most k : Int} (hj : 0 ≤ j ∧ j ≤ L) (h : (prn b L j fg most k).1 = -1) : txk b L j = 61 ∧ (j + 2 ≤ (prn b L j fg most k).2.1 ∧ (prn b L j fg most k).2.1 ≤ L) ∧ (prn b L j fg most k).2.2.1 = k ∧ (0 ≤ (prn b L j fg most k).2.2.2 ∧ (prn b L j fg most k).2.2.2 ≤ most) := by
  unfold prn at h ⊢
  by_cases q : txk b L j = 61
  · rw [if_pos q] at h ⊢
    have l := txk_lt (b := b) (L := L) (i := j) (by omega)
    have r := nmr_b (b := b) (L := L) fg (j + 1) 0 0 (by omega) (Int.le_refl _) (Int.le_refl _)
    by_cases z : (nmr b L fg (j + 1) 0).1 = j + 1 ∨ most < (nmr b L fg (j + 1) 0).2
    · rw [if_pos z] at h
      have h' : j + 1 = -1 := h
      omega
    · rw [if_neg z]
      refine ⟨q, ⟨?_, r.1.2⟩, rfl, r.2.1, ?_⟩
      · show j + 2 ≤ (nmr b L fg (j + 1) 0).1
        omega
      · show (nmr b L fg (j + 1) 0).2 ≤ most
        omega
  · rw [if_neg q] at h
    have h' : j = -1 := h
    omega
/-- what a part without a fault tells -/
def PKv (n k v : Int) : Prop := (∃ h, (0 ≤ h ∧ h < n) ∧ k = 3 + h ∧ 0 ≤ v ∧ v ≤ 200) ∨ ∃ f t e, (0 ≤ f ∧ f < n) ∧ (0 ≤ t ∧ t < n) ∧ kl e ∧ f ≠ t ∧ k = 8 + d3 f t e ∧ 0 ≤ v ∧ v ≤ 20
theorem prt_b {b : Int → Int} {L n i : Int} (hi : 0 ≤ i ∧ i ≤ L) : (prt b L n i).1 = -1 ∨ (0 ≤ (prt b L n i).1 ∧ (prt b L n i).1 ≤ L) := by
  unfold prt
  by_cases q : 0 ≤ txk b L i - 97 ∧ txk b L i - 97 < n
  · rw [if_pos q]
    have l := txk_lt (b := b) (L := L) (i := i) (by omega)
    have m := mks_b (b := b) (L := L) 3 (i + 1) (by omega)
    by_cases z : mks b L 3 (i + 1) = 0
    · rw [if_pos z]; exact prn_f ⟨by omega, by omega⟩
    · rw [if_neg z]
      by_cases y : (0 ≤ txk b L (i + 1 + mks b L 3 (i + 1)) - 97 ∧ txk b L (i + 1 + mks b L 3 (i + 1)) - 97 < n) ∧ ¬ txk b L (i + 1 + mks b L 3 (i + 1)) - 97 = txk b L i - 97
      · rw [if_pos y]
        have l2 := txk_lt (b := b) (L := L) (i := i + 1 + mks b L 3 (i + 1)) (by omega)
        exact prn_f ⟨by omega, by omega⟩
      · rw [if_neg y]
        exact Or.inr ⟨by show 0 ≤ i + 1 + mks b L 3 (i + 1); omega, by show i + 1 + mks b L 3 (i + 1) ≤ L; omega⟩
  · rw [if_neg q]; exact Or.inr hi
theorem prt_o {b : Int → Int} {L n i : Int} (hi : 0 ≤ i ∧ i ≤ L) (h : (prt b L n i).1 = -1) : (i + 3 ≤ (prt b L n i).2.1 ∧ (prt b L n i).2.1 ≤ L) ∧ PKv n (prt b L n i).2.2.1 (prt b L n i).2.2.2 := by
  unfold prt at h ⊢
  by_cases q : 0 ≤ txk b L i - 97 ∧ txk b L i - 97 < n
  · rw [if_pos q] at h ⊢
    have l := txk_lt (b := b) (L := L) (i := i) (by omega)
    have m := mks_b (b := b) (L := L) 3 (i + 1) (by omega)
    by_cases z : mks b L 3 (i + 1) = 0
    · rw [if_pos z] at h ⊢
      have o := prn_o ⟨by omega, by omega⟩ h
      refine ⟨⟨by omega, o.2.1.2⟩, Or.inl ⟨txk b L i - 97, q, o.2.2.1, o.2.2.2⟩⟩
    · rw [if_neg z] at h ⊢
      by_cases y : (0 ≤ txk b L (i + 1 + mks b L 3 (i + 1)) - 97 ∧ txk b L (i + 1 + mks b L 3 (i + 1)) - 97 < n) ∧ ¬ txk b L (i + 1 + mks b L 3 (i + 1)) - 97 = txk b L i - 97
      · rw [if_pos y] at h ⊢
        have l2 := txk_lt (b := b) (L := L) (i := i + 1 + mks b L 3 (i + 1)) (by omega)
        have o := prn_o ⟨by omega, by omega⟩ h
        refine ⟨⟨by omega, o.2.1.2⟩, Or.inr ⟨_, _, _, q, y.1, ⟨by omega, by omega⟩, fun e => y.2 e.symm, o.2.2.1, o.2.2.2⟩⟩
      · rw [if_neg y] at h
        have h' : i + 1 + mks b L 3 (i + 1) = -1 := h
        omega
  · rw [if_neg q] at h
    have h' : i = -1 := h
    omega
/-! the class reads -/
def Rw2 (M M' : PM) : Prop := ∀ x, x ≠ 2 → M' 45 x = M 45 x
theorem Rw2.tr {M M1 M2 : PM} (a : Rw2 M M1) (b : Rw2 M1 M2) : Rw2 M M2 := fun x hx => (b x hx).trans (a x hx)
def TS (M : PM) (b : Int → Int) (L i : Int) : Prop := M 45 2 = i ∧ M 45 0 = L ∧ ∀ k, 0 ≤ k → k < L → M 46 k = b k
theorem TS.step {M : PM} {b : Int → Int} {L i : Int} (t : TS M b L i) : TS (mset M 45 2 (M 45 2 + 1)) b L (i + 1) := ⟨by rw [mset_eq, t.1], by rw [mset_at, if_neg (by decide)]; exact t.2.1, fun k k0 k1 => by rw [mset_ne (by decide)]; exact t.2.2 k k0 k1⟩
theorem Rw2.step (M : PM) (v : Int) : Rw2 M (mset M 45 2 v) := fun x hx => by rw [mset_at, if_neg hx]
theorem TS.to {M M' : PM} {b : Int → Int} {L i : Int} (t : TS M b L i) (r : Rw2 M M') (h46 : M' 46 = M 46) {j : Int} (h : M' 45 2 = j) : TS M' b L j := ⟨h, by rw [r 0 (by decide)]; exact t.2.1, by rw [h46]; exact t.2.2⟩
theorem ta_isNext {K : Nat} {b : Int → Int} {L i c : Int} {M : PM} {Q : Option PV → PM → Prop} (tb_ : TB b L) (t : TS M b L i) (hi : 0 ≤ i ∧ i ≤ L) (hc : 1 ≤ c ∧ c ≤ 127) (hy : txk b L i = c → Q (some (.inl 1)) M) (hn : ¬ txk b L i = c → Q (some (.inl 0)) M) : Call (K + 1) jTape_isNext [.inr (.inr 45), .inl c] P0 P0 M Q := by
  have L1 := tb_.1
  refine c_ta_isNext K c M Q ?_
  rw [t.1, t.2.1]
  refine ⟨⟨by omega, by omega⟩, ⟨by omega, by omega⟩, fun q => hn ?_, fun q => ?_⟩
  · unfold txk
    rw [if_neg (by omega)]
    omega
  · have e : txk b L i = b i := if_pos (by omega)
    have bb := tb_.2 i hi.1 (by omega)
    rw [t.2.2 i hi.1 (by omega)]
    rw [e] at hy hn
    exact ⟨⟨by omega, by omega⟩, ⟨by omega, by omega⟩, ⟨by omega, by omega⟩, hn, hy⟩
theorem ta_house {K : Nat} {b : Int → Int} {L i : Int} {M : PM} {Q : Option PV → PM → Prop} (B : XB M) (tb_ : TB b L) (t : TS M b L i) (hi : 0 ≤ i ∧ i ≤ L) (hy : (0 ≤ txk b L i - 97 ∧ txk b L i - 97 < M 1 0) → Q (some (.inl (txk b L i - 97))) M) (hn : ¬ (0 ≤ txk b L i - 97 ∧ txk b L i - 97 < M 1 0) → Q (some (.inl (-1))) M) : Call (K + 2) jTape_house [.inr (.inr 45), .inr (.inr 1)] P0 P0 M Q := by
  have L1 := tb_.1
  refine c_ta_house (K + 1) M Q ?_
  rw [t.1, t.2.1]
  refine ⟨⟨by omega, by omega⟩, ⟨by omega, by omega⟩, fun q => ?_, fun q => ?_⟩
  · have e : txk b L i = 0 := if_neg (by omega)
    have no : Q (some (.inl (-1))) M := hn (by rw [e]; omega)
    exact x_hasHouse_n B (by decide) (by omega) ⟨by decide, fun _ => no, fun _ => no⟩
  · have e : txk b L i = b i := if_pos (by omega)
    have bb := tb_.2 i hi.1 (by omega)
    rw [t.2.2 i hi.1 (by omega)]
    rw [e] at hy hn
    refine ⟨⟨by omega, by omega⟩, ?_⟩
    by_cases z : 0 ≤ b i - 97 ∧ b i - 97 < M 1 0
    · exact x_hasHouse_y B ⟨by omega, by omega⟩ z ⟨by decide, fun q => absurd q (by decide), fun _ => hy z⟩
    · exact x_hasHouse_n B ⟨by omega, by omega⟩ z ⟨by decide, fun _ => hn z, fun q => absurd rfl q⟩
theorem ta_number {K : Nat} {b : Int → Int} {L i : Int} {fg : Nat} {M : PM} {Q : Option PV → PM → Prop} (tb_ : TB b L) (t : TS M b L i) (hi : 0 ≤ i ∧ i ≤ L) (hf : fg ≤ 3) (hq : ∀ M', Ag [45] M M' → Rw2 M M' → M' 45 2 = (nmr b L fg i 0).1 → Q (some (.inl (nmr b L fg i 0).2)) M') : Call (K + 1) jTape_number [.inr (.inr 45), .inl (fg : Int)] P0 P0 M Q := by
  have L1 := tb_.1
  have loop : ∀ (k : Nat) (l : Int) (i1 v : Int) (M1 : PM), l + (k : Int) = (fg : Int) → 0 ≤ l → Ag [45] M M1 → Rw2 M M1 → TS M1 b L i1 → (0 ≤ i1 ∧ i1 ≤ L) → nmr b L k i1 v = nmr b L fg i 0 → G none (K + 1) jTape_number 4 [(0, .inr (.inr 45)), (1, .inl (fg : Int)), (2, .inl v), (3, .inl l)] [] P0 P0 M1 Q := by
    intro k
    induction k with
    | zero =>
      intro l i1 v M1 hl l0 hA r2 ts hi1 e
      have fin : Q (some (.inl v)) M1 := by
        have z := hq M1 hA r2 (by rw [← e]; exact ts.1)
        rw [← e] at z
        exact z
      exact g_ta_number_4 _ _ _ _ _ _ ⟨⟨by omega, by omega⟩, ⟨by omega, by omega⟩, fun _ => fin, fun q => absurd (by omega) q⟩
    | succ k ih =>
      intro l i1 v M1 hl l0 hA r2 ts hi1 e
      have fin : ¬ (48 ≤ txk b L i1 ∧ txk b L i1 ≤ 57) → Q (some (.inl v)) M1 := fun q => by
        have e' : nmr b L (k + 1) i1 v = (i1, v) := if_neg q
        rw [e'] at e
        have z := hq M1 hA r2 (by rw [← e]; exact ts.1)
        rw [← e] at z
        exact z
      refine g_ta_number_4 _ _ _ _ _ _ ?_
      have st := ts.step
      have rs := Rw2.step M1 (M1 45 2 + 1)
      rw [ts.1, ts.2.1]
      refine ⟨⟨by omega, by omega⟩, ⟨by omega, by omega⟩, fun q => absurd q (by omega), fun _ => ⟨⟨by omega, by omega⟩, ⟨by omega, by omega⟩, fun q => fin ?_, fun q => ?_⟩⟩
      · have e0 : txk b L i1 = 0 := if_neg (by omega)
        rw [e0]; omega
      · have e0 : txk b L i1 = b i1 := if_pos (by omega)
        have bb := tb_.2 i1 hi1.1 (by omega)
        rw [ts.2.2 i1 hi1.1 (by omega)]
        refine ⟨⟨by omega, by omega⟩, ⟨by omega, by omega⟩, fun q1 => fin (by rw [e0]; omega), fun q1 => ⟨fun q2 => ?_, fun q2 => fin (by rw [e0]; omega)⟩⟩
        have e' : nmr b L (k + 1) i1 v = nmr b L k (i1 + 1) (v * 10 + (txk b L i1 - 48)) := if_pos (by rw [e0]; omega)
        rw [e', e0] at e
        rw [ts.1] at st rs
        exact ih (l + 1) (i1 + 1) _ _ (by omega) (by omega) (hA.set (by decide)) (r2.tr rs) st ⟨by omega, by omega⟩ e
  exact c_ta_number K (fg : Int) M Q (loop fg 0 i 0 M (by omega) (by decide) (Ag.rf _ _) (fun _ _ => rfl) t hi rfl)
