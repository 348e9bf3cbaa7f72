/-! COINS, pure: what a house pays by what it gets -/
def crl (g : Ck) (L h : Int) : Nat → Int
  | 0 => L
  | c + 1 => crl g L h c - mn2 (crl g L h c) (due g h ((c : Nat) : Int))
def cL (g : Ck) (x h : Int) : Int := if ckC g h + x < (s3 fun c => due g h c) then Int.tdiv (ckA g * ckC g h + ckB g * x) 10 else s3 fun c => due g h c
def cam (g : Ck) (x h t c : Int) : Int := if 0 < due g h c then Int.tdiv (ckO g h t c * mn2 (crl g (cL g x h) h c.toNat) (due g h c)) (due g h c) else 0
def cgt (P : Int → Int → Int → Int) (h : Int) : Int := s5 fun k => s3 fun c => P k h c
def cit (g : Ck) : Nat → Int → Int → Int → Int
  | 0 => ckO g
  | n + 1 => fun h t c => cam g (cgt (cit g n) h) h t c
def CE (P P' : Int → Int → Int → Int) : Prop := ∀ h t c, hs h → hs t → kl c → P h t c = P' h t c
def Wlk (g : Ck) (N : Nat) : Prop := CE (cit g (N + 1)) (cit g N) ∧ ∀ i, i < N → ¬ CE (cit g (i + 1)) (cit g i)
theorem Wlk.uniq {g : Ck} {N N' : Nat} (a : Wlk g N) (b : Wlk g N') : N = N' := by
  rcases Nat.lt_trichotomy N N' with z | z | z
  · exact absurd a.1 (b.2 N z)
  · exact z
  · exact absurd b.1 (a.2 N' z)
theorem td_ed {a b : Int} (ha : 0 ≤ a) : Int.tdiv a b = a / b := Int.tdiv_eq_ediv_of_nonneg ha
theorem td_mono {a b d : Int} (ha : 0 ≤ a) (h : a ≤ b) (hd : 0 < d) : Int.tdiv a d ≤ Int.tdiv b d := by
  rw [td_ed ha, td_ed (by omega)]
  exact Int.ediv_le_ediv hd h
theorem td_nn {a d : Int} (ha : 0 ≤ a) (hd : 0 < d) : 0 ≤ Int.tdiv a d := by
  rw [td_ed ha]
  exact Int.ediv_nonneg ha (Int.le_of_lt hd)
theorem crl_mono {g : Ck} (O : Okc g) {L L' h : Int} (hh : hs h) (hL : L ≤ L') (h0 : 0 ≤ L) : ∀ c : Nat, c ≤ 3 → 0 ≤ crl g L h c ∧ crl g L h c ≤ crl g L' h c := by
  intro c
  induction c with
  | zero => intro _; exact ⟨h0, hL⟩
  | succ c ih =>
    intro hc
    have i := ih (by omega)
    have d := due_nn O hh (c := ((c : Nat) : Int)) ⟨by omega, by omega⟩
    simp only [crl, mn2]
    split <;> split <;> omega
theorem crl_all {g : Ck} (O : Okc g) {h : Int} (hh : hs h) {c : Int} (hc : kl c) : due g h c ≤ crl g (s3 fun c => due g h c) h c.toNat := by
  have d0 := due_nn O hh (c := 0) (by decide); have d1 := due_nn O hh (c := 1) (by decide); have d2 := due_nn O hh (c := 2) (by decide)
  have e0 : crl g (s3 fun c => due g h c) h 0 = due g h 0 + due g h 1 + due g h 2 := rfl
  have e1 : crl g (s3 fun c => due g h c) h 1 = due g h 1 + due g h 2 := by
    show crl g (s3 fun c => due g h c) h 0 - mn2 (crl g (s3 fun c => due g h c) h 0) (due g h 0) = _
    rw [e0, mn2]
    split <;> omega
  have e2 : crl g (s3 fun c => due g h c) h 2 = due g h 2 := by
    show crl g (s3 fun c => due g h c) h 1 - mn2 (crl g (s3 fun c => due g h c) h 1) (due g h 1) = _
    rw [e1, mn2]
    split <;> omega
  rcases kl3 hc with rfl | rfl | rfl
  · show due g h 0 ≤ crl g (s3 fun c => due g h c) h 0; omega
  · show due g h 1 ≤ crl g (s3 fun c => due g h c) h 1; omega
  · show due g h 2 ≤ crl g (s3 fun c => due g h c) h 2; omega
theorem ds_nn {g : Ck} (O : Okc g) {h : Int} (hh : hs h) : 0 ≤ (s3 fun c => due g h c) ∧ (s3 fun c => due g h c) ≤ 240 := by
  have d0 := due_nn O hh (c := 0) (by decide); have d1 := due_nn O hh (c := 1) (by decide); have d2 := due_nn O hh (c := 2) (by decide)
  have u0 := due_80 O hh (c := 0) (by decide); have u1 := due_80 O hh (c := 1) (by decide); have u2 := due_80 O hh (c := 2) (by decide)
  simp only [s3]; omega
theorem cA_b {g : Ck} (O : Okc g) {x h : Int} (hh : hs h) (h0 : 0 ≤ x) : 0 ≤ ckA g * ckC g h + ckB g * x ∧ ckA g * ckC g h + ckB g * x ≤ 10 * (ckC g h + x) := by
  have hc := O.2.2.1 h hh
  have a1 := Int.mul_nonneg O.1.1 hc.1
  have a2 := Int.mul_nonneg O.2.1.1 h0
  have a3 := Int.mul_le_mul_of_nonneg_right O.1.2 hc.1
  have a4 := Int.mul_le_mul_of_nonneg_right O.2.1.2 h0
  omega
theorem cL_mono {g : Ck} (O : Okc g) {x y h : Int} (hh : hs h) (h0 : 0 ≤ x) (hxy : x ≤ y) : 0 ≤ cL g x h ∧ cL g x h ≤ cL g y h := by
  have hd := ds_nn O hh
  have a := cA_b O hh h0
  have a' := cA_b O hh (show 0 ≤ y by omega)
  have m : ckA g * ckC g h + ckB g * x ≤ ckA g * ckC g h + ckB g * y := by
    have := Int.mul_le_mul_of_nonneg_left hxy O.2.1.1
    omega
  have hn := td_nn a.1 (show (0 : Int) < 10 by decide)
  unfold cL
  by_cases q : ckC g h + x < (s3 fun c => due g h c)
  · rw [if_pos q]
    refine ⟨hn, ?_⟩
    by_cases q2 : ckC g h + y < (s3 fun c => due g h c)
    · rw [if_pos q2]; exact td_mono a.1 m (by decide)
    · rw [if_neg q2]
      have h1 : Int.tdiv (ckA g * ckC g h + ckB g * x) 10 ≤ ckC g h + x := by
        rw [td_ed a.1]; omega
      omega
  · rw [if_neg q, if_neg (by omega)]; exact ⟨hd.1, Int.le_refl _⟩
theorem cam_mono {g : Ck} (O : Okc g) {x y h t c : Int} (hh : hs h) (ht : hs t) (hc : kl c) (h0 : 0 ≤ x) (hxy : x ≤ y) : 0 ≤ cam g x h t c ∧ cam g x h t c ≤ cam g y h t c ∧ cam g y h t c ≤ ckO g h t c := by
  have o := O.2.2.2.1 h t c hh ht hc
  have l := cL_mono O hh h0 hxy
  have r := crl_mono O hh l.2 l.1 c.toNat (by have := hc.2; omega)
  unfold cam
  by_cases q : 0 < due g h c
  · rw [if_pos q, if_pos q]
    have m1 : mn2 (crl g (cL g x h) h c.toNat) (due g h c) ≤ mn2 (crl g (cL g y h) h c.toNat) (due g h c) := by simp only [mn2]; split <;> split <;> omega
    have m0 : 0 ≤ mn2 (crl g (cL g x h) h c.toNat) (due g h c) := by simp only [mn2]; split <;> omega
    have m2 : mn2 (crl g (cL g y h) h c.toNat) (due g h c) ≤ due g h c := by simp only [mn2]; split <;> omega
    have p0 := Int.mul_nonneg o.1 m0
    have p1 := Int.mul_le_mul_of_nonneg_left m1 o.1
    have p2 := Int.mul_le_mul_of_nonneg_left m2 o.1
    refine ⟨td_nn p0 q, td_mono p0 p1 q, ?_⟩
    have := td_mono (Int.le_trans p0 p1) p2 q
    rw [Int.mul_tdiv_cancel _ (by omega)] at this
    exact this
  · rw [if_neg q, if_neg q]; exact ⟨by omega, by omega, o.1⟩
theorem cgt_le {P P' : Int → Int → Int → Int} (h : ∀ a b c, hs a → hs b → kl c → P a b c ≤ P' a b c) {t : Int} (ht : hs t) : cgt P t ≤ cgt P' t := s5_le fun k hk => s3_le fun c hc => h k t c hk ht hc
theorem cgt_nn {P : Int → Int → Int → Int} (h : ∀ a b c, hs a → hs b → kl c → 0 ≤ P a b c) {t : Int} (ht : hs t) : 0 ≤ cgt P t := s5_nn fun k hk => s3_nn fun c hc => h k t c hk ht hc
theorem cit_ok {g : Ck} (O : Okc g) : ∀ n : Nat, (∀ h t c, hs h → hs t → kl c → 0 ≤ cit g n h t c ∧ cit g n h t c ≤ ckO g h t c) ∧ ∀ h t c, hs h → hs t → kl c → cit g (n + 1) h t c ≤ cit g n h t c := by
  intro n
  induction n with
  | zero =>
    refine ⟨fun h t c hh ht hc => ⟨(O.2.2.2.1 h t c hh ht hc).1, Int.le_refl _⟩, fun h t c hh ht hc => ?_⟩
    exact (cam_mono O hh ht hc (cgt_nn (fun a b c ha hb hc => (O.2.2.2.1 a b c ha hb hc).1) hh) (Int.le_refl _)).2.2
  | succ n ih =>
    have nn : ∀ h t c, hs h → hs t → kl c → 0 ≤ cit g (n + 1) h t c ∧ cit g (n + 1) h t c ≤ ckO g h t c := fun h t c hh ht hc => by
      have := cam_mono O hh ht hc (cgt_nn (fun a b c ha hb hc => (ih.1 a b c ha hb hc).1) hh) (Int.le_refl (cgt (cit g n) h))
      exact ⟨this.1, this.2.2⟩
    refine ⟨nn, fun h t c hh ht hc => ?_⟩
    exact (cam_mono O hh ht hc (cgt_nn (fun a b c ha hb hc => (nn a b c ha hb hc).1) hh) (cgt_le ih.2 hh)).2.1
def csm (P : Int → Int → Int → Int) : Int := s5 fun h => s5 fun t => s3 fun c => P h t c
theorem cit_dec {g : Ck} (O : Okc g) {n : Nat} (hne : ¬ CE (cit g (n + 1)) (cit g n)) : csm (cit g (n + 1)) + 1 ≤ csm (cit g n) := by
  have m := (cit_ok O n).2
  have hex : ∃ h t c, hs h ∧ hs t ∧ kl c ∧ cit g (n + 1) h t c < cit g n h t c := by
    rcases Classical.em (∃ h t c, hs h ∧ hs t ∧ kl c ∧ cit g (n + 1) h t c < cit g n h t c) with q | q
    · exact q
    · exfalso
      refine hne fun h t c hh ht hc => ?_
      have := m h t c hh ht hc
      rcases Int.lt_or_le (cit g (n + 1) h t c) (cit g n h t c) with z | z
      · exact absurd ⟨h, t, c, hh, ht, hc, z⟩ q
      · omega
  obtain ⟨h, t, c, hh, ht, hc, hl⟩ := hex
  have d : ∀ h t c, hs h → hs t → kl c → 0 ≤ cit g n h t c - cit g (n + 1) h t c := fun h t c hh ht hc => by have := m h t c hh ht hc; omega
  have e1 : csm (cit g n) - csm (cit g (n + 1)) = s5 fun h => s5 fun t => s3 fun c => cit g n h t c - cit g (n + 1) h t c := by
    unfold csm
    rw [← s5_sub]
    refine s5_congr fun h _ => ?_
    rw [← s5_sub]
    refine s5_congr fun t _ => ?_
    rw [← s3_sub]
  have e2 := s5_ge1 (f := fun h => s5 fun t => s3 fun c => cit g n h t c - cit g (n + 1) h t c) (fun h hh => s5_nn fun t ht => s3_nn fun c hc => d h t c hh ht hc) hh
  have e3 := s5_ge1 (f := fun t => s3 fun c => cit g n h t c - cit g (n + 1) h t c) (fun t ht => s3_nn fun c hc => d h t c hh ht hc) ht
  have e4 : cit g n h t c - cit g (n + 1) h t c ≤ s3 fun c => cit g n h t c - cit g (n + 1) h t c := by
    have a0 := d h t 0 hh ht (by decide); have a1 := d h t 1 hh ht (by decide); have a2 := d h t 2 hh ht (by decide)
    simp only [s3]
    rcases kl3 hc with z | z | z <;> rw [z] <;> omega
  have e2' : (s5 fun t => s3 fun c => cit g n h t c - cit g (n + 1) h t c) ≤ csm (cit g n) - csm (cit g (n + 1)) := by rw [e1]; exact e2
  have e3' : (s3 fun c => cit g n h t c - cit g (n + 1) h t c) ≤ s5 fun t => s3 fun c => cit g n h t c - cit g (n + 1) h t c := e3
  omega
theorem cit_few {g : Ck} (O : Okc g) {n : Nat} (h : ∀ i, i < n → ¬ CE (cit g (i + 1)) (cit g i)) : (n : Int) + csm (cit g n) ≤ 1500 := by
  induction n with
  | zero =>
    have b : ∀ h t c, hs h → hs t → kl c → cit g 0 h t c ≤ 20 := fun h t c hh ht hc => (O.2.2.2.1 h t c hh ht hc).2
    have : csm (cit g 0) ≤ s5 fun _ => s5 fun _ => s3 fun _ => 20 := s5_le fun h hh => s5_le fun t ht => s3_le fun c hc => b h t c hh ht hc
    have e : (s5 fun _ => s5 fun _ => s3 fun _ => (20 : Int)) = 1500 := by decide
    omega
  | succ n ih =>
    have i := ih fun i hi => h i (by omega)
    have d := cit_dec O (h n (by omega))
    omega
theorem csm_nn {g : Ck} (O : Okc g) (n : Nat) : 0 ≤ csm (cit g n) := s5_nn fun h hh => s5_nn fun t ht => s3_nn fun c hc => ((cit_ok O n).1 h t c hh ht hc).1
theorem cgt_b {g : Ck} (O : Okc g) (n : Nat) {h : Int} (hh : hs h) : 0 ≤ cgt (cit g n) h ∧ cgt (cit g n) h ≤ 300 := by
  refine ⟨cgt_nn (fun a b c ha hb hc => ((cit_ok O n).1 a b c ha hb hc).1) hh, ?_⟩
  have : cgt (cit g n) h ≤ s5 fun _ => s3 fun _ => 20 := s5_le fun k hk => s3_le fun c hc => by
    have a := ((cit_ok O n).1 k h c hk hh hc).2
    have b := (O.2.2.2.1 k h c hk hh hc).2
    show cit g n k h c ≤ 20
    omega
  have e : (s5 fun _ => s3 fun _ => (20 : Int)) = 300 := by decide
  omega
/-- a house that owes nothing in a class pays nothing there -/
theorem cit_z {g : Ck} (O : Okc g) (n : Nat) {h t c : Int} (hh : hs h) (ht : hs t) (hc : kl c) (h0 : ckO g h t c = 0) : cit g n h t c = 0 := by
  have := (cit_ok O n).1 h t c hh ht hc
  omega
theorem CE.symm {P P' : Int → Int → Int → Int} (h : CE P P') : CE P' P := fun a b c ha hb hc => (h a b c ha hb hc).symm
theorem CE.trans {P P' P'' : Int → Int → Int → Int} (h : CE P P') (h2 : CE P' P'') : CE P P'' := fun a b c ha hb hc => (h a b c ha hb hc).trans (h2 a b c ha hb hc)
theorem cgt_ce {P P' : Int → Int → Int → Int} (h : CE P P') {t : Int} (ht : hs t) : cgt P t = cgt P' t := s5_congr fun k hk => s3_congr fun c hc => h k t c hk ht hc
