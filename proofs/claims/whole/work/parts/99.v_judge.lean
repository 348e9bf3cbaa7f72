/-! TOLD PARTS: when they agree -/
theorem red_dvd {X X' : Int → Int → Int} {D D' : Int} (hD : 0 < D) (hD' : 0 < D') (hR : Red X D) (h : ∀ k c, hs k → kl c → X k c * D' = X' k c * D) : D ∣ D' := by
  obtain ⟨a, rfl⟩ := Int.eq_ofNat_of_zero_le (Int.le_of_lt hD)
  obtain ⟨b, rfl⟩ := Int.eq_ofNat_of_zero_le (Int.le_of_lt hD')
  have ha : 0 < a := by omega
  have hg : 0 < Nat.gcd a b := Nat.gcd_pos_of_pos_left b ha
  have hu : a / Nat.gcd a b = 1 := by
    refine hR (a / Nat.gcd a b) ?_ (fun k c hk hc => ?_)
    · exact Int.natCast_dvd_natCast.mpr (Nat.div_dvd_of_dvd (Nat.gcd_dvd_left a b))
    · have e := h k c hk hc
      have e1 : (a : Int) = ((a / Nat.gcd a b : Nat) : Int) * ((Nat.gcd a b : Nat) : Int) := by
        rw [← Int.natCast_mul, Nat.div_mul_cancel (Nat.gcd_dvd_left a b)]
      have e2 : (b : Int) = ((b / Nat.gcd a b : Nat) : Int) * ((Nat.gcd a b : Nat) : Int) := by
        rw [← Int.natCast_mul, Nat.div_mul_cancel (Nat.gcd_dvd_right a b)]
      have e3 : X k c * ((b / Nat.gcd a b : Nat) : Int) = X' k c * ((a / Nat.gcd a b : Nat) : Int) := by
        have : (X k c * ((b / Nat.gcd a b : Nat) : Int)) * ((Nat.gcd a b : Nat) : Int) = (X' k c * ((a / Nat.gcd a b : Nat) : Int)) * ((Nat.gcd a b : Nat) : Int) := by
          rw [Int.mul_assoc, Int.mul_assoc, ← e1, ← e2]; exact e
        exact Int.eq_of_mul_eq_mul_right (by omega) this
      have hcop : Nat.Coprime (a / Nat.gcd a b) (b / Nat.gcd a b) := Nat.coprime_div_gcd_div_gcd hg
      have hd : (a / Nat.gcd a b) ∣ (X k c).natAbs * (b / Nat.gcd a b) := by
        have := congrArg Int.natAbs e3
        rw [Int.natAbs_mul, Int.natAbs_mul, Int.natAbs_natCast, Int.natAbs_natCast] at this
        rw [this]
        exact Nat.dvd_mul_left _ _
      have := Nat.Coprime.dvd_of_dvd_mul_right hcop hd
      exact Int.ofNat_dvd_left.mpr this
  have : a = Nat.gcd a b := by
    have h1 := Nat.div_mul_cancel (Nat.gcd_dvd_left a b)
    rw [hu, Nat.one_mul] at h1
    exact h1.symm
  refine Int.natCast_dvd_natCast.mpr ?_
  rw [this]
  exact Nat.gcd_dvd_right a b
def pyy (f rest w : Int) : Int := if f = 0 then w else mn2 rest w
def nx (f rest w : Int) : Int := if f = 0 then rest else rest - mn2 rest w
def okp (d B t p : Int) : Prop := if d = 0 then t = B else (10 * d) * t = p
def ag3 (f r : Int) (d t w : Int → Int) (B : Int) : Prop := okp (d 0) B (t 0) (pyy f r (w 0)) ∧ okp (d 1) B (t 1) (pyy f (nx f r (w 0)) (w 1)) ∧ okp (d 2) B (t 2) (pyy f (nx f (nx f r (w 0)) (w 1)) (w 2))
def fH (g : Ck) (T : Int → Int → Int) (B h : Int) : Int := if wth g T B h < (s3 fun c => due g h c) * B then 1 else 0
def AgH (g : Ck) (T : Int → Int → Int) (B h : Int) : Prop := ag3 (fH g T B h) (rt g T B h) (fun c => due g h c) (fun c => T h c) (fun c => (10 * due g h c) * B) B
theorem mn2_le {x y : Int} (h : x ≤ y) : mn2 x y = x := by
  unfold mn2
  split
  · rfl
  · omega
theorem mn2_ge {x y : Int} (h : y ≤ x) : mn2 x y = y := by
  unfold mn2
  split
  · omega
  · rfl
/-- one class of one house, in its turn -/
theorem ok_seg {d D q x t r w y B : Int} (hd : 0 ≤ d) (eB : B = D * q) (ht : t = x * q) (hw : w = (10 * d) * B) (hy : y = (10 * d) * x * q) (hz : d = 0 → x = D) (h : (y = w ∧ w ≤ r) ∨ (y = r ∧ r ≤ w)) : okp d B t (mn2 r w) ∧ mn2 r w = y := by
  have e : mn2 r w = y := by
    rcases h with h | h
    · rw [mn2_ge h.2, h.1]
    · rw [mn2_le h.2, h.1]
  refine ⟨?_, e⟩
  unfold okp
  split
  · next z => rw [ht, hz z, eB]
  · rw [e, hy, ht]
    exact (Int.mul_assoc (10 * d) x q).symm
theorem seg_num {e r y0 y1 y2 w0 w1 w2 : Int} (he : 0 ≤ e ∧ e ≤ 3) (s1 : y0 + y1 + y2 ≤ r) (s2 : e < 3 → y0 + y1 + y2 = r) (n0 : 0 ≤ y0 ∧ y0 ≤ w0) (n1 : 0 ≤ y1 ∧ y1 ≤ w1) (n2 : 0 ≤ y2 ∧ y2 ≤ w2) (a0 : 0 < e → y0 = w0) (a1 : 1 < e → y1 = w1) (a2 : 2 < e → y2 = w2) (b1 : e < 1 → y1 = 0) (b2 : e < 2 → y2 = 0) :
    ((y0 = w0 ∧ w0 ≤ r) ∨ (y0 = r ∧ r ≤ w0)) ∧ ((y1 = w1 ∧ w1 ≤ r - y0) ∨ (y1 = r - y0 ∧ r - y0 ≤ w1)) ∧ ((y2 = w2 ∧ w2 ≤ r - y0 - y1) ∨ (y2 = r - y0 - y1 ∧ r - y0 - y1 ≤ w2)) := by
  have c : e = 0 ∨ e = 1 ∨ e = 2 ∨ e = 3 := by omega
  rcases c with rfl | rfl | rfl | rfl
  · have := s2 (by decide); have := b1 (by decide); have := b2 (by decide)
    exact ⟨Or.inr ⟨by omega, by omega⟩, Or.inr ⟨by omega, by omega⟩, Or.inr ⟨by omega, by omega⟩⟩
  · have := s2 (by decide); have := a0 (by decide); have := b2 (by decide)
    exact ⟨Or.inl ⟨by omega, by omega⟩, Or.inr ⟨by omega, by omega⟩, Or.inr ⟨by omega, by omega⟩⟩
  · have := s2 (by decide); have := a0 (by decide); have := a1 (by decide)
    exact ⟨Or.inl ⟨by omega, by omega⟩, Or.inl ⟨by omega, by omega⟩, Or.inr ⟨by omega, by omega⟩⟩
  · have := a0 (by decide); have := a1 (by decide); have := a2 (by decide)
    exact ⟨Or.inl ⟨by omega, by omega⟩, Or.inl ⟨by omega, by omega⟩, Or.inl ⟨by omega, by omega⟩⟩
/-- THE CLEARING agrees -/
theorem clr_agrees {g : Ck} {n : Int} {X : Int → Int → Int → Int} {D : Int → Int} {W s : Int} {wv : Int → Int} (O : Okc g) (c : Clr g n X D W s wv) {T : Int → Int → Int} {B q : Int} (hq : 0 < q) (eB : B = D W * q) (hT : ∀ k c, hs k → kl c → T k c = X W k c * q) {h : Int} (hh : hs h) (hl : h < n) : AgH g T B h := by
  obtain ⟨hW, hs_, F, R, e, b, w⟩ := c
  have RW := R.2.1 W hW.1 (Int.le_refl W)
  have hD := RW.1.1.1
  obtain ⟨G, _, _, ev, L, Sg, e3, eq⟩ := RW
  have egt : gt g T h = gt g (X W) h * q := by
    rw [gt_on (X' := fun k c => X W k c * q) hT h]
    unfold gt
    rw [← s5_mul']
    refine s5_congr fun k _ => ?_
    rw [← s3_mul']
    exact s3_congr fun c _ => (Int.mul_assoc _ _ _).symm
  have ert : rt g T B h = rt g (X W) (D W) h * q := by
    unfold rt
    rw [egt, eB, Int.add_mul, Int.mul_assoc (ckA g * ckC g h) (D W) q, Int.mul_assoc (ckB g) (gt g (X W) h) q]
  have ewt : wth g T B h = wth g (X W) (D W) h * q := by
    unfold wth
    rw [egt, eB, Int.add_mul, Int.mul_assoc]
  have d0 := due_nn O hh (c := 0) (by decide)
  have d1 := due_nn O hh (c := 1) (by decide)
  have d2 := due_nn O hh (c := 2) (by decide)
  have g0 := Sg h 0 hh (by decide)
  have g1 := Sg h 1 hh (by decide)
  have g2 := Sg h 2 hh (by decide)
  have t0 := hT h 0 hh (by decide)
  have t1 := hT h 1 hh (by decide)
  have t2 := hT h 2 hh (by decide)
  have lv := L h hh
  by_cases hF : F W h = true
  · have ff : fH g T B h = 1 := by
      have nW : F W h = true ∧ 0 < W := ⟨hF, by
        rcases Int.lt_or_le 0 W with z | z
        · exact z
        · have z0 : W = 0 := by omega
          rw [z0, R.1 h hh] at hF
          exact absurd hF (by decide)⟩
      have wb := (w h hh).2 hF
      have st := (R.2.2 (wv h - 1) (by omega) (by omega)).1 h hh
      rw [show wv h - 1 + 1 = wv h by omega, wb.2.2.1, wb.2.2.2, Bool.false_or] at st
      have fr := of_decide_eq_true (Bool.and_eq_true_iff.mp st.symm).2
      have Rr := R.2.1 (wv h - 1) (by omega) (by omega)
      have sub : Sub g (F (wv h - 1)) (X W) (D W) := Sub.more (g := g) (g' := g) (fun k hk z => by
        have m := RdS.mono R hk (W - (wv h - 1)).toNat (wv h - 1) (by omega) (by omega) z
        rw [show (wv h - 1) + (((W - (wv h - 1)).toNat : Nat) : Int) = W by omega] at m
        exact m) rfl O.1.1 rfl rfl (fun k _ => Int.le_refl _) G.1
      have hle : Le (X W) (D W) (X (wv h - 1)) (D (wv h - 1)) := Rr.1.2 (X W) (D W) sub
      have hg := gt_le O hle hh
      have p2 := Rr.1.1.1
      have fW : fl g (X W) (D W) h := by
        unfold fl wth at fr ⊢
        have a2 := Int.mul_lt_mul_of_pos_right fr hD
        rw [Int.add_mul, Int.mul_assoc, Int.mul_assoc, Int.mul_comm (D (wv h - 1)) (D W)] at a2
        refine Int.lt_of_mul_lt_mul_right (a := D (wv h - 1)) ?_ (Int.le_of_lt p2)
        rw [Int.add_mul, Int.mul_assoc, Int.mul_assoc]
        omega
      unfold fH
      rw [if_pos]
      rw [ewt, eB, ← Int.mul_assoc]
      exact Int.mul_lt_mul_of_pos_right fW hq
    have sm := G.1.2.2.2 h hh hF
    have eqh := eq h hh hF
    -- what is paid of each class, ten times
    obtain ⟨y0, ey0⟩ : ∃ y, y = (10 * due g h 0) * X W h 0 * q := ⟨_, rfl⟩
    obtain ⟨y1, ey1⟩ : ∃ y, y = (10 * due g h 1) * X W h 1 * q := ⟨_, rfl⟩
    obtain ⟨y2, ey2⟩ : ∃ y, y = (10 * due g h 2) * X W h 2 * q := ⟨_, rfl⟩
    obtain ⟨w0, ew0⟩ : ∃ y, y = (10 * due g h 0) * B := ⟨_, rfl⟩
    obtain ⟨w1, ew1⟩ : ∃ y, y = (10 * due g h 1) * B := ⟨_, rfl⟩
    obtain ⟨w2, ew2⟩ : ∃ y, y = (10 * due g h 2) * B := ⟨_, rfl⟩
    obtain ⟨r, er⟩ : ∃ y, y = rt g T B h := ⟨_, rfl⟩
    have esum : y0 + y1 + y2 = (10 * yt g (X W) h) * q := by
      rw [ey0, ey1, ey2, ← Int.add_mul, ← Int.add_mul]
      congr 1
      show _ = 10 * (s3 fun c => due g h c * X W h c)
      simp only [s3, Int.mul_assoc]
      omega
    have s1 : y0 + y1 + y2 ≤ r := by rw [esum, er, ert]; exact Int.mul_le_mul_of_nonneg_right sm (by omega)
    have s2 : ev h < 3 → y0 + y1 + y2 = r := fun z => by rw [esum, er, ert, eqh z]
    have nn : ∀ (d x : Int), 0 ≤ d → 0 ≤ x → x ≤ D W → 0 ≤ (10 * d) * x * q ∧ (10 * d) * x * q ≤ (10 * d) * B := fun d x hd hx hx2 => by
      refine ⟨Int.mul_nonneg (Int.mul_nonneg (by omega) hx) (by omega), ?_⟩
      rw [eB, Int.mul_assoc]
      exact Int.mul_le_mul_of_nonneg_left (Int.mul_le_mul_of_nonneg_right hx2 (by omega)) (by omega)
    have n0 := nn (due g h 0) (X W h 0) d0 g0.2.2.2.1 g0.2.2.2.2
    have n1 := nn (due g h 1) (X W h 1) d1 g1.2.2.2.1 g1.2.2.2.2
    have n2 := nn (due g h 2) (X W h 2) d2 g2.2.2.2.1 g2.2.2.2.2
    rw [← ey0, ← ew0] at n0
    rw [← ey1, ← ew1] at n1
    rw [← ey2, ← ew2] at n2
    have full : ∀ (d x y w : Int), y = (10 * d) * x * q → w = (10 * d) * B → x = D W → y = w := fun d x y w hy hw hx => by rw [hy, hw, hx, eB, Int.mul_assoc]
    have none_ : ∀ (d x y : Int), y = (10 * d) * x * q → x = 0 → y = 0 := fun d x y hy hx => by rw [hy, hx, Int.mul_zero, Int.zero_mul]
    have z0 : ∀ (d y w : Int), w = (10 * d) * B → 0 ≤ y ∧ y ≤ w → d = 0 → y = 0 := fun d y w hw hy hd => by
      have : w = 0 := by rw [hw, hd]; omega
      omega
    have b1 : ev h < 1 → y1 = 0 := fun z => by
      by_cases k : due g h 1 = 0
      · exact z0 _ _ _ ew1 n1 k
      · exact none_ _ _ _ ey1 (g1.2.2.1 z k)
    have b2 : ev h < 2 → y2 = 0 := fun z => by
      by_cases k : due g h 2 = 0
      · exact z0 _ _ _ ew2 n2 k
      · exact none_ _ _ _ ey2 (g2.2.2.1 z k)
    have num := seg_num lv s1 s2 n0 n1 n2 (fun z => full _ _ _ _ ey0 ew0 (g0.1 z)) (fun z => full _ _ _ _ ey1 ew1 (g1.1 z)) (fun z => full _ _ _ _ ey2 ew2 (g2.1 z)) b1 b2
    have a0 := ok_seg (r := r) d0 eB t0 ew0 ey0 g0.2.1 num.1
    have a1 := ok_seg (r := r - y0) d1 eB t1 ew1 ey1 g1.2.1 num.2.1
    have a2 := ok_seg (r := r - y0 - y1) d2 eB t2 ew2 ey2 g2.2.1 num.2.2
    unfold AgH ag3
    rw [ff, ← er]
    show okp (due g h 0) B (T h 0) (pyy 1 r ((10 * due g h 0) * B)) ∧ okp (due g h 1) B (T h 1) (pyy 1 (nx 1 r ((10 * due g h 0) * B)) ((10 * due g h 1) * B)) ∧ okp (due g h 2) B (T h 2) (pyy 1 (nx 1 (nx 1 r ((10 * due g h 0) * B)) ((10 * due g h 1) * B)) ((10 * due g h 2) * B))
    rw [← ew0, ← ew1, ← ew2]
    have py : ∀ a b, pyy 1 a b = mn2 a b := fun a b => if_neg (by decide)
    have pn : ∀ a b, nx 1 a b = a - mn2 a b := fun a b => if_neg (by decide)
    rw [py, py, py, pn, pn, a0.2, a1.2]
    have o0 := a0.1
    have o1 := a1.1
    rw [a0.2] at o0
    rw [a1.2] at o1
    exact ⟨o0, o1, a2.1⟩
  · have hF' : F W h = false := by cases z : F W h with
      | false => rfl
      | true => exact absurd z hF
    have ff : fH g T B h = 0 := by
      have nf := e h hh hl hF'
      unfold fH
      rw [if_neg]
      rw [ewt, eB, ← Int.mul_assoc]
      exact fun z => nf (Int.lt_of_mul_lt_mul_right z (Int.le_of_lt hq))
    have ev3 := e3 h hh hF'
    have x0 := g0.1 (by omega)
    have x1 := g1.1 (by omega)
    have x2 := g2.1 (by omega)
    unfold AgH ag3
    rw [ff]
    have py : ∀ a b, pyy 0 a b = b := fun a b => if_pos rfl
    show okp (due g h 0) B (T h 0) (pyy 0 _ ((10 * due g h 0) * B)) ∧ okp (due g h 1) B (T h 1) (pyy 0 _ ((10 * due g h 1) * B)) ∧ okp (due g h 2) B (T h 2) (pyy 0 _ ((10 * due g h 2) * B))
    rw [py, py, py, t0, t1, t2, x0, x1, x2, ← eB]
    unfold okp
    refine ⟨?_, ?_, ?_⟩ <;> (split <;> rfl)
/-- they are those of the clearing: both ways to say it -/
def THO (n B D : Int) (T X : Int → Int → Int) : Prop := Int.tmod B D = 0 ∧ ∀ h c, hs h → h < n → kl c → T h c = X h c * Int.tdiv B D
def OFC (n B D : Int) (T X : Int → Int → Int) : Prop := ∀ h c, hs h → h < n → kl c → T h c * D = X h c * B
theorem tho_ofc {n B D : Int} {T X : Int → Int → Int} (hB : 0 < B) (hD : 0 < D) (hR : Red X D) (hz : ∀ h c, hs h → n ≤ h → kl c → X h c = D) : THO n B D T X ↔ OFC n B D T X := by
  constructor
  · intro t h c hh hl hc
    have e := Int.mul_tdiv_add_tmod B D
    rw [t.1, Int.add_zero] at e
    rw [t.2 h c hh hl hc, Int.mul_assoc, Int.mul_comm (Int.tdiv B D), e]
  · intro t
    have dv : D ∣ B := red_dvd hD hB hR (X' := fun h c => if h < n then T h c else B) (fun h c hh hc => by
      show X h c * B = (if h < n then T h c else B) * D
      split
      · next z => exact (t h c hh z hc).symm
      · next z => rw [hz h c hh (by omega) hc, Int.mul_comm])
    obtain ⟨k, hk⟩ := dv
    have em : Int.tmod B D = 0 := by rw [hk]; exact Int.mul_tmod_right D k
    have ed : Int.tdiv B D = k := by rw [hk]; exact Int.mul_tdiv_cancel_left k (by omega)
    refine ⟨em, fun h c hh hl hc => ?_⟩
    have e := t h c hh hl hc
    rw [hk, ← Int.mul_assoc, Int.mul_right_comm] at e
    rw [ed]
    exact Int.eq_of_mul_eq_mul_right (by omega) e
theorem tho_agrees {g : Ck} {n : Int} {X : Int → Int → Int → Int} {D : Int → Int} {W s : Int} {wv : Int → Int} (O : Okc g) (c : Clr g n X D W s wv) {T : Int → Int → Int} {B : Int} (hB : 0 < B) (hD : 0 < D W) (hT : ∀ h c, hs h → n ≤ h → kl c → T h c = B) (hz : ∀ h c, hs h → n ≤ h → kl c → X W h c = D W) (t : THO n B (D W) T (X W)) {h : Int} (hh : hs h) (hl : h < n) : AgH g T B h := by
  have e := Int.mul_tdiv_add_tmod B (D W)
  rw [t.1, Int.add_zero] at e
  have hq : 0 < Int.tdiv B (D W) := by
    rcases Int.lt_or_le 0 (Int.tdiv B (D W)) with z | z
    · exact z
    · have := Int.mul_le_mul_of_nonneg_left z (show 0 ≤ D W by omega)
      rw [Int.mul_zero] at this
      omega
  refine clr_agrees O c hq e.symm (fun k c hk hc => ?_) hh hl
  by_cases z : k < n
  · exact t.2 k c hk z hc
  · rw [hT k c hk (by omega) hc, hz k c hk (by omega) hc]
    exact e.symm
