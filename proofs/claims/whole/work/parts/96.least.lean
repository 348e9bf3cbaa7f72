/-! THE LEAST that saves: needs, calms; and danger -/
/-- so many coins for the house h leave what P asks -/
def okv (M : PM) (P : Int → Prop) (h v : Int) : Prop := ∃ s, FS (xE M h v) (M 1 0) s ∧ P s
def Lsv (M : PM) (P : Int → Prop) (h r : Int) : Prop := (r = -5 ∧ ∀ v, 0 ≤ v → v ≤ 200 → ¬ okv M P h v) ∨ ((0 ≤ r ∧ r ≤ 200) ∧ okv M P h r ∧ ∀ v, 0 ≤ v → v < r → ¬ okv M P h v)
theorem Lsv.uniq {M : PM} {P : Int → Prop} {h r r' : Int} (a : Lsv M P h r) (b : Lsv M P h r') : r = r' := by
  rcases a with a | a <;> rcases b with b | b
  · omega
  · exact absurd b.2.1 (a.2 r' b.1.1 b.1.2)
  · exact absurd a.2.1 (b.2 r a.1.1 a.1.2)
  · rcases Int.lt_trichotomy r r' with z | z | z
    · exact absurd a.2.1 (b.2.2 r a.1.1 z)
    · exact z
    · exact absurd b.2.1 (a.2.2 r' b.1.1 z)
theorem okv_of {M M' : PM} {P : Int → Prop} (e : ∀ h x, xE M' h x = xE M h x) (n : M' 1 0 = M 1 0) (h v : Int) : okv M' P h v ↔ okv M P h v := by
  unfold okv
  rw [e, n]
theorem okv_iff {M : PM} {P : Int → Prop} {h v s : Int} (B : XB M) (hv : v ≤ 200) (f : FS (xE M h v) (M 1 0) s) : okv M P h v ↔ P s :=
  ⟨fun ⟨s', f', p⟩ => by rw [FS.uniq (xE_ok B hv) f f']; exact p, fun p => ⟨s, f, p⟩⟩
/-- what a smaller set asks no more -/
abbrev Anti (P : Int → Prop) : Prop := ∀ s s', (0 ≤ s ∧ s < 32) → (0 ≤ s' ∧ s' < 32) → (∀ h, hs h → tb s' h = true → tb s h = true) → P s → P s'
theorem okv_mono {M : PM} {P : Int → Prop} {h v w s : Int} (B : XB M) (A : Anti P) (hvw : v ≤ w) (hw : w ≤ 200) (f : FS (xE M h w) (M 1 0) s) (hP : ¬ P s) : ¬ okv M P h v := fun ⟨s', f', p⟩ => by
  refine hP (A s' s f'.b.1 f.b.1 (FS.mono (xE_ok (h := h) (x := v) B (by omega)) (xE_ok (h := h) (x := w) B hw) rfl rfl rfl (fun k hk => ?_) f' f) p)
  show (if k = h then mx2 0 (M 2 k + v) else M 2 k) ≤ (if k = h then mx2 0 (M 2 k + w) else M 2 k)
  unfold mx2
  split
  · split <;> split <;> omega
  · omega
theorem x_least {K : Nat} {h mask : Int} {M : PM} {P : Int → Prop} {Q : Option PV → PM → Prop} (I : Iv M) (hh : hs h) (A : Anti P) (hm : ∀ s, (0 ≤ s ∧ s < 32) → (∀ k, hs k → tb s k = true → k < M 1 0) → R32 (bAnd s mask) ∧ (bAnd s mask = 0 ↔ P s)) (hq : ∀ M' r, Ag trx M M' → Iv M' → Lsv M P h r → Q (some (.inl r)) M') : Call (K + 7) jClearingWaves_leastThatSaves [.inr (.inr 0), .inl mask, .inl h] P0 P0 M Q := by
  have B := I.1.xb
  have loop : ∀ (n : Nat) (lo hi i : Int) (M1 : PM), hi - lo ≤ (n : Int) → 0 ≤ i → i + (hi - lo) ≤ 200 → (0 ≤ lo ∧ lo ≤ hi ∧ hi ≤ 200) → Ag trx M M1 → Iv M1 → okv M P h hi → (∀ v, 0 ≤ v → v < lo → ¬ okv M P h v) → G none (K + 6 + 1) jClearingWaves_leastThatSaves 26 [(0, .inr (.inr 0)), (1, .inl mask), (2, .inl h), (3, .inl lo), (4, .inl hi), (5, .inl i)] [] P0 P0 M1 Q := by
    intro n
    induction n with
    | zero =>
      intro lo hi i M1 hd i0 il hb hA I1 ok no
      have e : lo = hi := by omega
      have fin : Q (some (.inl hi)) M1 := hq M1 hi hA I1 (Or.inr ⟨⟨by omega, by omega⟩, ok, by rw [← e]; exact no⟩)
      exact g_x_leastThatSaves_26 _ _ _ _ _ _ _ _ ⟨⟨by omega, by omega⟩, fun _ => fin, fun _ => ⟨⟨by omega, by omega⟩, ⟨by omega, by omega⟩, fun _ => fin, fun z => absurd (by omega) z⟩⟩
    | succ n ih =>
      intro lo hi i M1 hd i0 il hb hA I1 ok no
      by_cases e : lo = hi
      · have fin : Q (some (.inl hi)) M1 := hq M1 hi hA I1 (Or.inr ⟨⟨by omega, by omega⟩, ok, by rw [← e]; exact no⟩)
        exact g_x_leastThatSaves_26 _ _ _ _ _ _ _ _ ⟨⟨by omega, by omega⟩, fun _ => fin, fun _ => ⟨⟨by omega, by omega⟩, ⟨by omega, by omega⟩, fun _ => fin, fun z => absurd (by omega) z⟩⟩
      · have em : Int.tdiv (lo + hi) 2 = (lo + hi) / 2 := td_ed (by omega)
        have ex := ag_xE hA (by decide) (by decide) (by decide)
        refine g_x_leastThatSaves_26 _ _ _ _ _ _ _ _ ⟨⟨by omega, by omega⟩, fun z => absurd z (by omega), fun _ => ⟨⟨by omega, by omega⟩, ⟨by omega, by omega⟩, fun z => absurd z (by omega), fun _ => ⟨⟨by omega, by omega⟩, ?_⟩⟩⟩
        rw [em]
        refine x_failsWith I1 hh (by omega) (fun M2 s hA2 I2 f => ?_)
        rw [ex.1, ex.2] at f
        have m := hm s f.b.1 f.b.2
        have iff := okv_iff (P := P) B (by omega) f
        refine ⟨m.1, fun z => ?_, fun z => ?_⟩
        · refine ih _ hi (i + 1) M2 (by omega) (by omega) (by omega) (by omega) (hA.tr hA2) I2 ok (fun v v0 v1 => ?_)
          exact okv_mono B A (w := (lo + hi) / 2) (by omega) (by omega) f (fun p => z (m.2.mpr p))
        · exact ih lo _ (i + 1) M2 (by omega) (by omega) (by omega) (by omega) (hA.tr hA2) I2 (iff.mpr (m.2.mp z)) no
  refine c_x_leastThatSaves (K + 6) mask h M Q (x_failsWith I hh (by decide) (fun M1 s hA I1 f => ?_))
  have m := hm s f.b.1 f.b.2
  refine ⟨m.1, fun z => ?_, fun z => ?_⟩
  · exact loop 200 0 200 0 M1 (by omega) (by decide) (by decide) (by decide) hA I1 ((okv_iff (P := P) B (by decide) f).mpr (m.2.mp z)) (fun v v0 v1 => by omega)
  · exact hq M1 (-5) hA I1 (Or.inl ⟨rfl, fun v v0 v1 => okv_mono B A v1 (by decide) f (fun p => z (m.2.mpr p))⟩)
theorem bit_and2 {s m : Int} : (0 ≤ s ∧ s < 32) → (0 ≤ m ∧ m < 32) → R32 (bAnd s m) ∧ (bAnd s m = 0 ↔ ∀ k, hs k → tb s k = true → tb m k = true → False) := by
  intro h1 h2
  have key : ∀ i j : Fin 32, (0 ≤ bAnd ((i.val : Nat) : Int) ((j.val : Nat) : Int) ∧ bAnd ((i.val : Nat) : Int) ((j.val : Nat) : Int) < 32) ∧ (bAnd ((i.val : Nat) : Int) ((j.val : Nat) : Int) = 0 ↔ (tb ((i.val : Nat) : Int) 0 && tb ((j.val : Nat) : Int) 0 || tb ((i.val : Nat) : Int) 1 && tb ((j.val : Nat) : Int) 1 || tb ((i.val : Nat) : Int) 2 && tb ((j.val : Nat) : Int) 2 || tb ((i.val : Nat) : Int) 3 && tb ((j.val : Nat) : Int) 3 || tb ((i.val : Nat) : Int) 4 && tb ((j.val : Nat) : Int) 4) = false) := by decide +kernel
  have a := fin_all (n := 32) (P := fun s => ∀ j : Fin 32, (0 ≤ bAnd s ((j.val : Nat) : Int) ∧ bAnd s ((j.val : Nat) : Int) < 32) ∧ (bAnd s ((j.val : Nat) : Int) = 0 ↔ (tb s 0 && tb ((j.val : Nat) : Int) 0 || tb s 1 && tb ((j.val : Nat) : Int) 1 || tb s 2 && tb ((j.val : Nat) : Int) 2 || tb s 3 && tb ((j.val : Nat) : Int) 3 || tb s 4 && tb ((j.val : Nat) : Int) 4) = false)) key h1.1 h1.2
  have b := fin_all (n := 32) (P := fun m => (0 ≤ bAnd s m ∧ bAnd s m < 32) ∧ (bAnd s m = 0 ↔ (tb s 0 && tb m 0 || tb s 1 && tb m 1 || tb s 2 && tb m 2 || tb s 3 && tb m 3 || tb s 4 && tb m 4) = false)) a h2.1 h2.2
  refine ⟨⟨by omega, by omega⟩, ?_⟩
  rw [b.2]
  simp only [Bool.or_eq_false_iff, Bool.and_eq_false_iff]
  constructor
  · rintro ⟨⟨⟨⟨z0, z1⟩, z2⟩, z3⟩, z4⟩ k hk p q
    rcases hs5 hk with e | e | e | e | e <;> (rw [e] at p q; simp_all)
  · intro z
    have w : ∀ k, hs k → tb s k = false ∨ tb m k = false := fun k hk => by
      cases p : tb s k
      · exact Or.inl rfl
      · cases q : tb m k
        · exact Or.inr rfl
        · exact absurd (z k hk p q) id
    exact ⟨⟨⟨⟨w 0 (by decide), w 1 (by decide)⟩, w 2 (by decide)⟩, w 3 (by decide)⟩, w 4 (by decide)⟩
theorem m_isIn_ {K : Nat} {s k : Int} {M : PM} {Q : Option PV → PM → Prop} (h : ms s) (hk : mk6 k) (hq : Q (some (.inl (b2i (tb s k)))) M) : Call (K + 1) jModel_isIn [.inl s, .inl k] P0 P0 M Q := by
  refine c_model_isIn K s k M Q ?_
  rw [bit_get h hk]
  cases q : tb s k
  · rw [q] at hq; exact ⟨by decide, fun _ => hq, fun z => absurd z (by decide)⟩
  · rw [q] at hq; exact ⟨by decide, fun z => absurd rfl z, fun _ => hq⟩
theorem anti_bit (k : Int) (hk : hs k) : Anti fun s => tb s k = false := fun s s' _ _ h p => by
  have p' : tb s k = false := p
  show tb s' k = false
  cases q : tb s' k
  · rfl
  · have := h k hk q; rw [p'] at this; exact absurd this (by decide)
theorem anti_0 : Anti fun s => s = 0 := fun s s' _ h' h p => by
  refine bit_ext ⟨h'.1, by omega⟩ ⟨by decide, by decide⟩ fun j hj => ?_
  rw [tb_0]
  by_cases q : j < 5
  · cases z : tb s' j
    · rfl
    · have := h j ⟨hj.1, q⟩ z; rw [p, tb_0] at this; exact absurd this (by decide)
  · rw [show j = 5 by have := hj.2; omega]; exact tb_5 h'
theorem b_needs {K : Nat} {a h : Int} {M : PM} {C : Int → Int → PM → Prop} (I : Iv M) (h1 : R32 a) (h2 : R32 h) (hq : Ok32 C) : Bi (K + 22) jClearingWaves_needs [.inr (.inr 0), .inl a, .inl h] jModel_needs [.inr (.inr 52), .inl a, .inl h] M C := by
  have B := I.1.xb
  have B1 := B.1
  have hn := I.1.n
  unfold Bi
  by_cases pa : 0 ≤ a ∧ a < M 1 0
  · have ha : hs a := ⟨pa.1, by omega⟩
    by_cases p : 0 ≤ h ∧ h < M 1 0
    · have hh : hs h := ⟨p.1, by omega⟩
      refine c_x_needs (K + 21) a h M _ (x_hasHouse_y B h1 pa ⟨by decide, fun q => absurd q (by decide), fun _ => x_hasHouse_y B h2 p ⟨by decide, fun _ => x_least (P := fun s => tb s a = false) I hh (anti_bit a ha) (fun s sb _ => bit_and ⟨sb.1, by omega⟩ ⟨ha.1, by omega⟩) (fun M1 r hA I1 ls => ?_), fun q => absurd q (by decide)⟩⟩)
      have e1 := ag_xE hA (by decide) (by decide) (by decide)
      have fin : ∀ M2 r', Iv M2 → Lsv M (fun s => tb s a = false) h r' → C r r' M2 := fun M2 r' I2 ls' => by
        rw [← ls.uniq ls']
        refine hq _ _ ?_ I2
        rcases ls with z | z
        · rw [z.1]; decide
        · exact ⟨by omega, by omega⟩
      have loop : ∀ (n : Nat) (v : Int) (M2 : PM), 201 - v = (n : Int) → 0 ≤ v → Ag trm M1 M2 → Iv M2 → (∀ w, 0 ≤ w → w < v → ¬ okv M (fun s => tb s a = false) h w) → G none (K + 21 + 1) jModel_needs 20 [(0, .inr (.inr 52)), (1, .inl a), (2, .inl h), (3, .inl v)] [] P0 P0 M2 (retI fun r2 M' => C r r2 M') := by
        intro n
        induction n with
        | zero =>
          intro v M2 hv v0 hA2 I2 no
          exact g_m_needs_20 _ _ _ _ _ _ ⟨⟨by omega, by omega⟩, fun _ => fin M2 (-5) I2 (Or.inl ⟨rfl, fun w w0 w1 => no w w0 (by omega)⟩), fun z => absurd (by omega) z⟩
        | succ n ih =>
          intro v M2 hv v0 hA2 I2 no
          refine g_m_needs_20 _ _ _ _ _ _ ⟨⟨by omega, by omega⟩, fun z => absurd z (by omega), fun _ => m_failsIf2 I2 hh (by omega) (fun M3 s hA3 I3 f => m_isIn_ ⟨f.b.1.1, by have := f.b.1.2; omega⟩ ⟨ha.1, by omega⟩ ?_)⟩
          have e2 := ag_xE hA2 (by decide) (by decide) (by decide)
          rw [e2.1, e1.1, e2.2, e1.2] at f
          have iff := okv_iff (P := fun s => tb s a = false) B (by omega) f
          refine ⟨b2i_R _, fun z => ?_, fun z => ?_⟩
          · refine ih (v + 1) M3 (by omega) (by omega) (hA2.tr hA3) I3 (fun w w0 w1 => ?_)
            by_cases q : w = v
            · rw [q, iff, b2i_n0 z]; decide
            · exact no w w0 (by omega)
          · exact fin M3 v I3 (Or.inr ⟨⟨by omega, by omega⟩, iff.mpr (b2i_0.mp z), no⟩)
      refine c_m_needs (K + 21) a h M1 _ (m_isHouse_y I1.1.mb h1 (by rw [I1.1.n, e1.2]; exact pa) ⟨by decide, fun q => absurd q (by decide), fun _ => m_isHouse_y I1.1.mb h2 (by rw [I1.1.n, e1.2]; exact p) ⟨by decide, fun _ => loop 201 0 M1 (by decide) (by decide) (Ag.rf _ _) I1 (fun w w0 w1 => by omega), fun q => absurd q (by decide)⟩⟩)
    · refine c_x_needs (K + 21) a h M _ (x_hasHouse_y B h1 pa ⟨by decide, fun q => absurd q (by decide), fun _ => x_hasHouse_n B h2 p ⟨by decide, fun q => absurd rfl q, fun _ => ?_⟩⟩)
      exact c_m_needs (K + 21) a h M _ (m_isHouse_y I.1.mb h1 (by rw [hn]; exact pa) ⟨by decide, fun q => absurd q (by decide), fun _ => m_isHouse_n I.1.mb h2 (by rw [hn]; exact p) ⟨by decide, fun q => absurd rfl q, fun _ => hq _ _ (by decide) I⟩⟩)
  · refine c_x_needs (K + 21) a h M _ (x_hasHouse_n B h1 pa ⟨by decide, fun _ => ?_, fun q => absurd rfl q⟩)
    exact c_m_needs (K + 21) a h M _ (m_isHouse_n I.1.mb h1 (by rw [hn]; exact pa) ⟨by decide, fun _ => hq _ _ (by decide) I, fun q => absurd rfl q⟩)
theorem mask_n {n : Int} (hn : 2 ≤ n ∧ n ≤ 5) : (0 ≤ bShl 1 n - 1 ∧ bShl 1 n - 1 < 32) ∧ ∀ k, hs k → k < n → tb (bShl 1 n - 1) k = true := by
  have e : n = 2 ∨ n = 3 ∨ n = 4 ∨ n = 5 := by omega
  rcases e with e | e | e | e <;> rw [e] <;> refine ⟨by decide, fun k hk hl => ?_⟩ <;> rcases hs5 hk with z | z | z | z | z <;> rw [z] at hl ⊢ <;> first | decide | exact absurd hl (by decide)
theorem b_calms {K : Nat} {h : Int} {M : PM} {C : Int → Int → PM → Prop} (I : Iv M) (h2 : R32 h) (hq : Ok32 C) : Bi (K + 22) jClearingWaves_calms [.inr (.inr 0), .inl h] jModel_calms [.inr (.inr 52), .inl h] M C := by
  have B := I.1.xb
  have B1 := B.1
  have hn := I.1.n
  unfold Bi
  by_cases p : 0 ≤ h ∧ h < M 1 0
  · have hh : hs h := ⟨p.1, by omega⟩
    have mk := mask_n B1
    refine c_x_calms (K + 21) h M _ (x_hasHouse_y B h2 p ⟨by decide, fun q => absurd q (by decide), fun _ => x_least (P := fun s => s = 0) I hh anti_0 (fun s sb sn => ?_) (fun M1 r hA I1 ls => ?_)⟩)
    · have b := bit_and2 sb mk.1
      refine ⟨b.1, b.2.trans ⟨fun z => ?_, fun z k hk p _ => by rw [z, tb_0] at p; exact absurd p (by decide)⟩⟩
      refine bit_ext ⟨sb.1, by omega⟩ ⟨by decide, by decide⟩ fun j hj => ?_
      rw [tb_0]
      by_cases q : j < 5
      · cases w : tb s j
        · rfl
        · exact absurd (z j ⟨hj.1, q⟩ w (mk.2 j ⟨hj.1, q⟩ (sn j ⟨hj.1, q⟩ w))) id
      · rw [show j = 5 by have := hj.2; omega]; exact tb_5 sb
    · have e1 := ag_xE hA (by decide) (by decide) (by decide)
      have fin : ∀ M2 r', Iv M2 → Lsv M (fun s => s = 0) h r' → C r r' M2 := fun M2 r' I2 ls' => by
        rw [← ls.uniq ls']
        refine hq _ _ ?_ I2
        rcases ls with z | z
        · rw [z.1]; decide
        · exact ⟨by omega, by omega⟩
      have loop : ∀ (n : Nat) (v : Int) (M2 : PM), 201 - v = (n : Int) → 0 ≤ v → Ag trm M1 M2 → Iv M2 → (∀ w, 0 ≤ w → w < v → ¬ okv M (fun s => s = 0) h w) → G none (K + 21 + 1) jModel_calms 12 [(0, .inr (.inr 52)), (1, .inl h), (2, .inl v)] [] P0 P0 M2 (retI fun r2 M' => C r r2 M') := by
        intro n
        induction n with
        | zero =>
          intro v M2 hv v0 hA2 I2 no
          exact g_m_calms_12 _ _ _ _ _ ⟨⟨by omega, by omega⟩, fun _ => fin M2 (-5) I2 (Or.inl ⟨rfl, fun w w0 w1 => no w w0 (by omega)⟩), fun z => absurd (by omega) z⟩
        | succ n ih =>
          intro v M2 hv v0 hA2 I2 no
          refine g_m_calms_12 _ _ _ _ _ ⟨⟨by omega, by omega⟩, fun z => absurd z (by omega), fun _ => m_failsIf2 I2 hh (by omega) (fun M3 s hA3 I3 f => ?_)⟩
          have e2 := ag_xE hA2 (by decide) (by decide) (by decide)
          rw [e2.1, e1.1, e2.2, e1.2] at f
          have iff := okv_iff (P := fun s => s = 0) B (by omega) f
          have fb := f.b.1
          refine ⟨⟨by omega, by omega⟩, fun z => ?_, fun z => ?_⟩
          · refine ih (v + 1) M3 (by omega) (by omega) (hA2.tr hA3) I3 (fun w w0 w1 => ?_)
            by_cases q : w = v
            · rw [q, iff]; exact z
            · exact no w w0 (by omega)
          · exact fin M3 v I3 (Or.inr ⟨⟨by omega, by omega⟩, iff.mpr z, no⟩)
      refine c_m_calms (K + 21) h M1 _ (m_isHouse_y I1.1.mb h2 (by rw [I1.1.n, e1.2]; exact p) ⟨by decide, fun _ => loop 201 0 M1 (by decide) (by decide) (Ag.rf _ _) I1 (fun w w0 w1 => by omega), fun q => absurd q (by decide)⟩)
  · refine c_x_calms (K + 21) h M _ (x_hasHouse_n B h2 p ⟨by decide, fun _ => ?_, fun q => absurd rfl q⟩)
    exact c_m_calms (K + 21) h M _ (m_isHouse_n I.1.mb h2 (by rw [hn]; exact p) ⟨by decide, fun q => absurd rfl q, fun _ => hq _ _ (by decide) I⟩)
