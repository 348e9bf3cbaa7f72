/-! WHAT HOLDS between two calls: class and model are in one state -/
abbrev d3 (f k e : Int) : Int := (((f * 5) + k) * 3) + e
def BV (b c d u t : Int → Int) : Prop :=
  ((2 ≤ b 0 ∧ b 0 ≤ 5) ∧ (0 ≤ b 1 ∧ b 1 ≤ 10) ∧ (0 ≤ b 2 ∧ b 2 ≤ 10) ∧ (∀ h, hs h → 0 ≤ c h ∧ c h ≤ 200) ∧ (∀ f k e, hs f → hs k → kl e → 0 ≤ d (d3 f k e) ∧ d (d3 f k e) ≤ 20) ∧ (∀ f e, hs f → kl e → d (d3 f f e) = 0) ∧ (∀ h, hs h → b 0 ≤ h → c h = 0) ∧ ∀ f k e, hs f → hs k → kl e → (b 0 ≤ f ∨ b 0 ≤ k) → d (d3 f k e) = 0) ∧
  ((∀ j, 0 ≤ j → j < 45 → 0 ≤ u j ∧ u j ≤ 1000000000000) ∧ ∀ f h e, 0 ≤ f → f < 3 → hs h → kl e → b 0 ≤ h → u (d3 f h e) = 0) ∧
  (b 0 = t 0 ∧ b 1 = t 1 ∧ b 2 = t 2 ∧ (∀ h, hs h → c h = t (3 + h)) ∧ (∀ j, 0 ≤ j → j < 75 → d j = t (8 + j)) ∧ ∀ j, 0 ≤ j → j < 45 → u j = t (83 + j))
def IvB (M : PM) : Prop := BV (M 1) (M 2) (M 3) (M 4) (M 53) ∧ ∀ i, 0 ≤ i → i < 83 → M 55 i = M 53 i
theorem IvB.xb {M : PM} (I : IvB M) : XB M := I.1.1
theorem IvB.n {M : PM} (I : IvB M) : M 55 0 = M 1 0 := by rw [I.2 0 (by decide) (by decide), I.1.2.2.1]
theorem IvB.a {M : PM} (I : IvB M) : M 55 1 = M 1 1 := by rw [I.2 1 (by decide) (by decide), I.1.2.2.2.1]
theorem IvB.b {M : PM} (I : IvB M) : M 55 2 = M 1 2 := by rw [I.2 2 (by decide) (by decide), I.1.2.2.2.2.1]
theorem IvB.c {M : PM} (I : IvB M) {h : Int} (hh : hs h) : M 55 (3 + h) = M 2 h := by rw [I.2 (3 + h) (by omega) (by omega), I.1.2.2.2.2.2.1 h hh]
theorem IvB.o {M : PM} (I : IvB M) {f t c : Int} (hf : hs f) (ht : hs t) (hc : kl c) : mo M f t c = xo M f t c := by
  unfold mo xo
  rw [I.2 _ (by omega) (by omega), I.1.2.2.2.2.2.2.1 ((((f * 5) + t) * 3) + c) (by omega) (by omega)]
  congr 1
  omega
theorem IvB.mb {M : PM} (I : IvB M) : MB M := by
  have B := I.xb
  refine ⟨by rw [I.n]; exact B.1, by rw [I.a]; exact B.2.1, by rw [I.b]; exact B.2.2.1, fun h hh => by rw [I.c hh]; exact B.2.2.2.1 h hh, fun f t c hf ht hc => by rw [I.o hf ht hc]; exact B.2.2.2.2.1 f t c hf ht hc, fun f c hf hc => by rw [I.o hf hf hc]; exact B.2.2.2.2.2.1 f c hf hc, fun h hh hl => by rw [I.c hh]; rw [I.n] at hl; exact B.2.2.2.2.2.2.1 h hh hl, fun f t c hf ht hc hl => by rw [I.o hf ht hc]; rw [I.n] at hl; exact B.2.2.2.2.2.2.2 f t c hf ht hc hl⟩
theorem IvB.eq {M : PM} (I : IvB M) : Eqr (cp_g M) (gK M) := ⟨I.a, I.b, fun k h c hk hh hc => I.o hk hh hc, fun h hh => I.c hh⟩
theorem IvB.d {M : PM} (I : IvB M) {h c : Int} (hh : hs h) (hc : kl c) : md M h c = xd M h c := s5_congr fun k hk => I.o hh hk hc
theorem IvB.of {M M' : PM} (h1 : M' 1 = M 1) (h2 : M' 2 = M 2) (h3 : M' 3 = M 3) (h4 : M' 4 = M 4) (h53 : M' 53 = M 53) (h55 : M' 55 = M 55) (I : IvB M) : IvB M' := by
  unfold IvB at I ⊢
  rw [h1, h2, h3, h4, h53, h55]
  exact I
def IvI (M : PM) : Prop := (M 0 2 = 0 ∧ M 52 2 = 0) ∨ (M 0 2 = 1 ∧ M 52 2 = 1 ∧ BV (M 5) (M 6) (M 7) (M 8) (M 54))
theorem IvI.of {M M' : PM} (h0 : M' 0 2 = M 0 2) (h52 : M' 52 2 = M 52 2) (h5 : M' 5 = M 5) (h6 : M' 6 = M 6) (h7 : M' 7 = M 7) (h8 : M' 8 = M 8) (h54 : M' 54 = M 54) (I : IvI M) : IvI M' := by
  unfold IvI at I ⊢
  rw [h0, h52, h5, h6, h7, h8, h54]
  exact I
def IvT (M : PM) : Prop := M 45 0 = M 52 6 ∧ (0 ≤ M 45 0 ∧ M 45 0 ≤ 120) ∧ ∀ i, 0 ≤ i → i < M 45 0 → M 46 i = M 56 i ∧ 1 ≤ M 46 i ∧ M 46 i ≤ 127
theorem IvT.of {M M' : PM} (h45 : M' 45 0 = M 45 0) (h46 : M' 46 = M 46) (h52 : M' 52 6 = M 52 6) (h56 : M' 56 = M 56) (I : IvT M) : IvT M' := by
  unfold IvT at I ⊢
  rw [h45, h46, h52, h56]
  exact I
def IvP (M : PM) : Prop := M 47 0 = M 52 32 ∧ (0 ≤ M 47 0 ∧ M 47 0 ≤ 200) ∧ ∀ i, 0 ≤ i → i < M 47 0 → M 48 i = M 71 i ∧ 0 ≤ M 48 i ∧ M 48 i ≤ 127
theorem IvP.of {M M' : PM} (h47 : M' 47 = M 47) (h48 : M' 48 = M 48) (h52 : M' 52 32 = M 52 32) (h71 : M' 71 = M 71) (I : IvP M) : IvP M' := by
  unfold IvP at I ⊢
  rw [h47, h48, h52, h71]
  exact I
def IvR (M : PM) : Prop := ∀ r, 0 ≤ r → r < 4 → M 50 r = M 73 r ∧ (-1 ≤ M 50 r ∧ M 50 r ≤ 20) ∧ ∀ i, 0 ≤ i → i < M 50 r → M 51 ((r * 20) + i) = M 72 ((20 * r) + i) ∧ R64 (M 51 ((r * 20) + i))
theorem IvR.of {M M' : PM} (h50 : M' 50 = M 50) (h51 : M' 51 = M 51) (h72 : M' 72 = M 72) (h73 : M' 73 = M 73) (I : IvR M) : IvR M' := by
  unfold IvR at I ⊢
  rw [h50, h51, h72, h73]
  exact I
/-- what the class has cleared -/
def CXV (M : PM) : Prop := ∃ X D, Clr (cp_g M) (M 1 0) X D (M 11 0) (M 11 1) (M 12) ∧ cp_A M X D (M 11 0 + 1) ∧ (∀ h c, hs h → kl c → M 15 ((h * 3) + c) = xd M h c) ∧ ∀ h, hs h → M 16 h = s3 fun c => xd M h c
theorem CXV.of {M M' : PM} (h1 : M' 1 = M 1) (h2 : M' 2 = M 2) (h3 : M' 3 = M 3) (h11 : M' 11 = M 11) (h12 : M' 12 = M 12) (h13 : M' 13 = M 13) (h14 : M' 14 = M 14) (h15 : M' 15 = M 15) (h16 : M' 16 = M 16) (c : CXV M) : CXV M' := by
  obtain ⟨X, D, c1, c2, c3, c4⟩ := c
  refine ⟨X, D, ?_, ?_, ?_, ?_⟩
  · rw [cp_g_of h1 h2 h3, h1, h11, h12]; exact c1
  · rw [h11]
    intro r h0 h1
    have := c2 r h0 h1
    unfold cp_X at this ⊢
    rw [h13, h14]
    exact this
  · rw [h15, xd_of h3]; exact c3
  · rw [h16, xd_of h3]; exact c4
def IvX (M : PM) : Prop := (M 0 7 = 0 ∨ M 0 7 = 1) ∧ (M 0 7 = 0 → CXV M)
theorem IvX.of {M M' : PM} (h07 : M' 0 7 = M 0 7) (h1 : M' 1 = M 1) (h2 : M' 2 = M 2) (h3 : M' 3 = M 3) (h11 : M' 11 = M 11) (h12 : M' 12 = M 12) (h13 : M' 13 = M 13) (h14 : M' 14 = M 14) (h15 : M' 15 = M 15) (h16 : M' 16 = M 16) (I : IvX M) : IvX M' :=
  ⟨by rw [h07]; exact I.1, fun z => (I.2 (by rw [← h07]; exact z)).of h1 h2 h3 h11 h12 h13 h14 h15 h16⟩
theorem CoV.of {M M' : PM} (h1 : M' 1 = M 1) (h2 : M' 2 = M 2) (h3 : M' 3 = M 3) (h37 : M' 37 = M 37) (h38 : M' 38 = M 38) (h39 : M' 39 = M 39) (c : CoV M) : CoV M' := by
  obtain ⟨N, c1, c2, c3, c4⟩ := c
  have e : xP M' = xP M := by funext a b d; unfold xP; rw [h39]
  refine ⟨N, ?_, ?_, ?_, ?_⟩
  · rw [cp_g_of h1 h2 h3]; exact c1
  · rw [h37]; exact c2
  · rw [cp_g_of h1 h2 h3, e]; exact c3
  · rw [cp_g_of h1 h2 h3, h1, h38]; exact c4
def IvC (M : PM) : Prop := (M 0 9 = 0 ∨ M 0 9 = 1) ∧ (M 0 9 = 0 → CoV M)
theorem IvC.of {M M' : PM} (h09 : M' 0 9 = M 0 9) (h1 : M' 1 = M 1) (h2 : M' 2 = M 2) (h3 : M' 3 = M 3) (h37 : M' 37 = M 37) (h38 : M' 38 = M 38) (h39 : M' 39 = M 39) (I : IvC M) : IvC M' :=
  ⟨by rw [h09]; exact I.1, fun z => (I.2 (by rw [← h09]; exact z)).of h1 h2 h3 h37 h38 h39⟩
theorem MC.of {M M' : PM} (h55 : M' 55 = M 55) (h9 : M' 52 9 = M 52 9) (h13 : M' 52 13 = M 52 13) (h58 : M' 58 = M 58) (h59 : M' 59 = M 59) (h60 : M' 60 = M 60) (c : MC M) : MC M' := by
  obtain ⟨X, D, c1, c2⟩ := c
  refine ⟨X, D, ?_, ?_⟩
  · rw [gK_of h55, h55, h9, h13, h60]; exact c1
  · unfold MA at c2 ⊢
    rw [h9, h58, h59]
    exact c2
/-- the model's memory of what is cleared, with the cash it was told -/
def MCk (M : PM) : Prop := MC M ∧ ∀ h, hs h → M 61 h = M 55 (3 + h)
theorem MCk.of {M M' : PM} (h55 : M' 55 = M 55) (h9 : M' 52 9 = M 52 9) (h13 : M' 52 13 = M 52 13) (h58 : M' 58 = M 58) (h59 : M' 59 = M 59) (h60 : M' 60 = M 60) (h61 : M' 61 = M 61) (c : MCk M) : MCk M' := ⟨c.1.of h55 h9 h13 h58 h59 h60, by rw [h55, h61]; exact c.2⟩
def IvM (M : PM) : Prop := R32 (M 52 4) ∧ (M 52 4 ≠ 0 → MCk M)
theorem IvM.of {M M' : PM} (h4 : M' 52 4 = M 52 4) (h55 : M' 55 = M 55) (h9 : M' 52 9 = M 52 9) (h13 : M' 52 13 = M 52 13) (h58 : M' 58 = M 58) (h59 : M' 59 = M 59) (h60 : M' 60 = M 60) (h61 : M' 61 = M 61) (I : IvM M) : IvM M' :=
  ⟨by rw [h4]; exact I.1, fun z => (I.2 (by rw [← h4]; exact z)).of h55 h9 h13 h58 h59 h60 h61⟩
theorem IvM.no {M : PM} (h : M 52 4 = 0) : IvM M := ⟨by rw [h]; decide, fun z => absurd h z⟩
def Iv (M : PM) : Prop := IvB M ∧ IvI M ∧ IvT M ∧ IvP M ∧ IvR M ∧ IvX M ∧ IvC M ∧ IvM M
abbrev scr : List Nat := [0, 9, 10, 11, 12, 13, 14, 15, 16, 17, 18, 19, 20, 21, 22, 23, 24, 25, 26, 27, 28, 29, 30, 31, 32, 33, 34, 35, 36, 37, 38, 39, 40, 41, 42, 43, 44, 52, 57, 58, 59, 60, 61, 62, 63, 64, 65, 66, 67, 68, 69, 70]
theorem Iv.upd {M M' : PM} (I : Iv M) (hA : Ag scr M M') (h02 : M' 0 2 = M 0 2) (h2 : M' 52 2 = M 52 2) (h6 : M' 52 6 = M 52 6) (h32 : M' 52 32 = M 52 32) (x : IvX M') (c : IvC M') (m : IvM M') : Iv M' :=
  ⟨I.1.of (hA 1 (by decide)) (hA 2 (by decide)) (hA 3 (by decide)) (hA 4 (by decide)) (hA 53 (by decide)) (hA 55 (by decide)), I.2.1.of h02 h2 (hA 5 (by decide)) (hA 6 (by decide)) (hA 7 (by decide)) (hA 8 (by decide)) (hA 54 (by decide)),
    I.2.2.1.of (by rw [hA 45 (by decide)]) (hA 46 (by decide)) h6 (hA 56 (by decide)), I.2.2.2.1.of (hA 47 (by decide)) (hA 48 (by decide)) h32 (hA 71 (by decide)), I.2.2.2.2.1.of (hA 50 (by decide)) (hA 51 (by decide)) (hA 72 (by decide)) (hA 73 (by decide)), x, c, m⟩
/-- scratch of the class alone: what is neither book nor cache -/
theorem Iv.scrx {M M' : PM} (I : Iv M) (hA : Ag [9, 10, 17, 18, 19, 20, 21, 22, 23, 24, 25, 26, 27, 28, 29, 30, 31, 32, 33, 34, 35, 36, 40, 41, 42, 43, 44] M M') : Iv M' := by
  have h0 : M' 0 = M 0 := hA 0 (by decide)
  have h52 : M' 52 = M 52 := hA 52 (by decide)
  exact I.upd (hA.mono (by decide)) (by rw [h0]) (by rw [h52]) (by rw [h52]) (by rw [h52]) (I.2.2.2.2.2.1.of (by rw [h0]) (hA 1 (by decide)) (hA 2 (by decide)) (hA 3 (by decide)) (hA 11 (by decide)) (hA 12 (by decide)) (hA 13 (by decide)) (hA 14 (by decide)) (hA 15 (by decide)) (hA 16 (by decide)))
    (I.2.2.2.2.2.2.1.of (by rw [h0]) (hA 1 (by decide)) (hA 2 (by decide)) (hA 3 (by decide)) (hA 37 (by decide)) (hA 38 (by decide)) (hA 39 (by decide))) (I.2.2.2.2.2.2.2.of (by rw [h52]) (hA 55 (by decide)) (by rw [h52]) (by rw [h52]) (hA 58 (by decide)) (hA 59 (by decide)) (hA 60 (by decide)) (hA 61 (by decide)))
/-- scratch of the model alone; its cache may be given up -/
theorem Iv.scrm {M M' : PM} (I : Iv M) (hA : Ag [52, 57, 58, 59, 60, 61, 62, 63, 64, 65, 66, 67, 68, 69, 70] M M') (h2 : M' 52 2 = M 52 2) (h6 : M' 52 6 = M 52 6) (h32 : M' 52 32 = M 52 32) (m : IvM M') : Iv M' := by
  have h0 : M' 0 = M 0 := hA 0 (by decide)
  exact I.upd (hA.mono (by decide)) (by rw [h0]) h2 h6 h32 (I.2.2.2.2.2.1.of (by rw [h0]) (hA 1 (by decide)) (hA 2 (by decide)) (hA 3 (by decide)) (hA 11 (by decide)) (hA 12 (by decide)) (hA 13 (by decide)) (hA 14 (by decide)) (hA 15 (by decide)) (hA 16 (by decide)))
    (I.2.2.2.2.2.2.1.of (by rw [h0]) (hA 1 (by decide)) (hA 2 (by decide)) (hA 3 (by decide)) (hA 37 (by decide)) (hA 38 (by decide)) (hA 39 (by decide))) m
theorem x_cleared {K : Nat} {M : PM} {Q : Option PV → PM → Prop} (I : Iv M) (hq : ∀ M', Ag [0, 11, 12, 13, 14, 15, 16, 17, 18, 19, 20, 22, 23] M M' → (∀ i, i ≠ 7 → M' 0 i = M 0 i) → Iv M' → CXV M' → Q (some (.inr (.inr 11))) M') : Call (K + 6) jClearingWaves_cleared [.inr (.inr 0)] P0 P0 M Q := by
  have X := I.2.2.2.2.2.1
  refine c_x_cleared (K + 5) M Q ⟨by rcases X.1 with z | z <;> rw [z] <;> decide, fun c => hq M (Ag.rf _ _) (fun _ _ => rfl) I (X.2 c), fun c => cp_run ⟨I.1.xb, fun h hh => by have := I.1.xb.2.2.2.1 h hh; omega⟩ (fun M1 X1 D1 hA hc ha hd hda => ?_)⟩
  have e1 : M1 1 = M 1 := hA 1 (by decide)
  have e2 : M1 2 = M 2 := hA 2 (by decide)
  have e3 : M1 3 = M 3 := hA 3 (by decide)
  have n : ∀ a, a ≠ 0 → (mset M1 0 7 0) a = M1 a := fun a ha => mset_ne ha
  have cx : CXV (mset M1 0 7 0) := by
    have cx1 : CXV M1 := ⟨X1, D1, by rw [cp_g_of e1 e2 e3, e1]; exact hc, ha, by rw [xd_of e3]; exact hd, by rw [xd_of e3]; exact hda⟩
    exact cx1.of (n 1 (by decide)) (n 2 (by decide)) (n 3 (by decide)) (n 11 (by decide)) (n 12 (by decide)) (n 13 (by decide)) (n 14 (by decide)) (n 15 (by decide)) (n 16 (by decide))
  have hA' : Ag [0, 11, 12, 13, 14, 15, 16, 17, 18, 19, 20, 22, 23] M (mset M1 0 7 0) := (hA.mono (by decide)).set (by decide)
  have h0 : ∀ i, i ≠ 7 → (mset M1 0 7 0) 0 i = M 0 i := fun i hi => by rw [show (mset M1 0 7 0) 0 i = M1 0 i by simp [mset, hi], hA 0 (by decide)]
  have h52 : (mset M1 0 7 0) 52 = M 52 := by rw [n 52 (by decide), hA 52 (by decide)]
  refine hq _ hA' h0 (I.upd (hA'.mono (by decide)) (h0 2 (by decide)) (by rw [h52]) (by rw [h52]) (by rw [h52]) ⟨Or.inl mset_eq, fun _ => cx⟩ ?_ ?_) cx
  · exact I.2.2.2.2.2.2.1.of (h0 9 (by decide)) (hA' 1 (by decide)) (hA' 2 (by decide)) (hA' 3 (by decide)) (hA' 37 (by decide)) (hA' 38 (by decide)) (hA' 39 (by decide))
  · exact I.2.2.2.2.2.2.2.of (by rw [h52]) (hA' 55 (by decide)) (by rw [h52]) (by rw [h52]) (hA' 58 (by decide)) (hA' 59 (by decide)) (hA' 60 (by decide)) (hA' 61 (by decide))
theorem m_clr2 {K : Nat} {M : PM} {Q : Option PV → PM → Prop} (I : Iv M) (hq : ∀ M', Ag [52, 58, 59, 60, 61, 62, 63, 64, 65, 66] M M' → (∀ i, i ≠ 4 → i ≠ 9 → i ≠ 13 → i ≠ 17 → i ≠ 21 → M' 52 i = M 52 i) → MCk M' → Iv M' → Q none M') : Call (K + 15) jModel_clears [.inr (.inr 52)] P0 P0 M Q := by
  have B := I.1.mb
  have Im := I.2.2.2.2.2.2.2
  refine c_m_clears (K + 14) M Q ⟨Im.1, fun q => hq M (Ag.rf _ _) (fun _ _ _ _ _ _ => rfl) (Im.2 q) I, fun q => m_supposesCash (K := K + 13) (fun M1 hA1 i1 j1 h61 => ?_)⟩
  have k55 : M1 55 = M 55 := hA1 55 (by decide)
  have hpu : ∀ h, hs h → 0 ≤ M1 61 h ∧ M1 61 h ≤ 400 := fun h hh => by
    have := B.2.2.2.1 h hh
    rw [h61 h hh]
    omega
  refine m_goesRound (K := K) (B.of k55) hpu (fun M2 X D hA2 i2 c ar => ?_)
  have n55 : M2 55 = M1 55 := hA2 55 (by decide)
  have E : Eqg (gM M1) (gK M1) := gM_gK (fun k hk => by rw [h61 k hk, k55])
  have c' := Clr.ong (gM_ok (B.of k55) hpu) E c
  have hA3 : Ag [52, 58, 59, 60, 61, 62, 63, 64, 65, 66] M (mset M2 52 4 1) := ((hA1.mono (by decide)).tr (hA2.mono (by decide))).set (by decide)
  have hi : ∀ i, i ≠ 4 → i ≠ 9 → i ≠ 13 → i ≠ 17 → i ≠ 21 → (mset M2 52 4 1) 52 i = M 52 i := fun i a1 a2 a3 a4 a5 => by
    have e : (mset M2 52 4 1) 52 i = M2 52 i := by simp [mset, a1]
    rw [e, i2 i a2 a3 a4 a5, i1 i a1]
  have mc : MCk (mset M2 52 4 1) := by
    refine ⟨⟨X, D, ?_, ?_⟩, fun h hh => ?_⟩
    · rw [gK_of (show (mset M2 52 4 1) 55 = M1 55 by rw [mset_ne (by decide)]; exact n55)]
      rw [show (mset M2 52 4 1) 60 = M2 60 by rw [mset_ne (by decide)], show (mset M2 52 4 1) 55 = M1 55 by rw [mset_ne (by decide)]; exact n55, show (mset M2 52 4 1) 52 9 = M2 52 9 by simp [mset], show (mset M2 52 4 1) 52 13 = M2 52 13 by simp [mset]]
      exact c'
    · intro r h0 h1
      have := ar r h0 (by simpa [mset] using h1)
      simpa [mset] using this
    · rw [mset_ne (by decide), mset_ne (by decide), hA2 61 (by decide), n55, h61 h hh, k55]
  refine hq _ hA3 hi mc (I.scrm (hA3.mono (by decide)) (hi 2 (by decide) (by decide) (by decide) (by decide) (by decide)) (hi 6 (by decide) (by decide) (by decide) (by decide) (by decide)) (hi 32 (by decide) (by decide) (by decide) (by decide) (by decide)) ⟨by rw [mset_eq]; decide, fun _ => mc⟩)
/-- both have cleared: the same -/
def Jc (M : PM) (X : Int → Int → Int → Int) (D : Int → Int) : Prop := Clr (cp_g M) (M 1 0) X D (M 11 0) (M 11 1) (M 12) ∧ cp_A M X D (M 11 0 + 1) ∧ MA M X D ∧ M 52 9 = M 11 0 ∧ M 52 13 = M 11 1 ∧ ∀ h, hs h → M 60 h = M 12 h
theorem jc_of {M : PM} (I : Iv M) (cx : CXV M) (cm : MC M) : ∃ X D, Jc M X D := by
  obtain ⟨X, D, c1, c2, c3, c4⟩ := cx
  obtain ⟨X', D', m1, m2⟩ := cm
  have O := xb_ok I.1.xb
  have m1' := m1.onr I.1.eq.symm
  rw [I.1.n] at m1'
  obtain ⟨u1, u2, u3, u4⟩ := Clr.uniq O c1 m1'
  refine ⟨X, D, c1, c2, fun r h0 h1 => ?_, u1.symm, u2.symm, fun h hh => (u3 h hh).symm⟩
  have a := m2 r h0 h1
  have b := u4 r h0 (by rw [u1]; exact h1)
  exact ⟨by rw [a.1, b.1], fun h c hh hc => by rw [a.2 h c hh hc, b.2 h c hh hc]⟩
