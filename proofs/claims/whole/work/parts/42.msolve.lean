/-! THE MODEL's equations -/
def gM (M : PM) : Ck := (M 55 1, M 55 2, fun h => M 61 h, fun k h c => mo M k h c)
/-- its book, the coins supposed, the classes in which houses end -/
def MS (M : PM) : Prop := MB M ∧ (∀ h, hs h → 0 ≤ M 61 h ∧ M 61 h ≤ 400) ∧ Lvl (M 62)
theorem gM_ok {M : PM} (B : MB M) (hp : ∀ h, hs h → 0 ≤ M 61 h ∧ M 61 h ≤ 400) : Okc (gM M) := ⟨B.2.1, B.2.2.1, hp, fun k h c hk hh hc => B.2.2.2.2.1 k h c hk hh hc, fun k c hk hc => B.2.2.2.2.2.1 k c hk hc⟩
theorem due_gM (M : PM) (h c : Int) : due (gM M) h c = md M h c := rfl
def pcs (f : Int → Int) : Nat → Int
  | 0 => 0
  | n + 1 => pcs f n + f n
theorem pcs_s3 {f : Int → Int} {e : Int} (he : 0 ≤ e ∧ e ≤ 3) : pcs f e.toNat = s3 (fun c => if c < e then f c else 0) := by
  have : e = 0 ∨ e = 1 ∨ e = 2 ∨ e = 3 := by omega
  rcases this with rfl | rfl | rfl | rfl
  · simp [pcs, s3]
  · simp [pcs, s3]
  · show (0 + f 0) + f 1 = _
    simp [s3]
  · show ((0 + f 0) + f 1) + f 2 = _
    simp [s3]
theorem pcs_b {f : Int → Int} {a : Int} : ∀ (n : Nat), (∀ c : Int, 0 ≤ c → c < (n : Int) → 0 ≤ f c ∧ f c ≤ a) → 0 ≤ pcs f n ∧ pcs f n ≤ (n : Int) * a
  | 0, _ => by simp [pcs]
  | n + 1, h => by
    have ih := pcs_b n fun c h0 h1 => h c h0 (by omega)
    have := h (n : Int) (by omega) (by omega)
    have e : (((n + 1 : Nat)) : Int) * a = (n : Int) * a + a := by rw [Int.natCast_succ, Int.add_mul, Int.one_mul]
    rw [e, pcs]
    omega
/-- what is beyond, in the words of the clearing -/
theorem bs_pcs {M : PM} (S : MS M) {h : Int} (hh : hs h) : bs (gM M) (M 62) h = M 55 1 * M 61 h + M 55 2 * s5 (fun k => pcs (fun c => mo M k h c) (M 62 k).toNat) - 10 * pcs (fun c => md M h c) (M 62 h).toNat := by
  have O := gM_ok S.1 S.2.1
  have e1 : gt (gM M) (Z0 (gM M) (M 62)) h = s5 (fun k => pcs (fun c => mo M k h c) (M 62 k).toNat) := by
    unfold gt
    refine s5_congr fun k hk => ?_
    rw [pcs_s3 (S.2.2 k hk)]
    refine s3_congr fun c hc => ?_
    show mo M k h c * Z0 (gM M) (M 62) k c = _
    unfold Z0
    by_cases q : c < M 62 k
    · rw [if_pos q, if_pos (Or.inl q), Int.mul_one]
    · rw [if_neg q]
      by_cases q2 : due (gM M) k c = 0
      · rw [show mo M k h c = 0 from ow_z O hk hh hc q2, Int.zero_mul]
      · rw [if_neg (by intro w; rcases w with w | w; exact q w; exact q2 w), Int.mul_zero]
  have e2 : yt (gM M) (Z0 (gM M) (M 62)) h = pcs (fun c => md M h c) (M 62 h).toNat := by
    unfold yt
    rw [pcs_s3 (S.2.2 h hh)]
    refine s3_congr fun c hc => ?_
    show md M h c * Z0 (gM M) (M 62) h c = _
    unfold Z0
    by_cases q : c < M 62 h
    · rw [if_pos q, if_pos (Or.inl q), Int.mul_one]
    · rw [if_neg q]
      by_cases q2 : due (gM M) h c = 0
      · rw [show md M h c = 0 from q2, Int.zero_mul]
      · rw [if_neg (by intro w; rcases w with w | w; exact q w; exact q2 w), Int.mul_zero]
  unfold bs rt
  rw [e1, e2]
  show M 55 1 * M 61 h * 1 + M 55 2 * _ - _ = _
  rw [Int.mul_one]
theorem m_beyond {K : Nat} {h : Int} {M : PM} {Q : Option PV → PM → Prop} (S : MS M) (hh : hs h) (hq : Q (some (.inr (.inl (bs (gM M) (M 62) h)))) M) : Call (K + 4) jModel_beyond [.inr (.inr 52), .inl h] P0 P0 M Q := by
  rw [bs_pcs S hh] at hq
  have B := S.1
  have hcash := S.2.1 h hh
  have hA := B.2.1
  have hB := B.2.2.1
  -- the last loop
  have l3 : ∀ (n : Nat) (c g2 p : Int), 0 ≤ c → c + (n : Int) = M 62 h → R32 g2 → R32 p → p = pcs (fun c => md M h c) c.toNat → g2 = s5 (fun k => pcs (fun c => mo M k h c) (M 62 k).toNat) → G none (K + 3 + 1) jModel_beyond 55 [(0, .inr (.inr 52)), (1, .inl h), (2, .inl g2), (3, .inl p), (4, .inl c)] [] P0 P0 M Q := by
    intro n
    induction n with
    | zero =>
      intro c g2 p hc hn hg hp ep eg
      have hL := S.2.2 h hh
      have hcE : c = M 62 h := by omega
      refine g_m_beyond_55 _ _ _ _ _ _ _ ⟨hh, ⟨by omega, by omega⟩, ?_, fun _ => ⟨⟨by omega, by omega⟩, ⟨by omega, by omega⟩, ⟨by omega, by omega⟩, hg, hp, ?_⟩, fun q => absurd (by omega) q⟩
      · have : M 62 h = M 62 h := rfl
        exact ⟨by omega, by omega⟩
      · rw [ep, eg, hcE]
        exact hq
    | succ n ih =>
      intro c g2 p hc hn hg hp ep eg
      have hL := S.2.2 h hh
      have hcl : kl c := ⟨hc, by have : M 62 h = M 62 h := rfl; omega⟩
      refine g_m_beyond_55 _ _ _ _ _ _ _ ⟨hh, ⟨by omega, by omega⟩, ⟨by have : M 62 h = M 62 h := rfl; omega, by have : M 62 h = M 62 h := rfl; omega⟩, fun q => absurd q (by omega), fun _ => m_due hh hcl ?_⟩
      have hb := pcs_b (f := fun c => md M h c) (a := 80) c.toNat (fun c' h0 h1 => md_b B hh ⟨h0, by omega⟩)
      have hd := md_b B hh hcl
      refine ih (c + 1) g2 (p + md M h c) (by omega) (by omega) hg ?_ ?_ eg
      · have : ((c.toNat : Nat) : Int) * 80 ≤ 240 := by omega
        exact ⟨by omega, by omega⟩
      · rw [show (c + 1).toNat = c.toNat + 1 by omega, pcs, ep]
        congr 1
        show md M h c = md M h ((c.toNat : Nat) : Int)
        rw [Int.toNat_of_nonneg hc]
  -- the middle loop
  have l2 : ∀ (k : Int), hs k → ∀ (n : Nat) (c g2 : Int), 0 ≤ c → c + (n : Int) = M 62 k → (∀ g3, g3 = g2 + (pcs (fun c => mo M k h c) (M 62 k).toNat - pcs (fun c => mo M k h c) c.toNat) → G none (K + 3 + 1) jModel_beyond 7 [(0, .inr (.inr 52)), (1, .inl h), (2, .inl g3), (3, .inl 0), (4, .inl (k + 1))] [] P0 P0 M Q) → G none (K + 3 + 1) jModel_beyond 16 [(0, .inr (.inr 52)), (1, .inl h), (2, .inl g2), (3, .inl 0), (4, .inl k), (5, .inl c)] [] P0 P0 M Q := by
    intro k hk n
    induction n with
    | zero =>
      intro c g2 hc hn go
      have hL := S.2.2 k hk
      have : M 62 k = M 62 k := rfl
      refine g_m_beyond_16 _ _ _ _ _ _ _ _ ⟨hk, ⟨by omega, by omega⟩, ⟨by omega, by omega⟩, fun _ => ?_, fun q => absurd (by omega) q⟩
      refine go g2 ?_
      rw [show c = M 62 k by omega]
      omega
    | succ n ih =>
      intro c g2 hc hn go
      have hL := S.2.2 k hk
      have : M 62 k = M 62 k := rfl
      refine g_m_beyond_16 _ _ _ _ _ _ _ _ ⟨hk, ⟨by omega, by omega⟩, ⟨by omega, by omega⟩, fun q => absurd q (by omega), fun _ => m_owes hk hh ⟨hc, by omega⟩ ?_⟩
      refine ih (c + 1) _ (by omega) (by omega) (fun g3 e => go g3 ?_)
      rw [e, show (c + 1).toNat = c.toNat + 1 by omega, pcs, Int.toNat_of_nonneg hc]
      omega
  have bnd : ∀ k, hs k → 0 ≤ pcs (fun c => mo M k h c) (M 62 k).toNat ∧ pcs (fun c => mo M k h c) (M 62 k).toNat ≤ 60 := by
    intro k hk
    have hL := S.2.2 k hk
    have : M 62 k = M 62 k := rfl
    have hb := pcs_b (f := fun c => mo M k h c) (a := 20) (M 62 k).toNat (fun c' h0 h1 => B.2.2.2.2.1 k h c' hk hh ⟨h0, by omega⟩)
    have : (((M 62 k).toNat : Nat) : Int) * 20 ≤ 60 := by omega
    omega
  have dst : ∀ k, hs k → 0 ≤ M 62 k := fun k hk => (S.2.2 k hk).1
  refine c_m_beyond (K + 3) h M Q ?_
  refine g_m_beyond_7 _ _ _ _ _ _ _ ⟨by decide, fun q => absurd q (by decide), fun _ => l2 0 (by omega) (M 62 0).toNat 0 0 (by omega) (by have := dst 0 (by omega); omega) fun g0 e0 => ?_⟩
  refine g_m_beyond_7 _ _ _ _ _ _ _ ⟨by decide, fun q => absurd q (by decide), fun _ => l2 1 (by omega) (M 62 1).toNat 0 g0 (by omega) (by have := dst 1 (by omega); omega) fun g1 e1 => ?_⟩
  refine g_m_beyond_7 _ _ _ _ _ _ _ ⟨by decide, fun q => absurd q (by decide), fun _ => l2 2 (by omega) (M 62 2).toNat 0 g1 (by omega) (by have := dst 2 (by omega); omega) fun g2 e2 => ?_⟩
  refine g_m_beyond_7 _ _ _ _ _ _ _ ⟨by decide, fun q => absurd q (by decide), fun _ => l2 3 (by omega) (M 62 3).toNat 0 g2 (by omega) (by have := dst 3 (by omega); omega) fun g3 e3 => ?_⟩
  refine g_m_beyond_7 _ _ _ _ _ _ _ ⟨by decide, fun q => absurd q (by decide), fun _ => l2 4 (by omega) (M 62 4).toNat 0 g3 (by omega) (by have := dst 4 (by omega); omega) fun g4 e4 => ?_⟩
  have b0 := bnd 0 (by omega); have b1 := bnd 1 (by omega); have b2 := bnd 2 (by omega); have b3 := bnd 3 (by omega); have b4 := bnd 4 (by omega)
  have z0 : ∀ f : Int → Int, pcs f (0 : Int).toNat = 0 := fun f => rfl
  rw [z0] at e0 e1 e2 e3 e4
  refine g_m_beyond_7 _ _ _ _ _ _ _ ⟨by decide, fun _ => ?_, fun q => absurd q (by decide)⟩
  refine l3 (M 62 h).toNat 0 g4 0 (by omega) (by have := dst h hh; omega) ⟨by omega, by omega⟩ (by decide) rfl ?_
  simp only [s5]
  omega
/-- the list of open houses -/
def opl (f : Int → Int) (m : Nat) : List Int := (List.range m).map fun i => f ((i : Nat) : Int)
theorem opl_mem {f : Int → Int} {m : Nat} {x : Int} : x ∈ opl f m ↔ ∃ i : Int, 0 ≤ i ∧ i < (m : Int) ∧ f i = x := by
  unfold opl
  rw [List.mem_map]
  constructor
  · rintro ⟨i, hi, rfl⟩
    exact ⟨(i : Int), by omega, by have := List.mem_range.mp hi; omega, rfl⟩
  · rintro ⟨i, h0, h1, rfl⟩
    exact ⟨i.toNat, List.mem_range.mpr (by omega), by rw [Int.toNat_of_nonneg h0]⟩
theorem opl_succ (f : Int → Int) (m : Nat) : opl f (m + 1) = opl f m ++ [f (m : Int)] := by
  unfold opl
  rw [List.range_succ, List.map_append]
  rfl
theorem opl_len (f : Int → Int) (m : Nat) : (opl f m).length = m := by simp [opl]
def osM (M : PM) : List Int := opl (M 63) (M 52 17).toNat
theorem m_isOpen {K : Nat} {x : Int} {M : PM} {Q : Option PV → PM → Prop} (hm : 0 ≤ M 52 17 ∧ M 52 17 ≤ 5) (hv : ∀ i, 0 ≤ i → i < M 52 17 → R32 (M 63 i)) (hx : R32 x) (hq : Q (some (.inl (b2i (Inl (osM M) x)))) M) : Call (K + 1) jModel_isOpen [.inr (.inr 52), .inl x] P0 P0 M Q := by
  have loop : ∀ (n : Nat) (j : Int), 0 ≤ j → j + (n : Int) = M 52 17 → (∀ i, 0 ≤ i → i < j → M 63 i ≠ x) → G none (K + 1) jModel_isOpen 2 [(0, .inr (.inr 52)), (1, .inl x), (2, .inl j)] [] P0 P0 M Q := by
    intro n
    induction n with
    | zero =>
      intro j hj hn hno
      refine g_m_isOpen_2 _ _ _ _ _ ⟨⟨by omega, by omega⟩, ⟨by omega, by omega⟩, fun _ => ?_, fun q => absurd (by omega) q⟩
      have : Inl (osM M) x = false := by
        cases q : Inl (osM M) x
        · rfl
        · obtain ⟨i, h0, h1, h2⟩ := opl_mem.mp (Inl_mem.mp q)
          exact absurd h2 (hno i h0 (by omega))
      rw [this] at hq
      exact hq
    | succ n ih =>
      intro j hj hn hno
      refine g_m_isOpen_2 _ _ _ _ _ ⟨⟨by omega, by omega⟩, ⟨by omega, by omega⟩, fun q => absurd q (by omega), fun _ => ⟨⟨by omega, by omega⟩, hv j hj (by omega), hx, fun q => ?_, fun q => ?_⟩⟩
      · refine ih (j + 1) (by omega) (by omega) (fun i h0 h1 => ?_)
        by_cases hij : i = j
        · rw [hij]; exact q
        · exact hno i h0 (by omega)
      · have : Inl (osM M) x = true := Inl_mem.mpr (opl_mem.mpr ⟨j, hj, by omega, q⟩)
        rw [this] at hq
        exact hq
  exact c_m_isOpen K x M Q (loop (M 52 17).toNat 0 (by omega) (by omega) (fun i h0 h1 => by omega))
def lsum (f : Int → Int) : List Int → Int
  | [] => 0
  | c :: cs => f c + lsum f cs
theorem lsum_app (f : Int → Int) : ∀ (l l2 : List Int), lsum f (l ++ l2) = lsum f l + lsum f l2
  | [], l2 => by simp [lsum]
  | c :: l, l2 => by simp only [List.cons_append, lsum, lsum_app f l l2]; omega
theorem lsum_s5 (f : Int → Int) : ∀ (os : List Int), os.Nodup → (∀ k ∈ os, hs k) → lsum f os = s5 (fun k => if Inl os k = true then f k else 0)
  | [], _, _ => by simp [lsum, Inl, s5]
  | c :: cs, hn, hh => by
    have hn' := List.nodup_cons.mp hn
    have hc := hh c List.mem_cons_self
    rw [lsum, lsum_s5 f cs hn'.2 (fun k hk => hh k (List.mem_cons_of_mem _ hk))]
    have e : s5 (fun k => if Inl (c :: cs) k = true then f k else 0) = s5 (fun k => (if k = c then f c else 0) + (if Inl cs k = true then f k else 0)) := by
      refine s5_congr fun k _ => ?_
      by_cases hk : k = c
      · subst hk; simp [Inl, hn'.1]
      · by_cases hm : k ∈ cs
        · simp [Inl, hk, hm]
        · simp [Inl, hk, hm]
    rw [e, s5_add, s5_one hc]
/-- open houses: unlike, in the failing set F, with something due in their class -/
def OpM (M : PM) (F : Int → Bool) : Prop := (0 ≤ M 52 17 ∧ M 52 17 ≤ 5) ∧ Opn (gM M) F (M 62) (osM M)
theorem OpM.v {M : PM} {F : Int → Bool} (O : OpM M F) {i : Int} (h0 : 0 ≤ i) (h1 : i < M 52 17) : hs (M 63 i) ∧ kl (M 62 (M 63 i)) ∧ M 63 i ∈ osM M := by
  have hm : M 63 i ∈ osM M := opl_mem.mpr ⟨i, h0, by omega, rfl⟩
  have := O.2.2 _ hm
  exact ⟨this.1, this.2.2.1, hm⟩
theorem m_beyondAll {K : Nat} {h : Int} {M : PM} {F : Int → Bool} {Q : Option PV → PM → Prop} (S : MS M) (O : OpM M F) (hh : hs h) (hq : Q (some (.inr (.inl (by_ (gM M) (M 62) (osM M) (M 66) (M 52 21) h)))) M) : Call (K + 5) jModel_beyondAll [.inr (.inr 52), .inl h] P0 P0 M Q := by
  have B := S.1
  have loop : ∀ (n : Nat) (j sum : Int), 0 ≤ j → j + (n : Int) = M 52 17 → sum = bs (gM M) (M 62) h * M 52 21 + lsum (fun k => AA (gM M) (M 62) k h * M 66 k) (opl (M 63) j.toNat) → G none (K + 4 + 1) jModel_beyondAll 14 [(0, .inr (.inr 52)), (1, .inl h), (2, .inr (.inl sum)), (4, .inl j)] [] P0 P0 M Q := by
    intro n
    induction n with
    | zero =>
      intro j sum hj hn e
      have hm := O.1
      refine g_m_beyondAll_14 _ _ _ _ _ _ ⟨⟨by omega, by omega⟩, ⟨by omega, by omega⟩, fun _ => ?_, fun q => absurd (by omega) q⟩
      have e2 : by_ (gM M) (M 62) (osM M) (M 66) (M 52 21) h = sum := by
        rw [e, show j = M 52 17 by omega]
        unfold by_
        rw [← lsum_s5 _ (osM M) O.2.1 (fun k hk => (O.2.2 k hk).1)]
        rfl
      rw [e2] at hq
      exact hq
    | succ n ih =>
      intro j sum hj hn e
      have hm := O.1
      have hv := O.v hj (by omega)
      have hmo := B.2.2.2.2.1 (M 63 j) h (M 62 (M 63 j)) hv.1 hh hv.2.1
      refine g_m_beyondAll_14 _ _ _ _ _ _ ⟨⟨by omega, by omega⟩, ⟨by omega, by omega⟩, fun q => absurd q (by omega), fun _ => ⟨⟨by have := B.2.2.1; omega, by have := B.2.2.1; omega⟩, ⟨by omega, by omega⟩, hv.1, m_owes hv.1 hh hv.2.1 ⟨⟨by omega, by omega⟩, hv.1, ?_⟩⟩⟩
      refine ih (j + 1) _ (by omega) (by omega) ?_
      rw [e, show (j + 1).toNat = j.toNat + 1 by omega, opl_succ, lsum_app, Int.toNat_of_nonneg hj]
      simp only [lsum]
      have e3 : AA (gM M) (M 62) (M 63 j) h = M 55 2 * mo M (M 63 j) h (M 62 (M 63 j)) := by
        unfold AA
        rw [if_pos (show M 62 (M 63 j) < 3 from hv.2.1.2)]
        rfl
      rw [e3]
      omega
  refine c_m_beyondAll (K + 4) h M Q (m_beyond S hh ?_)
  refine loop (M 52 17).toNat 0 _ (by omega) (by have := O.1; omega) ?_
  show _ = _ + lsum _ (opl (M 63) 0)
  simp [opl, lsum]
