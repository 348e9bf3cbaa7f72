/-! THE MODEL solves its equations -/
def Ag (S : List Nat) (M M' : PM) : Prop := ∀ a, a ∉ S → M' a = M a
theorem Ag.rf (S : List Nat) (M : PM) : Ag S M M := fun _ _ => rfl
theorem Ag.tr {S : List Nat} {M M1 M2 : PM} (h : Ag S M M1) (h2 : Ag S M1 M2) : Ag S M M2 := fun a ha => (h2 a ha).trans (h a ha)
theorem Ag.mono {S T : List Nat} {M M1 : PM} (h : Ag S M M1) (hs_ : ∀ a ∈ S, a ∈ T) : Ag T M M1 := fun a ha => h a fun z => ha (hs_ a z)
theorem Ag.set {S : List Nat} {M M1 : PM} {a : Nat} {i v : Int} (h : Ag S M M1) (ha : a ∈ S) : Ag S M (mset M1 a i v) := fun b hb => by
  rw [mset_ne (fun z : b = a => hb (by rw [z]; exact ha))]
  exact h b hb
theorem MB.of {M M' : PM} (h : M' 55 = M 55) (B : MB M) : MB M' := by
  unfold MB mo at B ⊢
  rw [h]
  exact B
theorem mo_of {M M' : PM} (h : M' 55 = M 55) : mo M' = mo M := by
  funext f t c
  unfold mo
  rw [h]
theorem md_of {M M' : PM} (h : M' 55 = M 55) : md M' = md M := by
  funext x c
  unfold md
  rw [mo_of h]
theorem gM_of {M M' : PM} (h : M' 55 = M 55) (h1 : M' 61 = M 61) : gM M' = gM M := by
  unfold gM
  rw [h, h1, mo_of h]
theorem MS.of {M M' : PM} (h : M' 55 = M 55) (h1 : M' 61 = M 61) (h2 : M' 62 = M 62) (S : MS M) : MS M' := by
  refine ⟨S.1.of h, ?_, ?_⟩
  · rw [h1]; exact S.2.1
  · rw [h2]; exact S.2.2
/-- rows by number -/
def rowsF (r : Int → Int → Int) : Int → Nat → List (Int → Int)
  | _, 0 => []
  | i, d + 1 => r i :: rowsF r (i + 1) d
theorem rws_rowsF (M : PM) (sw : Int) : ∀ (d : Nat) (i : Int), rws M sw i d = rowsF (en M sw) i d
  | 0, _ => rfl
  | d + 1, i => by rw [rws, rowsF, rws_rowsF M sw d]
theorem rowsF_map (r : Int → Int → Int) (f : Int → Int) : ∀ (d i0 : Nat), rowsF (fun i => r (f i)) (i0 : Int) d = ((List.range' i0 d).map fun i => f ((i : Nat) : Int)).map r
  | 0, _ => rfl
  | d + 1, i0 => by
    have := rowsF_map r f d (i0 + 1)
    rw [rowsF, List.range'_succ, List.map_cons, List.map_cons, ← this]
    rfl
theorem ex_map {r r' : Int → Int} {φ : Int → Int} : ∀ (cs : List Int) (f g : List Int → Int), (∀ c ∈ cs, r c = r' (φ c)) → (∀ l, (∀ x ∈ l, x ∈ cs) → f l = g (l.map φ)) → ex f r cs = ex g r' (cs.map φ)
  | [], _, _, _, _ => rfl
  | c :: cs, f, g, hr, hf => by
    rw [List.map_cons, ex, ex, hr c List.mem_cons_self, hf cs (fun x hx => List.mem_cons_of_mem _ hx)]
    rw [ex_map cs (fun l => f (c :: l)) (fun l => g (φ c :: l)) (fun c' hc => hr c' (List.mem_cons_of_mem _ hc)) (fun l hl => by
      rw [hf (c :: l) (fun x hx => by
        rcases List.mem_cons.mp hx with rfl | hx
        · exact List.mem_cons_self
        · exact List.mem_cons_of_mem _ (hl x hx)), List.map_cons])]
theorem dt_map {r r' : Int → Int → Int} {φ : Int → Int} : ∀ (d : Nat) (i0 : Int) (cs : List Int), (∀ i, i0 ≤ i → i < i0 + (d : Int) → ∀ c ∈ cs, r i c = r' i (φ c)) → dt (rowsF r i0 d) cs = dt (rowsF r' i0 d) (cs.map φ)
  | 0, _, _, _ => rfl
  | d + 1, i0, cs, h => by
    rw [rowsF, rowsF, dt, dt]
    refine ex_map cs _ _ (h i0 (by omega) (by omega)) fun l hl => ?_
    exact dt_map d (i0 + 1) l fun i h0 h1 c hc => h i (by omega) (by omega) c (hl c hc)
theorem upto_map (f : Int → Int) {m : Int} (hm : 0 ≤ m ∧ m ≤ 5) : (upto m).map f = opl f m.toNat := by
  have h : ∀ i : Fin 6, upto ((i.val : Nat) : Int) = (List.range i.val).map (fun j => ((j : Nat) : Int)) := by decide +kernel
  have h1 := fin_all (n := 6) (P := fun m => upto m = (List.range m.toNat).map (fun j => ((j : Nat) : Int))) (fun i => by rw [Int.toNat_natCast]; exact h i) hm.1 (by omega)
  rw [h1, List.map_map]
  rfl
theorem upto_mem {m c : Int} (hm : 0 ≤ m ∧ m ≤ 5) (h : c ∈ upto m) : 0 ≤ c ∧ c < m := by
  have h1 := upto_map (fun x => x) hm
  rw [List.map_id'] at h1
  rw [h1] at h
  obtain ⟨i, h0, h2, rfl⟩ := opl_mem.mp h
  omega
theorem ev_neg : ∀ (os vs : List Int) (k : Int), ev os (vs.map fun x => -x) k = - ev os vs k
  | [], _, _ => by simp [ev]
  | c :: cs, [], _ => by simp [ev]
  | c :: cs, x :: xs, k => by
    simp only [List.map_cons, ev]
    split
    · rfl
    · exact ev_neg cs xs k
theorem cf_ev : ∀ (A B : List Int) (h : Int) (f : List Int → Int), (A ++ h :: B).Nodup → ev (A ++ h :: B) (cf f (A ++ h :: B)) h = sgn A.length * f (A ++ B)
  | [], B, h, f, _ => by simp [cf, ev, sgn]
  | a :: A, B, h, f, hn => by
    have hn' := List.nodup_cons.mp (by simpa using hn : (a :: (A ++ h :: B)).Nodup)
    have hne : h ≠ a := fun z => hn'.1 (by rw [z]; simp)
    have ih := cf_ev A B h (fun l => f (a :: l)) hn'.2
    simp only [List.cons_append, cf, ev, if_neg hne, ev_neg, ih, List.length_cons, sgn]
    rw [Int.neg_mul]
theorem sgn_sq : ∀ n, sgn n * sgn n = 1
  | 0 => rfl
  | n + 1 => by simp only [sgn, Int.neg_mul_neg]; exact sgn_sq n
/-- Cramer's numerator: the column of a house is the side without unknowns -/
theorem Xv_at (rw_ : Int → Int → Int) (q : Int) (A B : List Int) (h : Int) (hn : (A ++ h :: B).Nodup) : ev (A ++ h :: B) (Xv rw_ q (A ++ h :: B)) h = dt ((A ++ h :: B).map rw_) (A ++ q :: B) := by
  unfold Xv
  rw [cf_ev A B h _ hn]
  have h1 := dt_move ((A ++ h :: B).map rw_) q A [] B (by simp; omega)
  simp only [List.nil_append] at h1
  rw [h1, ← Int.mul_assoc, sgn_sq, Int.one_mul]
/-- what is filled of the equations -/
def Fil (M M1 : PM) (i j : Int) : Prop := (∀ x, 0 ≤ x → x < i → M1 65 x = bs (gM M) (M 62) (M 63 x)) ∧ ∀ x y, 0 ≤ x → 0 ≤ y → y < M 52 17 → (x < i ∨ (x = i ∧ y < j)) → M1 64 ((5 * x) + y) = Rw (gM M) (M 62) (M 63 x) (M 63 y)
theorem bs_R {M : PM} (S : MS M) {h : Int} (hh : hs h) : -10000 ≤ bs (gM M) (M 62) h ∧ bs (gM M) (M 62) h ≤ 10000 := by
  have B := S.1
  have hA := B.2.1
  have hB := B.2.2.1
  have hc := S.2.1 h hh
  rw [bs_pcs S hh]
  have bnd : ∀ k, hs k → 0 ≤ pcs (fun c => mo M k h c) (M 62 k).toNat ∧ pcs (fun c => mo M k h c) (M 62 k).toNat ≤ 60 := by
    intro k hk
    have hL := S.2.2 k hk
    have hb := pcs_b (f := fun c => mo M k h c) (a := 20) (M 62 k).toNat (fun c' h0 h1 => B.2.2.2.2.1 k h c' hk hh ⟨h0, by omega⟩)
    have : (((M 62 k).toNat : Nat) : Int) * 20 ≤ 60 := by omega
    omega
  have b0 := bnd 0 (by omega); have b1 := bnd 1 (by omega); have b2 := bnd 2 (by omega); have b3 := bnd 3 (by omega); have b4 := bnd 4 (by omega)
  have hL := S.2.2 h hh
  have hb := pcs_b (f := fun c => md M h c) (a := 80) (M 62 h).toNat (fun c' h0 h1 => md_b B hh ⟨h0, by omega⟩)
  have hb2 : (((M 62 h).toNat : Nat) : Int) * 80 ≤ 240 := by omega
  have h1 : 0 ≤ M 55 1 * M 61 h ∧ M 55 1 * M 61 h ≤ 10 * 400 := ⟨Int.mul_nonneg hA.1 hc.1, Int.mul_le_mul hA.2 hc.2 hc.1 (by omega)⟩
  have h2 : 0 ≤ s5 (fun k => pcs (fun c => mo M k h c) (M 62 k).toNat) ∧ s5 (fun k => pcs (fun c => mo M k h c) (M 62 k).toNat) ≤ 300 := by
    simp only [s5]; omega
  have h3 : 0 ≤ M 55 2 * s5 (fun k => pcs (fun c => mo M k h c) (M 62 k).toNat) ∧ M 55 2 * s5 (fun k => pcs (fun c => mo M k h c) (M 62 k).toNat) ≤ 10 * 300 := ⟨Int.mul_nonneg hB.1 h2.1, Int.mul_le_mul hB.2 h2.2 h2.1 (by omega)⟩
  omega
theorem Rw_R {M : PM} {F : Int → Bool} (S : MS M) (O : OpM M F) {x y : Int} (hx : 0 ≤ x ∧ x < M 52 17) (hy : 0 ≤ y ∧ y < M 52 17) : -1000 ≤ Rw (gM M) (M 62) (M 63 x) (M 63 y) ∧ Rw (gM M) (M 62) (M 63 x) (M 63 y) ≤ 1000 := by
  have B := S.1
  have vx := O.v hx.1 hx.2
  have vy := O.v hy.1 hy.2
  unfold Rw
  rw [if_neg (by omega)]
  split
  · unfold dd
    rw [if_pos vx.2.1.2, due_gM]
    have := md_b B vx.1 vx.2.1
    omega
  · unfold AA
    rw [if_pos vy.2.1.2]
    have hB := B.2.2.1
    have hm := B.2.2.2.2.1 (M 63 y) (M 63 x) (M 62 (M 63 y)) vy.1 vx.1 vy.2.1
    have h1 : 0 ≤ M 55 2 * mo M (M 63 y) (M 63 x) (M 62 (M 63 y)) ∧ M 55 2 * mo M (M 63 y) (M 63 x) (M 62 (M 63 y)) ≤ 10 * 20 := ⟨Int.mul_nonneg hB.1 hm.1, Int.mul_le_mul hB.2 hm.2 hm.1 (by omega)⟩
    show -1000 ≤ -(M 55 2 * mo M (M 63 y) (M 63 x) (M 62 (M 63 y))) ∧ -(M 55 2 * mo M (M 63 y) (M 63 x) (M 62 (M 63 y))) ≤ 1000
    omega
theorem m_solves {K : Nat} {M : PM} {F : Int → Bool} {Q : Option PV → PM → Prop} (S : MS M) (O : OpM M F) (hq : ∀ M', Ag [64, 65, 66, 52] M M' → (∀ i, i ≠ 21 → M' 52 i = M 52 i) → M' 52 21 = Dt (Rw (gM M) (M 62)) (osM M) → (∀ h ∈ osM M, M' 66 h = ev (osM M) (Xv (Rw (gM M) (M 62)) (-1) (osM M)) h) → Q none M') : Call (K + 9) jModel_solves [.inr (.inr 52)] P0 P0 M Q := by
  have B := S.1
  have hm := O.1
  have hnd := O.2.1
  -- the determinants, once all is filled
  have hdet : ∀ (M1 : PM) (sw : Int) (Q : Option PV → PM → Prop), Ag [64, 65, 66, 52] M M1 → M1 52 17 = M 52 17 → Fil M M1 (M 52 17) 0 → (sw = -1 ∨ (0 ≤ sw ∧ sw < M 52 17)) → Q (some (.inr (.inl (dt ((osM M).map (Rw (gM M) (M 62))) ((upto (M 52 17)).map fun c => if c = sw then -1 else M 63 c))))) M1 → Call (K + 8) jModel_determinant [.inr (.inr 52), .inl 0, .inl (bShl 1 (M 52 17) - 1), .inl sw] P0 P0 M1 Q := by
    intro M1 sw Q hA h17 hF hsw hQ
    have hk : K + 8 = (K + (6 - (M 52 17).toNat)) + (M 52 17).toNat + 2 := by omega
    rw [hk]
    have hr := rem_full hm
    refine m_det (m := M 52 17) (sw := sw) h17 hm ?_ ⟨by omega, by omega⟩ (M 52 17).toNat _ 0 _ Q (by omega) (by omega) hr.1 ?_
    · intro i h0 h1
      refine ⟨?_, fun j h2 h3 => ?_⟩
      · rw [hF.1 i h0 h1]
        have := bs_R S (O.v h0 h1).1
        exact ⟨by omega, by omega⟩
      · rw [hF.2 i j h0 h2 h3 (Or.inl h1)]
        have := Rw_R S O ⟨h0, h1⟩ ⟨h2, h3⟩
        exact ⟨by omega, by omega⟩
    · rw [hr.2, rws_rowsF]
      rw [dt_map (r' := fun i => Rw (gM M) (M 62) (M 63 i)) (φ := fun c => if c = sw then -1 else M 63 c) (M 52 17).toNat 0 (upto (M 52 17)) (fun i h0 h1 c hc => by
        have hc' := upto_mem hm hc
        unfold en
        by_cases q : c = sw
        · rw [if_pos q, if_pos q, hF.1 i h0 (by omega)]
          unfold Rw; rw [if_pos rfl]
        · rw [if_neg q, if_neg q, hF.2 i c h0 hc'.1 hc'.2 (Or.inl (by omega))])]
      have e := rowsF_map (Rw (gM M) (M 62)) (M 63) (M 52 17).toNat 0
      have e2 : (List.range' 0 (M 52 17).toNat).map (fun i => M 63 ((i : Nat) : Int)) = osM M := by
        unfold osM opl
        rw [List.range_eq_range']
      rw [e2] at e
      have e3 : rowsF (fun i => Rw (gM M) (M 62) (M 63 i)) (0 : Int) (M 52 17).toNat = (osM M).map (Rw (gM M) (M 62)) := e
      rw [e3]
      exact hQ
  -- the last loop: parts
  have l3 : ∀ (n : Nat) (x : Int) (M1 : PM), 0 ≤ x → x + (n : Int) = M 52 17 → Ag [64, 65, 66, 52] M M1 → (∀ i, i ≠ 21 → M1 52 i = M 52 i) → M1 52 21 = Dt (Rw (gM M) (M 62)) (osM M) → Fil M M1 (M 52 17) 0 → (∀ y, 0 ≤ y → y < x → M1 66 (M 63 y) = ev (osM M) (Xv (Rw (gM M) (M 62)) (-1) (osM M)) (M 63 y)) →
      G none (K + 8 + 1) jModel_solves 138 [(0, .inr (.inr 52)), (1, .inl (bShl 1 (M 52 17) - 1)), (2, .inl x)] [] P0 P0 M1 Q := by
    intro n
    induction n with
    | zero =>
      intro x M1 hx hn hA h52 h21 hF hp
      have h17 : M1 52 17 = M 52 17 := h52 17 (by decide)
      refine g_m_solves_138 _ _ _ _ _ ⟨⟨by omega, by omega⟩, by rw [h17]; exact ⟨by omega, by omega⟩, fun _ => ?_, fun q => absurd (by omega) q⟩
      refine hq M1 hA h52 h21 fun h hmem => ?_
      obtain ⟨y, h0, h1, rfl⟩ := opl_mem.mp hmem
      exact hp y h0 (by omega)
    | succ n ih =>
      intro x M1 hx hn hA h52 h21 hF hp
      have h17 : M1 52 17 = M 52 17 := h52 17 (by decide)
      have h63 : M1 63 = M 63 := hA 63 (by decide)
      have vx := O.v hx (by omega)
      refine g_m_solves_138 _ _ _ _ _ ⟨⟨by omega, by omega⟩, by rw [h17]; exact ⟨by omega, by omega⟩, fun q => absurd q (by omega), fun _ => ⟨⟨by omega, by omega⟩, ?_⟩⟩
      refine hdet M1 x _ hA h17 hF (Or.inr ⟨hx, by omega⟩) ⟨by rw [h63]; exact vx.1, ?_⟩
      refine ih (x + 1) _ (by omega) (by omega) (hA.set (by decide)) (fun i hi => ?_) ?_ ?_ (fun y h0 h1 => ?_)
      · rw [mset_ne (by decide)]; exact h52 i hi
      · rw [mset_ne (by decide)]; exact h21
      · refine ⟨fun y h0 h1 => ?_, fun y z h0 h1 h2 h3 => ?_⟩
        · rw [mset_ne (by decide)]; exact hF.1 y h0 h1
        · rw [mset_ne (by decide)]; exact hF.2 y z h0 h1 h2 h3
      · rw [h63]
        -- the column of x replaced
        have hcol : dt ((osM M).map (Rw (gM M) (M 62))) ((upto (M 52 17)).map fun c => if c = x then -1 else M 63 c) = ev (osM M) (Xv (Rw (gM M) (M 62)) (-1) (osM M)) (M 63 x) := by
          have hxm : x < M 52 17 := by omega
          obtain ⟨r, hr⟩ : ∃ r : Nat, (M 52 17).toNat = x.toNat + (r + 1) := ⟨(M 52 17).toNat - x.toNat - 1, by omega⟩
          have e1 : osM M = opl (M 63) x.toNat ++ M 63 x :: (((List.range' (x.toNat + 1) r).map fun i => M 63 ((i : Nat) : Int))) := by
            unfold osM opl
            rw [List.range_eq_range', hr, ← List.range'_append_1, List.map_append, List.range'_succ, List.map_cons, List.range_eq_range', Nat.zero_add, Int.toNat_of_nonneg hx]
          have e2 : (upto (M 52 17)).map (fun c => if c = x then -1 else M 63 c) = opl (M 63) x.toNat ++ (-1) :: (((List.range' (x.toNat + 1) r).map fun i => M 63 ((i : Nat) : Int))) := by
            rw [upto_map _ hm]
            unfold opl
            rw [List.range_eq_range', hr, ← List.range'_append_1, List.map_append, List.range'_succ, List.map_cons, List.range_eq_range', Nat.zero_add, Int.toNat_of_nonneg hx]
            have g1 : (List.range' 0 x.toNat).map (fun i => (fun c => if c = x then -1 else M 63 c) ((i : Nat) : Int)) = (List.range' 0 x.toNat).map (fun i => M 63 ((i : Nat) : Int)) := List.map_congr_left fun i hi => if_neg (by
              have := List.mem_range'_1.mp hi
              omega)
            have g2 : (List.range' (x.toNat + 1) r).map (fun i => (fun c => if c = x then -1 else M 63 c) ((i : Nat) : Int)) = (List.range' (x.toNat + 1) r).map (fun i => M 63 ((i : Nat) : Int)) := List.map_congr_left fun i hi => if_neg (by
              have := List.mem_range'_1.mp hi
              omega)
            rw [g1, g2]
            show _ ++ (if x = x then (-1 : Int) else M 63 x) :: _ = _
            rw [if_pos rfl]
          rw [e2]
          have hnd2 := hnd
          rw [e1] at hnd2
          have := Xv_at (Rw (gM M) (M 62)) (-1) _ _ _ hnd2
          rw [← e1] at this
          exact this.symm
        by_cases hyx : M 63 y = M 63 x
        · rw [hyx, mset_eq, hcol]
        · have : (mset M1 66 (M 63 x) (dt ((osM M).map (Rw (gM M) (M 62))) ((upto (M 52 17)).map fun c => if c = x then -1 else M 63 c))) 66 (M 63 y) = M1 66 (M 63 y) := by
            simp [mset, hyx]
          rw [this]
          refine hp y h0 ?_
          rcases Int.lt_or_le y x with z | z
          · exact z
          · exact absurd (by rw [show y = x by omega]) hyx
  -- a row
  have l2 : ∀ (x : Int), 0 ≤ x → x < M 52 17 → (∀ M2, Ag [64, 65, 66, 52] M M2 → M2 52 = M 52 → Fil M M2 (x + 1) 0 → G none (K + 8 + 1) jModel_solves 2 [(0, .inr (.inr 52)), (1, .inl (x + 1))] [] P0 P0 M2 Q) →
      ∀ (n : Nat) (y : Int) (M1 : PM), 0 ≤ y → y + (n : Int) = M 52 17 → Ag [64, 65, 66, 52] M M1 → M1 52 = M 52 → Fil M M1 x y → M1 65 x = bs (gM M) (M 62) (M 63 x) → G none (K + 8 + 1) jModel_solves 30 [(0, .inr (.inr 52)), (1, .inl x), (2, .inl (M 63 x)), (3, .inl y)] [] P0 P0 M1 Q := by
    intro x hx hxm go n
    induction n with
    | zero =>
      intro y M1 hy hn hA h52 hF hr
      refine g_m_solves_30 _ _ _ _ _ _ ⟨⟨by omega, by omega⟩, by rw [h52]; exact ⟨by omega, by omega⟩, fun _ => ?_, fun q => absurd (by rw [h52]; omega) q⟩
      refine go M1 hA h52 ⟨fun z h0 h1 => ?_, fun z w h0 h1 h2 h3 => ?_⟩
      · by_cases q : z = x
        · rw [q]; exact hr
        · exact hF.1 z h0 (by omega)
      · refine hF.2 z w h0 h1 h2 ?_
        rcases h3 with q | q
        · rcases Int.lt_or_le z x with z1 | z1
          · exact Or.inl z1
          · exact Or.inr ⟨by omega, by omega⟩
        · exact absurd q.2 (by omega)
    | succ n ih =>
      intro y M1 hy hn hA h52 hF hr
      have h63 : M1 63 = M 63 := hA 63 (by decide)
      have h62 : M1 62 = M 62 := hA 62 (by decide)
      have h55 : M1 55 = M 55 := hA 55 (by decide)
      have vx := O.v hx hxm
      have vy := O.v hy (by omega)
      have hnext : ∀ v, v = Rw (gM M) (M 62) (M 63 x) (M 63 y) → G none (K + 8 + 1) jModel_solves 30 [(0, .inr (.inr 52)), (1, .inl x), (2, .inl (M 63 x)), (3, .inl (y + 1))] [] P0 P0 (mset M1 64 ((5 * x) + y) v) Q := by
        intro v hv
        refine ih (y + 1) _ (by omega) (by omega) (hA.set (by decide)) (by rw [mset_ne (by decide)]; exact h52) ⟨fun z h0 h1 => ?_, fun z w h0 h1 h2 h3 => ?_⟩ (by rw [mset_ne (by decide)]; exact hr)
        · rw [mset_ne (by decide)]; exact hF.1 z h0 h1
        · by_cases q : (5 * z) + w = (5 * x) + y
          · have : z = x ∧ w = y := by omega
            rw [this.1, this.2, mset_eq, hv]
          · have e : (mset M1 64 ((5 * x) + y) v) 64 ((5 * z) + w) = M1 64 ((5 * z) + w) := by simp [mset, q]
            rw [e]
            refine hF.2 z w h0 h1 h2 ?_
            rcases h3 with z1 | z1
            · exact Or.inl z1
            · refine Or.inr ⟨z1.1, ?_⟩
              rcases Int.lt_or_le w y with z2 | z2
              · exact z2
              · exact absurd (by rw [z1.1, show w = y by omega]) q
      refine g_m_solves_30 _ _ _ _ _ _ ⟨⟨by omega, by omega⟩, by rw [h52]; exact ⟨by omega, by omega⟩, fun q => absurd q (by rw [h52]; omega), fun _ => ⟨⟨by omega, by omega⟩, ⟨by omega, by omega⟩, fun q => ?_, fun q => ?_⟩⟩
      · rw [h55, h63, h62]
        have hmo := B.2.2.2.2.1 (M 63 y) (M 63 x) (M 62 (M 63 y)) vy.1 vx.1 vy.2.1
        refine ⟨by have := B.2.2.1; exact ⟨by omega, by omega⟩, vy.1, m_owes vy.1 vx.1 vy.2.1 ?_⟩
        rw [mo_of h55]
        refine ⟨⟨by omega, by omega⟩, ⟨by omega, by omega⟩, hnext _ ?_⟩
        unfold Rw
        have hne : M 63 y ≠ M 63 x := by
          intro z
          -- unlike places hold unlike houses
          have hi : ∀ (l : List Int), l.Nodup → ∀ i j : Nat, i < l.length → j < l.length → l[i]? = l[j]? → i = j := fun l hl i j h1 h2 h3 => (List.getElem?_inj h1 hl).mp h3
          have := hi (osM M) hnd x.toNat y.toNat (by simp [osM, opl]; omega) (by simp [osM, opl]; omega) (by
            have gx : ∀ z : Int, 0 ≤ z → z < M 52 17 → (osM M)[z.toNat]? = some (M 63 z) := by
              intro z h0 h1
              unfold osM opl
              rw [List.getElem?_map, List.getElem?_range (by omega)]
              simp [Int.toNat_of_nonneg h0]
            rw [gx x hx hxm, gx y hy (by omega), z])
          omega
        rw [if_neg (by have := vy.1; omega), if_neg hne]
        unfold AA
        rw [if_pos vy.2.1.2]
        show -M 55 2 * mo M (M 63 y) (M 63 x) (M 62 (M 63 y)) = -(M 55 2 * mo M (M 63 y) (M 63 x) (M 62 (M 63 y)))
        rw [Int.neg_mul]
      · subst q
        rw [h62]
        have hd := md_b B vx.1 vx.2.1
        refine ⟨vx.1, m_due vx.1 vx.2.1 ?_⟩
        rw [md_of h55]
        refine ⟨⟨by omega, by omega⟩, ⟨by omega, by omega⟩, hnext _ ?_⟩
        unfold Rw dd
        rw [if_neg (by have := vx.1; omega), if_pos rfl, if_pos vx.2.1.2, due_gM]
  -- all rows
  have l1 : ∀ (n : Nat) (x : Int) (M1 : PM), 0 ≤ x → x + (n : Int) = M 52 17 → Ag [64, 65, 66, 52] M M1 → M1 52 = M 52 → Fil M M1 x 0 → G none (K + 8 + 1) jModel_solves 2 [(0, .inr (.inr 52)), (1, .inl x)] [] P0 P0 M1 Q := by
    intro n
    induction n with
    | zero =>
      intro x M1 hx hn hA h52 hF
      refine g_m_solves_2 _ _ _ _ ⟨⟨by omega, by omega⟩, by rw [h52]; exact ⟨by omega, by omega⟩, fun _ => ?_, fun q => absurd (by rw [h52]; omega) q⟩
      rw [h52]
      have hxe : x = M 52 17 := by omega
      rw [hxe] at hF
      refine hdet M1 (-1) _ hA (by rw [h52]) hF (Or.inl rfl) ?_
      have e1 : (upto (M 52 17)).map (fun c => if c = -1 then -1 else M 63 c) = osM M := by
        show _ = opl (M 63) (M 52 17).toNat
        rw [← upto_map (M 63) hm]
        apply List.map_congr_left
        intro c hc
        rw [if_neg (by have := upto_mem hm hc; omega)]
      rw [e1]
      refine l3 (M 52 17).toNat 0 _ (by omega) (by omega) (hA.set (by decide)) (fun i hi => ?_) ?_ ?_ (fun y h0 h1 => by omega)
      · have : (mset M1 52 21 (dt ((osM M).map (Rw (gM M) (M 62))) (osM M))) 52 i = M1 52 i := by simp [mset, hi]
        rw [this, h52]
      · rw [mset_eq]; rfl
      · refine ⟨fun y h0 h1 => ?_, fun y z h0 h1 h2 h3 => ?_⟩
        · rw [mset_ne (by decide)]; exact hF.1 y h0 h1
        · rw [mset_ne (by decide)]; exact hF.2 y z h0 h1 h2 h3
    | succ n ih =>
      intro x M1 hx hn hA h52 hF
      have h63 : M1 63 = M 63 := hA 63 (by decide)
      have h62 : M1 62 = M 62 := hA 62 (by decide)
      have h61 : M1 61 = M 61 := hA 61 (by decide)
      have h55 : M1 55 = M 55 := hA 55 (by decide)
      have vx := O.v hx (by omega)
      refine g_m_solves_2 _ _ _ _ ⟨⟨by omega, by omega⟩, by rw [h52]; exact ⟨by omega, by omega⟩, fun q => absurd q (by rw [h52]; omega), fun _ => ⟨⟨by omega, by omega⟩, ?_⟩⟩
      rw [h63]
      refine m_beyond (S.of h55 h61 h62) vx.1 ?_
      rw [gM_of h55 h61, h62]
      refine l2 x hx (by omega) (fun M2 hA2 h2 hF2 => ih (x + 1) M2 (by omega) (by omega) hA2 h2 hF2) (M 52 17).toNat 0 _ (by omega) (by omega) (hA.set (by decide)) (by rw [mset_ne (by decide)]; exact h52) ⟨fun z h0 h1 => ?_, fun z w h0 h1 h2 h3 => ?_⟩ mset_eq
      · have : (mset M1 65 x (bs (gM M) (M 62) (M 63 x))) 65 z = M1 65 z := by simp [mset, show z ≠ x by omega]
        rw [this]; exact hF.1 z h0 h1
      · rw [mset_ne (by decide)]; exact hF.2 z w h0 h1 h2 h3
  exact c_m_solves (K + 8) M Q (l1 (M 52 17).toNat 0 M (by omega) (by omega) (Ag.rf _ _) rfl ⟨fun z h0 h1 => by omega, fun z w h0 h1 h2 h3 => by omega⟩)
