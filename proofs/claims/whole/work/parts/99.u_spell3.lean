/-! SPELLED: the whole text -/
def shl (wv t b : Int → Int) : Nat → Int → Int → List Int → List Int
  | 0, _, _, T => T
  | m + 1, w, k, T => shl wv t b m w (k + 1) (if wv k = w then pcx T k w (t k) (b k) else T)
def swl (wv t b : Int → Int) (n : Nat) : Nat → Int → List Int → List Int
  | 0, _, T => T
  | m + 1, w, T => swl wv t b n m (w + 1) (shl wv t b n w 0 T)
/-- how many are done -/
def cw (wv : Int → Int) (w k h : Int) : Int := if wv h < w ∨ (wv h = w ∧ h < k) then 1 else 0
theorem cw_5 (wv : Int → Int) (w k : Int) : s5 (cw wv w k) ≤ 5 := by
  have h : s5 (cw wv w k) ≤ s5 (fun _ => 1) := s5_le fun h _ => by
    unfold cw
    split
    · exact Int.le_refl _
    · decide
  exact h
theorem cw_y {wv : Int → Int} {w k : Int} (hk : hs k) (h : wv k = w) : s5 (cw wv w (k + 1)) = s5 (cw wv w k) + 1 := by
  have e : s5 (cw wv w (k + 1)) = s5 (fun h => cw wv w k h + (if h = k then 1 else 0)) := s5_congr fun i _ => by
    unfold cw
    by_cases q : i = k
    · rw [q, if_pos (Or.inr ⟨h, by omega⟩), if_neg (by omega), if_pos rfl]; rfl
    · rw [if_neg q]
      by_cases z : wv i < w ∨ (wv i = w ∧ i < k)
      · rw [if_pos z, if_pos (by omega)]; rfl
      · rw [if_neg z, if_neg (by omega)]; rfl
  rw [e, s5_add, s5_one hk 1]
theorem cw_n {wv : Int → Int} {w k : Int} (h : ¬ wv k = w) : s5 (cw wv w (k + 1)) = s5 (cw wv w k) := s5_congr fun i _ => by
  unfold cw
  by_cases z : wv i < w ∨ (wv i = w ∧ i < k)
  · rw [if_pos z, if_pos (by omega)]
  · rw [if_neg z, if_neg (fun y => z (by
      rcases y with y | y
      · exact Or.inl y
      · by_cases e : i = k
        · rw [e] at y; exact absurd y.1 h
        · exact Or.inr ⟨y.1, by omega⟩))]
theorem cw_w {wv : Int → Int} {w k : Int} : s5 (cw wv w k) ≤ s5 (cw wv (w + 1) 0) := s5_le fun i _ => by
  unfold cw
  by_cases z : wv i < w ∨ (wv i = w ∧ i < k)
  · rw [if_pos z, if_pos (by omega)]; exact Int.le_refl _
  · rw [if_neg z]; split <;> decide
abbrev TL (wv : Int → Int) (w k : Int) (T : List Int) : Prop := (T.length : Int) ≤ 37 * s5 (cw wv w k) ∧ Tb T
theorem TL.take {wv : Int → Int} {w k a b : Int} {T : List Int} (h : TL wv w k T) (hk : hs k) (e : wv k = w) (hw : 0 ≤ w ∧ w ≤ 5) (ha : a < 100000000000000000) (hb : b < 1000000000000000) : T.length + 37 ≤ 200 ∧ TL wv w (k + 1) (pcx T k w a b) := by
  have c := cw_y hk e
  have c5 := cw_5 wv w (k + 1)
  have l := pcx_len (T := T) (h := k) (w := w) ha hb
  have := h.1
  exact ⟨by omega, by omega, tb_pcx h.2 hk hw⟩
theorem TL.skip {wv : Int → Int} {w k : Int} {T : List Int} (h : TL wv w k T) (e : ¬ wv k = w) : TL wv w (k + 1) T := ⟨by rw [cw_n e]; exact h.1, h.2⟩
theorem TL.next {wv : Int → Int} {w k : Int} {T : List Int} (h : TL wv w k T) : TL wv (w + 1) 0 T := ⟨by have := cw_w (wv := wv) (w := w) (k := k); have := h.1; omega, h.2⟩
theorem TL.zero {wv : Int → Int} {w k : Int} : TL wv w k [] := ⟨by
  have : 0 ≤ s5 (cw wv w k) := s5_nn fun h _ => by unfold cw; split <;> decide
  show (0 : Int) ≤ _
  omega, fun x hx => absurd hx (by simp)⟩
theorem TL.fin {wv : Int → Int} {w k : Int} {T : List Int} (h : TL wv w k T) : (T.length : Int) ≤ 200 := by
  have := cw_5 wv w k
  have := h.1
  omega
theorem x_spell_go {K : Nat} {M : PM} {X : Int → Int → Int → Int} {D : Int → Int} {Q : Option PV → PM → Prop} (B : XB M) (cf : CF M X D) (hq : ∀ M' T, Ag [47, 48] M M' → Hd (M' 47 0) (M' 48) T → T = swl (M 12) (tA M X D) (tB M X D) (M 1 0).toNat (M 11 0).toNat 1 [] → Tb T → (T.length : Int) ≤ 200 → Q (some (.inl (T.length : Int))) M') :
    ∀ (x : Nat) (w : Int) (T : List Int) (M1 : PM), w + (x : Int) = M 11 0 + 1 → 1 ≤ w → Ag [47, 48] M M1 → Hd (M1 47 0) (M1 48) T → TL (M 12) w 0 T → swl (M 12) (tA M X D) (tB M X D) (M 1 0).toNat x w T = swl (M 12) (tA M X D) (tB M X D) (M 1 0).toNat (M 11 0).toNat 1 [] → G none (K + 4 + 1) jClearingWaves_spell 15 [(0, .inr (.inr 0)), (1, .inr (.inr 11)), (2, .inl w)] [] P0 P0 M1 Q := by
  have hw0 := cf.2.1
  have hn := B.1
  intro x
  induction x with
  | zero =>
    intro w T M1 hx w1 hA hT tl e
    have e11 : M1 11 = M 11 := hA 11 (by decide)
    refine g_x_spell_15 _ _ _ _ ⟨⟨by omega, by omega⟩, by rw [e11]; exact ⟨by omega, by omega⟩, fun _ => ?_, fun q => absurd (by rw [e11]; omega) q⟩
    rw [hT.1]
    exact hq M1 T hA hT e tl.2 tl.fin
  | succ x ih =>
    intro w T M1 hx w1 hA hT tl e
    have e11 : M1 11 = M 11 := hA 11 (by decide)
    have inn : ∀ (y : Nat) (k : Int) (T2 : List Int) (M2 : PM), k + (y : Int) = M 1 0 → 0 ≤ k → Ag [47, 48] M M2 → Hd (M2 47 0) (M2 48) T2 → TL (M 12) w k T2 → shl (M 12) (tA M X D) (tB M X D) y w k T2 = shl (M 12) (tA M X D) (tB M X D) (M 1 0).toNat w 0 T → G none (K + 4 + 1) jClearingWaves_spell 25 [(0, .inr (.inr 0)), (1, .inr (.inr 11)), (2, .inl w), (3, .inl k)] [] P0 P0 M2 Q := by
      intro y
      induction y with
      | zero =>
        intro k T2 M2 hy k0 hA2 hT2 tl2 e2
        have f1 : M2 1 = M 1 := hA2 1 (by decide)
        refine g_x_spell_25 _ _ _ _ _ ⟨⟨by omega, by omega⟩, by rw [f1]; exact ⟨by omega, by omega⟩, fun _ => ?_, fun q => absurd (by rw [f1]; omega) q⟩
        refine ih (w + 1) T2 M2 (by omega) (by omega) hA2 hT2 tl2.next ?_
        rw [← e]
        show _ = swl (M 12) (tA M X D) (tB M X D) (M 1 0).toNat x (w + 1) (shl (M 12) (tA M X D) (tB M X D) (M 1 0).toNat w 0 T)
        rw [← e2]
        rfl
      | succ y ih2 =>
        intro k T2 M2 hy k0 hA2 hT2 tl2 e2
        have f1 : M2 1 = M 1 := hA2 1 (by decide)
        have f12 : M2 12 = M 12 := hA2 12 (by decide)
        have hk : hs k := ⟨k0, by omega⟩
        have wb := cf.2.2.2.2.2.2 k hk
        refine g_x_spell_25 _ _ _ _ _ ⟨⟨by omega, by omega⟩, by rw [f1]; exact ⟨by omega, by omega⟩, fun q => absurd q (by rw [f1]; omega), fun _ => ⟨hk, by rw [f12]; exact ⟨by omega, by omega⟩, ⟨by omega, by omega⟩, fun q => ?_, fun q => ?_⟩⟩
        · rw [f12] at q
          refine ih2 (k + 1) T2 M2 (by omega) (by omega) hA2 hT2 (tl2.skip q) ?_
          rw [← e2]
          show _ = shl (M 12) (tA M X D) (tB M X D) y w (k + 1) (if M 12 k = w then _ else T2)
          rw [if_neg q]
        · rw [f12] at q
          have yb := ty_b B cf hk
          have tk := tl2.take (a := tA M X D k) (b := tB M X D k) hk q ⟨by omega, by omega⟩ yb.2.1.2 yb.2.2.2
          have eA : tA M2 X D k = tA M X D k := by unfold tA; rw [cp_g_of (hA2 1 (by decide)) (hA2 2 (by decide)) (hA2 3 (by decide)), hA2 11 (by decide)]
          have eB : tB M2 X D k = tB M X D k := by unfold tB; rw [cp_g_of (hA2 1 (by decide)) (hA2 2 (by decide)) (hA2 3 (by decide)), hA2 11 (by decide)]
          refine x_spellHouse (K := K) (B.of (hA2 1 (by decide)) (hA2 2 (by decide)) (hA2 3 (by decide))) (cf.of hA2 (by decide)) hk ⟨w1, by omega⟩ hT2 tk.1 (fun M3 hA3 h3 => ?_)
          rw [eA, eB] at h3
          refine ih2 (k + 1) _ M3 (by omega) (by omega) (hA2.tr hA3) h3 tk.2 ?_
          rw [← e2]
          show _ = shl (M 12) (tA M X D) (tB M X D) y w (k + 1) (if M 12 k = w then _ else T2)
          rw [if_pos q]
    refine g_x_spell_15 _ _ _ _ ⟨⟨by omega, by omega⟩, by rw [e11]; exact ⟨by omega, by omega⟩, fun q => absurd q (by rw [e11]; omega), fun _ => inn (M 1 0).toNat 0 T M1 (by omega) (by decide) hA hT tl rfl⟩
theorem m_spell_go {K : Nat} {n W : Int} {wv t b : Int → Int} {M : PM} {Q : Option PV → PM → Prop} (hn : M 55 0 = n) (hn5 : 2 ≤ n ∧ n ≤ 5) (h9 : M 52 9 = W) (hW : 0 ≤ W ∧ W ≤ 5) (hwv : ∀ h, hs h → M 60 h = wv h ∧ 0 ≤ wv h ∧ wv h ≤ W) {DD : Int} (hD : M 59 W = DD) (hDP : P63 DD ∧ 0 < DD)
    (hm : ∀ h c, hs h → kl c → 0 ≤ md M h c ∧ md M h c ≤ 80) (hY : ∀ h, hs h → P63 (s3 fun c => md M h c * rX M W h c) ∧ tlw (s3 fun c => md M h c * rX M W h c) DD 0 = t h ∧ tlw (s3 fun c => md M h c * rX M W h c) DD 1 = b h) (ht : ∀ h, hs h → P63 (t h) ∧ t h < 100000000000000000) (hb : ∀ h, hs h → 1 ≤ b h ∧ b h < 1000000000000000)
    (hq : ∀ M' T, Ag [52, 71] M M' → (∀ i, i ≠ 32 → M' 52 i = M 52 i) → Hd (M' 52 32) (M' 71) T → T = swl wv t b n.toNat W.toNat 1 [] → Q (some (.inl (T.length : Int))) M') :
    ∀ (x : Nat) (w : Int) (T : List Int) (M1 : PM), w + (x : Int) = W + 1 → 1 ≤ w → Ag [52, 71] M M1 → (∀ i, i ≠ 32 → M1 52 i = M 52 i) → Hd (M1 52 32) (M1 71) T → TL wv w 0 T → swl wv t b n.toNat x w T = swl wv t b n.toNat W.toNat 1 [] → G none (K + 21 + 1) jModel_spell 11 [(0, .inr (.inr 52)), (1, .inl w)] [] P0 P0 M1 Q := by
  intro x
  induction x with
  | zero =>
    intro w T M1 hx w1 hA iA hT tl e
    have e9 : M1 52 9 = W := by rw [iA 9 (by decide), h9]
    refine g_m_spell_11 _ _ _ _ ⟨⟨by omega, by omega⟩, by rw [e9]; exact ⟨by omega, by omega⟩, fun _ => ?_, fun q => absurd (by rw [e9]; omega) q⟩
    rw [hT.1]
    exact hq M1 T hA iA hT e
  | succ x ih =>
    intro w T M1 hx w1 hA iA hT tl e
    have e9 : M1 52 9 = W := by rw [iA 9 (by decide), h9]
    have inn : ∀ (y : Nat) (k : Int) (T2 : List Int) (M2 : PM), k + (y : Int) = n → 0 ≤ k → Ag [52, 71] M M2 → (∀ i, i ≠ 32 → M2 52 i = M 52 i) → Hd (M2 52 32) (M2 71) T2 → TL wv w k T2 → shl wv t b y w k T2 = shl wv t b n.toNat w 0 T → G none (K + 21 + 1) jModel_spell 21 [(0, .inr (.inr 52)), (1, .inl w), (2, .inl k)] [] P0 P0 M2 Q := by
      intro y
      induction y with
      | zero =>
        intro k T2 M2 hy k0 hA2 iA2 hT2 tl2 e2
        have f1 : M2 55 0 = n := by rw [hA2 55 (by decide), hn]
        refine g_m_spell_21 _ _ _ _ _ ⟨⟨by omega, by omega⟩, by rw [f1]; exact ⟨by omega, by omega⟩, fun _ => ?_, fun q => absurd (by rw [f1]; omega) q⟩
        refine ih (w + 1) T2 M2 (by omega) (by omega) hA2 iA2 hT2 tl2.next ?_
        rw [← e]
        show _ = swl wv t b n.toNat x (w + 1) (shl wv t b n.toNat w 0 T)
        rw [← e2]
        rfl
      | succ y ih2 =>
        intro k T2 M2 hy k0 hA2 iA2 hT2 tl2 e2
        have f1 : M2 55 0 = n := by rw [hA2 55 (by decide), hn]
        have hk : hs k := ⟨k0, by omega⟩
        have wb := hwv k hk
        have f60 : M2 60 k = wv k := by rw [hA2 60 (by decide), wb.1]
        refine g_m_spell_21 _ _ _ _ _ ⟨⟨by omega, by omega⟩, by rw [f1]; exact ⟨by omega, by omega⟩, fun q => absurd q (by rw [f1]; omega), fun _ => ⟨hk, by rw [f60]; exact ⟨by omega, by omega⟩, ⟨by omega, by omega⟩, fun q => ?_, fun q => ?_⟩⟩
        · rw [f60] at q
          refine ih2 (k + 1) T2 M2 (by omega) (by omega) hA2 iA2 hT2 (tl2.skip q) ?_
          rw [← e2]
          show _ = shl wv t b y w (k + 1) (if wv k = w then _ else T2)
          rw [if_neg q]
        · rw [f60] at q
          have yb := hY k hk
          have tk := tl2.take (a := t k) (b := b k) hk q ⟨by omega, by omega⟩ (ht k hk).2 (hb k hk).2
          have f9 : M2 52 9 = W := by rw [iA2 9 (by decide), h9]
          have em : ∀ c, md M2 k c = md M k c := fun c => by unfold md mo; rw [hA2 55 (by decide)]
          have ex : ∀ c, rX M2 W k c = rX M W k c := fun c => by unfold rX; rw [hA2 58 (by decide)]
          have eY : (s3 fun c => md M2 k c * rX M2 (M2 52 9) k c) = s3 fun c => md M k c * rX M W k c := s3_congr fun c _ => by rw [f9, em, ex]
          refine m_spells_ (K := K) (a := t k) (b := b k) (DD := DD) hk ⟨w1, by omega⟩ (by rw [f60, q]) (by rw [f9]; exact hW) (by rw [f9, hA2 59 (by decide), hD]) hDP eY yb.1 (fun c hc => by rw [em]; exact hm k c hk hc) yb.2.1 yb.2.2 (ht k hk) (hb k hk) hT2 tk.1 (fun M3 hA3 i3 h3 => ?_)
          refine ih2 (k + 1) _ M3 (by omega) (by omega) (hA2.tr hA3) (fun i hi => by rw [i3 i hi, iA2 i hi]) h3 tk.2 ?_
          rw [← e2]
          show _ = shl wv t b y w (k + 1) (if wv k = w then _ else T2)
          rw [if_pos q]
    refine g_m_spell_11 _ _ _ _ ⟨⟨by omega, by omega⟩, by rw [e9]; exact ⟨by omega, by omega⟩, fun q => absurd q (by rw [e9]; omega), fun _ => inn n.toNat 0 T M1 (by omega) (by decide) hA iA hT tl rfl⟩
theorem Hd.ivp {M : PM} {T : List Int} (h1 : Hd (M 47 0) (M 48) T) (h2 : Hd (M 52 32) (M 71) T) (tb : Tb T) (hl : (T.length : Int) ≤ 200) : IvP M := by
  have a := h1.1
  have b := h2.1
  refine ⟨by omega, ⟨by omega, by omega⟩, fun i i0 i1 => ?_⟩
  obtain ⟨k, rfl⟩ : ∃ k : Nat, i = (k : Int) := ⟨i.toNat, by omega⟩
  have hk : k < T.length := by omega
  have e1 := h1.2 k hk
  have e2 := h2.2 k hk
  have et : T.getD k 0 ∈ T := by
    rw [List.getD_eq_getElem?_getD, List.getElem?_eq_getElem hk]
    exact List.getElem_mem hk
  rw [e1, e2]
  exact ⟨rfl, tb _ et⟩
theorem b_spell {K : Nat} {M : PM} {C : Int → Int → PM → Prop} (I : Iv M) (hq : Ok32 C) : Bi (K + 22) jClearingWaves_spell [.inr (.inr 0)] jModel_spell [.inr (.inr 52)] M C := by
  unfold Bi
  refine c_x_spell (K + 21) M _ (x_clr (K := K + 15) I (fun M1 X D hA hi h7 I1 cf => ⟨rfl, ?_⟩))
  obtain ⟨M2, e2⟩ : ∃ M2, M2 = mset M1 47 0 0 := ⟨_, rfl⟩
  show G none (K + 17 + 4 + 1) jClearingWaves_spell 15 [(0, .inr (.inr 0)), (1, .inr (.inr 11)), (2, .inl 1)] [] P0 P0 (mset M1 47 0 0) _
  rw [← e2]
  have hA2 : Ag [47, 48] M1 M2 := by rw [e2]; exact (Ag.rf _ _).set (by decide)
  have cf2 : CF M2 X D := cf.of hA2 (by decide)
  have B1 := I1.1.xb
  have B2 : XB M2 := B1.of (hA2 1 (by decide)) (hA2 2 (by decide)) (hA2 3 (by decide))
  have hw := cf2.2.1
  have hn := B2.1
  have h0 : Hd (M2 47 0) (M2 48) [] := by rw [e2, mset_eq]; exact Hd.nil _
  refine x_spell_go (K := K + 17) B2 cf2 (fun M3 T hA3 h3 eT tb tl => ?_) (M2 11 0).toNat 1 [] M2 (by omega) (by decide) (Ag.rf _ _) h0 TL.zero rfl
  have hA13 : Ag [47, 48] M1 M3 := hA2.tr hA3
  have IB3 : IvB M3 := I1.1.of (hA13 1 (by decide)) (hA13 2 (by decide)) (hA13 3 (by decide)) (hA13 4 (by decide)) (hA13 53 (by decide)) (hA13 55 (by decide))
  have n52 : M3 52 = M1 52 := hA13 52 (by decide)
  have IM3 : IvM M3 := I1.2.2.2.2.2.2.2.of (by rw [n52]) (hA13 55 (by decide)) (by rw [n52]) (by rw [n52]) (hA13 58 (by decide)) (hA13 59 (by decide)) (hA13 60 (by decide)) (hA13 61 (by decide))
  show Call (K + 22) jModel_spell [.inr (.inr 52)] P0 P0 M3 (retI fun r2 M2 => C (T.length : Int) r2 M2)
  refine c_m_spell (K + 21) M3 _ (m_clrB (K := K + 6) IB3 IM3 (fun M4 hA4 fs mk IM4 IB4 => ?_))
  have cf3 : CF M3 X D := cf2.of hA3 (by decide)
  obtain ⟨j1, j2, j3, j4⟩ := jm_ofB cf3 IB4 hA4 mk.1
  have g11 : M3 11 0 = M2 11 0 := by rw [hA3 11 (by decide)]
  have aW := j4 (M3 11 0) (by rw [g11]; exact hw.1) (by rw [j1]; exact Int.le_refl _)
  obtain ⟨M5, e5⟩ : ∃ M5, M5 = mset M4 52 32 0 := ⟨_, rfl⟩
  show G none (K + 21 + 1) jModel_spell 11 [(0, .inr (.inr 52)), (1, .inl 1)] [] P0 P0 (mset M4 52 32 0) _
  rw [← e5]
  have i5 : ∀ i, i ≠ 32 → M5 52 i = M4 52 i := fun i hi => by rw [e5, mset_at, if_neg hi]
  have hA5 : Ag [52, 71] M4 M5 := by rw [e5]; exact (Ag.rf _ _).set (by decide)
  have h50 : Hd (M5 52 32) (M5 71) [] := by rw [e5, mset_eq]; exact Hd.nil _
  have f2 := cf2.2.2.1 (M2 11 0) hw.1 (Int.le_refl _)
  have dp := D_P cf2 hw.1 (Int.le_refl _)
  have emd : ∀ h c, hs h → kl c → md M5 h c = xd M2 h c := fun h c hh hc => by
    have q : md M5 h c = md M4 h c := by unfold md mo; rw [hA5 55 (by decide)]
    rw [q, IB4.d hh hc, xd_of (hA4 3 (by decide)), xd_of (hA3 3 (by decide))]
  have eY : ∀ h, hs h → (s3 fun c => md M5 h c * rX M5 (M2 11 0) h c) = yt (cp_g M2) (X (M2 11 0)) h := fun h hh => s3_congr fun c hc => by
    have q : rX M5 (M2 11 0) h c = X (M2 11 0) h c := by
      have z := aW.2 h c hh hc
      unfold rX
      rw [hA5 58 (by decide), ← g11]
      exact z
    rw [emd h c hh hc, q]
    rfl
  refine m_spell_go (K := K) (n := M2 1 0) (W := M2 11 0) (wv := M2 12) (t := tA M2 X D) (b := tB M2 X D) (DD := D (M2 11 0)) ?_ hn ?_ hw (fun h hh => ⟨?_, cf2.2.2.2.2.2.2 h hh⟩) ?_ ⟨dp.1, dp.2.1⟩ (fun h c hh hc => by rw [emd h c hh hc]; exact xd_b B2 hh hc) (fun h hh => ?_) (fun h hh => (ty_b B2 cf2 hh).2.1) (fun h hh => (ty_b B2 cf2 hh).2.2) (fun M6 T' hA6 i6 h6 eT' => ?_) (M2 11 0).toNat 1 [] M5 (by omega) (by decide) (Ag.rf _ _) (fun _ _ => rfl) h50 TL.zero rfl
  · rw [hA5 55 (by decide), IB4.n, hA4 1 (by decide), hA3 1 (by decide)]
  · rw [i5 9 (by decide), j1, g11]
  · rw [hA5 60 (by decide), j3 h hh, hA3 12 (by decide)]
  · rw [hA5 59 (by decide), ← g11]; exact aW.1
  · rw [eY h hh]
    exact ⟨⟨(ty_b B2 cf2 hh).1.1, by have := (ty_b B2 cf2 hh).1.2; omega⟩, rfl, rfl⟩
  · have eTT : T' = T := by rw [eT', eT]
    rw [eTT] at h6
    rw [eTT]
    have kx : ∀ c, c ∉ [47, 48] → c ∉ trm → c ∉ [52, 71] → M6 c = M1 c := fun c a b d => by rw [hA6 c d, hA5 c d, hA4 c b, hA13 c a]
    have f52 : ∀ i, i ≠ 4 → i ≠ 9 → i ≠ 13 → i ≠ 17 → i ≠ 21 → i ≠ 32 → M6 52 i = M1 52 i := fun i a1 a2 a3 a4 a5 a6 => by rw [i6 i a6, i5 i a6, fs i a1 a2 a3 a4 a5, n52]
    have g52 : ∀ i, i ≠ 32 → M6 52 i = M4 52 i := fun i hi => by rw [i6 i hi, i5 i hi]
    have k4 : ∀ c, c ∉ [52, 71] → M6 c = M4 c := fun c d => by rw [hA6 c d, hA5 c d]
    have h3' : Hd (M6 47 0) (M6 48) T := by
      rw [k4 47 (by decide), k4 48 (by decide), hA4 47 (by decide), hA4 48 (by decide)]
      exact h3
    have k0 : M6 0 = M1 0 := kx 0 (by decide) (by decide) (by decide)
    refine hq _ _ ⟨by omega, by omega⟩ ⟨IB4.of (k4 1 (by decide)) (k4 2 (by decide)) (k4 3 (by decide)) (k4 4 (by decide)) (k4 53 (by decide)) (k4 55 (by decide)), I1.2.1.of (by rw [k0]) (f52 2 (by decide) (by decide) (by decide) (by decide) (by decide) (by decide)) (kx 5 (by decide) (by decide) (by decide)) (kx 6 (by decide) (by decide) (by decide)) (kx 7 (by decide) (by decide) (by decide)) (kx 8 (by decide) (by decide) (by decide)) (kx 54 (by decide) (by decide) (by decide)),
      I1.2.2.1.of (by rw [kx 45 (by decide) (by decide) (by decide)]) (kx 46 (by decide) (by decide) (by decide)) (f52 6 (by decide) (by decide) (by decide) (by decide) (by decide) (by decide)) (kx 56 (by decide) (by decide) (by decide)), h3'.ivp h6 tb tl, I1.2.2.2.2.1.of (kx 50 (by decide) (by decide) (by decide)) (kx 51 (by decide) (by decide) (by decide)) (kx 72 (by decide) (by decide) (by decide)) (kx 73 (by decide) (by decide) (by decide)),
      I1.2.2.2.2.2.1.of (by rw [k0]) (kx 1 (by decide) (by decide) (by decide)) (kx 2 (by decide) (by decide) (by decide)) (kx 3 (by decide) (by decide) (by decide)) (kx 11 (by decide) (by decide) (by decide)) (kx 12 (by decide) (by decide) (by decide)) (kx 13 (by decide) (by decide) (by decide)) (kx 14 (by decide) (by decide) (by decide)) (kx 15 (by decide) (by decide) (by decide)) (kx 16 (by decide) (by decide) (by decide)),
      I1.2.2.2.2.2.2.1.of (by rw [k0]) (kx 1 (by decide) (by decide) (by decide)) (kx 2 (by decide) (by decide) (by decide)) (kx 3 (by decide) (by decide) (by decide)) (kx 37 (by decide) (by decide) (by decide)) (kx 38 (by decide) (by decide) (by decide)) (kx 39 (by decide) (by decide) (by decide)),
      IM4.of (g52 4 (by decide)) (k4 55 (by decide)) (g52 9 (by decide)) (g52 13 (by decide)) (k4 58 (by decide)) (k4 59 (by decide)) (k4 60 (by decide)) (k4 61 (by decide))⟩
