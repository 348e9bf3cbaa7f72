/-! THE MODEL opens houses until no more have anything beyond -/
def OI (M0 M1 : PM) (F : Int → Bool) : Prop := Ag [63, 64, 65, 66, 52] M0 M1 ∧ (∀ i, i ≠ 17 → i ≠ 21 → M1 52 i = M0 52 i) ∧ ((0 ≤ M1 52 17 ∧ M1 52 17 ≤ 5) ∧ Opn (gM M0) F (M0 62) (osM M1)) ∧ Sol (gM M0) (M0 62) (osM M1) (M1 66) (M1 52 21) ∧ NCl (dd (gM M0) (M0 62)) (AA (gM M0) (M0 62)) (Inl (osM M1)) ∧ (∀ h ∈ osM M1, 0 ≤ M1 66 h ∧ M1 66 h ≤ M1 52 21) ∧ M1 52 21 ≤ 327680000000000
theorem by_R {M : PM} {F : Int → Bool} {os : List Int} {p : Int → Int} {W h : Int} (S : MS M) (Op : Opn (gM M) F (M 62) os) (hW : 0 < W ∧ W ≤ 327680000000000) (hp : ∀ h ∈ os, 0 ≤ p h ∧ p h ≤ W) (hh : hs h) : R64 (by_ (gM M) (M 62) os p W h) := by
  have hb := bs_R S hh
  have h1 : -10000 * W ≤ bs (gM M) (M 62) h * W ∧ bs (gM M) (M 62) h * W ≤ 10000 * W := ⟨Int.mul_le_mul_of_nonneg_right hb.1 (by omega), Int.mul_le_mul_of_nonneg_right hb.2 (by omega)⟩
  have h2 : ∀ k, hs k → 0 ≤ (if Inl os k = true then AA (gM M) (M 62) k h * p k else 0) ∧ (if Inl os k = true then AA (gM M) (M 62) k h * p k else 0) ≤ 200 * W := by
    intro k hk
    split
    · rename_i hm
      have hm' := Inl_mem.mp hm
      have ho := Op.2 k hm'
      have hpk := hp k hm'
      have hB := S.1.2.2.1
      have hmo := S.1.2.2.2.2.1 k h (M 62 k) hk hh ho.2.2.1
      have h3 : 0 ≤ AA (gM M) (M 62) k h ∧ AA (gM M) (M 62) k h ≤ 200 := by
        unfold AA
        rw [if_pos ho.2.2.1.2]
        have h4 : 0 ≤ M 55 2 * mo M k h (M 62 k) ∧ M 55 2 * mo M k h (M 62 k) ≤ 10 * 20 := ⟨Int.mul_nonneg hB.1 hmo.1, Int.mul_le_mul hB.2 hmo.2 hmo.1 (by omega)⟩
        show 0 ≤ M 55 2 * mo M k h (M 62 k) ∧ M 55 2 * mo M k h (M 62 k) ≤ 200
        omega
      exact ⟨Int.mul_nonneg h3.1 hpk.1, Int.mul_le_mul h3.2 hpk.2 hpk.1 (by omega)⟩
    · exact ⟨by omega, by omega⟩
  have b0 := h2 0 (by omega); have b1 := h2 1 (by omega); have b2 := h2 2 (by omega); have b3 := h2 3 (by omega); have b4 := h2 4 (by omega)
  unfold by_
  simp only [s5]
  constructor <;> omega
/-- one that has something beyond has something due in its class -/
theorem new_due {g : Ck} {F : Int → Bool} {e : Int → Int} {os : List Int} {p : Int → Int} {W D h : Int} {X : Int → Int → Int} (O : Okc g) (L : Lvl e) (Op : Opn g F e os) (S : Sol g e os p W) (N : NCl (dd g e) (AA g e) (Inl os)) (hD : 0 < D) (Sg : Seg g e X D)
    (hX : ∀ h, hs h → F h = true → e h < 3 → rt g X D h ≤ 10 * yt g X h) (hh : hs h) (hF : F h = true) (he : e h < 3) (hm : h ∉ os) (hby : 0 < by_ g e os p W h) : 0 < due g h (e h) := by
  have hk : kl (e h) := ⟨(L h hh).1, he⟩
  have hd := due_nn O hh hk
  rcases Int.lt_or_le 0 (due g h (e h)) with q | q
  · exact q
  · have hW := S.1
    have hle := (sol_le O L Op S N hD Sg (fun h hm => hX h (Op.2 h hm).1 (Op.2 h hm).2.1 (Op.2 h hm).2.2.1.2)).2
    have h1 := xs_by (p := p) (W := W) O Op hh
    rw [if_neg (fun z => hm (Inl_mem.mp z))] at h1
    have h2 := hX h hh hF he
    have h3 : yt g (Xs g e os p W) h * D = yt g X h * W := by
      unfold yt
      rw [← s3_mul', ← s3_mul']
      refine s3_congr fun c hc => ?_
      by_cases hz : due g h c = 0
      · rw [hz]; simp
      · have hne : c ≠ e h := fun z => hz (by rw [z]; omega)
        by_cases hlt : c < e h
        · have : Xs g e os p W h c = W := by unfold Xs; rw [if_pos (Or.inl hlt)]
          rw [this, (Sg h c hh hc).1 hlt, Int.mul_assoc, Int.mul_assoc, Int.mul_comm W D]
        · have : Xs g e os p W h c = 0 := by unfold Xs; rw [if_neg (by omega), if_neg (fun z => hne z.1)]
          rw [this, (Sg h c hh hc).2.2.1 (by omega) hz]
          simp
    have h4 : gt g (Xs g e os p W) h * D ≤ gt g X h * W := by
      unfold gt
      rw [← s5_mul', ← s5_mul']
      refine s5_le fun k hk => ?_
      show s3 _ * D ≤ s3 _ * W
      rw [← s3_mul', ← s3_mul']
      refine s3_le fun c hc => ?_
      show ckO g k h c * Xs g e os p W k c * D ≤ ckO g k h c * X k c * W
      rw [Int.mul_assoc, Int.mul_assoc]
      exact Int.mul_le_mul_of_nonneg_left (hle k c hk hc) (O.2.2.2.1 k h c hk hh hc).1
    have h5 : rt g (Xs g e os p W) W h * D ≤ rt g X D h * W := by
      unfold rt
      have := Int.mul_le_mul_of_nonneg_left h4 O.2.1.1
      rw [Int.add_mul, Int.add_mul, Int.mul_assoc (ckB g), Int.mul_assoc (ckB g), Int.mul_assoc (ckA g * ckC g h) W D, Int.mul_assoc (ckA g * ckC g h) D W, Int.mul_comm W D]
      omega
    have h6 := Int.mul_le_mul_of_nonneg_right h2 (Int.le_of_lt hW)
    have h7 : (rt g (Xs g e os p W) W h - 10 * yt g (Xs g e os p W) h) * D ≤ 0 := by
      rw [Int.sub_mul, Int.mul_assoc, h3]
      rw [Int.mul_assoc] at h6
      omega
    have h8 := Int.mul_pos (show 0 < rt g (Xs g e os p W) W h - 10 * yt g (Xs g e os p W) h by omega) hD
    omega
theorem rem_mem {s : Int} : ∀ (n : Nat) (j k : Int), k ∈ remf s j n ↔ j ≤ k ∧ k < j + (n : Int) ∧ tb s k = true
  | 0, j, k => by simp [remf]; omega
  | n + 1, j, k => by
    rw [remf]
    by_cases q : tb s j = true
    · rw [if_pos q, List.mem_cons, rem_mem n (j + 1) k]
      constructor
      · rintro (rfl | h)
        · exact ⟨by omega, by omega, q⟩
        · exact ⟨by omega, by omega, h.2.2⟩
      · rintro ⟨h1, h2, h3⟩
        by_cases z : k = j
        · exact Or.inl z
        · exact Or.inr ⟨by omega, by omega, h3⟩
    · rw [if_neg q, rem_mem n (j + 1) k]
      constructor
      · rintro ⟨h1, h2, h3⟩
        exact ⟨by omega, by omega, h3⟩
      · rintro ⟨h1, h2, h3⟩
        have : k ≠ j := fun z => q (z ▸ h3)
        exact ⟨by omega, by omega, h3⟩
theorem rem_nodup {s : Int} : ∀ (n : Nat) (j : Int), (remf s j n).Nodup
  | 0, _ => List.nodup_nil
  | n + 1, j => by
    rw [remf]
    split
    · refine List.nodup_cons.mpr ⟨fun h => ?_, rem_nodup n (j + 1)⟩
      have := (rem_mem n (j + 1) j).mp h
      omega
    · exact rem_nodup n (j + 1)
theorem osM_of {M M' : PM} (h : M' 63 = M 63) (h17 : M' 52 17 = M 52 17) : osM M' = osM M := by
  unfold osM
  rw [h, h17]
theorem opl_congr {f f' : Int → Int} {m : Nat} (h : ∀ i : Int, 0 ≤ i → i < (m : Int) → f i = f' i) : opl f m = opl f' m := by
  unfold opl
  refine List.map_congr_left fun i hi => ?_
  have := List.mem_range.mp hi
  exact h i (by omega) (by omega)
/-- THE MODEL's opens: payments X by D lie above -/
theorem m_opens {K : Nat} {M : PM} {F : Int → Bool} {X : Int → Int → Int} {D : Int} {Q : Option PV → PM → Prop} (S : MS M) (hf : 0 ≤ M 52 13 ∧ M 52 13 < 32) (hF : ∀ h, hs h → F h = (tb (M 52 13) h && decide (h < M 55 0))) (hFn : ∀ h, hs h → tb (M 52 13) h = true → h < M 55 0) (hD : 0 < D) (Sg : Seg (gM M) (M 62) X D) (hX : ∀ h, hs h → F h = true → M 62 h < 3 → rt (gM M) X D h ≤ 10 * yt (gM M) X h)
    (hq : ∀ M', OI M M' F → (∀ h, hs h → F h = true → M 62 h < 3 → h ∉ osM M' → by_ (gM M) (M 62) (osM M') (M' 66) (M' 52 21) h ≤ 0) → Q none M') : Call (K + 11) jModel_opens [.inr (.inr 52)] P0 P0 M Q := by
  have B := S.1
  have hn := B.1
  have Og := gM_ok B S.2.1
  -- facts of a state on the way
  have hst : ∀ M1, OI M M1 F → MS M1 ∧ gM M1 = gM M ∧ M1 62 = M 62 ∧ M1 55 = M 55 ∧ M1 52 13 = M 52 13 ∧ OpM M1 F := by
    intro M1 I
    have h55 : M1 55 = M 55 := I.1 55 (by decide)
    have h61 : M1 61 = M 61 := I.1 61 (by decide)
    have h62 : M1 62 = M 62 := I.1 62 (by decide)
    have hg := gM_of h55 h61
    refine ⟨S.of h55 h61 h62, hg, h62, h55, I.2.1 13 (by decide) (by decide), I.2.2.1.1, ?_⟩
    rw [hg, h62]
    exact I.2.2.1.2
  have main : ∀ (n : Nat) (had : Int) (M1 : PM), OI M M1 F → R32 had → 6 ≤ M1 52 17 + (n : Int) → (M1 52 17 ≤ had → ∀ h, hs h → F h = true → M 62 h < 3 → h ∉ osM M1 → by_ (gM M) (M 62) (osM M1) (M1 66) (M1 52 21) h ≤ 0) → G none (K + 10 + 1) jModel_opens 12 [(0, .inr (.inr 52)), (1, .inl had)] [] P0 P0 M1 Q := by
    intro n
    induction n with
    | zero => intro had M1 I _ h6; have := I.2.2.1.1; omega
    | succ n ih =>
      intro had M1 I hR h6 hcl
      obtain ⟨S1, hg, h62, h55, h13, Op1⟩ := hst M1 I
      have hm := I.2.2.1.1
      have Op := I.2.2.1.2
      have Sl := I.2.2.2.1
      have N := I.2.2.2.2.1
      have hp := I.2.2.2.2.2.1
      have hWb := I.2.2.2.2.2.2
      refine g_m_opens_12 _ _ _ _ ⟨⟨by omega, by omega⟩, hR, fun c => hq M1 I (hcl c), fun c => ?_⟩
      -- the set
      have l29 : ∀ (n2 : Nat) (h st : Int), 0 ≤ h → h + (n2 : Int) = M 55 0 → ms st → (∀ k, mk6 k → (tb st k = true ↔ (k < h ∧ F k = true ∧ M 62 k < 3 ∧ k ∉ osM M1 ∧ 0 < by_ (gM M) (M 62) (osM M1) (M1 66) (M1 52 21) k))) →
          (∀ st', ms st' → (∀ k, mk6 k → (tb st' k = true ↔ (k < M 55 0 ∧ F k = true ∧ M 62 k < 3 ∧ k ∉ osM M1 ∧ 0 < by_ (gM M) (M 62) (osM M1) (M1 66) (M1 52 21) k))) → G none (K + 10 + 1) jModel_opens 96 [(0, .inr (.inr 52)), (1, .inl (M1 52 17)), (2, .inl st'), (3, .inl 0)] [] P0 P0 M1 Q) →
          G none (K + 10 + 1) jModel_opens 29 [(0, .inr (.inr 52)), (1, .inl (M1 52 17)), (2, .inl st), (3, .inl h)] [] P0 P0 M1 Q := by
        intro n2
        induction n2 with
        | zero =>
          intro h st h0 hn2 hms htb go
          refine g_m_opens_29 _ _ _ _ _ _ ⟨⟨by omega, by omega⟩, by rw [h55]; exact ⟨by omega, by omega⟩, fun _ => go st hms (by rw [← show h = M 55 0 by omega]; exact htb), fun q => absurd (by rw [h55]; omega) q⟩
        | succ n2 ih2 =>
          intro h st h0 hn2 hms htb go
          have hh : hs h := ⟨h0, by omega⟩
          have hor0 : bOr st 0 = st := by
            have h1 := bit_or hms (t := 0) ⟨by decide, by decide⟩
            refine bit_ext h1.1 hms fun j hj => ?_
            rw [h1.2 j hj, tb_0, Bool.or_false]
          have hskip : ¬ (F h = true ∧ M 62 h < 3 ∧ h ∉ osM M1 ∧ 0 < by_ (gM M) (M 62) (osM M1) (M1 66) (M1 52 21) h) → G none (K + 10 + 1) jModel_opens 29 [(0, .inr (.inr 52)), (1, .inl (M1 52 17)), (2, .inl (bOr st 0)), (3, .inl (h + 1))] [] P0 P0 M1 Q := by
            intro hno
            rw [hor0]
            refine ih2 (h + 1) st (by omega) (by omega) hms (fun k hk => ?_) go
            rw [htb k hk]
            constructor
            · rintro ⟨a, b⟩; exact ⟨by omega, b⟩
            · rintro ⟨a, b⟩
              refine ⟨?_, b⟩
              rcases Int.lt_or_le k h with z | z
              · exact z
              · exact absurd (show k = h by omega) (fun w => hno (w ▸ b))
          have htake : (F h = true ∧ M 62 h < 3 ∧ h ∉ osM M1 ∧ 0 < by_ (gM M) (M 62) (osM M1) (M1 66) (M1 52 21) h) → G none (K + 10 + 1) jModel_opens 29 [(0, .inr (.inr 52)), (1, .inl (M1 52 17)), (2, .inl (bOr st (bShl 1 h))), (3, .inl (h + 1))] [] P0 P0 M1 Q := by
            intro hyes
            have h1 := bit_one (k := h) ⟨h0, by omega⟩
            have h2 := bit_or hms h1.1
            refine ih2 (h + 1) _ (by omega) (by omega) h2.1 (fun k hk => ?_) go
            rw [h2.2 k hk, h1.2 k hk, Bool.or_eq_true, decide_eq_true_eq, htb k hk]
            constructor
            · rintro (⟨a, b⟩ | a)
              · exact ⟨by omega, b⟩
              · rw [a]; exact ⟨by omega, hyes⟩
            · rintro ⟨a, b⟩
              rcases Int.lt_or_le k h with z | z
              · exact Or.inl ⟨z, b⟩
              · exact Or.inr (by omega)
          have hFh : F h = tb (M 52 13) h := by rw [hF h hh, decide_eq_true (show h < M 55 0 by omega), Bool.and_true]
          refine g_m_opens_29 _ _ _ _ _ _ ⟨⟨by omega, by omega⟩, by rw [h55]; exact ⟨by omega, by omega⟩, fun q => absurd q (by rw [h55]; omega), fun _ => ?_⟩
          rw [h13]
          refine m_isIn ⟨by omega, by omega⟩ ⟨by omega, by omega⟩ ⟨b2i_R _, fun c1 => hskip (fun w => ?_), fun c1 => ?_⟩
          · rw [← hFh, b2i_0] at c1; rw [c1] at w; exact absurd w.1 (by simp)
          · have hFt : F h = true := by
              rw [hFh]
              cases q : tb (M 52 13) h
              · rw [q] at c1; exact absurd rfl c1
              · rfl
            rw [h62]
            have hL := S.2.2 h hh
            refine ⟨hh, ⟨by omega, by omega⟩, fun c2 => hskip (fun w => by omega), fun c2 => ?_⟩
            refine m_isOpen hm (fun i h1 h2 => by have := Op1.v h1 h2; exact ⟨by omega, by omega⟩) ⟨by omega, by omega⟩ ⟨b2i_R _, fun c3 => hskip (fun w => ?_), fun c3 => ?_⟩
            · have : Inl (osM M1) h = true := by
                cases q : Inl (osM M1) h
                · rw [q] at c3; exact absurd rfl c3
                · rfl
              exact w.2.2.1 (Inl_mem.mp this)
            · have hno : h ∉ osM M1 := fun w => by rw [Inl_mem.mpr w] at c3; exact absurd c3 (by decide)
              refine m_beyondAll S1 Op1 hh ?_
              rw [hg, h62]
              refine ⟨by_R S Op ⟨Sl.1, hWb⟩ hp hh, fun c4 => hskip (fun w => by omega), fun c4 => htake ⟨hFt, by omega, hno, by omega⟩⟩
      refine l29 (M 55 0).toNat 0 0 (by omega) (by omega) ⟨by decide, by decide⟩ (fun k hk => by rw [tb_0]; exact ⟨fun w => absurd w (by simp), fun w => absurd w.1 (by omega)⟩) (fun st hms htb => ?_)
      -- they are opened
      have hnew : ∀ k, tb st k = true → mk6 k → hs k ∧ F k = true ∧ kl (M 62 k) ∧ 0 < due (gM M) k (M 62 k) ∧ k ∉ osM M1 ∧ 0 < by_ (gM M) (M 62) (osM M1) (M1 66) (M1 52 21) k := by
        intro k hk hk6
        obtain ⟨a1, a2, a3, a4, a5⟩ := (htb k hk6).mp hk
        have hh : hs k := ⟨hk6.1, by omega⟩
        exact ⟨hh, a2, ⟨(S.2.2 k hh).1, a3⟩, new_due Og S.2.2 Op Sl N hD Sg hX hh a2 a3 a4 a5, a4, a5⟩
      have hOpn : ∀ j : Int, 0 ≤ j → j ≤ 5 → Opn (gM M) F (M 62) (osM M1 ++ remf st 0 j.toNat) := by
        intro j h0 h5
        refine ⟨List.nodup_append.mpr ⟨Op.1, rem_nodup _ _, fun a ha b hb hab => ?_⟩, fun k hk => ?_⟩
        · have := (rem_mem _ _ b).mp hb
          exact (hnew b this.2.2 ⟨by omega, by omega⟩).2.2.2.2.1 (hab ▸ ha)
        · rcases List.mem_append.mp hk with z | z
          · exact Op.2 k z
          · have := (rem_mem _ _ k).mp z
            have hz := hnew k this.2.2 ⟨by omega, by omega⟩
            exact ⟨hz.1, hz.2.1, hz.2.2.1, hz.2.2.2.1⟩
      have l96 : ∀ (n2 : Nat) (h : Int) (M2 : PM), 0 ≤ h → h + (n2 : Int) = M 55 0 → Ag [63, 52] M1 M2 → (∀ i, i ≠ 17 → M2 52 i = M1 52 i) → M2 52 17 = ((osM M1 ++ remf st 0 h.toNat).length : Int) → osM M2 = osM M1 ++ remf st 0 h.toNat →
          G none (K + 10 + 1) jModel_opens 96 [(0, .inr (.inr 52)), (1, .inl (M1 52 17)), (2, .inl st), (3, .inl h)] [] P0 P0 M2 Q := by
        intro n2
        induction n2 with
        | zero =>
          intro h M2 h0 hn2 hA h52 h17 hos
          have he : h = M 55 0 := by omega
          have g55 : M2 55 = M 55 := (hA 55 (by decide)).trans h55
          have g61 : M2 61 = M 61 := (hA 61 (by decide)).trans (I.1 61 (by decide))
          have g62 : M2 62 = M 62 := (hA 62 (by decide)).trans h62
          have S2 := S.of g55 g61 g62
          have hg2 := gM_of g55 g61
          have Opn2 := hOpn h h0 (by omega)
          rw [← hos] at Opn2
          have hlen := os_len _ Opn2.1 (fun k hk => (Opn2.2 k hk).1)
          have hln : (osM M2).length = (osM M1 ++ remf st 0 h.toNat).length := by rw [hos]
          have hm2 : 0 ≤ M2 52 17 ∧ M2 52 17 ≤ 5 := by rw [h17, ← hln]; omega
          refine g_m_opens_96 _ _ _ _ _ _ ⟨⟨by omega, by omega⟩, by rw [g55]; exact ⟨by omega, by omega⟩, fun _ => ?_, fun q => absurd (by rw [g55]; omega) q⟩
          refine m_solves (F := F) S2 ⟨hm2, by rw [hg2, g62]; exact Opn2⟩ (fun M3 hA3 h52' hW3 hp3 => ?_)
          rw [hg2, g62] at hW3 hp3
          have hsub : ∀ k ∈ osM M1, k ∈ osM M2 := fun k hk => by rw [hos]; exact List.mem_append_left _ hk
          have hnw : ∀ k ∈ osM M2, k ∉ osM M1 → 0 < by_ (gM M) (M 62) (osM M1) (M1 66) (M1 52 21) k := by
            intro k hk hno
            rw [hos] at hk
            rcases List.mem_append.mp hk with z | z
            · exact absurd z hno
            · have := (rem_mem _ _ k).mp z
              exact (hnew k this.2.2 ⟨by omega, by omega⟩).2.2.2.2.2
          have N2 := nc_ext Og S.2.2 Op Sl hp N Opn2 hD Sg hX hnw
          obtain ⟨Sd, hWd⟩ := sol_det Og S.2.2 Opn2 N2
          have hos3 : osM M3 = osM M2 := osM_of (hA3 63 (by decide)) (h52' 17 (by decide))
          have S3 : Sol (gM M) (M 62) (osM M2) (M3 66) (M3 52 21) := by
            refine ⟨by rw [hW3]; exact Sd.1, fun h hm => ?_⟩
            have e := Sd.2 h hm
            have e2 : by_ (gM M) (M 62) (osM M2) (M3 66) (M3 52 21) h = by_ (gM M) (M 62) (osM M2) (ev (osM M2) (Xv (Rw (gM M) (M 62)) (-1) (osM M2))) (Dt (Rw (gM M) (M 62)) (osM M2)) h := by
              unfold by_
              rw [hW3]
              congr 1
              refine s5_congr fun k _ => ?_
              by_cases q : Inl (osM M2) k = true
              · rw [if_pos q, if_pos q, hp3 k (Inl_mem.mp q)]
              · rw [if_neg q, if_neg q]
            rw [e2, ← e, hp3 h hm]
          have hmono := sol_mono Og S.2.2 Opn2 hsub Sl S3 N2 hnw
          have hup := (sol_le Og S.2.2 Opn2 S3 N2 hD Sg (fun h hm => hX h (Opn2.2 h hm).1 (Opn2.2 h hm).2.1 (Opn2.2 h hm).2.2.1.2)).1
          have hW3p := S3.1
          have hp' : ∀ h ∈ osM M2, 0 ≤ M3 66 h ∧ M3 66 h ≤ M3 52 21 := by
            intro h hm
            constructor
            · by_cases q : h ∈ osM M1
              · have h1 := hmono.1 h q
                have h2 := Int.mul_nonneg (hp h q).1 (Int.le_of_lt hW3p)
                rcases Int.lt_or_le (M3 66 h) 0 with z | z
                · have := Int.mul_neg_of_neg_of_pos z Sl.1; omega
                · exact z
              · exact Int.le_of_lt (hmono.2 h hm q)
            · have h1 := hup h hm
              have h2 := (Sg h (M 62 h) (Opn2.2 h hm).1 (Opn2.2 h hm).2.2.1).2.2.2.2
              have h3 := Int.mul_le_mul_of_nonneg_right h2 (Int.le_of_lt hW3p)
              rw [Int.mul_comm D] at h3
              exact Int.le_of_mul_le_mul_right (Int.le_trans h1 h3) hD
          have I3 : OI M M3 F := by
            refine ⟨fun a ha => ?_, fun i h1 h2 => ?_, ⟨?_, ?_⟩, ?_, ?_, ?_, ?_⟩
            · rw [hA3 a (fun z => ha (by revert z; simp; omega)), hA a (fun z => ha (by revert z; simp; omega)), I.1 a ha]
            · rw [h52' i h2, h52 i h1, I.2.1 i h1 h2]
            · rw [h52' 17 (by decide)]; exact hm2
            · rw [hos3]; exact Opn2
            · rw [hos3]; exact S3
            · rw [hos3]; exact N2
            · rw [hos3]; exact hp'
            · rw [hW3]; exact hWd
          have h17' : M3 52 17 = M2 52 17 := h52' 17 (by decide)
          have hl1 : M1 52 17 = ((osM M1).length : Int) := by
            unfold osM
            rw [opl_len]
            omega
          by_cases hem : remf st 0 h.toNat = []
          · -- nothing new: the end
            have hos2 : osM M2 = osM M1 := by rw [hos, hem, List.append_nil]
            have hcl3 : ∀ h, hs h → F h = true → M 62 h < 3 → h ∉ osM M3 → by_ (gM M) (M 62) (osM M3) (M3 66) (M3 52 21) h ≤ 0 := by
              intro k hk hFk hek hmk
              rw [hos3, hos2] at hmk ⊢
              rw [hos2] at S3 hmono
              have h1 : ¬ 0 < by_ (gM M) (M 62) (osM M1) (M1 66) (M1 52 21) k := by
                intro hpos
                have : k < M 55 0 := by
                  have := hF k hk
                  rw [hFk] at this
                  have := this.symm
                  simp only [Bool.and_eq_true, decide_eq_true_eq] at this
                  exact this.2
                have htk := (htb k ⟨hk.1, by omega⟩).mpr ⟨this, hFk, hek, hmk, hpos⟩
                have : k ∈ remf st 0 h.toNat := (rem_mem _ _ k).mpr ⟨hk.1, by omega, htk⟩
                rw [hem] at this
                exact absurd this (by simp)
              have h2 := sol_uniq Og S.2.2 Op Sl S3 N
              have h3 := by_diff (g := gM M) (e := M 62) (os0 := osM M1) (os := osM M1) (p0 := M1 66) (p := M3 66) (W0 := M1 52 21) (W := M3 52 21) (h := k) (fun _ z => z)
              have h4 : s5 (fun k' => if Inl (osM M1) k' = true then AA (gM M) (M 62) k' k * (M3 66 k' * M1 52 21 - (if Inl (osM M1) k' = true then M1 66 k' else 0) * M3 52 21) else 0) = 0 := by
                rw [s5_congr (g := fun _ => 0) (fun k' _ => by
                  by_cases q : Inl (osM M1) k' = true
                  · have := h2 k' (Inl_mem.mp q)
                    rw [if_pos q, if_pos q, show M3 66 k' * M1 52 21 - M1 66 k' * M3 52 21 = 0 by omega, Int.mul_zero]
                  · rw [if_neg q])]
                rfl
              rw [h4] at h3
              have h5 : by_ (gM M) (M 62) (osM M1) (M1 66) (M1 52 21) k * M3 52 21 ≤ 0 := by
                have := Int.mul_nonneg (show 0 ≤ - by_ (gM M) (M 62) (osM M1) (M1 66) (M1 52 21) k by omega) (Int.le_of_lt hW3p)
                rw [Int.neg_mul] at this
                omega
              rcases Int.lt_or_le 0 (by_ (gM M) (M 62) (osM M1) (M3 66) (M3 52 21) k) with z | z
              · have := Int.mul_pos z Sl.1; omega
              · exact z
            have hlast : M3 52 17 ≤ M1 52 17 := by rw [h17', h17, hem, List.append_nil, hl1]; omega
            refine g_m_opens_12 _ _ _ _ ⟨by rw [h17']; exact ⟨by omega, by omega⟩, ⟨by omega, by omega⟩, fun _ => hq M3 I3 hcl3, fun q => absurd hlast q⟩
          · have hgr : M1 52 17 < M3 52 17 := by
              rw [h17', h17, hl1, List.length_append]
              have := List.length_pos_iff.mpr hem
              omega
            have hge : M1 52 17 ≤ M3 52 17 := by omega
            exact ih (M1 52 17) M3 I3 ⟨by omega, by omega⟩ (by omega) (fun q => absurd q (by omega))
        | succ n2 ih2 =>
          intro h M2 h0 hn2 hA h52 h17 hos
          have g55 : M2 55 = M 55 := (hA 55 (by decide)).trans h55
          have hst32 : 0 ≤ st ∧ st < 32 := by
            refine ⟨hms.1, ?_⟩
            rcases Int.lt_or_le st 32 with z | z
            · exact z
            · have h1 : tb st 5 = true := by
                have : ∀ i : Fin 64, 32 ≤ i.val → tb ((i.val : Nat) : Int) 5 = true := by decide +kernel
                have := this ⟨st.toNat, by have := hms.2; omega⟩ (by show 32 ≤ st.toNat; omega)
                rwa [show (((⟨st.toNat, by have := hms.2; omega⟩ : Fin 64).val : Nat) : Int) = st from Int.toNat_of_nonneg hms.1] at this
              have := ((htb 5 ⟨by decide, by decide⟩).mp h1).1
              omega
          have hnx := rem_next hst32 ⟨h0, show h < 5 by omega⟩
          refine g_m_opens_96 _ _ _ _ _ _ ⟨⟨by omega, by omega⟩, by rw [g55]; exact ⟨by omega, by omega⟩, fun q => absurd q (by rw [g55]; omega), fun _ => ?_⟩
          refine m_isIn hms ⟨by omega, by omega⟩ ⟨b2i_R _, fun c1 => ?_, fun c1 => ?_⟩
          · rw [b2i_0] at c1
            rw [c1, if_neg (by simp), List.append_nil] at hnx
            exact ih2 (h + 1) M2 (by omega) (by omega) hA h52 (by rw [hnx]; exact h17) (by rw [hnx]; exact hos)
          · have ht : tb st h = true := by
              cases q : tb st h
              · rw [q] at c1; exact absurd rfl c1
              · rfl
            rw [ht, if_pos rfl] at hnx
            have Opn2 := hOpn (h + 1) (by omega) (by omega)
            have hlen := os_len _ Opn2.1 (fun k hk => (Opn2.2 k hk).1)
            rw [hnx, ← List.append_assoc, List.length_append] at hlen
            simp only [List.length_cons, List.length_nil] at hlen
            have hln : (osM M2).length = (osM M1 ++ remf st 0 h.toNat).length := by rw [hos]
            refine ⟨⟨by omega, by omega⟩, ?_⟩
            refine ih2 (h + 1) _ (by omega) (by omega) ((hA.set (by decide)).set (by decide)) (fun i hi => ?_) ?_ ?_
            · have : (mset (mset M2 63 (M2 52 17) h) 52 17 (M2 52 17 + 1)) 52 i = M2 52 i := by simp [mset, hi]
              rw [this, h52 i hi]
            · rw [mset_eq, h17, hnx, ← List.append_assoc, List.length_append (as := osM M1 ++ remf st 0 h.toNat)]
              simp
            · unfold osM at hos ⊢
              rw [mset_eq, show (M2 52 17 + 1).toNat = (M2 52 17).toNat + 1 by omega, opl_succ, hnx, ← List.append_assoc]
              congr 1
              · rw [← hos]
                refine opl_congr fun i h1 h2 => ?_
                simp [mset, show i ≠ M2 52 17 by omega]
              · rw [show ((((M2 52 17).toNat : Nat)) : Int) = M2 52 17 by omega]
                simp [mset]
      refine l96 (M 55 0).toNat 0 M1 (by omega) (by omega) (Ag.rf _ _) (fun _ _ => rfl) ?_ ?_
      · show _ = ((osM M1 ++ remf st 0 0).length : Int)
        simp only [remf, List.append_nil]
        unfold osM
        rw [opl_len]
        omega
      · show _ = osM M1 ++ remf st 0 0
        simp [remf]
  refine c_m_opens (K + 10) M Q ?_
  have hM0 : OI M (mset (mset M 52 17 0) 52 21 1) F := by
    have h17 : (mset (mset M 52 17 0) 52 21 1) 52 17 = 0 := by simp [mset]
    have h21 : (mset (mset M 52 17 0) 52 21 1) 52 21 = 1 := by simp [mset]
    have hos : osM (mset (mset M 52 17 0) 52 21 1) = [] := by
      unfold osM
      rw [h17]
      rfl
    refine ⟨((Ag.rf _ _).set (by decide)).set (by decide), fun i h1 h2 => by simp [mset, h1, h2], ⟨by rw [h17]; decide, ?_⟩, ?_, ?_, ?_, by rw [h21]; decide⟩
    · rw [hos]; exact ⟨List.nodup_nil, fun k hk => absurd hk (by simp)⟩
    · rw [hos, h21]; exact ⟨by decide, fun k hk => absurd hk (by simp)⟩
    · rw [hos]
      intro R hR C
      obtain ⟨k, hk, hRk⟩ := C.1
      have := hR k hk hRk
      simp [Inl] at this
    · rw [hos]; intro k hk; exact absurd hk (by simp)
  exact main 6 (-1) _ hM0 (by decide) (by simp [mset]) (fun q => absurd q (by simp [mset]))
