/-! THE MODEL's agrees: the loop of opens and endsEarlier ends with the greatest payments that agree -/
def Neg (g : Ck) (F : Int → Bool) (e : Int → Int) (X : Int → Int → Int) (D : Int) : Prop := ∀ R : Int → Bool, (∀ h, hs h → R h = true → F h = true ∧ e h < 3) → Clo (dd g e) (AA g e) R → s5 (fun h => if R h = true then rt g X D h - 10 * yt g X h else 0) < 0
def AI (M : PM) (F : Int → Bool) (X : Int → Int → Int) (D : Int) : Prop := MS M ∧ (0 ≤ M 52 13 ∧ M 52 13 < 32) ∧ (∀ h, hs h → F h = (tb (M 52 13) h && decide (h < M 55 0))) ∧ (∀ h, hs h → tb (M 52 13) h = true → h < M 55 0) ∧ 0 < D ∧ Seg (gM M) (M 62) X D ∧ Top (gM M) F X D ∧ (∀ h, hs h → F h = true → M 62 h < 3 → rt (gM M) X D h ≤ 10 * yt (gM M) X h) ∧ Neg (gM M) F (M 62) X D ∧ ∀ h, hs h → F h = false → M 62 h = 3
/-- what the solver leaves -/
def Done (M M' : PM) (F : Int → Bool) : Prop := Ag [62, 63, 64, 65, 66, 52] M M' ∧ (∀ i, i ≠ 17 → i ≠ 21 → M' 52 i = M 52 i) ∧ MS M' ∧ OpM M' F ∧ (0 < M' 52 21 ∧ M' 52 21 ≤ 327680000000000) ∧ (∀ h ∈ osM M', 0 ≤ M' 66 h ∧ M' 66 h ≤ M' 52 21) ∧ (∀ h, hs h → F h = false → M' 62 h = 3) ∧ GS (gM M) F (Xs (gM M) (M' 62) (osM M') (M' 66) (M' 52 21)) (M' 52 21) ∧ ∀ h, hs h → F h = true → M' 62 h < 3 → rt (gM M) (Xs (gM M) (M' 62) (osM M') (M' 66) (M' 52 21)) (M' 52 21) h = 10 * yt (gM M) (Xs (gM M) (M' 62) (osM M') (M' 66) (M' 52 21)) h
theorem s5_scale {f : Int → Int} {R : Int → Bool} {D : Int} : s5 (fun h => if R h = true then f h * D else 0) = s5 (fun h => if R h = true then f h else 0) * D := by
  rw [← s5_mul']
  refine s5_congr fun h _ => ?_
  split
  · rfl
  · simp
/-- after opens: the new payments -/
theorem opens_top {g : Ck} {F : Int → Bool} {e : Int → Int} {X : Int → Int → Int} {D : Int} {os : List Int} {p : Int → Int} {W : Int} (O : Okc g) (L : Lvl e) (hD : 0 < D) (Sg : Seg g e X D) (T : Top g F X D) (he : ∀ h, hs h → F h = false → e h = 3) (P2 : ∀ h, hs h → F h = true → e h < 3 → rt g X D h ≤ 10 * yt g X h) (P4 : Neg g F e X D)
    (Op : Opn g F e os) (Sl : Sol g e os p W) (N : NCl (dd g e) (AA g e) (Inl os)) (hp : ∀ h ∈ os, 0 ≤ p h ∧ p h ≤ W) (hcl : ∀ h, hs h → F h = true → e h < 3 → h ∉ os → by_ g e os p W h ≤ 0) :
    Seg g e (Xs g e os p W) W ∧ Top g F (Xs g e os p W) W ∧ (∀ h, hs h → F h = true → e h < 3 → rt g (Xs g e os p W) W h ≤ 10 * yt g (Xs g e os p W) h) ∧ Neg g F e (Xs g e os p W) W := by
  have hW := Sl.1
  have Sg' := xs_seg hW Op hp
  have hle := (sol_le O L Op Sl N hD Sg (fun h hm => P2 h (Op.2 h hm).1 (Op.2 h hm).2.1 (Op.2 h hm).2.2.1.2)).2
  have P2' : ∀ h, hs h → F h = true → e h < 3 → rt g (Xs g e os p W) W h ≤ 10 * yt g (Xs g e os p W) h := by
    intro h hh hF h3
    by_cases q : h ∈ os
    · rw [Sl.rest O Op q]; omega
    · have h1 := xs_by (p := p) (W := W) O Op hh
      rw [if_neg (fun z => q (Inl_mem.mp z))] at h1
      have := hcl h hh hF h3 q
      omega
  have P4' : Neg g F e (Xs g e os p W) W := by
    intro R hR C
    have h1 := P4 R hR C
    have h2 := phi_le O (fun k hk q => ⟨(L k hk).1, (hR k hk q).2⟩) Sg Sg' C hle
    rw [s5_scale, s5_scale] at h2
    have h3 := Int.mul_neg_of_neg_of_pos h1 hW
    rcases Int.lt_or_le (s5 (fun h => if R h = true then rt g (Xs g e os p W) W h - 10 * yt g (Xs g e os p W) h else 0)) 0 with z | z
    · exact z
    · have := Int.mul_nonneg z (Int.le_of_lt hD)
      omega
  refine ⟨Sg', low_top O hD hW T Sg Sg' hle L he P2 P2' (fun R hR C _ h2 _ => ?_), P2', P4'⟩
  have h3 := P4' R hR C
  rw [s5_congr (g := fun _ => 0) (fun h hh => by
    by_cases q : R h = true
    · rw [if_pos q, h2 h hh q]; omega
    · rw [if_neg q])] at h3
  simp [s5] at h3
theorem m_agloop {F : Int → Bool} {K : Nat} {r : Int} {Q : Option PV → PM → Prop} : ∀ (n : Nat) (M : PM) (X : Int → Int → Int) (D : Int), AI M F X D → s5 (M 62) ≤ (n : Int) →
    (∀ M', Done M M' F → G none (K + 12 + 1) jModel_agrees 39 [(0, .inr (.inr 52)), (1, .inl r), (2, .inr (.inl (M' 52 21))), (4, .inl 0)] [] P0 P0 M' Q) → G none (K + 12 + 1) jModel_agrees 20 [(0, .inr (.inr 52)), (1, .inl r)] [] P0 P0 M Q := by
  intro n
  induction n with
  | zero =>
    intro M X D I hs0 go
    obtain ⟨S, hf, hF, hFn, hD, Sg, T, P2, P4, he⟩ := I
    have Og := gM_ok S.1 S.2.1
    refine g_m_agrees_20 _ _ _ _ (m_opens S hf hF hFn hD Sg P2 (fun M1 I1 hcl => ?_))
    have h55 : M1 55 = M 55 := I1.1 55 (by decide)
    have h61 : M1 61 = M 61 := I1.1 61 (by decide)
    have h62 : M1 62 = M 62 := I1.1 62 (by decide)
    have hg := gM_of h55 h61
    have h13 : M1 52 13 = M 52 13 := I1.2.1 13 (by decide) (by decide)
    have S1 := S.of h55 h61 h62
    have O1 : OpM M1 F := ⟨I1.2.2.1.1, by rw [hg, h62]; exact I1.2.2.1.2⟩
    have hW : 0 < M1 52 21 ∧ M1 52 21 ≤ 327680000000000 := ⟨I1.2.2.2.1.1, I1.2.2.2.2.2.2⟩
    have hp := I1.2.2.2.2.2.1
    obtain ⟨Sg', T', P2', P4'⟩ := opens_top Og S.2.2 hD Sg T he P2 P4 I1.2.2.1.2 I1.2.2.2.1 I1.2.2.2.2.1 hp hcl
    have hz : ∀ h, hs h → M 62 h = 0 := s5_nn0 (fun k hk => (S.2.2 k hk).1) hs0
    refine m_endsEarlier S1 (by rw [h13]; exact hf) (by rw [h13, h55]; exact hF) O1 hW hp (fun hno => ?_) (fun M2 hA hex hlow => ?_)
    · refine ⟨by decide, fun c => absurd rfl c, fun _ => go M1 ⟨I1.1.mono (by decide), I1.2.1, S1, O1, hW, hp, by rw [h62]; exact he, ?_⟩⟩
      rw [h62]
      have hge : ∀ h, hs h → F h = true → 10 * yt (gM M) (Xs (gM M) (M 62) (osM M1) (M1 66) (M1 52 21)) h ≤ rt (gM M) (Xs (gM M) (M 62) (osM M1) (M1 66) (M1 52 21)) (M1 52 21) h := by
        intro h hh hFh
        by_cases q : h ∈ osM M1
        · rw [I1.2.2.2.1.rest Og I1.2.2.1.2 q]; omega
        · have h1 := xs_by (p := M1 66) (W := M1 52 21) Og I1.2.2.1.2 hh
          rw [if_neg (fun z => q (Inl_mem.mp z))] at h1
          have := hno h hh
          unfold Erl at this
          rw [hg, h62] at this
          have : ¬ by_ (gM M) (M 62) (osM M1) (M1 66) (M1 52 21) h < 0 := fun z => this ⟨hFh, q, z⟩
          omega
      exact ⟨⟨Sg'.sub hW.1 hge, T'⟩, fun h hh hFh h3 => by
        have := hge h hh hFh
        have := P2' h hh hFh h3
        omega⟩
    · obtain ⟨h, hh, hE⟩ := hex
      have := (hlow h hh).1 hE
      have := hz h hh
      rw [h62] at *
      omega
  | succ n ih =>
    intro M X D I hs0 go
    obtain ⟨S, hf, hF, hFn, hD, Sg, T, P2, P4, he⟩ := I
    have Og := gM_ok S.1 S.2.1
    refine g_m_agrees_20 _ _ _ _ (m_opens S hf hF hFn hD Sg P2 (fun M1 I1 hcl => ?_))
    have h55 : M1 55 = M 55 := I1.1 55 (by decide)
    have h61 : M1 61 = M 61 := I1.1 61 (by decide)
    have h62 : M1 62 = M 62 := I1.1 62 (by decide)
    have hg := gM_of h55 h61
    have h13 : M1 52 13 = M 52 13 := I1.2.1 13 (by decide) (by decide)
    have S1 := S.of h55 h61 h62
    have O1 : OpM M1 F := ⟨I1.2.2.1.1, by rw [hg, h62]; exact I1.2.2.1.2⟩
    have hW : 0 < M1 52 21 ∧ M1 52 21 ≤ 327680000000000 := ⟨I1.2.2.2.1.1, I1.2.2.2.2.2.2⟩
    have hp := I1.2.2.2.2.2.1
    obtain ⟨Sg', T', P2', P4'⟩ := opens_top Og S.2.2 hD Sg T he P2 P4 I1.2.2.1.2 I1.2.2.2.1 I1.2.2.2.2.1 hp hcl
    refine m_endsEarlier S1 (by rw [h13]; exact hf) (by rw [h13, h55]; exact hF) O1 hW hp (fun hno => ?_) (fun M2 hA hex hlow => ?_)
    · refine ⟨by decide, fun c => absurd rfl c, fun _ => go M1 ⟨I1.1.mono (by decide), I1.2.1, S1, O1, hW, hp, by rw [h62]; exact he, ?_⟩⟩
      rw [h62]
      have hge : ∀ h, hs h → F h = true → 10 * yt (gM M) (Xs (gM M) (M 62) (osM M1) (M1 66) (M1 52 21)) h ≤ rt (gM M) (Xs (gM M) (M 62) (osM M1) (M1 66) (M1 52 21)) (M1 52 21) h := by
        intro h hh hFh
        by_cases q : h ∈ osM M1
        · rw [I1.2.2.2.1.rest Og I1.2.2.1.2 q]; omega
        · have h1 := xs_by (p := M1 66) (W := M1 52 21) Og I1.2.2.1.2 hh
          rw [if_neg (fun z => q (Inl_mem.mp z))] at h1
          have := hno h hh
          unfold Erl at this
          rw [hg, h62] at this
          have : ¬ by_ (gM M) (M 62) (osM M1) (M1 66) (M1 52 21) h < 0 := fun z => this ⟨hFh, q, z⟩
          omega
      exact ⟨⟨Sg'.sub hW.1 hge, T'⟩, fun h hh hFh h3 => by
        have := hge h hh hFh
        have := P2' h hh hFh h3
        omega⟩
    · refine ⟨by decide, fun _ => ?_, fun c => absurd c (by decide)⟩
      -- the next level
      have k55 : M2 55 = M 55 := (hA 55 (by decide)).trans h55
      have k61 : M2 61 = M 61 := (hA 61 (by decide)).trans h61
      have k52 : M2 52 = M1 52 := hA 52 (by decide)
      have kg := gM_of k55 k61
      have hErl : ∀ h, Erl M1 F h ↔ (F h = true ∧ h ∉ osM M1 ∧ by_ (gM M) (M 62) (osM M1) (M1 66) (M1 52 21) h < 0) := fun h => by
        unfold Erl
        rw [hg, h62]
      have hlv : ∀ h, hs h → (Erl M1 F h → (0 ≤ M2 62 h ∧ M2 62 h < M 62 h) ∧ due (gM M) h (M2 62 h) ≠ 0 ∧ ∀ c, M2 62 h < c → c < M 62 h → due (gM M) h c = 0) ∧ (¬ Erl M1 F h → M2 62 h = M 62 h) := by
        intro h hh
        have := hlow h hh
        unfold Lowd at this
        rw [h62, md_of h55] at this
        exact this
      have hL2 : Lvl (M2 62) := by
        intro h hh
        have h1 := hlv h hh
        have h2 := S.2.2 h hh
        rcases Classical.em (Erl M1 F h) with q | q
        · have := h1.1 q; omega
        · have := h1.2 q; omega
      have S2 : MS M2 := ⟨S.1.of k55, by rw [k61]; exact S.2.1, hL2⟩
      have hrest : ∀ h, hs h → Erl M1 F h → rt (gM M) (Xs (gM M) (M 62) (osM M1) (M1 66) (M1 52 21)) (M1 52 21) h < 10 * yt (gM M) (Xs (gM M) (M 62) (osM M1) (M1 66) (M1 52 21)) h := by
        intro h hh hE
        have hE' := (hErl h).mp hE
        have h1 := xs_by (p := M1 66) (W := M1 52 21) Og I1.2.2.1.2 hh
        rw [if_neg (fun z => hE'.2.1 (Inl_mem.mp z))] at h1
        omega
      have I2 : AI M2 F (Xs (gM M) (M 62) (osM M1) (M1 66) (M1 52 21)) (M1 52 21) := by
        refine ⟨S2, by rw [k52, h13]; exact hf, by rw [k52, h13, k55]; exact hF, by rw [k52, h13, k55]; exact hFn, hW.1, ?_, by rw [kg]; exact T', ?_, ?_, ?_⟩
        · rw [kg]
          intro h c hh hc
          have h0 := Sg' h c hh hc
          refine ⟨fun q => ?_, h0.2.1, fun q hd => ?_, h0.2.2.2⟩
          · rcases Classical.em (Erl M1 F h) with z | z
            · have := (hlv h hh).1 z
              exact h0.1 (by omega)
            · rw [(hlv h hh).2 z] at q
              exact h0.1 q
          · rcases Classical.em (Erl M1 F h) with z | z
            · have h1 := (hlv h hh).1 z
              rcases Int.lt_or_le c (M 62 h) with y | y
              · exact absurd (h1.2.2 c q y) hd
              · unfold Xs
                rw [if_neg (by omega), if_neg (fun w => ((hErl h).mp z).2.1 (Inl_mem.mp w.2))]
            · rw [(hlv h hh).2 z] at q
              exact h0.2.2.1 q hd
        · rw [kg]
          intro h hh hFh h3
          rcases Classical.em (Erl M1 F h) with z | z
          · exact Int.le_of_lt (hrest h hh z)
          · rw [(hlv h hh).2 z] at h3
            exact P2' h hh hFh h3
        · rw [kg]
          intro R hR C
          by_cases hsome : ∃ h, hs h ∧ R h = true ∧ Erl M1 F h
          · obtain ⟨h, hh, hRh, hE⟩ := hsome
            have hle : ∀ k, hs k → (if R k = true then rt (gM M) (Xs (gM M) (M 62) (osM M1) (M1 66) (M1 52 21)) (M1 52 21) k - 10 * yt (gM M) (Xs (gM M) (M 62) (osM M1) (M1 66) (M1 52 21)) k else 0) ≤ 0 := by
              intro k hk
              split
              · rename_i hRk
                rcases Classical.em (Erl M1 F k) with z | z
                · have := hrest k hk z; omega
                · have h3 := (hR k hk hRk).2
                  rw [(hlv k hk).2 z] at h3
                  have := P2' k hk (hR k hk hRk).1 h3
                  omega
              · omega
            rcases Int.lt_or_le (s5 (fun k => if R k = true then rt (gM M) (Xs (gM M) (M 62) (osM M1) (M1 66) (M1 52 21)) (M1 52 21) k - 10 * yt (gM M) (Xs (gM M) (M 62) (osM M1) (M1 66) (M1 52 21)) k else 0)) 0 with z | z
            · exact z
            · have hn : s5 (fun k => - (if R k = true then rt (gM M) (Xs (gM M) (M 62) (osM M1) (M1 66) (M1 52 21)) (M1 52 21) k - 10 * yt (gM M) (Xs (gM M) (M 62) (osM M1) (M1 66) (M1 52 21)) k else 0)) ≤ 0 := by
                rw [s5_neg]; omega
              have := s5_nn0 (fun k hk => by have := hle k hk; omega) hn h hh
              rw [if_pos hRh] at this
              have := hrest h hh hE
              omega
          · have hsame : ∀ k, hs k → R k = true → M2 62 k = M 62 k := fun k hk hRk => (hlv k hk).2 fun z => hsome ⟨k, hk, hRk, z⟩
            refine P4' R (fun k hk hRk => ⟨(hR k hk hRk).1, by rw [← hsame k hk hRk]; exact (hR k hk hRk).2⟩) ⟨C.1, fun k hk hRk => ?_⟩
            have h1 := C.2 k hk hRk
            have e1 : dd (gM M) (M2 62) k = dd (gM M) (M 62) k := by unfold dd; rw [hsame k hk hRk]
            have e2 : s5 (fun h => if R h = true then AA (gM M) (M2 62) k h else 0) = s5 (fun h => if R h = true then AA (gM M) (M 62) k h else 0) := by
              refine s5_congr fun h _ => ?_
              split
              · unfold AA; rw [hsame k hk hRk]
              · rfl
            rw [e1, e2] at h1
            exact h1
        · intro h hh hFh
          rw [(hlv h hh).2 fun z => by have := z.1; rw [hFh] at this; exact absurd this (by simp)]
          exact he h hh hFh
      have hdec : s5 (M2 62) ≤ (n : Int) := by
        obtain ⟨h, hh, hE⟩ := hex
        have hle : ∀ k, hs k → 0 ≤ M 62 k - M2 62 k := fun k hk => by
          rcases Classical.em (Erl M1 F k) with z | z
          · have := (hlv k hk).1 z; omega
          · have := (hlv k hk).2 z; omega
        have h1 := s5_ge1 hle hh
        rw [s5_sub] at h1
        have := (hlv h hh).1 hE
        omega
      refine ih M2 _ _ I2 hdec (fun M3 hD3 => go M3 ?_)
      obtain ⟨d1, d2, d3, d4, d5, d6, d7, d8, d9⟩ := hD3
      refine ⟨fun a ha => ?_, fun i h1 h2 => ?_, d3, d4, d5, d6, d7, ?_, ?_⟩
      · rw [d1 a ha, hA a (fun z => ha (by revert z; simp; omega)), I1.1 a (fun z => ha (by revert z; simp; omega))]
      · rw [d2 i h1 h2, k52, I1.2.1 i h1 h2]
      · rw [kg] at d8; exact d8
      · rw [kg] at d9; exact d9
