theorem ct_margin {K : Nat} {h : Int} {M : PM} {Q : Option PV → PM → Prop} (V : ct_V M) (hh : hs h) (hq : Q (some (.inl (mrg (ct_g M) (M 30) (pls (M 31)) h))) M) : Call (K + 1) jClearing_margin [.inr (.inr 24), .inl h] P0 P0 M Q := by
  have hl := V.2.2.2.1 h hh
  have hb := V.2.2.2.2.1 h hh
  have hm := mrg_ok (g := ct_g M) (os := pls (M 31)) hl
  refine c_ct_margin K h M Q ⟨hh, ⟨by omega, by omega⟩, fun c => ?_, fun c => ?_⟩
  · have hno : h ∉ pls (M 31) := fun z => (pls_mem.mp z).2 c
    have loop : ∀ (n : Nat) (k : Int), k + 1 = (n : Int) → k < M 30 h → (∀ c', k < c' → c' < M 30 h → due (ct_g M) h c' = 0) → G none (K + 1) jClearing_margin 25 [(0, .inr (.inr 24)), (1, .inl h), (2, .inl k)] [] P0 P0 M Q := by
      intro n
      induction n with
      | zero =>
        intro k hk hlt hz
        refine g_ct_margin_25 _ _ _ _ _ ⟨⟨by omega, by omega⟩, fun _ => ?_, fun q => absurd (by omega) q⟩
        have e : mrg (ct_g M) (M 30) (pls (M 31)) h = k := Mgn.det hm (Or.inr ⟨hno, by omega, hlt, fun z => absurd z (by omega), hz⟩)
        rw [← e]
        exact hq
      | succ n ih =>
        intro k hk hlt hz
        have hkl : kl k := ⟨by omega, by omega⟩
        have hd := xd_b V.1.1 hh hkl
        refine g_ct_margin_25 _ _ _ _ _ ⟨⟨by omega, by omega⟩, fun q => absurd q (by omega), fun _ => ⟨⟨by omega, by omega⟩, by rw [V.2.1 h k hh hkl]; exact ⟨by omega, by omega⟩, fun q => ?_, fun q => ?_⟩⟩
        · rw [V.2.1 h k hh hkl] at q
          have e : mrg (ct_g M) (M 30) (pls (M 31)) h = k := Mgn.det hm (Or.inr ⟨hno, by omega, hlt, fun _ => q, hz⟩)
          rw [← e]
          exact hq
        · rw [V.2.1 h k hh hkl] at q
          refine ih (k + (-1)) (by omega) (by omega) (fun c' h1 h2 => ?_)
          by_cases z : c' = k
          · rw [z]; exact q
          · exact hz c' (by omega) h2
    exact loop (M 30 h).toNat _ (by omega) (by omega) (fun c' h1 h2 => by omega)
  · have e : mrg (ct_g M) (M 30) (pls (M 31)) h = M 30 h := Mgn.det hm (Or.inl ⟨pls_mem.mpr ⟨hh, c⟩, rfl⟩)
    rw [← e]
    exact hq
def ct_fee (M : PM) (k j : Int) : Prop := 0 ≤ mrg (ct_g M) (M 30) (pls (M 31)) j ∧ 0 < M 1 2 * xo M j k (mrg (ct_g M) (M 30) (pls (M 31)) j)
theorem ct_feels {K : Nat} {k j : Int} {M : PM} {Q : Option PV → PM → Prop} (V : ct_V M) (hO : ∀ h, hs h → M 31 h ≠ 0 → kl (M 30 h)) (hk : hs k) (hj : hs j) (hq1 : ct_fee M k j → Q (some (.inl 1)) M) (hq0 : ¬ ct_fee M k j → Q (some (.inl 0)) M) : Call (K + 2) jClearing_feels [.inr (.inr 24), .inl k, .inl j] P0 P0 M Q := by
  have hl := V.2.2.2.1 j hj
  have hR := mrg_R (g := ct_g M) (os := pls (M 31)) hl
  have hm := mrg_ok (g := ct_g M) (os := pls (M 31)) hl
  have hB := V.1.1.2.2.1
  refine c_ct_feels (K + 1) k j M Q (ct_margin V hj ⟨⟨by omega, by omega⟩, fun c => hq0 fun z => by have := z.1; omega, fun c => ⟨⟨by omega, by omega⟩, fun c2 => hq0 fun z => ?_, fun c2 => ?_⟩⟩)
  · have e : M 1 2 = 0 := by omega
    have := z.2
    rw [e] at this
    omega
  · have hkl : kl (mrg (ct_g M) (M 30) (pls (M 31)) j) := by
      rcases hm with ⟨a, b⟩ | ⟨a, b, c, _⟩
      · rw [b]; exact hO j hj (pls_mem.mp a).2
      · exact ⟨by omega, by omega⟩
    have hx := V.1.1.2.2.2.2.1 j k _ hj hk hkl
    refine x_amount phk_1_P0 hj hk hkl ⟨⟨by omega, by omega⟩, fun c3 => hq0 fun z => ?_, fun c3 => hq1 ⟨by omega, Int.mul_pos (by omega) (by omega)⟩⟩
    have e : xo M j k (mrg (ct_g M) (M 30) (pls (M 31)) j) = 0 := by omega
    have := z.2
    rw [e] at this
    omega
theorem ct_reached {K : Nat} {s0 : Int} {M : PM} {Q : Option PV → PM → Prop} (V : ct_V M) (hO : ∀ h, hs h → M 31 h ≠ 0 → kl (M 30 h)) (hs0 : 0 ≤ s0 ∧ s0 < 32) (h0 : s0 ≠ 0) (hF : ∀ h, hs h → tb s0 h = true → tb (M 24 1) h = true)
    (hq : ∀ t, Rch (fun h => tb (M 24 1) h = true) (ct_fee M) s0 t → Rcl (fun h => tb (M 24 1) h = true) (ct_fee M) t → Q (some (.inl t)) M) : Call (K + 3) jClearing_reached [.inr (.inr 24), .inl s0] P0 P0 M Q := by
  have hn := V.1.1.1
  have hFn := V.2.2.2.2.2.2.2
  obtain ⟨F, eF⟩ : ∃ F : Int → Prop, F = fun h => tb (M 24 1) h = true := ⟨_, rfl⟩
  rw [← eF] at hq
  have hFi : ∀ h, F h ↔ tb (M 24 1) h = true := fun h => by rw [eF]
  have in_ : ∀ (p t f : Int), (0 ≤ p ∧ p < 32) → (0 ≤ f ∧ f < M 1 0) → ∀ (n : Nat) (h s : Int), 0 ≤ h → h + (n : Int) = M 1 0 → Rch F (ct_fee M) s0 s → (∀ k, hs k → tb p k = true → tb s k = true) → (Rcl F (ct_fee M) p → s = p) →
      (s = p → ∀ j k, hs j → hs k → (j < f ∨ (j = f ∧ k < h)) → tb p j = true → F k → ct_fee M k j → tb p k = true) →
      (∀ s', Rch F (ct_fee M) s0 s' → (∀ k, hs k → tb p k = true → tb s' k = true) → (Rcl F (ct_fee M) p → s' = p) → (s' = p → ∀ j k, hs j → hs k → j < f + 1 → tb p j = true → F k → ct_fee M k j → tb p k = true) → G none (K + 2 + 1) jClearing_reached 12 [(0, .inr (.inr 24)), (2, .inl s'), (3, .inl t), (4, .inl (f + 1))] [] P0 P0 M Q) →
      G none (K + 2 + 1) jClearing_reached 27 [(0, .inr (.inr 24)), (2, .inl s), (3, .inl t), (4, .inl f), (5, .inl h)] [] P0 P0 M Q := by
    intro p t f hp hf n
    induction n with
    | zero =>
      intro h s h0 hh r hsub hcl hpr go
      refine g_ct_reached_27 _ _ _ _ _ _ _ ⟨⟨by omega, by omega⟩, ⟨by omega, by omega⟩, fun _ => ?_, fun q => absurd (by omega) q⟩
      refine go s r hsub hcl (fun e j k hj hk hlt h1 h2 h3 => hpr e j k hj hk ?_ h1 h2 h3)
      have := hFn k hk ((hFi k).mp h2)
      omega
    | succ n ih =>
      intro h s h0 hh r hsub hcl hpr go
      have hhs : hs h := ⟨h0, by omega⟩
      have hfs : hs f := ⟨hf.1, by omega⟩
      have same : (s = p → tb p f = true → F h → ct_fee M h f → tb p h = true) → G none (K + 2 + 1) jClearing_reached 27 [(0, .inr (.inr 24)), (2, .inl s), (3, .inl t), (4, .inl f), (5, .inl (h + 1))] [] P0 P0 M Q := by
        intro hnew
        refine ih (h + 1) s (by omega) (by omega) r hsub hcl (fun e j k hj hk hlt h1 h2 h3 => ?_) go
        by_cases q : j = f ∧ k = h
        · rw [q.2]; rw [q.1, q.2] at h3; rw [q.1] at h1; rw [q.2] at h2; exact hnew e h1 h2 h3
        · exact hpr e j k hj hk (by omega) h1 h2 h3
      refine g_ct_reached_27 _ _ _ _ _ _ _ ⟨⟨by omega, by omega⟩, ⟨by omega, by omega⟩, fun q => absurd q (by omega), fun _ => ?_⟩
      rw [bit_get (ms32 r.1) ⟨hf.1, by omega⟩]
      refine ⟨b2i_R _, fun c => ?_, fun c => ?_⟩
      · rw [b2i_0] at c
        exact same fun e h1 _ _ => by rw [← e, c] at h1; exact absurd h1 (by simp)
      · have c' := b2i_n0 c
        refine ct_fell (ms32 V.2.2.2.2.2.2.1) ⟨h0, by omega⟩ ⟨b2i_R _, fun c1 => ?_, fun c1 => ?_⟩
        · rw [b2i_0] at c1
          exact same fun _ _ h2 _ => by rw [hFi, c1] at h2; exact absurd h2 (by simp)
        · have c1' := (hFi h).mpr (b2i_n0 c1)
          refine ct_feels V hO hhs hfs (fun w => ⟨by decide, fun z => absurd z (by decide), fun _ => ?_⟩) (fun w => ⟨by decide, fun _ => same fun _ _ _ h3 => absurd h3 w, fun z => absurd rfl z⟩)
          have b := bit_or1 r.1 hhs
          by_cases e : bOr s (bShl 1 h) = p
          · -- it was there
            have hsp : s = p := by
              refine bit_ext (ms32 r.1) (ms32 hp) fun j hj => ?_
              by_cases z5 : j = 5
              · rw [z5, tb5 r.1, tb5 hp]
              · have hj' : hs j := ⟨hj.1, by omega⟩
                cases a : tb s j
                · cases a2 : tb p j
                  · rfl
                  · rw [hsub j hj' a2] at a; exact absurd a (by simp)
                · rw [← e, b.2 j hj, a]; rfl
            rw [e]
            rw [← hsp]
            exact same fun _ _ _ _ => by
              rw [← e, b.2 h ⟨h0, by omega⟩, decide_eq_true (rfl : h = h), Bool.or_true]
          · refine ih (h + 1) _ (by omega) (by omega) (r.add hfs hhs c' c1' w) (fun k hk z => by
              rw [b.2 k ⟨hk.1, by omega⟩, hsub k hk z]; rfl) (fun z => ?_) (fun z => absurd z e) go
            exfalso
            have hsp := hcl z
            refine e ?_
            have h1 : tb p h = true := z f h hfs hhs (by rw [← hsp]; exact c') c1' w
            refine bit_ext (ms32 b.1) (ms32 hp) fun j hj => ?_
            rw [b.2 j hj, hsp]
            by_cases y : j = h
            · rw [y, h1]; rfl
            · rw [decide_eq_false y, Bool.or_false]
  have mid : ∀ (p t : Int), (0 ≤ p ∧ p < 32) → (∀ h, hs h → tb p h = true → F h) → ∀ (n : Nat) (f s : Int), 0 ≤ f → f + (n : Int) = M 1 0 → Rch F (ct_fee M) s0 s → (∀ k, hs k → tb p k = true → tb s k = true) → (Rcl F (ct_fee M) p → s = p) →
      (s = p → ∀ j k, hs j → hs k → j < f → tb p j = true → F k → ct_fee M k j → tb p k = true) →
      (∀ s', Rch F (ct_fee M) s0 s' → (∀ k, hs k → tb p k = true → tb s' k = true) → (Rcl F (ct_fee M) p → s' = p) → (s' = p → Rcl F (ct_fee M) p) → G none (K + 2 + 1) jClearing_reached 4 [(0, .inr (.inr 24)), (2, .inl s'), (3, .inl (t + 1))] [] P0 P0 M Q) →
      G none (K + 2 + 1) jClearing_reached 12 [(0, .inr (.inr 24)), (2, .inl s), (3, .inl t), (4, .inl f)] [] P0 P0 M Q := by
    intro p t hp hpF n
    induction n with
    | zero =>
      intro f s h0 hf r hsub hcl hpr go
      refine g_ct_reached_12 _ _ _ _ _ _ ⟨⟨by omega, by omega⟩, ⟨by omega, by omega⟩, fun _ => ?_, fun q => absurd (by omega) q⟩
      refine go s r hsub hcl (fun e j k hj hk h1 h2 h3 => hpr e j k hj hk ?_ h1 h2 h3)
      have := hFn j hj ((hFi j).mp (hpF j hj h1))
      omega
    | succ n ih =>
      intro f s h0 hf r hsub hcl hpr go
      refine g_ct_reached_12 _ _ _ _ _ _ ⟨⟨by omega, by omega⟩, ⟨by omega, by omega⟩, fun q => absurd q (by omega), fun _ => ?_⟩
      refine in_ p t f hp ⟨h0, by omega⟩ (M 1 0).toNat 0 s (by decide) (by omega) r hsub hcl (fun e j k hj hk hlt h1 h2 h3 => hpr e j k hj hk (by have := hk.1; omega) h1 h2 h3) (fun s' r' hsub' hcl' hpr' => ?_)
      exact ih (f + 1) s' (by omega) (by omega) r' hsub' hcl' hpr' go
  have out : ∀ (n : Nat) (t s : Int), 0 ≤ t → t + (n : Int) = 5 → Rch F (ct_fee M) s0 s → (Rcl F (ct_fee M) s ∨ t + 1 ≤ cnt s) → G none (K + 2 + 1) jClearing_reached 4 [(0, .inr (.inr 24)), (2, .inl s), (3, .inl t)] [] P0 P0 M Q := by
    intro n
    induction n with
    | zero =>
      intro t s h0 ht r hc
      refine g_ct_reached_4 _ _ _ _ _ ⟨⟨by omega, by omega⟩, fun _ => hq s r ?_, fun q => absurd (by omega) q⟩
      rcases hc with z | z
      · exact z
      · have := cnt_5 s; omega
    | succ n ih =>
      intro t s h0 ht r hc
      refine g_ct_reached_4 _ _ _ _ _ ⟨⟨by omega, by omega⟩, fun q => absurd q (by omega), fun _ => ?_⟩
      refine mid s t r.1 r.2.2.1 (M 1 0).toNat 0 s (by decide) (by omega) r (fun _ _ z => z) (fun _ => rfl) (fun _ j k hj _ hlt => by have := hj.1; omega) (fun s' r' hsub hcl hpr => ?_)
      refine ih (t + 1) s' (by omega) (by omega) r' ?_
      by_cases e : s' = s
      · left; rw [e]; exact hpr e
      · right
        have h1 := cnt_lt r.1 r'.1 hsub (fun z => e z.symm)
        rcases hc with z | z
        · exact absurd (hcl z) e
        · omega
  refine c_ct_reached (K + 2) s0 M Q (out 5 0 s0 (by decide) (by decide) ⟨hs0, fun _ _ z => z, fun h hh z => (hFi h).mpr (hF h hh z), fun P hb _ h hh z => hb h hh z⟩ (Or.inr ?_))
  have := cnt_1 hs0 h0
  omega
