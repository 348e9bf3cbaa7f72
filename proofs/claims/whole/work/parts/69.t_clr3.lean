theorem et_expand {K : Nat} {s row : Int} {M : PM} {Q : Option PV → PM → Prop} {f : List Int → Int} (hm : ms s) (hr : 0 ≤ row ∧ row < 5) (hf : ∀ c, mk6 c → tb s c = true → M 36 (bXor s (bShl 1 c)) = f (hid s c ++ remd s c.toNat)) (hq : Q (some (.inr (.inl (ex f (fun c => M 35 ((row * 6) + c)) (remd s 6))))) M) : Call (K + 1) jEquations_expand [.inr (.inr 34), .inl s, .inl row] P0 P0 M Q := by
  have loop : ∀ (n : Nat) (c v sg : Int), c + 1 = (n : Int) → c ≤ 5 → v + sg * ex (fun l => f (hid s c ++ l)) (fun c => M 35 ((row * 6) + c)) (remd s n) = ex f (fun c => M 35 ((row * 6) + c)) (remd s 6) → G none (K + 1) jEquations_expand 8 [(0, .inr (.inr 34)), (1, .inl s), (2, .inl row), (3, .inr (.inl v)), (5, .inr (.inl sg)), (7, .inl c)] [] P0 P0 M Q := by
    intro n
    induction n with
    | zero =>
      intro c v sg hc h5 he
      refine g_et_expand_8 _ _ _ _ _ _ _ _ ⟨⟨by omega, by omega⟩, fun _ => ?_, fun q => absurd (by omega) q⟩
      have : v = ex f (fun c => M 35 ((row * 6) + c)) (remd s 6) := by
        rw [← he, remd, ex]; omega
      rw [this]
      exact hq
    | succ n ih =>
      intro c v sg hc h5 he
      have hcn : c = (n : Int) := by omega
      have h6 : mk6 c := ⟨by omega, by omega⟩
      have hA := bit_and hm h6
      have hR := rmd_out hm h6
      have hms := hm.1
      have hms2 := hm.2
      rw [remd, ← hcn] at he
      refine g_et_expand_8 _ _ _ _ _ _ _ _ ⟨⟨by omega, by omega⟩, fun q => absurd q (by omega), fun _ => ⟨hA.1, fun q => ?_, fun q => ?_⟩⟩
      · have ht := hA.2.mp q
        rw [if_neg (by rw [ht]; simp)] at he
        refine ih (c + (-1)) v sg (by omega) (by omega) ?_
        have e := hR.2
        rw [if_neg (by rw [ht]; simp), List.append_nil] at e
        rw [show c + (-1) = c - 1 by omega, e]
        exact he
      · have ht : tb s c = true := by
          cases z : tb s c
          · exact absurd (hA.2.mpr z) q
          · rfl
        have hx := hR.1 ht
        rw [if_pos ht] at he
        have hmi := hf c h6 ht
        refine ⟨⟨by omega, by omega⟩, ⟨hx.1.1, by omega⟩, ih (c + (-1)) _ _ (by omega) (by omega) ?_⟩
        have e := hR.2
        rw [if_pos ht] at e
        rw [show c + (-1) = c - 1 by omega, e, hmi, ← he, ex]
        have e2 : (fun l => f ((hid s c ++ [c]) ++ l)) = fun l => f (hid s c ++ c :: l) := by
          funext l
          rw [List.append_assoc]
          rfl
        rw [e2, show c.toNat = n by omega]
        grind
  refine c_et_expand K s row M Q (loop 6 5 0 1 (by decide) (by decide) ?_)
  have e : (fun l => f (hid s 5 ++ l)) = f := by
    funext l
    rw [hid_5 hm, List.nil_append]
  rw [e]
  omega
theorem et_solve {K : Nat} {m : Int} {M : PM} {Q : Option PV → PM → Prop} (hm : 0 ≤ m ∧ m ≤ 5) (hq : ∀ M', Ag [36] M M' → (∀ s, 0 ≤ s → s < bShl 1 (m + 1) → c6 s ≤ m → M' 36 s = dt (rwf (M 35) (c6 s).toNat) (remd s 6)) → Q none M') : Call (K + 2) jEquations_solve [.inr (.inr 34), .inl m] P0 P0 M Q := by
  have hN := (dn_full hm).1
  have loop : ∀ (n : Nat) (s : Int) (M1 : PM), 1 ≤ s → s + (n : Int) = bShl 1 (m + 1) → Ag [36] M M1 → (∀ s', 0 ≤ s' → s' < s → c6 s' ≤ m → M1 36 s' = dt (rwf (M 35) (c6 s').toNat) (remd s' 6)) → G none (K + 1 + 1) jEquations_solve 9 [(0, .inr (.inr 34)), (1, .inl m), (2, .inl s)] [] P0 P0 M1 Q := by
    intro n
    induction n with
    | zero =>
      intro s M1 h1 hs_ hA hI
      refine g_et_solve_9 _ _ _ _ _ ⟨⟨by omega, by omega⟩, hN.1, fun _ => hq M1 hA (fun s' h0 hl hc => hI s' h0 (by omega) hc), fun q => absurd (by omega) q⟩
    | succ n ih =>
      intro s M1 h1 hs_ hA hI
      have hms : ms s := ⟨by omega, by omega⟩
      have hc := c6_b hms
      have hc1 := hc.2 (by omega)
      refine g_et_solve_9 _ _ _ _ _ ⟨⟨by omega, by omega⟩, hN.1, fun q => absurd q (by omega), fun _ => x_bitCount hms ⟨⟨by omega, by omega⟩, ⟨by omega, by omega⟩, fun q => ?_, fun q => ?_⟩⟩
      · refine ih (s + 1) M1 (by omega) (by omega) hA (fun s' h0 hl hc' => ?_)
        by_cases z : s' = s
        · rw [z] at hc'; omega
        · exact hI s' h0 (by omega) hc'
      · have e22 : M1 35 = M 35 := hA _ (by decide)
        refine et_expand (f := dt (rwf (M 35) (c6 s - 1).toNat)) hms ⟨by omega, by omega⟩ (fun c h6 ht => ?_) ⟨⟨by omega, by omega⟩, ih (s + 1) _ (by omega) (by omega) (hA.set (by decide)) (fun s' h0 hl hc' => ?_)⟩
        · have hx := (rmd_out hms h6).1 ht
          rw [hI _ hx.1.1 hx.1.2 (by rw [hx.2.1]; omega), hx.2.1, hx.2.2]
        · by_cases z : s' = s
          · rw [z, mset_eq, e22]
            have e : (c6 s).toNat = (c6 s - 1).toNat + 1 := by omega
            rw [e, rwf_succ, dt]
            have e2 : (((c6 s - 1).toNat : Nat) : Int) = c6 s - 1 := by omega
            rw [e2]
          · rw [show (mset M1 36 s (ex (dt (rwf (M 35) (c6 s - 1).toNat)) (fun c => M1 35 (((c6 s - 1) * 6) + c)) (remd s 6))) 36 s' = M1 36 s' by simp [mset, z]]
            exact hI s' h0 (by omega) hc'
  refine c_et_solve (K + 1) m M Q (loop (bShl 1 (m + 1) - 1).toNat 1 _ (by decide) (by omega) ((Ag.rf _ _).set (by decide)) (fun s' h0 hl _ => ?_))
  have : s' = 0 := by omega
  rw [this, mset_eq]
  have e : c6 0 = 0 := by decide +kernel
  rw [e]
  rfl
