/-! THE MODEL clears, over the book alone (rows may differ) -/
theorem m_clrB {K : Nat} {M : PM} {Q : Option PV → PM → Prop} (I : IvB M) (Im : IvM M) (hq : ∀ M', Ag trm M M' → Fs M M' → MCk M' → IvM M' → IvB M' → Q none M') : Call (K + 15) jModel_clears [.inr (.inr 52)] P0 P0 M Q := by
  have B := I.mb
  refine c_m_clears (K + 14) M Q ⟨Im.1, fun q => hq M (Ag.rf _ _) (fun _ _ _ _ _ _ => rfl) (Im.2 q) Im I, fun q => m_supposesCash (K := K + 13) (fun M1 hA1 i1 j1 h61 => ?_)⟩
  have k55 : M1 55 = M 55 := hA1 55 (by decide)
  have hpu : ∀ h, hs h → 0 ≤ M1 61 h ∧ M1 61 h ≤ 400 := fun h hh => by
    have := B.2.2.2.1 h hh
    rw [h61 h hh]
    omega
  refine m_goesRound (K := K) (B.of k55) hpu (fun M2 X D hA2 i2 c ar => ?_)
  have n55 : M2 55 = M1 55 := hA2 55 (by decide)
  have E : Eqg (gM M1) (gK M1) := gM_gK (fun k hk => by rw [h61 k hk, k55])
  have c' := Clr.ong (gM_ok (B.of k55) hpu) E c
  have hA3 : Ag trm M (mset M2 52 4 1) := ((hA1.mono (by decide)).tr (hA2.mono (by decide))).set (by decide)
  have hi : ∀ i, i ≠ 4 → i ≠ 9 → i ≠ 13 → i ≠ 17 → i ≠ 21 → (mset M2 52 4 1) 52 i = M 52 i := fun i a1 a2 a3 a4 a5 => by
    have e : (mset M2 52 4 1) 52 i = M2 52 i := by simp [mset, a1]
    rw [e, i2 i a2 a3 a4 a5, i1 i a1]
  have mc : MCk (mset M2 52 4 1) := by
    refine ⟨⟨X, D, ?_, ?_⟩, fun h hh => ?_⟩
    · rw [gK_of (show (mset M2 52 4 1) 55 = M1 55 by rw [mset_ne (by decide)]; exact n55)]
      rw [show (mset M2 52 4 1) 60 = M2 60 by rw [mset_ne (by decide)], show (mset M2 52 4 1) 55 = M1 55 by rw [mset_ne (by decide)]; exact n55, show (mset M2 52 4 1) 52 9 = M2 52 9 by simp [mset], show (mset M2 52 4 1) 52 13 = M2 52 13 by simp [mset]]
      exact c'
    · intro r h0 h1
      have := ar r h0 (by simpa [mset] using h1)
      simpa [mset] using this
    · rw [mset_ne (by decide), mset_ne (by decide), hA2 61 (by decide), n55, h61 h hh, k55]
  exact hq _ hA3 hi mc ⟨by rw [mset_eq]; decide, fun _ => mc⟩ (I.trm hA3)
theorem jm_ofB {M1 M2 : PM} {X : Int → Int → Int → Int} {D : Int → Int} (cf : CF M1 X D) (I2 : IvB M2) (hA : Ag trm M1 M2) (mk : MC M2) : M2 52 9 = M1 11 0 ∧ M2 52 13 = M1 11 1 ∧ (∀ h, hs h → M2 60 h = M1 12 h) ∧ MA M2 X D := by
  obtain ⟨X', D', m1, m2⟩ := mk
  have O := xb_ok I2.xb
  have m1' := m1.onr I2.eq.symm
  rw [I2.n] at m1'
  have c1 := cf.1
  rw [← cp_g_of (hA 1 (by decide)) (hA 2 (by decide)) (hA 3 (by decide)), ← hA 1 (by decide)] at c1
  obtain ⟨u1, u2, u3, u4⟩ := Clr.uniq O c1 m1'
  refine ⟨u1.symm, u2.symm, fun h hh => (u3 h hh).symm, fun r h0 h1 => ?_⟩
  have a := m2 r h0 h1
  have b := u4 r h0 (by rw [u1]; exact h1)
  exact ⟨by rw [a.1, b.1], fun h c hh hc => by rw [a.2 h c hh hc, b.2 h c hh hc]⟩
