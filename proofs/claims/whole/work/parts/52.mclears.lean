/-! THE CLEARING looks at a house's coins only; THE MODEL's clears -/
def Eqg (g g' : Ck) : Prop := ckA g' = ckA g ∧ ckB g' = ckB g ∧ ckO g' = ckO g ∧ ∀ h, hs h → ckC g' h = ckC g h
theorem Eqg.symm {g g' : Ck} (E : Eqg g g') : Eqg g' g := ⟨E.1.symm, E.2.1.symm, E.2.2.1.symm, fun h hh => (E.2.2.2 h hh).symm⟩
theorem eqg_due {g g' : Ck} (E : Eqg g g') : due g' = due g := by funext x c; simp only [due, E.2.2.1]
theorem eqg_gt {g g' : Ck} (E : Eqg g g') : gt g' = gt g := by funext X h; simp only [gt, E.2.2.1]
theorem eqg_yt {g g' : Ck} (E : Eqg g g') : yt g' = yt g := by funext X h; simp only [yt, eqg_due E]
theorem eqg_rt {g g' : Ck} (E : Eqg g g') (X : Int → Int → Int) (D : Int) {h : Int} (hh : hs h) : rt g' X D h = rt g X D h := by
  unfold rt
  rw [E.1, E.2.1, eqg_gt E, E.2.2.2 h hh]
theorem Eqg.ok {g g' : Ck} (E : Eqg g g') (O : Okc g) : Okc g' := by
  unfold Okc
  rw [E.1, E.2.1, E.2.2.1]
  exact ⟨O.1, O.2.1, fun h hh => by rw [E.2.2.2 h hh]; exact O.2.2.1 h hh, O.2.2.2.1, O.2.2.2.2⟩
theorem GS.ong {g g' : Ck} {F : Int → Bool} {X : Int → Int → Int} {D : Int} (O : Okc g) (E : Eqg g g') (G : GS g F X D) : GS g' F X D :=
  ⟨Sub.more (fun _ _ z => z) E.1 O.1.1 E.2.1 E.2.2.1 (fun h hh => by rw [E.2.2.2 h hh]; exact Int.le_refl _) G.1, fun Y e hY => G.2 Y e (Sub.more (fun _ _ z => z) E.1.symm (E.ok O).1.1 E.2.1.symm E.2.2.1.symm (fun h hh => by rw [E.2.2.2 h hh]; exact Int.le_refl _) hY)⟩
theorem Rnd.ong {g g' : Ck} {F : Int → Bool} {X : Int → Int → Int} {D : Int} (O : Okc g) (E : Eqg g g') (R : Rnd g F X D) : Rnd g' F X D := by
  obtain ⟨r1, r2, r3, e, r4, r5, r6, r7⟩ := R
  refine ⟨GS.ong O E r1, r2, r3, e, r4, ?_, r6, fun h hh hF he => ?_⟩
  · unfold Seg
    rw [eqg_due E]
    exact r5
  · rw [eqg_rt E X D hh, eqg_yt E]
    exact r7 h hh hF he
theorem fl_ong {g g' : Ck} (E : Eqg g g') (X : Int → Int → Int) (D : Int) {h : Int} (hh : hs h) : fl g' X D h ↔ fl g X D h := by
  unfold fl wth
  rw [eqg_gt E, eqg_due E, E.2.2.2 h hh]
theorem RdS.ong {g g' : Ck} {n : Int} {X : Int → Int → Int → Int} {D : Int → Int} {W : Int} {F : Int → Int → Bool} (O : Okc g) (E : Eqg g g') (R : RdS g n X D W F) : RdS g' n X D W F :=
  ⟨R.1, fun r h0 h1 => Rnd.ong O E (R.2.1 r h0 h1), fun r h0 h1 => ⟨fun h hh => by rw [(R.2.2 r h0 h1).1 h hh, decide_eq_decide.mpr (fl_ong E (X r) (D r) hh)], (R.2.2 r h0 h1).2⟩⟩
theorem Clr.ong {g g' : Ck} {n : Int} {X : Int → Int → Int → Int} {D : Int → Int} {W s : Int} {wv : Int → Int} (O : Okc g) (E : Eqg g g') (c : Clr g n X D W s wv) : Clr g' n X D W s wv := by
  obtain ⟨c1, c2, F, R, c3, c4, c5⟩ := c
  exact ⟨c1, c2, F, RdS.ong O E R, fun h hh hl hF z => c3 h hh hl hF ((fl_ong E (X W) (D W) hh).mp z), c4, c5⟩
/-- the book with its own cash -/
def gK (M : PM) : Ck := (M 55 1, M 55 2, fun h => M 55 (3 + h), fun k h c => mo M k h c)
theorem gK_of {M M' : PM} (h : M' 55 = M 55) : gK M' = gK M := by
  unfold gK mo
  rw [h]
theorem gM_gK {M : PM} (h : ∀ k, hs k → M 61 k = M 55 (3 + k)) : Eqg (gM M) (gK M) := ⟨rfl, rfl, rfl, fun k hk => (h k hk).symm⟩
def MA (M : PM) (X : Int → Int → Int → Int) (D : Int → Int) : Prop := ∀ r, 0 ≤ r → r ≤ M 52 9 → M 59 r = D r ∧ ∀ h c, hs h → kl c → M 58 (((15 * r) + (3 * h)) + c) = X r h c
/-- its memory of what is cleared holds -/
def MC (M : PM) : Prop := ∃ X D, Clr (gK M) (M 55 0) X D (M 52 9) (M 52 13) (M 60) ∧ MA M X D
theorem m_supposesCash {K : Nat} {M : PM} {Q : Option PV → PM → Prop} (hq : ∀ M', Ag [61, 52] M M' → (∀ i, i ≠ 4 → M' 52 i = M 52 i) → M' 52 4 = 0 → (∀ k, hs k → M' 61 k = M 55 (3 + k)) → Q none M') : Call (K + 1) jModel_supposesCash [.inr (.inr 52)] P0 P0 M Q := by
  have loop : ∀ (n : Nat) (h : Int) (M1 : PM), 0 ≤ h → h + (n : Int) = 5 → Ag [61] M M1 → (∀ k, 0 ≤ k → k < h → M1 61 k = M 55 (3 + k)) → G none (K + 1) jModel_supposesCash 2 [(0, .inr (.inr 52)), (1, .inl h)] [] P0 P0 M1 Q := by
    intro n
    induction n with
    | zero =>
      intro h M1 h0 hn hA h61
      refine g_m_supposesCash_2 _ _ _ _ ⟨⟨by omega, by omega⟩, fun _ => ?_, fun q => absurd (by omega) q⟩
      refine hq _ ((hA.mono (by decide)).set (by decide)) (fun i hi => ?_) mset_eq (fun k hk => ?_)
      · have : (mset M1 52 4 0) 52 i = M1 52 i := by simp [mset, hi]
        rw [this, hA 52 (by decide)]
      · rw [mset_ne (by decide)]; exact h61 k hk.1 (by omega)
    | succ n ih =>
      intro h M1 h0 hn hA h61
      refine g_m_supposesCash_2 _ _ _ _ ⟨⟨by omega, by omega⟩, fun q => absurd q (by omega), fun _ => ⟨⟨by omega, by omega⟩, ⟨by omega, by omega⟩, ?_⟩⟩
      refine ih (h + 1) _ (by omega) (by omega) (hA.set (by decide)) (fun k h1 h2 => ?_)
      by_cases q : k = h
      · rw [q, mset_eq, hA 55 (by decide)]
      · have : (mset M1 61 h (M1 55 (3 + h))) 61 k = M1 61 k := by simp [mset, q]
        rw [this]; exact h61 k h1 (by omega)
  exact c_m_supposesCash K M Q (loop 5 0 M (by decide) (by decide) (Ag.rf _ _) (fun k h1 h2 => absurd h2 (by omega)))
theorem m_clears {K : Nat} {M : PM} {Q : Option PV → PM → Prop} (B : MB M) (h4 : R32 (M 52 4)) (hC : M 52 4 ≠ 0 → MC M)
    (hq : ∀ M', Ag [52, 58, 59, 60, 61, 62, 63, 64, 65, 66] M M' → (∀ i, i ≠ 4 → i ≠ 9 → i ≠ 13 → i ≠ 17 → i ≠ 21 → M' 52 i = M 52 i) → M' 52 4 ≠ 0 → R32 (M' 52 4) → MC M' → Q none M') : Call (K + 15) jModel_clears [.inr (.inr 52)] P0 P0 M Q := by
  refine c_m_clears (K + 14) M Q ⟨h4, fun q => hq M (Ag.rf _ _) (fun _ _ _ _ _ _ => rfl) q h4 (hC q), fun q => m_supposesCash (K := K + 13) (fun M1 hA1 i1 j1 h61 => ?_)⟩
  have k55 : M1 55 = M 55 := hA1 55 (by decide)
  have hpu : ∀ h, hs h → 0 ≤ M1 61 h ∧ M1 61 h ≤ 400 := fun h hh => by
    have := B.2.2.2.1 h hh
    rw [h61 h hh]
    omega
  refine m_goesRound (K := K) (B.of k55) hpu (fun M2 X D hA2 i2 c ar => ?_)
  have n55 : M2 55 = M1 55 := hA2 55 (by decide)
  have E : Eqg (gM M1) (gK M1) := gM_gK (fun k hk => by rw [h61 k hk, k55])
  have c' := Clr.ong (gM_ok (B.of k55) hpu) E c
  refine hq _ (fun a ha => ?_) (fun i a1 a2 a3 a4 a5 => ?_) (by rw [mset_eq]; decide) (by rw [mset_eq]; decide) ⟨X, D, ?_, ?_⟩
  · have e : (mset M2 52 4 1) a = M2 a := by
      funext j
      have : a ≠ 52 := fun z => ha (by rw [z]; decide)
      simp [mset, this]
    rw [e, hA2 a (fun z => ha (by revert z; simp; omega)), hA1 a (fun z => ha (by revert z; simp; omega))]
  · have e : (mset M2 52 4 1) 52 i = M2 52 i := by simp [mset, a1]
    rw [e, i2 i a2 a3 a4 a5, i1 i a1]
  · rw [gK_of (show (mset M2 52 4 1) 55 = M1 55 by rw [mset_ne (by decide)]; exact n55)]
    rw [show (mset M2 52 4 1) 60 = M2 60 by rw [mset_ne (by decide)], show (mset M2 52 4 1) 55 = M1 55 by rw [mset_ne (by decide)]; exact n55, show (mset M2 52 4 1) 52 9 = M2 52 9 by simp [mset], show (mset M2 52 4 1) 52 13 = M2 52 13 by simp [mset]]
    exact c'
  · intro r h0 h1
    have := ar r h0 (by simpa [mset] using h1)
    simpa [mset] using this
