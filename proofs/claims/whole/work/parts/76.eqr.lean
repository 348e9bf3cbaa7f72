/-! A BOOK matters in its own places only -/
def Eqr (g g' : Ck) : Prop := ckA g' = ckA g ∧ ckB g' = ckB g ∧ (∀ k h c, hs k → hs h → kl c → ckO g' k h c = ckO g k h c) ∧ ∀ h, hs h → ckC g' h = ckC g h
theorem Eqr.symm {g g' : Ck} (E : Eqr g g') : Eqr g' g := ⟨E.1.symm, E.2.1.symm, fun k h c hk hh hc => (E.2.2.1 k h c hk hh hc).symm, fun h hh => (E.2.2.2 h hh).symm⟩
theorem Eqr.trans {g g' g'' : Ck} (E : Eqr g g') (E' : Eqr g' g'') : Eqr g g'' := ⟨E'.1.trans E.1, E'.2.1.trans E.2.1, fun k h c hk hh hc => (E'.2.2.1 k h c hk hh hc).trans (E.2.2.1 k h c hk hh hc), fun h hh => (E'.2.2.2 h hh).trans (E.2.2.2 h hh)⟩
theorem eqr_due {g g' : Ck} (E : Eqr g g') {h c : Int} (hh : hs h) (hc : kl c) : due g' h c = due g h c := s5_congr fun k hk => E.2.2.1 h k c hh hk hc
theorem eqr_gt {g g' : Ck} (E : Eqr g g') (X : Int → Int → Int) {h : Int} (hh : hs h) : gt g' X h = gt g X h := s5_congr fun k hk => s3_congr fun c hc => by rw [E.2.2.1 k h c hk hh hc]
theorem eqr_yt {g g' : Ck} (E : Eqr g g') (X : Int → Int → Int) {h : Int} (hh : hs h) : yt g' X h = yt g X h := s3_congr fun c hc => by rw [eqr_due E hh hc]
theorem eqr_rt {g g' : Ck} (E : Eqr g g') (X : Int → Int → Int) (D : Int) {h : Int} (hh : hs h) : rt g' X D h = rt g X D h := by
  unfold rt
  rw [E.1, E.2.1, E.2.2.2 h hh, eqr_gt E X hh]
theorem Eqr.ok {g g' : Ck} (E : Eqr g g') (O : Okc g) : Okc g' := ⟨by rw [E.1]; exact O.1, by rw [E.2.1]; exact O.2.1, fun h hh => by rw [E.2.2.2 h hh]; exact O.2.2.1 h hh, fun k h c hk hh hc => by rw [E.2.2.1 k h c hk hh hc]; exact O.2.2.2.1 k h c hk hh hc, fun k c hk hc => by rw [E.2.2.1 k k c hk hk hc]; exact O.2.2.2.2 k c hk hc⟩
theorem Sub.onr {g g' : Ck} {F : Int → Bool} {X : Int → Int → Int} {D : Int} (E : Eqr g g') (h : Sub g F X D) : Sub g' F X D :=
  ⟨h.1, h.2.1, fun k c c' hk hc hc' hcc hd' hX hd => h.2.2.1 k c c' hk hc hc' hcc (by rw [← eqr_due E hk hc']; exact hd') hX (by rw [← eqr_due E hk hc]; exact hd), fun k hk hF => by rw [eqr_yt E X hk, eqr_rt E X D hk]; exact h.2.2.2 k hk hF⟩
theorem GS.onr {g g' : Ck} {F : Int → Bool} {X : Int → Int → Int} {D : Int} (E : Eqr g g') (G : GS g F X D) : GS g' F X D := ⟨G.1.onr E, fun Y e hY => G.2 Y e (hY.onr E.symm)⟩
theorem Rnd.onr {g g' : Ck} {F : Int → Bool} {X : Int → Int → Int} {D : Int} (E : Eqr g g') (R : Rnd g F X D) : Rnd g' F X D := by
  obtain ⟨r1, r2, r3, e, r4, r5, r6, r7⟩ := R
  refine ⟨r1.onr E, r2, r3, e, r4, fun h c hh hc => ?_, r6, fun h hh hF h3 => by rw [eqr_yt E X hh, eqr_rt E X D hh]; exact r7 h hh hF h3⟩
  have := r5 h c hh hc
  rw [eqr_due E hh hc]
  exact this
theorem wth_r {g g' : Ck} (E : Eqr g g') (X : Int → Int → Int) (D : Int) {h : Int} (hh : hs h) : wth g' X D h = wth g X D h := by
  unfold wth
  rw [E.2.2.2 h hh, eqr_gt E X hh]
theorem fl_r {g g' : Ck} (E : Eqr g g') (X : Int → Int → Int) (D : Int) {h : Int} (hh : hs h) : fl g' X D h ↔ fl g X D h := by
  show wth g' X D h < (s3 fun c => due g' h c) * D ↔ wth g X D h < (s3 fun c => due g h c) * D
  rw [wth_r E X D hh, s3_congr (fun c hc => eqr_due E hh hc)]
theorem RdS.onr {g g' : Ck} {n : Int} {X : Int → Int → Int → Int} {D : Int → Int} {W : Int} {F : Int → Int → Bool} (E : Eqr g g') (R : RdS g n X D W F) : RdS g' n X D W F :=
  ⟨R.1, fun r h0 h1 => (R.2.1 r h0 h1).onr E, fun r h0 h1 => ⟨fun h hh => by rw [(R.2.2 r h0 h1).1 h hh, decide_eq_decide.mpr (fl_r E (X r) (D r) hh)], (R.2.2 r h0 h1).2⟩⟩
theorem Clr.onr {g g' : Ck} {n : Int} {X : Int → Int → Int → Int} {D : Int → Int} {W s : Int} {wv : Int → Int} (E : Eqr g g') (c : Clr g n X D W s wv) : Clr g' n X D W s wv := by
  obtain ⟨c1, c2, F, c3, c4, c5, c6⟩ := c
  exact ⟨c1, c2, F, c3.onr E, fun h hh hn hF z => c4 h hh hn hF ((fl_r E (X W) (D W) hh).mp z), c5, c6⟩
theorem crl_r {g g' : Ck} (E : Eqr g g') {L h : Int} (hh : hs h) : ∀ c : Nat, c ≤ 3 → crl g' L h c = crl g L h c
  | 0, _ => rfl
  | c + 1, hc => by
    rw [crl, crl, crl_r E hh c (by omega), eqr_due E hh (c := ((c : Nat) : Int)) ⟨by omega, by omega⟩]
theorem cam_r {g g' : Ck} (E : Eqr g g') {x h t c : Int} (hh : hs h) (ht : hs t) (hc : kl c) : cam g' x h t c = cam g x h t c := by
  unfold cam
  have e : cL g' x h = cL g x h := by
    unfold cL
    rw [E.1, E.2.1, E.2.2.2 h hh, s3_congr (fun c hc => eqr_due E hh hc)]
  rw [eqr_due E hh hc, E.2.2.1 h t c hh ht hc, e, crl_r E hh c.toNat (by have := hc.2; omega)]
theorem cit_r {g g' : Ck} (E : Eqr g g') : ∀ n : Nat, CE (cit g' n) (cit g n)
  | 0 => fun h t c hh ht hc => E.2.2.1 h t c hh ht hc
  | n + 1 => fun h t c hh ht hc => by
    show cam g' (cgt (cit g' n) h) h t c = cam g (cgt (cit g n) h) h t c
    rw [cgt_ce (cit_r E n) hh, cam_r E hh ht hc]
theorem Wlk.onr {g g' : Ck} {N : Nat} (E : Eqr g g') (w : Wlk g N) : Wlk g' N :=
  ⟨(cit_r E (N + 1)).trans (w.1.trans (cit_r E N).symm), fun i hi z => w.2 i hi ((cit_r E (i + 1)).symm.trans (z.trans (cit_r E i)))⟩
