/-! THE MODEL's questions about who fails -/
def Cld (M M' : PM) : Prop := Ag [52, 58, 59, 60, 61, 62, 63, 64, 65, 66] M M' ∧ (∀ i, i ≠ 4 → i ≠ 9 → i ≠ 13 → i ≠ 17 → i ≠ 21 → M' 52 i = M 52 i) ∧ M' 52 4 ≠ 0 ∧ R32 (M' 52 4) ∧ MC M'
def Mq (M : PM) : Prop := MB M ∧ R32 (M 52 4) ∧ (M 52 4 ≠ 0 → MC M)
theorem m_clr {K : Nat} {M : PM} {Q : Option PV → PM → Prop} (h : Mq M) (hq : ∀ M', Cld M M' → Q none M') : Call (K + 15) jModel_clears [.inr (.inr 52)] P0 P0 M Q :=
  m_clears h.1 h.2.1 h.2.2 (fun M' a1 a2 a3 a4 a5 => hq M' ⟨a1, a2, a3, a4, a5⟩)
theorem m_fails {K : Nat} {M : PM} {Q : Option PV → PM → Prop} (h : Mq M) (hq : ∀ M', Cld M M' → Q (some (.inl (M' 52 13))) M') : Call (K + 16) jModel_fails [.inr (.inr 52)] P0 P0 M Q :=
  c_m_fails (K + 15) M Q (m_clr h (fun M' c => hq M' c))
theorem m_waves {K : Nat} {M : PM} {Q : Option PV → PM → Prop} (h : Mq M) (hq : ∀ M', Cld M M' → Q (some (.inl (M' 52 9))) M') : Call (K + 16) jModel_waves [.inr (.inr 52)] P0 P0 M Q :=
  c_m_waves (K + 15) M Q (m_clr h (fun M' c => hq M' c))
theorem m_wave {K : Nat} {M : PM} {a : Int} {Q : Option PV → PM → Prop} (h : Mq M) (ha : R32 a) (h0 : ¬ (0 ≤ a ∧ a < M 55 0) → Q (some (.inl (-1))) M) (hq : 0 ≤ a ∧ a < M 55 0 → ∀ M', Cld M M' → Q (some (.inl (M' 60 a))) M') : Call (K + 16) jModel_wave [.inr (.inr 52), .inl a] P0 P0 M Q := by
  have hn := h.1.1
  refine c_m_wave (K + 15) a M Q (m_isHouse (K := K + 13) h.1 ha ⟨b2i_R _, fun c => m_clr h (fun M' cl => ?_), fun c => h0 (of_decide_eq_false (b2i_0.mp c))⟩)
  have q : 0 ≤ a ∧ a < M 55 0 := by
    rcases Classical.em (0 ≤ a ∧ a < M 55 0) with z | z
    · exact z
    · exact absurd (b2i_0.mpr (decide_eq_false z)) c
  exact ⟨⟨by omega, by omega⟩, hq q M' cl⟩
/-- the book with x more coins in the house h -/
def gE (M : PM) (h x : Int) : Ck := (M 55 1, M 55 2, fun k => if k = h then mx2 0 (M 55 (3 + k) + x) else M 55 (3 + k), fun k h c => mo M k h c)
theorem m_failsIf {K : Nat} {M : PM} {x h : Int} {Q : Option PV → PM → Prop} (B : MB M) (hh : hs h) (hx : -1000 ≤ x ∧ x ≤ 200)
    (hq : ∀ M' X D W wv s, Ag [52, 58, 59, 60, 61, 62, 63, 64, 65, 66] M M' → (∀ i, i ≠ 4 → i ≠ 9 → i ≠ 13 → i ≠ 17 → i ≠ 21 → M' 52 i = M 52 i) → M' 52 4 = 0 → Okc (gE M h x) → Clr (gE M h x) (M 55 0) X D W s wv → Q (some (.inl s)) M') : Call (K + 15) jModel_failsIf [.inr (.inr 52), .inl x, .inl h] P0 P0 M Q := by
  refine c_m_failsIf (K + 14) x h M Q (m_supposesCash (K := K + 13) (fun M1 hA1 i1 j1 h61 => ?_))
  have k55 : M1 55 = M 55 := hA1 55 (by decide)
  have hb := B.2.2.2.1 h hh
  have mx : 0 ≤ mx2 0 (M 55 (3 + h) + x) ∧ mx2 0 (M 55 (3 + h) + x) ≤ 400 := by unfold mx2; split <;> omega
  refine ⟨hh, by rw [h61 h hh]; exact ⟨by omega, by omega⟩, ?_⟩
  rw [h61 h hh]
  generalize hM2 : mset M1 61 h (mx2 0 (M 55 (3 + h) + x)) = M2
  have n55 : M2 55 = M 55 := by rw [← hM2, mset_ne (by decide)]; exact k55
  have n61 : ∀ k, hs k → M2 61 k = if k = h then mx2 0 (M 55 (3 + k) + x) else M 55 (3 + k) := fun k hk => by
    rw [← hM2]
    by_cases q : k = h
    · rw [q, mset_eq, if_pos rfl]
    · rw [if_neg q, ← h61 k hk]; simp [mset, q]
  have hpu : ∀ k, hs k → 0 ≤ M2 61 k ∧ M2 61 k ≤ 400 := fun k hk => by
    have := B.2.2.2.1 k hk
    rw [n61 k hk]
    split
    · rename_i q; rw [q]; exact mx
    · omega
  have E : Eqg (gM M2) (gE M h x) := ⟨by show M 55 1 = M2 55 1; rw [n55], by show M 55 2 = M2 55 2; rw [n55], by show (fun k h c => mo M k h c) = (fun k h c => mo M2 k h c); unfold mo; rw [n55], fun k hk => (n61 k hk).symm⟩
  have O := gM_ok (B.of n55) hpu
  refine m_goesRound (K := K) (B.of n55) hpu (fun M3 X D hA3 i3 c ar => ?_)
  rw [n55] at c
  refine hq M3 X D _ _ _ (fun a ha => ?_) (fun i a1 a2 a3 a4 a5 => ?_) ?_ (E.ok O) (Clr.ong O E c)
  · rw [hA3 a (fun z => ha (by revert z; simp; omega)), ← hM2, mset_ne (fun z => ha (by rw [z]; decide)), hA1 a (fun z => ha (by revert z; simp; omega))]
  · rw [i3 i a2 a3 a4 a5, ← hM2, mset_ne (by decide), i1 i a1]
  · rw [i3 4 (by decide) (by decide) (by decide) (by decide), ← hM2, mset_ne (by decide)]; exact j1
