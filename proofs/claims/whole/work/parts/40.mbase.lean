/-! THE MODEL, its small methods -/
/-- its book is as told: houses, costs, cash, what is owed -/
def mo (M : PM) (f t c : Int) : Int := M 55 ((8 + (((5 * f) + t) * 3)) + c)
def MB (M : PM) : Prop := (2 ≤ M 55 0 ∧ M 55 0 ≤ 5) ∧ (0 ≤ M 55 1 ∧ M 55 1 ≤ 10) ∧ (0 ≤ M 55 2 ∧ M 55 2 ≤ 10) ∧ (∀ h, hs h → 0 ≤ M 55 (3 + h) ∧ M 55 (3 + h) ≤ 200) ∧ (∀ f t c, hs f → hs t → kl c → 0 ≤ mo M f t c ∧ mo M f t c ≤ 20) ∧ (∀ f c, hs f → kl c → mo M f f c = 0) ∧
  (∀ h, hs h → M 55 0 ≤ h → M 55 (3 + h) = 0) ∧ ∀ f t c, hs f → hs t → kl c → (M 55 0 ≤ f ∨ M 55 0 ≤ t) → mo M f t c = 0
def b2i (b : Bool) : Int := if b = true then 1 else 0
theorem b2i_01 (b : Bool) : b2i b = 0 ∨ b2i b = 1 := by cases b <;> simp [b2i]
theorem b2i_R (b : Bool) : R32 (b2i b) := by cases b <;> (simp only [b2i]; exact ⟨by decide, by decide⟩)
theorem b2i_0 {b : Bool} : b2i b = 0 ↔ b = false := by cases b <;> simp [b2i]
theorem b2i_1 {b : Bool} : b2i b = 1 ↔ b = true := by cases b <;> simp [b2i]
theorem m_within {K : Nat} {x lo hi : Int} {M : PM} {Q : Option PV → PM → Prop} (h1 : R64 x) (h2 : R64 lo) (h3 : R64 hi) (h : Q (some (.inl (b2i (decide (lo ≤ x ∧ x ≤ hi))))) M) : Call (K + 1) jModel_within [.inr (.inl x), .inr (.inl lo), .inr (.inl hi)] P0 P0 M Q := by
  refine c_model_within K x lo hi M Q ⟨h1, h2, fun c => ?_, fun c => ⟨h3, fun c2 => ?_, fun c2 => ?_⟩⟩
  · rw [decide_eq_false (by omega)] at h; exact h
  · rw [decide_eq_false (by omega)] at h; exact h
  · rw [decide_eq_true (by omega)] at h; exact h
theorem m_isHouse {K : Nat} {x : Int} {M : PM} {Q : Option PV → PM → Prop} (B : MB M) (h1 : R32 x) (h : Q (some (.inl (b2i (decide (0 ≤ x ∧ x < M 55 0))))) M) : Call (K + 2) jModel_isHouse [.inr (.inr 52), .inl x] P0 P0 M Q := by
  have hB := B.1
  refine c_m_isHouse (K + 1) x M Q ⟨h1, ⟨by omega, by omega⟩, m_within ⟨by omega, by omega⟩ (by decide) ⟨by omega, by omega⟩ ⟨b2i_01 _, ?_⟩⟩
  rw [show decide (0 ≤ x ∧ x ≤ M 55 0 - 1) = decide (0 ≤ x ∧ x < M 55 0) by congr 1; apply propext; omega]
  exact h
theorem m_arePair {K : Nat} {x y : Int} {M : PM} {Q : Option PV → PM → Prop} (B : MB M) (h1 : R32 x) (h2 : R32 y) (h : Q (some (.inl (b2i (decide ((0 ≤ x ∧ x < M 55 0) ∧ (0 ≤ y ∧ y < M 55 0) ∧ x ≠ y))))) M) : Call (K + 3) jModel_arePair [.inr (.inr 52), .inl x, .inl y] P0 P0 M Q := by
  refine c_m_arePair (K + 2) x y M Q (m_isHouse B h1 ⟨b2i_R _, fun c => ?_, fun c => m_isHouse B h2 ⟨b2i_R _, fun c2 => ?_, fun c2 => ⟨h1, h2, fun c3 => ?_, fun c3 => ?_⟩⟩⟩)
  · have := of_decide_eq_false (b2i_0.mp c)
    rw [decide_eq_false (by omega)] at h; exact h
  · have := of_decide_eq_false (b2i_0.mp c2)
    rw [decide_eq_false (by omega)] at h; exact h
  · rw [decide_eq_false (by omega)] at h; exact h
  · have q1 : decide (0 ≤ x ∧ x < M 55 0) = true := by
      cases q : decide (0 ≤ x ∧ x < M 55 0)
      · exact absurd (b2i_0.mpr q) c
      · rfl
    have q2 : decide (0 ≤ y ∧ y < M 55 0) = true := by
      cases q : decide (0 ≤ y ∧ y < M 55 0)
      · exact absurd (b2i_0.mpr q) c2
      · rfl
    have q1 := of_decide_eq_true q1
    have q2 := of_decide_eq_true q2
    rw [decide_eq_true (by omega)] at h; exact h
theorem m_isClass {K : Nat} {x : Int} {M : PM} {Q : Option PV → PM → Prop} (h1 : R32 x) (h : Q (some (.inl (b2i (decide (kl x))))) M) : Call (K + 2) jModel_isClass [.inl x] P0 P0 M Q := by
  refine c_model_isClass (K + 1) x M Q ⟨h1, m_within ⟨by omega, by omega⟩ (by decide) (by decide) ⟨b2i_01 _, ?_⟩⟩
  rw [show decide (0 ≤ x ∧ x ≤ 2) = decide (kl x) by congr 1; apply propext; omega]
  exact h
theorem m_isSide {K : Nat} {x : Int} {M : PM} {Q : Option PV → PM → Prop} (h1 : R32 x) (h : Q (some (.inl (b2i (decide (x = 0 ∨ x = 1))))) M) : Call (K + 1) jModel_isSide [.inl x] P0 P0 M Q := by
  refine c_model_isSide K x M Q ⟨h1, fun c => ?_, fun c => ⟨fun c2 => ?_, fun c2 => ?_⟩⟩
  · rw [decide_eq_true (by omega)] at h; exact h
  · rw [decide_eq_false (by omega)] at h; exact h
  · rw [decide_eq_true (by omega)] at h; exact h
theorem m_owes {K : Nat} {f t c : Int} {M : PM} {Q : Option PV → PM → Prop} (hf : hs f) (ht : hs t) (hc : kl c) (h : Q (some (.inl (mo M f t c))) M) : Call (K + 2) jModel_owes [.inr (.inr 52), .inl f, .inl t, .inl c] P0 P0 M Q :=
  c_m_owes (K + 1) f t c M Q (c_model_owedAt K f t c M _ ⟨⟨by omega, by omega⟩, h⟩)
theorem m_owedAt {K : Nat} {f t c : Int} {M : PM} {Q : Option PV → PM → Prop} (h : Q (some (.inl ((8 + (((5 * f) + t) * 3)) + c))) M) : Call (K + 1) jModel_owedAt [.inl f, .inl t, .inl c] P0 P0 M Q := c_model_owedAt K f t c M Q h
def md (M : PM) (h c : Int) : Int := s5 fun k => mo M h k c
theorem md_b {M : PM} (B : MB M) {h c : Int} (hh : hs h) (hc : kl c) : 0 ≤ md M h c ∧ md M h c ≤ 80 := by
  have z := B.2.2.2.2.2.1 h c hh hc
  have o := fun k hk => B.2.2.2.2.1 h k c hh hk hc
  have := o 0 (by omega); have := o 1 (by omega); have := o 2 (by omega); have := o 3 (by omega); have := o 4 (by omega)
  simp only [md, s5]
  rcases hs5 hh with rfl | rfl | rfl | rfl | rfl <;> omega
theorem m_due {K : Nat} {h c : Int} {M : PM} {Q : Option PV → PM → Prop} (hh : hs h) (hc : kl c) (hq : Q (some (.inl (md M h c))) M) : Call (K + 3) jModel_due [.inr (.inr 52), .inl h, .inl c] P0 P0 M Q := by
  refine c_m_due (K + 2) h c M Q ?_
  refine g_m_due_5 _ _ _ _ _ _ _ ⟨by decide, fun q => absurd q (by decide), fun _ => m_owes hh (by omega) hc ?_⟩
  refine g_m_due_5 _ _ _ _ _ _ _ ⟨by decide, fun q => absurd q (by decide), fun _ => m_owes hh (by omega) hc ?_⟩
  refine g_m_due_5 _ _ _ _ _ _ _ ⟨by decide, fun q => absurd q (by decide), fun _ => m_owes hh (by omega) hc ?_⟩
  refine g_m_due_5 _ _ _ _ _ _ _ ⟨by decide, fun q => absurd q (by decide), fun _ => m_owes hh (by omega) hc ?_⟩
  refine g_m_due_5 _ _ _ _ _ _ _ ⟨by decide, fun q => absurd q (by decide), fun _ => m_owes hh (by omega) hc ?_⟩
  refine g_m_due_5 _ _ _ _ _ _ _ ⟨by decide, fun _ => ?_, fun q => absurd q (by decide)⟩
  have e : 0 + mo M h 0 c + mo M h 1 c + mo M h 2 c + mo M h 3 c + mo M h 4 c = md M h c := by
    simp only [md, s5]
    omega
  rw [← e] at hq
  exact hq
theorem m_dueInAll {K : Nat} {h : Int} {M : PM} {Q : Option PV → PM → Prop} (hh : hs h) (hq : Q (some (.inl (s3 fun c => md M h c))) M) : Call (K + 4) jModel_dueInAll [.inr (.inr 52), .inl h] P0 P0 M Q :=
  c_m_dueInAll (K + 3) h M Q (m_due hh (by omega) (m_due hh (by omega) (m_due hh (by omega) hq)))
