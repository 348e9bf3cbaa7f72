/-- the phases of the constructors -/
abbrev phx (n j : Nat) : PH := (n, RFL.drop j)
def phk (n : Nat) (l : PF) (ph : PH) : Prop := n ≤ ph.1 ∧ ∀ x ∈ l, rfg ph.2 x.1 x.2.1 = x.2.2 + 1
theorem phk.lt {n : Nat} {l : PF} {ph : PH} (hp : phk n l ph) {a : Nat} (h : a < n) (h2 : a < 1000000) : a < ph.1 ∧ a < 1000000 := ⟨Nat.lt_of_lt_of_le h hp.1, h2⟩
theorem mfx.le {i mx k : Nat} {own : String} {t : Option FieldType} (f : mfx i own mx t) (h : k ≤ mx) : k ≤ (mr i).2.2.1 := by rw [f.2.1]; exact h
abbrev phk_1 : PH → Prop := phk 5 [(1, 3, 2), (1, 4, 3), (1, 5, 4)]
theorem phk_1_P0 : phk_1 P0 := ⟨by decide, by decide +kernel⟩
abbrev phk_5 : PH → Prop := phk 9 [(5, 3, 6), (5, 4, 7), (5, 5, 8)]
theorem phk_5_P0 : phk_5 P0 := ⟨by decide, by decide +kernel⟩
abbrev phk_11 : PH → Prop := phk 24 [(1, 3, 2), (1, 4, 3), (1, 5, 4), (11, 2, 12), (11, 5, 13), (11, 6, 14), (11, 7, 15), (11, 8, 16), (11, 9, 17), (11, 10, 18), (11, 11, 19), (11, 12, 20), (21, 0, 22), (21, 1, 23), (11, 13, 21), (11, 3, 1), (11, 4, 2)]
theorem phk_11_P0 : phk_11 P0 := ⟨by decide, by decide +kernel⟩
abbrev phk_24 : PH → Prop := phk 37 [(1, 3, 2), (1, 4, 3), (1, 5, 4), (24, 2, 25), (24, 5, 26), (24, 6, 27), (24, 7, 28), (24, 8, 29), (24, 9, 30), (24, 10, 31), (24, 11, 32), (24, 12, 33), (34, 0, 35), (34, 1, 36), (24, 13, 34), (24, 3, 1), (24, 4, 9)]
theorem phk_24_P0 : phk_24 P0 := ⟨by decide, by decide +kernel⟩
