/-! Reading a text: its words once more, kinds of both sides. -/
theorem rS_eq {L : Nat} (h : cl_L L) : ∀ j, 7 ≤ j → j ≤ 18 → gc_rS L j = L + (j - 6) := by
  intro j h1 h2
  have key : ∀ j, j < 19 → 7 ≤ j → gc_rS 11 j = 11 + (j - 6) ∧ gc_rS 54 j = 54 + (j - 6) := by decide
  have := key j (by omega) h1
  rcases h with rfl | rfl
  · exact this.1
  · exact this.2
theorem kc_or (x : Int32) : (x = 0 ∧ kc x = 0) ∨ (x = 1 ∧ kc x = 2) ∨ (x = 2 ∧ kc x = 3) ∨ (x = 3 ∧ kc x = 1) ∨ (x = 4 ∧ kc x = 59) ∨ (x = 6 ∧ kc x = 40) ∨ (x = 7 ∧ kc x = 41) ∨ (x = 8 ∧ kc x = 43) ∨ (x = 9 ∧ kc x = 42) ∨ (x = 10 ∧ kc x = 61) ∨ (x = 11 ∧ kc x = 91) ∨ (x = 12 ∧ kc x = 93) ∨ (x = 20 ∧ kc x = 300) ∨ (x = 21 ∧ kc x = 301) ∨ (x = 22 ∧ kc x = 304) ∨ (x = 23 ∧ kc x = 302) ∨ (x = 24 ∧ kc x = 305) ∨ (x = 25 ∧ kc x = 303) ∨ (x = 26 ∧ kc x = 307) ∨ (x = 27 ∧ kc x = 308) ∨ (x = 28 ∧ kc x = 306) ∨ (x = 29 ∧ kc x = 309) ∨ kc x = 1 := by
  by_cases h0 : x = 0
  · subst h0
    exact Or.inl ⟨rfl, rfl⟩
  refine Or.inr ?_
  by_cases h1 : x = 1
  · subst h1
    exact Or.inl ⟨rfl, rfl⟩
  refine Or.inr ?_
  by_cases h2 : x = 2
  · subst h2
    exact Or.inl ⟨rfl, rfl⟩
  refine Or.inr ?_
  by_cases h3 : x = 3
  · subst h3
    exact Or.inl ⟨rfl, rfl⟩
  refine Or.inr ?_
  by_cases h4 : x = 4
  · subst h4
    exact Or.inl ⟨rfl, rfl⟩
  refine Or.inr ?_
  by_cases h6 : x = 6
  · subst h6
    exact Or.inl ⟨rfl, rfl⟩
  refine Or.inr ?_
  by_cases h7 : x = 7
  · subst h7
    exact Or.inl ⟨rfl, rfl⟩
  refine Or.inr ?_
  by_cases h8 : x = 8
  · subst h8
    exact Or.inl ⟨rfl, rfl⟩
  refine Or.inr ?_
  by_cases h9 : x = 9
  · subst h9
    exact Or.inl ⟨rfl, rfl⟩
  refine Or.inr ?_
  by_cases h10 : x = 10
  · subst h10
    exact Or.inl ⟨rfl, rfl⟩
  refine Or.inr ?_
  by_cases h11 : x = 11
  · subst h11
    exact Or.inl ⟨rfl, rfl⟩
  refine Or.inr ?_
  by_cases h12 : x = 12
  · subst h12
    exact Or.inl ⟨rfl, rfl⟩
  refine Or.inr ?_
  by_cases h20 : x = 20
  · subst h20
    exact Or.inl ⟨rfl, rfl⟩
  refine Or.inr ?_
  by_cases h21 : x = 21
  · subst h21
    exact Or.inl ⟨rfl, rfl⟩
  refine Or.inr ?_
  by_cases h22 : x = 22
  · subst h22
    exact Or.inl ⟨rfl, rfl⟩
  refine Or.inr ?_
  by_cases h23 : x = 23
  · subst h23
    exact Or.inl ⟨rfl, rfl⟩
  refine Or.inr ?_
  by_cases h24 : x = 24
  · subst h24
    exact Or.inl ⟨rfl, rfl⟩
  refine Or.inr ?_
  by_cases h25 : x = 25
  · subst h25
    exact Or.inl ⟨rfl, rfl⟩
  refine Or.inr ?_
  by_cases h26 : x = 26
  · subst h26
    exact Or.inl ⟨rfl, rfl⟩
  refine Or.inr ?_
  by_cases h27 : x = 27
  · subst h27
    exact Or.inl ⟨rfl, rfl⟩
  refine Or.inr ?_
  by_cases h28 : x = 28
  · subst h28
    exact Or.inl ⟨rfl, rfl⟩
  refine Or.inr ?_
  by_cases h29 : x = 29
  · subst h29
    exact Or.inl ⟨rfl, rfl⟩
  refine Or.inr ?_
  unfold kc
  rw [if_neg h0, if_neg h1, if_neg h2, if_neg h3, if_neg h4, if_neg h6, if_neg h7, if_neg h8, if_neg h9, if_neg h10, if_neg h11, if_neg h12, if_neg h20, if_neg h21, if_neg h22, if_neg h23, if_neg h24, if_neg h25, if_neg h26, if_neg h27, if_neg h28, if_neg h29]
theorem kc_0 (x : Int32) : kc x = 0 ↔ x = 0 := by
  constructor
  · intro h
    rcases kc_or x with ⟨e, e2⟩ | ⟨e, e2⟩ | ⟨e, e2⟩ | ⟨e, e2⟩ | ⟨e, e2⟩ | ⟨e, e2⟩ | ⟨e, e2⟩ | ⟨e, e2⟩ | ⟨e, e2⟩ | ⟨e, e2⟩ | ⟨e, e2⟩ | ⟨e, e2⟩ | ⟨e, e2⟩ | ⟨e, e2⟩ | ⟨e, e2⟩ | ⟨e, e2⟩ | ⟨e, e2⟩ | ⟨e, e2⟩ | ⟨e, e2⟩ | ⟨e, e2⟩ | ⟨e, e2⟩ | ⟨e, e2⟩ | e2 <;> rw [e2] at h <;> first | exact e | exact absurd h (by decide)
  · intro h
    subst h
    rfl
theorem kc_1 (x : Int32) : kc x = 2 ↔ x = 1 := by
  constructor
  · intro h
    rcases kc_or x with ⟨e, e2⟩ | ⟨e, e2⟩ | ⟨e, e2⟩ | ⟨e, e2⟩ | ⟨e, e2⟩ | ⟨e, e2⟩ | ⟨e, e2⟩ | ⟨e, e2⟩ | ⟨e, e2⟩ | ⟨e, e2⟩ | ⟨e, e2⟩ | ⟨e, e2⟩ | ⟨e, e2⟩ | ⟨e, e2⟩ | ⟨e, e2⟩ | ⟨e, e2⟩ | ⟨e, e2⟩ | ⟨e, e2⟩ | ⟨e, e2⟩ | ⟨e, e2⟩ | ⟨e, e2⟩ | ⟨e, e2⟩ | e2 <;> rw [e2] at h <;> first | exact e | exact absurd h (by decide)
  · intro h
    subst h
    rfl
theorem kc_2 (x : Int32) : kc x = 3 ↔ x = 2 := by
  constructor
  · intro h
    rcases kc_or x with ⟨e, e2⟩ | ⟨e, e2⟩ | ⟨e, e2⟩ | ⟨e, e2⟩ | ⟨e, e2⟩ | ⟨e, e2⟩ | ⟨e, e2⟩ | ⟨e, e2⟩ | ⟨e, e2⟩ | ⟨e, e2⟩ | ⟨e, e2⟩ | ⟨e, e2⟩ | ⟨e, e2⟩ | ⟨e, e2⟩ | ⟨e, e2⟩ | ⟨e, e2⟩ | ⟨e, e2⟩ | ⟨e, e2⟩ | ⟨e, e2⟩ | ⟨e, e2⟩ | ⟨e, e2⟩ | ⟨e, e2⟩ | e2 <;> rw [e2] at h <;> first | exact e | exact absurd h (by decide)
  · intro h
    subst h
    rfl
theorem kc_4 (x : Int32) : kc x = 59 ↔ x = 4 := by
  constructor
  · intro h
    rcases kc_or x with ⟨e, e2⟩ | ⟨e, e2⟩ | ⟨e, e2⟩ | ⟨e, e2⟩ | ⟨e, e2⟩ | ⟨e, e2⟩ | ⟨e, e2⟩ | ⟨e, e2⟩ | ⟨e, e2⟩ | ⟨e, e2⟩ | ⟨e, e2⟩ | ⟨e, e2⟩ | ⟨e, e2⟩ | ⟨e, e2⟩ | ⟨e, e2⟩ | ⟨e, e2⟩ | ⟨e, e2⟩ | ⟨e, e2⟩ | ⟨e, e2⟩ | ⟨e, e2⟩ | ⟨e, e2⟩ | ⟨e, e2⟩ | e2 <;> rw [e2] at h <;> first | exact e | exact absurd h (by decide)
  · intro h
    subst h
    rfl
theorem kc_6 (x : Int32) : kc x = 40 ↔ x = 6 := by
  constructor
  · intro h
    rcases kc_or x with ⟨e, e2⟩ | ⟨e, e2⟩ | ⟨e, e2⟩ | ⟨e, e2⟩ | ⟨e, e2⟩ | ⟨e, e2⟩ | ⟨e, e2⟩ | ⟨e, e2⟩ | ⟨e, e2⟩ | ⟨e, e2⟩ | ⟨e, e2⟩ | ⟨e, e2⟩ | ⟨e, e2⟩ | ⟨e, e2⟩ | ⟨e, e2⟩ | ⟨e, e2⟩ | ⟨e, e2⟩ | ⟨e, e2⟩ | ⟨e, e2⟩ | ⟨e, e2⟩ | ⟨e, e2⟩ | ⟨e, e2⟩ | e2 <;> rw [e2] at h <;> first | exact e | exact absurd h (by decide)
  · intro h
    subst h
    rfl
theorem kc_7 (x : Int32) : kc x = 41 ↔ x = 7 := by
  constructor
  · intro h
    rcases kc_or x with ⟨e, e2⟩ | ⟨e, e2⟩ | ⟨e, e2⟩ | ⟨e, e2⟩ | ⟨e, e2⟩ | ⟨e, e2⟩ | ⟨e, e2⟩ | ⟨e, e2⟩ | ⟨e, e2⟩ | ⟨e, e2⟩ | ⟨e, e2⟩ | ⟨e, e2⟩ | ⟨e, e2⟩ | ⟨e, e2⟩ | ⟨e, e2⟩ | ⟨e, e2⟩ | ⟨e, e2⟩ | ⟨e, e2⟩ | ⟨e, e2⟩ | ⟨e, e2⟩ | ⟨e, e2⟩ | ⟨e, e2⟩ | e2 <;> rw [e2] at h <;> first | exact e | exact absurd h (by decide)
  · intro h
    subst h
    rfl
theorem kc_8 (x : Int32) : kc x = 43 ↔ x = 8 := by
  constructor
  · intro h
    rcases kc_or x with ⟨e, e2⟩ | ⟨e, e2⟩ | ⟨e, e2⟩ | ⟨e, e2⟩ | ⟨e, e2⟩ | ⟨e, e2⟩ | ⟨e, e2⟩ | ⟨e, e2⟩ | ⟨e, e2⟩ | ⟨e, e2⟩ | ⟨e, e2⟩ | ⟨e, e2⟩ | ⟨e, e2⟩ | ⟨e, e2⟩ | ⟨e, e2⟩ | ⟨e, e2⟩ | ⟨e, e2⟩ | ⟨e, e2⟩ | ⟨e, e2⟩ | ⟨e, e2⟩ | ⟨e, e2⟩ | ⟨e, e2⟩ | e2 <;> rw [e2] at h <;> first | exact e | exact absurd h (by decide)
  · intro h
    subst h
    rfl
theorem kc_9 (x : Int32) : kc x = 42 ↔ x = 9 := by
  constructor
  · intro h
    rcases kc_or x with ⟨e, e2⟩ | ⟨e, e2⟩ | ⟨e, e2⟩ | ⟨e, e2⟩ | ⟨e, e2⟩ | ⟨e, e2⟩ | ⟨e, e2⟩ | ⟨e, e2⟩ | ⟨e, e2⟩ | ⟨e, e2⟩ | ⟨e, e2⟩ | ⟨e, e2⟩ | ⟨e, e2⟩ | ⟨e, e2⟩ | ⟨e, e2⟩ | ⟨e, e2⟩ | ⟨e, e2⟩ | ⟨e, e2⟩ | ⟨e, e2⟩ | ⟨e, e2⟩ | ⟨e, e2⟩ | ⟨e, e2⟩ | e2 <;> rw [e2] at h <;> first | exact e | exact absurd h (by decide)
  · intro h
    subst h
    rfl
theorem kc_10 (x : Int32) : kc x = 61 ↔ x = 10 := by
  constructor
  · intro h
    rcases kc_or x with ⟨e, e2⟩ | ⟨e, e2⟩ | ⟨e, e2⟩ | ⟨e, e2⟩ | ⟨e, e2⟩ | ⟨e, e2⟩ | ⟨e, e2⟩ | ⟨e, e2⟩ | ⟨e, e2⟩ | ⟨e, e2⟩ | ⟨e, e2⟩ | ⟨e, e2⟩ | ⟨e, e2⟩ | ⟨e, e2⟩ | ⟨e, e2⟩ | ⟨e, e2⟩ | ⟨e, e2⟩ | ⟨e, e2⟩ | ⟨e, e2⟩ | ⟨e, e2⟩ | ⟨e, e2⟩ | ⟨e, e2⟩ | e2 <;> rw [e2] at h <;> first | exact e | exact absurd h (by decide)
  · intro h
    subst h
    rfl
theorem kc_11 (x : Int32) : kc x = 91 ↔ x = 11 := by
  constructor
  · intro h
    rcases kc_or x with ⟨e, e2⟩ | ⟨e, e2⟩ | ⟨e, e2⟩ | ⟨e, e2⟩ | ⟨e, e2⟩ | ⟨e, e2⟩ | ⟨e, e2⟩ | ⟨e, e2⟩ | ⟨e, e2⟩ | ⟨e, e2⟩ | ⟨e, e2⟩ | ⟨e, e2⟩ | ⟨e, e2⟩ | ⟨e, e2⟩ | ⟨e, e2⟩ | ⟨e, e2⟩ | ⟨e, e2⟩ | ⟨e, e2⟩ | ⟨e, e2⟩ | ⟨e, e2⟩ | ⟨e, e2⟩ | ⟨e, e2⟩ | e2 <;> rw [e2] at h <;> first | exact e | exact absurd h (by decide)
  · intro h
    subst h
    rfl
theorem kc_12 (x : Int32) : kc x = 93 ↔ x = 12 := by
  constructor
  · intro h
    rcases kc_or x with ⟨e, e2⟩ | ⟨e, e2⟩ | ⟨e, e2⟩ | ⟨e, e2⟩ | ⟨e, e2⟩ | ⟨e, e2⟩ | ⟨e, e2⟩ | ⟨e, e2⟩ | ⟨e, e2⟩ | ⟨e, e2⟩ | ⟨e, e2⟩ | ⟨e, e2⟩ | ⟨e, e2⟩ | ⟨e, e2⟩ | ⟨e, e2⟩ | ⟨e, e2⟩ | ⟨e, e2⟩ | ⟨e, e2⟩ | ⟨e, e2⟩ | ⟨e, e2⟩ | ⟨e, e2⟩ | ⟨e, e2⟩ | e2 <;> rw [e2] at h <;> first | exact e | exact absurd h (by decide)
  · intro h
    subst h
    rfl
theorem kc_20 (x : Int32) : kc x = 300 ↔ x = 20 := by
  constructor
  · intro h
    rcases kc_or x with ⟨e, e2⟩ | ⟨e, e2⟩ | ⟨e, e2⟩ | ⟨e, e2⟩ | ⟨e, e2⟩ | ⟨e, e2⟩ | ⟨e, e2⟩ | ⟨e, e2⟩ | ⟨e, e2⟩ | ⟨e, e2⟩ | ⟨e, e2⟩ | ⟨e, e2⟩ | ⟨e, e2⟩ | ⟨e, e2⟩ | ⟨e, e2⟩ | ⟨e, e2⟩ | ⟨e, e2⟩ | ⟨e, e2⟩ | ⟨e, e2⟩ | ⟨e, e2⟩ | ⟨e, e2⟩ | ⟨e, e2⟩ | e2 <;> rw [e2] at h <;> first | exact e | exact absurd h (by decide)
  · intro h
    subst h
    rfl
theorem kc_21 (x : Int32) : kc x = 301 ↔ x = 21 := by
  constructor
  · intro h
    rcases kc_or x with ⟨e, e2⟩ | ⟨e, e2⟩ | ⟨e, e2⟩ | ⟨e, e2⟩ | ⟨e, e2⟩ | ⟨e, e2⟩ | ⟨e, e2⟩ | ⟨e, e2⟩ | ⟨e, e2⟩ | ⟨e, e2⟩ | ⟨e, e2⟩ | ⟨e, e2⟩ | ⟨e, e2⟩ | ⟨e, e2⟩ | ⟨e, e2⟩ | ⟨e, e2⟩ | ⟨e, e2⟩ | ⟨e, e2⟩ | ⟨e, e2⟩ | ⟨e, e2⟩ | ⟨e, e2⟩ | ⟨e, e2⟩ | e2 <;> rw [e2] at h <;> first | exact e | exact absurd h (by decide)
  · intro h
    subst h
    rfl
theorem kc_22 (x : Int32) : kc x = 304 ↔ x = 22 := by
  constructor
  · intro h
    rcases kc_or x with ⟨e, e2⟩ | ⟨e, e2⟩ | ⟨e, e2⟩ | ⟨e, e2⟩ | ⟨e, e2⟩ | ⟨e, e2⟩ | ⟨e, e2⟩ | ⟨e, e2⟩ | ⟨e, e2⟩ | ⟨e, e2⟩ | ⟨e, e2⟩ | ⟨e, e2⟩ | ⟨e, e2⟩ | ⟨e, e2⟩ | ⟨e, e2⟩ | ⟨e, e2⟩ | ⟨e, e2⟩ | ⟨e, e2⟩ | ⟨e, e2⟩ | ⟨e, e2⟩ | ⟨e, e2⟩ | ⟨e, e2⟩ | e2 <;> rw [e2] at h <;> first | exact e | exact absurd h (by decide)
  · intro h
    subst h
    rfl
theorem kc_23 (x : Int32) : kc x = 302 ↔ x = 23 := by
  constructor
  · intro h
    rcases kc_or x with ⟨e, e2⟩ | ⟨e, e2⟩ | ⟨e, e2⟩ | ⟨e, e2⟩ | ⟨e, e2⟩ | ⟨e, e2⟩ | ⟨e, e2⟩ | ⟨e, e2⟩ | ⟨e, e2⟩ | ⟨e, e2⟩ | ⟨e, e2⟩ | ⟨e, e2⟩ | ⟨e, e2⟩ | ⟨e, e2⟩ | ⟨e, e2⟩ | ⟨e, e2⟩ | ⟨e, e2⟩ | ⟨e, e2⟩ | ⟨e, e2⟩ | ⟨e, e2⟩ | ⟨e, e2⟩ | ⟨e, e2⟩ | e2 <;> rw [e2] at h <;> first | exact e | exact absurd h (by decide)
  · intro h
    subst h
    rfl
theorem kc_24 (x : Int32) : kc x = 305 ↔ x = 24 := by
  constructor
  · intro h
    rcases kc_or x with ⟨e, e2⟩ | ⟨e, e2⟩ | ⟨e, e2⟩ | ⟨e, e2⟩ | ⟨e, e2⟩ | ⟨e, e2⟩ | ⟨e, e2⟩ | ⟨e, e2⟩ | ⟨e, e2⟩ | ⟨e, e2⟩ | ⟨e, e2⟩ | ⟨e, e2⟩ | ⟨e, e2⟩ | ⟨e, e2⟩ | ⟨e, e2⟩ | ⟨e, e2⟩ | ⟨e, e2⟩ | ⟨e, e2⟩ | ⟨e, e2⟩ | ⟨e, e2⟩ | ⟨e, e2⟩ | ⟨e, e2⟩ | e2 <;> rw [e2] at h <;> first | exact e | exact absurd h (by decide)
  · intro h
    subst h
    rfl
theorem kc_25 (x : Int32) : kc x = 303 ↔ x = 25 := by
  constructor
  · intro h
    rcases kc_or x with ⟨e, e2⟩ | ⟨e, e2⟩ | ⟨e, e2⟩ | ⟨e, e2⟩ | ⟨e, e2⟩ | ⟨e, e2⟩ | ⟨e, e2⟩ | ⟨e, e2⟩ | ⟨e, e2⟩ | ⟨e, e2⟩ | ⟨e, e2⟩ | ⟨e, e2⟩ | ⟨e, e2⟩ | ⟨e, e2⟩ | ⟨e, e2⟩ | ⟨e, e2⟩ | ⟨e, e2⟩ | ⟨e, e2⟩ | ⟨e, e2⟩ | ⟨e, e2⟩ | ⟨e, e2⟩ | ⟨e, e2⟩ | e2 <;> rw [e2] at h <;> first | exact e | exact absurd h (by decide)
  · intro h
    subst h
    rfl
theorem kc_26 (x : Int32) : kc x = 307 ↔ x = 26 := by
  constructor
  · intro h
    rcases kc_or x with ⟨e, e2⟩ | ⟨e, e2⟩ | ⟨e, e2⟩ | ⟨e, e2⟩ | ⟨e, e2⟩ | ⟨e, e2⟩ | ⟨e, e2⟩ | ⟨e, e2⟩ | ⟨e, e2⟩ | ⟨e, e2⟩ | ⟨e, e2⟩ | ⟨e, e2⟩ | ⟨e, e2⟩ | ⟨e, e2⟩ | ⟨e, e2⟩ | ⟨e, e2⟩ | ⟨e, e2⟩ | ⟨e, e2⟩ | ⟨e, e2⟩ | ⟨e, e2⟩ | ⟨e, e2⟩ | ⟨e, e2⟩ | e2 <;> rw [e2] at h <;> first | exact e | exact absurd h (by decide)
  · intro h
    subst h
    rfl
theorem kc_27 (x : Int32) : kc x = 308 ↔ x = 27 := by
  constructor
  · intro h
    rcases kc_or x with ⟨e, e2⟩ | ⟨e, e2⟩ | ⟨e, e2⟩ | ⟨e, e2⟩ | ⟨e, e2⟩ | ⟨e, e2⟩ | ⟨e, e2⟩ | ⟨e, e2⟩ | ⟨e, e2⟩ | ⟨e, e2⟩ | ⟨e, e2⟩ | ⟨e, e2⟩ | ⟨e, e2⟩ | ⟨e, e2⟩ | ⟨e, e2⟩ | ⟨e, e2⟩ | ⟨e, e2⟩ | ⟨e, e2⟩ | ⟨e, e2⟩ | ⟨e, e2⟩ | ⟨e, e2⟩ | ⟨e, e2⟩ | e2 <;> rw [e2] at h <;> first | exact e | exact absurd h (by decide)
  · intro h
    subst h
    rfl
theorem kc_28 (x : Int32) : kc x = 306 ↔ x = 28 := by
  constructor
  · intro h
    rcases kc_or x with ⟨e, e2⟩ | ⟨e, e2⟩ | ⟨e, e2⟩ | ⟨e, e2⟩ | ⟨e, e2⟩ | ⟨e, e2⟩ | ⟨e, e2⟩ | ⟨e, e2⟩ | ⟨e, e2⟩ | ⟨e, e2⟩ | ⟨e, e2⟩ | ⟨e, e2⟩ | ⟨e, e2⟩ | ⟨e, e2⟩ | ⟨e, e2⟩ | ⟨e, e2⟩ | ⟨e, e2⟩ | ⟨e, e2⟩ | ⟨e, e2⟩ | ⟨e, e2⟩ | ⟨e, e2⟩ | ⟨e, e2⟩ | e2 <;> rw [e2] at h <;> first | exact e | exact absurd h (by decide)
  · intro h
    subst h
    rfl
theorem kc_29 (x : Int32) : kc x = 309 ↔ x = 29 := by
  constructor
  · intro h
    rcases kc_or x with ⟨e, e2⟩ | ⟨e, e2⟩ | ⟨e, e2⟩ | ⟨e, e2⟩ | ⟨e, e2⟩ | ⟨e, e2⟩ | ⟨e, e2⟩ | ⟨e, e2⟩ | ⟨e, e2⟩ | ⟨e, e2⟩ | ⟨e, e2⟩ | ⟨e, e2⟩ | ⟨e, e2⟩ | ⟨e, e2⟩ | ⟨e, e2⟩ | ⟨e, e2⟩ | ⟨e, e2⟩ | ⟨e, e2⟩ | ⟨e, e2⟩ | ⟨e, e2⟩ | ⟨e, e2⟩ | ⟨e, e2⟩ | e2 <;> rw [e2] at h <;> first | exact e | exact absurd h (by decide)
  · intro h
    subst h
    rfl
/-- the class's number of a kind is the reference's -/
def kk (c k : Int32) : Prop := (∀ y, kc y = c ↔ y = k) ∧ k ≠ 0 ∧ k ≠ 3
theorem kk_c {c k : Int32} (h : kk c k) : c ≠ 0 ∧ c ≠ 1 := by
  obtain ⟨h1, h2, h3⟩ := h
  refine ⟨fun e => ?_, fun e => ?_⟩
  · exact h2 ((h1 0).mp (by rw [e]; rfl)).symm
  · exact h3 ((h1 3).mp (by rw [e]; rfl)).symm
theorem tk_sg_ne (c : Nat) : tk_sg c ≠ 0 ∧ tk_sg c ≠ 1 ∧ tk_sg c ≠ 2 ∧ tk_sg c ≠ 27 ∧ tk_sg c ≠ 29 := by
  unfold tk_sg
  repeat' split
  all_goals decide
theorem tk_kw_ne2 {kw : Nat → Nat} {x : Nat} {t0 : Int32} (h : t0 ≠ 2) : ∀ m, m ≤ 10 → tk_kw kw x t0 m ≠ 2 := by
  intro m
  induction m with
  | zero =>
    intro _
    exact h
  | succ m ih =>
    intro hm
    unfold tk_kw
    split
    · have key : ∀ m, m < 10 → nI (20 + m) ≠ 2 := by decide
      exact key m (by omega)
    · exact ih (by omega)
section Wz
variable {b : Nat → Nat} {n i : Nat}
theorem rk_let (h : rk b n i = 1 ∨ rk b n i = 27 ∨ rk b n i = 29) : tk_st b n i < n ∧ tk_L (nI (b (tk_st b n i))) = true ∧ tk_eL b n (tk_st b n i) - tk_st b n i ≤ 8 := by
  unfold rk tk_kd at h
  split at h
  · rcases h with e | e | e <;> exact absurd e (by decide)
  · rename_i h0
    split at h
    · rename_i h1
      split at h
      · exact ⟨by omega, h1, by omega⟩
      · split at h
        · exact ⟨by omega, h1, by omega⟩
        · rcases h with e | e | e <;> exact absurd e (by decide)
    · split at h
      · split at h <;> rcases h with e | e | e <;> exact absurd e (by decide)
      · have := tk_sg_ne (b (tk_st b n i))
        rcases h with e | e | e
        · exact absurd e this.2.1
        · exact absurd e this.2.2.2.1
        · exact absurd e this.2.2.2.2
theorem rk_dig (h : rk b n i = 2) : tk_st b n i < n ∧ tk_L (nI (b (tk_st b n i))) = false ∧ tk_D (nI (b (tk_st b n i))) = true ∧ tk_eD b n (tk_st b n i) - tk_st b n i ≤ 4 := by
  unfold rk tk_kd at h
  split at h
  · exact absurd h (by decide)
  · rename_i h0
    split at h
    · split at h
      · exact absurd h (tk_kw_ne2 (by decide) 10 (by decide))
      · split at h <;> exact absurd h (by decide)
    · rename_i h1
      split at h
      · rename_i h2
        split at h
        · rename_i h3
          exact ⟨by omega, by simpa using h1, h2, h3⟩
        · exact absurd h (by decide)
      · exact absurd h (tk_sg_ne _).2.2.1
/-- the i-th as a row of letters, as a number -/
def wdi (b : Nat → Nat) (n i : Nat) : List Nat := wrd b (tk_st b n i) (tk_eL b n (tk_st b n i) - tk_st b n i)
def nui (b : Nat → Nat) (n i : Nat) : Nat := tk_nu b (tk_st b n i) (tk_eD b n (tk_st b n i) - tk_st b n i)
theorem wdi_ok (hlt : ∀ j, b j < 256) (h : rk b n i = 1 ∨ rk b n i = 27 ∨ rk b n i = 29) : wok (wdi b n i) := by
  obtain ⟨h1, h2, h3⟩ := rk_let h
  have h4 := tk_eL_in h1 h2
  unfold wdi
  refine ⟨by rw [wrd_len]; exact h3, fun t ht => ?_⟩
  rw [wrd_len] at ht
  rw [wrd_at ht]
  exact (tk_L_iff (by have := hlt (tk_st b n i + t); omega)).mp (h4.2.2.1 _ (by omega) (by omega))
theorem tk_nu_lt {b : Nat → Nat} {i : Nat} : ∀ k, (∀ t, t < k → b (i + t) ≤ 57) → tk_nu b i k < 10 ^ k := by
  intro k
  induction k with
  | zero =>
    intro _
    exact Nat.one_pos
  | succ k ih =>
    intro h
    have h1 := ih (fun t ht => h t (by omega))
    have h2 := h k (by omega)
    unfold tk_nu
    rw [Nat.pow_succ]
    omega
theorem nui_lt (hlt : ∀ j, b j < 256) (h : rk b n i = 2) : nui b n i < 10000 := by
  obtain ⟨h1, h0, h2, h3⟩ := rk_dig h
  have h4 := tk_eD_in h1 h2
  unfold nui
  refine Nat.lt_of_lt_of_le (tk_nu_lt _ (fun t ht => ?_)) (Nat.le_trans (Nat.pow_le_pow_right (by decide) h3) (by decide))
  exact ((tk_D_iff (by have := hlt (tk_st b n i + t); omega)).mp (h4.2.2.1 _ (by omega) (by omega))).2
theorem nmC_at {T : Nat} {s : gc_St} {j : Nat} (h : cpw b n T j s) (hi : i < T) (hk : rk b n i = 1 ∨ rk b n i = 27 ∨ rk b n i = 29) : gc_J s 6 i = lN (wnum 32 (wdi b n i)) := by
  obtain ⟨h1, h2, h3⟩ := rk_let hk
  rw [(h.2.1 i hi).2.2.1 h1 h2]
  unfold wdi
  rw [wnum_wrd]
theorem nuC_at {T : Nat} {s : gc_St} {j : Nat} (h : cpw b n T j s) (hi : i < T) (hk : rk b n i = 2) : gc_I s 7 i = nI (nui b n i) := by
  obtain ⟨h1, h0, h2, h3⟩ := rk_dig hk
  exact (h.2.1 i hi).2.2.2 h1 h2
theorem nmR_at {T : Nat} {s : gc_St} {j : Nat} (h : rpw b n T j s) (hi : i < T) (hk : rk b n i = 1 ∨ rk b n i = 27 ∨ rk b n i = 29) : gc_J s 74 i = lN (wnum 27 (wdi b n i)) := by
  obtain ⟨h1, h2, h3⟩ := rk_let hk
  rw [(h.2.1 i hi).2.2.2]
  unfold wdi tk_na
  rw [wnum_wrd, if_neg (by omega), if_pos h2, Nat.min_eq_left h3]
theorem nuR_at {T : Nat} {s : gc_St} {j : Nat} (h : rpw b n T j s) (hi : i < T) (hk : rk b n i = 2) : gc_I s 73 i = nI (nui b n i) := by
  obtain ⟨h1, h0, h2, h3⟩ := rk_dig hk
  rw [(h.2.1 i hi).2.2.1]
  unfold nui tk_vl
  rw [if_neg (by omega), if_neg (by rw [h0]; decide), if_pos h2, Nat.min_eq_left h3]
theorem tk_end_gt (h : i < n) : i < tk_end b n i := by
  unfold tk_end
  split
  · rename_i h1
    exact (tk_eL_in h h1).1
  · split
    · rename_i h1
      exact (tk_eD_in h h1).1
    · omega
theorem tk_pos_n : ∀ i, (∀ j, j < i → tk_st b n j < n) → tk_pos b n i ≤ n := by
  intro i
  cases i with
  | zero =>
    intro _
    exact Nat.zero_le _
  | succ i =>
    intro h
    exact tk_end_n (h i (by omega))
theorem tk_st_n (h : ∀ j, j < i → tk_st b n j < n) : tk_st b n i ≤ n := (tk_skp_in (tk_pos_n i h)).2
theorem tk_st_S (h : tk_st b n i < n) : tk_st b n i < tk_st b n (i + 1) := by
  have h1 : tk_pos b n (i + 1) = tk_end b n (tk_st b n i) := rfl
  have h2 := tk_end_gt (b := b) h
  have h3 : tk_pos b n (i + 1) ≤ n := by
    rw [h1]
    exact tk_end_n h
  have h4 := (tk_skp_in (b := b) h3).1
  show tk_st b n i < tk_skp b n (tk_pos b n (i + 1))
  omega
end Wz
