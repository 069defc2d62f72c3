/-! read: a text that is not taken. -/
section Xr
variable {P : gc_Pr} {d : Nat} {s t u : gc_St} {a : gA} {L lv v : Nat}
theorem CI_rd {pl : Int32} {s1 : gc_St} (h : CI a L v s1) (g : fr (Ard (65 - L)) (Brd (65 - L)) s1 t) (c1 : gc_F t 1 1 = 0) (c2 : gc_F t 0 12 = pl) : CI (setA a 0 (ah a) (asl a) (aps a) pl) L v t := by
  obtain ⟨h1, ⟨h2, h3, h4⟩, h5, h6, ⟨h7, h8, h9⟩, h10, h11, h12, h13, h14⟩ := h
  have hL := h1.1.1.1
  have hok' := h1.1.1.2.2.2.1
  have hF : ∀ q k, q ≠ 3 → q ≠ 9 → q ≠ 65 - L → q ≠ 1 → q ≠ 0 → gc_F t q k = gc_F s1 q k := fun q k a1 a2 a3 a4 a5 => fr_F g (bf fun z => by have := Ard_iff.mp z; omega)
  have hI : ∀ x, ¬ ((65 - L + 1 ≤ x ∧ x ≤ 65 - L + 12) ∨ (4 ≤ x ∧ x ≤ 7)) → gc_I t x = gc_I s1 x := fun x hx => fr_I g (bf fun z => hx (Brd_iff.mp z))
  have hJ : ∀ x, ¬ ((65 - L + 1 ≤ x ∧ x ≤ 65 - L + 12) ∨ (4 ≤ x ∧ x ≤ 7)) → gc_J t x = gc_J s1 x := fun x hx => fr_J g (bf fun z => hx (Brd_iff.mp z))
  have hr : ∀ j, ¬ ((65 - L + 1 ≤ gc_rS L j ∧ gc_rS L j ≤ 65 - L + 12) ∨ (4 ≤ gc_rS L j ∧ gc_rS L j ≤ 7)) := by
    intro j
    rcases Nat.lt_or_ge j 19 with e | e
    · have key : ∀ j, j < 19 → ¬ ((55 ≤ gc_rS 11 j ∧ gc_rS 11 j ≤ 66) ∨ (4 ≤ gc_rS 11 j ∧ gc_rS 11 j ≤ 7)) ∧ ¬ ((12 ≤ gc_rS 54 j ∧ gc_rS 54 j ≤ 23) ∨ (4 ≤ gc_rS 54 j ∧ gc_rS 54 j ≤ 7)) := by decide
      rcases hL with rfl | rfl
      · exact (key j e).1
      · exact (key j e).2
    · have : gc_rS L j = 0 := by
        unfold gc_rS
        rw [List.getD_eq_getElem?_getD, List.getElem?_eq_none]
        · rfl
        · rcases hL with rfl | rfl
          · exact e
          · exact e
      omega
  have hLn : L ≠ 3 ∧ L ≠ 9 ∧ L ≠ 65 - L ∧ L ≠ 1 ∧ L ≠ 0 := by rcases hL with e | e <;> omega
  have h11' : 65 - L = 11 ∨ 65 - L = 54 := by rcases hL with e | e <;> omega
  have hFL : ∀ k, gc_F t L k = gc_F s1 L k := fun k => hF L k hLn.1 hLn.2.1 hLn.2.2.1 hLn.2.2.2.1 hLn.2.2.2.2
  refine ⟨⟨⟨⟨hL, (fr_lw g).trans h1.1.1.2.1, cl_law_of (funext hFL) (fun j => hI _ (hr j)) h1.1.1.2.2.1, hok', ?_⟩, cl_rows_fr h1.1.2 g (bf fun z => by have := Ard_iff.mp z; omega) (fun x hx => bf fun z => by have := Brd_iff.mp z; omega) hok'.1.2.2.2.2⟩, h1.2.1, ⟨(hF 49 0 (by omega) (by omega) (by omega) (by omega) (by omega)).trans h1.2.2.1.1, (hF 49 1 (by omega) (by omega) (by omega) (by omega) (by omega)).trans h1.2.2.1.2.1, (hF 49 2 (by omega) (by omega) (by omega) (by omega) (by omega)).trans h1.2.2.1.2.2⟩, h1.2.2.2⟩, ⟨nmC_of h2 (hFL 6) (hJ _ (hr 17)) (hI _ (hr 18)), fun k hk => by rw [hJ 8 (by omega)]; exact h3 k hk, (fr_dr g).trans h4⟩, c1, ?_, ⟨⟨(hF 40 5 (by omega) (by omega) (by omega) (by omega) (by omega)).trans h7.1, ?_⟩, (hF 40 4 (by omega) (by omega) (by omega) (by omega) (by omega)).trans h8, ?_⟩, ?_, c2, ?_, ?_, ?_⟩
  · unfold cl_tg
    rw [hI 27 (by omega)]
    exact h1.1.1.2.2.2.2
  · intro k hk
    have e : ∀ j, gc_F t (51 + k) j = gc_F s1 (51 + k) j := fun j => hF _ j (by omega) (by omega) (by omega) (by omega) (by omega)
    rw [e 3, e 0, e 1, e 2]
    exact h6 k hk
  · rw [hI 41 (by omega), hI 42 (by omega), hI 43 (by omega)]
    exact h7.2
  · unfold vK at h9 ⊢
    rw [hI 24 (by omega)]
    exact h9
  · unfold psC at h10 ⊢
    rw [hF 28 16 (by omega) (by omega) (by omega) (by omega) (by omega), hF 28 17 (by omega) (by omega) (by omega) (by omega) (by omega), hF 28 18 (by omega) (by omega) (by omega) (by omega) (by omega), hF 28 19 (by omega) (by omega) (by omega) (by omega) (by omega)]
    exact h10
  · unfold bev at h12 ⊢
    rw [fr_be g, fr_gk g]
    exact h12
  · unfold stl stA ptd at h13 ⊢
    rw [hF 45 3 (by omega) (by omega) (by omega) (by omega) (by omega), hF 45 0 (by omega) (by omega) (by omega) (by omega) (by omega), hF 45 1 (by omega) (by omega) (by omega) (by omega) (by omega), hF 45 2 (by omega) (by omega) (by omega) (by omega) (by omega), hF 44 3 (by omega) (by omega) (by omega) (by omega) (by omega), hF 44 4 (by omega) (by omega) (by omega) (by omega) (by omega), hF 44 5 (by omega) (by omega) (by omega) (by omega) (by omega), hI 47 (by omega), hI 48 (by omega)]
    exact h13
  · unfold cnt at h14 ⊢
    rw [fr_n g, fr_Y g, fr_be g]
    exact h14
theorem rf_kp {W : ld_W} (h : rf_law W lv s) (h19 : gc_F t 67 19 = gc_F s 67 19) (g : kpR lv s t) : rf_law W lv t := by
  obtain ⟨⟨q1, q2, q3⟩, ⟨q4, q5, q6, q7, q8⟩, q9, q10, q11, q12, q13⟩ := h
  obtain ⟨w1, w2, w3, w4, w5⟩ := q3.1
  have one : ∀ x, wid x = 1 → gc_I t x lv = gc_I s x lv := fun x hx => by
    have := (g x 0 (by omega)).1
    rw [hx, Nat.one_mul, Nat.add_zero] at this
    exact this
  have w : ∀ x n, wid x = n → ∀ k, k < n → gc_I t x (n * lv + k) = gc_I s x (n * lv + k) := fun x n hx k hk => by
    have := (g x k (by omega)).1
    rw [hx] at this
    exact this
  refine ⟨⟨q1, h19.trans q2, q3⟩, ⟨(one 80 rfl).trans q4, (one 83 rfl).trans q5, (one 86 rfl).trans q6, (one 90 rfl).trans q7, (one 93 rfl).trans q8⟩, fun k hk => (w 81 4 rfl k (by omega)).trans (q9 k hk), fun k hk => ⟨(w 84 3 rfl k (by omega)).trans (q10 k hk).1, (w 85 3 rfl k (by omega)).trans (q10 k hk).2⟩, fun k hk => ⟨(w 87 3 rfl k (by omega)).trans (q11 k hk).1, (w 88 3 rfl k (by omega)).trans (q11 k hk).2.1, (w 89 3 rfl k (by omega)).trans (q11 k hk).2.2⟩, fun k hk => ⟨(w 91 6 rfl k (by omega)).trans (q12 k hk).1, (w 92 6 rfl k (by omega)).trans (q12 k hk).2⟩, fun k hk => ⟨(w 94 24 rfl k (by omega)).trans (q13 k hk).1, (w 95 24 rfl k (by omega)).trans (q13 k hk).2.1, (w 96 24 rfl k (by omega)).trans (q13 k hk).2.2⟩⟩
end Xr
