/-! read: a text that is not taken, by the reference. -/
section Xv
variable {P : gc_Pr} {d : Nat} {s t u : gc_St} {a : gA} {L lv v : Nat}
theorem RI_rd {pl : Int32} (h : RI a lv s) (g : fr Arf Brf s t) (kp : kpR lv s t) (r1 : gc_F t 67 3 = 0) (r2 : gc_F t 67 18 = pl) : RI (setA a 0 (ah a) (asl a) (aps a) pl) lv t := by
  obtain ⟨⟨h1, hft, hh, hb⟩, ⟨h2, h3, h4, h5⟩, _, h7, ⟨h8, h9⟩, h10, _⟩ := h
  have hF : ∀ k, ¬ (k = 3 ∨ k = 5 ∨ (11 ≤ k ∧ k ≤ 18) ∨ k = 20 ∨ k = 21 ∨ k = 43 ∨ k = 46 ∨ k = 48) → gc_F t 67 k = gc_F s 67 k := fun k hk => fr_F g (bf fun z => hk (Arf_iff.mp z).2)
  have hI : ∀ x, ¬ ((70 ≤ x ∧ x ≤ 74) ∨ (76 ≤ x ∧ x ≤ 78) ∨ (80 ≤ x ∧ x ≤ 99)) → gc_I t x = gc_I s x := fun x hx => fr_I g (bf fun z => hx (Brf_iff.mp z))
  have hJ : ∀ x, ¬ ((70 ≤ x ∧ x ≤ 74) ∨ (76 ≤ x ∧ x ≤ 78) ∨ (80 ≤ x ∧ x ≤ 99)) → gc_J t x = gc_J s x := fun x hx => fr_J g (bf fun z => hx (Brf_iff.mp z))
  refine ⟨⟨rf_kp h1 (hF 19 (by decide)) kp, ?_, ⟨(hF 49 (by decide)).trans hh.1, (hF 50 (by decide)).trans hh.2.1, (hF 51 (by decide)).trans hh.2.2⟩, hb⟩, ⟨⟨h2.1, h2.2.1, fun k e he => ?_⟩, by rw [hI 79 (by decide)]; exact h3, fun k hk => by rw [hJ 68 (by decide)]; exact h4 k hk, fun k hk => by rw [hJ 75 (by decide)]; exact h5 k hk⟩, r1, slR_fr h7 g ⟨rfl, rfl, rfl, rfl⟩, ⟨mP_fr h8 g rfl rfl, (hF 79 (by decide)).trans h9⟩, psR_fr h10 g (fun j h1 h2 => bf fun z => by have := (Arf_iff.mp z).2; omega), r2⟩
  · unfold rft rtt at hft ⊢
    rw [hF 53 (by decide), hI 100 (by decide)]
    exact hft
  · obtain ⟨q1, q2, q3, q4⟩ := h2.2.2 k e he
    have hk : k < 16 := by
      have : k < (aN a).length := (List.getElem?_eq_some_iff.mp he).1
      have := h2.2.1
      omega
    exact ⟨q1, ((kp 76 k hk).2).trans q2, ((kp 77 k hk).1).trans q3, ((kp 78 k hk).1).trans q4⟩
end Xv
