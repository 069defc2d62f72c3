/-! read: a law that is taken, by the reference. -/
section Xw
variable {s t : gc_St} {a : gA} {lv : Nat} {W : ld_W} {nl : List (List Nat × Nat × Nat)} {h : Nat × Nat × Nat}
theorem RI_new (hR : RI a lv s) (g : fr Arg Brg s t) (hlv : lv < 2) (hok' : ld_ok W) (r1 : gc_F t 67 3 = 0) (r2 : gc_F t 67 18 = -1) (r3 : gc_F t 67 19 = nI (1 - lv) ∧ cnR W (1 - lv) t ∧ lwR W (1 - lv) t) (r4 : nmR nl (1 - lv) t ∧ gc_I t 79 (1 - lv) = nI (16 * (1 - lv) + nl.length)) (r5 : rqh h t) (ho : hok W h) (r6 : gc_F t 67 53 = -1 ∧ gc_F t 67 77 = 0 ∧ gc_F t 67 68 = 0) (r7 : ∀ k, k < 3 → gc_I t 112 k = 0) : RI (W, nl, 0, h, fun _ => none, [], ako a, none, -1) (1 - lv) t := by
  obtain ⟨_, ⟨_, _, h4, h5⟩, _, _, ⟨_, h9⟩, _, _⟩ := hR
  obtain ⟨c0, c1, c2⟩ := r3
  refine ⟨⟨⟨⟨by omega, c0, hok'⟩, c1, fun k hk => (c2.1 k hk).1, c2.2.1, c2.2.2.1, c2.2.2.2.1, c2.2.2.2.2⟩, ⟨-1, r6.1, Or.inl rfl⟩, r5, ho⟩, ⟨r4.1, r4.2, fun k hk => ?_, fun k hk => ?_⟩, r1, fun k hk => Or.inl ⟨rfl, r7 k hk⟩, ⟨⟨r6.2.1, fun i l hl => absurd (show (none : Option (Nat × Nat × Nat)) = some l from hl) (by simp)⟩, ?_⟩, Or.inl ⟨rfl, r6.2.2⟩, r2⟩
  · rw [fr_J g rfl]
    exact h4 k hk
  · rw [fr_J g rfl]
    exact h5 k hk
  · exact (fr_F g rfl).trans h9
end Xw
