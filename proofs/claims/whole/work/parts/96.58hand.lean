/-! The calls that change what is held. -/
theorem slC_fr {A : Nat → Nat → Bool} {B : Nat → Bool} {sl : Nat → Option (Nat × Nat × Nat)} {s t : gc_St} (h : slC sl s) (g : fr A B s t) (hA : ∀ k j, k < 3 → A (51 + k) j = false) : slC sl t := by
  intro k hk
  have e : ∀ j, gc_F t (51 + k) j = gc_F s (51 + k) j := fun j => fr_F g (hA k j hk)
  rw [e 3, e 0, e 1, e 2]
  exact h k hk
theorem psC_fr {A : Nat → Nat → Bool} {B : Nat → Bool} {r : Option (Int32 × Int32 × Int32)} {s t : gc_St} (h : psC r s) (g : fr A B s t) (hA : ∀ j, 16 ≤ j → j ≤ 19 → A 28 j = false) : psC r t := by
  unfold psC at h ⊢
  rw [fr_F g (hA 16 (by decide) (by decide)), fr_F g (hA 17 (by decide) (by decide)), fr_F g (hA 18 (by decide) (by decide)), fr_F g (hA 19 (by decide) (by decide))]
  exact h
theorem slR_fr {A : Nat → Nat → Bool} {B : Nat → Bool} {sl : Nat → Option (Nat × Nat × Nat)} {s t : gc_St} (h : slR sl s) (g : fr A B s t) (hB : B 112 = false ∧ B 113 = false ∧ B 114 = false ∧ B 115 = false) : slR sl t := by
  unfold slR at h ⊢
  rw [fr_I g hB.1, fr_I g hB.2.1, fr_I g hB.2.2.1, fr_I g hB.2.2.2]
  exact h
theorem psR_fr {A : Nat → Nat → Bool} {B : Nat → Bool} {r : Option (Int32 × Int32 × Int32)} {s t : gc_St} (h : psR r s) (g : fr A B s t) (hA : ∀ j, 68 ≤ j → j ≤ 71 → A 67 j = false) : psR r t := by
  unfold psR at h ⊢
  rw [fr_F g (hA 68 (by decide) (by decide)), fr_F g (hA 69 (by decide) (by decide)), fr_F g (hA 70 (by decide) (by decide)), fr_F g (hA 71 (by decide) (by decide))]
  exact h
section Xg
variable {P : gc_Pr} {d : Nat} {s t u : gc_St} {a : gA} {L lv v : Nat}
abbrev setA (a : gA) (n : Nat) (h : Nat × Nat × Nat) (sl : Nat → Option (Nat × Nat × Nat)) (ps : Option (Int32 × Int32 × Int32)) (pl : Int32) : gA := (aW a, aN a, n, h, sl, aK a, ako a, ps, pl)
theorem XI_gen {A A' : Nat → Nat → Bool} {B B' : Nat → Bool} {n : Nat} {h : Nat × Nat × Nat} {sl : Nat → Option (Nat × Nat × Nat)} {ps : Option (Int32 × Int32 × Int32)} {pl : Int32} (hX : XI a L lv v s) (g : fr A B s t) (hA : ∀ q k, A q k = true → q = 0 ∨ q = 1 ∨ q = 3 ∨ q = 28 ∨ q = 49 ∨ (51 ≤ q ∧ q ≤ 53)) (hB : ∀ x, B x = true → x = 2 ∨ (4 ≤ x ∧ x ≤ 7) ∨ (29 ≤ x ∧ x ≤ 31)) (g2 : fr A' B' t u) (hA' : ∀ q k, A' q k = true → q = 67 ∧ k ≠ 19 ∧ k ≠ 53 ∧ k ≠ 77 ∧ k ≠ 79) (hB' : ∀ x, B' x = true → (69 ≤ x ∧ x ≤ 74) ∨ (107 ≤ x ∧ x ≤ 109) ∨ (112 ≤ x ∧ x ≤ 115))
    (c1 : gc_F t 1 1 = nI n) (c2 : gc_F t 49 0 = nI h.1 ∧ gc_F t 49 1 = nI h.2.1 ∧ gc_F t 49 2 = nI h.2.2) (c3 : slC sl t) (c4 : psC ps t) (c5 : gc_F t 0 12 = pl) (r1 : gc_F u 67 3 = nI n) (r2 : rqh h u) (r3 : slR sl u) (r4 : psR ps u) (r5 : gc_F u 67 18 = pl) (hn : n ≤ 2000) (hh : hok (aW a) h) (hs : ∀ k h, sl k = some h → hok (aW a) h) (hT : TI n u) : XI (setA a n h sl ps pl) L lv v u := by
  obtain ⟨⟨_, a2, a3, _, a5⟩, hC, hR, _⟩ := hX
  refine ⟨⟨hn, a2, a3, hs, a5⟩, ?_, ?_, hT⟩
  · have hC' : CI (setA a n h sl ps pl) L v t := by
      obtain ⟨h1, ⟨h2, h3, h4⟩, _, _, ⟨h7, h8, h9⟩, _, _, h12, h13, h14⟩ := hC
      have hF : ∀ q k, ¬ (q = 0 ∨ q = 1 ∨ q = 3 ∨ q = 28 ∨ q = 49 ∨ (51 ≤ q ∧ q ≤ 53)) → gc_F t q k = gc_F s q k := fun q k hq => fr_F g (bf fun z => hq (hA q k z))
      have hI : ∀ x, ¬ (x = 2 ∨ (4 ≤ x ∧ x ≤ 7) ∨ (29 ≤ x ∧ x ≤ 31)) → gc_I t x = gc_I s x := fun x hx => fr_I g (bf fun z => hx (hB x z))
      have hJ : ∀ x, ¬ (x = 2 ∨ (4 ≤ x ∧ x ≤ 7) ∨ (29 ≤ x ∧ x ≤ 31)) → gc_J t x = gc_J s x := fun x hx => fr_J g (bf fun z => hx (hB x z))
      have hL := h1.1.1.1
      have hLn : ¬ (L = 0 ∨ L = 1 ∨ L = 3 ∨ L = 28 ∨ L = 49 ∨ (51 ≤ L ∧ L ≤ 53)) := by rcases hL with e | e <;> omega
      have hr : ¬ (gc_rS L 17 = 2 ∨ (4 ≤ gc_rS L 17 ∧ gc_rS L 17 ≤ 7) ∨ (29 ≤ gc_rS L 17 ∧ gc_rS L 17 ≤ 31)) ∧ ¬ (gc_rS L 18 = 2 ∨ (4 ≤ gc_rS L 18 ∧ gc_rS L 18 ≤ 7) ∨ (29 ≤ gc_rS L 18 ∧ gc_rS L 18 ≤ 31)) := by
        rcases hL with e | e <;> rw [e] <;> decide
      refine ⟨⟨mvS_fr h1.1 g ⟨bf fun z => by have := hA 10 1 z; omega, fun k => ⟨bf fun z => by have := hA 11 k z; omega, bf fun z => by have := hA 54 k z; omega⟩⟩ (fun x hx => bf fun z => by have := hB x z; omega), h1.2.1, c2, hh⟩, ⟨nmC_of h2 (hF L 6 hLn) (hJ _ hr.1) (hI _ hr.2), fun k hk => by rw [hJ 8 (by decide)]; exact h3 k hk, (fr_dr g).trans h4⟩, c1, c3, ⟨⟨(hF 40 5 (by decide)).trans h7.1, ?_⟩, (hF 40 4 (by decide)).trans h8, ?_⟩, c4, c5, ?_, ?_, ?_⟩
      · rw [hI 41 (by decide), hI 42 (by decide), hI 43 (by decide)]
        exact h7.2
      · unfold vK at h9 ⊢
        rw [hI 24 (by decide)]
        exact h9
      · unfold bev at h12 ⊢
        rw [fr_be g, fr_gk g]
        exact h12
      · unfold stl stA ptd at h13 ⊢
        rw [hF 45 3 (by decide), hF 45 0 (by decide), hF 45 1 (by decide), hF 45 2 (by decide), hF 44 3 (by decide), hF 44 4 (by decide), hF 44 5 (by decide), hI 47 (by decide), hI 48 (by decide)]
        exact h13
      · unfold cnt at h14 ⊢
        rw [fr_n g, fr_Y g, fr_be g]
        exact h14
    exact CI_kC hC' (fr_up g2 (fun q k z => AR_iff.mpr (hA' q k z).1) (fun x z => BR_iff.mpr (by have := hB' x z; omega)))
  · have hR' := RI_kR hR (kR_fr g (fun q k z => by have := hA q k z; omega) (fun x z => by have := hB x z; omega))
    obtain ⟨⟨h1, hft, _, _⟩, ⟨h2, h3, h4, h5⟩, _, _, ⟨h8, h9⟩, _, _⟩ := hR'
    have hF : ∀ k, k = 19 ∨ k = 53 ∨ k = 77 ∨ k = 79 → gc_F u 67 k = gc_F t 67 k := fun k hk => fr_F g2 (bf fun z => by have := (hA' 67 k z).2; omega)
    have hI : ∀ x, ¬ ((69 ≤ x ∧ x ≤ 74) ∨ (107 ≤ x ∧ x ≤ 109) ∨ (112 ≤ x ∧ x ≤ 115)) → gc_I u x = gc_I t x := fun x hx => fr_I g2 (bf fun z => hx (hB' x z))
    have hJ : ∀ x, ¬ ((69 ≤ x ∧ x ≤ 74) ∨ (107 ≤ x ∧ x ≤ 109) ∨ (112 ≤ x ∧ x ≤ 115)) → gc_J u x = gc_J t x := fun x hx => fr_J g2 (bf fun z => hx (hB' x z))
    refine ⟨⟨rf_law_of h1 (hF 19 (by decide)) (fun x hx => hI x (fun z => by
      unfold rfB at hx
      simp only [Bool.and_eq_true, Nat.ble_eq] at hx
      omega)), ?_, r2, hh⟩, ⟨nmR_of h2 (hJ 76 (by decide)) (hI 77 (by decide)) (hI 78 (by decide)), by rw [hI 79 (by decide)]; exact h3, fun k hk => by rw [hJ 68 (by decide)]; exact h4 k hk, fun k hk => by rw [hJ 75 (by decide)]; exact h5 k hk⟩, r1, r3, ⟨⟨(hF 77 (by decide)).trans h8.1, ?_⟩, (hF 79 (by decide)).trans h9⟩, r4, r5⟩
    · unfold rft rtt at hft ⊢
      rw [hF 53 (by decide), hI 100 (by decide)]
      exact hft
    · rw [hI 111 (by decide)]
      exact h8.2
theorem gen_R (hX : XI a L lv v s) {A : Nat → Nat → Bool} {B : Nat → Bool} (g : fr A B s t) (hA : ∀ q k, A q k = true → q ≠ 67) (hB : ∀ x, B x = true → x < 67) : RI a lv t := RI_kR hX.2.2.1 (kR_fr g hA hB)
theorem c_put (hP : gc_Cl P) (hm : gc_Mo P) (hd : 20 ≤ d) (hX : XI a L lv v s) {c x : Int32} : step2 P d v s 130 [.ref 0, .int c, .int x] 226 [.ref 67, .int c, .int x] := by
  obtain ⟨hC, hl, hk0, h256, _⟩ := XI_b hX
  have hg4 := hk0.1.1
  have e1 := hX.2.1.1.2.2.1
  have e2 := hX.2.2.1.1.2.2.1
  have hb := hX.2.1.1.2.2.2
  refine ⟨0, 0, by decide, sp_putC hP hm (by omega) hC e1.1 h256 (fun k j hk hc hj hx => ⟨1, rfl, rfl, ?_⟩) (fun z => pure2 hX _ fun Q q => sp_mputR hP hm (by omega) hl e2.1 h256 (fun k' j' hk' hc' hj' hx' => ?_) (fun _ => q))⟩
  · have g : fr (Aq 49) B0 s (gc_wF s 49 0 (nI (st_pt (ah a).1 k j))) := fr_wF rfl (fr_refl s)
    have hR := gen_R hX g (fun q k z => by have := Aq_iff.mp z; omega) (fun x z => (B0_f z).elim)
    have hp := st_pt_lt hg4 hb.1 hk hj
    refine sp_mputR hP hm (by omega) hR.1.1 hR.1.2.2.1.1 h256 (fun k' j' hk' hc' hj' hx' => ?_) (fun z => (z.elim (fun z => absurd hc (z k hk)) (fun z => absurd hx (z j hj))))
    rw [← nI_k hk hk' (by omega) hc hc', ← nI_k hj hj' (by decide) hx hx']
    refine xR_of (XI_hand (h := (st_pt (ah a).1 k j, (ah a).2.1, (ah a).2.2)) hX g ⟨F_eq _ _ _ _, (F_ne _ _ (Or.inr (by decide))).trans e1.2.1, (F_ne _ _ (Or.inr (by decide))).trans e1.2.2⟩ (fr_wF rfl (fr_refl _)) ⟨F_eq _ _ _ _, ?_, ?_⟩ ⟨hp, hb.2.1, hb.2.2⟩) rfl
    · exact (F_ne _ _ (Or.inr (by decide))).trans hR.1.2.2.1.2.1
    · exact (F_ne _ _ (Or.inr (by decide))).trans hR.1.2.2.1.2.2
  · exact (z.elim (fun z => absurd hc' (z k' hk')) (fun z => absurd hx' (z j' hj')))
theorem c_oath (hP : gc_Cl P) (hm : gc_Mo P) (hd : 20 ≤ d) (hX : XI a L lv v s) {c x : Int32} : step2 P d v s 131 [.ref 0, .int c, .int x] 227 [.ref 67, .int c, .int x] := by
  obtain ⟨hC, hl, hk0, h256, h8, h8'⟩ := XI_b hX
  have ho3 := hk0.1.2.1
  have e1 := hX.2.1.1.2.2.1
  have e2 := hX.2.2.1.1.2.2.1
  have hb := hX.2.1.1.2.2.2
  refine ⟨0, 0, by decide, sp_oathC hP hm (by omega) hC e1.2.1 h8 (fun k hk hc => ⟨1, rfl, rfl, ?_⟩) (fun z => pure2 hX _ fun Q q => sp_moath hP hm (by omega) hl e2.2.1 h8 (fun k' hk' hc' => absurd hc' (z k' hk')) (fun _ => q))⟩
  have g : fr (Aq 49) B0 s (gc_wF s 49 1 (nI (wb (ah a).2.1 k x))) := fr_wF rfl (fr_refl s)
  have hR := gen_R hX g (fun q k z => by have := Aq_iff.mp z; omega) (fun x z => (B0_f z).elim)
  refine sp_moath hP hm (by omega) hR.1.1 hR.1.2.2.1.2.1 h8 (fun k' hk' hc' => ?_) (fun z => absurd hc (z k hk))
  rw [← nI_k hk hk' (by omega) hc hc']
  refine xR_of (XI_hand (h := ((ah a).1, wb (ah a).2.1 k x, (ah a).2.2)) hX g ⟨(F_ne _ _ (Or.inr (by decide))).trans e1.1, F_eq _ _ _ _, (F_ne _ _ (Or.inr (by decide))).trans e1.2.2⟩ (fr_wF rfl (fr_refl _)) ⟨?_, F_eq _ _ _ _, ?_⟩ ⟨hb.1, wb_lt ho3 hb.2.1 hk, hb.2.2⟩) rfl
  · exact (F_ne _ _ (Or.inr (by decide))).trans hR.1.2.2.1.1
  · exact (F_ne _ _ (Or.inr (by decide))).trans hR.1.2.2.1.2.2
theorem c_bargain (hP : gc_Cl P) (hm : gc_Mo P) (hd : 20 ≤ d) (hX : XI a L lv v s) {c x : Int32} : step2 P d v s 132 [.ref 0, .int c, .int x] 228 [.ref 67, .int c, .int x] := by
  obtain ⟨hC, hl, hk0, h256, h8, h8'⟩ := XI_b hX
  have ho3 := hk0.1.2.2.1
  have e1 := hX.2.1.1.2.2.1
  have e2 := hX.2.2.1.1.2.2.1
  have hb := hX.2.1.1.2.2.2
  refine ⟨0, 0, by decide, sp_bargainC hP hm (by omega) hC e1.2.2 h8' (fun k hk hc => ⟨1, rfl, rfl, ?_⟩) (fun z => pure2 hX _ fun Q q => sp_mbargain hP hm (by omega) hl e2.2.2 h8' (fun k' hk' hc' => absurd hc' (z k' hk')) (fun _ => q))⟩
  have g : fr (Aq 49) B0 s (gc_wF s 49 2 (nI (wb (ah a).2.2 k x))) := fr_wF rfl (fr_refl s)
  have hR := gen_R hX g (fun q k z => by have := Aq_iff.mp z; omega) (fun x z => (B0_f z).elim)
  refine sp_mbargain hP hm (by omega) hR.1.1 hR.1.2.2.1.2.2 h8' (fun k' hk' hc' => ?_) (fun z => absurd hc (z k hk))
  rw [← nI_k hk hk' (by omega) hc hc']
  refine xR_of (XI_hand (h := ((ah a).1, (ah a).2.1, wb (ah a).2.2 k x)) hX g ⟨(F_ne _ _ (Or.inr (by decide))).trans e1.1, (F_ne _ _ (Or.inr (by decide))).trans e1.2.1, F_eq _ _ _ _⟩ (fr_wF rfl (fr_refl _)) ⟨?_, ?_, F_eq _ _ _ _⟩ ⟨hb.1, hb.2.1, wb_lt ho3 hb.2.2 hk⟩) rfl
  · exact (F_ne _ _ (Or.inr (by decide))).trans hR.1.2.2.1.1
  · exact (F_ne _ _ (Or.inr (by decide))).trans hR.1.2.2.1.2.1
theorem c_restore (hP : gc_Cl P) (hm : gc_Mo P) (hd : 20 ≤ d) (hX : XI a L lv v s) {c : Int32} : step2 P d v s 152 [.ref 0, .int c] 292 [.ref 67, .int c] := by
  have hsC := hX.2.1.2.2.2.1
  have hsR := hX.2.2.1.2.2.2.1
  refine ⟨0, 0, by decide, sp_restoreC hP hm (by omega) hsC (fun k h t hk hc hs g hh => ⟨1, rfl, fr_n g, ?_⟩) (fun z => pure2 hX _ fun Q q => sp_mrestore hP hm (by omega) hsR (fun k' h' t' hk' hc' hs' _ _ => absurd (hs'.symm.trans (z k' hk' hc')) (by simp)) (fun _ => q))⟩
  have hR := gen_R hX g (fun q k z => by have := Aq_iff.mp z; omega) (fun x z => (B0_f z).elim)
  refine sp_mrestore hP hm (by omega) hR.2.2.2.1 (fun k' h' u hk' hc' hs' g2 hh2 => ?_) (fun z => absurd (hs.symm.trans (z k hk hc)) (by simp))
  have ek := nI_k hk hk' (by decide) hc hc'
  rw [← ek, hs, Option.some.injEq] at hs'
  rw [← hs'] at hh2
  exact xR_of (XI_hand hX g hh g2 hh2 (hX.1.2.2.2.1 k h hs)) (fr_n g2)
end Xg
