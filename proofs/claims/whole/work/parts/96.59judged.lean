/-! hold, back, count, judge: the calls. -/
section Xh
variable {P : gc_Pr} {d : Nat} {s t u : gc_St} {a : gA} {L lv v : Nat}
theorem c_hold (hP : gc_Cl P) (hm : gc_Mo P) (hd : 20 ≤ d) (hX : XI a L lv v s) {c : Int32} : step2 P d v s 151 [.ref 0, .int c] 291 [.ref 67, .int c] := by
  obtain ⟨hA, hC, hR, hT⟩ := id hX
  have hsC := hC.2.2.2.1
  have hh := hC.1.2.2.1
  refine ⟨0, 0, by decide, sp_holdC hP hm (by omega) hsC hh (fun k t hk hc g hs => ⟨1, rfl, fr_n g, ?_⟩) (fun z => pure2 hX _ fun Q q => sp_mhold hP hm (by omega) hR.2.2.2.1 hR.1.2.2.1 (fun k' t' hk' hc' _ _ => absurd hc' (z k' hk')) (fun _ => q))⟩
  have hR' := gen_R hX g (fun q j z => by have := Aq_iff.mp z; omega) (fun x z => (B0_f z).elim)
  refine sp_mhold hP hm (by omega) hR'.2.2.2.1 hR'.1.2.2.1 (fun k' u hk' hc' g2 hs2 => ?_) (fun z => absurd hc (z k hk))
  rw [← nI_k hk hk' (by decide) hc hc'] at hs2
  have gF : ∀ q j, q ≠ 51 + k → gc_F t q j = gc_F s q j := fun q j hq => fr_F g (bf fun z => hq (Aq_iff.mp z))
  have gF2 : ∀ q j, gc_F u q j = gc_F t q j := fun q j => fr_F g2 rfl
  refine xR_of (XI_gen (n := an a) (h := ah a) (sl := supd (asl a) k (ah a)) (ps := aps a) (pl := apl a) hX g (fun q j z => by have := Aq_iff.mp z; omega) (fun x z => (B0_f z).elim) g2 (fun q j z => absurd z (by unfold A0; decide)) (fun x z => by
    unfold Bh at z
    simp only [Bool.and_eq_true, Nat.ble_eq] at z
    omega) ((gF 1 1 (by omega)).trans hC.2.2.1) ⟨(gF 49 0 (by omega)).trans hh.1, (gF 49 1 (by omega)).trans hh.2.1, (gF 49 2 (by omega)).trans hh.2.2⟩ hs (psC_fr hC.2.2.2.2.2.1 g (fun j _ _ => bf fun z => by have := Aq_iff.mp z; omega)) ((gF 0 12 (by omega)).trans hC.2.2.2.2.2.2.1) ((gF2 67 3).trans hR'.2.2.1) ⟨(gF2 67 49).trans hR'.1.2.2.1.1, (gF2 67 50).trans hR'.1.2.2.1.2.1, (gF2 67 51).trans hR'.1.2.2.1.2.2⟩ hs2 (psR_fr hR'.2.2.2.2.2.1 g2 (fun j _ _ => rfl)) ((gF2 67 18).trans hR'.2.2.2.2.2.2) hA.1 hC.1.2.2.2 (fun j h hj => ?_) (TI_fr (TI_fr hT g rfl rfl) g2 rfl rfl)) (fr_n g2)
  unfold supd at hj
  by_cases e : j = k
  · rw [if_pos e, Option.some.injEq] at hj
    rw [← hj]
    exact hC.1.2.2.2
  · rw [if_neg e] at hj
    exact hA.2.2.2.1 j h hj
theorem c_back (hP : gc_Cl P) (hm : gc_Mo P) (hX : XI a L lv v s) {c : Int32} : step2 P d v s 122 [.ref 0, .int c] 175 [.ref 67, .int c] := by
  obtain ⟨hA, hC, hR, hT⟩ := id hX
  have hn : an a ≤ 2000 := hA.1
  have hh := hC.1.2.2.1
  refine ⟨0, 0, by decide, sp_backC hP hm (n := an a) (by omega) hC.2.2.1 (fun k hk hc => ⟨_, rfl, rfl, ?_⟩) (fun z => pure2 hX _ fun Q q => sp_mback hP hm (n := an a) (by omega) hR.2.2.1 (fun k' hk' hc' => absurd hc' (z k' hk')) (fun _ => q))⟩
  have g : fr (Aq 1) B0 s (gc_wF s 1 1 (nI (an a - k))) := fr_wF rfl (fr_refl s)
  have hR' := gen_R hX g (fun q j z => by have := Aq_iff.mp z; omega) (fun x z => (B0_f z).elim)
  refine sp_mback hP hm (n := an a) (by omega) hR'.2.2.1 (fun k' hk' hc' => ?_) (fun z => absurd hc (z k hk))
  rw [← nI_k (n := an a + 1) (by omega) (by omega) (by omega) hc hc']
  have g2 : fr (Am 3) B0 (gc_wF s 1 1 (nI (an a - k))) (gc_wF (gc_wF s 1 1 (nI (an a - k))) 67 3 (nI (an a - k))) := fr_wF rfl (fr_refl _)
  have gF : ∀ q j, q ≠ 1 → gc_F (gc_wF s 1 1 (nI (an a - k))) q j = gc_F s q j := fun q j hq => F_ne _ _ (Or.inl hq)
  have gF2 : ∀ j, j ≠ 3 → gc_F (gc_wF (gc_wF s 1 1 (nI (an a - k))) 67 3 (nI (an a - k))) 67 j = gc_F (gc_wF s 1 1 (nI (an a - k))) 67 j := fun j hj => F_ne _ _ (Or.inr hj)
  refine xR_of (XI_gen (n := an a - k) (h := ah a) (sl := asl a) (ps := aps a) (pl := apl a) hX g (fun q j z => by have := Aq_iff.mp z; omega) (fun x z => (B0_f z).elim) g2 (fun q j z => by
    unfold Am at z
    simp only [Bool.and_eq_true, Nat.beq_eq] at z
    omega) (fun x z => (B0_f z).elim) (F_eq _ _ _ _) ⟨(gF 49 0 (by decide)).trans hh.1, (gF 49 1 (by decide)).trans hh.2.1, (gF 49 2 (by decide)).trans hh.2.2⟩ (slC_fr hC.2.2.2.1 g (fun j i _ => bf fun z => by have := Aq_iff.mp z; omega)) (psC_fr hC.2.2.2.2.2.1 g (fun j _ _ => rfl)) ((gF 0 12 (by decide)).trans hC.2.2.2.2.2.2.1) (F_eq _ _ _ _) ⟨(gF2 49 (by decide)).trans hR'.1.2.2.1.1, (gF2 50 (by decide)).trans hR'.1.2.2.1.2.1, (gF2 51 (by decide)).trans hR'.1.2.2.1.2.2⟩ (slR_fr hR'.2.2.2.1 g2 ⟨rfl, rfl, rfl, rfl⟩) (psR_fr hR'.2.2.2.2.2.1 g2 (fun j h1 h2 => bf fun z => by
      unfold Am at z
      simp only [Bool.and_eq_true, Nat.beq_eq] at z
      omega)) ((gF2 18 (by decide)).trans hR'.2.2.2.2.2.2) (by omega) hC.1.2.2.2 hA.2.2.2.1 (fun j hj => hT j (by omega))) rfl
theorem c_count (hP : gc_Cl P) (hm : gc_Mo P) (hd : 20 ≤ d) (hX : XI a L lv v s) {c : Int32} : step2 P d v s 153 [.ref 0, .int c, gc_u] 293 [.ref 67, .int c] := by
  obtain ⟨hA, hC, hR, hT⟩ := id hX
  have hc6 := (cq_b hC.1).2.2.1.2.2.2.1
  have mk : ∀ (x : Int32), ((∀ j, j < 11 → c = nI j → x = ct_f (aW a) (ah a) (an a) 0 (asl a) (nI (aK a).length) j) ∧ (∀ k, k < ld_c (aW a) → c = nI (20 + k) → x = nI (ld_wo (aW a) k)) ∧ ((∀ j, j < 11 → c ≠ nI j) → (∀ k, k < ld_c (aW a) → c ≠ nI (20 + k)) → x = -1)) → xE P d v s 293 [.ref 67, .int c] 0 (some (.int x)) s := fun x hx => pure2 hX x fun Q q => sp_mcount (m := 0) hP hm (by omega) hR.1.1 hR.1.2.2.1 hR.2.2.1 hR.2.2.2.1 hR.2.2.2.2.1.1.1 (fun j hj hc => by rw [← hx.1 j hj hc]; exact q) (fun k hk hc => by rw [← hx.2.1 k hk hc]; exact q) (fun z1 z2 => by rw [← hx.2.2 z1 z2]; exact q)
  refine ⟨0, 0, by decide, sp_countC (m := 0) hP hm (by omega) hC.1.1.1 hC.1.2.2.1 hC.2.2.1 hC.2.2.2.1 hC.2.2.2.2.1.1.1 (fun j hj hc => mk _ ⟨fun j' hj' hc' => by rw [nI_k hj hj' (by decide) hc hc'], fun k hk hc' => ?_, fun z => absurd hc (z j hj)⟩) (fun k hk hc => mk _ ⟨fun j' hj' hc' => ?_, fun k' hk' hc' => ?_, fun _ z => absurd hc (z k hk)⟩) (fun z1 z2 => mk _ ⟨fun j hj hc => absurd hc (z1 j hj), fun k hk hc => absurd hc (z2 k hk), fun _ _ => rfl⟩)⟩
  · have := nI_k (n := 100) (by omega) (by omega) (by decide) hc hc'
    omega
  · have := nI_k (n := 100) (by omega) (by omega) (by decide) hc hc'
    omega
  · have := nI_k (n := 100) (by omega) (by omega) (by decide) hc hc'
    rw [show k = k' by omega]
theorem Ajc_A {q k : Nat} (h : Ajc q k = true) : q = 0 ∨ q = 1 ∨ q = 3 ∨ q = 28 ∨ q = 49 ∨ (51 ≤ q ∧ q ≤ 53) := by
  have := Ajc_iff.mp h
  omega
theorem Ajp_A {q k : Nat} (h : Ajp q k = true) : q = 0 ∨ q = 1 ∨ q = 3 ∨ q = 28 ∨ q = 49 ∨ (51 ≤ q ∧ q ≤ 53) := by
  have := Ajp_iff.mp h
  omega
theorem Akf_i {q k : Nat} : Akf q k = true ↔ ((q = 67 ∧ ((12 ≤ k ∧ k ≤ 15) ∨ (64 ≤ k ∧ k ≤ 67) ∨ k = 73)) ∨ (q = 67 ∧ k = 18)) ∨ (q = 67 ∧ (k = 3 ∨ k = 5 ∨ k = 11 ∨ k = 12 ∨ k = 13 ∨ k = 14 ∨ k = 16)) ∨ (q = 67 ∧ k = 43) := by
  unfold Akf
  simp only [Bool.or_eq_true, Bool.and_eq_true, Nat.beq_eq, AKq_iff, Abg_iff]
theorem Akp_i {q k : Nat} : Akp q k = true ↔ ((q = 67 ∧ ((12 ≤ k ∧ k ≤ 15) ∨ (64 ≤ k ∧ k ≤ 67) ∨ k = 73)) ∨ (q = 67 ∧ (k = 18 ∨ (68 ≤ k ∧ k ≤ 71)))) ∨ (q = 67 ∧ (k = 3 ∨ k = 5 ∨ k = 11 ∨ k = 12 ∨ k = 13 ∨ k = 14 ∨ k = 16)) ∨ (q = 67 ∧ k = 43) := by
  unfold Akp
  simp only [Bool.or_eq_true, Bool.and_eq_true, Nat.beq_eq, AKp_iff, Abg_iff]
theorem Bkf_i {x : Nat} : Bkf x = true ↔ (70 ≤ x ∧ x ≤ 74) ∨ (107 ≤ x ∧ x ≤ 109) := by
  unfold Bkf
  rw [Bool.or_eq_true, Bbg_iff, BK_iff]
end Xh
