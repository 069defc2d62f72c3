/-! The questions: the calls. -/
section Xq
variable {P : gc_Pr} {d : Nat} {s t u : gc_St} {a : gA} {L lv v : Nat}
theorem XI_cx {A : Nat → Nat → Bool} {B : Nat → Bool} {kc : Nat} (hX : XI a L lv v s) (ht : cq (aW a) L v (ah a) t) (g : cx A B kc s t) (hA : ∀ q k, A q k = true → q = 32 ∨ q = 36) (hB : ∀ x, B x = true → 33 ≤ x ∧ x ≤ 39) : XI a L lv v t := by
  obtain ⟨h1, h2, h3, h4⟩ := hX
  refine ⟨h1, CI_cx h1 h2 ht g hA hB, RI_kR h3 (kR_cx g (fun q k z => by have := hA q k z; omega) (fun x z => by have := hB x z; omega)), ?_⟩
  unfold TI at h4 ⊢
  rw [g.2.1 2 (by decide) (by decide) (bf fun z => by have := hB 2 z; omega), g.2.1 69 (by decide) (by decide) (bf fun z => by have := hB 69 z; omega)]
  exact h4
theorem RB_i {x : Nat} (h : RB x = true) : (100 ≤ x ∧ x ≤ 106) ∨ x = 110 := by
  unfold RB at h
  simp only [Bool.and_eq_true, Bool.or_eq_true, Nat.beq_eq, Nat.ble_eq] at h
  exact h
theorem XI_RA (hX : XI a L lv v t) (hu : rq (aW a) lv (ah a) u) (g : fr RA RB t u) : XI a L lv v u := by
  obtain ⟨h1, h2, ⟨_, ⟨r2, r3, r4, r5⟩, r6, r7, ⟨r8, r9⟩, r10, r11⟩, h4⟩ := hX
  have hF : ∀ k, k ≠ 53 → k ≠ 54 → k ≠ 60 → k ≠ 75 → k ≠ 76 → gc_F u 67 k = gc_F t 67 k := fun k a1 a2 a3 a4 a5 => fr_F g (bf fun z => by have := RA_iff.mp z; omega)
  have hI : ∀ x, ¬ ((100 ≤ x ∧ x ≤ 106) ∨ x = 110) → gc_I u x = gc_I t x := fun x hx => fr_I g (bf fun z => hx (RB_i z))
  have hJ : ∀ x, ¬ ((100 ≤ x ∧ x ≤ 106) ∨ x = 110) → gc_J u x = gc_J t x := fun x hx => fr_J g (bf fun z => hx (RB_i z))
  refine ⟨h1, CI_kC h2 (fr_up g (fun q k z => AR_iff.mpr (RA_iff.mp z).1) (fun x z => BR_iff.mpr (by have := RB_i z; omega))), ⟨hu, ⟨nmR_of r2 (hJ 76 (by decide)) (hI 77 (by decide)) (hI 78 (by decide)), by rw [hI 79 (by decide)]; exact r3, fun k hk => by rw [hJ 68 (by decide)]; exact r4 k hk, fun k hk => by rw [hJ 75 (by decide)]; exact r5 k hk⟩, (hF 3 (by decide) (by decide) (by decide) (by decide) (by decide)).trans r6, slR_fr r7 g ⟨rfl, rfl, rfl, rfl⟩, ⟨mP_fr r8 g rfl rfl, (hF 79 (by decide) (by decide) (by decide) (by decide) (by decide)).trans r9⟩, psR_fr r10 g (fun j h1 h2 => bf fun z => by have := RA_iff.mp z; omega), (hF 18 (by decide) (by decide) (by decide) (by decide) (by decide)).trans r11⟩, TI_fr h4 g rfl rfl⟩
theorem q2 {A : Nat → Nat → Bool} {B : Nat → Bool} {kc y : Nat} {As : List Value} (hX : XI a L lv v s) (x : Int32) (ht : cq (aW a) L v (ah a) t) (g : cx A B kc s t) (hA : ∀ q k, A q k = true → q = 32 ∨ q = 36) (hB : ∀ x, B x = true → 33 ≤ x ∧ x ≤ 39) (hR : ∀ Q : gc_TQ, rq (aW a) lv (ah a) t → (∀ u, rq (aW a) lv (ah a) u → fr RA RB t u → Q (some (.int x)) u) → gc_T P d 0 0 y 0 As [] t Q) : xE P d v s y As kc (some (.int x)) t := by
  have hX' := XI_cx hX ht g hA hB
  exact ⟨x, rfl, g.2.2.2.2.2.2.2.2, hR _ hX'.2.2.1.1 (fun u u1 u2 => xR_of (XI_RA hX' u1 u2) (fr_n u2))⟩
theorem aA0 : ∀ q k, A0 q k = true → q = 32 ∨ q = 36 := fun q k z => absurd z (by unfold A0; decide)
theorem bB0 : ∀ x, B0 x = true → 33 ≤ x ∧ x ≤ 39 := fun x z => (B0_f z).elim
theorem aA36 : ∀ q k, AW 36 q k = true → q = 32 ∨ q = 36 := fun q k z => by
  unfold AW at z
  simp only [Bool.and_eq_true, Bool.or_eq_true, Nat.beq_eq] at z
  omega
theorem bB36 : ∀ x, BW 36 x = true → 33 ≤ x ∧ x ≤ 39 := fun x z => by
  unfold BW B33 at z
  simp only [Bool.and_eq_true, Bool.or_eq_true, Nat.ble_eq] at z
  omega
theorem kP_le {W : ld_W} {o p b : Nat} : kP W o p b s ≤ 1537 ∧ 256 * kP W o p b s ≤ 256 * kP W o p b s + 14336 := ⟨Nat.le_succ_of_le (kF_le _ _), Nat.le_add_right _ _⟩
theorem pl_u {W : ld_W} (hk0 : ld_ok W) {x y z : Int32} {p st b p' st' b' : Nat} (h : pl W x y z p st b) (h' : pl W x y z p' st' b') : p = p' ∧ st = st' ∧ b = b' := by
  have c1 := hk0.1.2.2.2.2
  have c2 := ld_N_le hk0
  have c3 := ld_B_le hk0
  exact ⟨nI_k h.1 h'.1 (by omega) h.2.2.2.1 h'.2.2.2.1, nI_k h.2.1 h'.2.1 (by omega) h.2.2.2.2.1 h'.2.2.2.2.1, nI_k h.2.2.1 h'.2.2.1 (by show ld_B W < 2 ^ 31; omega) h.2.2.2.2.2 h'.2.2.2.2.2⟩
theorem cl_dec (W : ld_W) (c : Int32) : (∃ k, k < ld_c W ∧ c = nI k) ∨ (∀ k, k < ld_c W → c ≠ nI k) := by
  rcases Classical.em (∃ k, k < ld_c W ∧ c = nI k) with z | z
  · exact Or.inl z
  · exact Or.inr fun k hk hc => z ⟨k, hk, hc⟩
theorem n_dec (n : Nat) (c : Int32) : (∃ k, k < n ∧ c = nI k) ∨ (∀ k, k < n → c ≠ nI k) := by
  rcases Classical.em (∃ k, k < n ∧ c = nI k) with z | z
  · exact Or.inl z
  · exact Or.inr fun k hk hc => z ⟨k, hk, hc⟩
theorem pl_dec (W : ld_W) (x y z : Int32) : (∃ p st b, pl W x y z p st b) ∨ (∀ p st b, ¬ pl W x y z p st b) := by
  rcases Classical.em (∃ p st b, pl W x y z p st b) with e | e
  · exact Or.inl e
  · exact Or.inr fun p st b h => e ⟨p, st, b, h⟩
theorem c_can (hP : gc_Cl P) (hm : gc_Mo P) (hd : 20 ≤ d) (hX : XI a L lv v s) {c : Int32} : step2 P d v s 136 [.ref 0, .int c, gc_u] 243 [.ref 67, .int c, gc_u] := by
  obtain ⟨hA, hC, hR, hT⟩ := id hX
  obtain ⟨_, _, hk0⟩ := cq_b hC.1
  have hc6 := hk0.1.2.2.2.1
  rcases cl_dec (aW a) c with ⟨k, hk, hc⟩ | z
  · refine ⟨kP (aW a) (ah a).2.1 (ld_ro (aW a) k) (ah a).2.2 s, 256 * kP (aW a) (ah a).2.1 (ld_ro (aW a) k) (ah a).2.2 s, kP_le, ?_⟩
    rw [hc]
    exact sp_can hP hm (by omega) hC.1 hk rfl fun t t1 t2 => q2 hX _ t1 t2 aA0 bB0 fun Q hq q => sp_mcan hP hm (by omega) hq (fun k' u hk' hc' u1 u2 => by rw [← nI_k hk hk' (by omega) rfl hc']; exact q u u1 u2) (fun z => absurd rfl (z k hk))
  · exact ⟨0, 0, by decide, sp_canN hP hm (by omega) hC.1 z (pure2 hX _ fun Q q => sp_mcan hP hm (by omega) hR.1 (fun k' u hk' hc' => absurd hc' (z k' hk')) (fun _ => q))⟩
theorem c_stocks (hP : gc_Cl P) (hm : gc_Mo P) (hd : 20 ≤ d) (hX : XI a L lv v s) {c : Int32} : step2 P d v s 137 [.ref 0, .int c, gc_u, gc_u, gc_u] 244 [.ref 67, .int c, gc_u, gc_u] := by
  obtain ⟨hA, hC, hR, hT⟩ := id hX
  obtain ⟨_, _, hk0⟩ := cq_b hC.1
  have hc6 := hk0.1.2.2.2.1
  rcases cl_dec (aW a) c with ⟨k, hk, hc⟩ | z
  · refine ⟨kP (aW a) (ah a).2.1 (ld_ro (aW a) k) (ah a).2.2 s, 256 * kP (aW a) (ah a).2.1 (ld_ro (aW a) k) (ah a).2.2 s, kP_le, ?_⟩
    rw [hc]
    exact sp_stocks hP hm (by omega) hC.1 hk rfl fun t t1 t2 => q2 hX _ t1 t2 aA0 bB0 fun Q hq q => sp_mstocks hP hm (by omega) hq (fun k' u hk' hc' u1 u2 => by rw [← nI_k hk hk' (by omega) rfl hc']; exact q u u1 u2) (fun z => absurd rfl (z k hk))
  · exact ⟨0, 0, by decide, sp_stocksN hP hm (by omega) hC.1 z (pure2 hX _ fun Q q => sp_mstocks hP hm (by omega) hR.1 (fun k' u hk' hc' => absurd hc' (z k' hk')) (fun _ => q))⟩
theorem c_steps (hP : gc_Cl P) (hm : gc_Mo P) (hd : 20 ≤ d) (hX : XI a L lv v s) {c : Int32} : step2 P d v s 138 [.ref 0, .int c, gc_u] 256 [.ref 67, .int c, gc_u, gc_u] := by
  obtain ⟨hA, hC, hR, hT⟩ := id hX
  obtain ⟨_, _, hk0⟩ := cq_b hC.1
  have hc6 := hk0.1.2.2.2.1
  rcases cl_dec (aW a) c with ⟨k, hk, hc⟩ | z
  · refine ⟨kP (aW a) (ah a).2.1 (ld_ro (aW a) k) (ah a).2.2 s, 256 * kP (aW a) (ah a).2.1 (ld_ro (aW a) k) (ah a).2.2 s, kP_le, ?_⟩
    rw [hc]
    exact sp_steps hP hm (by omega) hC.1 hk rfl fun t t1 t2 => q2 hX _ t1 t2 aA36 bB36 fun Q hq q => sp_msteps hP hm (by omega) hq (fun k' u hk' hc' u1 u2 => by rw [← nI_k hk hk' (by omega) rfl hc']; exact q u u1 u2) (fun z => absurd rfl (z k hk))
  · exact ⟨0, 0, by decide, sp_stepsN hP hm (by omega) hC.1 z (pure2 hX _ fun Q q => sp_msteps hP hm (by omega) hR.1 (fun k' u hk' hc' => absurd hc' (z k' hk')) (fun _ => q))⟩
theorem c_lots (hP : gc_Cl P) (hm : gc_Mo P) (hd : 20 ≤ d) (hX : XI a L lv v s) {c e : Int32} : step2 P d v s 150 [.ref 0, .int c, .int e, gc_u, gc_u, gc_u, gc_u] 290 [.ref 67, .int c, .int e, gc_u, gc_u, gc_u] := by
  obtain ⟨hA, hC, hR, hT⟩ := id hX
  obtain ⟨_, _, hk0⟩ := cq_b hC.1
  have hc6 := hk0.1.2.2.2.1
  rcases cl_dec (aW a) c with ⟨k, hk, hc⟩ | z
  · refine ⟨kP (aW a) (ah a).2.1 (ld_ro (aW a) k) (ah a).2.2 s, 256 * kP (aW a) (ah a).2.1 (ld_ro (aW a) k) (ah a).2.2 s, kP_le, ?_⟩
    rw [hc]
    exact sp_lotsC hP hm (by omega) hC.1 hk rfl fun t t1 t2 => q2 hX _ t1 t2 aA36 bB36 fun Q hq q => sp_mlots hP hm (by omega) hq (fun k' u hk' hc' u1 u2 => by rw [← nI_k hk hk' (by omega) rfl hc']; exact q u u1 u2) (fun z => absurd rfl (z k hk))
  · exact ⟨0, 0, by decide, sp_lotsN hP hm (by omega) hC.1 z (pure2 hX _ fun Q q => sp_mlots hP hm (by omega) hR.1 (fun k' u hk' hc' => absurd hc' (z k' hk')) (fun _ => q))⟩
theorem c_lack (hP : gc_Cl P) (hm : gc_Mo P) (hd : 20 ≤ d) (hX : XI a L lv v s) {c e : Int32} : step2 P d v s 142 [.ref 0, .int c, .int e, gc_u, gc_u, gc_u, gc_u, gc_u] 272 [.ref 67, .int c, .int e, gc_u] := by
  obtain ⟨hA, hC, hR, hT⟩ := id hX
  obtain ⟨_, _, hk0⟩ := cq_b hC.1
  have hc6 := hk0.1.2.2.2.1
  have no : ((∀ k, k < ld_c (aW a) → c ≠ nI k) ∨ (∀ k, k < 2 → e ≠ nI k)) → step2 P d v s 142 [.ref 0, .int c, .int e, gc_u, gc_u, gc_u, gc_u, gc_u] 272 [.ref 67, .int c, .int e, gc_u] := fun z => ⟨0, 0, by decide, sp_lackN hP hm (by omega) hC.1 z (pure2 hX _ fun Q q => sp_mlack hP hm (by omega) hR.1 (fun k' w' u hk' hc' hw' he' => (z.elim (fun z => absurd hc' (z k' hk')) (fun z => absurd he' (z w' hw')))) (fun _ => q))⟩
  rcases cl_dec (aW a) c with ⟨k, hk, hc⟩ | z
  · rcases n_dec 2 e with ⟨w, hw, he⟩ | z
    · refine ⟨kP (aW a) (ah a).2.1 (ld_ro (aW a) k) (ah a).2.2 s, 256 * kP (aW a) (ah a).2.1 (ld_ro (aW a) k) (ah a).2.2 s, kP_le, ?_⟩
      rw [hc, he]
      exact sp_lackC hP hm (by omega) hC.1 hk hw rfl fun t t1 t2 => q2 hX _ t1 t2 aA0 bB0 fun Q hq q => sp_mlack hP hm (by omega) hq (fun k' w' u hk' hc' hw' he' u1 u2 => by rw [← nI_k hk hk' (by omega) rfl hc', ← nI_k hw hw' (by decide) rfl he']; exact q u u1 u2) (fun z => z.elim (fun z => absurd rfl (z k hk)) (fun z => absurd rfl (z w hw)))
    · exact no (Or.inr z)
  · exact no (Or.inl z)
theorem c_spare (hP : gc_Cl P) (hm : gc_Mo P) (hd : 20 ≤ d) (hX : XI a L lv v s) {c e : Int32} : step2 P d v s 143 [.ref 0, .int c, .int e, gc_u, gc_u, gc_u, gc_u, gc_u] 273 [.ref 67, .int c, .int e, gc_u] := by
  obtain ⟨hA, hC, hR, hT⟩ := id hX
  obtain ⟨_, _, hk0⟩ := cq_b hC.1
  have hc6 := hk0.1.2.2.2.1
  have no : ((∀ k, k < ld_c (aW a) → c ≠ nI k) ∨ (∀ k, k < 2 → e ≠ nI k)) → step2 P d v s 143 [.ref 0, .int c, .int e, gc_u, gc_u, gc_u, gc_u, gc_u] 273 [.ref 67, .int c, .int e, gc_u] := fun z => ⟨0, 0, by decide, sp_spareN hP hm (by omega) hC.1 z (pure2 hX _ fun Q q => sp_mspare hP hm (by omega) hR.1 (fun k' w' u hk' hc' hw' he' => (z.elim (fun z => absurd hc' (z k' hk')) (fun z => absurd he' (z w' hw')))) (fun _ => q))⟩
  rcases cl_dec (aW a) c with ⟨k, hk, hc⟩ | z
  · rcases n_dec 2 e with ⟨w, hw, he⟩ | z
    · refine ⟨kP (aW a) (ah a).2.1 (ld_ro (aW a) k) (ah a).2.2 s, 256 * kP (aW a) (ah a).2.1 (ld_ro (aW a) k) (ah a).2.2 s, kP_le, ?_⟩
      rw [hc, he]
      exact sp_spareC hP hm (by omega) hC.1 hk hw rfl fun t t1 t2 => q2 hX _ t1 t2 aA0 bB0 fun Q hq q => sp_mspare hP hm (by omega) hq (fun k' w' u hk' hc' hw' he' u1 u2 => by rw [← nI_k hk hk' (by omega) rfl hc', ← nI_k hw hw' (by decide) rfl he']; exact q u u1 u2) (fun z => z.elim (fun z => absurd rfl (z k hk)) (fun z => absurd rfl (z w hw)))
    · exact no (Or.inr z)
  · exact no (Or.inl z)
theorem c_depth (hP : gc_Cl P) (hm : gc_Mo P) (hd : 20 ≤ d) (hX : XI a L lv v s) {x y z : Int32} : step2 P d v s 135 [.ref 0, .int x, .int y, .int z] 241 [.ref 67, .int x, .int y, .int z] := by
  obtain ⟨hA, hC, hR, hT⟩ := id hX
  obtain ⟨_, _, hk0⟩ := cq_b hC.1
  have hc6 := hk0.1.2.2.2.1
  rcases pl_dec (aW a) x y z with ⟨p, st, b, hp⟩ | e
  · refine ⟨kP (aW a) (ah a).2.1 p b s, 256 * kP (aW a) (ah a).2.1 p b s, kP_le, ?_⟩
    refine sp_depth hP hm (by omega) hC.1 hp rfl fun t t1 t2 => q2 hX _ t1 t2 aA0 bB0 fun Q hq q => sp_mdepth hP hm (by omega) hq (fun p' st' b' u hp' u1 u2 => ?_) (fun e => absurd hp (e p st b))
    obtain ⟨e1, e2, e3⟩ := pl_u hk0 hp hp'
    rw [← e1, ← e2, ← e3]
    exact q u u1 u2
  · exact ⟨0, 0, by decide, sp_depthN hP hm (by omega) hC.1 e (pure2 hX _ fun Q q => sp_mdepth hP hm (by omega) hR.1 (fun p' st' b' u hp' => absurd hp' (e p' st' b')) (fun _ => q))⟩
theorem c_moves (hP : gc_Cl P) (hm : gc_Mo P) (hd : 20 ≤ d) (hX : XI a L lv v s) {x y z : Int32} : step2 P d v s 140 [.ref 0, .int x, .int y, .int z] 251 [.ref 67, .int x, .int y, .int z] := by
  obtain ⟨hA, hC, hR, hT⟩ := id hX
  obtain ⟨_, _, hk0⟩ := cq_b hC.1
  have hc6 := hk0.1.2.2.2.1
  rcases pl_dec (aW a) x y z with ⟨p, st, b, hp⟩ | e
  · refine ⟨0, 0, by decide, ?_⟩
    refine sp_movesC hP hm (by omega) hC.1 hp fun t t1 t2 => q2 hX _ t1 t2 aA36 bB36 fun Q hq q => sp_mmoves hP hm (by omega) hq (fun p' st' b' u hp' u1 u2 => ?_) (fun e => absurd hp (e p st b))
    obtain ⟨e1, e2, e3⟩ := pl_u hk0 hp hp'
    rw [← e1, ← e2, ← e3]
    exact q u u1 u2
  · exact ⟨0, 0, by decide, sp_movesN hP hm (by omega) hC.1 e (pure2 hX _ fun Q q => sp_mmoves hP hm (by omega) hR.1 (fun p' st' b' u hp' => absurd hp' (e p' st' b')) (fun _ => q))⟩
theorem c_move (hP : gc_Cl P) (hm : gc_Mo P) (hd : 20 ≤ d) (hX : XI a L lv v s) {x y z i e : Int32} : step2 P d v s 141 [.ref 0, .int x, .int y, .int z, .int i, .int e] 252 [.ref 67, .int x, .int y, .int z, .int i, .int e] := by
  obtain ⟨hA, hC, hR, hT⟩ := id hX
  obtain ⟨_, _, hk0⟩ := cq_b hC.1
  have hc6 := hk0.1.2.2.2.1
  have no : ((∀ p st b, ¬ pl (aW a) x y z p st b) ∨ (∀ k, k < 3 → e ≠ nI k)) → step2 P d v s 141 [.ref 0, .int x, .int y, .int z, .int i, .int e] 252 [.ref 67, .int x, .int y, .int z, .int i, .int e] := fun h => ⟨0, 0, by decide, sp_moveN hP hm (by omega) hC.1 h (pure2 hX _ fun Q q => sp_mmove hP hm (by omega) hR.1 (fun p' st' b' w' u hp' hw' he' => (h.elim (fun h => absurd hp' (h p' st' b')) (fun h => absurd he' (h w' hw')))) (fun _ => q))⟩
  rcases pl_dec (aW a) x y z with ⟨p, st, b, hp⟩ | h
  · rcases n_dec 3 e with ⟨w, hw, he⟩ | h
    · refine ⟨kP (aW a) (ah a).2.1 p b s, 256 * kP (aW a) (ah a).2.1 p b s, kP_le, ?_⟩
      rw [he]
      refine sp_moveC hP hm (by omega) hC.1 hp hw rfl fun t t1 t2 => q2 hX _ t1 t2 aA36 bB36 fun Q hq q => sp_mmove hP hm (by omega) hq (fun p' st' b' w' u hp' hw' he' u1 u2 => ?_) (fun h => h.elim (fun h => absurd hp (h p st b)) (fun h => absurd rfl (h w hw)))
      obtain ⟨e1, e2, e3⟩ := pl_u hk0 hp hp'
      rw [← e1, ← e2, ← e3, ← nI_k hw hw' (by decide) rfl he']
      exact q u u1 u2
    · exact no (Or.inr h)
  · exact no (Or.inl h)
end Xq
