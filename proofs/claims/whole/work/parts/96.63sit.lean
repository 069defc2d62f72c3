/-! sit, now, go: the calls. -/
section Xt
variable {P : gc_Pr} {d : Nat} {s t u : gc_St} {a : gA} {L lv v : Nat}
abbrev setK (a : gA) (K : List (Nat × Nat × Nat)) (ko : Nat) : gA := (aW a, aN a, an a, ah a, asl a, K, ko, aps a, apl a)
theorem XI_K {A : Nat → Nat → Bool} {B : Nat → Bool} {kc ko : Nat} {K : List (Nat × Nat × Nat)} (hX : XI a L lv v s) (ht : cq (aW a) L v (ah a) t) (g : cx A B kc s t) (hA : ∀ q k, A q k = true → q = 32 ∨ (q = 40 ∧ (k = 4 ∨ k = 5))) (hB : ∀ x, B x = true → 33 ≤ x ∧ x ≤ 43) (k1 : wkP 40 K t) (k2 : gc_F t 40 4 = nI ko) (k3 : vK v ko t K) (hu : rq (aW a) lv (ah a) u) (g2 : fr SA SB t u) (m1 : mP 77 111 K u) (m2 : gc_F u 67 79 = nI ko) (i1 : wkI (aW a) ko K) (i2 : ko < 8) (i3 : wkB (aW a) K) : XI (setK a K ko) L lv v u := by
  have kr := kR_cx g (fun q k z => by have := hA q k z; omega) (fun x z => by have := hB x z; omega)
  obtain ⟨⟨b1, b2, b3, b4, _⟩, ⟨h1, ⟨h2, h3, h4⟩, h5, h6, _, h10, h11, h12, h13, h14⟩, hR, hT⟩ := hX
  have hR' := RI_kR hR kr
  obtain ⟨g1, gI, gJ, gbe, ⟨g5, g6, g7, g8, g9⟩, g10, g11, g12, g13⟩ := g
  have hF : ∀ q k, q ≠ 32 → q ≠ 40 → gc_F t q k = gc_F s q k := fun q k q1 q2 => g1 q k (bf fun z => by have := hA q k z; omega)
  have hI : ∀ x, x < 116 → x ≠ 24 → ¬ (33 ≤ x ∧ x ≤ 43) → gc_I t x = gc_I s x := fun x a1 a2 a3 => gI x a1 a2 (bf fun z => a3 (hB x z))
  have hJ : ∀ x, x < 116 → ¬ (33 ≤ x ∧ x ≤ 43) → gc_J t x = gc_J s x := fun x a1 a3 => gJ x a1 (bf fun z => a3 (hB x z))
  have hL := h1.1.1.1
  have hr : (gc_rS L 17 < 116 ∧ ¬ (33 ≤ gc_rS L 17 ∧ gc_rS L 17 ≤ 43)) ∧ (gc_rS L 18 < 116 ∧ gc_rS L 18 ≠ 24 ∧ ¬ (33 ≤ gc_rS L 18 ∧ gc_rS L 18 ≤ 43)) := by
    rcases hL with e | e <;> rw [e] <;> decide
  have hL32 : L ≠ 32 ∧ L ≠ 40 := by rcases hL with e | e <;> omega
  have hCt : CI (setK a K ko) L v t := by
    refine ⟨ht, ⟨nmC_of h2 (hF L 6 hL32.1 hL32.2) (hJ _ hr.1.1 hr.1.2) (hI _ hr.2.1 hr.2.2.1 hr.2.2.2), fun k hk => by rw [hJ 8 (by decide) (by decide)]; exact h3 k hk, g7.trans h4⟩, (hF 1 1 (by decide) (by decide)).trans h5, ?_, ⟨k1, k2, k3⟩, ?_, (hF 0 12 (by decide) (by decide)).trans h11, ?_, ?_, ?_⟩
    · intro k hk
      have e : ∀ j, gc_F t (51 + k) j = gc_F s (51 + k) j := fun j => hF _ j (by omega) (by omega)
      rw [e 3, e 0, e 1, e 2]
      exact h6 k hk
    · unfold psC at h10 ⊢
      rw [hF 28 16 (by decide) (by decide), hF 28 17 (by decide) (by decide), hF 28 18 (by decide) (by decide), hF 28 19 (by decide) (by decide)]
      exact h10
    · have hbl := h1.1.2.2.2.1.1.2
      unfold bev at h12 ⊢
      rw [g9]
      rcases h12 with z | ⟨z1, z2⟩
      · exact Or.inl z
      · refine Or.inr ⟨z1, ?_⟩
        unfold gc_gk at z2 ⊢
        rw [Nat.ble_eq.mpr z1] at z2 ⊢
        have e1 : Nat.blt (gc_be s) (116 + gc_n s) = true := Nat.ble_eq.mpr hbl
        have e2 : Nat.blt (gc_be s) (116 + gc_n t) = true := Nat.ble_eq.mpr (by show gc_be s + 1 ≤ _; omega)
        rw [e1] at z2
        rw [e2]
        show (0, gc_D t (gc_be s)) = (0, 14336)
        rw [g10 _ hbl]
        exact z2
    · unfold stl stA ptd at h13 ⊢
      rw [hF 45 3 (by decide) (by decide), hF 45 0 (by decide) (by decide), hF 45 1 (by decide) (by decide), hF 45 2 (by decide) (by decide), hF 44 3 (by decide) (by decide), hF 44 4 (by decide) (by decide), hF 44 5 (by decide) (by decide), hI 47 (by decide) (by decide) (by decide), hI 48 (by decide) (by decide) (by decide)]
      exact h13
    · unfold cnt at h14 ⊢
      rw [g9]
      omega
  have sB : ∀ x, SB x = true → (100 ≤ x ∧ x ≤ 106) ∨ x = 110 ∨ x = 111 := fun x z => by
    unfold SB at z
    rw [Bool.or_eq_true, Nat.beq_eq] at z
    rcases z with z | z
    · have := RB_i z
      omega
    · omega
  obtain ⟨_, ⟨r2, r3, r4, r5⟩, r6, r7, _, r10, r11⟩ := hR'
  have uF : ∀ k, k ≠ 53 → k ≠ 54 → k ≠ 60 → k ≠ 75 → k ≠ 76 → k ≠ 77 → k ≠ 79 → gc_F u 67 k = gc_F t 67 k := fun k a1 a2 a3 a4 a5 a6 a7 => fr_F g2 (bf fun z => by have := SA_iff.mp z; omega)
  have uI : ∀ x, ¬ ((100 ≤ x ∧ x ≤ 106) ∨ x = 110 ∨ x = 111) → gc_I u x = gc_I t x := fun x hx => fr_I g2 (bf fun z => hx (sB x z))
  have uJ : ∀ x, ¬ ((100 ≤ x ∧ x ≤ 106) ∨ x = 110 ∨ x = 111) → gc_J u x = gc_J t x := fun x hx => fr_J g2 (bf fun z => hx (sB x z))
  refine ⟨⟨b1, b2, b3, b4, i1, i2, i3⟩, CI_kC hCt (fr_up g2 (fun q k z => AR_iff.mpr (by have := SA_iff.mp z; omega)) (fun x z => BR_iff.mpr (by have := sB x z; omega))), ⟨hu, ⟨nmR_of r2 (uJ 76 (by decide)) (uI 77 (by decide)) (uI 78 (by decide)), by rw [uI 79 (by decide)]; exact r3, fun k hk => by rw [uJ 68 (by decide)]; exact r4 k hk, fun k hk => by rw [uJ 75 (by decide)]; exact r5 k hk⟩, (uF 3 (by decide) (by decide) (by decide) (by decide) (by decide) (by decide) (by decide)).trans r6, slR_fr r7 g2 ⟨rfl, rfl, rfl, rfl⟩, ⟨m1, m2⟩, psR_fr r10 g2 (fun j h1 h2 => bf fun z => by have := SA_iff.mp z; omega), (uF 18 (by decide) (by decide) (by decide) (by decide) (by decide) (by decide) (by decide)).trans r11⟩, ?_⟩
  unfold TI at hT ⊢
  rw [uI 2 (by decide), uI 69 (by decide), hI 2 (by decide) (by decide) (by decide), hI 69 (by decide) (by decide) (by decide)]
  exact hT
theorem aA40 : ∀ q k, AW 40 q k = true → q = 32 ∨ (q = 40 ∧ (k = 4 ∨ k = 5)) := fun q k z => by
  unfold AW at z
  simp only [Bool.and_eq_true, Bool.or_eq_true, Nat.beq_eq] at z
  omega
theorem bB40 : ∀ x, BW 40 x = true → 33 ≤ x ∧ x ≤ 43 := fun x z => by
  unfold BW B33 at z
  simp only [Bool.and_eq_true, Bool.or_eq_true, Nat.ble_eq] at z
  omega
theorem c_sit (hP : gc_Cl P) (hm : gc_Mo P) (hd : 20 ≤ d) (hX : XI a L lv v s) {c : Int32} : step2 P d v s 147 [.ref 0, .int c, gc_u] 284 [.ref 67, .int c] := by
  obtain ⟨hA, hC, hR, hT⟩ := id hX
  obtain ⟨e1, e2, hk0⟩ := cq_b hC.1
  have hc6 := hk0.1.2.2.2.1
  have hb := hC.1.2.2.2
  rcases cl_dec (aW a) c with ⟨k, hk, hc⟩ | z
  · refine ⟨kP (aW a) (ah a).2.1 (ld_ro (aW a) k) (ah a).2.2 s, 256 * kP (aW a) (ah a).2.1 (ld_ro (aW a) k) (ah a).2.2 s, kP_le, ?_⟩
    rw [hc]
    refine sp_sit hP hm (by omega) hC.1 hk rfl (fun t t0 t1 t2 => q2 hX _ t1 t2 aA0 bB0 fun Q hq q => sp_msit hP hm (by omega) hq (fun k' u hk' hc' _ u1 u2 => q u u1 u2) (fun k' u hk' hc' u0 => ?_) (fun z => absurd rfl (z k hk))) (fun t t0 t1 t2 t3 t4 t5 => ⟨1, rfl, t2.2.2.2.2.2.2.2.2, ?_⟩)
    · rw [← nI_k hk hk' (by omega) rfl hc'] at u0
      exact absurd t0 u0
    · have kr := RI_kR hR (kR_cx t2 (fun q k z => by have := aA40 q k z; omega) (fun x z => by have := bB40 x z; omega))
      refine sp_msit hP hm (by omega) kr.1 (fun k' u hk' hc' u0 => ?_) (fun k' u hk' hc' _ u1 u2 u3 u4 => ?_) (fun z => absurd rfl (z k hk))
      · rw [← nI_k hk hk' (by omega) rfl hc'] at u0
        exact absurd u0 t0
      · rw [← nI_k hk hk' (by omega) rfl hc'] at u3
        exact xR_of (XI_K hX t1 t2 aA40 bB40 t3 t4 t5 u1 u2 u3 u4 (wkI_1 hk0 (hk0.2.2.2.1 k hk).1 hb.1 e2 t0) e1 (wkB_1 hb.2.2)) (fr_n u2)
  · exact ⟨0, 0, by decide, sp_sitN hP hm (by omega) hC.1 z (pure2 hX _ fun Q q => sp_msit hP hm (by omega) hR.1 (fun k' u hk' hc' => absurd hc' (z k' hk')) (fun k' u hk' hc' => absurd hc' (z k' hk')) (fun _ => q))⟩
/-- only what a choice writes -/
theorem XI_32 (hX : XI a L lv v s) (g : fr A32 B33 s t) : XI a L lv v t := by
  have g' : fr (AW 36) (BW 36) s t := fr_up g (fun q k z => by
    unfold A32 at z
    unfold AW
    rw [z]
    rfl) (fun x z => by
    unfold BW
    rw [z]
    rfl)
  have hb : BW 36 (gc_be s) = false := bf fun z => by
    have := bB36 _ z
    rcases hX.2.1.2.2.2.2.2.2.2.1 with e | ⟨e, _⟩ <;> omega
  exact XI_cx hX (cq_W (Or.inl rfl) hX.2.1.1 g') (cx_fr g' rfl hb) aA36 bB36
theorem c_now (hP : gc_Cl P) (hm : gc_Mo P) (hd : 20 ≤ d) (hX : XI a L lv v s) {e : Int32} : step2 P d v s 148 [.ref 0, .int e] 285 [.ref 67, .int e, gc_u] := by
  obtain ⟨hA, hC, hR, hT⟩ := id hX
  have ref : ∀ (t : gc_St) (Q : gc_TQ), XI a L lv v t → (∀ w u, w < 6 → e = nI w → rq (aW a) lv (ah a) u → fr RA RB t u → Q (some (.int (an_tp (aW a) (ako a) (aK a) w (-2)))) u) → ((∀ w, w < 6 → e ≠ nI w) → Q (some (.int (-1))) t) → gc_T P d 0 0 285 0 [.ref 67, .int e, gc_u] [] t Q := fun t Q ht q1 q2 => sp_mnow hP hm (by omega) ht.2.2.1.1 ht.2.2.1.2.2.2.2.1.1 ht.2.2.1.2.2.2.2.1.2 hA.2.2.2.2.2.1 hA.2.2.2.2.1 hA.2.2.2.2.2.2 q1 q2
  rcases n_dec 6 e with ⟨w, hw, he⟩ | z
  · refine ⟨0, 0, by decide, ?_⟩
    rw [he] at ref ⊢
    refine sp_nowC hP hm (by omega) hC.1.1 hC.2.2.2.2.1.1 hA.2.2.2.2.1 hC.2.2.2.2.1.2.1 hA.2.2.2.2.2.1 hC.2.2.2.2.1.2.2 hw fun t t1 => ⟨_, rfl, fr_n t1, ref t _ (XI_32 hX t1) (fun w' u hw' he' u1 u2 => ?_) (fun z => absurd rfl (z w hw))⟩
    rw [← nI_k hw hw' (by decide) rfl he']
    exact xR_of (XI_RA (XI_32 hX t1) u1 u2) (fr_n u2)
  · exact ⟨0, 0, by decide, sp_nowN hP hm (by omega) z (pure2 hX _ fun Q q => ref s Q hX (fun w' u hw' he' => absurd he' (z w' hw')) (fun _ => q))⟩
end Xt
