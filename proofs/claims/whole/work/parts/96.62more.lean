/-! step, needed, together, part: the calls. -/
section Xs
variable {P : gc_Pr} {d : Nat} {s t u : gc_St} {a : gA} {L lv v : Nat}
theorem c_step (hP : gc_Cl P) (hm : gc_Mo P) (hd : 20 ≤ d) (hX : XI a L lv v s) {c i e : Int32} : step2 P d v s 139 [.ref 0, .int c, .int i, .int e, gc_u] 258 [.ref 67, .int c, .int i, .int e, gc_u, gc_u, gc_u] := by
  obtain ⟨hA, hC, hR, hT⟩ := id hX
  obtain ⟨_, _, hk0⟩ := cq_b hC.1
  have hc6 := hk0.1.2.2.2.1
  have no : ((∀ k, k < ld_c (aW a) → c ≠ nI k) ∨ i < 0 ∨ (∀ k, k < 6 → e ≠ nI k)) → step2 P d v s 139 [.ref 0, .int c, .int i, .int e, gc_u] 258 [.ref 67, .int c, .int i, .int e, gc_u, gc_u, gc_u] := fun z => ⟨0, 0, by decide, sp_stepN hP hm (by omega) hC.1 z (pure2 hX _ fun Q q => sp_mstep hP hm (by omega) hR.1 (fun k' i' w' u hk' hc' hi' hi2 hw' he' => (z.elim (fun z => absurd hc' (z k' hk')) (fun z => z.elim (fun z => absurd (by rw [hi2] at z; exact z) (nI_pos hi')) (fun z => absurd he' (z w' hw'))))) (fun _ => q))⟩
  rcases cl_dec (aW a) c with ⟨k, hk, hc⟩ | z
  · rcases n_dec 6 e with ⟨w, hw, he⟩ | z
    · rcases Classical.em (i < 0) with zi | zi
      · exact no (Or.inr (Or.inl zi))
      · obtain ⟨j, hj, hij⟩ := nI_of zi
        refine ⟨kP (aW a) (ah a).2.1 (ld_ro (aW a) k) (ah a).2.2 s, 256 * kP (aW a) (ah a).2.1 (ld_ro (aW a) k) (ah a).2.2 s, kP_le, ?_⟩
        rw [hc, he, hij]
        exact sp_step hP hm (by omega) hC.1 hk hj hw rfl fun t t1 t2 => q2 hX _ t1 t2 aA36 bB36 fun Q hq q => sp_mstep hP hm (by omega) hq (fun k' i' w' u hk' hc' hi' hi2 hw' he' u1 u2 => by rw [← nI_k hk hk' (by omega) rfl hc', ← nI_k hw hw' (by decide) rfl he', ← (nI_eq hj hi').mp hi2]; exact q u u1 u2) (fun z => z.elim (fun z => absurd rfl (z k hk)) (fun z => z.elim (fun z => absurd z (nI_pos hj)) (fun z => absurd rfl (z w hw))))
    · exact no (Or.inr (Or.inr z))
  · exact no (Or.inl z)
theorem kNd_le {W : ld_W} {h : Nat × Nat × Nat} {p : Nat} : kNd W h p s ≤ 1537 ∧ 256 * kNd W h p s ≤ 256 * kNd W h p s + 14336 := by
  have : kNd W h p s ≤ 1536 := by
    unfold kNd
    by_cases z : dp_D W h.2.1 p h.1 h.2.2 = 0
    · rw [if_pos z]
      have : kP W h.2.1 p h.2.2 s ≤ 1536 := kF_le _ _
      omega
    · rw [if_neg z]
      unfold kP
      rw [← kF_two (f := fun i => (pS W h.2.1 p h.2.2 i && (gc_Y s i).isNone) || (nd_S W h p i && ((gc_Y s i).isNone && !pS W h.2.1 p h.2.2 i))) 1536 0 (fun i _ _ => ?_)]
      · exact kF_le _ _
      · cases (gc_Y s i).isNone <;> cases pS W h.2.1 p h.2.2 i <;> cases nd_S W h p i <;> simp
  omega
theorem c_needed (hP : gc_Cl P) (hm : gc_Mo P) (hd : 20 ≤ d) (hX : XI a L lv v s) {c e : Int32} : step2 P d v s 146 [.ref 0, .int c, .int e, gc_u, gc_u] 283 [.ref 67, .int c, .int e, gc_u] := by
  obtain ⟨hA, hC, hR, hT⟩ := id hX
  obtain ⟨_, _, hk0⟩ := cq_b hC.1
  have hc6 := hk0.1.2.2.2.1
  have no : ((∀ k, k < ld_c (aW a) → c ≠ nI k) ∨ (∀ k, k < 3 → e ≠ nI k)) → step2 P d v s 146 [.ref 0, .int c, .int e, gc_u, gc_u] 283 [.ref 67, .int c, .int e, gc_u] := fun z => ⟨0, 0, by decide, sp_neededN hP hm (by omega) hC.1 z (pure2 hX _ fun Q q => sp_mneeded hP hm (by omega) hR.1 (fun k' w' u hk' hc' hw' he' => (z.elim (fun z => absurd hc' (z k' hk')) (fun z => absurd he' (z w' hw')))) (fun _ => q))⟩
  rcases cl_dec (aW a) c with ⟨k, hk, hc⟩ | z
  · rcases n_dec 3 e with ⟨w, hw, he⟩ | z
    · refine ⟨kNd (aW a) (ah a) (ld_ro (aW a) k) s, 256 * kNd (aW a) (ah a) (ld_ro (aW a) k) s, kNd_le, ?_⟩
      rw [hc, he]
      exact sp_neededC hP hm (by omega) hC.1 hk hw rfl fun t t1 t2 => q2 hX _ t1 t2 aA0 bB0 fun Q hq q => sp_mneeded hP hm (by omega) hq (fun k' w' u hk' hc' hw' he' u1 u2 => by rw [← nI_k hk hk' (by omega) rfl hc', ← nI_k hw hw' (by decide) rfl he']; exact q u u1 u2) (fun z => z.elim (fun z => absurd rfl (z k hk)) (fun z => absurd rfl (z w hw)))
    · exact no (Or.inr z)
  · exact no (Or.inl z)
/-- settling keeps what is held -/
theorem CI_cy {kc : Nat} (hAI : AI a) (h : CI a L v s) (ht : cq (aW a) L v (ah a) t) (g : cy kc s t) (hb : bev t) (hs : stl (aW a) t) : CI a L v t := by
  obtain ⟨h1, ⟨h2, h3, h4⟩, h5, h6, ⟨h7, h8, h9⟩, h10, h11, h12, h13, h14⟩ := h
  obtain ⟨g1, g2, g3, ⟨g4, g5, g6, g7⟩, g8, g9, g10⟩ := g
  have hI : ∀ x, x < 116 → x ≠ 24 → x ≠ 47 → x ≠ 48 → gc_I t x = gc_I s x := g2
  have hL := h1.1.1.1
  have hr : (gc_rS L 17 < 116 ∧ gc_rS L 17 ≠ 47 ∧ gc_rS L 17 ≠ 48) ∧ (gc_rS L 18 < 116 ∧ gc_rS L 18 ≠ 24 ∧ gc_rS L 18 ≠ 47 ∧ gc_rS L 18 ≠ 48) := by
    rcases hL with e | e <;> rw [e] <;> decide
  have hL44 : L ≠ 44 ∧ L ≠ 45 := by rcases hL with e | e <;> omega
  refine ⟨ht, ⟨nmC_of h2 (g1 L 6 hL44.1 hL44.2) (g3 _ hr.1.1 hr.1.2.1 hr.1.2.2) (hI _ hr.2.1 hr.2.2.1 hr.2.2.2.1 hr.2.2.2.2), fun k hk => by rw [g3 8 (by decide) (by decide) (by decide)]; exact h3 k hk, g6.trans h4⟩, (g1 1 1 (by decide) (by decide)).trans h5, ?_, ⟨⟨(g1 40 5 (by decide) (by decide)).trans h7.1, ?_⟩, (g1 40 4 (by decide) (by decide)).trans h8, ?_⟩, ?_, (g1 0 12 (by decide) (by decide)).trans h11, hb, hs, g10 h14⟩
  · intro k hk
    have e : ∀ j, gc_F t (51 + k) j = gc_F s (51 + k) j := fun j => g1 _ j (by omega) (by omega)
    rw [e 3, e 0, e 1, e 2]
    exact h6 k hk
  · rw [hI 41 (by decide) (by decide) (by decide) (by decide), hI 42 (by decide) (by decide) (by decide) (by decide), hI 43 (by decide) (by decide) (by decide) (by decide)]
    exact h7.2
  · intro l hl
    obtain ⟨c1, _, c3, _⟩ := wkI_mem hAI.2.2.2.2.1 hl
    have hp24 := h1.1.1.2.2.2.1.1.2.2.2.2
    have hlt : cl_num (ako a) l.1 l.2.2 < 1536 := cl_num_lt hAI.2.2.2.2.2.1 (by omega) c3
    exact g8 _ (nI v) hlt h1.1.2.1 (h9 l hl)
  · unfold psC at h10 ⊢
    rw [g1 28 16 (by decide) (by decide), g1 28 17 (by decide) (by decide), g1 28 18 (by decide) (by decide), g1 28 19 (by decide) (by decide)]
    exact h10
theorem q3 {kc y : Nat} {As : List Value} (hX : XI a L lv v s) (x : Int32) (ht : cq (aW a) L v (ah a) t) (g : cy kc s t) (hb : bev t) (hs : stl (aW a) t) (hR : ∀ Q : gc_TQ, rq (aW a) lv (ah a) t → (∀ u, rq (aW a) lv (ah a) u → fr RA RB t u → Q (some (.int x)) u) → gc_T P d 0 0 y 0 As [] t Q) : xE P d v s y As kc (some (.int x)) t := by
  have hX' : XI a L lv v t := by
    obtain ⟨h1, h2, h3, h4⟩ := hX
    refine ⟨h1, CI_cy h1 h2 ht g hb hs, RI_kR h3 (kR_cy g), ?_⟩
    unfold TI at h4 ⊢
    rw [g.2.1 2 (by decide) (by decide) (by decide) (by decide), g.2.1 69 (by decide) (by decide) (by decide) (by decide)]
    exact h4
  exact ⟨x, rfl, g.2.2.2.2.2.1, hR _ hX'.2.2.1.1 (fun u u1 u2 => xR_of (XI_RA hX' u1 u2) (fr_n u2))⟩
theorem kSt_ex (W : ld_W) (h : Nat × Nat × Nat) (s : gc_St) : ∃ kc ks, (kc ≤ 1537 ∧ ks ≤ 256 * kc + 14336) ∧ kSt W h s kc ks := by
  rcases Classical.em (hit h s) with z | z
  · exact ⟨0, 0, by decide, fun _ => rfl, fun y => absurd z y⟩
  · refine ⟨_, _, ?_, fun y => absurd y z, fun _ => ⟨rfl, rfl⟩⟩
    have : kF (fun i => aS W h.2.1 h.2.2 (ld_c W) i && (gc_Y s i).isNone) 0 1536 ≤ 1536 := kF_le _ _
    split <;> omega
theorem c_together (hP : gc_Cl P) (hm : gc_Mo P) (hd : 20 ≤ d) (hX : XI a L lv v s) {e : Int32} : step2 P d v s 144 [.ref 0, .int e] 279 [.ref 67, .int e, gc_u] := by
  obtain ⟨hA, hC, hR, hT⟩ := id hX
  obtain ⟨_, _, hk0⟩ := cq_b hC.1
  have hc6 := hk0.1.2.2.2.1
  rcases n_dec 2 e with ⟨w, hw, he⟩ | z
  · obtain ⟨kc, ks, k1, k2⟩ := kSt_ex (aW a) (ah a) s
    refine ⟨kc, ks, k1, ?_⟩
    rw [he]
    exact sp_togetherC hP hm (by omega) hC.1 hC.2.2.2.2.2.2.2.1 hC.2.2.2.2.2.2.2.2.1 k2 hw fun t t1 t2 t3 t4 => q3 hX _ t1 t2 t3 t4 fun Q hq q => sp_mtogether hP hm (by omega) hq (fun w' u hw' he' u1 u2 => by rw [← nI_k hw hw' (by decide) rfl he']; exact q u u1 u2) (fun z => absurd rfl (z w hw))
  · exact ⟨0, 0, by decide, sp_togetherN hP hm z (pure2 hX _ fun Q q => sp_mtogether hP hm (by omega) hR.1 (fun w' u hw' he' => absurd he' (z w' hw')) (fun _ => q))⟩
theorem c_part (hP : gc_Cl P) (hm : gc_Mo P) (hd : 20 ≤ d) (hX : XI a L lv v s) {c e : Int32} : step2 P d v s 145 [.ref 0, .int c, .int e] 280 [.ref 67, .int c, .int e, gc_u, gc_u, gc_u, gc_u] := by
  obtain ⟨hA, hC, hR, hT⟩ := id hX
  obtain ⟨_, _, hk0⟩ := cq_b hC.1
  have hc6 := hk0.1.2.2.2.1
  have no : ((∀ k, k < ld_c (aW a) → c ≠ nI k) ∨ (∀ k, k < 2 → e ≠ nI k)) → step2 P d v s 145 [.ref 0, .int c, .int e] 280 [.ref 67, .int c, .int e, gc_u, gc_u, gc_u, gc_u] := fun z => ⟨0, 0, by decide, sp_partN hP hm (by omega) hC.1 z (pure2 hX _ fun Q q => sp_mpart hP hm (by omega) hR.1 (fun k' w' u hk' hc' hw' he' => (z.elim (fun z => absurd hc' (z k' hk')) (fun z => absurd he' (z w' hw')))) (fun _ => q))⟩
  rcases cl_dec (aW a) c with ⟨k, hk, hc⟩ | z
  · rcases n_dec 2 e with ⟨w, hw, he⟩ | z
    · obtain ⟨kc, ks, k1, k2⟩ := kSt_ex (aW a) (ah a) s
      refine ⟨kc, ks, k1, ?_⟩
      rw [hc, he]
      exact sp_partC hP hm (by omega) hC.1 hC.2.2.2.2.2.2.2.1 hC.2.2.2.2.2.2.2.2.1 k2 hk hw fun t t1 t2 t3 t4 => q3 hX _ t1 t2 t3 t4 fun Q hq q => sp_mpart hP hm (by omega) hq (fun k' w' u hk' hc' hw' he' u1 u2 => by rw [← nI_k hk hk' (by omega) rfl hc', ← nI_k hw hw' (by decide) rfl he']; exact q u u1 u2) (fun z => z.elim (fun z => absurd rfl (z k hk)) (fun z => absurd rfl (z w hw)))
    · exact no (Or.inr z)
  · exact no (Or.inl z)
end Xs
