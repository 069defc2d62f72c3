/-! judge and feed: the calls. -/
section Xj
variable {P : gc_Pr} {d : Nat} {s t u : gc_St} {a : gA} {L lv v : Nat}
/-- the text that stands -/
def txt (n : Nat) (s : gc_St) (j : Nat) : Nat := if j < n then tk_b (gc_I s 69 j) else tk_b (gc_I s 70 j)
theorem txt_lt {n : Nat} (j : Nat) : txt n s j < 256 := by
  unfold txt
  split
  · exact tk_b_lt _
  · exact tk_b_lt _
theorem txt_R {n : Nat} (e1 : gc_I t 69 = gc_I s 69) (e2 : gc_I t 70 = gc_I s 70) : (∀ j, j < n → tk_b (gc_I t 69 j) = txt n s j) ∧ ∀ j, n ≤ j → tk_b (gc_I t 70 j) = txt n s j := by
  rw [e1, e2]
  refine ⟨fun j hj => ?_, fun j hj => ?_⟩
  · unfold txt
    rw [if_pos hj]
  · unfold txt
    rw [if_neg (by omega)]
theorem txt_C {n : Nat} (hT : TI n s) : ∀ j, j < n → tk_b (gc_I s 2 j) = txt n s j := by
  intro j hj
  unfold txt
  rw [if_pos hj, (hT j hj).1]
theorem c_judge (hP : gc_Cl P) (hm : gc_Mo P) (hd : 20 ≤ d) (hX : XI a L lv v s) {c : Int32} : step2 P d v s 125 [.ref 0, .int c, gc_u] 260 [.ref 67, .int c] := by
  obtain ⟨hA, hC, hR, hT⟩ := id hX
  obtain ⟨b1, b2, hk0⟩ := cq_b hC.1
  have hh := hC.1.2.2.1
  have hho := hC.1.2.2.2
  have hc6 := hk0.1.2.2.2.1
  have hex : ∀ k, ∃ r : gRes, k < ld_c (aW a) → jdX (txt (an a) s) (an a) L lv (aW a) (aN a) (ah a).2.1 (ah a).1 (ah a).2.2 (ld_ro (aW a) k) r := fun k => by
    by_cases hk : k < ld_c (aW a)
    · obtain ⟨r, hr⟩ := jd_ex (b := txt (an a) s) (n := an a) (L := L) (lv := lv) (W := aW a) (nl := aN a) (o := (ah a).2.1) (sk := (ah a).1) (bs := (ah a).2.2) (r := ld_ro (aW a) k) (fun j => txt_lt j) hA.2.1 hA.2.2.1 hk0 b1 (hk0.2.2.2.1 k hk).1 hho.1 hho.2.2
      exact ⟨r, fun _ => hr⟩
    · exact ⟨.inl (0, 0), fun z => absurd z hk⟩
  obtain ⟨res, hres⟩ := Classical.axiomOfChoice hex
  have hst : stC (aW a) L (aN a) s := ⟨hC.1.1.1, hC.2.1.1, hC.2.1.2.1⟩
  -- the reference behind the class
  have ref : ∀ (t : gc_St) (Q : gc_TQ), RI a lv t → gc_I t 69 = gc_I s 69 → gc_I t 70 = gc_I s 70 → ((∀ k, k < ld_c (aW a) → c ≠ nI k) → Q (some (.int (-1))) t) → (∀ k u e, k < ld_c (aW a) → c = nI k → res k = .inl e → fr Akf Bkf t u → gc_F u 67 3 = 0 → gc_F u 67 18 = nI e.2 → 1 ≤ e.1 → e.1 < 9 → Q (some (.int (nI e.1))) u) → (∀ k u e, k < ld_c (aW a) → c = nI k → res k = .inr e → fr Akp Bkf t u → gc_F u 67 3 = 0 → gc_F u 67 18 = -1 → psR (psE e) u → Q (some (.int 0)) u) → gc_T P d 0 0 260 0 [.ref 67, .int c] [] t Q := by
    intro t Q hRt e1 e2 q0 q1 q2
    obtain ⟨t1, t2⟩ := txt_R (n := an a) e1 e2
    exact sp_judgeR hP hm (by omega) (fun k hk => hres k hk) ⟨hRt.1.1, hRt.2.1.1, hRt.2.1.2.1, hRt.1.2.2.1.2.1, hRt.2.1.2.2.1⟩ hA.1 hRt.2.2.1 (fun j hj => by rw [e1]; exact (hT j hj).2) t1 t2 hRt.2.1.2.2.2 hRt.1.2.2.1.1 hRt.1.2.2.1.2.2 q0 q1 q2
  refine ⟨0, 0, by decide, sp_judgeC hP hm (by omega) (fun k hk => hres k hk) hst hA.1 (txt_C hT) (fun j => txt_lt j) hC.2.2.1 hh.1 hh.2.1 hh.2.2 (fun z => pure2 hX _ fun Q q => ref s Q hR rfl rfl (fun _ => q) (fun k u e hk hc => absurd hc (z k hk)) (fun k u e hk hc => absurd hc (z k hk))) (fun k t e hk hc he g c1 c2 x1 x9 => ⟨_, rfl, fr_n g, ?_⟩) (fun k t e hk hc he g c1 c2 c3 => ⟨_, rfl, fr_n g, ?_⟩)⟩
  · have hR' := gen_R hX g (fun q j z => by have := Ajc_iff.mp z; omega) (fun x z => by have := Bjc_iff.mp z; omega)
    refine ref t _ hR' (fr_I g rfl) (fr_I g rfl) (fun z => absurd hc (z k hk)) (fun k' u e' hk' hc' he' g2 r1 r2 _ _ => ?_) (fun k' u e' hk' hc' he' => ?_)
    · have ek := nI_k hk hk' (by omega) hc hc'
      rw [← ek, he] at he'
      have ee : e = e' := by simpa using he'
      rw [← ee] at r2 ⊢
      have gF : ∀ j, gc_F t 49 j = gc_F s 49 j := fun j => fr_F g (bf fun z => by have := Ajc_iff.mp z; omega)
      have gF2 : ∀ j, 49 ≤ j → j ≤ 51 → gc_F u 67 j = gc_F t 67 j := fun j h1 h2 => fr_F g2 (bf fun z => by have := Akf_i.mp z; omega)
      exact xR_of (XI_gen (n := 0) (h := ah a) (sl := asl a) (ps := aps a) (pl := nI e.2) hX g (fun q j z => Ajc_A z) (fun x z => by have := Bjc_iff.mp z; omega) g2 (fun q j z => by have := Akf_i.mp z; omega) (fun x z => by have := Bkf_i.mp z; omega) c1 ⟨(gF 0).trans hh.1, (gF 1).trans hh.2.1, (gF 2).trans hh.2.2⟩ (slC_fr hC.2.2.2.1 g (fun j i hj => bf fun z => by have := Ajc_iff.mp z; omega)) (psC_fr hC.2.2.2.2.2.1 g (fun j h1 h2 => bf fun z => by have := Ajc_iff.mp z; omega)) c2 r1 ⟨(gF2 49 (by decide) (by decide)).trans hR'.1.2.2.1.1, (gF2 50 (by decide) (by decide)).trans hR'.1.2.2.1.2.1, (gF2 51 (by decide) (by decide)).trans hR'.1.2.2.1.2.2⟩ (slR_fr hR'.2.2.2.1 g2 ⟨rfl, rfl, rfl, rfl⟩) (psR_fr hR'.2.2.2.2.2.1 g2 (fun j h1 h2 => bf fun z => by have := Akf_i.mp z; omega)) r2 (by decide) hho hA.2.2.2.1 (fun j hj => absurd hj (Nat.not_lt_zero j))) (fr_n g2)
    · have ek := nI_k hk hk' (by omega) hc hc'
      rw [← ek, he] at he'
      exact absurd he' (by simp)
  · have hR' := gen_R hX g (fun q j z => by have := Ajp_iff.mp z; omega) (fun x z => by have := Bjc_iff.mp z; omega)
    refine ref t _ hR' (fr_I g rfl) (fr_I g rfl) (fun z => absurd hc (z k hk)) (fun k' u e' hk' hc' he' => ?_) (fun k' u e' hk' hc' he' g2 r1 r2 r3 => ?_)
    · have ek := nI_k hk hk' (by omega) hc hc'
      rw [← ek, he] at he'
      exact absurd he' (by simp)
    · have ek := nI_k hk hk' (by omega) hc hc'
      rw [← ek, he] at he'
      have ee : e = e' := by simpa using he'
      rw [← ee] at r3
      have gF : ∀ j, gc_F t 49 j = gc_F s 49 j := fun j => fr_F g (bf fun z => by have := Ajp_iff.mp z; omega)
      have gF2 : ∀ j, 49 ≤ j → j ≤ 51 → gc_F u 67 j = gc_F t 67 j := fun j h1 h2 => fr_F g2 (bf fun z => by have := Akp_i.mp z; omega)
      exact xR_of (XI_gen (n := 0) (h := ah a) (sl := asl a) (ps := psE e) (pl := -1) hX g (fun q j z => Ajp_A z) (fun x z => by have := Bjc_iff.mp z; omega) g2 (fun q j z => by have := Akp_i.mp z; omega) (fun x z => by have := Bkf_i.mp z; omega) c1 ⟨(gF 0).trans hh.1, (gF 1).trans hh.2.1, (gF 2).trans hh.2.2⟩ (slC_fr hC.2.2.2.1 g (fun j i hj => bf fun z => by have := Ajp_iff.mp z; omega)) c3 c2 r1 ⟨(gF2 49 (by decide) (by decide)).trans hR'.1.2.2.1.1, (gF2 50 (by decide) (by decide)).trans hR'.1.2.2.1.2.1, (gF2 51 (by decide) (by decide)).trans hR'.1.2.2.1.2.2⟩ (slR_fr hR'.2.2.2.1 g2 ⟨rfl, rfl, rfl, rfl⟩) r3 r2 (by decide) hho hA.2.2.2.1 (fun j hj => absurd hj (Nat.not_lt_zero j))) (fr_n g2)
theorem nar_b (x : Int32) : vp_nar .byte (vp_nar .byte x) = vp_nar .byte x := by
  have e : ∀ x : Int32, vp_nar .byte x = x.toInt8.toInt32 := fun _ => rfl
  rw [e, e, Int8.toInt8_toInt32]
theorem tp20_b (v w x y z : Int32) (j : Nat) : vp_nar .byte (tp_20 v w x y z j) = tp_20 v w x y z j := by
  unfold tp_20 tp_by
  split
  · split
    · split
      · split
        · exact nar_b _
        · exact nar_b _
      · exact nar_b _
    · exact nar_b _
  · exact nar_b _
theorem c_feed (hP : gc_Cl P) (hm : gc_Mo P) (hd : 20 ≤ d) (hX : XI a L lv v s) {v1 v2 v3 v4 v5 : Int32} : step2 P d v s 121 [.ref 0, .int v1, .int v2, .int v3, .int v4, .int v5] 173 [.ref 67, .int v1, .int v2, .int v3, .int v4, .int v5] := by
  obtain ⟨hA, hC, hR, hT⟩ := id hX
  have hh := hC.1.2.2.1
  have hn : an a ≤ 2000 := hA.1
  refine ⟨0, 0, by decide, sp_feed hP hm (by omega) hn hC.2.2.1 ?_⟩
  by_cases z : an a + 20 ≤ 2000
  · rw [if_pos z]
    refine ⟨_, rfl, rfl, ?_⟩
    have g : fr (Aq 1) (Bm 2) s (tp_can 1 1 2 (an a) 20 (tp_20 v1 v2 v3 v4 v5) s) := by
      unfold tp_can
      exact fr_wF rfl (fr_wR rfl (fr_refl s))
    have e2 : ∀ q j, gc_I (tp_can 1 1 2 (an a) 20 (tp_20 v1 v2 v3 v4 v5) s) q j = if q = 2 then (if an a ≤ j ∧ j < an a + 20 then tp_20 v1 v2 v3 v4 v5 (j - an a) else gc_I s 2 j) else gc_I s q j := fun q j => tp_I q j
    have e11 : gc_F (tp_can 1 1 2 (an a) 20 (tp_20 v1 v2 v3 v4 v5) s) 1 1 = nI (an a + 20) := by
      rw [tp_F, if_pos rfl, if_pos rfl]
    revert g e2 e11
    generalize tp_can 1 1 2 (an a) 20 (tp_20 v1 v2 v3 v4 v5) s = t
    intro g e2 e11
    have hR' := gen_R hX g (fun q j z => by have := Aq_iff.mp z; omega) (fun x z => by
      unfold Bm at z
      rw [Nat.beq_eq] at z
      omega)
    refine sp_mfeed hP hm (by omega) hn hR'.2.2.1 ?_
    rw [if_pos z]
    have g2 : fr (Am 3) (Bm 69) t (tp_can 67 3 69 (an a) 20 (tp_20 v1 v2 v3 v4 v5) t) := by
      unfold tp_can
      exact fr_wF rfl (fr_wR rfl (fr_refl t))
    have e3 : ∀ q j, gc_I (tp_can 67 3 69 (an a) 20 (tp_20 v1 v2 v3 v4 v5) t) q j = if q = 69 then (if an a ≤ j ∧ j < an a + 20 then tp_20 v1 v2 v3 v4 v5 (j - an a) else gc_I t 69 j) else gc_I t q j := fun q j => tp_I q j
    have e67 : gc_F (tp_can 67 3 69 (an a) 20 (tp_20 v1 v2 v3 v4 v5) t) 67 3 = nI (an a + 20) := by
      rw [tp_F, if_pos rfl, if_pos rfl]
    revert g2 e3 e67
    generalize tp_can 67 3 69 (an a) 20 (tp_20 v1 v2 v3 v4 v5) t = u
    intro g2 e3 e67
    have am : ∀ q j, Am 3 q j = true → q = 67 ∧ j = 3 := fun q j z => by
      unfold Am at z
      simp only [Bool.and_eq_true, Nat.beq_eq] at z
      exact z
    have gF : ∀ q j, q ≠ 1 → gc_F t q j = gc_F s q j := fun q j hq => fr_F g (bf fun z => hq (Aq_iff.mp z))
    have gF2 : ∀ j, j ≠ 3 → gc_F u 67 j = gc_F t 67 j := fun j hj => fr_F g2 (bf fun z => hj (am 67 j z).2)
    refine xR_of (XI_gen (n := an a + 20) (h := ah a) (sl := asl a) (ps := aps a) (pl := apl a) hX g (fun q j z => by have := Aq_iff.mp z; omega) (fun x z => by
      unfold Bm at z
      rw [Nat.beq_eq] at z
      omega) g2 (fun q j z => by have := am q j z; omega) (fun x z => by
      unfold Bm at z
      rw [Nat.beq_eq] at z
      omega) e11 ⟨(gF 49 0 (by decide)).trans hh.1, (gF 49 1 (by decide)).trans hh.2.1, (gF 49 2 (by decide)).trans hh.2.2⟩ (slC_fr hC.2.2.2.1 g (fun j i _ => bf fun z => by have := Aq_iff.mp z; omega)) (psC_fr hC.2.2.2.2.2.1 g (fun j _ _ => rfl)) ((gF 0 12 (by decide)).trans hC.2.2.2.2.2.2.1) e67 ⟨(gF2 49 (by decide)).trans hR'.1.2.2.1.1, (gF2 50 (by decide)).trans hR'.1.2.2.1.2.1, (gF2 51 (by decide)).trans hR'.1.2.2.1.2.2⟩ (slR_fr hR'.2.2.2.1 g2 ⟨rfl, rfl, rfl, rfl⟩) (psR_fr hR'.2.2.2.2.2.1 g2 (fun j h1 h2 => bf fun z => by have := (am 67 j z).2; omega)) ((gF2 18 (by decide)).trans hR'.2.2.2.2.2.2) z hC.1.2.2.2 hA.2.2.2.1 (fun j hj => ?_)) (fr_n g2)
    rw [show gc_I u 2 j = gc_I t 2 j from (e3 2 j).trans (if_neg (by decide)), show gc_I u 69 j = (if an a ≤ j ∧ j < an a + 20 then tp_20 v1 v2 v3 v4 v5 (j - an a) else gc_I t 69 j) from (e3 69 j).trans (if_pos rfl), show gc_I t 2 j = (if an a ≤ j ∧ j < an a + 20 then tp_20 v1 v2 v3 v4 v5 (j - an a) else gc_I s 2 j) from (e2 2 j).trans (if_pos rfl), show gc_I t 69 j = gc_I s 69 j from (e2 69 j).trans (if_neg (by decide))]
    by_cases y : an a ≤ j ∧ j < an a + 20
    · rw [if_pos y, if_pos y]
      exact ⟨rfl, tp20_b _ _ _ _ _ _⟩
    · rw [if_neg y, if_neg y]
      exact hT j (by omega)
  · rw [if_neg z]
    refine pure2 hX _ fun Q q => sp_mfeed hP hm (by omega) hn hR.2.2.1 ?_
    rw [if_neg z]
    exact q
end Xj
