/-! The calls: those that change nothing, the hand, the slots, the tape. -/
def XI (a : gA) (L lv v : Nat) (s : gc_St) : Prop := AI a ∧ CI a L v s ∧ RI a lv s ∧ TI (an a) s
/-- both end with the same answer, and hold the same then -/
def xR (v : Nat) (x : Int32) (t : gc_St) : gc_TQ := fun r u => r = some (.int x) ∧ gc_n u = gc_n t ∧ ∃ a L lv v', v' ≤ v + 1 ∧ XI a L lv v' u
def xE (P : gc_Pr) (d v : Nat) (s : gc_St) (y : Nat) (As : List Value) (kc : Nat) : gc_TQ := fun r t => ∃ x : Int32, r = some (.int x) ∧ gc_n t = gc_n s + kc ∧ gc_T P d 0 0 y 0 As [] t (xR v x t)
def step2 (P : gc_Pr) (d v : Nat) (s : gc_St) (y : Nat) (As : List Value) (y' : Nat) (As' : List Value) : Prop := ∃ kc ks, (kc ≤ 1537 ∧ ks ≤ 256 * kc + 14336) ∧ gc_T P d kc ks y 0 As [] s (xE P d v s y' As' kc)
section Pu
variable {P : gc_Pr} {d : Nat} {s t u : gc_St} {a : gA} {L lv v : Nat}
theorem xR_of (hX : XI a L lv v u) (hn : gc_n u = gc_n t) {x : Int32} : xR v x t (some (.int x)) u := ⟨rfl, hn, a, L, lv, v, Nat.le_succ v, hX⟩
theorem pure2 (hX : XI a L lv v s) {y : Nat} {As : List Value} (x : Int32) (hR : ∀ Q : gc_TQ, Q (some (.int x)) s → gc_T P d 0 0 y 0 As [] s Q) : xE P d v s y As 0 (some (.int x)) s := ⟨x, rfl, rfl, hR _ (xR_of hX rfl)⟩
theorem nI_k {k k' n : Nat} {c : Int32} (hk : k < n) (hk' : k' < n) (hn : n < 2 ^ 31) (h : c = nI k) (h' : c = nI k') : k = k' := (nI_eq (by omega) (by omega)).mp (h.symm.trans h')
theorem c_place (hP : gc_Cl P) (hm : gc_Mo P) (hX : XI a L lv v s) : step2 P d v s 126 [.ref 0] 191 [.ref 67] := by
  obtain ⟨_, hC, hR, _⟩ := id hX
  refine ⟨0, 0, by decide, b_X10_place_0 hP hm ?_⟩
  rw [hC.2.2.2.2.2.2.1]
  refine pure2 hX _ fun Q q => b_X11_place_0 hP hm ?_
  rw [hR.2.2.2.2.2.2]
  exact q
theorem c_passed (hP : gc_Cl P) (hm : gc_Mo P) (hd : 20 ≤ d) (hX : XI a L lv v s) {c : Int32} : step2 P d v s 127 [.ref 0, .int c] 268 [.ref 67, .int c] := by
  obtain ⟨_, hC, hR, _⟩ := id hX
  exact ⟨0, 0, by decide, sp_passedC hP hm hC.2.2.2.2.2.1 (fun k hk hc => pure2 hX _ fun Q q => sp_mpassed hP hm (by omega) hR.2.2.2.2.2.1 (fun k' hk' hc' => by rw [← nI_k hk hk' (by decide) hc hc']; exact q) (fun z => absurd hc (z k hk))) (fun z => pure2 hX _ fun Q q => sp_mpassed hP hm (by omega) hR.2.2.2.2.2.1 (fun k' hk' hc' => absurd hc' (z k' hk')) (fun _ => q))⟩
theorem XI_b (hX : XI a L lv v s) : cl_C (aW a) L s ∧ rf_law (aW a) lv s ∧ ld_ok (aW a) ∧ (ah a).1 < 256 ∧ (ah a).2.1 < 8 ∧ (ah a).2.2 < 8 := by
  obtain ⟨_, hC, hR, _⟩ := hX
  obtain ⟨b1, b2, hk⟩ := cq_b hC.1
  have := ld_N_le hk
  have := hC.1.2.2.2.1
  exact ⟨hC.1.1.1, hR.1.1, hk, by omega, b1, b2⟩
theorem c_price (hP : gc_Cl P) (hm : gc_Mo P) (hd : 20 ≤ d) (hX : XI a L lv v s) {c : Int32} : step2 P d v s 128 [.ref 0, .int c] 224 [.ref 67, .int c] := by
  obtain ⟨hC, hl, hk0, _⟩ := XI_b hX
  have hg4 := hk0.1.1
  exact ⟨0, 0, by decide, sp_price hP hm (by omega) hC (fun k hk hc => pure2 hX _ fun Q q => sp_mprice hP hm (by omega) hl (fun k' hk' hc' => by rw [← nI_k hk hk' (by omega) hc hc']; exact q) (fun z => absurd hc (z k hk))) (fun z => pure2 hX _ fun Q q => sp_mprice hP hm (by omega) hl (fun k' hk' hc' => absurd hc' (z k' hk')) (fun _ => q))⟩
theorem c_stock (hP : gc_Cl P) (hm : gc_Mo P) (hd : 20 ≤ d) (hX : XI a L lv v s) {c : Int32} : step2 P d v s 129 [.ref 0, .int c] 225 [.ref 67, .int c] := by
  obtain ⟨hC, hl, hk0, h256, _⟩ := XI_b hX
  have hg4 := hk0.1.1
  have e1 := hX.2.1.1.2.2.1.1
  have e2 := hX.2.2.1.1.2.2.1.1
  exact ⟨0, 0, by decide, sp_stock hP hm (by omega) hC e1 h256 (fun k hk hc => pure2 hX _ fun Q q => sp_mstock hP hm (by omega) hl e2 h256 (fun k' hk' hc' => by rw [← nI_k hk hk' (by omega) hc hc']; exact q) (fun z => absurd hc (z k hk))) (fun z => pure2 hX _ fun Q q => sp_mstock hP hm (by omega) hl e2 h256 (fun k' hk' hc' => absurd hc' (z k' hk')) (fun _ => q))⟩
theorem c_pointOf (hP : gc_Cl P) (hm : gc_Mo P) (hd : 20 ≤ d) (hX : XI a L lv v s) {c : Int32} : step2 P d v s 133 [.ref 0, .int c] 229 [.ref 67, .int c] := by
  obtain ⟨hC, hl, hk0, _⟩ := XI_b hX
  have hg4 := hk0.1.2.2.2.1
  exact ⟨0, 0, by decide, sp_pointOf hP hm (by omega) hC (fun k hk hc => pure2 hX _ fun Q q => sp_mpointOf hP hm (by omega) hl (fun k' hk' hc' => by rw [← nI_k hk hk' (by omega) hc hc']; exact q) (fun z => absurd hc (z k hk))) (fun z => pure2 hX _ fun Q q => sp_mpointOf hP hm (by omega) hl (fun k' hk' hc' => absurd hc' (z k' hk')) (fun _ => q))⟩
theorem c_point (hP : gc_Cl P) (hm : gc_Mo P) (hd : 20 ≤ d) (hX : XI a L lv v s) {c x : Int32} : step2 P d v s 134 [.ref 0, .int c, .int x, gc_u] 230 [.ref 67, .int c, .int x] := by
  obtain ⟨hC, hl, hk0, _⟩ := XI_b hX
  have hg4 := hk0.1.2.2.2.2
  exact ⟨0, 0, by decide, sp_pointC hP hm hC (fun k hk hc => pure2 hX _ fun Q q => sp_mpoint hP hm (by omega) hl (fun k' hk' hc' => by rw [← nI_k hk hk' (by omega) hc hc']; exact q) (fun z => absurd hc (z k hk))) (fun z => pure2 hX _ fun Q q => sp_mpoint hP hm (by omega) hl (fun k' hk' hc' => absurd hc' (z k' hk')) (fun _ => q))⟩
/-- the hand changes -/
abbrev setH (a : gA) (h : Nat × Nat × Nat) : gA := (a.1, a.2.1, a.2.2.1, h, a.2.2.2.2)
theorem CI_hand {h : Nat × Nat × Nat} (hC : CI a L v s) (g : fr (Aq 49) B0 s t) (hh : gc_F t 49 0 = nI h.1 ∧ gc_F t 49 1 = nI h.2.1 ∧ gc_F t 49 2 = nI h.2.2) (ho : hok (aW a) h) : CI (setH a h) L v t := by
  obtain ⟨h1, ⟨h2, h3, h4⟩, h5, h6, ⟨h7, h8, h9⟩, h10, h11, h12, h13, h14⟩ := hC
  have hF : ∀ q k, q ≠ 49 → gc_F t q k = gc_F s q k := fun q k hq => fr_F g (bf fun z => hq (Aq_iff.mp z))
  have hI : ∀ x, gc_I t x = gc_I s x := fun x => fr_I g rfl
  have hJ : ∀ x, gc_J t x = gc_J s x := fun x => fr_J g rfl
  have hL := h1.1.1.1
  have hL49 : L ≠ 49 := by rcases hL with e | e <;> omega
  refine ⟨⟨mvS_fr h1.1 g ⟨rfl, fun k => ⟨rfl, rfl⟩⟩ (fun x hx => rfl), h1.2.1, hh, ho⟩, ⟨nmC_of h2 (hF L 6 hL49) (hJ _) (hI _), fun k hk => by rw [hJ 8]; exact h3 k hk, (fr_dr g).trans h4⟩, (hF 1 1 (by decide)).trans h5, ?_, ⟨wkP_fr h7 g rfl ⟨rfl, rfl, rfl⟩, (hF 40 4 (by decide)).trans h8, ?_⟩, ?_, (hF 0 12 (by decide)).trans h11, ?_, ?_, ?_⟩
  · intro k hk
    have e : ∀ j, gc_F t (51 + k) j = gc_F s (51 + k) j := fun j => hF _ j (by omega)
    rw [e 3, e 0, e 1, e 2]
    exact h6 k hk
  · unfold vK at h9 ⊢
    rw [hI 24]
    exact h9
  · unfold psC at h10 ⊢
    rw [hF 28 16 (by decide), hF 28 17 (by decide), hF 28 18 (by decide), hF 28 19 (by decide)]
    exact h10
  · unfold bev at h12 ⊢
    rw [fr_be g, fr_gk g]
    exact h12
  · unfold stl stA ptd at h13 ⊢
    rw [hF 45 3 (by decide), hF 45 0 (by decide), hF 45 1 (by decide), hF 45 2 (by decide), hF 44 3 (by decide), hF 44 4 (by decide), hF 44 5 (by decide), hI 47, hI 48]
    exact h13
  · unfold cnt at h14 ⊢
    rw [fr_n g, fr_Y g, fr_be g]
    exact h14
theorem A49_i {q k : Nat} (h : A49 q k = true) : q = 67 ∧ (k = 49 ∨ k = 50 ∨ k = 51) := by
  unfold A49 at h
  simp only [Bool.and_eq_true, Bool.or_eq_true, Nat.beq_eq] at h
  omega
theorem RI_hand {h : Nat × Nat × Nat} (hR : RI a lv s) (g : fr A49 B0 s t) (hh : rqh h t) (ho : hok (aW a) h) : RI (setH a h) lv t := by
  obtain ⟨⟨h1, hft, _, _⟩, ⟨h2, h3, h4, h5⟩, h6, h7, ⟨h8, h9⟩, h10, h11⟩ := hR
  have hF : ∀ k, k ≠ 49 → k ≠ 50 → k ≠ 51 → gc_F t 67 k = gc_F s 67 k := fun k a1 a2 a3 => fr_F g (bf fun z => by have := (A49_i z).2; omega)
  have hI : ∀ x, gc_I t x = gc_I s x := fun x => fr_I g rfl
  have hJ : ∀ x, gc_J t x = gc_J s x := fun x => fr_J g rfl
  refine ⟨⟨rf_law_of h1 (hF 19 (by decide) (by decide) (by decide)) (fun x _ => hI x), ?_, hh, ho⟩, ⟨nmR_of h2 (hJ 76) (hI 77) (hI 78), by rw [hI 79]; exact h3, fun k hk => by rw [hJ 68]; exact h4 k hk, fun k hk => by rw [hJ 75]; exact h5 k hk⟩, (hF 3 (by decide) (by decide) (by decide)).trans h6, ?_, ⟨⟨(hF 77 (by decide) (by decide) (by decide)).trans h8.1, ?_⟩, (hF 79 (by decide) (by decide) (by decide)).trans h9⟩, ?_, (hF 18 (by decide) (by decide) (by decide)).trans h11⟩
  · unfold rft rtt at hft ⊢
    rw [hF 53 (by decide) (by decide) (by decide), hI 100]
    exact hft
  · unfold slR at h7 ⊢
    rw [hI 112, hI 113, hI 114, hI 115]
    exact h7
  · rw [hI 111]
    exact h8.2
  · unfold psR at h10 ⊢
    rw [hF 68 (by decide) (by decide) (by decide), hF 69 (by decide) (by decide) (by decide), hF 70 (by decide) (by decide) (by decide), hF 71 (by decide) (by decide) (by decide)]
    exact h10
theorem TI_fr {A : Nat → Nat → Bool} {B : Nat → Bool} {n : Nat} (h : TI n s) (g : fr A B s t) (h2 : B 2 = false) (h69 : B 69 = false) : TI n t := by
  unfold TI at h ⊢
  rw [fr_I g h2, fr_I g h69]
  exact h
/-- both change the hand alike -/
theorem XI_hand {h : Nat × Nat × Nat} (hX : XI a L lv v s) (g : fr (Aq 49) B0 s t) (hh : gc_F t 49 0 = nI h.1 ∧ gc_F t 49 1 = nI h.2.1 ∧ gc_F t 49 2 = nI h.2.2) (g2 : fr A49 B0 t u) (hh2 : rqh h u) (ho : hok (aW a) h) : XI (setH a h) L lv v u := by
  obtain ⟨hA, hC, hR, hT⟩ := hX
  refine ⟨hA, CI_kC (CI_hand hC g hh ho) (fr_up g2 (fun q k z => AR_iff.mpr (A49_i z).1) (fun x z => (B0_f z).elim)), RI_hand (RI_kR hR (kR_fr g (fun q k z => by have := Aq_iff.mp z; omega) (fun x z => (B0_f z).elim))) g2 hh2 ho, TI_fr (TI_fr hT g rfl rfl) g2 rfl rfl⟩
end Pu
