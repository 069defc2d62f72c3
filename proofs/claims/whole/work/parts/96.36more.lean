/-! An OATH, a BARGAIN more: the law. -/
def wD (W : ld_W) (j k tk gv ot : Nat) : ld_W := up1 (up1 (up1 (up1 W 2 k tk) 3 k gv) 4 k ot) 0 j (W 0 j + 1)
section Wd2
variable {W : ld_W} {j k tk gv ot : Nat}
theorem wD_j : wD W j k tk gv ot 0 j = W 0 j + 1 := up_eq _ _ _ _
theorem wD_c {x : Nat} (h : x ≠ j) : wD W j k tk gv ot 0 x = W 0 x := by
  unfold wD
  rw [up_nx _ h, up_na _ (by decide), up_na _ (by decide), up_na _ (by decide)]
theorem wD_a {a : Nat} (h0 : a ≠ 0) (h2 : a ≠ 2) (h3 : a ≠ 3) (h4 : a ≠ 4) : wD W j k tk gv ot a = W a := by
  unfold wD
  rw [up_na _ h0, up_na _ h4, up_na _ h3, up_na _ h2]
theorem wD_k : wD W j k tk gv ot 2 k = tk ∧ wD W j k tk gv ot 3 k = gv ∧ wD W j k tk gv ot 4 k = ot := by
  unfold wD
  refine ⟨?_, ?_, ?_⟩
  · rw [up_na _ (by decide), up_na _ (by decide), up_na _ (by decide), up_eq]
  · rw [up_na _ (by decide), up_na _ (by decide), up_eq]
  · rw [up_na _ (by decide), up_eq]
theorem wD_x {a x : Nat} (h0 : a ≠ 0) (h : x ≠ k) : wD W j k tk gv ot a x = W a x := by
  unfold wD
  rw [up_na _ h0, up_nx _ h, up_nx _ h, up_nx _ h]
theorem wD_cnt (hj : j = 1 ∨ j = 2) : cnt4 (wD W j k tk gv ot) = cnt4 W + 1 := by
  unfold cnt4
  show wD W j k tk gv ot 0 0 + wD W j k tk gv ot 0 1 + (wD W j k tk gv ot 0 2 + wD W j k tk gv ot 0 3) = W 0 0 + W 0 1 + (W 0 2 + W 0 3) + 1
  rcases hj with rfl | rfl
  · rw [wD_j, wD_c (by decide), wD_c (by decide), wD_c (by decide)]
    omega
  · rw [wD_j, wD_c (by decide), wD_c (by decide), wD_c (by decide)]
    omega
/-- what is told of deals -/
def dlk (W : ld_W) (j k : Nat) : Prop := (j = 1 ∧ k = ld_o W ∧ ld_o W < 3) ∨ (j = 2 ∧ k = 3 + ld_b W ∧ ld_b W < 3)
theorem wD_dl (h : dlk W j k) {x : Nat} (hx : ld_dl (wD W j k tk gv ot) x) : x = k ∨ ld_dl W x := by
  have hx' : x < wD W j k tk gv ot 0 1 ∨ (3 ≤ x ∧ x < 3 + wD W j k tk gv ot 0 2) := hx
  show x = k ∨ (x < W 0 1 ∨ (3 ≤ x ∧ x < 3 + W 0 2))
  rcases h with ⟨rfl, h2, h3⟩ | ⟨rfl, h2, h3⟩
  · rw [wD_j, wD_c (by decide)] at hx'
    have h2' : k = W 0 1 := h2
    omega
  · rw [wD_j, wD_c (by decide)] at hx'
    have h2' : k = 3 + W 0 2 := h2
    omega
theorem dlk_n (h : dlk W j k) (ho : ld_o W ≤ 3) : ¬ ld_dl W k ∧ k < 6 := by
  rcases h with ⟨_, h2, h3⟩ | ⟨_, h2, h3⟩
  · refine ⟨fun z => ?_, by omega⟩
    rcases z with z | z <;> omega
  · refine ⟨fun z => ?_, by omega⟩
    rcases z with z | z <;> omega
theorem lwC_D {L : Nat} {v : gc_St} (hL : cl_L L) (hd : dlk W j k) (h : lwC W L v) (h8 : gc_I v (gc_rS L 8) k = nI tk) (h9 : gc_I v (gc_rS L 9) k = nI gv) (h10 : gc_I v (gc_rS L 10) k = ld_oI ot) : lwC (wD W j k tk gv ot) L (gc_wF v L j (nI (W 0 j + 1))) := by
  obtain ⟨⟨⟨f0, f1, f2, f3, f4⟩, w1, w2, w3, w4⟩, w5⟩ := h
  have hj : j = 1 ∨ j = 2 := by
    rcases hd with ⟨e, _⟩ | ⟨e, _⟩
    · exact Or.inl e
    · exact Or.inr e
  have hF : ∀ x, x ≠ j → gc_F (gc_wF v L j (nI (W 0 j + 1))) L x = gc_F v L x := fun x hx => F_ne _ _ (Or.inr hx)
  have fin : ∀ x, gc_F v L x = nI (W 0 x) → gc_F (gc_wF v L j (nI (W 0 j + 1))) L x = nI (wD W j k tk gv ot 0 x) := by
    intro x hx
    by_cases e : x = j
    · rw [e, F_eq, wD_j]
    · rw [hF x e, wD_c e]
      exact hx
  refine ⟨⟨⟨fin 0 f0, fin 1 f1, fin 2 f2, fin 3 f3, fin 4 f4⟩, fun g hg => ?_, fun x hx => ?_, fun c hc => ?_, fun p hp => ?_⟩, ?_⟩
  · show gc_I v (gc_rS L 7) g = nI (wD W j k tk gv ot 1 g)
    rw [wD_a (by decide) (by decide) (by decide) (by decide)]
    refine w1 g ?_
    have hh : g < wD W j k tk gv ot 0 0 := hg
    rw [wD_c (by omega)] at hh
    exact hh
  · show gc_I v (gc_rS L 8) x = nI (wD W j k tk gv ot 2 x) ∧ gc_I v (gc_rS L 9) x = nI (wD W j k tk gv ot 3 x) ∧ gc_I v (gc_rS L 10) x = ld_oI (wD W j k tk gv ot 4 x)
    by_cases e : x = k
    · rw [e, wD_k.1, wD_k.2.1, wD_k.2.2]
      exact ⟨h8, h9, h10⟩
    · rw [wD_x (by decide) e, wD_x (by decide) e, wD_x (by decide) e]
      exact w2 x ((wD_dl hd hx).resolve_left e)
  · show gc_I v (gc_rS L 11) c = nI (wD W j k tk gv ot 5 c) ∧ gc_I v (gc_rS L 12) c = nI (wD W j k tk gv ot 6 c)
    rw [wD_a (by decide) (by decide) (by decide) (by decide), wD_a (by decide) (by decide) (by decide) (by decide)]
    refine w3 c ?_
    have hh : c < wD W j k tk gv ot 0 3 := hc
    rw [wD_c (by omega)] at hh
    exact hh
  · have hh : p < wD W j k tk gv ot 0 4 := hp
    rw [wD_c (by omega)] at hh
    show gc_I v (gc_rS L 13) p = nI (wD W j k tk gv ot 7 p) ∧ gc_I v (gc_rS L 14) p = ld_fI (wD W j k tk gv ot) p ∧ gc_I v (gc_rS L 15) p = ld_sI (wD W j k tk gv ot) p ∧ gc_I v (gc_rS L 16) p = nI (wD W j k tk gv ot 10 p)
    unfold ld_fI ld_sI
    rw [show ld_kd (wD W j k tk gv ot) = ld_kd W from wD_a (by decide) (by decide) (by decide) (by decide), show ld_fi (wD W j k tk gv ot) = ld_fi W from wD_a (by decide) (by decide) (by decide) (by decide), show ld_se (wD W j k tk gv ot) = ld_se W from wD_a (by decide) (by decide) (by decide) (by decide), wD_a (by decide) (by decide) (by decide) (by decide), wD_a (by decide) (by decide) (by decide) (by decide)]
    exact w4 p hh
  · rw [hF 5 (by omega), w5]
    show _ = nI (told (wD W j k tk gv ot) (wD W j k tk gv ot 0 0))
    rw [wD_c (by omega), told_ex (wD_a (by decide) (by decide) (by decide) (by decide))]
theorem cnC_D {L : Nat} {v : gc_St} (h : cnC W L v) : cnC (wD W j k tk gv ot) L (gc_wF v L j (nI (W 0 j + 1))) := by
  obtain ⟨f0, f1, f2, f3, f4⟩ := h
  have fin : ∀ x, gc_F v L x = nI (W 0 x) → gc_F (gc_wF v L j (nI (W 0 j + 1))) L x = nI (wD W j k tk gv ot 0 x) := by
    intro x hx
    by_cases e : x = j
    · rw [e, F_eq, wD_j]
    · rw [F_ne _ _ (Or.inr e), wD_c e]
      exact hx
  exact ⟨fin 0 f0, fin 1 f1, fin 2 f2, fin 3 f3, fin 4 f4⟩
/-- the reference's row of counts -/
def caR (j : Nat) : Nat := if j = 1 then 83 else 86
theorem lwR_D {sd : Nat} {p1 : gc_St} (ho : ld_o W ≤ 3) (hd : dlk W j k) (h : lwR W sd p1) (hk : (j = 1 ∧ gc_I p1 84 (3 * sd + k) = nI tk ∧ gc_I p1 85 (3 * sd + k) = nI gv ∧ ot = 0) ∨ (j = 2 ∧ ∃ k', k = 3 + k' ∧ gc_I p1 87 (3 * sd + k') = nI tk ∧ gc_I p1 88 (3 * sd + k') = nI gv ∧ gc_I p1 89 (3 * sd + k') = ld_oI ot)) {x : Int32} : lwR (wD W j k tk gv ot) sd (gc_wI p1 (caR j) sd x) := by
  obtain ⟨w1, w2, w3, w4, w5⟩ := h
  have hj : j = 1 ∨ j = 2 := by
    rcases hd with ⟨e, _⟩ | ⟨e, _⟩
    · exact Or.inl e
    · exact Or.inr e
  have hca : caR j = 83 ∨ caR j = 86 := by
    rcases hj with rfl | rfl
    · exact Or.inl rfl
    · exact Or.inr rfl
  have hI : ∀ a, a ≠ 83 → a ≠ 86 → gc_I (gc_wI p1 (caR j) sd x) a = gc_I p1 a := fun a a1 a2 => I_na _ _ (by omega)
  refine ⟨fun g hg => ?_, fun y hy => ?_, fun y hy => ?_, fun c hc => ?_, fun p hp => ?_⟩
  · have hh : g < wD W j k tk gv ot 0 0 := hg
    rw [wD_c (by omega)] at hh
    show gc_I _ 81 _ = nI (wD W j k tk gv ot 1 g) ∧ gc_I _ 82 _ = nI (wD W j k tk gv ot 11 g)
    rw [hI 81 (by decide) (by decide), hI 82 (by decide) (by decide), wD_a (by decide) (by decide) (by decide) (by decide), wD_a (by decide) (by decide) (by decide) (by decide)]
    exact w1 g hh
  · have hh : y < wD W j k tk gv ot 0 1 := hy
    show gc_I _ 84 _ = nI (wD W j k tk gv ot 2 y) ∧ gc_I _ 85 _ = nI (wD W j k tk gv ot 3 y)
    rw [hI 84 (by decide) (by decide), hI 85 (by decide) (by decide)]
    rcases hd with ⟨rfl, h2, h3⟩ | ⟨rfl, h2, h3⟩
    · rw [wD_j] at hh
      have h2' : k = W 0 1 := h2
      rcases hk with ⟨_, k1, k2, _⟩ | ⟨z, _⟩
      · by_cases e : y = k
        · rw [e, wD_k.1, wD_k.2.1]
          exact ⟨k1, k2⟩
        · rw [wD_x (by decide) e, wD_x (by decide) e]
          exact w2 y (by show y < W 0 1; omega)
      · omega
    · rw [wD_c (by decide)] at hh
      have h2' : k = 3 + W 0 2 := h2
      have h3' : W 0 2 < 3 := h3
      have hob : y < ld_o W := hh
      rw [wD_x (by decide) (by omega), wD_x (by decide) (by omega)]
      exact w2 y hh
  · have hh : y < wD W j k tk gv ot 0 2 := hy
    show gc_I _ 87 _ = nI (wD W j k tk gv ot 2 (3 + y)) ∧ gc_I _ 88 _ = nI (wD W j k tk gv ot 3 (3 + y)) ∧ gc_I _ 89 _ = ld_oI (wD W j k tk gv ot 4 (3 + y))
    rw [hI 87 (by decide) (by decide), hI 88 (by decide) (by decide), hI 89 (by decide) (by decide)]
    rcases hd with ⟨rfl, h2, h3⟩ | ⟨rfl, h2, h3⟩
    · rw [wD_c (by decide)] at hh
      rw [wD_x (by decide) (by omega), wD_x (by decide) (by omega), wD_x (by decide) (by omega)]
      exact w3 y hh
    · rw [wD_j] at hh
      have h2' : k = 3 + W 0 2 := h2
      rcases hk with ⟨z, _⟩ | ⟨_, k', k1, k2, k3, k4⟩
      · omega
      · by_cases e : y = k'
        · rw [e, ← k1, wD_k.1, wD_k.2.1, wD_k.2.2]
          exact ⟨k2, k3, k4⟩
        · rw [wD_x (by decide) (by omega), wD_x (by decide) (by omega), wD_x (by decide) (by omega)]
          exact w3 y (by show y < W 0 2; omega)
  · have hh : c < wD W j k tk gv ot 0 3 := hc
    rw [wD_c (by omega)] at hh
    show gc_I _ 91 _ = nI (wD W j k tk gv ot 5 c) ∧ gc_I _ 92 _ = nI (wD W j k tk gv ot 6 c)
    rw [hI 91 (by decide) (by decide), hI 92 (by decide) (by decide), wD_a (by decide) (by decide) (by decide) (by decide), wD_a (by decide) (by decide) (by decide) (by decide)]
    exact w4 c hh
  · have hh : p < wD W j k tk gv ot 0 4 := hp
    rw [wD_c (by omega)] at hh
    show gc_I _ 94 _ = nI (wD W j k tk gv ot 7 p) ∧ gc_I _ 95 _ = ld_fI (wD W j k tk gv ot) p ∧ gc_I _ 96 _ = ld_sI (wD W j k tk gv ot) p
    unfold ld_fI ld_sI
    rw [hI 94 (by decide) (by decide), hI 95 (by decide) (by decide), hI 96 (by decide) (by decide), show ld_kd (wD W j k tk gv ot) = ld_kd W from wD_a (by decide) (by decide) (by decide) (by decide), show ld_fi (wD W j k tk gv ot) = ld_fi W from wD_a (by decide) (by decide) (by decide) (by decide), show ld_se (wD W j k tk gv ot) = ld_se W from wD_a (by decide) (by decide) (by decide) (by decide), wD_a (by decide) (by decide) (by decide) (by decide)]
    exact w5 p hh
theorem cnR_D {sd : Nat} {p1 : gc_St} (hj : j = 1 ∨ j = 2) (h : cnR W sd p1) : cnR (wD W j k tk gv ot) sd (gc_wI p1 (caR j) sd (nI (W 0 j + 1))) := by
  obtain ⟨f0, f1, f2, f3, f4⟩ := h
  rcases hj with rfl | rfl
  · refine ⟨?_, ?_, ?_, ?_, ?_⟩
    · show gc_I (gc_wI p1 83 sd _) 80 sd = nI (wD W 1 k tk gv ot 0 0)
      rw [I_ne _ _ (Or.inl (by decide)), wD_c (by decide)]
      exact f0
    · show gc_I (gc_wI p1 83 sd _) 83 sd = nI (wD W 1 k tk gv ot 0 1)
      rw [I_eq, wD_j]
    · show gc_I (gc_wI p1 83 sd _) 86 sd = nI (wD W 1 k tk gv ot 0 2)
      rw [I_ne _ _ (Or.inl (by decide)), wD_c (by decide)]
      exact f2
    · show gc_I (gc_wI p1 83 sd _) 90 sd = nI (wD W 1 k tk gv ot 0 3)
      rw [I_ne _ _ (Or.inl (by decide)), wD_c (by decide)]
      exact f3
    · show gc_I (gc_wI p1 83 sd _) 93 sd = nI (wD W 1 k tk gv ot 0 4)
      rw [I_ne _ _ (Or.inl (by decide)), wD_c (by decide)]
      exact f4
  · refine ⟨?_, ?_, ?_, ?_, ?_⟩
    · show gc_I (gc_wI p1 86 sd _) 80 sd = nI (wD W 2 k tk gv ot 0 0)
      rw [I_ne _ _ (Or.inl (by decide)), wD_c (by decide)]
      exact f0
    · show gc_I (gc_wI p1 86 sd _) 83 sd = nI (wD W 2 k tk gv ot 0 1)
      rw [I_ne _ _ (Or.inl (by decide)), wD_c (by decide)]
      exact f1
    · show gc_I (gc_wI p1 86 sd _) 86 sd = nI (wD W 2 k tk gv ot 0 2)
      rw [I_eq, wD_j]
    · show gc_I (gc_wI p1 86 sd _) 90 sd = nI (wD W 2 k tk gv ot 0 3)
      rw [I_ne _ _ (Or.inl (by decide)), wD_c (by decide)]
      exact f3
    · show gc_I (gc_wI p1 86 sd _) 93 sd = nI (wD W 2 k tk gv ot 0 4)
      rw [I_ne _ _ (Or.inl (by decide)), wD_c (by decide)]
      exact f4
end Wd2
section Yf
variable {P : gc_Pr} {d : Nat} {q s0 S0 : gc_St} {Q : gc_TQ} {b : Nat → Nat} {n T sd i : Nat} {nl : List (List Nat × Nat × Nat)} {W W' : ld_W} {r : Option (Nat × Nat)}
/-- the end of a TELL, by the reference: its NAME, one more -/
theorem y_finish (hP : gc_Cl P) (hm : gc_Mo P) (hd : 1 ≤ d) (hlt : ∀ j, b j < 256) {m m' j ca kd ix : Nat} (hS : frR sd S0 q) (h : zR b n T sd m nl s0 i W r 0 q) (hj : j < T) (hk : rk b n j = 1) (hca : ca = 80 ∨ ca = 83 ∨ ca = 86 ∨ ca = 90) (hix : gc_I q ca sd = nI ix) (hkd : kd ≤ 3) (hi8 : ix < 8) (hk4 : kd = 0 → ix < 4) (hm16 : m < 16) (hm' : m' = m + 1) (hcn : ∀ p1, cnR W sd p1 → cnR W' sd (gc_wI p1 ca sd (nI (ix + 1)))) (hlw : ∀ p1, (∀ a, 79 ≤ a → gc_I p1 a = gc_I q a) → r = none → lwR W sd p1 → lwR W' sd (gc_wI p1 ca sd (nI (ix + 1)))) (hQ : ∀ t, zU b n T sd m' (nl ++ [(wdi b n j, kd, ix)]) S0 i W' r t → Q none t) : vp_in (gc_F q 67 20) 2 ∧ (1 ≤ d ∧ gc_T P (d - 1) 0 0 195 0 [.ref 67, .int (nI j), .int (nI kd), .int (gc_I q ca (gc_F q 67 20).toNatClampNeg)] [] q (fun r14 s15 => gc_rv r14 (vp_in (gc_F s15 67 20) 2 ∧ (vp_in (gc_F s15 67 20) 2 ∧ (Q none (gc_wI s15 ca ((gc_F s15 67 20).toNatClampNeg) ((gc_I s15 ca (gc_F s15 67 20).toNatClampNeg) + 1))))))) := by
  have hsd : sd < 2 := h.2.2.2.1.1
  rw [h.2.2.2.1.2.1, nI_clamp (by omega), hix]
  refine ⟨vp_in_nI hsd (by decide), hd, y_notes hP hm hlt hS h hj hk hkd hi8 hk4 hm16 fun p1 p2 p3 => ?_⟩
  obtain ⟨_, _, p20, pcn⟩ := zU_R p2
  show vp_in (gc_F p1 67 20) 2 ∧ vp_in (gc_F p1 67 20) 2 ∧ _
  rw [p20, nI_clamp (by omega), p3 ca (by omega), hix, nI_1]
  refine ⟨vp_in_nI hsd (by decide), vp_in_nI hsd (by decide), hQ _ ?_⟩
  rw [hm']
  refine zU_up p2.1 p2.2 ⟨fr_wI (BzU_iff.mpr (by omega)) (fr_refl p1), kp_wI' hsd (kp_refl p1) (k' := 0) ?_ ?_⟩ (fun _ => rfl) (fun a ha => I_na _ _ (by omega)) (fun _ _ => rfl) (hcn p1 pcn) (fun y => hlw p1 p3 y (p2.2.2.2.2.2.2.2.2 y))
  · rcases hca with rfl | rfl | rfl | rfl <;> decide
  · rcases hca with rfl | rfl | rfl | rfl
    · show sd = 1 * sd + 0
      omega
    · show sd = 1 * sd + 0
      omega
    · show sd = 1 * sd + 0
      omega
    · show sd = 1 * sd + 0
      omega
end Yf
theorem eqz {f : Option (Nat × Nat)} {x p x' p' : Nat} (h : f = some (x, p)) (h' : f = some (x', p')) : x' = x ∧ p' = p := by
  have e2 : (x, p) = (x', p') := Option.some.inj (h.symm.trans h')
  rw [Prod.mk.injEq] at e2
  exact ⟨e2.1.symm, e2.2.symm⟩
