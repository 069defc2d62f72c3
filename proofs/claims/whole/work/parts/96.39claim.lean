/-! A CLAIM told, by both. -/
def wK (W : ld_W) (wo ro : Nat) : ld_W := up1 (up1 (up1 W 5 (ld_c W) wo) 6 (ld_c W) ro) 0 3 (ld_c W + 1)
section Wk
variable {W : ld_W} {wo ro : Nat}
theorem wK_3 : wK W wo ro 0 3 = ld_c W + 1 := up_eq _ _ _ _
theorem wK_c {x : Nat} (h : x ≠ 3) : wK W wo ro 0 x = W 0 x := by
  unfold wK
  rw [up_nx _ h, up_na _ (by decide), up_na _ (by decide)]
theorem wK_a {a : Nat} (h0 : a ≠ 0) (h5 : a ≠ 5) (h6 : a ≠ 6) : wK W wo ro a = W a := by
  unfold wK
  rw [up_na _ h0, up_na _ h6, up_na _ h5]
theorem wK_k : wK W wo ro 5 (ld_c W) = wo ∧ wK W wo ro 6 (ld_c W) = ro := by
  unfold wK
  refine ⟨?_, ?_⟩
  · rw [up_na _ (by decide), up_na _ (by decide), up_eq]
  · rw [up_na _ (by decide), up_eq]
theorem wK_x {a x : Nat} (h0 : a ≠ 0) (h : x ≠ ld_c W) : wK W wo ro a x = W a x := by
  unfold wK
  rw [up_na _ h0, up_nx _ h, up_nx _ h]
theorem wK_cnt : cnt4 (wK W wo ro) = cnt4 W + 1 := by
  unfold cnt4
  show wK W wo ro 0 0 + wK W wo ro 0 1 + (wK W wo ro 0 2 + wK W wo ro 0 3) = W 0 0 + W 0 1 + (W 0 2 + ld_c W) + 1
  rw [wK_3, wK_c (by decide), wK_c (by decide), wK_c (by decide)]
  omega
theorem lwC_K {L : Nat} {v : gc_St} (h : lwC W L v) (h11 : gc_I v (gc_rS L 11) (ld_c W) = nI wo) (h12 : gc_I v (gc_rS L 12) (ld_c W) = nI ro) : lwC (wK W wo ro) L (gc_wF v L 3 (nI (ld_c W + 1))) := by
  obtain ⟨⟨⟨f0, f1, f2, f3, f4⟩, w1, w2, w3, w4⟩, w5⟩ := h
  have fin : ∀ x, gc_F v L x = nI (W 0 x) → gc_F (gc_wF v L 3 (nI (ld_c W + 1))) L x = nI (wK W wo ro 0 x) := by
    intro x hx
    by_cases e : x = 3
    · rw [e, F_eq, wK_3]
    · rw [F_ne _ _ (Or.inr e), wK_c e]
      exact hx
  refine ⟨⟨⟨fin 0 f0, fin 1 f1, fin 2 f2, fin 3 f3, fin 4 f4⟩, fun g hg => ?_, fun x hx => ?_, fun c hc => ?_, fun p hp => ?_⟩, ?_⟩
  · show gc_I v (gc_rS L 7) g = nI (wK W wo ro 1 g)
    rw [wK_a (by decide) (by decide) (by decide)]
    refine w1 g ?_
    have hh : g < wK W wo ro 0 0 := hg
    rw [wK_c (by decide)] at hh
    exact hh
  · show gc_I v (gc_rS L 8) x = nI (wK W wo ro 2 x) ∧ gc_I v (gc_rS L 9) x = nI (wK W wo ro 3 x) ∧ gc_I v (gc_rS L 10) x = ld_oI (wK W wo ro 4 x)
    rw [wK_a (a := 2) (by decide) (by decide) (by decide), wK_a (a := 3) (by decide) (by decide) (by decide), wK_a (a := 4) (by decide) (by decide) (by decide)]
    refine w2 x ?_
    have hh : x < wK W wo ro 0 1 ∨ (3 ≤ x ∧ x < 3 + wK W wo ro 0 2) := hx
    rw [wK_c (x := 1) (by decide), wK_c (x := 2) (by decide)] at hh
    exact hh
  · show gc_I v (gc_rS L 11) c = nI (wK W wo ro 5 c) ∧ gc_I v (gc_rS L 12) c = nI (wK W wo ro 6 c)
    have hh : c < wK W wo ro 0 3 := hc
    rw [wK_3] at hh
    by_cases e : c = ld_c W
    · rw [e, wK_k.1, wK_k.2]
      exact ⟨h11, h12⟩
    · rw [wK_x (by decide) e, wK_x (by decide) e]
      exact w3 c (by omega)
  · have hh : p < wK W wo ro 0 4 := hp
    rw [wK_c (by decide)] at hh
    show gc_I v (gc_rS L 13) p = nI (wK W wo ro 7 p) ∧ gc_I v (gc_rS L 14) p = ld_fI (wK W wo ro) p ∧ gc_I v (gc_rS L 15) p = ld_sI (wK W wo ro) p ∧ gc_I v (gc_rS L 16) p = nI (wK W wo ro 10 p)
    unfold ld_fI ld_sI
    rw [show ld_kd (wK W wo ro) = ld_kd W from wK_a (by decide) (by decide) (by decide), show ld_fi (wK W wo ro) = ld_fi W from wK_a (by decide) (by decide) (by decide), show ld_se (wK W wo ro) = ld_se W from wK_a (by decide) (by decide) (by decide), wK_a (a := 7) (by decide) (by decide) (by decide), wK_a (a := 10) (by decide) (by decide) (by decide)]
    exact w4 p hh
  · rw [F_ne _ _ (Or.inr (by decide)), w5]
    show _ = nI (told (wK W wo ro) (wK W wo ro 0 0))
    rw [wK_c (by decide), told_ex (wK_a (by decide) (by decide) (by decide))]
theorem cnC_K {L : Nat} {v : gc_St} (h : cnC W L v) : cnC (wK W wo ro) L (gc_wF v L 3 (nI (ld_c W + 1))) := by
  obtain ⟨f0, f1, f2, f3, f4⟩ := h
  have fin : ∀ x, gc_F v L x = nI (W 0 x) → gc_F (gc_wF v L 3 (nI (ld_c W + 1))) L x = nI (wK W wo ro 0 x) := by
    intro x hx
    by_cases e : x = 3
    · rw [e, F_eq, wK_3]
    · rw [F_ne _ _ (Or.inr e), wK_c e]
      exact hx
  exact ⟨fin 0 f0, fin 1 f1, fin 2 f2, fin 3 f3, fin 4 f4⟩
theorem cnR_K {sd : Nat} {p1 : gc_St} (h : cnR W sd p1) : cnR (wK W wo ro) sd (gc_wI p1 90 sd (nI (ld_c W + 1))) := by
  obtain ⟨f0, f1, f2, f3, f4⟩ := h
  refine ⟨?_, ?_, ?_, ?_, ?_⟩
  · show _ = nI (wK W wo ro 0 0)
    rw [I_ne _ _ (Or.inl (by decide)), wK_c (by decide)]
    exact f0
  · show _ = nI (wK W wo ro 0 1)
    rw [I_ne _ _ (Or.inl (by decide)), wK_c (by decide)]
    exact f1
  · show _ = nI (wK W wo ro 0 2)
    rw [I_ne _ _ (Or.inl (by decide)), wK_c (by decide)]
    exact f2
  · show _ = nI (wK W wo ro 0 3)
    rw [I_eq, wK_3]
  · show _ = nI (wK W wo ro 0 4)
    rw [I_ne _ _ (Or.inl (by decide)), wK_c (by decide)]
    exact f4
theorem lwR_K {sd : Nat} {p1 : gc_St} {x : Int32} (h : lwR W sd p1) (h91 : gc_I p1 91 (6 * sd + ld_c W) = nI wo) (h92 : gc_I p1 92 (6 * sd + ld_c W) = nI ro) : lwR (wK W wo ro) sd (gc_wI p1 90 sd x) := by
  obtain ⟨w1, w2, w3, w4, w5⟩ := h
  have hI : ∀ a, a ≠ 90 → gc_I (gc_wI p1 90 sd x) a = gc_I p1 a := fun a ha => I_na _ _ ha
  refine ⟨fun g hg => ?_, fun y hy => ?_, fun y hy => ?_, fun c hc => ?_, fun p hp => ?_⟩
  · have hh : g < wK W wo ro 0 0 := hg
    rw [wK_c (by decide)] at hh
    show gc_I _ 81 _ = nI (wK W wo ro 1 g) ∧ gc_I _ 82 _ = nI (wK W wo ro 11 g)
    rw [hI 81 (by decide), hI 82 (by decide), wK_a (a := 1) (by decide) (by decide) (by decide), wK_a (a := 11) (by decide) (by decide) (by decide)]
    exact w1 g hh
  · have hh : y < wK W wo ro 0 1 := hy
    rw [wK_c (by decide)] at hh
    show gc_I _ 84 _ = nI (wK W wo ro 2 y) ∧ gc_I _ 85 _ = nI (wK W wo ro 3 y)
    rw [hI 84 (by decide), hI 85 (by decide), wK_a (a := 2) (by decide) (by decide) (by decide), wK_a (a := 3) (by decide) (by decide) (by decide)]
    exact w2 y hh
  · have hh : y < wK W wo ro 0 2 := hy
    rw [wK_c (by decide)] at hh
    show gc_I _ 87 _ = nI (wK W wo ro 2 (3 + y)) ∧ gc_I _ 88 _ = nI (wK W wo ro 3 (3 + y)) ∧ gc_I _ 89 _ = ld_oI (wK W wo ro 4 (3 + y))
    rw [hI 87 (by decide), hI 88 (by decide), hI 89 (by decide), wK_a (a := 2) (by decide) (by decide) (by decide), wK_a (a := 3) (by decide) (by decide) (by decide), wK_a (a := 4) (by decide) (by decide) (by decide)]
    exact w3 y hh
  · have hh : c < wK W wo ro 0 3 := hc
    rw [wK_3] at hh
    show gc_I _ 91 _ = nI (wK W wo ro 5 c) ∧ gc_I _ 92 _ = nI (wK W wo ro 6 c)
    rw [hI 91 (by decide), hI 92 (by decide)]
    by_cases e : c = ld_c W
    · rw [e, wK_k.1, wK_k.2]
      exact ⟨h91, h92⟩
    · rw [wK_x (by decide) e, wK_x (by decide) e]
      exact w4 c (by omega)
  · have hh : p < wK W wo ro 0 4 := hp
    rw [wK_c (by decide)] at hh
    show gc_I _ 94 _ = nI (wK W wo ro 7 p) ∧ gc_I _ 95 _ = ld_fI (wK W wo ro) p ∧ gc_I _ 96 _ = ld_sI (wK W wo ro) p
    unfold ld_fI ld_sI
    rw [hI 94 (by decide), hI 95 (by decide), hI 96 (by decide), show ld_kd (wK W wo ro) = ld_kd W from wK_a (by decide) (by decide) (by decide), show ld_fi (wK W wo ro) = ld_fi W from wK_a (by decide) (by decide) (by decide), show ld_se (wK W wo ro) = ld_se W from wK_a (by decide) (by decide) (by decide), wK_a (a := 7) (by decide) (by decide) (by decide)]
    exact w5 p hh
end Wk
/-- a CLAIM more: what holds behind it -/
theorem tI_K {b : Nat → Nat} {n i i' wo : Nat} {W W2 : ld_W} {r r' : Option (Nat × Nat)} {nl : List (List Nat × Nat × Nat)} {w : List Nat} (h : tI b n i W r nl) (hc : ld_c W < 6) (hr' : ∀ w, r' = some w → w.2 < tk_st b n i') (hx : ex W W2) (hp : ld_p W < ld_p W2 ∧ ld_p W2 ≤ 24) (hn : r' = none → r = none ∧ nl.any (fun e => e.1 == w) = false ∧ wo ≤ 99 ∧ ∀ p, ld_p W ≤ p → p < ld_p W2 → ld_pt W2 p) : tI b n i' (wK W2 wo (ld_p W2 - 1)) r' (nl ++ [(w, 3, ld_c W)]) := by
  obtain ⟨⟨c0, c1, c2, c3, c4⟩, h2, h3⟩ := h
  have eg : ld_g (wK W2 wo (ld_p W2 - 1)) = ld_g W := (wK_c (by decide)).trans (hx.1 0 (by decide))
  have eo : ld_o (wK W2 wo (ld_p W2 - 1)) = ld_o W := (wK_c (by decide)).trans (hx.1 1 (by decide))
  have eb : ld_b (wK W2 wo (ld_p W2 - 1)) = ld_b W := (wK_c (by decide)).trans (hx.1 2 (by decide))
  have ec2 : ld_c W2 = ld_c W := hx.1 3 (by decide)
  have ec : ld_c (wK W2 wo (ld_p W2 - 1)) = ld_c W + 1 := by
    show wK W2 wo (ld_p W2 - 1) 0 3 = _
    rw [wK_3, ec2]
  have ep : ld_p (wK W2 wo (ld_p W2 - 1)) = ld_p W2 := wK_c (by decide)
  have eN : ld_N (wK W2 wo (ld_p W2 - 1)) = ld_N W := by
    show 4 ^ ld_g (wK W2 wo (ld_p W2 - 1)) = 4 ^ ld_g W
    rw [eg]
  have ea : ∀ a, a ≠ 0 → a ≠ 5 → a ≠ 6 → a ≠ 7 → a ≠ 8 → a ≠ 9 → a ≠ 10 → wK W2 wo (ld_p W2 - 1) a = W a := fun a a0 a5 a6 a7 a8 a9 a10 => (wK_a a0 a5 a6).trans (hx.2.1 a a0 a7 a8 a9 a10)
  refine ⟨⟨by rw [eg]; exact c0, by rw [eo]; exact c1, by rw [eb]; exact c2, by rw [ec]; omega, by rw [ep]; exact hp.2⟩, hr', fun z => ?_⟩
  obtain ⟨n1, n2, n3, n4⟩ := hn z
  obtain ⟨k1, k2, k3, k4⟩ := h3 n1
  obtain ⟨_, o1, o2, o3, o4, o5⟩ := k3
  refine ⟨nd_app k1 n2, fun e he => ?_, ⟨⟨by rw [eg]; exact c0, by rw [eo]; exact c1, by rw [eb]; exact c2, by rw [ec]; omega, by rw [ep]; exact hp.2⟩, fun x hx' => ?_, fun x hx' => ?_, fun c hc' => ?_, fun g hg => ?_, fun p hp' => ?_⟩, fun g hg => ?_⟩
  · rcases List.mem_append.mp he with y | y
    · obtain ⟨x0, x1, x2, x3, x4⟩ := k2 e y
      exact ⟨x0, fun q => by rw [eg]; exact x1 q, fun q => by rw [eo]; exact x2 q, fun q => by rw [eb]; exact x3 q, fun q => by rw [ec]; exact Nat.lt_succ_of_lt (x4 q)⟩
    · have ey : e = (w, 3, ld_c W) := by simpa using y
      rw [ey]
      exact ⟨Nat.le_refl 3, fun q => absurd (show (3 : Nat) = 0 from q) (by decide), fun q => absurd (show (3 : Nat) = 1 from q) (by decide), fun q => absurd (show (3 : Nat) = 2 from q) (by decide), fun _ => by rw [ec]; exact Nat.lt_succ_self _⟩
  · rw [eo, eb] at hx'
    rw [eN, show ld_tk (wK W2 wo (ld_p W2 - 1)) = ld_tk W from ea 2 (by decide) (by decide) (by decide) (by decide) (by decide) (by decide) (by decide), show ld_gv (wK W2 wo (ld_p W2 - 1)) = ld_gv W from ea 3 (by decide) (by decide) (by decide) (by decide) (by decide) (by decide) (by decide), show ld_ot (wK W2 wo (ld_p W2 - 1)) = ld_ot W from ea 4 (by decide) (by decide) (by decide) (by decide) (by decide) (by decide) (by decide)]
    exact o1 x hx'
  · rw [eo] at hx'
    rw [show ld_ot (wK W2 wo (ld_p W2 - 1)) = ld_ot W from ea 4 (by decide) (by decide) (by decide) (by decide) (by decide) (by decide) (by decide)]
    exact o2 x hx'
  · rw [ec] at hc'
    rw [ep]
    show wK W2 wo (ld_p W2 - 1) 6 c < _ ∧ wK W2 wo (ld_p W2 - 1) 5 c ≤ 99
    by_cases e : c = ld_c W
    · rw [e, ← ec2, wK_k.1, wK_k.2]
      exact ⟨by omega, n3⟩
    · rw [wK_x (by decide) (by rw [ec2]; exact e), wK_x (by decide) (by rw [ec2]; exact e), hx.2.1 6 (by decide) (by decide) (by decide) (by decide) (by decide), hx.2.1 5 (by decide) (by decide) (by decide) (by decide) (by decide)]
      have := o3 c (by omega)
      exact ⟨Nat.lt_trans this.1 hp.1, this.2⟩
  · rw [eg] at hg
    rw [show ld_pr (wK W2 wo (ld_p W2 - 1)) = ld_pr W from ea 1 (by decide) (by decide) (by decide) (by decide) (by decide) (by decide) (by decide)]
    exact o4 g hg
  · rw [ep] at hp'
    have hpt : ld_pt W2 p := by
      by_cases y : p < ld_p W
      · exact pt_ex hx y (o5 p y)
      · exact n4 p (by omega) hp'
    have eN2 : ld_N W2 = ld_N W := by
      show 4 ^ ld_g W2 = 4 ^ ld_g W
      rw [ex_g hx]
    unfold ld_pt at hpt ⊢
    rw [eN, eg, show ld_kd (wK W2 wo (ld_p W2 - 1)) = ld_kd W2 from wK_a (by decide) (by decide) (by decide), show ld_fi (wK W2 wo (ld_p W2 - 1)) = ld_fi W2 from wK_a (by decide) (by decide) (by decide), show ld_se (wK W2 wo (ld_p W2 - 1)) = ld_se W2 from wK_a (by decide) (by decide) (by decide), show ld_lo (wK W2 wo (ld_p W2 - 1)) = ld_lo W2 from wK_a (by decide) (by decide) (by decide)]
    rw [eN2, ex_g hx] at hpt
    exact hpt
  · rw [eg] at hg
    rw [ea 11 (by decide) (by decide) (by decide) (by decide) (by decide) (by decide) (by decide)]
    exact k4 g hg
section Tcl
variable {b : Nat → Nat} {n Tc Tr L sd i : Nat} {nl : List (List Nat × Nat × Nat)} {W : ld_W} {r : Option (Nat × Nat)}
/-- up to its = -/
def clP (b : Nat → Nat) (n i : Nat) (W : ld_W) : Option (Nat × Nat) := match bgR b n i (ld_c W) 6 with
  | some e => some e
  | none => match sT b n (i + 2) 2 with
    | some e => some e
    | none => sT b n (i + 3) 10
theorem clP_0 (h : clP b n i W = none) : bgR b n i (ld_c W) 6 = none ∧ sT b n (i + 2) 2 = none ∧ sT b n (i + 3) 10 = none := by
  unfold clP at h
  split at h
  · exact absurd h (by simp)
  · rename_i h1
    split at h
    · exact absurd h (by simp)
    · rename_i h2
      exact ⟨h1, h2, h⟩
theorem t_claim (hn : n ≤ 2000) (hlt : ∀ j, b j < 256) (hk : rk b n i = 25) (hI : tI b n i W r nl) : ∃ res, tP b n i res ∧ tC b n Tc L 38 [.ref 9, gc_u] i W r nl res ∧ tR b n Tr sd i W r nl res := by
  obtain ⟨⟨c0, c1, c2, c3, c4⟩, hr, hnone⟩ := hI
  have hI : tI b n i W r nl := ⟨⟨c0, c1, c2, c3, c4⟩, hr, hnone⟩
  have hk0 : rk b n i ≠ 0 := by rw [hk]; decide
  have hst := tk_st_S (rk_n hk0)
  have h16 : ld_c W < 6 → cnt4 W < 16 := fun z => by unfold cnt4; omega
  have hnlC : ∀ j, j = 11 ∨ j = 12 → ¬ livC W j (ld_c W) := fun j hj hl => by
    rcases hl with ⟨z, _⟩ | ⟨z, _⟩ | ⟨_, z⟩ | ⟨z, _⟩ <;> omega
  -- by the class: up to its =
  have goC : ∀ res, (∀ (P : gc_Pr) (d : Nat) (t S0 : gc_St) (Q : gc_TQ), gc_Cl P → gc_Mo P → 60 ≤ d → ld_c W < 6 → clP b n i W = none → zT b n Tc L (cnt4 W + 1) (nl ++ [(wdi b n (i + 1), 3, ld_c W)]) S0 (i + 4) W (nuN b n (i + 2) 0 99 (twN nl b n (i + 1) r)) t → (nuN b n (i + 2) 0 99 (twN nl b n (i + 1) r) = none → gc_I t (gc_rS L 11) (ld_c W) = nI (nui b n (i + 2))) → tqC b n Tc L S0 res Q → gc_T P (d - 1) 0 0 39 0 [.ref 9, .int 3, gc_u, gc_u, gc_u, gc_u] [] t (fun r16 s17 => gc_ri r16 fun x18 => vp_in (nI (ld_c W)) 6 ∧ (∃ a19, gc_rl s17 = some a19 ∧ (gc_io 2 a19 ∧ (vp_in (nI (ld_c W)) 6 ∧ ((¬ (gc_I (gc_wI s17 (gc_rS L 12) (ld_c W) x18) (gc_rS a19 12) (ld_c W)) = (-1) → (∃ a21, gc_rl s17 = some a21 ∧ (gc_io 2 a21 ∧ (1 ≤ d ∧ gc_T P (d - 1) 0 0 107 0 [.ref 3, .int 59] [] (gc_wF (gc_wI s17 (gc_rS L 12) (ld_c W) x18) a21 3 ((gc_F s17 a21 3) + 1)) (fun r23 s24 => gc_ri r23 fun x25 => (x25 = 0 ∨ x25 = 1) ∧ Q (some (.int x25)) s24))))) ∧ ((gc_I (gc_wI s17 (gc_rS L 12) (ld_c W) x18) (gc_rS a19 12) (ld_c W)) = (-1) → (Q (some (.int 0)) (gc_wI s17 (gc_rS L 12) (ld_c W) x18))))))))) → (∀ x p, clP b n i W = some (x, p) → res = .inl (x, p)) → tC b n Tc L 38 [.ref 9, gc_u] i W r nl res := by
    intro res hres hbad P d s S0 Q hP hm hd h hQ
    obtain ⟨hL, hrl, hcn⟩ := zT_L h
    have rS := rS_eq hL
    refine b_X3_claim_0 hP hm ⟨L, hrl, cl_io hL, by omega, ?_⟩
    rw [hcn.2.2.2.1, nI_clamp (show ld_c W < 2 ^ 31 by omega)]
    refine z_beginS hP hm (by omega) hlt kk_claim hk (tl := ld_c W) (most := 6) (kd := 3) (by decide) c3 (by decide) (fun z => absurd z (by decide)) h16 h (fun t tb t1 => ⟨fun z => absurd z (by decide), fun _ => ⟨by omega, z_numberS hP hm (by omega) hlt (lo := 0) (hi := 99) (by decide) (by decide) t1.2 (fun u us u1 u2 => ⟨fun _ => ?_, fun z => absurd z (by decide)⟩) (fun u x p us u1 => ⟨fun z => absurd rfl z, fun _ => ?_⟩)⟩⟩) (fun t x p tb t1 => ⟨fun _ => ?_, fun z => absurd rfl z⟩)
    · have hc : ld_c W < 6 := by
        unfold bgR at tb
        split at tb
        · exact absurd tb (by simp)
        · omega
      have hrlu : gc_rl u = some L := (fr_rl u1.2.2.1).trans (zT_L t1).2.1
      refine ⟨L, hrlu, cl_io hL, vp_in_nI hc (by decide), by omega, ?_⟩
      have hu' := zT_wI (j := 11) (k := ld_c W) (x := gc_F u 3 10) (fr_trans t1.1 (frC_of u1.2.2.1)) u1 (by decide) (hnlC 11 (by omega))
      have hI11 : gc_I (gc_wI u (gc_rS L 11) (ld_c W) (gc_F u 3 10)) (gc_rS L 11) (ld_c W) = gc_F u 3 10 := I_eq _ _ _ _
      revert hu' hI11
      generalize gc_wI u (gc_rS L 11) (ld_c W) (gc_F u 3 10) = u'
      intro hu' hI11
      refine z_acceptS hP hm (by omega) kk_set hu'.2 (fun v vs v1 => ⟨fun _ => ?_, fun z => absurd z (by decide)⟩) (fun v x p vs v1 => ⟨fun z => absurd rfl z, fun _ => ?_⟩)
      · have hrlv : gc_rl v = some L := (fr_rl v1.2.2.1).trans (zT_L hu').2.1
        refine ⟨L, hrlv, cl_io hL, by omega, hres P d v S0 Q hP hm hd hc (by unfold clP; rw [tb, us]; exact vs) (zT_of hu'.1 v1) (fun z => ?_) hQ⟩
        rw [fr_I v1.2.2.1 (bf fun z => by
          have := BcL_iff.mp z
          rw [rS 11 (by decide) (by decide)] at this
          omega), hI11, u2 z]
      · rw [hbad x p (by unfold clP; rw [tb, us]; exact vs)] at hQ
        exact hQ v (zG_of hu'.1 v1)
    · rw [hbad x p (by unfold clP; rw [tb, us])] at hQ
      exact hQ u (zG_of t1.1 u1)
    · rw [hbad x p (by unfold clP; rw [tb])] at hQ
      exact hQ t t1
  have goR : ∀ res, (∀ (P : gc_Pr) (d : Nat) (t S0 : gc_St) (Q : gc_TQ), gc_Cl P → gc_Mo P → 11 ≤ d → sd < 2 → ld_c W < 6 → clP b n i W = none → zU b n Tr sd (cnt4 W) nl S0 (i + 4) W (nuN b n (i + 2) 0 99 (twN nl b n (i + 1) r)) t → gc_I t 91 (6 * sd + ld_c W) = nI (nui b n (i + 2)) → tqR b n Tr sd S0 res Q → gc_T P (d - 1) 0 0 206 0 [.ref 67, gc_u] [] t (fun r11 s12 => gc_rv r11 (1 ≤ d ∧ gc_T P (d - 1) 0 0 188 0 [.ref 67, .int 4] [] s12 (fun r13 s14 => gc_rv r13 (((gc_F s14 67 14) ≤ 0 → (vp_in 0 420 ∧ (vp_in (nI (6 * sd + ld_c W)) 12 ∧ (vp_in (gc_F s14 67 20) 2 ∧ (1 ≤ d ∧ gc_T P (d - 1) 0 0 195 0 [.ref 67, .int (nI (i + 1)), .int 3, .int (gc_I s14 90 (gc_F s14 67 20).toNatClampNeg)] [] (gc_wI s14 92 (6 * sd + ld_c W) (gc_I s14 99 (0 : Int32).toNatClampNeg)) (fun r15 s16 => gc_rv r15 (vp_in (gc_F s16 67 20) 2 ∧ (vp_in (gc_F s16 67 20) 2 ∧ (Q none (gc_wI s16 90 ((gc_F s16 67 20).toNatClampNeg) ((gc_I s16 90 (gc_F s16 67 20).toNatClampNeg) + 1))))))))))) ∧ (¬ (gc_F s14 67 14) ≤ 0 → (Q none s14))))))) → (∀ x p, clP b n i W = some (x, p) → res = .inl (x, p)) → tR b n Tr sd i W r nl res := by
    intro res hres hbad P d s S0 Q hP hm hd h hQ
    have h400 := zR_i h.2
    obtain ⟨hsd, h14, h20, hcn⟩ := zU_R h
    refine b_X11_tell_0 hP hm ?_
    rw [h.2.1.2.2.1, nI_clamp (by omega), (h.2.1.2.1 i h.2.1.2.2.2).1, hk, h20, nI_clamp (by omega), hcn.2.2.2.1]
    refine ⟨vp_in_nI (by omega) (by decide), fun z => absurd z (by decide), fun z => absurd z (by decide), fun z => absurd z (by decide), fun z => absurd z (by decide), fun z => absurd z (by decide), fun _ => ⟨vp_in_nI hsd (by decide), fun z => ?_, fun z => ⟨by omega, y_fail hP hm (x := 2) (by decide) h.2 fun t t1 _ => ?_⟩⟩, fun z => absurd z (by decide)⟩
    · have ho : ld_c W < 6 := Decidable.byContradiction fun y => z (by rw [show ld_c W = 6 by omega]; rfl)
      refine b_X11_tell_163 hP hm ⟨fun y => absurd h14 y, fun _ => ⟨by omega, b_X11_tellClaim_0 hP hm ?_⟩⟩
      have eix : (6 : Int32) * (gc_F s 67 20) + (gc_I s 90 (gc_F s 67 20).toNatClampNeg) = nI (6 * sd + ld_c W) := by
        rw [h20, nI_clamp (by omega), hcn.2.2.2.1, st_lit 6, pk_mul, nI_add]
      rw [eix, h20, nI_clamp (show 6 * sd + ld_c W < 2 ^ 31 by omega)]
      have hv12 : vp_in (nI (6 * sd + ld_c W)) 12 := vp_in_nI (by omega) (by decide)
      refine ⟨vp_in_nI hsd (by decide), by omega, y_go hP hm (by omega) h.2 hk0 (fun t ti t1 _ => ?_) (fun t ti t1 _ => ?_)⟩
      · have hb1 : bgR b n i (ld_c W) 6 = sT b n (i + 1) 1 := by
          unfold bgR
          rw [if_neg (by omega)]
        have hr1 : ∀ w, r = some w → w.2 < tk_st b n (i + 1) := fun w e => Nat.lt_trans (hr w e) hst
        refine ⟨by omega, y_namedS hP hm (by omega) hn hlt t1 hr1 (fun u us u1 => ?_) (fun u x p us u1 => ?_)⟩
        · have hr2 := (twN_in (nl := nl) (tk_st_S (rk_n (b := b) (n := n) (i := i + 1) (by rw [(sT_0 us).1]; decide))) hr1).1
          refine ⟨by omega, y_boundedS hP hm (by omega) hn hlt (lo := 0) (hi := 99) (by decide) (by decide) u1 hr2 (fun v vs v1 => ?_) (fun v x p y vs v1 => ?_)⟩
          · have hSv : frR sd S0 v := frR_trans h.1 (frR_of v1.2.1.1 v1.2.1.2)
            have hv' := zU_wI (a := 91) (j := 6 * sd + ld_c W) (x := nI (nui b n (i + 2))) hSv v1 (by decide) (by decide) (k' := ld_c W) ho rfl (fun hl => by
              rcases hl with ⟨k, _, k2, _⟩ | ⟨k, _, k2, _⟩ | ⟨k, _, k2, _⟩ | ⟨k, k1, _, k3⟩ | ⟨k, _, k2, _⟩ <;> omega)
            have hI91 : gc_I (gc_wI v 91 (6 * sd + ld_c W) (nI (nui b n (i + 2)))) 91 (6 * sd + ld_c W) = nI (nui b n (i + 2)) := I_eq _ _ _ _
            refine ⟨hv12, by omega, ?_⟩
            revert hv' hI91
            generalize gc_wI v 91 (6 * sd + ld_c W) (nI (nui b n (i + 2))) = v'
            intro hv' hI91
            refine y_mustS hP hm (by omega) (by decide) hv'.2 (fun q qs q1 => ⟨by omega, hres P (d - 1) q S0 Q hP hm (by omega) hsd ho (by unfold clP; rw [hb1, us, vs]; exact qs) (zU_of hv'.1 q1) (by rw [fr_I q1.2.1.1 rfl]; exact hI91) hQ⟩) (fun q x p qs q1 => ?_)
            have hz := zH_of hv'.1 q1
            have hF : ∀ t, zH sd S0 x p t → Q none t := fun t t1 => by
              rw [hbad x p (by unfold clP; rw [hb1, us, vs]; exact qs)] at hQ
              exact hQ t t1
            exact ⟨by omega, f_points hP hm (hz) (fun _ h' => ⟨by omega, f_must hP hm (by omega) (h') (⟨fun z => absurd z (zH_n (h')).2.1, fun _ => hF _ (h')⟩)⟩)⟩
          · have hz := zH_of h.1 v1
            have hF : ∀ t, zH sd S0 x p t → Q none t := fun t t1 => by
              rw [hbad x p (by unfold clP; rw [hb1, us, vs])] at hQ
              exact hQ t t1
            exact ⟨hv12, by omega, f_must hP hm (by omega) (zH_wI (a := 91) hsd (hz) rfl (k' := ld_c W) ho rfl) (⟨by omega, f_points hP hm (zH_wI (a := 91) hsd (hz) rfl (k' := ld_c W) ho rfl) (fun _ h' => ⟨by omega, f_must hP hm (by omega) (h') (⟨fun z => absurd z (zH_n (h')).2.1, fun _ => hF _ (h')⟩)⟩)⟩)⟩
        · have hz := zH_of h.1 u1
          have hF : ∀ t, zH sd S0 x p t → Q none t := fun t t1 => by
            rw [hbad x p (by unfold clP; rw [hb1, us])] at hQ
            exact hQ t t1
          exact ⟨by omega, f_bounded hP hm (by omega) (hz) (fun _ => ⟨hv12, by omega, f_must hP hm (by omega) (zH_wI (a := 91) hsd (hz) rfl (k' := ld_c W) ho rfl) (⟨by omega, f_points hP hm (zH_wI (a := 91) hsd (hz) rfl (k' := ld_c W) ho rfl) (fun _ h' => ⟨by omega, f_must hP hm (by omega) (h') (⟨fun z => absurd z (zH_n (h')).2.1, fun _ => hF _ (h')⟩)⟩)⟩)⟩)⟩
      · have hz := zH_of h.1 t1
        have hF : ∀ t, zH sd S0 2 (tk_st b n i) t → Q none t := fun t t1 => by
          rw [hbad 2 (tk_st b n i) (by unfold clP bgR; rw [if_pos (Or.inl ti)])] at hQ
          exact hQ t t1
        exact ⟨by omega, f_named hP hm (by omega) (hz) (fun _ => ⟨by omega, f_bounded hP hm (by omega) (hz) (fun _ => ⟨hv12, by omega, f_must hP hm (by omega) (zH_wI (a := 91) hsd (hz) rfl (k' := ld_c W) ho rfl) (⟨by omega, f_points hP hm (zH_wI (a := 91) hsd (hz) rfl (k' := ld_c W) ho rfl) (fun _ h' => ⟨by omega, f_must hP hm (by omega) (h') (⟨fun z => absurd z (zH_n (h')).2.1, fun _ => hF _ (h')⟩)⟩)⟩)⟩)⟩)⟩
    · have he : ld_c W = 6 := (nI_eq (by omega) (by decide)).mp z
      have hz := zH_of h.1 t1
      rw [hbad 2 (tk_st b n i) (by unfold clP bgR; rw [if_pos (Or.inr he)])] at hQ
      exact b_X11_tell_163 hP hm ⟨fun _ => hQ t hz, fun y => absurd y (zH_n hz).1⟩
  cases hb : clP b n i W with
  | some e =>
    obtain ⟨x, p⟩ := e
    exact ⟨.inl (x, p), trivial, goC _ (fun P d t S0 Q hP hm hd _ tb => absurd (hb.symm.trans tb) (by simp)) (fun x' p' h' => by rw [(eqz hb h').1, (eqz hb h').2]), goR _ (fun P d t S0 Q hP hm hd _ _ tb => absurd (hb.symm.trans tb) (by simp)) (fun x' p' h' => by rw [(eqz hb h').1, (eqz hb h').2])⟩
  | none =>
    have hbno : ∀ {res : tRes}, ∀ x p, clP b n i W = some (x, p) → res = .inl (x, p) := fun x p h' => absurd (hb.symm.trans h') (by simp)
    obtain ⟨hb0, hb2, hb3⟩ := clP_0 hb
    have hb1 : ld_c W < 6 ∧ sT b n (i + 1) 1 = none := by
      unfold bgR at hb0
      split at hb0
      · exact absurd hb0 (by simp)
      · exact ⟨by omega, hb0⟩
    have ho := hb1.1
    have hst1 := tk_st_S (rk_n (b := b) (n := n) (i := i + 1) (by rw [(sT_0 hb1.2).1]; decide))
    have hst2 := tk_st_S (rk_n (b := b) (n := n) (i := i + 2) (by rw [(sT_0 hb2).1]; decide))
    obtain ⟨hr1, hr1n⟩ := twN_in (nl := nl) hst1 (fun w e => Nat.lt_trans (hr w e) hst)
    obtain ⟨hr2, hr2n⟩ := nuN_in (lo := 0) (hi := 99) hst2 hr1
    have hr3 := sT_st hb3 (by decide) hr2
    obtain ⟨nc, nr, hnc, hnr, hG, hg⟩ := ls_ok hI (r1 := nuN b n (i + 2) 0 99 (twN nl b n (i + 1) r)) (fun z => (hr1n (hr2n z).1).1) (w := wdi b n (i + 1)) (kd := 3) (ix := ld_c W) (by decide)
    obtain ⟨rd, d1, d2, d3⟩ := z_points (Tc := Tc) (Tr := Tr) (L := L) (sd := sd) (mc := cnt4 W + 1) (mr := cnt4 W) (G := ld_g W) (W := W) (i := i + 4) hn hlt hG c0 hg rfl c4 hr3
    cases rd with
    | inl e =>
      refine ⟨.inl e, trivial, goC _ (fun P d t S0 Q hP hm hd hc tb t1 t2 hQ => ?_) hbno, goR _ (fun P d t S0 Q hP hm hd hsd ho' tb t1 t2 hQ => ?_) hbno⟩
      · obtain ⟨hL, hrl, _⟩ := zT_L t1
        refine d2 P _ t t _ hP hm (by omega) (zC_sw hnc t1.2) (fun u u1 => ?_)
        have hrlu : gc_rl u = some L := (fr_rl u1.1).trans hrl
        refine ⟨vp_in_nI hc (by decide), L, hrlu, cl_io hL, vp_in_nI hc (by decide), ?_⟩
        rw [I_eq]
        refine ⟨fun z => absurd rfl z, fun _ => hQ _ ?_⟩
        have hg := zG_of t1.1 u1
        exact ⟨fr_wI (BcC_iff.mpr (by rw [rS_eq hL 12 (by decide) (by decide)]; omega)) hg.1, hg.2⟩
      · refine d3 P _ t t _ hP hm (by omega) (zR_sw hnr t1.2) (fun u u1 => ?_)
        have hz := zH_of t1.1 u1
        have hF : ∀ t, zH sd S0 e.1 e.2 t → Q none t := hQ
        exact ⟨by omega, f_must hP hm (by omega) (hz) (⟨fun z => absurd z (zH_n (hz)).2.1, fun _ => hF _ (hz)⟩)⟩
    | inr e =>
      obtain ⟨i5, W2, r3⟩ := e
      obtain ⟨p1, p2, p3, p4, p5, p6, p7⟩ := d1
      have p1' : i + 4 < i5 := p1
      have p2' : ex W W2 := p2
      have p3' : ld_p W < ld_p W2 ∧ ld_p W2 ≤ 24 := p3
      have h32 : r3 = none → nuN b n (i + 2) 0 99 (twN nl b n (i + 1) r) = none := fun z => Decidable.byContradiction fun y => y ((p7 y).symm.trans z)
      have ec2 : ld_c W2 = ld_c W := p2'.1 3 (by decide)
      have ecn : cnt4 W2 = cnt4 W := by
        unfold cnt4
        rw [show ld_g W2 = ld_g W from p2'.1 0 (by decide), show ld_o W2 = ld_o W from p2'.1 1 (by decide), show ld_b W2 = ld_b W from p2'.1 2 (by decide), ec2]
      have hcnt : cnt4 (wK W2 (nui b n (i + 2)) (ld_p W2 - 1)) = cnt4 W + 1 := by rw [wK_cnt, ecn]
      have hnlC2 : ¬ livC W2 12 (ld_c W) := fun hl => by
        rcases hl with ⟨z, _⟩ | ⟨z, _⟩ | ⟨_, z⟩ | ⟨z, _⟩ <;> omega
      -- by the class: behind the POINTS
      have clF : ∀ (t u S0 : gc_St), cl_L L → frC L S0 t → zC b n Tc L (cnt4 W + 1) nc t i5 W2 r3 0 u → (nuN b n (i + 2) 0 99 (twN nl b n (i + 1) r) = none → gc_I t (gc_rS L 11) (ld_c W) = nI (nui b n (i + 2))) → zT b n Tc L (cnt4 (wK W2 (nui b n (i + 2)) (ld_p W2 - 1))) (nl ++ [(wdi b n (i + 1), 3, ld_c W)]) S0 i5 (wK W2 (nui b n (i + 2)) (ld_p W2 - 1)) r3 (gc_wF (gc_wI u (gc_rS L 12) (ld_c W) (nI (ld_p W2 - 1))) L 3 ((gc_F u L 3) + 1)) := by
        intro t u S0 hL hS hu hI11
        have rS := rS_eq hL
        have hLne := cL_ne hL
        have hu' := zT_wI (j := 12) (k := ld_c W) (x := nI (ld_p W2 - 1)) (fr_trans hS (frC_of hu.2.2.1)) hu (by decide) hnlC2
        have hI12 : gc_I (gc_wI u (gc_rS L 12) (ld_c W) (nI (ld_p W2 - 1))) (gc_rS L 12) (ld_c W) = nI (ld_p W2 - 1) := I_eq _ _ _ _
        have hI11' : nuN b n (i + 2) 0 99 (twN nl b n (i + 1) r) = none → gc_I (gc_wI u (gc_rS L 12) (ld_c W) (nI (ld_p W2 - 1))) (gc_rS L 11) (ld_c W) = nI (nui b n (i + 2)) := fun z => by
          rw [I_ne _ _ (Or.inl (by rw [rS 11 (by decide) (by decide), rS 12 (by decide) (by decide)]; omega)), fr_I hu.2.2.1 (bf fun z => by
            have := BcL_iff.mp z
            rw [rS 11 (by decide) (by decide)] at this
            omega)]
          exact hI11 z
        have hF3 : gc_F u L 3 = gc_F (gc_wI u (gc_rS L 12) (ld_c W) (nI (ld_p W2 - 1))) L 3 := rfl
        rw [hF3]
        revert hu' hI12 hI11'
        generalize gc_wI u (gc_rS L 12) (ld_c W) (nI (ld_p W2 - 1)) = u'
        intro hu' hI12 hI11'
        obtain ⟨_, hrl, hcn⟩ := zT_L hu'
        rw [hcnt, hcn.2.2.2.1, nI_1]
        have hF : ∀ q k, (q = L → k ≠ 3) → gc_F (gc_wF u' L 3 (nI (ld_c W2 + 1))) q k = gc_F u' q k := fun q k hq => F_ne _ _ (by
          by_cases y : q = L
          · exact Or.inr (hq y)
          · exact Or.inl y)
        refine zT_up hu'.1 hu'.2 (fr_wF (AcL_iff.mpr (Or.inr (Or.inr rfl))) (fr_refl u')) (fun k => hF 3 k (fun z => absurd z.symm hLne.1)) (hF 9 2 (fun z => absurd z.symm hLne.2.1)) rfl ?_ (cnC_K hcn) (fun z => lwC_K (hu'.2.2.2.2.2.2.2.2.2 z) (by rw [ec2]; exact hI11' (h32 z)) (by rw [ec2]; exact hI12))
        obtain ⟨nx, g9, g10, g11, g12⟩ := hu'.2.2.2.2.2.2.2.2.1
        exact ⟨nx, nmC_of g9 (hF L 6 (fun _ => by decide)) rfl rfl, g10, g11, fun z => (g12 z).trans (hnc (h32 z)).symm⟩
      have goC2 : ∀ res, (∀ (P : gc_Pr) (d : Nat) (w S0 : gc_St) (Q : gc_TQ), gc_Cl P → gc_Mo P → 60 ≤ d → zT b n Tc L (cnt4 (wK W2 (nui b n (i + 2)) (ld_p W2 - 1))) (nl ++ [(wdi b n (i + 1), 3, ld_c W)]) S0 i5 (wK W2 (nui b n (i + 2)) (ld_p W2 - 1)) r3 w → tqC b n Tc L S0 res Q → gc_T P (d - 1) 0 0 107 0 [.ref 3, .int 59] [] w (fun r23 s24 => gc_ri r23 fun x25 => (x25 = 0 ∨ x25 = 1) ∧ Q (some (.int x25)) s24)) → tC b n Tc L 38 [.ref 9, gc_u] i W r nl res := by
        intro res hres
        refine goC res (fun P d t S0 Q hP hm hd hc tb t1 t2 hQ => ?_) hbno
        obtain ⟨hL, hrl, _⟩ := zT_L t1
        refine d2 P _ t t _ hP hm (by omega) (zC_sw hnc t1.2) (fun u u1 => ?_)
        have hrlu : gc_rl u = some L := (fr_rl u1.2.2.1).trans hrl
        refine ⟨vp_in_nI hc (by decide), L, hrlu, cl_io hL, vp_in_nI hc (by decide), ?_⟩
        rw [I_eq]
        exact ⟨fun _ => ⟨L, hrlu, cl_io hL, by omega, hres P d _ S0 Q hP hm hd (clF t u S0 hL t1.1 u1 t2) hQ⟩, fun z => absurd z (nI_nm1 (by show ld_p W2 - 1 < 2 ^ 31; omega))⟩
      cases h4 : sT b n i5 4 with
      | some e =>
        obtain ⟨x, p⟩ := e
        refine ⟨.inl (x, p), trivial, goC2 _ (fun P d w S0 Q hP hm hd hw hQ => z_acceptS hP hm (by omega) kk_semi hw.2 (fun q qs => absurd (h4.symm.trans qs) (by simp)) (fun q x' p' qs q1 => ⟨Or.inl rfl, ?_⟩)), goR _ (fun P d t S0 Q hP hm hd hsd ho' tb t1 t2 hQ => d3 P _ t t _ hP hm (by omega) (zR_sw hnr t1.2) (fun u u1 u2 => ?_)) hbno⟩
        · rw [(eqz h4 qs).1, (eqz h4 qs).2] at q1
          exact hQ q (zG_of hw.1 q1)
        · have hu := zU_of t1.1 u1
          refine ⟨by omega, y_mustS hP hm (by omega) (by decide) hu.2 (fun q qs => absurd (h4.symm.trans qs) (by simp)) (fun q x' p' qs q1 => ?_)⟩
          rw [(eqz h4 qs).1, (eqz h4 qs).2] at q1
          have hz := zH_of hu.1 q1
          have hF : ∀ t, zH sd S0 x p t → Q none t := hQ
          exact ⟨fun z => absurd z (zH_n (hz)).2.1, fun _ => hF _ (hz)⟩
      | none =>
        have h4' := sT_0 h4
        refine ⟨.inr (i5 + 1, wK W2 (nui b n (i + 2)) (ld_p W2 - 1), r3, nl ++ [(wdi b n (i + 1), 3, ld_c W)]), ⟨by show i < i5 + 1; omega, tI_K hI ho (sT_st h4 (by decide) p5) p2' p3' (fun z => ⟨(hr1n (hr2n (h32 z)).1).1, (hr1n (hr2n (h32 z)).1).2, (hr2n (h32 z)).2.2, p6 z⟩)⟩, goC2 _ (fun P d w S0 Q hP hm hd hw hQ => z_acceptS hP hm (by omega) kk_semi hw.2 (fun q qs q1 => ⟨Or.inr rfl, hQ q (zT_of hw.1 q1)⟩) (fun q x' p' qs => absurd (h4.symm.trans qs) (by simp))), goR _ (fun P d t S0 Q hP hm hd hsd ho' tb t1 t2 hQ => d3 P _ t t _ hP hm (by omega) (zR_sw hnr t1.2) (fun u u1 u2 => ?_)) hbno⟩
        have hu := zU_of t1.1 u1
        have h91 : gc_I u 91 (6 * sd + ld_c W) = nI (nui b n (i + 2)) := by
          rw [fr_I u1.2.1.1 rfl]
          exact t2
        refine ⟨by omega, y_must hP hm (by omega) (by decide) hu.2 (fun q qe qi q1 q2 => ?_) (fun q _ qi => absurd qi (by have := h4'.2; omega)) (fun q qe => absurd h4'.1 qe)⟩
        have hq := zU_of hu.1 q1
        obtain ⟨_, q14, q20, qcn⟩ := zU_R hq
        refine ⟨fun _ => ?_, fun y => absurd (by rw [q14]; decide) y⟩
        have hv12 : vp_in (nI (6 * sd + ld_c W)) 12 := vp_in_nI (by omega) (by decide)
        have e99 : gc_I q 99 (0 : Int32).toNatClampNeg = nI (ld_p W2 - 1) := by
          rw [fr_I q2 rfl]
          exact u2
        rw [e99]
        have hq' := zU_wI (a := 92) (j := 6 * sd + ld_c W) (x := nI (ld_p W2 - 1)) hq.1 hq.2 (by decide) (by decide) (k' := ld_c W) ho rfl (fun hl => by
          have hl' : livR W2 sd 92 (6 * sd + ld_c W) := hl
          rcases hl' with ⟨k, _, k2, _⟩ | ⟨k, _, k2, _⟩ | ⟨k, _, k2, _⟩ | ⟨k, k1, _, k3⟩ | ⟨k, _, k2, _⟩ <;> omega)
        have e90 : gc_I q 90 = gc_I (gc_wI q 92 (6 * sd + ld_c W) (nI (ld_p W2 - 1))) 90 := (I_na _ _ (by decide)).symm
        have e92 : gc_I (gc_wI q 92 (6 * sd + ld_c W) (nI (ld_p W2 - 1))) 92 (6 * sd + ld_c W) = nI (ld_p W2 - 1) := I_eq _ _ _ _
        have e91 : gc_I (gc_wI q 92 (6 * sd + ld_c W) (nI (ld_p W2 - 1))) 91 (6 * sd + ld_c W) = nI (nui b n (i + 2)) := by
          rw [I_ne _ _ (Or.inl (by decide)), fr_I q2 rfl]
          exact h91
        have e20 : gc_F q 67 20 = gc_F (gc_wI q 92 (6 * sd + ld_c W) (nI (ld_p W2 - 1))) 67 20 := rfl
        rw [e90, e20]
        revert hq' e92 e91
        generalize gc_wI q 92 (6 * sd + ld_c W) (nI (ld_p W2 - 1)) = q'
        intro hq' e92 e91
        refine ⟨vp_in_nI (n := 0) (by decide) (by decide), hv12, ?_⟩
        obtain ⟨_, _, _, qcn'⟩ := zU_R hq'
        refine y_finish hP hm (by omega) hlt (W' := wK W2 (nui b n (i + 2)) (ld_p W2 - 1)) (m' := cnt4 (wK W2 (nui b n (i + 2)) (ld_p W2 - 1))) (kd := 3) (ix := ld_c W) hq'.1 hq'.2 (Nat.lt_trans (by omega) q1.1.2.2.2) (sT_0 hb1.2).1 (Or.inr (Or.inr (Or.inr rfl))) (by rw [← ec2]; exact qcn'.2.2.2.1) (by decide) (by omega) (fun z => absurd z (by decide)) (h16 ho) hcnt (fun p1 hp => by rw [← ec2]; exact cnR_K hp) (fun p1 hp3 hz hl => lwR_K hl (by rw [ec2, hp3 91 (by decide)]; exact e91) (by rw [ec2, hp3 92 (by decide)]; exact e92)) (fun w w1 => hQ w (zU_sw (fun z => ?_) w1))
        rw [← hnr (h32 z)]
end Tcl
