/-! An OATH told, by both. -/
def nli (W : ld_W) (nl : List (List Nat × Nat × Nat)) : Prop := ∀ e, e ∈ nl → e.2.1 ≤ 3 ∧ (e.2.1 = 0 → e.2.2 < ld_g W) ∧ (e.2.1 = 1 → e.2.2 < ld_o W) ∧ (e.2.1 = 2 → e.2.2 < ld_b W) ∧ (e.2.1 = 3 → e.2.2 < ld_c W)
/-- what holds between two TELLs -/
def tI (b : Nat → Nat) (n i : Nat) (W : ld_W) (r : Option (Nat × Nat)) (nl : List (List Nat × Nat × Nat)) : Prop := (ld_g W ≤ 4 ∧ ld_o W ≤ 3 ∧ ld_b W ≤ 3 ∧ ld_c W ≤ 6 ∧ ld_p W ≤ 24) ∧ (∀ w, r = some w → w.2 < tk_st b n i) ∧ (r = none → ndN nl ∧ nli W nl ∧ ld_ok W ∧ ∀ g, g < ld_g W → W 11 g ≤ 3)
def tP (b : Nat → Nat) (n i : Nat) (res : tRes) : Prop := match res with
  | .inl _ => True
  | .inr e => i < e.1 ∧ tI b n e.1 e.2.1 e.2.2.1 e.2.2.2
def tC (b : Nat → Nat) (n T L y : Nat) (lv : List Value) (i : Nat) (W : ld_W) (r : Option (Nat × Nat)) (nl : List (List Nat × Nat × Nat)) (res : tRes) : Prop := ∀ (P : gc_Pr) (d : Nat) (s S0 : gc_St) (Q : gc_TQ), gc_Cl P → gc_Mo P → 60 ≤ d → zT b n T L (cnt4 W) nl S0 i W r s → tqC b n T L S0 res Q → gc_T P d 0 0 y 0 lv [] s Q
def tR (b : Nat → Nat) (n T sd i : Nat) (W : ld_W) (r : Option (Nat × Nat)) (nl : List (List Nat × Nat × Nat)) (res : tRes) : Prop := ∀ (P : gc_Pr) (d : Nat) (s S0 : gc_St) (Q : gc_TQ), gc_Cl P → gc_Mo P → 12 ≤ d → zU b n T sd (cnt4 W) nl S0 i W r s → tqR b n T sd S0 res Q → gc_T P d 0 0 193 0 [.ref 67] [] s Q
theorem nd_app {nl : List (List Nat × Nat × Nat)} {w : List Nat} {x : Nat × Nat} (h : ndN nl) (ha : nl.any (fun e => e.1 == w) = false) : ndN (nl ++ [(w, x)]) := by
  have hno : ∀ e, e ∈ nl → e.1 ≠ w := fun e he z => by
    have := (List.any_eq_true (p := fun e : List Nat × Nat × Nat => e.1 == w)).mpr ⟨e, he, by simpa using z⟩
    rw [ha] at this
    exact absurd this (by decide)
  intro e e' he he' heq
  rcases List.mem_append.mp he with y | y
  · rcases List.mem_append.mp he' with y' | y'
    · exact h e e' y y' heq
    · have : e' = (w, x) := by simpa using y'
      rw [this] at heq
      exact absurd heq (hno e y)
  · have h1 : e = (w, x) := by simpa using y
    rcases List.mem_append.mp he' with y' | y'
    · rw [h1] at heq
      exact absurd heq.symm (hno e' y')
    · have h2 : e' = (w, x) := by simpa using y'
      rw [h1, h2]
theorem gd_lt {W : ld_W} {nl : List (List Nat × Nat × Nat)} (h : nli W nl) : ∀ w g, gd nl w = some g → g < ld_g W := by
  intro w g e
  unfold gd at e
  cases hf : nl.find? (fun e => e.1 == w && Nat.beq e.2.1 0) with
  | none =>
    rw [hf] at e
    exact absurd e (by simp)
  | some x =>
    rw [hf] at e
    have hp : (x.1 == w && Nat.beq x.2.1 0) = true := by
      have := List.find?_some hf
      exact this
    rw [Bool.and_eq_true, Nat.beq_eq] at hp
    have e' : x.2.2 = g := by simpa using e
    rw [← e']
    exact (h x (List.mem_of_find?_eq_some hf)).2.1 hp.2
theorem ok_D {W : ld_W} {j k tk gv ot : Nat} (h : ld_ok W) (hd : dlk W j k) (h1 : tk < ld_N W) (h2 : gv < ld_N W) (h3 : ot ≤ ld_N W) (h4 : j = 1 → ot = 0) : ld_ok (wD W j k tk gv ot) := by
  obtain ⟨⟨c0, c1, c2, c3, c4⟩, k1, k2, k3, k4, k5⟩ := h
  have hj : j = 1 ∨ j = 2 := by
    rcases hd with ⟨e, _⟩ | ⟨e, _⟩
    · exact Or.inl e
    · exact Or.inr e
  have eg : ld_g (wD W j k tk gv ot) = ld_g W := wD_c (by omega)
  have eN : ld_N (wD W j k tk gv ot) = ld_N W := by
    show 4 ^ ld_g (wD W j k tk gv ot) = 4 ^ ld_g W
    rw [eg]
  have ec : ld_c (wD W j k tk gv ot) = ld_c W := wD_c (by omega)
  have ep : ld_p (wD W j k tk gv ot) = ld_p W := wD_c (by omega)
  have eo : ld_o (wD W j k tk gv ot) ≤ 3 ∧ ld_b (wD W j k tk gv ot) ≤ 3 := by
    show wD W j k tk gv ot 0 1 ≤ 3 ∧ wD W j k tk gv ot 0 2 ≤ 3
    rcases hd with ⟨rfl, e2, e3⟩ | ⟨rfl, e2, e3⟩
    · rw [wD_j, wD_c (by decide)]
      exact ⟨e3, c2⟩
    · rw [wD_j, wD_c (by decide)]
      exact ⟨c1, e3⟩
  refine ⟨⟨by rw [eg]; exact c0, eo.1, eo.2, by rw [ec]; exact c3, by rw [ep]; exact c4⟩, fun x hx => ?_, fun x hx => ?_, fun c hc => ?_, fun g hg => ?_, fun p hp => ?_⟩
  · rw [eN]
    show wD W j k tk gv ot 2 x < _ ∧ wD W j k tk gv ot 3 x < _ ∧ wD W j k tk gv ot 4 x ≤ _
    by_cases e : x = k
    · rw [e, wD_k.1, wD_k.2.1, wD_k.2.2]
      exact ⟨h1, h2, h3⟩
    · rw [wD_x (by decide) e, wD_x (by decide) e, wD_x (by decide) e]
      exact k1 x ((wD_dl hd hx).resolve_left e)
  · show wD W j k tk gv ot 4 x = 0
    by_cases e : x = k
    · rw [e, wD_k.2.2]
      rcases hj with z | z
      · exact h4 z
      · rcases hd with ⟨z2, _⟩ | ⟨_, e2, _⟩
        · omega
        · have hx' : x < 3 := Nat.lt_of_lt_of_le hx eo.1
          omega
    · rw [wD_x (by decide) e]
      refine k2 x ?_
      have hx' : x < wD W j k tk gv ot 0 1 := hx
      rcases hd with ⟨rfl, e2, _⟩ | ⟨rfl, _, _⟩
      · rw [wD_j] at hx'
        have e2' : k = W 0 1 := e2
        show x < W 0 1
        omega
      · rw [wD_c (by decide)] at hx'
        exact hx'
  · rw [ec] at hc
    show wD W j k tk gv ot 6 c < wD W j k tk gv ot 0 4 ∧ wD W j k tk gv ot 5 c ≤ 99
    rw [wD_a (a := 6) (by decide) (by decide) (by decide) (by decide), wD_a (a := 5) (by decide) (by decide) (by decide) (by decide), wD_c (x := 4) (by omega)]
    exact k3 c hc
  · rw [eg] at hg
    show 1 ≤ wD W j k tk gv ot 1 g ∧ wD W j k tk gv ot 1 g ≤ 99
    rw [wD_a (by decide) (by decide) (by decide) (by decide)]
    exact k4 g hg
  · rw [ep] at hp
    have := k5 p hp
    unfold ld_pt at this ⊢
    rw [eN, eg, show ld_kd (wD W j k tk gv ot) = ld_kd W from wD_a (by decide) (by decide) (by decide) (by decide), show ld_fi (wD W j k tk gv ot) = ld_fi W from wD_a (by decide) (by decide) (by decide) (by decide), show ld_se (wD W j k tk gv ot) = ld_se W from wD_a (by decide) (by decide) (by decide) (by decide), show ld_lo (wD W j k tk gv ot) = ld_lo W from wD_a (by decide) (by decide) (by decide) (by decide)]
    exact this
/-- a TELL of a deal: what holds behind it -/
theorem tI_D {b : Nat → Nat} {n i i' j k tk gv ot kd ix : Nat} {W : ld_W} {r r' : Option (Nat × Nat)} {nl : List (List Nat × Nat × Nat)} {w : List Nat} (h : tI b n i W r nl) (hd : dlk W j k) (hr' : ∀ w, r' = some w → w.2 < tk_st b n i') (hn : r' = none → r = none ∧ nl.any (fun e => e.1 == w) = false ∧ tk < 4 ^ ld_g W ∧ gv < 4 ^ ld_g W ∧ ot ≤ 4 ^ ld_g W ∧ (j = 1 → ot = 0)) (hk : (j = 1 ∧ kd = 1 ∧ ix = ld_o W) ∨ (j = 2 ∧ kd = 2 ∧ ix = ld_b W)) : tI b n i' (wD W j k tk gv ot) r' (nl ++ [(w, kd, ix)]) := by
  obtain ⟨⟨c0, c1, c2, c3, c4⟩, h2, h3⟩ := h
  have eg : ld_g (wD W j k tk gv ot) = ld_g W := wD_c (by omega)
  have ec : ld_c (wD W j k tk gv ot) = ld_c W := wD_c (by omega)
  have ep : ld_p (wD W j k tk gv ot) = ld_p W := wD_c (by omega)
  have eo : (ld_o W ≤ ld_o (wD W j k tk gv ot) ∧ ld_b W ≤ ld_b (wD W j k tk gv ot)) ∧ ld_o (wD W j k tk gv ot) ≤ 3 ∧ ld_b (wD W j k tk gv ot) ≤ 3 ∧ (j = 1 → ld_o (wD W j k tk gv ot) = ld_o W + 1) ∧ (j = 2 → ld_b (wD W j k tk gv ot) = ld_b W + 1) := by
    show (W 0 1 ≤ wD W j k tk gv ot 0 1 ∧ W 0 2 ≤ wD W j k tk gv ot 0 2) ∧ wD W j k tk gv ot 0 1 ≤ 3 ∧ wD W j k tk gv ot 0 2 ≤ 3 ∧ (j = 1 → wD W j k tk gv ot 0 1 = W 0 1 + 1) ∧ (j = 2 → wD W j k tk gv ot 0 2 = W 0 2 + 1)
    rcases hd with ⟨rfl, e2, e3⟩ | ⟨rfl, e2, e3⟩
    · rw [wD_j, wD_c (by decide)]
      have c1' : W 0 1 < 3 := e3
      have c2' : W 0 2 ≤ 3 := c2
      exact ⟨⟨by omega, by omega⟩, by omega, by omega, fun _ => rfl, fun z => by omega⟩
    · rw [wD_j, wD_c (by decide)]
      have c1' : W 0 1 ≤ 3 := c1
      have c2' : W 0 2 < 3 := e3
      exact ⟨⟨by omega, by omega⟩, by omega, by omega, fun z => by omega, fun _ => rfl⟩
  refine ⟨⟨by rw [eg]; exact c0, eo.2.1, eo.2.2.1, by rw [ec]; exact c3, by rw [ep]; exact c4⟩, hr', fun z => ?_⟩
  obtain ⟨n1, n2, n3, n4, n5, n6⟩ := hn z
  obtain ⟨k1, k2, k3, k4⟩ := h3 n1
  refine ⟨nd_app k1 n2, fun e he => ?_, ok_D k3 hd n3 n4 n5 n6, fun g hg => ?_⟩
  · rcases List.mem_append.mp he with y | y
    · obtain ⟨x0, x1, x2, x3, x4⟩ := k2 e y
      exact ⟨x0, fun q => by rw [eg]; exact x1 q, fun q => Nat.lt_of_lt_of_le (x2 q) eo.1.1, fun q => Nat.lt_of_lt_of_le (x3 q) eo.1.2, fun q => by rw [ec]; exact x4 q⟩
    · have ey : e = (w, kd, ix) := by simpa using y
      rw [ey]
      show kd ≤ 3 ∧ (kd = 0 → ix < _) ∧ (kd = 1 → ix < _) ∧ (kd = 2 → ix < _) ∧ (kd = 3 → ix < _)
      rcases hk with ⟨e1, e2, e3⟩ | ⟨e1, e2, e3⟩
      · have := eo.2.2.2.1 e1
        exact ⟨by omega, fun q => by omega, fun q => by omega, fun q => by omega, fun q => by omega⟩
      · have := eo.2.2.2.2 e1
        exact ⟨by omega, fun q => by omega, fun q => by omega, fun q => by omega, fun q => by omega⟩
  · rw [eg] at hg
    rw [wD_a (by decide) (by decide) (by decide) (by decide)]
    exact k4 g hg
section To
variable {b : Nat → Nat} {n Tc Tr L sd i : Nat} {nl : List (List Nat × Nat × Nat)} {W : ld_W} {r : Option (Nat × Nat)}
/-- the lists that both look into within a TELL -/
theorem ls_ok (hI : tI b n i W r nl) {r1 : Option (Nat × Nat)} (hr1 : r1 = none → r = none) {w : List Nat} {kd ix : Nat} (hkd : kd ≠ 0) : ∃ nc nr, (r1 = none → nl ++ [(w, kd, ix)] = nc) ∧ (r1 = none → nl = nr) ∧ (∀ w, gdC nc w = gd nr w) ∧ (∀ w g, gd nr w = some g → g < ld_g W) := by
  by_cases z : r1 = none
  · obtain ⟨k1, k2, _, _⟩ := hI.2.2 (hr1 z)
    exact ⟨_, _, fun _ => rfl, fun _ => rfl, gd_app k1 hkd, gd_lt k2⟩
  · exact ⟨[], [], fun y => absurd y z, fun y => absurd y z, fun _ => rfl, fun w g e => absurd e (by unfold gd; simp)⟩
theorem t_oath (hn : n ≤ 2000) (hlt : ∀ j, b j < 256) (hk : rk b n i = 21) (hI : tI b n i W r nl) : ∃ res, tP b n i res ∧ tC b n Tc L 35 [.ref 9, gc_u] i W r nl res ∧ tR b n Tr sd i W r nl res := by
  obtain ⟨⟨c0, c1, c2, c3, c4⟩, hr, hnone⟩ := hI
  have hI : tI b n i W r nl := ⟨⟨c0, c1, c2, c3, c4⟩, hr, hnone⟩
  have hk0 : rk b n i ≠ 0 := by rw [hk]; decide
  have hst := tk_st_S (rk_n hk0)
  have h16 : ld_o W < 3 → cnt4 W < 16 := fun z => by unfold cnt4; omega
  -- by the class: up to the NAME
  have goC : ∀ res, (∀ (P : gc_Pr) (d : Nat) (t S0 : gc_St) (Q : gc_TQ), gc_Cl P → gc_Mo P → 60 ≤ d → bgR b n i (ld_o W) 3 = none → zT b n Tc L (cnt4 W + 1) (nl ++ [(wdi b n (i + 1), 1, ld_o W)]) S0 (i + 2) W (twN nl b n (i + 1) r) t → tqC b n Tc L S0 res Q → gc_T P (d - 1) 0 0 37 0 [.ref 9, .int (nI (ld_o W))] [] t (fun r6 s7 => gc_ri r6 fun x8 => (¬ x8 = 0 → (∃ a9, gc_rl s7 = some a9 ∧ (gc_io 2 a9 ∧ (1 ≤ d ∧ gc_T P (d - 1) 0 0 107 0 [.ref 3, .int 59] [] (gc_wF s7 a9 1 ((gc_F s7 a9 1) + 1)) (fun r11 s12 => gc_ri r11 fun x13 => (x13 = 0 ∨ x13 = 1) ∧ Q (some (.int x13)) s12))))) ∧ (x8 = 0 → (Q (some (.int 0)) s7)))) → (∀ x p, bgR b n i (ld_o W) 3 = some (x, p) → res = .inl (x, p)) → tC b n Tc L 35 [.ref 9, gc_u] i W r nl res := by
    intro res hres hbad P d s S0 Q hP hm hd h hQ
    obtain ⟨hL, hrl, hcn⟩ := zT_L h
    refine b_X3_givenOath_0 hP hm ⟨L, hrl, cl_io hL, by omega, ?_⟩
    rw [hcn.2.1]
    refine z_beginS hP hm (by omega) hlt kk_oath hk (tl := ld_o W) (most := 3) (kd := 1) (by decide) c1 (by decide) (fun z => absurd z (by decide)) h16 h (fun t tb t1 => ⟨fun z => absurd z (by decide), fun _ => ⟨by omega, hres P d t S0 Q hP hm hd tb t1 hQ⟩⟩) (fun t x p tb t1 => ⟨fun _ => ?_, fun z => absurd rfl z⟩)
    rw [hbad x p tb] at hQ
    exact hQ t t1
  -- by the reference: up to the NAME
  have goR : ∀ res, (∀ (P : gc_Pr) (d : Nat) (t S0 : gc_St) (Q : gc_TQ), gc_Cl P → gc_Mo P → 11 ≤ d → sd < 2 → ld_o W < 3 → bgR b n i (ld_o W) 3 = none → zU b n Tr sd (cnt4 W) nl S0 (i + 2) W (twN nl b n (i + 1) r) t → tqR b n Tr sd S0 res Q → gc_T P (d - 1) 0 0 199 0 [.ref 67, gc_u, gc_u, gc_u] [] t (fun r6 s7 => gc_ri r6 fun x8 => vp_in (nI (3 * sd + ld_o W)) 6 ∧ (1 ≤ d ∧ gc_T P (d - 1) 0 0 188 0 [.ref 67, .int 22] [] (gc_wI s7 84 (3 * sd + ld_o W) x8) (fun r9 s10 => gc_rv r9 (1 ≤ d ∧ gc_T P (d - 1) 0 0 199 0 [.ref 67, gc_u, gc_u, gc_u] [] s10 (fun r11 s12 => gc_ri r11 fun x13 => vp_in (nI (3 * sd + ld_o W)) 6 ∧ (1 ≤ d ∧ gc_T P (d - 1) 0 0 188 0 [.ref 67, .int 4] [] (gc_wI s12 85 (3 * sd + ld_o W) x13) (fun r14 s15 => gc_rv r14 (((gc_F s15 67 14) ≤ 0 → (vp_in (gc_F s15 67 20) 2 ∧ (1 ≤ d ∧ gc_T P (d - 1) 0 0 195 0 [.ref 67, .int (nI (i + 1)), .int 1, .int (gc_I s15 83 (gc_F s15 67 20).toNatClampNeg)] [] s15 (fun r16 s17 => gc_rv r16 (vp_in (gc_F s17 67 20) 2 ∧ (vp_in (gc_F s17 67 20) 2 ∧ (Q none (gc_wI s17 83 ((gc_F s17 67 20).toNatClampNeg) ((gc_I s17 83 (gc_F s17 67 20).toNatClampNeg) + 1))))))))) ∧ (¬ (gc_F s15 67 14) ≤ 0 → (Q none s15))))))))))) → (∀ x p, bgR b n i (ld_o W) 3 = some (x, p) → res = .inl (x, p)) → tR b n Tr sd i W r nl res := by
    intro res hres hbad P d s S0 Q hP hm hd h hQ
    have h400 := zR_i h.2
    obtain ⟨hsd, h14, h20, hcn⟩ := zU_R h
    refine b_X11_tell_0 hP hm ?_
    rw [h.2.1.2.2.1, nI_clamp (by omega), (h.2.1.2.1 i h.2.1.2.2.2).1, hk, h20, nI_clamp (by omega), hcn.2.1]
    refine ⟨vp_in_nI (by omega) (by decide), fun z => absurd z (by decide), fun _ => ⟨vp_in_nI hsd (by decide), fun z => ?_, fun z => ⟨by omega, y_fail hP hm (x := 2) (by decide) h.2 fun t t1 _ => ?_⟩⟩, fun z => absurd z (by decide), fun z => absurd z (by decide), fun z => absurd z (by decide), fun z => absurd z (by decide), fun z => absurd z (by decide)⟩
    · have ho : ld_o W < 3 := Decidable.byContradiction fun y => z (by rw [show ld_o W = 3 by omega]; rfl)
      refine b_X11_tell_98 hP hm ⟨fun y => absurd h14 y, fun _ => ⟨by omega, b_X11_tellOath_0 hP hm ?_⟩⟩
      have eix : (3 : Int32) * (gc_F s 67 20) + (gc_I s 83 (gc_F s 67 20).toNatClampNeg) = nI (3 * sd + ld_o W) := by
        rw [h20, nI_clamp (by omega), hcn.2.1, st_lit 3, pk_mul, nI_add]
      rw [eix, h20, nI_clamp (show 3 * sd + ld_o W < 2 ^ 31 by omega)]
      have hv6 : vp_in (nI (3 * sd + ld_o W)) 6 := vp_in_nI (by omega) (by decide)
      refine ⟨vp_in_nI hsd (by decide), by omega, y_go hP hm (by omega) h.2 hk0 (fun t ti t1 _ => ?_) (fun t ti t1 _ => ?_)⟩
      · have hb1 : bgR b n i (ld_o W) 3 = sT b n (i + 1) 1 := by
          unfold bgR
          rw [if_neg (by omega)]
        have hr1 : ∀ w, r = some w → w.2 < tk_st b n (i + 1) := fun w e => Nat.lt_trans (hr w e) hst
        refine ⟨by omega, y_namedS hP hm (by omega) hn hlt t1 hr1 (fun u us u1 => ⟨by omega, hres P (d - 1) u S0 Q hP hm (by omega) hsd ho (hb1.trans us) (zU_of h.1 u1) hQ⟩) (fun u x p us u1 => ?_)⟩
        have hz := zH_of h.1 u1
        have hF : ∀ t, zH sd S0 x p t → Q none t := fun t t1 => by
          rw [hbad x p (hb1.trans us)] at hQ
          exact hQ t t1
        exact ⟨by omega, f_tside hP hm (by omega) (hz) (fun _ => ⟨hv6, by omega, f_must hP hm (by omega) (zH_wI (a := 84) hsd (hz) rfl (k' := ld_o W) ho rfl) ⟨by omega, f_tside hP hm (by omega) (zH_wI (a := 84) hsd (hz) rfl (k' := ld_o W) ho rfl) (fun _ => ⟨hv6, by omega, f_must hP hm (by omega) (zH_wI (a := 85) hsd (zH_wI (a := 84) hsd (hz) rfl (k' := ld_o W) ho rfl) rfl (k' := ld_o W) ho rfl) (⟨fun z => absurd z (zH_n (zH_wI (a := 85) hsd (zH_wI (a := 84) hsd (hz) rfl (k' := ld_o W) ho rfl) rfl (k' := ld_o W) ho rfl)).2.1, fun _ => hF _ (zH_wI (a := 85) hsd (zH_wI (a := 84) hsd (hz) rfl (k' := ld_o W) ho rfl) rfl (k' := ld_o W) ho rfl)⟩)⟩)⟩⟩)⟩
      · have hz := zH_of h.1 t1
        have hF : ∀ t, zH sd S0 2 (tk_st b n i) t → Q none t := fun t t1 => by
          rw [hbad 2 (tk_st b n i) (by unfold bgR; rw [if_pos (Or.inl ti)])] at hQ
          exact hQ t t1
        exact ⟨by omega, f_named hP hm (by omega) (hz) (fun _ => ⟨by omega, f_tside hP hm (by omega) (hz) (fun _ => ⟨hv6, by omega, f_must hP hm (by omega) (zH_wI (a := 84) hsd (hz) rfl (k' := ld_o W) ho rfl) ⟨by omega, f_tside hP hm (by omega) (zH_wI (a := 84) hsd (hz) rfl (k' := ld_o W) ho rfl) (fun _ => ⟨hv6, by omega, f_must hP hm (by omega) (zH_wI (a := 85) hsd (zH_wI (a := 84) hsd (hz) rfl (k' := ld_o W) ho rfl) rfl (k' := ld_o W) ho rfl) (⟨fun z => absurd z (zH_n (zH_wI (a := 85) hsd (zH_wI (a := 84) hsd (hz) rfl (k' := ld_o W) ho rfl) rfl (k' := ld_o W) ho rfl)).2.1, fun _ => hF _ (zH_wI (a := 85) hsd (zH_wI (a := 84) hsd (hz) rfl (k' := ld_o W) ho rfl) rfl (k' := ld_o W) ho rfl)⟩)⟩)⟩⟩)⟩)⟩
    · have he : ld_o W = 3 := (nI_eq (by omega) (by decide)).mp z
      have hz := zH_of h.1 t1
      rw [hbad 2 (tk_st b n i) (by unfold bgR; rw [if_pos (Or.inr he)])] at hQ
      exact b_X11_tell_98 hP hm ⟨fun _ => hQ t hz, fun y => absurd y (zH_n hz).1⟩
  cases hb : bgR b n i (ld_o W) 3 with
  | some e =>
    obtain ⟨x, p⟩ := e
    exact ⟨.inl (x, p), trivial, goC _ (fun P d t S0 Q hP hm hd tb => absurd (hb.symm.trans tb) (by simp)) (fun x' p' h' => by rw [(eqz hb h').1, (eqz hb h').2]), goR _ (fun P d t S0 Q hP hm hd _ _ tb => absurd (hb.symm.trans tb) (by simp)) (fun x' p' h' => by rw [(eqz hb h').1, (eqz hb h').2])⟩
  | none =>
    have hbno : ∀ {res : tRes}, ∀ x p, bgR b n i (ld_o W) 3 = some (x, p) → res = .inl (x, p) := fun x p h' => absurd (hb.symm.trans h') (by simp)
    have hb2 : ld_o W < 3 ∧ sT b n (i + 1) 1 = none := by
      unfold bgR at hb
      split at hb
      · exact absurd hb (by simp)
      · exact ⟨by omega, hb⟩
    have ho := hb2.1
    have hst1 := tk_st_S (rk_n (b := b) (n := n) (i := i + 1) (by rw [(sT_0 hb2.2).1]; decide))
    obtain ⟨hr1, hr1n⟩ := twN_in (nl := nl) hst1 (fun w e => Nat.lt_trans (hr w e) hst)
    obtain ⟨nc, nr, hnc, hnr, hG, hg⟩ := ls_ok hI (r1 := twN nl b n (i + 1) r) (fun z => (hr1n z).1) (w := wdi b n (i + 1)) (kd := 1) (ix := ld_o W) (by decide)
    have hdl : dlk W 1 (ld_o W) := Or.inl ⟨rfl, rfl, ho⟩
    obtain ⟨rd, d1, d2, d3⟩ := z_deal (Tc := Tc) (Tr := Tr) (L := L) (sd := sd) (mc := cnt4 W + 1) (mr := cnt4 W) (W := W) (G := ld_g W) (i := i + 2) hn hlt hG c0 hg hr1
    have hnl : ¬ livR W sd 84 (3 * sd + ld_o W) := fun hl => by
      rcases hl with ⟨k, _, k2, _⟩ | ⟨k, k1, _, k3⟩ | ⟨k, _, k2, _⟩ | ⟨k, _, k2, _⟩ | ⟨k, _, k2, _⟩ <;> omega
    have hnl5 : ¬ livR W sd 85 (3 * sd + ld_o W) := fun hl => by
      rcases hl with ⟨k, _, k2, _⟩ | ⟨k, k1, _, k3⟩ | ⟨k, _, k2, _⟩ | ⟨k, _, k2, _⟩ | ⟨k, _, k2, _⟩ <;> omega
    cases rd with
    | inl e =>
      refine ⟨.inl e, trivial, goC _ (fun P d t S0 Q hP hm hd tb t1 hQ => d2 P _ t S0 _ (ld_o W) hP hm (by omega) (dlk_n hdl c1).2 (dlk_n hdl c1).1 (zT_sw hnc t1) (fun u u1 => ⟨fun z => absurd rfl z, fun _ => hQ u u1⟩)) hbno, goR _ (fun P d t S0 Q hP hm hd hsd ho' tb t1 hQ => d3 P d t S0 _ 84 (ld_o W) hP hm (by omega) (Or.inl rfl) ho hnl (zU_sw hnr t1) (fun u y hz => ?_)) hbno⟩
      have hv6 : vp_in (nI (3 * sd + ld_o W)) 6 := vp_in_nI (by omega) (by decide)
      have hF : ∀ t, zH sd S0 e.1 e.2 t → Q none t := hQ
      exact ⟨hv6, by omega, f_must hP hm (by omega) (zH_wI (a := 85) hsd (hz) rfl (k' := ld_o W) ho rfl) (⟨fun z => absurd z (zH_n (zH_wI (a := 85) hsd (hz) rfl (k' := ld_o W) ho rfl)).2.1, fun _ => hF _ (zH_wI (a := 85) hsd (hz) rfl (k' := ld_o W) ho rfl)⟩)⟩
    | inr e =>
      obtain ⟨i2, r2, v1, v2⟩ := e
      obtain ⟨e1, e2, e3⟩ := d1
      have e1' : i + 2 < i2 := e1
      have e3' : r2 = none → twN nl b n (i + 1) r = none ∧ v1 < 4 ^ ld_g W ∧ v2 < 4 ^ ld_g W := e3
      have hcnt : cnt4 (wD W 1 (ld_o W) v1 v2 0) = cnt4 W + 1 := wD_cnt (Or.inl rfl)
      -- by the class: behind the SIDES
      have clF : ∀ (u S0 : gc_St), zT b n Tc L (cnt4 W + 1) nc S0 i2 W r2 u → (r2 = none → gc_I u (gc_rS L 8) (ld_o W) = nI v1 ∧ gc_I u (gc_rS L 9) (ld_o W) = nI v2 ∧ gc_I u (gc_rS L 10) (ld_o W) = -1) → zT b n Tc L (cnt4 (wD W 1 (ld_o W) v1 v2 0)) (nl ++ [(wdi b n (i + 1), 1, ld_o W)]) S0 i2 (wD W 1 (ld_o W) v1 v2 0) r2 (gc_wF u L 1 ((gc_F u L 1) + 1)) := by
        intro u S0 hu hI3
        obtain ⟨hL, hrl, hcn⟩ := zT_L hu
        have hLne := cL_ne hL
        rw [hcnt, hcn.2.1, nI_1]
        have hF : ∀ q k, (q = L → k ≠ 1) → gc_F (gc_wF u L 1 (nI (ld_o W + 1))) q k = gc_F u q k := fun q k hq => F_ne _ _ (by
          by_cases y : q = L
          · exact Or.inr (hq y)
          · exact Or.inl y)
        refine zT_up hu.1 hu.2 (fr_wF (AcL_iff.mpr (Or.inr (Or.inr rfl))) (fr_refl u)) (fun k => hF 3 k (fun z => absurd z.symm hLne.1)) (hF 9 2 (fun z => absurd z.symm hLne.2.1)) rfl ?_ (cnC_D hcn) (fun z => lwC_D hL hdl (hu.2.2.2.2.2.2.2.2.2 z) (hI3 z).1 (hI3 z).2.1 (hI3 z).2.2)
        obtain ⟨nx, g9, g10, g11, g12⟩ := hu.2.2.2.2.2.2.2.2.1
        exact ⟨nx, nmC_of g9 (hF L 6 (fun _ => by decide)) rfl rfl, g10, g11, fun z => (g12 z).trans (hnc (e3' z).1).symm⟩
      cases h4 : sT b n i2 4 with
      | some e =>
        obtain ⟨x, p⟩ := e
        refine ⟨.inl (x, p), trivial, goC _ (fun P d t S0 Q hP hm hd tb t1 hQ => d2 P _ t S0 _ (ld_o W) hP hm (by omega) (dlk_n hdl c1).2 (dlk_n hdl c1).1 (zT_sw hnc t1) (fun u u1 u2 => ⟨fun _ => ?_, fun z => absurd z (by decide)⟩)) hbno, goR _ (fun P d t S0 Q hP hm hd hsd ho' tb t1 hQ => d3 P d t S0 _ 84 (ld_o W) hP hm (by omega) (Or.inl rfl) ho hnl (zU_sw hnr t1) (fun u y u1 u2 => ?_)) hbno⟩
        · obtain ⟨hL, hrl, _⟩ := zT_L u1
          have hw := clF u S0 u1 u2
          refine ⟨L, hrl, cl_io hL, by omega, z_acceptS hP hm (by omega) kk_semi hw.2 (fun q qs => absurd (h4.symm.trans qs) (by simp)) (fun q x' p' qs q1 => ⟨Or.inl rfl, ?_⟩)⟩
          rw [(eqz h4 qs).1, (eqz h4 qs).2] at q1
          exact hQ q (zG_of hw.1 q1)
        · have hv6 : vp_in (nI (3 * sd + ld_o W)) 6 := vp_in_nI (by omega) (by decide)
          have hu' := zU_wI (a := 85) (j := 3 * sd + ld_o W) (x := y) u1.1 u1.2 (by decide) (by decide) (k' := ld_o W) ho rfl hnl5
          refine ⟨hv6, by omega, y_mustS hP hm (by omega) (by decide) hu'.2 (fun q qs => absurd (h4.symm.trans qs) (by simp)) (fun q x' p' qs q1 => ?_)⟩
          rw [(eqz h4 qs).1, (eqz h4 qs).2] at q1
          have hz := zH_of hu'.1 q1
          have hF : ∀ t, zH sd S0 x p t → Q none t := hQ
          exact ⟨fun z => absurd z (zH_n (hz)).2.1, fun _ => hF _ (hz)⟩
      | none =>
        have h4' := sT_0 h4
        refine ⟨.inr (i2 + 1, wD W 1 (ld_o W) v1 v2 0, r2, nl ++ [(wdi b n (i + 1), 1, ld_o W)]), ⟨by show i < i2 + 1; omega, tI_D hI hdl (sT_st h4 (by decide) e2) (fun z => ⟨(hr1n (e3' z).1).1, (hr1n (e3' z).1).2, (e3' z).2.1, (e3' z).2.2, Nat.zero_le _, fun _ => rfl⟩) (Or.inl ⟨rfl, rfl, rfl⟩)⟩, goC _ (fun P d t S0 Q hP hm hd tb t1 hQ => d2 P _ t S0 _ (ld_o W) hP hm (by omega) (dlk_n hdl c1).2 (dlk_n hdl c1).1 (zT_sw hnc t1) (fun u u1 u2 => ⟨fun _ => ?_, fun z => absurd z (by decide)⟩)) hbno, goR _ (fun P d t S0 Q hP hm hd hsd ho' tb t1 hQ => d3 P d t S0 _ 84 (ld_o W) hP hm (by omega) (Or.inl rfl) ho hnl (zU_sw hnr t1) (fun u y u1 u2 => ?_)) hbno⟩
        · obtain ⟨hL, hrl, _⟩ := zT_L u1
          have hw := clF u S0 u1 u2
          exact ⟨L, hrl, cl_io hL, by omega, z_acceptS hP hm (by omega) kk_semi hw.2 (fun q qs q1 => ⟨Or.inr rfl, hQ q (zT_of hw.1 q1)⟩) (fun q x' p' qs => absurd (h4.symm.trans qs) (by simp))⟩
        · have hv6 : vp_in (nI (3 * sd + ld_o W)) 6 := vp_in_nI (by omega) (by decide)
          have hu' := zU_wI (a := 85) (j := 3 * sd + ld_o W) (x := y) u1.1 u1.2 (by decide) (by decide) (k' := ld_o W) ho rfl hnl5
          have hI85 : gc_I (gc_wI u 85 (3 * sd + ld_o W) y) 85 (3 * sd + ld_o W) = y := I_eq _ _ _ _
          have hI84 : gc_I (gc_wI u 85 (3 * sd + ld_o W) y) 84 = gc_I u 84 := I_na _ _ (by decide)
          refine ⟨hv6, by omega, ?_⟩
          revert hu' hI85 hI84
          generalize gc_wI u 85 (3 * sd + ld_o W) y = u'
          intro hu' hI85 hI84
          refine y_mustS hP hm (by omega) (by decide) hu'.2 (fun q qs q1 => ?_) (fun q x' p' qs => absurd (h4.symm.trans qs) (by simp))
          have hq := zU_of hu'.1 q1
          obtain ⟨_, q14, q20, qcn⟩ := zU_R hq
          refine ⟨fun _ => ?_, fun y => absurd (by rw [q14]; decide) y⟩
          refine y_finish hP hm (by omega) hlt (W' := wD W 1 (ld_o W) v1 v2 0) (m' := cnt4 (wD W 1 (ld_o W) v1 v2 0)) (kd := 1) (ix := ld_o W) hq.1 hq.2 (Nat.lt_trans (by omega) q1.1.2.2.2) (sT_0 hb2.2).1 (Or.inr (Or.inl rfl)) qcn.2.1 (by decide) (by omega) (fun z => absurd z (by decide)) (h16 ho) hcnt (fun p1 hp => cnR_D (Or.inl rfl) hp) (fun p1 hp3 hz hl => lwR_D c1 hdl hl (Or.inl ⟨rfl, ?_, ?_, rfl⟩)) (fun w w1 => hQ w (zU_sw (fun z => ?_) w1))
          · rw [hp3 84 (by decide), fr_I q1.2.1.1 rfl, hI84]
            exact (u2 hz).1
          · rw [hp3 85 (by decide), fr_I q1.2.1.1 rfl, hI85]
            exact (u2 hz).2
          · rw [← hnr (e3' z).1]
end To
