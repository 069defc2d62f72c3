/-! All TELLs of a text, by both. -/
theorem tI_G {b : Nat → Nat} {n i i' pr st : Nat} {W : ld_W} {r r' : Option (Nat × Nat)} {nl : List (List Nat × Nat × Nat)} {w : List Nat} (h : tI b n i W r nl) (hg4 : ld_g W < 4) (hr' : ∀ w, r' = some w → w.2 < tk_st b n i') (hn : r' = none → r = none ∧ nl.any (fun e => e.1 == w) = false ∧ (1 ≤ pr ∧ pr ≤ 99) ∧ st ≤ 3) : tI b n i' (wG W pr st) r' (nl ++ [(w, 0, ld_g W)]) := by
  obtain ⟨⟨c0, c1, c2, c3, c4⟩, h2, h3⟩ := h
  have eg : ld_g (wG W pr st) = ld_g W + 1 := wG_g
  have eo : ld_o (wG W pr st) = ld_o W := wG_c (by decide)
  have eb : ld_b (wG W pr st) = ld_b W := wG_c (by decide)
  have ec : ld_c (wG W pr st) = ld_c W := wG_c (by decide)
  have ep : ld_p (wG W pr st) = ld_p W := wG_c (by decide)
  have eN : ld_N W ≤ ld_N (wG W pr st) := by
    show 4 ^ ld_g W ≤ 4 ^ ld_g (wG W pr st)
    rw [eg]
    exact Nat.pow_le_pow_right (by decide) (Nat.le_succ _)
  refine ⟨⟨by rw [eg]; omega, by rw [eo]; exact c1, by rw [eb]; exact c2, by rw [ec]; exact c3, by rw [ep]; exact c4⟩, hr', fun z => ?_⟩
  obtain ⟨n1, n2, n3, n4⟩ := hn z
  obtain ⟨k1, k2, k3, k4⟩ := h3 n1
  obtain ⟨_, o1, o2, o3, o4, o5⟩ := k3
  refine ⟨nd_app k1 n2, fun e he => ?_, ⟨⟨by rw [eg]; omega, by rw [eo]; exact c1, by rw [eb]; exact c2, by rw [ec]; exact c3, by rw [ep]; exact c4⟩, fun x hx' => ?_, fun x hx' => ?_, fun c hc' => ?_, fun g hg => ?_, fun p hp' => ?_⟩, fun g hg => ?_⟩
  · rcases List.mem_append.mp he with y | y
    · obtain ⟨x0, x1, x2, x3, x4⟩ := k2 e y
      exact ⟨x0, fun q => by rw [eg]; exact Nat.lt_succ_of_lt (x1 q), fun q => by rw [eo]; exact x2 q, fun q => by rw [eb]; exact x3 q, fun q => by rw [ec]; exact x4 q⟩
    · have ey : e = (w, 0, ld_g W) := by simpa using y
      rw [ey]
      exact ⟨Nat.zero_le _, fun _ => by rw [eg]; exact Nat.lt_succ_self _, fun q => absurd (show (0 : Nat) = 1 from q) (by decide), fun q => absurd (show (0 : Nat) = 2 from q) (by decide), fun q => absurd (show (0 : Nat) = 3 from q) (by decide)⟩
  · rw [eo, eb] at hx'
    rw [show ld_tk (wG W pr st) = ld_tk W from wG_a (by decide) (by decide) (by decide), show ld_gv (wG W pr st) = ld_gv W from wG_a (by decide) (by decide) (by decide), show ld_ot (wG W pr st) = ld_ot W from wG_a (by decide) (by decide) (by decide)]
    have := o1 x hx'
    omega
  · rw [eo] at hx'
    rw [show ld_ot (wG W pr st) = ld_ot W from wG_a (by decide) (by decide) (by decide)]
    exact o2 x hx'
  · rw [ec] at hc'
    rw [ep, show ld_ro (wG W pr st) = ld_ro W from wG_a (by decide) (by decide) (by decide), show ld_wo (wG W pr st) = ld_wo W from wG_a (by decide) (by decide) (by decide)]
    exact o3 c hc'
  · rw [eg] at hg
    show 1 ≤ wG W pr st 1 g ∧ wG W pr st 1 g ≤ 99
    rw [wG_1]
    by_cases e : g = ld_g W
    · rw [if_pos e]
      exact n3
    · rw [if_neg e]
      exact o4 g (by omega)
  · rw [ep] at hp'
    have hpt := o5 p hp'
    unfold ld_pt at hpt ⊢
    rw [show ld_kd (wG W pr st) = ld_kd W from wG_a (by decide) (by decide) (by decide), show ld_fi (wG W pr st) = ld_fi W from wG_a (by decide) (by decide) (by decide), show ld_se (wG W pr st) = ld_se W from wG_a (by decide) (by decide) (by decide), show ld_lo (wG W pr st) = ld_lo W from wG_a (by decide) (by decide) (by decide)]
    rcases hpt with ⟨h1, h2', h3'⟩ | h1 | h1 | ⟨h1, h2', h3', h4'⟩
    · exact Or.inl ⟨h1, h2', fun q => by rw [eg]; exact Nat.lt_succ_of_lt (h3' q)⟩
    · exact Or.inr (Or.inl h1)
    · exact Or.inr (Or.inr (Or.inl h1))
    · exact Or.inr (Or.inr (Or.inr ⟨h1, h2', h3', Nat.lt_of_lt_of_le h4' eN⟩))
  · rw [eg] at hg
    rw [wG_11]
    by_cases e : g = ld_g W
    · rw [if_pos e]
      exact n4
    · rw [if_neg e]
      exact k4 g (by omega)
section Tg
variable {b : Nat → Nat} {n Tc Tr L sd i : Nat} {nl : List (List Nat × Nat × Nat)} {W : ld_W} {r : Option (Nat × Nat)}
theorem t_ground (hn : n ≤ 2000) (hlt : ∀ j, b j < 256) (hk : rk b n i = 20) (hI : tI b n i W r nl) : ∃ res, tP b n i res ∧ tC b n Tc L 34 [.ref 9, gc_u] i W r nl res ∧ tR b n Tr sd i W r nl res := by
  obtain ⟨⟨c0, c1, c2, c3, c4⟩, hr, hnone⟩ := hI
  have hI : tI b n i W r nl := ⟨⟨c0, c1, c2, c3, c4⟩, hr, hnone⟩
  have h16 : ld_g W < 4 → cnt4 W < 16 := fun z => by unfold cnt4; omega
  have hk0 : rk b n i ≠ 0 := by rw [hk]; decide
  have hst := tk_st_S (rk_n hk0)
  refine ⟨grR b n i W r nl, ?_, fun P d s S0 Q hP hm hd h hQ => C_ground hP hm (by omega) hlt hk c0 h16 h hQ, fun P d s S0 Q hP hm hd h hQ => R_ground hP hm (by omega) hn hlt hk c0 h16 hr h hQ⟩
  unfold grR
  cases h1 : bgR b n i (ld_g W) 4 with
  | some e => trivial
  | none =>
    have hb2 : ld_g W < 4 ∧ sT b n (i + 1) 1 = none := by
      unfold bgR at h1
      split at h1
      · exact absurd h1 (by simp)
      · exact ⟨by omega, h1⟩
    cases h2 : sT b n (i + 2) 2 with
    | some e => trivial
    | none =>
      cases h3 : sT b n (i + 3) 2 with
      | some e => trivial
      | none =>
        cases h4 : sT b n (i + 4) 4 with
        | some e => trivial
        | none =>
          have hst1 := tk_st_S (rk_n (b := b) (n := n) (i := i + 1) (by rw [(sT_0 hb2.2).1]; decide))
          have hst2 := tk_st_S (rk_n (b := b) (n := n) (i := i + 2) (by rw [(sT_0 h2).1]; decide))
          have hst3 := tk_st_S (rk_n (b := b) (n := n) (i := i + 3) (by rw [(sT_0 h3).1]; decide))
          obtain ⟨hr1, hr1n⟩ := twN_in (nl := nl) hst1 (fun w e => Nat.lt_trans (hr w e) hst)
          obtain ⟨hr2, hr2n⟩ := nuN_in (lo := 1) (hi := 99) hst2 hr1
          obtain ⟨hr3, hr3n⟩ := nuN_in (lo := 0) (hi := 3) hst3 hr2
          exact ⟨by show i < i + 5; omega, tI_G hI hb2.1 (sT_st h4 (by decide) hr3) (fun z => ⟨(hr1n (hr2n (hr3n z).1).1).1, (hr1n (hr2n (hr3n z).1).1).2, (hr2n (hr3n z).1).2, (hr3n z).2.2⟩)⟩
def rqC (b : Nat → Nat) (n T L : Nat) (S0 : gc_St) (res : tRes) (Q : gc_TQ) : Prop := match res with
  | .inl e => ∀ t, zG L S0 e.1 e.2 t → Q none t
  | .inr e => ∀ t, zT b n T L (cnt4 e.2.1) e.2.2.2 S0 e.1 e.2.1 e.2.2.1 t → Q none t
def rqR (b : Nat → Nat) (n T sd : Nat) (S0 : gc_St) (res : tRes) (P : gc_Pr) (d : Nat) (Q : gc_TQ) : Prop := match res with
  | .inl e => ∀ t, zH sd S0 e.1 e.2 t → gc_T P d 0 0 190 102 [.ref 67, gc_u] [] t Q
  | .inr e => ∀ t, zU b n T sd (cnt4 e.2.1) e.2.2.2 S0 e.1 e.2.1 e.2.2.1 t → gc_T P d 0 0 190 102 [.ref 67, gc_u] [] t Q
/-- what comes of a text -/
def rdP (b : Nat → Nat) (n : Nat) (res : tRes) : Prop := match res with
  | .inl _ => True
  | .inr e => tI b n e.1 e.2.1 e.2.2.1 e.2.2.2
theorem rd_loop (hn : n ≤ 2000) (hlt : ∀ j, b j < 256) : ∀ f i W r nl, 401 ≤ i + f → tI b n i W r nl → ∃ res, rdP b n res ∧ (∀ (P : gc_Pr) (d : Nat) (s S0 : gc_St) (Q : gc_TQ) (c : Nat), gc_Cl P → gc_Mo P → 61 ≤ d → c ≤ i → zT b n Tc L (cnt4 W) nl S0 i W r s → rqC b n Tc L S0 res Q → gc_T P d 0 0 31 21 [.ref 9, .ref L, .int 1, .int (nI c)] [] s Q) ∧ (∀ (P : gc_Pr) (d : Nat) (s S0 : gc_St) (Q : gc_TQ), gc_Cl P → gc_Mo P → 13 ≤ d → zU b n Tr sd (cnt4 W) nl S0 i W r s → rqR b n Tr sd S0 res P d Q → gc_T P d 0 0 190 80 [.ref 67, gc_u] [] s Q) := by
  intro f
  induction f with
  | zero =>
    intro i W r nl hf _
    refine ⟨.inl (1, 0), trivial, fun P d s S0 Q c hP hm hd hc h => ?_, fun P d s S0 Q hP hm hd h => ?_⟩
    · have := zC_i h.2
      omega
    · have := zR_i h.2
      omega
  | succ f ih =>
    intro i W r nl hf hI
    -- a TELL, then what follows it
    have tell : ∀ (y : Nat) (lv : List Value) (kx : Int32), rk b n i = kx → kx ≠ 0 → (∃ res, tP b n i res ∧ tC b n Tc L y lv i W r nl res ∧ tR b n Tr sd i W r nl res) → (∀ (P : gc_Pr) (d : Nat) (s : gc_St) (Q : gc_TQ) (c : Nat), gc_Cl P → gc_Mo P → 61 ≤ d → c ≤ 400 → cl_L L → cpw b n Tc i s → gc_T P (d - 1) 0 0 y 0 lv [] s (fun r7 s8 => gc_ri r7 fun x9 => gc_T P d 0 0 31 128 [.ref 9, .ref L, .int x9, .int (nI c)] [] s8 Q) → gc_T P d 0 0 31 21 [.ref 9, .ref L, .int 1, .int (nI c)] [] s Q) → ∃ res, rdP b n res ∧ (∀ (P : gc_Pr) (d : Nat) (s S0 : gc_St) (Q : gc_TQ) (c : Nat), gc_Cl P → gc_Mo P → 61 ≤ d → c ≤ i → zT b n Tc L (cnt4 W) nl S0 i W r s → rqC b n Tc L S0 res Q → gc_T P d 0 0 31 21 [.ref 9, .ref L, .int 1, .int (nI c)] [] s Q) ∧ (∀ (P : gc_Pr) (d : Nat) (s S0 : gc_St) (Q : gc_TQ), gc_Cl P → gc_Mo P → 13 ≤ d → zU b n Tr sd (cnt4 W) nl S0 i W r s → rqR b n Tr sd S0 res P d Q → gc_T P d 0 0 190 80 [.ref 67, gc_u] [] s Q) := by
      intro y lv kx hkx hk0 ⟨rt, t1, t2, t3⟩ hgo
      have e0 : rk b n i ≠ 0 := by rw [hkx]; exact hk0
      cases rt with
      | inl e =>
        refine ⟨.inl e, trivial, fun P d s S0 Q c hP hm hd hc h hQ => ?_, fun P d s S0 Q hP hm hd h hQ => ?_⟩
        · have h400 := zC_i h.2
          have hL := zC_L h.2
          refine hgo P d s Q c hP hm hd (by omega) hL h.2.1 (t2 P _ s S0 _ hP hm (by omega) h fun t u => ?_)
          exact b_X3_readInto_128 hP hm (cl_io hL) (b_X3_readInto_21 hP hm (cl_io hL) ⟨fun _ => hQ t u, fun _ => ⟨fun _ => hQ t u, fun z => absurd rfl z⟩⟩)
        · refine b_X11_read_80 hP hm ⟨fun z => absurd h.2.2.2.1.1 z, fun _ => ⟨by omega, y_is hP hm h.2 (fun z => absurd z e0) (fun _ => ⟨fun z => absurd rfl z, fun _ => ⟨by omega, t3 P _ s S0 _ hP hm (by omega) h fun t u => ?_⟩⟩)⟩⟩
          exact b_X11_read_80 hP hm ⟨fun _ => hQ t u, fun z => absurd z (zH_n u).1⟩
      | inr e =>
        obtain ⟨i', W', r', nl'⟩ := e
        obtain ⟨u1, u2⟩ := t1
        have u1' : i < i' := u1
        obtain ⟨res, a1, a2, a3⟩ := ih i' W' r' nl' (by omega) u2
        refine ⟨res, a1, fun P d s S0 Q c hP hm hd hc h hQ => ?_, fun P d s S0 Q hP hm hd h hQ => ?_⟩
        · have h400 := zC_i h.2
          have hL := zC_L h.2
          refine hgo P d s Q c hP hm hd (by omega) hL h.2.1 (t2 P _ s S0 _ hP hm (by omega) h fun t u => b_X3_readInto_128 hP hm (cl_io hL) ?_)
          rw [nI_1]
          exact a2 P d t S0 Q (c + 1) hP hm hd (by omega) u hQ
        · exact b_X11_read_80 hP hm ⟨fun z => absurd h.2.2.2.1.1 z, fun _ => ⟨by omega, y_is hP hm h.2 (fun z => absurd z e0) (fun _ => ⟨fun z => absurd rfl z, fun _ => ⟨by omega, t3 P _ s S0 _ hP hm (by omega) h fun t u => a3 P d t S0 Q hP hm hd u hQ⟩⟩)⟩⟩
    -- the class looks twice at the word ahead
    have look : ∀ (P : gc_Pr) (d : Nat) (s : gc_St) (Q : gc_TQ) (c : Nat), gc_Cl P → gc_Mo P → 61 ≤ d → c ≤ 400 → cl_L L → cpw b n Tc i s → ck b n i ≠ 0 → (((ck b n i).toInt = 300 → (1 ≤ d ∧ gc_T P (d - 1) 0 0 34 0 [.ref 9, gc_u] [] s (fun r7 s8 => gc_ri r7 fun x9 => gc_T P d 0 0 31 128 [.ref 9, .ref L, .int x9, .int (nI c)] [] s8 Q))) ∧ ((ck b n i).toInt = 301 → (1 ≤ d ∧ gc_T P (d - 1) 0 0 35 0 [.ref 9, gc_u] [] s (fun r11 s12 => gc_ri r11 fun x13 => gc_T P d 0 0 31 128 [.ref 9, .ref L, .int x13, .int (nI c)] [] s12 Q))) ∧ ((ck b n i).toInt = 302 → (1 ≤ d ∧ gc_T P (d - 1) 0 0 36 0 [.ref 9, gc_u, gc_u] [] s (fun r15 s16 => gc_ri r15 fun x17 => gc_T P d 0 0 31 128 [.ref 9, .ref L, .int x17, .int (nI c)] [] s16 Q))) ∧ ((ck b n i).toInt = 303 → (1 ≤ d ∧ gc_T P (d - 1) 0 0 38 0 [.ref 9, gc_u] [] s (fun r19 s20 => gc_ri r19 fun x21 => gc_T P d 0 0 31 128 [.ref 9, .ref L, .int x21, .int (nI c)] [] s20 Q))) ∧ ((ck b n i).toInt < 300 ∨ 303 < (ck b n i).toInt → (1 ≤ d ∧ gc_T P (d - 1) 0 0 104 0 [.ref 3] [] s (fun r23 s24 => gc_ri r23 fun x25 => 1 ≤ d ∧ gc_T P (d - 1) 0 0 108 0 [.ref 3, .int 1, .int x25] [] s24 (fun r26 s27 => gc_ri r26 fun x28 => gc_T P d 0 0 31 128 [.ref 9, .ref L, .int x28, .int (nI c)] [] s27 Q))))) → gc_T P d 0 0 31 21 [.ref 9, .ref L, .int 1, .int (nI c)] [] s Q := by
      intro P d s Q c hP hm hd hc hL hcp hck hQ
      exact b_X3_readInto_21 hP hm (cl_io hL) (pk_lt 400 c (fun z => by omega) (fun _ => ⟨fun z => absurd z (by decide), fun _ => ⟨by omega, sp_kindAhead hP hm hcp ⟨fun z => absurd z hck, fun _ => ⟨by omega, sp_kindAhead hP hm hcp hQ⟩⟩⟩⟩))
    by_cases h0 : rk b n i = 0
    · refine ⟨.inr (i, W, r, nl), hI, fun P d s S0 Q c hP hm hd hc h hQ => ?_, fun P d s S0 Q hP hm hd h hQ => ?_⟩
      · have h400 := zC_i h.2
        exact b_X3_readInto_21 hP hm (cl_io (zC_L h.2)) (pk_lt 400 c (fun z => by omega) (fun _ => ⟨fun z => absurd z (by decide), fun _ => ⟨by omega, sp_kindAhead hP hm h.2.1 ⟨fun _ => hQ s h, fun z => absurd ((kc_0 _).mpr h0) z⟩⟩⟩))
      · exact b_X11_read_80 hP hm ⟨fun z => absurd h.2.2.2.1.1 z, fun _ => ⟨by omega, y_is hP hm h.2 (fun _ => ⟨fun _ => hQ s h, fun z => absurd z (by decide)⟩) (fun z => absurd h0 z)⟩⟩
    have hck0 : ck b n i ≠ 0 := fun z => h0 ((kc_0 _).mp z)
    by_cases h20 : rk b n i = 20
    · refine tell 34 [.ref 9, gc_u] 20 h20 (by decide) (t_ground hn hlt h20 hI) (fun P d s Q c hP hm hd hc hL hcp hT => look P d s Q c hP hm hd hc hL hcp hck0 ?_)
      rw [show ck b n i = 300 from (kc_20 _).mpr h20]
      exact ⟨fun _ => ⟨by omega, hT⟩, fun z => absurd z (by decide), fun z => absurd z (by decide), fun z => absurd z (by decide), fun z => absurd z (by decide)⟩
    by_cases h21 : rk b n i = 21
    · refine tell 35 [.ref 9, gc_u] 21 h21 (by decide) (t_oath hn hlt h21 hI) (fun P d s Q c hP hm hd hc hL hcp hT => look P d s Q c hP hm hd hc hL hcp hck0 ?_)
      rw [show ck b n i = 301 from (kc_21 _).mpr h21]
      exact ⟨fun z => absurd z (by decide), fun _ => ⟨by omega, hT⟩, fun z => absurd z (by decide), fun z => absurd z (by decide), fun z => absurd z (by decide)⟩
    by_cases h23 : rk b n i = 23
    · refine tell 36 [.ref 9, gc_u, gc_u] 23 h23 (by decide) (t_bargain hn hlt h23 hI) (fun P d s Q c hP hm hd hc hL hcp hT => look P d s Q c hP hm hd hc hL hcp hck0 ?_)
      rw [show ck b n i = 302 from (kc_23 _).mpr h23]
      exact ⟨fun z => absurd z (by decide), fun z => absurd z (by decide), fun _ => ⟨by omega, hT⟩, fun z => absurd z (by decide), fun z => absurd z (by decide)⟩
    by_cases h25 : rk b n i = 25
    · refine tell 38 [.ref 9, gc_u] 25 h25 (by decide) (t_claim hn hlt h25 hI) (fun P d s Q c hP hm hd hc hL hcp hT => look P d s Q c hP hm hd hc hL hcp hck0 ?_)
      rw [show ck b n i = 303 from (kc_25 _).mpr h25]
      exact ⟨fun z => absurd z (by decide), fun z => absurd z (by decide), fun z => absurd z (by decide), fun _ => ⟨by omega, hT⟩, fun z => absurd z (by decide)⟩
    -- no TELL begins so
    refine ⟨.inl (1, tk_st b n i), trivial, fun P d s S0 Q c hP hm hd hc h hQ => ?_, fun P d s S0 Q hP hm hd h hQ => ?_⟩
    · have h400 := zC_i h.2
      have hL := zC_L h.2
      refine look P d s Q c hP hm hd (by omega) hL h.2.1 hck0 ⟨fun z => ?_, fun z => ?_, fun z => ?_, fun z => ?_, fun _ => ⟨by omega, sp_placeAhead hP hm h.2.1 ⟨by omega, z_blame hP hm (x := 1) (by decide) h.2.2.2.1 fun t u => ?_⟩⟩⟩
      · exact absurd ((kc_20 _).mp ((toInt_nI (j := 300) (by decide)).mp z)) h20
      · exact absurd ((kc_21 _).mp ((toInt_nI (j := 301) (by decide)).mp z)) h21
      · exact absurd ((kc_23 _).mp ((toInt_nI (j := 302) (by decide)).mp z)) h23
      · exact absurd ((kc_25 _).mp ((toInt_nI (j := 303) (by decide)).mp z)) h25
      · have hu := zG_of h.1 u
        exact b_X3_readInto_128 hP hm (cl_io hL) (b_X3_readInto_21 hP hm (cl_io hL) ⟨fun _ => hQ t hu, fun _ => ⟨fun _ => hQ t hu, fun z => absurd rfl z⟩⟩)
    · have h400 := zR_i h.2
      refine b_X11_read_80 hP hm ⟨fun z => absurd h.2.2.2.1.1 z, fun _ => ⟨by omega, y_is hP hm h.2 (fun z => absurd z h0) (fun _ => ⟨fun z => absurd rfl z, fun _ => ⟨by omega, b_X11_tell_0 hP hm ?_⟩⟩)⟩⟩
      rw [h.2.1.2.2.1, nI_clamp (by omega), (h.2.1.2.1 i h.2.1.2.2.2).1]
      have bad : gc_T P (d - 1 - 1) 0 0 185 0 [.ref 67, .int 1] [] s (fun r1 s2 => gc_rv r1 (gc_rv none (gc_T P d 0 0 190 80 [.ref 67, gc_u] [] s2 Q))) := y_fail hP hm (x := 1) (by decide) h.2 fun t u _ => b_X11_read_80 hP hm ⟨fun _ => hQ t (zH_of h.1 u), fun z => absurd z (zFR_n u).1⟩
      exact ⟨vp_in_nI (by omega) (by decide), fun z => absurd ((toInt_nI (j := 20) (by decide)).mp z) h20, fun z => absurd ((toInt_nI (j := 21) (by decide)).mp z) h21, fun _ => ⟨by omega, bad⟩, fun z => absurd ((toInt_nI (j := 23) (by decide)).mp z) h23, fun _ => ⟨by omega, bad⟩, fun z => absurd ((toInt_nI (j := 25) (by decide)).mp z) h25, fun _ => ⟨by omega, bad⟩⟩
end Tg
