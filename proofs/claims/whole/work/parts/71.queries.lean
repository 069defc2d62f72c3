/-! The class's queries: depth, can, stocks, steps, step, moves, move. -/
section Qa
variable {P : gc_Pr} {d : Nat} {s : gc_St} {Q : gc_TQ} {W : ld_W} {L v o q kc p : Nat} {K : List (Nat × Nat × Nat)} {h : Nat × Nat × Nat}
theorem nI_ix {n k : Nat} {c : Int32} (hn : n < 2 ^ 31) (hk : k < n) (e : c = nI k) : ¬ c < 0 ∧ ¬ nI n ≤ c := by
  rw [e]
  exact ⟨nI_pos (by omega), nI_ge hk hn⟩
theorem sp_root (hP : gc_Cl P) (hm : gc_Mo P) (hC : cl_C W L s) {c : Int32} (h1 : ∀ k, k < ld_c W → c = nI k → Q (some (.int (nI (ld_ro W k)))) s) (h2 : (∀ k, k < ld_c W → c ≠ nI k) → Q (some (.int (-1))) s) : gc_T P d 0 0 156 0 [.ref 0, .int c, gc_u] [] s Q := by
  have hok := hC.2.2.2.1
  have hc6 := hok.1.2.2.2.1
  have hF3 : gc_F s L 3 = nI (ld_c W) := hC.2.2.1.1.2.2.2.1
  refine b_X10_rootOf_0 hP hm ?_
  rw [hC.2.1, hF3]
  refine ⟨fun z => h2 fun k hk e => (nI_ix (by omega) hk e).1 z, fun z => ⟨cl_io hC.1, fun y => h2 fun k hk e => (nI_ix (by omega) hk e).2 y, fun y => ?_⟩⟩
  rcases pk_ix c (show ld_c W < 2 ^ 31 by omega) with e | e | ⟨k, hk, rfl⟩
  · exact absurd e z
  · exact absurd e y
  · refine ⟨vp_in_nI (by omega) (by omega), ?_⟩
    rw [nI_clamp (by omega), cl_ro hC.2.2.1 hk]
    exact h1 k hk rfl
theorem ld_Bsh {b : Nat} (hb : b ≤ 3) : (1 : Int32) <<< (nI b &&& 31) = nI (2 ^ b) := by
  rw [show (1 : Int32) = nI 1 from rfl, st_shl (by omega) (Nat.lt_of_le_of_lt (Nat.mul_le_mul (Nat.le_refl 1) (Nat.pow_le_pow_right (by decide) hb)) (by decide)), Nat.one_mul]
def pl (W : ld_W) (x y z : Int32) (p st b : Nat) : Prop := p < ld_p W ∧ st < ld_N W ∧ b < 2 ^ ld_b W ∧ x = nI p ∧ y = nI st ∧ z = nI b
theorem sp_hasPlace (hP : gc_Cl P) (hm : gc_Mo P) (hd : 1 ≤ d) (hC : cl_C W L s) {x y z : Int32} (h1 : ∀ p st b, pl W x y z p st b → Q (some (.int 1)) s) (h2 : (∀ p st b, ¬ pl W x y z p st b) → Q (some (.int 0)) s) : gc_T P d 0 0 26 0 [.ref L, .int x, .int y, .int z] [] s Q := by
  have hok := hC.2.2.2.1
  have hp24 := hok.1.2.2.2.2
  have hN := ld_N_le hok
  have hB : 2 ^ ld_b W ≤ 8 := ld_B_le hok
  have hF4 : gc_F s L 4 = nI (ld_p W) := hC.2.2.1.1.2.2.2.2
  have hF2 : gc_F s L 2 = nI (ld_b W) := hC.2.2.1.1.2.2.1
  refine b_X2_hasPlace_0 hP hm (cl_io hC.1) ?_
  rw [hF4]
  refine ⟨fun w => h2 fun p st b e => (nI_ix (by omega) e.1 e.2.2.2.1).1 w, fun w => ⟨fun u => h2 fun p st b e => (nI_ix (by omega) e.1 e.2.2.2.1).2 u, fun u => ⟨fun w2 => h2 fun p st b e => (nI_ix (by omega) e.2.1 e.2.2.2.2.1).1 w2, fun w2 => ⟨hd, ?_⟩⟩⟩⟩
  refine sp_stockCount hP hm hC.1 hC.2.2.1 hok ⟨fun u2 => h2 fun p st b e => (nI_ix (by omega) e.2.1 e.2.2.2.2.1).2 u2, fun u2 => ⟨fun w3 => h2 fun p st b e => (nI_ix (by omega) e.2.2.1 e.2.2.2.2.2).1 w3, fun w3 => ?_⟩⟩
  rw [hF2, ld_Bsh hok.1.2.2.1]
  refine ⟨fun u3 => h2 fun p st b e => (nI_ix (show 2 ^ ld_b W < 2 ^ 31 by omega) e.2.2.1 e.2.2.2.2.2).2 u3, fun u3 => ?_⟩
  rcases pk_ix x (show ld_p W < 2 ^ 31 by omega) with e | e | ⟨p, hp, e1⟩
  · exact absurd e w
  · exact absurd e u
  · rcases pk_ix y (show ld_N W < 2 ^ 31 by omega) with e | e | ⟨st, hst, e2⟩
    · exact absurd e w2
    · exact absurd e u2
    · rcases pk_ix z (show 2 ^ ld_b W < 2 ^ 31 by omega) with e | e | ⟨b, hb, e3⟩
      · exact absurd e w3
      · exact absurd e u3
      · exact h1 p st b ⟨hp, hst, hb, e1, e2, e3⟩
/-- what DEPTH answers -/
noncomputable def an_d (W : ld_W) (h : Nat × Nat × Nat) (p : Nat) : Int32 := if dp_D W h.2.1 p h.1 h.2.2 = 0 then -2 else nI (dp_D W h.2.1 p h.1 h.2.2)
def kP (W : ld_W) (o p b : Nat) (s : gc_St) : Nat := kF (fun i => pS W o p b i && (gc_Y s i).isNone) 0 1536
theorem m2_ne {n : Nat} (h : n < 2 ^ 31) : ¬ nI n = -2 := by
  rw [show (-2 : Int32) = nI 4294967294 by decide]
  intro e
  have e2 := congrArg (fun x : Int32 => x.toBitVec.toNat) e
  rw [pk_tn (by omega), pk_tn (by decide)] at e2
  omega
theorem sp_prep (hP : gc_Cl P) (hm : gc_Mo P) (hd : 6 ≤ d) (hq : cq W L v h s) (ho : o < 8) (hp : p < ld_p W) {b : Nat} (hb : b < 8) (hkc : kc = kP W o p b s) (hQ : ∀ t, cq W L v h t → gc_I t 24 (cl_num o p b) = nI v → cx A0 B0 kc s t → Q none t) : gc_T P d kc (256 * kc) 7 0 [.ref 10, .int (nI o), .int (nI p), .int (nI b), gc_u, gc_u] [] s Q := by
  unfold kP at hkc
  exact sp_prepare hP hm hd hq.1.1 hq.1.2 hq.2.1 ho hp hb hkc fun t t1 t2 t3 => hQ t (cq_pf hq t1 t3) t2 (cx_pf ho hp hb hq.1.2.1 t1 t2 t3 hkc)
theorem sp_dwh (hP : gc_Cl P) (hm : gc_Mo P) (hd : 7 ≤ d) (hq : cq W L v h s) (hp : p < ld_p W) (hkc : kc = kP W h.2.1 p h.2.2 s)
    (hQ : ∀ t, cq W L v h t → gc_I t 24 (cl_num h.2.1 p h.2.2) = nI v → cx A0 B0 kc s t → Q (some (.int (an_d W h p))) t) : gc_T P d kc (256 * kc) 158 0 [.ref 0, .int (nI p), gc_u] [] s Q := by
  obtain ⟨b1, b2, hok⟩ := cq_b hq
  refine b_X10_depthWithHand_0 hP hm ⟨by omega, kc, 256 * kc, Nat.le_refl _, Nat.le_refl _, ?_⟩
  rw [hq.2.2.1.2.1, hq.2.2.1.2.2]
  refine sp_prep hP hm (by omega) hq b1 hp b2 hkc fun t t1 t2 t3 => ⟨by omega, ?_⟩
  rw [t1.2.2.1.1, t1.2.2.1.2.1, t1.2.2.1.2.2]
  have hD := dp_D_max (o := h.2.1) hok hp hq.2.2.2.1 b2
  have := hQ t t1 t2 t3
  unfold an_d at this
  refine sp_least hP hm (by omega) hok t1.1.2 b1 hp b2 hq.2.2.2.1 t2 ⟨fun y => ⟨Nat.sub_self _, ?_⟩, fun y => ⟨Nat.sub_self _, ?_⟩⟩
  · rw [if_neg (fun e => y (by rw [e]; rfl))] at this
    exact this
  · rw [show (0 : Int32) = nI 0 from rfl, nI_eq (by omega) (by omega)] at y
    rw [if_pos y] at this
    exact this
theorem sp_depth (hP : gc_Cl P) (hm : gc_Mo P) (hd : 7 ≤ d) (hq : cq W L v h s) {x y z : Int32} {p st b : Nat} (hpl : pl W x y z p st b) (hkc : kc = kP W h.2.1 p b s)
    (hQ : ∀ t, cq W L v h t → cx A0 B0 kc s t → Q (some (.int (nI (dp_D W h.2.1 p st b)))) t) : gc_T P d kc (256 * kc) 135 0 [.ref 0, .int x, .int y, .int z] [] s Q := by
  obtain ⟨b1, b2, hok⟩ := cq_b hq
  have b3 := p8 hok.1.2.2.1 hpl.2.2.1
  refine b_X10_depth_0 hP hm ⟨by rw [hq.1.1.2.1]; exact cl_io hq.1.1.1, by omega, ?_⟩
  rw [hq.1.1.2.1]
  refine sp_hasPlace hP hm (by omega) hq.1.1 (fun p' st' b' hpl' => ⟨fun _ => ⟨by omega, kc, 256 * kc, Nat.le_refl _, Nat.le_refl _, ?_⟩, fun y => absurd y (by decide)⟩) (fun e => absurd hpl (e p st b))
  rw [hq.2.2.1.2.1, hpl.2.2.2.1, hpl.2.2.2.2.1, hpl.2.2.2.2.2]
  refine sp_prep hP hm (by omega) hq b1 hpl.1 b3 hkc fun t t1 t2 t3 => ⟨by omega, ?_⟩
  rw [t1.2.2.1.2.1]
  exact sp_least hP hm (by omega) hok t1.1.2 b1 hpl.1 b3 hpl.2.1 t2 ⟨Nat.sub_self _, hQ t t1 t3⟩
theorem sp_depthN (hP : gc_Cl P) (hm : gc_Mo P) (hd : 7 ≤ d) (hq : cq W L v h s) {x y z : Int32} (hpl : ∀ p st b, ¬ pl W x y z p st b) (hQ : Q (some (.int (-1))) s) : gc_T P d 0 0 135 0 [.ref 0, .int x, .int y, .int z] [] s Q := by
  refine b_X10_depth_0 hP hm ⟨by rw [hq.1.1.2.1]; exact cl_io hq.1.1.1, by omega, ?_⟩
  rw [hq.1.1.2.1]
  exact sp_hasPlace hP hm (by omega) hq.1.1 (fun p' st' b' hpl' => absurd hpl' (hpl p' st' b')) (fun e => ⟨fun y => absurd rfl y, fun _ => ⟨rfl, hQ⟩⟩)
theorem cx36 {kc : Nat} {s t u : gc_St} {W : ld_W} {v : Nat} (h : cx A0 B0 kc s t) (hR : cl_rows W v t) (g : fr (AW 36) (BW 36) t u) : cx (AW 36) (BW 36) kc s u :=
  cx_trans rfl (cx_0 h) (cx_W (Or.inl rfl) hR g)
/-- a claim's root -/
theorem ld_root (hok : ld_ok W) {k : Nat} (hk : k < ld_c W) : ld_ro W k < ld_p W ∧ ld_ro W k < 24 := ⟨(hok.2.2.2.1 k hk).1, Nat.lt_of_lt_of_le (hok.2.2.2.1 k hk).1 hok.1.2.2.2.2⟩
theorem sp_can (hP : gc_Cl P) (hm : gc_Mo P) (hd : 9 ≤ d) (hq : cq W L v h s) {k : Nat} (hk : k < ld_c W) (hkc : kc = kP W h.2.1 (ld_ro W k) h.2.2 s) (hQ : ∀ t, cq W L v h t → cx A0 B0 kc s t → Q (some (.int (an_d W h (ld_ro W k)))) t) : gc_T P d kc (256 * kc) 136 0 [.ref 0, .int (nI k), gc_u] [] s Q := by
  obtain ⟨b1, b2, hok⟩ := cq_b hq
  have hr := ld_root hok hk
  have hc6 := hok.1.2.2.2.1
  refine b_X10_can_0 hP hm ⟨by omega, sp_root hP hm hq.1.1 (fun k' hk' e => ⟨fun _ => ⟨by omega, kc, 256 * kc, Nat.le_refl _, Nat.le_refl _, ?_⟩, fun y => absurd y (m1_ne (by have := (ld_root hok hk').2; omega))⟩) (fun e => absurd rfl (e k hk))⟩
  rw [nI_eq (by omega) (by omega)] at e
  subst e
  exact sp_dwh hP hm (by omega) hq hr.1 hkc fun t t1 t2 t3 => ⟨Nat.sub_self _, hQ t t1 t3⟩
theorem sp_canN (hP : gc_Cl P) (hm : gc_Mo P) (hd : 9 ≤ d) (hq : cq W L v h s) {c : Int32} (hc : ∀ k, k < ld_c W → c ≠ nI k) (hQ : Q (some (.int (-1))) s) : gc_T P d 0 0 136 0 [.ref 0, .int c, gc_u] [] s Q :=
  b_X10_can_0 hP hm ⟨by omega, sp_root hP hm hq.1.1 (fun k' hk' e => absurd e (hc k' hk')) (fun _ => ⟨fun y => absurd rfl y, fun _ => ⟨rfl, hQ⟩⟩)⟩
/-- with how many STOCKS -/
noncomputable def an_st (W : ld_W) (h : Nat × Nat × Nat) (p n : Nat) : Nat := dp_ct (fun st => !decide (dp_D W h.2.1 p st h.2.2 = 0)) n
theorem sp_stocks (hP : gc_Cl P) (hm : gc_Mo P) (hd : 9 ≤ d) (hq : cq W L v h s) {k : Nat} (hk : k < ld_c W) (hkc : kc = kP W h.2.1 (ld_ro W k) h.2.2 s) (hQ : ∀ t, cq W L v h t → cx A0 B0 kc s t → Q (some (.int (nI (an_st W h (ld_ro W k) (ld_N W))))) t) : gc_T P d kc (256 * kc) 137 0 [.ref 0, .int (nI k), gc_u, gc_u, gc_u] [] s Q := by
  obtain ⟨b1, b2, hok⟩ := cq_b hq
  have hr := ld_root hok hk
  have hc6 := hok.1.2.2.2.1
  have hN := ld_N_le hok
  refine b_X10_stocks_0 hP hm ⟨by omega, sp_root hP hm hq.1.1 (fun k' hk' e => ⟨fun _ => ⟨by omega, kc, 256 * kc, Nat.le_refl _, Nat.le_refl _, ?_⟩, fun y => absurd y (m1_ne (by have := (ld_root hok hk').2; omega))⟩) (fun e => absurd rfl (e k hk))⟩
  rw [nI_eq (by omega) (by omega)] at e
  subst e
  rw [hq.2.2.1.2.1, hq.2.2.1.2.2]
  refine sp_prep hP hm (by omega) hq b1 hr.1 b2 hkc fun t t1 t2 t3 => ?_
  show gc_T P d (kc - kc) (256 * kc - 256 * kc) 137 40 _ [] t Q
  rw [Nat.sub_self, Nat.sub_self]
  have key : ∀ m j, j + m = ld_N W → gc_T P d 0 0 137 40 [.ref 0, .int (nI k), .int (nI (ld_ro W k)), .int (nI (an_st W h (ld_ro W k) j)), .int (nI j)] [] t Q := by
    intro m
    induction m with
    | zero =>
      intro j hj
      obtain rfl : j = ld_N W := by omega
      refine b_X10_stocks_40 hP hm ⟨by rw [t1.1.1.2.1]; exact cl_io t1.1.1.1, by omega, ?_⟩
      rw [t1.1.1.2.1]
      exact sp_stockCount hP hm t1.1.1.1 t1.1.1.2.2.1 hok (pk_le (ld_N W) (ld_N W) (fun _ => ⟨rfl, hQ t t1 t3⟩) (fun z => by omega))
    | succ m ih =>
      intro j hj
      have hn := ih (j + 1) (by omega)
      have hD := dp_D_max (o := h.2.1) hok hr.1 (show j < ld_N W by omega) b2
      refine b_X10_stocks_40 hP hm ⟨by rw [t1.1.1.2.1]; exact cl_io t1.1.1.1, by omega, ?_⟩
      rw [t1.1.1.2.1]
      refine sp_stockCount hP hm t1.1.1.1 t1.1.1.2.2.1 hok (pk_le (ld_N W) j (fun z => by omega) (fun _ => ⟨by omega, ?_⟩))
      rw [t1.2.2.1.2.1, t1.2.2.1.2.2]
      have hS : an_st W h (ld_ro W k) (j + 1) = an_st W h (ld_ro W k) j + (if (!decide (dp_D W h.2.1 (ld_ro W k) j h.2.2 = 0)) = true then 1 else 0) := rfl
      refine sp_least hP hm (by omega) hok t1.1.2 b1 hr.1 b2 (by omega) t2 (pk_le (dp_D W h.2.1 (ld_ro W k) j h.2.2) 0 (fun z => b_X10_stocks_85 hP hm ?_) (fun z => b_X10_stocks_85 hP hm ?_))
      · rw [nI_1]
        rw [hS, decide_eq_true (show dp_D W h.2.1 (ld_ro W k) j h.2.2 = 0 by omega)] at hn
        exact hn
      · rw [nI_1, nI_1]
        rw [hS, decide_eq_false (show ¬ dp_D W h.2.1 (ld_ro W k) j h.2.2 = 0 by omega)] at hn
        exact hn
  exact key (ld_N W) 0 (by omega)
theorem sp_stocksN (hP : gc_Cl P) (hm : gc_Mo P) (hd : 9 ≤ d) (hq : cq W L v h s) {c : Int32} (hc : ∀ k, k < ld_c W → c ≠ nI k) (hQ : Q (some (.int (-1))) s) : gc_T P d 0 0 137 0 [.ref 0, .int c, gc_u, gc_u, gc_u] [] s Q :=
  b_X10_stocks_0 hP hm ⟨by omega, sp_root hP hm hq.1.1 (fun k' hk' e => absurd e (hc k' hk')) (fun _ => ⟨fun y => absurd rfl y, fun _ => ⟨rfl, hQ⟩⟩)⟩
/-- how many steps -/
noncomputable def an_ss (W : ld_W) (h : Nat × Nat × Nat) (p : Nat) : Int32 := if dp_D W h.2.1 p h.1 h.2.2 = 0 then -2 else nI (wk_T W h.2.1 [(p, h.1, h.2.2)])
theorem wk_T_le (hok : ld_ok W) {st b : Nat} (hp : p < ld_p W) (hst : st < ld_N W) (hb : b < 8) (hD : dp_D W o p st b ≠ 0) : wk_T W o [(p, st, b)] ≤ 92160 := by
  have := dp_Sz_max hok hp hst hb hD
  show dp_Sz W o p st b + 0 ≤ 92160
  omega
theorem vK_one {o p st b : Nat} (hv : gc_I s 24 (cl_num o p b) = nI v) : vK v o s [(p, st, b)] := by
  intro l hl
  simp only [List.mem_singleton] at hl
  subst hl
  exact hv
theorem sp_steps (hP : gc_Cl P) (hm : gc_Mo P) (hd : 9 ≤ d) (hq : cq W L v h s) {k : Nat} (hk : k < ld_c W) (hkc : kc = kP W h.2.1 (ld_ro W k) h.2.2 s) (hQ : ∀ t, cq W L v h t → cx (AW 36) (BW 36) kc s t → Q (some (.int (an_ss W h (ld_ro W k)))) t) : gc_T P d kc (256 * kc) 138 0 [.ref 0, .int (nI k), gc_u] [] s Q := by
  obtain ⟨b1, b2, hok⟩ := cq_b hq
  have hr := ld_root hok hk
  have hc6 := hok.1.2.2.2.1
  refine b_X10_steps_0 hP hm ⟨by omega, sp_root hP hm hq.1.1 (fun k' hk' e => ⟨fun _ => ⟨by omega, kc, 256 * kc, Nat.le_refl _, Nat.le_refl _, ?_⟩, fun y => absurd y (m1_ne (by have := (ld_root hok hk').2; omega))⟩) (fun e => absurd rfl (e k hk))⟩
  rw [nI_eq (by omega) (by omega)] at e
  subst e
  unfold an_ss at hQ
  refine sp_dwh hP hm (by omega) hq hr.1 hkc fun t t1 t2 t3 => ?_
  unfold an_d
  by_cases hD : dp_D W h.2.1 (ld_ro W k) h.1 h.2.2 = 0
  · rw [if_pos hD] at hQ ⊢
    exact ⟨fun y => absurd rfl y, fun _ => ⟨Nat.sub_self _, hQ t t1 (cx_0 t3)⟩⟩
  · rw [if_neg hD] at hQ ⊢
    have hDm := dp_D_max (o := h.2.1) hok hr.1 hq.2.2.2.1 b2
    have hT := wk_T_le (o := h.2.1) hok hr.1 hq.2.2.2.1 b2 hD
    refine ⟨fun _ => ⟨by omega, ?_⟩, fun y => absurd y (m2_ne (by omega))⟩
    refine sp_begin hP hm (by omega) (Or.inl rfl) t1 fun u u1 u2 u3 => ⟨by omega, ?_⟩
    have u4 := cq_W (Or.inl rfl) t1 u3
    refine sp_passOn hP hm (by omega) (m := 1000000) (Or.inl rfl) u4.1 u1 (wkI_1 hok hr.1 hq.2.2.2.1 b2 hD) u2 b1 (vK_fr (Or.inl rfl) (vK_one t2) u3) (by decide) (by omega) fun w w1 w2 w3 w4 w5 => ⟨Nat.sub_self _, ?_⟩
    rw [Nat.min_eq_right (by omega)]
    have g := fr_trans u3 w5
    exact hQ w (cq_W (Or.inl rfl) t1 g) (cx36 t3 t1.1.2 g)
theorem sp_stepsN (hP : gc_Cl P) (hm : gc_Mo P) (hd : 9 ≤ d) (hq : cq W L v h s) {c : Int32} (hc : ∀ k, k < ld_c W → c ≠ nI k) (hQ : Q (some (.int (-1))) s) : gc_T P d 0 0 138 0 [.ref 0, .int c, gc_u] [] s Q :=
  b_X10_steps_0 hP hm ⟨by omega, sp_root hP hm hq.1.1 (fun k' hk' e => absurd e (hc k' hk')) (fun _ => ⟨fun y => absurd rfl y, fun _ => ⟨rfl, hQ⟩⟩)⟩
/-- the i-th step -/
noncomputable def an_tp (W : ld_W) (o : Nat) (K : List (Nat × Nat × Nat)) (w : Nat) (z : Int32) : Int32 := match K with
  | [] => z
  | l :: _ => mv_tell l.1 l.2.1 l.2.2 (mv_best W o l.1 l.2.1 l.2.2) w
noncomputable def an_sp (W : ld_W) (h : Nat × Nat × Nat) (p i w : Nat) : Int32 := if dp_D W h.2.1 p h.1 h.2.2 = 0 then -1 else an_tp W h.2.1 (wk_n W h.2.1 i [(p, h.1, h.2.2)]) w (-1)
theorem sp_isPart (hP : gc_Cl P) (hm : gc_Mo P) {x : Int32} (h1 : ∀ w, w < 6 → x = nI w → Q (some (.int 1)) s) (h2 : (∀ w, w < 6 → x ≠ nI w) → Q (some (.int 0)) s) : gc_T P d 0 0 157 0 [.int x] [] s Q := by
  refine b_X10_isStepPart_0 hP hm ⟨fun z => h2 fun w hw e => (nI_ix (n := 6) (by decide) hw e).1 z, fun z => ⟨fun y => h2 fun w hw e => ?_, fun y => ?_⟩⟩
  · rw [e, show (5 : Int32) = nI 5 from rfl, nI_ltI (by decide) (by omega)] at y
    omega
  · rcases pk_ix x (show 6 < 2 ^ 31 by decide) with e | e | ⟨w, hw, e⟩
    · exact absurd e z
    · rcases nI_of z with ⟨j, hj, e2⟩
      rw [e2, nI_leI (by decide) hj] at e
      rw [e2, show (5 : Int32) = nI 5 from rfl, nI_ltI (by decide) hj] at y
      omega
    · exact h1 w hw e
theorem sp_step (hP : gc_Cl P) (hm : gc_Mo P) (hd : 10 ≤ d) (hq : cq W L v h s) {k i w : Nat} (hk : k < ld_c W) (hi : i < 2 ^ 31) (hw : w < 6) (hkc : kc = kP W h.2.1 (ld_ro W k) h.2.2 s) (hQ : ∀ t, cq W L v h t → cx (AW 36) (BW 36) kc s t → Q (some (.int (an_sp W h (ld_ro W k) i w))) t) : gc_T P d kc (256 * kc) 139 0 [.ref 0, .int (nI k), .int (nI i), .int (nI w), gc_u] [] s Q := by
  obtain ⟨b1, b2, hok⟩ := cq_b hq
  have hr := ld_root hok hk
  have hc6 := hok.1.2.2.2.1
  refine b_X10_step_0 hP hm ⟨by omega, sp_root hP hm hq.1.1 (fun k' hk' e => ⟨fun y => absurd y (m1_ne (by have := (ld_root hok hk').2; omega)), fun _ => ⟨fun y => absurd y (nI_pos hi), fun _ => ⟨by omega, ?_⟩⟩⟩) (fun e => absurd rfl (e k hk))⟩
  rw [nI_eq (by omega) (by omega)] at e
  subst e
  refine sp_isPart hP hm (fun w' hw' e => ⟨fun y => absurd y (by decide), fun _ => ⟨by omega, kc, 256 * kc, Nat.le_refl _, Nat.le_refl _, ?_⟩⟩) (fun e => absurd rfl (e w hw))
  unfold an_sp at hQ
  refine sp_dwh hP hm (by omega) hq hr.1 hkc fun t t1 t2 t3 => ?_
  unfold an_d
  by_cases hD : dp_D W h.2.1 (ld_ro W k) h.1 h.2.2 = 0
  · rw [if_pos hD] at hQ ⊢
    exact ⟨fun y => absurd rfl y, fun _ => ⟨Nat.sub_self _, hQ t t1 (cx_0 t3)⟩⟩
  · rw [if_neg hD] at hQ ⊢
    have hDm := dp_D_max (o := h.2.1) hok hr.1 hq.2.2.2.1 b2
    have hT := wk_T_le (o := h.2.1) hok hr.1 hq.2.2.2.1 b2 hD
    have hI := wkI_1 (o := h.2.1) hok hr.1 hq.2.2.2.1 b2 hD
    refine ⟨fun _ => ⟨by omega, ?_⟩, fun y => absurd y (m2_ne (by omega))⟩
    refine sp_begin hP hm (by omega) (Or.inl rfl) t1 fun u u1 u2 u3 => ⟨by omega, ?_⟩
    have u4 := cq_W (Or.inl rfl) t1 u3
    refine sp_passOn hP hm (by omega) (Or.inl rfl) u4.1 u1 hI u2 b1 (vK_fr (Or.inl rfl) (vK_one t2) u3) hi (by omega) fun x x1 x2 x3 x4 x5 => ?_
    have g := fr_trans u3 x5
    refine pk_lt (min i (wk_T W h.2.1 [(ld_ro W k, h.1, h.2.2)])) i (fun y => ⟨Nat.sub_self _, ?_⟩) (fun y => ⟨by omega, ?_⟩)
    · rw [wk_end hok i _ hI (by omega)] at hQ
      exact hQ x (cq_W (Or.inl rfl) t1 g) (cx36 t3 t1.1.2 g)
    · rw [Nat.min_eq_left (by omega)] at x2 x4
      have hIn := wkI_n hok i _ hI
      generalize wk_n W h.2.1 i [(ld_ro W k, h.1, h.2.2)] = K' at x2 x4 hIn hQ
      cases K' with
      | nil => exact sp_choose0 hP hm (Or.inl rfl) x2 ⟨fun y => absurd rfl y, fun _ => ⟨Nat.sub_self _, hQ x (cq_W (Or.inl rfl) t1 g) (cx36 t3 t1.1.2 g)⟩⟩
      | cons l K' =>
        refine sp_choose hP hm (by omega) (Or.inl rfl) x1 x2 hIn x3 b1 (x4 l List.mem_cons_self) fun a a1 a2 a3 => ⟨fun _ => ⟨by omega, ?_⟩, fun y => absurd y (by decide)⟩
        have g2 := fr_trans g (AW_32 a3)
        exact sp_tell hP hm a2 a1 hw ⟨Nat.sub_self _, hQ a (cq_W (Or.inl rfl) t1 g2) (cx36 t3 t1.1.2 g2)⟩
theorem sp_stepN (hP : gc_Cl P) (hm : gc_Mo P) (hd : 9 ≤ d) (hq : cq W L v h s) {c i w : Int32} (hc : (∀ k, k < ld_c W → c ≠ nI k) ∨ i < 0 ∨ (∀ x, x < 6 → w ≠ nI x)) (hQ : Q (some (.int (-1))) s) : gc_T P d 0 0 139 0 [.ref 0, .int c, .int i, .int w, gc_u] [] s Q := by
  have hok := hq.1.1.2.2.2.1
  refine b_X10_step_0 hP hm ⟨by omega, sp_root hP hm hq.1.1 (fun k' hk' e => ⟨fun y => absurd y (m1_ne (by have := (ld_root hok hk').2; omega)), fun _ => ⟨fun y => ⟨rfl, hQ⟩, fun y => ⟨by omega, ?_⟩⟩⟩) (fun _ => ⟨fun _ => ⟨rfl, hQ⟩, fun y => absurd rfl y⟩)⟩
  refine sp_isPart hP hm (fun w' hw' e2 => ?_) (fun _ => ⟨fun _ => ⟨rfl, hQ⟩, fun y => absurd rfl y⟩)
  rcases hc with z | z | z
  · exact absurd e (z k' hk')
  · exact absurd z y
  · exact absurd e2 (z w' hw')
end Qa
