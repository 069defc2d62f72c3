/-! judge: SPLIT, by both. -/
abbrev spR : Type := (Nat × Nat) ⊕ (Nat × List (Nat × Nat × Nat))
theorem nli_gd {W : ld_W} {nl : List (List Nat × Nat × Nat)} (h : nli W nl) : ∀ w g, gd nl w = some g → g < ld_g W := by
  intro w g hg
  unfold gd at hg
  cases hf : nl.find? (fun e => e.1 == w && Nat.beq e.2.1 0) with
  | none =>
    rw [hf] at hg
    exact absurd hg (by simp)
  | some e =>
    rw [hf] at hg
    have e1 : e.2.2 = g := by simpa using hg
    have hp : (e.1 == w && Nat.beq e.2.1 0) = true := by
      have := List.find?_some hf
      exact this
    rw [Bool.and_eq_true, Nat.beq_eq] at hp
    rw [← e1]
    exact (h e (List.mem_of_find?_eq_some hf)).2.1 hp.2
section Spl
variable {b : Nat → Nat} {n Tc Tr L lv o p sk bs lvl i : Nat} {nl : List (List Nat × Nat × Nat)} {W : ld_W}
theorem j_split (hlt : ∀ j, b j < 256) (hnd : ndN nl) (hnl : nli W nl) (hok : ld_ok W) (hp : p < ld_p W) (hsk : sk < ld_N W) (hbs : bs < ld_B W) (hkd : ld_kd W p = 5) : ∃ res : spR, (∀ e, res = .inr e → i + 1 < e.1 ∧ e.2.length ≤ 2 ∧ ∀ q, q ∈ e.2 → q.1 < ld_p W ∧ q.2.1 < ld_N W ∧ q.2.2 < ld_B W) ∧ (∀ (P : gc_Pr) (d : Nat) (s s0 : gc_St) (Q : gc_TQ) (N : List (Nat × Nat)) (C : List Nat) (st dp id : Nat), gc_Cl P → gc_Mo P → 4 ≤ d → N.length + 1 < 64 → jA b n Tc L W nl s0 o (i + 1) N C st dp id s → jP p sk bs lvl (tk_st b n i) s → (∀ e, res = .inl e → ∀ t, jF s0 e.1 e.2 t → Q (some (.int 0)) t) → (∀ e, res = .inr e → ∀ t, jA b n Tc L W nl s0 o e.1 (pu N e.2 (lvl + 1)) C st dp id t → Q (some (.int 1)) t) → gc_T P d 0 0 81 0 [.ref 28, gc_u, gc_u] [] s Q) ∧ (∀ (P : gc_Pr) (d : Nat) (s s0 : gc_St) (Q : gc_TQ) (N : List (Nat × Nat)) (C : List Nat) (st dp id : Nat), gc_Cl P → gc_Mo P → 5 ≤ d → N.length + 1 < 64 → kA b n Tr lv W nl o s0 (i + 1) N C st dp id s → (∀ e, res = .inl e → ∀ t, kF' s0 e.1 e.2 t → Q none t) → (∀ e, res = .inr e → ∀ t, kA b n Tr lv W nl o s0 e.1 (pu N e.2 (lvl + 1)) C st dp id t → Q none t) → gc_T P d 0 0 265 0 [.ref 67, .int (nI p), .int (nI sk), .int (nI bs), .int (nI lvl), .int (nI i), gc_u, gc_u, gc_u] [] s Q) := by
  have hN256 := ld_N_le hok
  have hB8 := ld_B_le hok
  have hp24 := hok.1.2.2.2.2
  obtain ⟨hfi, hse⟩ : ld_fi W p < ld_p W ∧ ld_se W p < ld_p W := by
    rcases hok.2.2.2.2.2 p hp with ⟨z, _⟩ | ⟨z, z1, z2, _⟩ | ⟨z, _⟩ | ⟨z, _⟩ <;> omega
  -- the tails of the reference that hold a fault
  have f162 : ∀ (P : gc_Pr) (d : Nat) (s0 : gc_St) (Q : gc_TQ), gc_Cl P → gc_Mo P → ∀ x y t l6 l7 l8, kF' s0 x y t → Q none t → gc_T P d 0 0 265 162 [.ref 67, .int (nI p), .int (nI sk), .int (nI bs), .int (nI lvl), .int (nI i), .int l6, .int l7, .int l8] [] t Q := fun P d s0 Q hP hm x y t l6 l7 l8 t1 t2 => b_X11_splits_162 hP hm ⟨fun z => absurd z (kF_n t1).2.1, fun _ => t2⟩
  have fless : ∀ (P : gc_Pr) (d : Nat) (s0 : gc_St) (Q : gc_TQ), gc_Cl P → gc_Mo P → 4 ≤ d → ∀ x y t v l7, v < 256 → kF' s0 x y t → Q none t → gc_T P (d - 1) 0 0 213 0 [.int (nI sk), .int (nI v), gc_u] [] t (fun r6 s7 => gc_ri r6 fun x8 => (¬ x8 = (-1) → (gc_T P d 0 0 265 162 [.ref 67, .int (nI p), .int (nI sk), .int (nI bs), .int (nI lvl), .int (nI i), .int (nI v), .int l7, .int x8] [] s7 Q)) ∧ (x8 = (-1) → (1 ≤ d ∧ gc_T P (d - 1) 0 0 192 0 [.ref 67, .int 7, .int (nI i)] [] s7 (fun r9 s10 => gc_rv r9 (gc_T P d 0 0 265 162 [.ref 67, .int (nI p), .int (nI sk), .int (nI bs), .int (nI lvl), .int (nI i), .int (nI v), .int l7, .int x8] [] s10 Q))))) := by
    intro P d s0 Q hP hm hd x y t v l7 hv t1 t2
    exact sp_less hP hm (by omega) hv ⟨fun _ => f162 P d s0 Q hP hm x y t _ _ _ t1 t2, fun _ => ⟨by omega, k_failAtF hP hm t1 (f162 P d s0 Q hP hm x y t _ _ _ t1 t2)⟩⟩
  have f15 : ∀ (P : gc_Pr) (d : Nat) (s0 : gc_St) (Q : gc_TQ), gc_Cl P → gc_Mo P → 4 ≤ d → ∀ x y t v l7 l8, v < 256 → kF' s0 x y t → Q none t → gc_T P d 0 0 265 15 [.ref 67, .int (nI p), .int (nI sk), .int (nI bs), .int (nI lvl), .int (nI i), .int (nI v), .int l7, l8] [] t Q := by
    intro P d s0 Q hP hm hd x y t v l7 l8 hv t1 t2
    exact b_X11_splits_15 hP hm ⟨by omega, sp_misF hP hm (kF_n t1).1 ⟨fun _ => ⟨by omega, sp_mmustF hP hm (by omega) (kF_n t1).2.1 ⟨by omega, fless P d s0 Q hP hm hd x y t v _ hv t1 t2⟩⟩, fun z => absurd rfl z⟩⟩
  obtain ⟨r1, a1, a2, a3⟩ := j_side (Tc := Tc) (Tr := Tr) (L := L) (lv := lv) (o := o) (W := W) (b := b) (n := n) hlt hnd (nli_ok hnl hok) hok.1.1 (nli_gd hnl) (i + 1)
  cases r1 with
  | inl e =>
    refine ⟨.inl e, fun e he => absurd he (by simp), fun P d s s0 Q N C st dp id hP hm hd hN h hj hb hg => ?_, fun P d s s0 Q N C st dp id hP hm hd hN h hb hg => ?_⟩
    · refine b_X6_split_0 hP hm ⟨by omega, ?_⟩
      rw [h.1.2.2.2.2.1.2.1]
      exact a2 P (d - 1) s s0 _ hP hm (by omega) h.1 (fun t t1 => ⟨fun _ => hb e rfl t t1, fun z => absurd rfl z⟩)
    · exact b_X11_splits_0 hP hm ⟨by omega, a3 P (d - 1) s s0 _ hP hm (by omega) h.1 (fun t y t1 hy => ⟨by omega, sp_mmustF hP hm (by omega) (kF_n t1).2.1 (f15 P d s0 Q hP hm (by omega) _ _ t y _ _ hy t1 (hb e rfl t t1))⟩)⟩
  | inr e1 =>
    obtain ⟨i1, v⟩ := e1
    obtain ⟨hi1, hv⟩ : i + 1 < i1 ∧ v < ld_N W := a1 (i1, v) rfl
    cases hs1 : sT b n i1 6 with
    | some e =>
      refine ⟨.inl e, fun e he => absurd he (by simp), fun P d s s0 Q N C st dp id hP hm hd hN h hj hb hg => ?_, fun P d s s0 Q N C st dp id hP hm hd hN h hb hg => ?_⟩
      · refine b_X6_split_0 hP hm ⟨by omega, ?_⟩
        rw [h.1.2.2.2.2.1.2.1]
        refine a2 P (d - 1) s s0 _ hP hm (by omega) h.1 (fun t t1 t2 => ⟨fun z => absurd z (nI_nm1 (by show v < 2 ^ 31; omega)), fun _ => ⟨by omega, j_accept hP hm (by omega) kk_open t1 (fun u u0 => absurd (hs1.symm.trans u0) (by simp)) (fun u x y u0 u1 => ⟨fun z => absurd rfl z, fun _ => hb (x, y) ?_ u u1⟩)⟩⟩)
        exact congrArg _ (by simpa using hs1.symm.trans u0)
      · refine b_X11_splits_0 hP hm ⟨by omega, a3 P (d - 1) s s0 _ hP hm (by omega) h.1 (fun t t1 t2 => ⟨by omega, k_must hP hm (by omega) (x := 6) (by decide) t1 (fun u u0 => absurd (hs1.symm.trans u0) (by simp)) (fun u x y u0 u1 => f15 P d s0 Q hP hm (by omega) _ _ u v _ _ (by omega) u1 (hb (x, y) ?_ u u1))⟩)⟩
        exact congrArg _ (by simpa using hs1.symm.trans u0)
    | none =>
      obtain ⟨r2, b1, b2, b3⟩ := jn_loop (Tc := Tc) (Tr := Tr) (L := L) (lv := lv) (o := o) (W := W) (b := b) (n := n) (bs := bs) hlt hnd hnl hok.1.2.2.1 (by omega) 401 (i1 + 1) 0 (by omega) (by decide) (sb_zero bs (by omega))
      -- up to the names
      have toC : ∀ (P : gc_Pr) (d : Nat) (s s0 : gc_St) (Q : gc_TQ) (N : List (Nat × Nat)) (C : List Nat) (st dp id : Nat), gc_Cl P → gc_Mo P → 4 ≤ d → jA b n Tc L W nl s0 o (i + 1) N C st dp id s → jP p sk bs lvl (tk_st b n i) s → (∀ t, jA b n Tc L W nl s0 o (i1 + 1) N C st dp id t → jP p sk bs lvl (tk_st b n i) t → gc_T P (d - 1) 0 0 82 0 [.ref 28, gc_u, gc_u, gc_u] [] t (fun r7 s8 => gc_ri r7 fun x9 => (x9 = (-1) → (Q (some (.int 0)) s8)) ∧ (¬ x9 = (-1) → (1 ≤ d ∧ gc_T P (d - 1) 0 0 107 0 [.ref 3, .int 41] [] s8 (fun r10 s11 => gc_ri r10 fun x12 => (¬ x12 = 0 → (1 ≤ d ∧ gc_T P (d - 1) 0 0 169 0 [.int (nI v), .int (gc_F s11 28 9)] [] s11 (fun r13 s14 => gc_ri r13 fun x15 => (¬ x15 = 0 → (gc_io 2 (gc_lw s14) ∧ (vp_in (gc_F s14 28 8) 24 ∧ (1 ≤ d ∧ gc_T P (d - 1) 0 0 75 0 [.ref 28, .int (gc_I s14 (gc_rS (gc_lw s14) 15) (gc_F s14 28 8).toNatClampNeg), .int ((gc_F s14 28 9) - (nI v)), .int ((gc_F s14 28 10) - x9)] [] s14 (fun r17 s18 => gc_ri r17 fun x19 => (x19 = 0 → (Q (some (.int 0)) s18)) ∧ (¬ x19 = 0 → (gc_io 2 (gc_lw s18) ∧ (vp_in (gc_F s18 28 8) 24 ∧ (1 ≤ d ∧ gc_T P (d - 1) 0 0 75 0 [.ref 28, .int (gc_I s18 (gc_rS (gc_lw s18) 14) (gc_F s18 28 8).toNatClampNeg), .int (nI v), .int x9] [] s18 (fun r21 s22 => gc_ri r21 fun x23 => (x23 = 0 → (Q (some (.int 0)) s22)) ∧ (¬ x23 = 0 → (Q (some (.int 1)) s22)))))))))))) ∧ (x15 = 0 → (1 ≤ d ∧ gc_T P (d - 1) 0 0 79 0 [.ref 28] [] s14 (fun r28 s29 => gc_ri r28 fun x30 => (x30 = 0 ∨ x30 = 1) ∧ Q (some (.int x30)) s29)))))) ∧ (x12 = 0 → (Q (some (.int 0)) s11))))))) → gc_T P d 0 0 81 0 [.ref 28, gc_u, gc_u] [] s Q := by
        intro P d s s0 Q N C st dp id hP hm hd h hj hk
        refine b_X6_split_0 hP hm ⟨by omega, ?_⟩
        rw [h.1.2.2.2.2.1.2.1]
        exact a2 P (d - 1) s s0 _ hP hm (by omega) h.1 (fun t t1 t2 => ⟨fun z => absurd z (nI_nm1 (by show v < 2 ^ 31; omega)), fun _ => ⟨by omega, j_accept hP hm (by omega) kk_open t1 (fun u u0 u1 u2 _ => ⟨fun _ => ⟨by omega, hk u (jA_3 h (fr_trans t2 u2) u1) (jP_3 hj (fr_trans t2 u2))⟩, fun z => absurd z (by decide)⟩) (fun u x y u0 => absurd (hs1.symm.trans u0) (by simp))⟩⟩)
      have toR : ∀ (P : gc_Pr) (d : Nat) (s s0 : gc_St) (Q : gc_TQ) (N : List (Nat × Nat)) (C : List Nat) (st dp id : Nat), gc_Cl P → gc_Mo P → 5 ≤ d → kA b n Tr lv W nl o s0 (i + 1) N C st dp id s → (∀ e, r2 = .inl e → ∀ t, kF' s0 e.1 e.2 t → Q none t) → (∀ e, r2 = .inr e → ∀ t, kA b n Tr lv W nl o s0 e.1 N C st dp id t → gc_T P (d - 1) 0 0 188 0 [.ref 67, .int 7] [] t (fun r4 s5 => gc_rv r4 (1 ≤ d ∧ gc_T P (d - 1) 0 0 213 0 [.int (nI sk), .int (nI v), gc_u] [] s5 (fun r6 s7 => gc_ri r6 fun x8 => (¬ x8 = (-1) → (gc_T P d 0 0 265 162 [.ref 67, .int (nI p), .int (nI sk), .int (nI bs), .int (nI lvl), .int (nI i), .int (nI v), .int (nI e.2), .int x8] [] s7 Q)) ∧ (x8 = (-1) → (1 ≤ d ∧ gc_T P (d - 1) 0 0 192 0 [.ref 67, .int 7, .int (nI i)] [] s7 (fun r9 s10 => gc_rv r9 (gc_T P d 0 0 265 162 [.ref 67, .int (nI p), .int (nI sk), .int (nI bs), .int (nI lvl), .int (nI i), .int (nI v), .int (nI e.2), .int x8] [] s10 Q)))))))) → gc_T P d 0 0 265 0 [.ref 67, .int (nI p), .int (nI sk), .int (nI bs), .int (nI lvl), .int (nI i), gc_u, gc_u, gc_u] [] s Q := by
        intro P d s s0 Q N C st dp id hP hm hd h hb hk
        refine b_X11_splits_0 hP hm ⟨by omega, a3 P (d - 1) s s0 _ hP hm (by omega) h.1 (fun t t1 t2 => ⟨by omega, k_must hP hm (by omega) (x := 6) (by decide) t1 (fun u u0 u1 u2 => ?_) (fun u x y u0 => absurd (hs1.symm.trans u0) (by simp))⟩)⟩
        refine b3 P d u s0 Q _ _ _ _ _ _ hP hm (by omega) u1 hb (fun e he w l8 w1 w2 => ?_)
        have hA := kA_12 h (fr_trans t2 (fr_trans u2 w2)) w1
        exact b_X11_splits_15 hP hm ⟨by omega, k_is hP hm w1 (fun z => absurd z (b1 e he).2.2.2) (fun _ => ⟨fun _ => ⟨by omega, hk e he w hA⟩, fun z => absurd rfl z⟩)⟩
      cases r2 with
      | inl e =>
        refine ⟨.inl e, fun e he => absurd he (by simp), fun P d s s0 Q N C st dp id hP hm hd hN h hj hb hg => ?_, fun P d s s0 Q N C st dp id hP hm hd hN h hb hg => ?_⟩
        · refine toC P d s s0 Q N C st dp id hP hm hd h hj (fun t t1 t2 => b_X6_bargainsNamed_0 hP hm (b2 P (d - 1) t s0 _ 0 _ hP hm (by omega) t1.1 t2.2.2.1 (Nat.zero_le _) (fun u u1 => ⟨fun _ => hb e rfl u u1, fun z => absurd rfl z⟩)))
        · exact toR P d s s0 Q N C st dp id hP hm hd h (fun e' he' t t1 => hb e' (congrArg _ (by simpa using he')) t t1) (fun e' he' => absurd he' (by simp))
      | inr e2 =>
        obtain ⟨i2, w⟩ := e2
        obtain ⟨hi2, hw8, hsb, hn1⟩ := b1 (i2, w) rfl
        have hwb : w ≤ bs := (sb_le bs (by omega) w hw8 hsb).1
        -- the class, up to the last sign
        have toC2 : ∀ (P : gc_Pr) (d : Nat) (s s0 : gc_St) (Q : gc_TQ) (N : List (Nat × Nat)) (C : List Nat) (st dp id : Nat), gc_Cl P → gc_Mo P → 4 ≤ d → jA b n Tc L W nl s0 o (i + 1) N C st dp id s → jP p sk bs lvl (tk_st b n i) s → (∀ t, jA b n Tc L W nl s0 o i2 N C st dp id t → jP p sk bs lvl (tk_st b n i) t → gc_T P (d - 1) 0 0 107 0 [.ref 3, .int 41] [] t (fun r10 s11 => gc_ri r10 fun x12 => (¬ x12 = 0 → (1 ≤ d ∧ gc_T P (d - 1) 0 0 169 0 [.int (nI v), .int (gc_F s11 28 9)] [] s11 (fun r13 s14 => gc_ri r13 fun x15 => (¬ x15 = 0 → (gc_io 2 (gc_lw s14) ∧ (vp_in (gc_F s14 28 8) 24 ∧ (1 ≤ d ∧ gc_T P (d - 1) 0 0 75 0 [.ref 28, .int (gc_I s14 (gc_rS (gc_lw s14) 15) (gc_F s14 28 8).toNatClampNeg), .int ((gc_F s14 28 9) - (nI v)), .int ((gc_F s14 28 10) - (nI w))] [] s14 (fun r17 s18 => gc_ri r17 fun x19 => (x19 = 0 → (Q (some (.int 0)) s18)) ∧ (¬ x19 = 0 → (gc_io 2 (gc_lw s18) ∧ (vp_in (gc_F s18 28 8) 24 ∧ (1 ≤ d ∧ gc_T P (d - 1) 0 0 75 0 [.ref 28, .int (gc_I s18 (gc_rS (gc_lw s18) 14) (gc_F s18 28 8).toNatClampNeg), .int (nI v), .int (nI w)] [] s18 (fun r21 s22 => gc_ri r21 fun x23 => (x23 = 0 → (Q (some (.int 0)) s22)) ∧ (¬ x23 = 0 → (Q (some (.int 1)) s22)))))))))))) ∧ (x15 = 0 → (1 ≤ d ∧ gc_T P (d - 1) 0 0 79 0 [.ref 28] [] s14 (fun r28 s29 => gc_ri r28 fun x30 => (x30 = 0 ∨ x30 = 1) ∧ Q (some (.int x30)) s29)))))) ∧ (x12 = 0 → (Q (some (.int 0)) s11)))) → gc_T P d 0 0 81 0 [.ref 28, gc_u, gc_u] [] s Q := by
          intro P d s s0 Q N C st dp id hP hm hd h hj hk
          exact toC P d s s0 Q N C st dp id hP hm hd h hj (fun t t1 t2 => b_X6_bargainsNamed_0 hP hm (b2 P (d - 1) t s0 _ 0 _ hP hm (by omega) t1.1 t2.2.2.1 (Nat.zero_le _) (fun u u1 u2 => ⟨fun z => absurd z (nI_nm1 (by show w < 2 ^ 31; omega)), fun _ => ⟨by omega, hk u (jA_3 t1 u2 u1) (jP_3 t2 u2)⟩⟩)))
        cases hs2 : sT b n i2 7 with
        | some e =>
          refine ⟨.inl e, fun e he => absurd he (by simp), fun P d s s0 Q N C st dp id hP hm hd hN h hj hb hg => ?_, fun P d s s0 Q N C st dp id hP hm hd hN h hb hg => ?_⟩
          · refine toC2 P d s s0 Q N C st dp id hP hm hd h hj (fun t t1 t2 => j_accept hP hm (by omega) kk_close t1.1 (fun u u0 => absurd (hs2.symm.trans u0) (by simp)) (fun u x y u0 u1 => ⟨fun z => absurd rfl z, fun _ => hb (x, y) ?_ u u1⟩))
            exact congrArg _ (by simpa using hs2.symm.trans u0)
          · refine toR P d s s0 Q N C st dp id hP hm hd h (fun e' he' => absurd he' (by simp)) (fun e' he' t t1 => ?_)
            have ee : (i2, w) = e' := by simpa using he'
            rw [← ee] at t1 ⊢
            refine k_must hP hm (by omega) (x := 7) (by decide) t1.1 (fun u u0 => absurd (hs2.symm.trans u0) (by simp)) (fun u x y u0 u1 => ⟨by omega, fless P d s0 Q hP hm (by omega) _ _ u v _ (by omega) u1 (hb (x, y) ?_ u u1)⟩)
            exact congrArg _ (by simpa using hs2.symm.trans u0)
        | none =>
          by_cases hin : st_in v sk = true
          · have hvs := st_in_le (by omega) (by omega) hin
            refine ⟨.inr (i2 + 1, [(ld_se W p, sk - v, bs - w), (ld_fi W p, v, w)]), fun e he => ?_, fun P d s s0 Q N C st dp id hP hm hd hN h hj hb hg => ?_, fun P d s s0 Q N C st dp id hP hm hd hN h hb hg => ?_⟩
            · have ee : (i2 + 1, [(ld_se W p, sk - v, bs - w), (ld_fi W p, v, w)]) = e := by simpa using he
              rw [← ee]
              refine ⟨by show i + 1 < i2 + 1; omega, by simp, fun q hq => ?_⟩
              rcases List.mem_cons.mp hq with z | z
              · rw [z]
                exact ⟨hse, by show sk - v < ld_N W; omega, by show bs - w < ld_B W; omega⟩
              · rw [List.mem_singleton.mp z]
                exact ⟨hfi, hv, by show w < ld_B W; omega⟩
            · refine toC2 P d s s0 Q N C st dp id hP hm hd h hj (fun t t1 t2 => j_accept hP hm (by omega) kk_close t1.1 (fun u _ u1 u2 _ => ⟨fun _ => ⟨by omega, ?_⟩, fun z => absurd z (by decide)⟩) (fun u x y u0 => absurd (hs2.symm.trans u0) (by simp)))
              have hA := jA_3 t1 u2 u1
              have hjt := jP_3 t2 u2
              have hCl := u1.2.2.2.2.1
              rw [hjt.2.1]
              refine sp_isWithin hP hm (by omega) (by omega) (by omega) ?_
              rw [if_pos hin]
              refine ⟨fun _ => ?_, fun z => absurd z (by decide)⟩
              rw [hCl.2.1, hjt.1, nI_clamp (by omega), cl_se hCl.2.2.1 hp, sI_k (by omega), hjt.2.1, hjt.2.2.1, pk_sub hvs, pk_sub hwb]
              refine ⟨cl_io hCl.1, vp_in_nI (by omega) (by decide), by omega, j_open hP hm hA hjt (by omega) fun x x1 x2 => ⟨fun z => absurd z (by decide), fun _ => ?_⟩⟩
              have hCx := x1.1.2.2.2.2.1
              rw [hCx.2.1, x2.1, nI_clamp (by omega), cl_fi hCx.2.2.1 hp, fI_k (by omega)]
              exact ⟨cl_io hCl.1, vp_in_nI (by omega) (by decide), by omega, j_open hP hm x1 x2 (by rw [List.length_append]; exact hN) fun y y1 _ => ⟨fun z => absurd z (by decide), fun _ => hg _ rfl y (by rw [pu_2]; exact y1)⟩⟩
            · refine toR P d s s0 Q N C st dp id hP hm hd h (fun e' he' => absurd he' (by simp)) (fun e' he' t t1 => ?_)
              have ee : (i2, w) = e' := by simpa using he'
              rw [← ee] at t1 ⊢
              refine k_must hP hm (by omega) (x := 7) (by decide) t1.1 (fun u _ u1 u2 => ⟨by omega, sp_less hP hm (by omega) (by omega) ?_⟩) (fun u x y u0 => absurd (hs2.symm.trans u0) (by simp))
              have hA := kA_12 t1 u2 u1
              unfold st_less
              rw [if_pos hin]
              refine ⟨fun _ => b_X11_splits_162 hP hm ?_, fun z => absurd z (nI_nm1 (by omega))⟩
              rw [u1.2.2.1.1, pk_sub hwb]
              refine ⟨fun _ => ⟨by omega, sp_msecond hP hm u1.2.2.2.1 hp ?_⟩, fun z => absurd (by decide) z⟩
              rw [sI_k (by omega)]
              refine ⟨by omega, sp_spot hP hm ⟨by omega, ?_⟩⟩
              rw [nI_1]
              refine k_needs hP hm hA (by omega) fun x x1 => ⟨by omega, sp_mfirst hP hm x1.1.2.2.2.1 hp ?_⟩
              rw [fI_k (by omega)]
              exact ⟨by omega, sp_spot hP hm ⟨by omega, k_needs hP hm x1 (by rw [List.length_append]; show N.length + 1 < 80; omega) fun y y1 => hg _ rfl y (by rw [pu_2]; exact y1)⟩⟩
          · refine ⟨.inl (7, tk_st b n i), fun e he => absurd he (by simp), fun P d s s0 Q N C st dp id hP hm hd hN h hj hb hg => ?_, fun P d s s0 Q N C st dp id hP hm hd hN h hb hg => ?_⟩
            · refine toC2 P d s s0 Q N C st dp id hP hm hd h hj (fun t t1 t2 => j_accept hP hm (by omega) kk_close t1.1 (fun u _ u1 u2 _ => ⟨fun _ => ⟨by omega, ?_⟩, fun z => absurd z (by decide)⟩) (fun u x y u0 => absurd (hs2.symm.trans u0) (by simp)))
              have hjt := jP_3 t2 u2
              rw [hjt.2.1]
              refine sp_isWithin hP hm (by omega) (by omega) (by omega) ?_
              rw [if_neg hin]
              refine ⟨fun z => absurd rfl z, fun _ => ⟨by omega, b_X6_wrongStock_0 hP hm ⟨by omega, ?_⟩⟩⟩
              rw [hjt.2.2.2.2]
              exact j_blame hP hm (x := 7) (by decide) u1.2.2.1 fun x x1 => ⟨Or.inl rfl, Or.inl rfl, hb _ rfl x x1⟩
            · refine toR P d s s0 Q N C st dp id hP hm hd h (fun e' he' => absurd he' (by simp)) (fun e' he' t t1 => ?_)
              have ee : (i2, w) = e' := by simpa using he'
              rw [← ee] at t1 ⊢
              refine k_must hP hm (by omega) (x := 7) (by decide) t1.1 (fun u _ u1 u2 => ⟨by omega, sp_less hP hm (by omega) (by omega) ?_⟩) (fun u x y u0 => absurd (hs2.symm.trans u0) (by simp))
              have hiT : i < Tr := by
                have := h.1.1.2.2.2
                omega
              unfold st_less
              rw [if_neg hin]
              exact ⟨fun z => absurd rfl z, fun _ => ⟨by omega, k_failAt hP hm (x := 7) (by decide) u1 hiT fun x x1 => f162 P d s0 Q hP hm _ _ x _ _ _ x1 (hb _ rfl x x1)⟩⟩
end Spl
