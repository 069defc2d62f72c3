/-! judge: the BARGAINS that a SPLIT names, by both. -/
theorem sb_set0 : ∀ c, c < 8 → ∀ v, v < 8 → ∀ k, k < 3 → (!(sb_in v c) || (!(Nat.beq (c / 2 ^ k % 2) 1) || (Nat.beq (v / 2 ^ k % 2) 1 || (sb_in (v + 2 ^ k) c && Nat.blt (v + 2 ^ k) 8)))) = true := by decide +kernel
theorem sb_set {c v k : Nat} (hc : c < 8) (hv : v < 8) (hk : k < 3) (h : sb_in v c = true) (h1 : c / 2 ^ k % 2 = 1) (h2 : v / 2 ^ k % 2 ≠ 1) : sb_in (v + 2 ^ k) c = true ∧ v + 2 ^ k < 8 := by
  have := sb_set0 c hc v hv k hk
  rw [h, h1] at this
  simp only [Bool.or_eq_true, Bool.and_eq_true, Nat.beq_eq, Bool.not_eq_true'] at this
  rcases this with e | e | e | e
  · exact absurd e (by decide)
  · exact absurd e (by decide)
  · exact absurd e h2
  · exact ⟨e.1, Nat.le_of_ble_eq_true e.2⟩
theorem neg16 : ∀ a, a < 16 → nI a - 16 < 0 := by decide +kernel
def bnF (nl : List (List Nat × Nat × Nat)) (w : List Nat) (bs v : Nat) : Nat ⊕ Nat := match nl.find? (fun e => e.1 == w) with
  | none => .inl 4
  | some e => if e.2.1 = 2 then (if bs / 2 ^ e.2.2 % 2 = 1 ∧ v / 2 ^ e.2.2 % 2 ≠ 1 then .inr (v + 2 ^ e.2.2) else .inl 8) else .inl 4
theorem bnF_n {nl : List (List Nat × Nat × Nat)} {w : List Nat} {bs v : Nat} (h : nl.find? (fun e => e.1 == w) = none) : bnF nl w bs v = .inl 4 := by
  unfold bnF
  rw [h]
theorem bnF_o {nl : List (List Nat × Nat × Nat)} {w : List Nat} {bs v : Nat} {e : List Nat × Nat × Nat} (h : nl.find? (fun e => e.1 == w) = some e) (hk : e.2.1 ≠ 2) : bnF nl w bs v = .inl 4 := by
  unfold bnF
  rw [h]
  exact if_neg hk
theorem bnF_y {nl : List (List Nat × Nat × Nat)} {w : List Nat} {bs v : Nat} {e : List Nat × Nat × Nat} (h : nl.find? (fun e => e.1 == w) = some e) (hk : e.2.1 = 2) (h1 : bs / 2 ^ e.2.2 % 2 = 1) (h2 : v / 2 ^ e.2.2 % 2 ≠ 1) : bnF nl w bs v = .inr (v + 2 ^ e.2.2) := by
  unfold bnF
  rw [h]
  show (if e.2.1 = 2 then _ else _) = _
  rw [if_pos hk, if_pos ⟨h1, h2⟩]
theorem bnF_8 {nl : List (List Nat × Nat × Nat)} {w : List Nat} {bs v : Nat} {e : List Nat × Nat × Nat} (h : nl.find? (fun e => e.1 == w) = some e) (hk : e.2.1 = 2) (h1 : ¬ (bs / 2 ^ e.2.2 % 2 = 1 ∧ v / 2 ^ e.2.2 % 2 ≠ 1)) : bnF nl w bs v = .inl 8 := by
  unfold bnF
  rw [h]
  show (if e.2.1 = 2 then _ else _) = _
  rw [if_pos hk, if_neg h1]
section Bn
variable {P : gc_Pr} {d : Nat} {s s0 : gc_St} {Q : gc_TQ} {b : Nat → Nat} {n T L lv i o bs v k : Nat} {nl : List (List Nat × Nat × Nat)} {W : ld_W}
theorem jn_one (hP : gc_Cl P) (hm : gc_Mo P) (hd : 3 ≤ d) (hlt : ∀ j, b j < 256) (hnl : nli W nl) (hbs : bs < 8) (hv : v < 8) (hk1 : rk b n i = 1) (hi : i < 400) (hki : k ≤ i) {l3 : Value} (h : jc b n T L W nl s0 i s) (h10 : gc_F s 28 10 = nI bs)
    (hbad : ∀ x, bnF nl (wdi b n i) bs v = .inl x → ∀ t, jF s0 x (tk_st b n i) t → Q (some (.int (-1))) t)
    (hgo : ∀ v', bnF nl (wdi b n i) bs v = .inr v' → ∀ t l3, jc b n T L W nl s0 (i + 1) t → fr A3 B0 s t → gc_T P d 0 0 82 4 [.ref 28, .int (nI v'), .int (nI (k + 1)), l3] [] t Q) : gc_T P d 0 0 82 4 [.ref 28, .int (nI v), .int (nI k), l3] [] s Q := by
  have hCl := h.2.2.2.2.1
  have hok := hCl.2.2.2.1
  have hT := h.1.2.2.2
  refine b_X6_bargainsNamed_4 hP hm (pk_lt 400 k (fun z => by omega) (fun _ => ⟨by omega, sp_kindAhead hP hm h.1 ⟨fun z => absurd ((kc_1 _).mpr hk1) z, fun _ => ⟨by omega, j_take hP hm kk_name hk1 h (fun t _ t1 t2 t3 => ⟨fun _ => ?_, fun z => absurd z (by decide)⟩) (fun t t1 => by omega)⟩⟩⟩))
  rw [show gc_lw t = L from t1.2.2.2.2.1.2.1, show gc_ln t = lN (wnum 32 (wdi b n i)) from t3.trans (nmC_at h.1 hT (Or.inl hk1))]
  refine ⟨cl_io hCl.1, by omega, sp_roleOf hP hm hCl.1 t1.2.2.2.2.2.1 (wdi_ok hlt (Or.inl hk1)) ?_⟩
  have f65 : bnF nl (wdi b n i) bs v = .inl 4 → ∀ l, gc_T P d 0 0 82 65 [.ref 28, .int (nI v), .int (nI k), .int l] [] t Q := fun e l => b_X6_bargainsNamed_65 hP hm ⟨by omega, j_object hP hm (x := 4) (by decide) t1 fun u u1 => hbad _ e u u1⟩
  have f95 : bnF nl (wdi b n i) bs v = .inl 8 → ∀ l, gc_T P d 0 0 82 95 [.ref 28, .int (nI v), .int (nI k), .int l] [] t Q := fun e l => b_X6_bargainsNamed_95 hP hm ⟨by omega, j_object hP hm (x := 8) (by decide) t1 fun u u1 => hbad _ e u u1⟩
  cases hf : nl.find? (fun e => e.1 == wdi b n i) with
  | none => exact ⟨fun _ => f65 (bnF_n hf) _, fun z => absurd (by decide) z⟩
  | some e =>
    have he := List.mem_of_find?_eq_some hf
    obtain ⟨k0, k1, k2, k3, k4⟩ := hnl e he
    have hnk := (nli_ok hnl hok e he).2.1
    have c2 := hok.1.2.2.1
    rw [show rl_v (some e) = nI (8 * e.2.1 + e.2.2) from rfl]
    by_cases z2 : e.2.1 = 2
    · have hk3 := k3 z2
      rw [z2]
      show (nI (8 * 2 + e.2.2) - 16 < 0 → _) ∧ _
      rw [st_lit 16, pk_sub (by omega), show 8 * 2 + e.2.2 - 16 = e.2.2 by omega, show gc_F t 28 10 = nI bs from (fr_F t2 rfl).trans h10]
      refine ⟨fun y => absurd y (nI_nlt (b := 0) (by omega) (by omega)), fun _ => ⟨fun _ => ⟨by omega, sp_hasBit hP hm (by omega) (by omega) ?_⟩, fun y => absurd (nI_lt (b := 8) (by omega) (by decide)) y⟩⟩
      by_cases zb : bs / 2 ^ e.2.2 % 2 = 1
      · rw [decide_eq_true zb]
        refine ⟨fun y => absurd y (by decide), fun _ => ⟨by omega, sp_hasBit hP hm (by omega) (by omega) ?_⟩⟩
        by_cases zv : v / 2 ^ e.2.2 % 2 = 1
        · rw [decide_eq_true zv]
          exact ⟨fun y => absurd y (by decide), fun _ => f95 (bnF_8 hf z2 (fun y => y.2 zv)) _⟩
        · rw [decide_eq_false zv]
          refine ⟨fun _ => ?_, fun y => absurd rfl y⟩
          rw [wb_1 v hv e.2.2 (by omega), nI_1, show v / 2 ^ e.2.2 % 2 = 0 by omega, show v + (1 - 0) * 2 ^ e.2.2 = v + 2 ^ e.2.2 by omega]
          exact hgo _ (bnF_y hf z2 zb zv) t _ t1 t2
      · rw [decide_eq_false zb]
        exact ⟨fun _ => f95 (bnF_8 hf z2 (fun y => zb y.1)) _, fun y => absurd rfl y⟩
    · rcases (by omega : e.2.1 ≤ 1 ∨ e.2.1 = 3) with z | z
      · exact ⟨fun _ => f65 (bnF_o hf z2) _, fun y => absurd (neg16 _ (by omega)) y⟩
      · rw [z]
        show (nI (8 * 3 + e.2.2) - 16 < 0 → _) ∧ _
        rw [st_lit 16, pk_sub (by omega), show 8 * 3 + e.2.2 - 16 = 8 + e.2.2 by omega]
        exact ⟨fun y => absurd y (nI_nlt (b := 0) (by omega) (by omega)), fun _ => ⟨fun y => absurd y (nI_nlt (b := 8) (by omega) (by omega)), fun _ => f65 (bnF_o hf z2) _⟩⟩
theorem kn_one (hP : gc_Cl P) (hm : gc_Mo P) (hd : 4 ≤ d) (hlt : ∀ j, b j < 256) (hnd : ndN nl) (hnl : nli W nl) (hbs : bs < 8) (hv : v < 8) (hk1 : rk b n i = 1) (hi : i < 400) {l1 l2 l4 l5 l6 : Int32} {l8 : Value} (h : kj b n T lv W nl o s0 i s)
    (hbad : ∀ x, bnF nl (wdi b n i) bs v = .inl x → ∀ t, kF' s0 x (tk_st b n i) t → Q none t)
    (hgo : ∀ v', bnF nl (wdi b n i) bs v = .inr v' → ∀ t l8, kj b n T lv W nl o s0 (i + 1) t → fr Am12 B0 s t → gc_T P d 0 0 265 15 [.ref 67, .int l1, .int l2, .int (nI bs), .int l4, .int l5, .int l6, .int (nI v'), l8] [] t Q) : gc_T P d 0 0 265 15 [.ref 67, .int l1, .int l2, .int (nI bs), .int l4, .int l5, .int l6, .int (nI v), l8] [] s Q := by
  have h400 := kj_i h
  have hT := h.1.2.2.2
  obtain ⟨⟨hlv, h19, hok⟩, _⟩ := h.2.2.2.1
  obtain ⟨_, hnm, h79, _⟩ := h.2.2.2
  refine b_X11_splits_15 hP hm ⟨by omega, k_is hP hm h (fun _ => ⟨fun z => absurd z (by decide), fun _ => ?_⟩) (fun z => absurd hk1 z)⟩
  rw [h.1.2.2.1]
  refine ⟨fun _ => b_X11_splits_38 hP hm ?_, fun z => absurd ((nI_eq (b := 400) (by omega) (by decide)).mp z) (by omega)⟩
  have hk8 : ∀ e, e ∈ nl → e.2.1 < 2 ^ 31 := fun e he => by
    have := (hnl e he).1
    omega
  rw [h.2.2.1.1, h.1.2.2.1, h19, nI_clamp (by omega), h79]
  refine ⟨fun _ => ⟨vp_in_nI hlv (by decide), by omega, sp_mfind hP hm hnm hk8 (wdi_ok hlt (Or.inl hk1)) (kd := 2) (by omega) (by decide) (nmR_at h.1 hT (Or.inl hk1)) ?_⟩, fun z => absurd (by decide) z⟩
  rw [fd_K hnd]
  have f110 : ∀ x y t l, kF' s0 x y t → Q none t → gc_T P d 0 0 265 110 [.ref 67, .int l1, .int l2, .int (nI bs), .int l4, .int l5, .int l6, .int (nI v), .int l] [] t Q := fun x y t l t1 t2 => b_X11_splits_110 hP hm ⟨fun z => absurd z (kF_n t1).2.1, fun _ => t2⟩
  have f4 : bnF nl (wdi b n i) bs v = .inl 4 → gc_T P (d - 1) 0 0 185 0 [.ref 67, .int 4] [] s (fun r6 s7 => gc_rv r6 (gc_T P d 0 0 265 110 [.ref 67, .int l1, .int l2, .int (nI bs), .int l4, .int l5, .int l6, .int (nI v), .int (-1)] [] s7 Q)) := fun e => k_fail hP hm (x := 4) (by decide) h fun t t1 => f110 _ _ t _ t1 (hbad _ e t t1)
  have f104 : bnF nl (wdi b n i) bs v = .inl 8 → ∀ l, gc_T P d 0 0 265 104 [.ref 67, .int l1, .int l2, .int (nI bs), .int l4, .int l5, .int l6, .int (nI v), .int l] [] s Q := fun e l => b_X11_splits_104 hP hm ⟨by omega, k_fail hP hm (x := 8) (by decide) h fun t t1 => f110 _ _ t _ t1 (hbad _ e t t1)⟩
  cases hf : nl.find? (fun e => e.1 == wdi b n i) with
  | none =>
    rw [fdK_n 2 hf]
    exact ⟨fun y => absurd rfl y, fun _ => ⟨by omega, f4 (bnF_n hf)⟩⟩
  | some e =>
    have he := List.mem_of_find?_eq_some hf
    obtain ⟨k0, k1, k2, k3, k4⟩ := hnl e he
    have c2 := hok.1.2.2.1
    by_cases z2 : e.2.1 = 2
    · have hk3 := k3 z2
      rw [fdK_y hf z2]
      refine ⟨fun _ => ⟨fun z => f104 (bnF_8 hf z2 (fun y => (st_bitI (by omega) (by omega)).mp z y.1)) _, fun z => ?_⟩, fun y => absurd y (nI_nm1 (by omega))⟩
      have zb : bs / 2 ^ e.2.2 % 2 = 1 := Decidable.byContradiction fun y => z ((st_bitI (by omega) (by omega)).mpr y)
      refine ⟨fun zz => b_X11_splits_110 hP hm ?_, fun zz => f104 (bnF_8 hf z2 (fun y => y.2 ((st_bit1 (by omega) (by omega)).mp zz))) _⟩
      have zv : v / 2 ^ e.2.2 % 2 ≠ 1 := fun y => zz ((st_bit1 (by omega) (by omega)).mpr y)
      rw [h.2.2.1.1]
      refine ⟨fun _ => ⟨by omega, k_go hP hm (by omega) h (by rw [hk1]; decide) (fun t _ t1 t2 => ?_) (fun t ti => by omega)⟩, fun z => absurd (by decide) z⟩
      show gc_T P d 0 0 265 15 _ _ t Q
      rw [wb_1 v hv e.2.2 (by omega), show v / 2 ^ e.2.2 % 2 = 0 by omega, show v + (1 - 0) * 2 ^ e.2.2 = v + 2 ^ e.2.2 by omega]
      exact hgo _ (bnF_y hf z2 zb zv) t _ t1 t2
    · rw [fdK_o hf z2]
      exact ⟨fun y => absurd rfl y, fun _ => ⟨by omega, f4 (bnF_o hf z2)⟩⟩
end Bn
section Bl
variable {b : Nat → Nat} {n Tc Tr L lv o bs : Nat} {nl : List (List Nat × Nat × Nat)} {W : ld_W}
theorem jn_loop (hlt : ∀ j, b j < 256) (hnd : ndN nl) (hnl : nli W nl) (hb3 : ld_b W ≤ 3) (hbs : bs < 8) : ∀ f i v, 401 ≤ i + f → v < 8 → sb_in v bs = true → ∃ res : sRes, (∀ e, res = .inr e → i ≤ e.1 ∧ e.2 < 8 ∧ sb_in e.2 bs = true ∧ rk b n e.1 ≠ 1) ∧ (∀ (P : gc_Pr) (d : Nat) (s s0 : gc_St) (Q : gc_TQ) (k : Nat) (l3 : Value), gc_Cl P → gc_Mo P → 3 ≤ d → jc b n Tc L W nl s0 i s → gc_F s 28 10 = nI bs → k ≤ i → jqC b n Tc L W nl s0 s res Q → gc_T P d 0 0 82 4 [.ref 28, .int (nI v), .int (nI k), l3] [] s Q) ∧ (∀ (P : gc_Pr) (d : Nat) (s s0 : gc_St) (Q : gc_TQ) (l1 l2 l4 l5 l6 : Int32) (l8 : Value), gc_Cl P → gc_Mo P → 4 ≤ d → kj b n Tr lv W nl o s0 i s → (∀ e, res = .inl e → ∀ t, kF' s0 e.1 e.2 t → Q none t) → (∀ e, res = .inr e → ∀ t l8, kj b n Tr lv W nl o s0 e.1 t → fr Am12 B0 s t → gc_T P d 0 0 265 15 [.ref 67, .int l1, .int l2, .int (nI bs), .int l4, .int l5, .int l6, .int (nI e.2), l8] [] t Q) → gc_T P d 0 0 265 15 [.ref 67, .int l1, .int l2, .int (nI bs), .int l4, .int l5, .int l6, .int (nI v), l8] [] s Q) := by
  intro f
  induction f with
  | zero =>
    intro i v hf _ _
    refine ⟨.inl (1, 0), fun e he => absurd he (by simp), fun P d s s0 Q k l3 hP hm hd h => ?_, fun P d s s0 Q l1 l2 l4 l5 l6 l8 hP hm hd h => ?_⟩
    · have := jc_i h
      omega
    · have := kj_i h
      omega
  | succ f ih =>
    intro i v hf hv hsb
    by_cases hk : rk b n i = 1
    · by_cases hi : i < 400
      · cases hq : bnF nl (wdi b n i) bs v with
        | inl x =>
          refine ⟨.inl (x, tk_st b n i), fun e he => absurd he (by simp), fun P d s s0 Q k l3 hP hm hd h h10 hki hQ => ?_, fun P d s s0 Q l1 l2 l4 l5 l6 l8 hP hm hd h hQ _ => ?_⟩
          · refine jn_one hP hm hd hlt hnl hbs hv hk hi hki h h10 (fun y hy t t1 => ?_) (fun v' hv' => absurd (hq.symm.trans hv') (by simp))
            have e : x = y := by simpa using hq.symm.trans hy
            rw [← e] at t1
            exact hQ t t1
          · refine kn_one hP hm hd hlt hnd hnl hbs hv hk hi h (fun y hy t t1 => ?_) (fun v' hv' => absurd (hq.symm.trans hv') (by simp))
            have e : x = y := by simpa using hq.symm.trans hy
            rw [← e] at t1
            exact hQ _ rfl t t1
        | inr v' =>
          have hv' : v' < 8 ∧ sb_in v' bs = true := by
            cases hfd : nl.find? (fun e => e.1 == wdi b n i) with
            | none => exact absurd ((bnF_n hfd).symm.trans hq) (by simp)
            | some e =>
              have k3 := (hnl e (List.mem_of_find?_eq_some hfd)).2.2.2.1
              by_cases z2 : e.2.1 = 2
              · by_cases zz : bs / 2 ^ e.2.2 % 2 = 1 ∧ v / 2 ^ e.2.2 % 2 ≠ 1
                · have e1 : v + 2 ^ e.2.2 = v' := by simpa using (bnF_y hfd z2 zz.1 zz.2).symm.trans hq
                  have := sb_set (c := bs) (v := v) (k := e.2.2) hbs hv (by have := k3 z2; omega) hsb zz.1 zz.2
                  rw [e1] at this
                  exact ⟨this.2, this.1⟩
                · exact absurd ((bnF_8 hfd z2 zz).symm.trans hq) (by simp)
              · exact absurd ((bnF_o hfd z2).symm.trans hq) (by simp)
          obtain ⟨res, p1, p2, p3⟩ := ih (i + 1) v' (by omega) hv'.1 hv'.2
          refine ⟨res, fun e he => ⟨by have := (p1 e he).1; omega, (p1 e he).2⟩, fun P d s s0 Q k l3 hP hm hd h h10 hki hQ => ?_, fun P d s s0 Q l1 l2 l4 l5 l6 l8 hP hm hd h hQ1 hQ2 => ?_⟩
          · refine jn_one hP hm hd hlt hnl hbs hv hk hi hki h h10 (fun y hy => absurd (hq.symm.trans hy) (by simp)) (fun w hw t l3 t1 t2 => ?_)
            have e : v' = w := by simpa using hq.symm.trans hw
            rw [← e]
            refine p2 P d t s0 Q (k + 1) l3 hP hm hd t1 ((fr_F t2 rfl).trans h10) (by omega) ?_
            cases res with
            | inl e => exact hQ
            | inr e => exact fun w w1 w2 => hQ w w1 (fr_trans t2 w2)
          · refine kn_one hP hm hd hlt hnd hnl hbs hv hk hi h (fun y hy => absurd (hq.symm.trans hy) (by simp)) (fun w hw t l8 t1 t2 => ?_)
            have e : v' = w := by simpa using hq.symm.trans hw
            rw [← e]
            exact p3 P d t s0 Q l1 l2 l4 l5 l6 l8 hP hm hd t1 hQ1 (fun e he u l8 u1 u2 => hQ2 e he u l8 u1 (fr_trans t2 u2))
      · refine ⟨.inl (2, tk_st b n i), fun e he => absurd he (by simp), fun P d s s0 Q k l3 hP hm hd h h10 hki hQ => ?_, fun P d s s0 Q l1 l2 l4 l5 l6 l8 hP hm hd h hQ _ => ?_⟩
        · have h400 := jc_i h
          exact b_X6_bargainsNamed_4 hP hm (pk_lt 400 k (fun z => by omega) (fun _ => ⟨by omega, sp_kindAhead hP hm h.1 ⟨fun z => absurd ((kc_1 _).mpr hk) z, fun _ => ⟨by omega, j_take hP hm kk_name hk h (fun t t0 => absurd t0 hi) (fun t _ t1 => ⟨fun z => absurd rfl z, fun _ => hQ t t1⟩)⟩⟩⟩))
        · have h400 := kj_i h
          refine b_X11_splits_15 hP hm ⟨by omega, k_is hP hm h (fun _ => ⟨fun z => absurd z (by decide), fun _ => ?_⟩) (fun z => absurd hk z)⟩
          rw [h.1.2.2.1, show i = 400 by omega]
          refine ⟨fun z => absurd rfl z, fun _ => ⟨by omega, k_fail hP hm (x := 2) (by decide) h fun t t1 => b_X11_splits_38 hP hm ⟨fun z => absurd z (kF_n t1).2.1, fun _ => hQ _ rfl t ?_⟩⟩⟩
          exact t1
    · refine ⟨.inr (i, v), fun e he => ?_, fun P d s s0 Q k l3 hP hm hd h h10 hki hQ => ?_, fun P d s s0 Q l1 l2 l4 l5 l6 l8 hP hm hd h _ hQ => ?_⟩
      · have e' : (i, v) = e := by simpa using he
        rw [← e']
        exact ⟨Nat.le_refl _, hv, hsb, hk⟩
      · have h400 := jc_i h
        exact b_X6_bargainsNamed_4 hP hm (pk_lt 400 k (fun z => by omega) (fun _ => ⟨by omega, sp_kindAhead hP hm h.1 ⟨fun _ => hQ s h (fr_refl s), fun z => absurd ((kc_1 _).mp z) hk⟩⟩))
      · exact hQ _ rfl s l8 h (fr_refl s)
end Bl
