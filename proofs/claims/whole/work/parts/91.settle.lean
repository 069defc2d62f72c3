/-! The class: TOGETHER. -/
section Tg5
variable {P : gc_Pr} {d kc : Nat} {s : gc_St} {Q : gc_TQ} {W : ld_W} {L v o : Nat} {h : Nat × Nat × Nat}
theorem tq_pf {S : Nat → Bool} {t : gc_St} (hq : tq W L v h s) (hR : cl_rows W v t) (g : pf S s t) : tq W L v h t := by
  obtain ⟨h1, h2, h3, h4, h5, h6⟩ := hq
  have eb := g.2.2.2.2.1.2.2.2.2
  have hlt := h1.2.2.2.1.1.2
  refine ⟨⟨cl_C_pf h1.1 g, hR⟩, h2, ?_, h4, ?_, ?_⟩
  · rw [g.1]
    exact h3
  · rw [eb]
    exact h5
  · rw [eb, pf_gk g hlt]
    exact h6
theorem sp_settleLoop (hP : gc_Cl P) (hm : gc_Mo P) (hd : 7 ≤ d) : ∀ c (s : gc_St) kc, c ≤ ld_c W → tq W L v h s → (∀ c', c ≤ c' → c' ≤ ld_c W → tbl W h.2.1 h.2.2 h.1 c' (gc_I s (gc_be s))) → (∀ c' dd, c ≤ c' → c' < ld_c W → dd < 8 → sb_in dd h.2.2 = true → gc_I s 24 (cl_num h.2.1 (ld_ro W c') dd) = nI v) → kc = kF (fun i => aS W h.2.1 h.2.2 c i && (gc_Y s i).isNone) 0 1536 →
    (∀ t, tq W L v h t → cy kc s t → (∀ k, gc_F t 45 k = gc_F s 45 k) → gc_be t = gc_be s → stA W h t → Q none t) → gc_T P d kc (256 * kc) 65 82 [.ref 44, .ref 49, .int (nI c - 1)] [] s Q := by
  intro c
  induction c with
  | zero =>
    intro s kc hc hq hT hR hkc hQ
    have hk0 : kc = 0 := by
      rw [hkc]
      exact kF_zero _ _ fun i _ _ => rfl
    rw [hk0] at hQ ⊢
    exact sp_settled hP hm (by omega) hq ⟨fun c' h1 => hT c' (Nat.zero_le _) h1, fun c' dd h1 h2 h3 => hR c' dd (Nat.zero_le _) h1 h2 h3⟩ (by decide) hQ
  | succ c ih =>
    intro s kc hc hq hT hR hkc hQ
    obtain ⟨b1, b2, hok⟩ := tq_b hq
    have hc6 := hok.1.2.2.2.1
    have hC := hq.1.1
    have hr := ld_root hok (show c < ld_c W by omega)
    have h5 := hq.2.2.2.2.1
    refine b_X5_settle_82 hP hm ⟨by decide, rfl⟩ ?_
    rw [show (1 : Int32) = nI 1 from rfl, pk_sub (by omega), Nat.add_sub_cancel, hC.2.1, nI_clamp (by omega), cl_ro hC.2.2.1 (by omega), hq.2.2.1.2.1, hq.2.2.1.2.2]
    have hk9 : kc = kF (fun i => pS W h.2.1 (ld_ro W c) h.2.2 i && (gc_Y s i).isNone) 0 1536 + kF (fun i => aS W h.2.1 h.2.2 c i && ((gc_Y s i).isNone && !pS W h.2.1 (ld_ro W c) h.2.2 i)) 0 1536 := by
      rw [hkc]
      refine kF_two _ _ fun i _ _ => ?_
      show (((pS W h.2.1 (ld_ro W c) h.2.2 i || aS W h.2.1 h.2.2 c i) && (gc_Y s i).isNone) = true ↔ _) ∧ _
      cases (gc_Y s i).isNone <;> cases pS W h.2.1 (ld_ro W c) h.2.2 i <;> cases aS W h.2.1 h.2.2 c i <;> simp
    refine ⟨fun y => absurd y (nI_pos (by omega)), fun _ => ⟨cl_io hC.1, vp_in_nI (by omega) (by decide), by omega, kF (fun i => pS W h.2.1 (ld_ro W c) h.2.2 i && (gc_Y s i).isNone) 0 1536, 256 * kF (fun i => pS W h.2.1 (ld_ro W c) h.2.2 i && (gc_Y s i).isNone) 0 1536, by omega, by omega, ?_⟩⟩
    refine sp_prepare hP hm (by omega) hC hq.1.2 hq.2.1 b1 hr.1 b2 rfl fun t hRt hvt hpf => ⟨by omega, ?_⟩
    have hqt := tq_pf hq hRt hpf
    have hcx := cx_pf b1 hr.1 b2 hq.1.2.1 hRt hvt hpf rfl
    have ebe : gc_be t = gc_be s := hpf.2.2.2.2.1.2.2.2.2
    have eI : gc_I t (gc_be t) = gc_I s (gc_be s) := by
      rw [ebe]
      exact hpf.2.2.2.1
    have hTt : tbl W h.2.1 h.2.2 h.1 (c + 1) (gc_I t (gc_be t)) := by
      rw [eI]
      exact hT (c + 1) (Nat.le_refl _) hc
    have hcl := (hRt.2.2.2 h.2.1 (ld_ro W c) h.2.2 b1 hr.1 b2 hvt).2
    have key := sp_fillFrom (Q := fun r11 s12 => gc_rv r11 (gc_T P d (kc - kF (fun i => pS W h.2.1 (ld_ro W c) h.2.2 i && (gc_Y s i).isNone) 0 1536) (256 * kc - 256 * kF (fun i => pS W h.2.1 (ld_ro W c) h.2.2 i && (gc_Y s i).isNone) 0 1536) 65 82 [.ref 44, .ref 49, .int (nI c + (-1))] [] s12 Q)) hP hm (d := d - 1) (by omega) hqt (show c < ld_c W by omega) hvt hTt fun f' f1 f2 => ?_
    · rw [wR_id] at key
      exact key
    · show gc_T P d _ _ 65 82 [.ref 44, .ref 49, .int (nI c + (-1))] [] (gc_wR t (gc_be t) f') Q
      have eY : ∀ i, i < 1536 → (gc_Y t i).isNone = ((gc_Y s i).isNone && !pS W h.2.1 (ld_ro W c) h.2.2 i) := hpf.2.2.2.2.2.2.2.1
      have hk2 : kF (fun i => aS W h.2.1 h.2.2 c i && (gc_Y t i).isNone) 0 1536 = kF (fun i => aS W h.2.1 h.2.2 c i && ((gc_Y s i).isNone && !pS W h.2.1 (ld_ro W c) h.2.2 i)) 0 1536 := kF_congr _ _ fun i _ hi => by
        show (aS W h.2.1 h.2.2 c i && (gc_Y t i).isNone) = _
        rw [eY i (by omega)]
      rw [show nI c + (-1) = nI c - 1 by rw [Int32.sub_eq_add_neg], ← Nat.mul_sub]
      have h5t : 116 ≤ gc_be t := by
        rw [ebe]
        exact h5
      refine ih (gc_wR t (gc_be t) f') _ (by omega) (tq_w hqt f') (fun c' h1 h2 => ?_) (fun c' dd h1 h2 h3 h4 => ?_) ?_ fun u u1 u2 u3 u4 u5 => ?_
      · show tbl W h.2.1 h.2.2 h.1 c' (gc_I (gc_wR t (gc_be t) f') (gc_be t))
        rw [I_wR]
        by_cases e : c' = c
        · rw [e]
          exact f2
        · intro b hb hin st hst
          have hsN := hq.2.2.2.1.1
          have hN := ld_N_le hok
          rw [f1 _ (Or.inr (by unfold ix; omega)), eI]
          exact hT c' (by omega) h2 b hb hin st hst
      · rw [I_wRn t f' (show (24 : Nat) ≠ gc_be t by omega)]
        by_cases e : c' = c
        · rw [e]
          exact hcl _ dd (ld_lo_le hok _ hr.1) (Nat.le_refl _) h3 h4
        · exact hcx.2.2.2.2.2.2.1 _ _ (cl_num_lt b1 (ld_root hok h2).2 h3) hq.1.2.1 (hR c' dd (by omega) h2 h3 h4)
      · show kc - _ = kF (fun i => aS W h.2.1 h.2.2 c i && (gc_Y t i).isNone) 0 1536
        rw [hk2]
        omega
      · refine hQ u u1 ?_ (fun k => (u3 k).trans (congrFun (congrFun hpf.1 45) k)) (u4.trans ebe) u5
        have := cy_trans (cy_trans (cy_cx hcx) (cy_wR f' h5t)) u2
        rw [Nat.add_zero] at this
        rw [show kF (fun i => pS W h.2.1 (ld_ro W c) h.2.2 i && (gc_Y s i).isNone) 0 1536 + (kc - kF (fun i => pS W h.2.1 (ld_ro W c) h.2.2 i && (gc_Y s i).isNone) 0 1536) = kc by omega] at this
        exact this
theorem sp_settle55 (hP : gc_Cl P) (hm : gc_Mo P) (hd : 7 ≤ d) (hq : tq W L v h s) (hkc : kc = kF (fun i => aS W h.2.1 h.2.2 (ld_c W) i && (gc_Y s i).isNone) 0 1536)
    (hQ : ∀ t, tq W L v h t → cy kc s t → (∀ k, gc_F t 45 k = gc_F s 45 k) → gc_be t = gc_be s → stA W h t → Q none t) : gc_T P d kc (256 * kc) 65 55 [.ref 44, .ref 49, gc_u] [] s Q := by
  have hC := hq.1.1
  have h5 := hq.2.2.2.2.1
  refine b_X5_settle_55 hP hm ⟨by decide, rfl⟩ ?_
  rw [hC.2.1, cl_c hC]
  refine ⟨cl_io hC.1, by omega, ?_⟩
  have key := sp_noClaims (f := gc_I s (gc_be s)) (Q := fun r2 s3 => gc_rv r2 (gc_io 2 (gc_lw s3) ∧ (gc_T P d kc (256 * kc) 65 82 [.ref 44, .ref 49, .int ((gc_F s3 (gc_lw s3) 3) - 1)] [] s3 Q))) hP hm (d := d - 1) (by omega) hq fun f' f1 => ?_
  · rw [wR_id] at key
    exact key
  · have hq2 := tq_w hq f'
    refine ⟨?_, ?_⟩
    · rw [hq2.1.1.2.1]
      exact cl_io hC.1
    · rw [hq2.1.1.2.1, cl_c hq2.1.1]
      refine sp_settleLoop hP hm hd (ld_c W) (gc_wR s (gc_be s) f') kc (Nat.le_refl _) hq2 (fun c' h1 h2 => ?_) (fun c' dd h1 h2 => absurd h2 (by omega)) hkc fun u u1 u2 u3 u4 u5 => hQ u u1 ?_ u3 u4 u5
      · show tbl W h.2.1 h.2.2 h.1 c' (gc_I (gc_wR s (gc_be s) f') (gc_be s))
        rw [I_wR, show c' = ld_c W by omega]
        exact f1
      · have := cy_trans (cy_wR f' h5) u2
        rw [Nat.zero_add] at this
        exact this
end Tg5
