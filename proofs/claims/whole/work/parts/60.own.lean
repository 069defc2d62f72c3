/-! The POINT's own kind: one row. -/
theorem dp_lst_z (x : Nat) : dp_lst 0 x = x := by
  unfold dp_lst
  rw [if_pos (Or.inl rfl)]
theorem dp_by_le {W : ld_W} {o p s b : Nat} (h : ld_ok W) (hp : p < ld_p W) (hs : s < ld_N W) (hb : b < 8) {m : mv_T} (hm : m ∈ mv_all W o p s b) : dp_by W o m ≤ 92161 := by
  have hl := mv_ld h hp hs hb hm
  have key : ∀ ls : List (Nat × Nat × Nat), (∀ l, l ∈ ls → dp_D W o l.1 l.2.1 l.2.2 ≤ 92160) → dp_ld (dp_D W o) ls ≤ 92161 := by
    intro ls hh
    match ls, hh with
    | [], _ => exact (by show 1 ≤ 92161; decide)
    | [l], hh => exact dp_one_le (hh l (by simp))
    | l :: k :: r, hh => exact dp_both_le (hh l (by simp)) (hh k (by simp))
  exact key _ (fun l hl' => dp_D_max h (by have := hl.2 l hl'; omega) (hl.2 l hl').2.2.1 (hl.2 l hl').2.2.2.1)
section Own
variable {W : ld_W} {o p s b : Nat}
theorem mv_own_0 (hk : ld_kd W p = 0) : mv_own W p s b = if s = 4 ^ ld_fi W p then [(0, [], -1, -1)] else [] := by
  unfold mv_own
  first | (rw [hk]; done) | (rw [hk]; rfl) | (simp only [hk])
theorem mv_own_1 (hk : ld_kd W p = 1) : mv_own W p s b = if s = 0 then [(1, [], -1, -1)] else [] := by
  unfold mv_own
  first | (rw [hk]; done) | (rw [hk]; rfl) | (simp only [hk])
theorem mv_own_2 (hk : ld_kd W p = 2) : mv_own W p s b = [(2, [], -1, -1)] := by
  unfold mv_own
  first | (rw [hk]; done) | (rw [hk]; rfl) | (simp only [hk])
theorem mv_own_3 (hk : ld_kd W p = 3) : mv_own W p s b = [(3, [(ld_fi W p, s, b)], -1, -1), (4, [(ld_se W p, s, b)], -1, -1)] := by
  unfold mv_own
  first | (rw [hk]; done) | (rw [hk]; rfl) | (simp only [hk])
theorem mv_own_4 (hk : ld_kd W p = 4) : mv_own W p s b = [(5, [(ld_fi W p, s, b), (ld_se W p, s, b)], -1, -1)] := by
  unfold mv_own
  first | (rw [hk]; done) | (rw [hk]; rfl) | (simp only [hk])
theorem mv_own_5 (hk : ld_kd W p = 5) : mv_own W p s b = (mv_ss s).flatMap fun u => (mv_bs b).map fun c => (6, [(ld_fi W p, u, c), (ld_se W p, s - u, b - c)], nI u, nI c) := by
  unfold mv_own
  first | (rw [hk]; done) | (rw [hk]; rfl) | (simp only [hk])
theorem mv_own_6 (hk : ld_kd W p = 6) : mv_own W p s b = if s = 0 then [(7, [(ld_fi W p, 0, 0)], -1, -1)] else [] := by
  unfold mv_own
  first | (rw [hk]; done) | (rw [hk]; rfl) | (simp only [hk])
theorem mv_own_7 (hk : ld_kd W p = 7) : mv_own W p s b = if st_fit s (ld_se W p) = true then [(8, [(ld_fi W p, s + ld_se W p, b)], -1, -1)] else [] := by
  unfold mv_own
  first | (rw [hk]; done) | (rw [hk]; rfl) | (simp only [hk])
theorem ow_of {r : Nat → Nat} (h : ld_ok W) (hp : p < ld_p W) (hb : b < 8) (hr : ∀ st, st < ld_N W → (mv_own W p st b = [] ∧ r st = 0) ∨ (∃ m, mv_own W p st b = [m] ∧ r st = dp_by W o m) ∨ (∃ m m', mv_own W p st b = [m, m'] ∧ r st = dp_lst (dp_by W o m) (dp_by W o m'))) : ow_I W o p b r := by
  have h1 : ∀ st, st < ld_N W → r st ≠ 0 → ∃ m, m ∈ mv_own W p st b ∧ dp_by W o m = r st := by
    intro st hst hne
    rcases hr st hst with ⟨e, z⟩ | ⟨m, e, z⟩ | ⟨m, m', e, z⟩
    · exact absurd z hne
    · exact ⟨m, by rw [e]; simp, z.symm⟩
    · rcases dp_lst_or (dp_by W o m) (dp_by W o m') with y | y
      · exact ⟨m, by rw [e]; simp, by rw [z, y]⟩
      · exact ⟨m', by rw [e]; simp, by rw [z, y]⟩
  refine ⟨h1, fun st hst m hm => ?_, fun st hst => ?_⟩
  · rcases hr st hst with ⟨e, z⟩ | ⟨m1, e, z⟩ | ⟨m1, m2, e, z⟩
    · rw [e] at hm
      simp at hm
    · rw [e] at hm
      simp only [List.mem_singleton] at hm
      subst hm
      rw [z]
      exact dp_bt_refl _
    · rw [e] at hm
      simp only [List.mem_cons, List.not_mem_nil, or_false] at hm
      rw [z]
      rcases hm with e1 | e1
      · rw [e1]
        exact dp_lst_l _ _
      · rw [e1]
        exact dp_lst_r _ _
  · by_cases z : r st = 0
    · omega
    · obtain ⟨m, hm, hby⟩ := h1 st hst z
      have := dp_by_le (o := o) h hp hst hb (mv_all_mem.mpr (Or.inl hm))
      omega
theorem ow_5 {r : Nat → Nat} (h : ld_ok W) (hp : p < ld_p W) (hb : b < 8) (hk : ld_kd W p = 5) (hr : ∀ st, st < ld_N W → r st = 0) : ow_I W o p b (rw_spls W o p b r (b + 1)) := by
  have hN := ld_N_le h
  refine ⟨fun st hst hne => ?_, fun st hst m hm => ?_, fun st hst => ?_⟩
  · obtain ⟨_, _, h3⟩ := rw_spls_p (W := W) (o := o) (p := p) (b := b) (r := r) (b + 1) st hst
    rcases h3 with h3 | ⟨c, u, g1, g2, g3, g4, g5⟩
    · rw [hr st hst] at h3
      exact absurd h3 hne
    · refine ⟨(6, [(ld_fi W p, u, c), (ld_se W p, st - u, b - c)], nI u, nI c), ?_, g5.symm⟩
      rw [mv_own_5 hk]
      simp only [List.mem_flatMap, List.mem_map]
      exact ⟨u, (mv_ss_mem (by omega)).mpr ⟨g4, by omega⟩, c, (mv_bs_mem hb).mpr ⟨g2, by omega⟩, rfl⟩
  · obtain ⟨_, h2, _⟩ := rw_spls_p (W := W) (o := o) (p := p) (b := b) (r := r) (b + 1) st hst
    rw [mv_own_5 hk] at hm
    simp only [List.mem_flatMap, List.mem_map] at hm
    obtain ⟨u, hu, c, hc, rfl⟩ := hm
    have hu' := (mv_ss_mem (by omega)).mp hu
    have hc' := (mv_bs_mem hb).mp hc
    have hle := st_in_le (by omega) hu'.2 hu'.1
    have hcle := (sb_le b hb c hc'.2 hc'.1).1
    exact h2 c u (by omega) hc'.1 (by omega) hu'.1
  · exact rw_spls_le h hp hb hk (fun st hst => by rw [hr st hst]; omega) (b + 1) (by omega) st hst
end Own
section Ow
variable {P : gc_Pr} {d : Nat} {s : gc_St} {Q : gc_TQ} {W : ld_W} {L a o p b : Nat} {r : Nat → Nat}
theorem sp_byOwnKind (hP : gc_Cl P) (hm : gc_Mo P) (hd : 4 ≤ d) (hC : cl_C W L s) (ha : 67 ≤ a) (hg : gc_gk s a = (0, 256)) (ho : o < 8) (hp : p < ld_p W) (hb : b < 8)
    (hv : ∀ q c, ld_lo W p ≤ q → q < p → c < 8 → sb_in c b = true → cl_val W s a o q c) (hr : ∀ st, st < 256 → r st = 0) (h : ∀ r', ow_I W o p b r' → Q none (rs_w s a r')) :
    gc_T P d 0 0 9 0 [.ref 10, .ref a, .int (nI o), .int (nI p), .int (nI b), gc_u, gc_u] [] (rs_w s a r) Q := by
  have hok := hC.2.2.2.1
  have hN := ld_N_le hok
  have hN1 : 0 < ld_N W := Nat.pow_pos (by decide)
  have hp24 := hok.1.2.2.2.2
  have hg4 := hok.1.1
  have hlw : ∀ r, gc_lw (rs_w s a r) = L := fun _ => hC.2.1
  have hgk : ∀ r, gc_gk (rs_w s a r) a = (0, 256) := fun _ => hg
  have hl := fun r => (cl_C_rs ha hC r).2.2.1
  have hkd : ∀ r, gc_I (rs_w s a r) (gc_rS L 13) p = nI (ld_kd W p) := fun r => cl_kd (hl r) hp
  have hfi : ∀ r, gc_I (rs_w s a r) (gc_rS L 14) p = ld_fI W p := fun r => cl_fi (hl r) hp
  have hse : ∀ r, gc_I (rs_w s a r) (gc_rS L 15) p = ld_sI W p := fun r => cl_se (hl r) hp
  have hpt := hok.2.2.2.2.2 p hp
  have hk7 : ld_kd W p ≤ 7 := by
    unfold ld_pt at hpt
    omega
  have hr0 : ∀ st, st < ld_N W → r st = 0 := fun st hst => hr st (by omega)
  have ver : ∀ r q c, gc_I s 24 (cl_num o q c) = gc_F s 10 1 → gc_I (rs_w s a r) 24 (cl_num o q c) = gc_F (rs_w s a r) 10 1 := by
    intro r q c e
    rw [rs_In s _ (by omega)]
    exact e
  have hbb := sb_self b hb
  have e1 : ∀ (q r : Nat → Nat) st, st < ld_N W → rw_part (ld_N W) 0 q r st = dp_lst (r st) (dp_one (q st)) := by
    intro q r st hst
    unfold rw_part
    rw [if_pos ⟨by omega, st_fit0 st (by omega)⟩, Nat.add_zero]
  refine b_X0_byOwnKind_0 hP hm ⟨by rw [hlw]; exact cl_io hC.1, vp_in_nI (by omega) (by omega), vp_in_nI (by omega) (by omega), vp_in_nI (by omega) (by omega), ?_⟩
  rw [hlw, nI_clamp (by omega), hkd, hfi, hse, nI_toInt (by omega), hgk]
  refine ⟨fun z => ?_, fun z => ?_, fun z => ?_, fun z => ?_, fun z => ?_, fun z => ?_, fun z => ?_, fun z => ?_, fun z => ?_⟩
  · have hk : ld_kd W p = 0 := by omega
    have hf : ld_fi W p < ld_g W := by
      unfold ld_pt at hpt
      omega
    have e : ld_fI W p = nI (ld_fi W p) := by
      unfold ld_fI
      rw [if_neg (by omega)]
    have h4 : 4 ^ ld_fi W p < 256 := Nat.lt_of_lt_of_le (Nat.pow_lt_pow_right (by decide) hf) hN
    rw [e, ld_shN (by omega), nI_clamp (by omega)]
    refine ⟨rfl, vp_in_nI h4 (by omega), ?_⟩
    show Q none (gc_wI (rs_w s a r) a (4 ^ ld_fi W p) (nI 1))
    rw [rs_wI]
    refine h _ (ow_of hok hp hb fun st hst => ?_)
    rw [mv_own_0 hk]
    by_cases e2 : st = 4 ^ ld_fi W p
    · rw [if_pos e2]
      refine Or.inr (Or.inl ⟨_, rfl, ?_⟩)
      unfold rs_u
      rw [if_pos e2]
      rfl
    · rw [if_neg e2]
      refine Or.inl ⟨rfl, ?_⟩
      unfold rs_u
      rw [if_neg e2]
      exact hr0 st hst
  · have hk : ld_kd W p = 1 := by omega
    refine ⟨rfl, vp_in_nI (n := 0) (by decide) (by decide), ?_⟩
    show Q none (gc_wI (rs_w s a r) a ((nI 0).toNatClampNeg) (nI 1))
    rw [nI_clamp (by decide), rs_wI]
    refine h _ (ow_of hok hp hb fun st hst => ?_)
    rw [mv_own_1 hk]
    by_cases e2 : st = 0
    · rw [if_pos e2]
      refine Or.inr (Or.inl ⟨_, rfl, ?_⟩)
      unfold rs_u
      rw [if_pos e2]
      rfl
    · rw [if_neg e2]
      refine Or.inl ⟨rfl, ?_⟩
      unfold rs_u
      rw [if_neg e2]
      exact hr0 st hst
  · have hk : ld_kd W p = 2 := by omega
    refine ⟨by omega, sp_fill hP hm (n := 256) (v := 1) hg (by decide) ?_⟩
    refine h _ (ow_of hok hp hb fun st hst => ?_)
    rw [mv_own_2 hk]
    refine Or.inr (Or.inl ⟨_, rfl, ?_⟩)
    show (if st < 256 then 1 else r st) = 1
    rw [if_pos (by omega)]
  · have hk : ld_kd W p = 3 := by omega
    have hpp := ld_part hok hp (by omega)
    have hps := hpp.2.2.1 (by omega)
    have ef : ld_fI W p = nI (ld_fi W p) := by
      unfold ld_fI
      rw [if_neg (by omega)]
    have es : ld_sI W p = nI (ld_se W p) := by
      unfold ld_sI
      rw [if_pos (by omega)]
    obtain ⟨a1, v1, v2, v3, v4, v5⟩ := hv (ld_fi W p) b (by omega) (by omega) hb hbb
    obtain ⟨a2, w1, w2, w3, w4, w5⟩ := hv (ld_se W p) b (by omega) (by omega) hb hbb
    rw [ef, es]
    refine ⟨by omega, sp_rowOf hP hm (by omega) ho (by omega) hb (ver _ _ _ v1) v2 ⟨by omega, ?_⟩⟩
    refine sp_byPart hP hm (by omega) hC ha hg v3 v4 (K := 92160) (by omega) (fun st hst => ⟨v5 st hst, dp_D_max hok (by omega) hst hb⟩) (side := 0) hN1 (fun st hst => by rw [hr0 st hst]; omega) ⟨by omega, ?_⟩
    refine sp_rowOf hP hm (by omega) ho (by omega) hb (ver _ _ _ w1) w2 ⟨by omega, ?_⟩
    refine sp_byPart hP hm (by omega) hC ha hg w3 w4 (K := 92160) (by omega) (fun st hst => ⟨w5 st hst, dp_D_max hok (by omega) hst hb⟩) (side := 0) hN1 (fun st hst => ?_) ?_
    · rw [e1 _ _ st hst]
      exact dp_lst_le (by rw [hr0 st hst]; omega) (dp_one_le (dp_D_max hok (by omega) hst hb))
    · refine h _ (ow_of hok hp hb fun st hst => ?_)
      rw [mv_own_3 hk]
      refine Or.inr (Or.inr ⟨_, _, rfl, ?_⟩)
      rw [e1 _ _ st hst, e1 _ _ st hst, hr0 st hst, dp_lst_z]
      rfl
  · have hk : ld_kd W p = 4 := by omega
    have hpp := ld_part hok hp (by omega)
    have hps := hpp.2.2.1 (by omega)
    have ef : ld_fI W p = nI (ld_fi W p) := by
      unfold ld_fI
      rw [if_neg (by omega)]
    have es : ld_sI W p = nI (ld_se W p) := by
      unfold ld_sI
      rw [if_pos (by omega)]
    obtain ⟨a1, v1, v2, v3, v4, v5⟩ := hv (ld_fi W p) b (by omega) (by omega) hb hbb
    obtain ⟨a2, w1, w2, w3, w4, w5⟩ := hv (ld_se W p) b (by omega) (by omega) hb hbb
    rw [ef, es]
    refine ⟨by omega, sp_rowOf hP hm (by omega) ho (by omega) hb (ver _ _ _ v1) v2 ⟨by omega, ?_⟩⟩
    refine sp_rowOf hP hm (by omega) ho (by omega) hb (ver _ _ _ w1) w2 ⟨by omega, ?_⟩
    refine sp_byBoth hP hm (by omega) hC ha hg v3 v4 w3 w4 (K := 92160) (by omega) (fun st hst => ⟨v5 st hst, dp_D_max hok (by omega) hst hb⟩) (fun st hst => ⟨w5 st hst, dp_D_max hok (by omega) hst hb⟩) (fun st hst => by rw [hr0 st hst]; omega) ?_
    refine h _ (ow_of hok hp hb fun st hst => ?_)
    rw [mv_own_4 hk]
    refine Or.inr (Or.inl ⟨_, rfl, ?_⟩)
    unfold rw_both
    rw [if_pos hst, hr0 st hst, dp_lst_z]
    rfl
  · have hk : ld_kd W p = 5 := by omega
    have hpp := ld_part hok hp (by omega)
    have hps := hpp.2.2.1 (by omega)
    refine ⟨by omega, ?_⟩
    refine sp_bySplits hP hm (by omega) hC ha hg ho hp hb hk (fun c hc hin => ⟨hv _ c (by omega) (by omega) hc hin, hv _ c (by omega) (by omega) hc hin⟩) (fun st hst => by rw [hr0 st hst]; omega) ?_
    exact h _ (ow_5 hok hp hb hk hr0)
  · have hk : ld_kd W p = 6 := by omega
    have hpp := ld_part hok hp (by omega)
    have ef : ld_fI W p = nI (ld_fi W p) := by
      unfold ld_fI
      rw [if_neg (by omega)]
    obtain ⟨a1, v1, v2, v3, v4, v5⟩ := hv (ld_fi W p) 0 (by omega) (by omega) (by omega) (sb_zero b hb)
    rw [ef]
    refine ⟨by omega, sp_rowOf hP hm (b := 0) (by omega) ho (by omega) (by omega) (ver _ _ _ v1) v2 ?_⟩
    have g1 : gc_gk (rs_w s a r) a1 = (0, 256) := v4
    refine ⟨by rw [g1], by rw [g1]; exact vp_in_nI (n := 0) (by decide) (by decide), by omega, ?_⟩
    show gc_T P (d - 1) 0 0 19 0 [.ref a, .int (nI 0), .int (gc_I (rs_w s a r) a1 ((nI 0).toNatClampNeg))] [] (rs_w s a r) _
    rw [nI_clamp (by decide), rs_In s _ v3, v5 0 hN1]
    have hD := dp_D_max (o := o) hok (show ld_fi W p < ld_p W by omega) hN1 (show 0 < 8 by decide)
    refine sp_improve hP hm hg (by omega) (by omega) (by rw [hr 0 (by omega)]; omega) ?_
    refine h _ (ow_of hok hp hb fun st hst => ?_)
    rw [mv_own_6 hk]
    by_cases e2 : st = 0
    · rw [if_pos e2]
      refine Or.inr (Or.inl ⟨_, rfl, ?_⟩)
      unfold rs_u
      rw [if_pos e2, hr 0 (by omega), dp_lst_z]
      rfl
    · rw [if_neg e2]
      refine Or.inl ⟨rfl, ?_⟩
      unfold rs_u
      rw [if_neg e2]
      exact hr0 st hst
  · have hk : ld_kd W p = 7 := by omega
    have hpp := ld_part hok hp (by omega)
    have hsN := hpp.2.2.2.2 hk
    have ef : ld_fI W p = nI (ld_fi W p) := by
      unfold ld_fI
      rw [if_neg (by omega)]
    have es : ld_sI W p = nI (ld_se W p) := by
      unfold ld_sI
      rw [if_pos (by omega)]
    obtain ⟨a1, v1, v2, v3, v4, v5⟩ := hv (ld_fi W p) b (by omega) (by omega) hb hbb
    rw [ef, es]
    refine ⟨by omega, sp_rowOf hP hm (by omega) ho (by omega) hb (ver _ _ _ v1) v2 ⟨by omega, ?_⟩⟩
    refine sp_byPart hP hm (by omega) hC ha hg v3 v4 (K := 92160) (by omega) (fun st hst => ⟨v5 st hst, dp_D_max hok (by omega) hst hb⟩) (side := ld_se W p) hsN (fun st hst => by rw [hr0 st hst]; omega) ?_
    refine h _ (ow_of hok hp hb fun st hst => ?_)
    rw [mv_own_7 hk]
    unfold rw_part
    by_cases e2 : st_fit st (ld_se W p) = true
    · rw [if_pos e2, if_pos ⟨ld_lt hok hst hsN e2, e2⟩, hr0 st hst, dp_lst_z]
      exact Or.inr (Or.inl ⟨_, rfl, rfl⟩)
    · rw [if_neg e2, if_neg (fun y => e2 y.2)]
      exact Or.inl ⟨rfl, hr0 st hst⟩
  · omega
end Ow
