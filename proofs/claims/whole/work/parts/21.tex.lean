theorem gc_mts_len : gc_mts.length = 298 := by decide +kernel
theorem gc_tLs_len : gc_tLs.length = 298 := by decide +kernel
theorem gc_tCs_len : gc_tCs.length = 298 := by decide +kernel
theorem gc_tL_all (y : Nat) : gc_tL y = gc_mL y := by
  rcases Nat.lt_or_ge y 298 with h | h
  · exact gc_tL_ok y h
  · unfold gc_tL gc_mL
    rw [List.getD_eq_getElem?_getD, List.getElem?_eq_none (by rw [gc_tLs_len]; exact h), List.getD_eq_getElem?_getD, List.getElem?_eq_none (by rw [gc_mts_len]; exact h)]
    rfl
theorem gc_tCs_ok : ∀ y, y < 298 → gc_tCs.getD y 99 = gc_mC y := by decide +kernel
theorem gc_tC_all (y : Nat) : gc_tC y = gc_mC y := by
  rcases Nat.lt_or_ge y 298 with h | h
  · exact gc_tCs_ok y h
  · unfold gc_tC gc_mC
    rw [List.getD_eq_getElem?_getD, List.getElem?_eq_none (by rw [gc_tCs_len]; exact h), List.getD_eq_getElem?_getD, List.getElem?_eq_none (by rw [gc_mts_len]; exact h)]
    rfl
/-- what must hold at the end may be less -/
def gc_Mo (P : gc_Pr) : Prop := ∀ (d kc ks y pc : Nat) (lv st : List Value) (S : gc_H) (Q Q' : gc_Q), (∀ r S, Q r S → Q' r S) → P d kc ks y pc lv st S Q → P d kc ks y pc lv st S Q'
theorem gc_tres_of {rk : Nat} {r : Option Value} {rest : List Value} {k : List Value → Prop} (h : gc_tres rk r rest k) : k (r.toList ++ rest) := by
  unfold gc_tres at h
  split at h
  · unfold gc_rv at h
    split at h
    · exact h
    · exact h.elim
  · unfold gc_ri at h
    split at h
    · exact h
    · exact h.elim
  · unfold gc_rL at h
    split at h
    · exact h
    · exact h.elim
  · unfold gc_rA at h
    split at h
    · exact h
    · exact h.elim
section GcT
variable {P : gc_Pr} {d y kc ks : Nat} {lv st : List Value} {s : gc_St} {Q : gc_TQ} {K : Nat → Nat → List Value → List Value → gc_St → Prop} {K' : Nat → Nat → List Value → List Value → gc_H → Prop}
theorem gc_tcall_s (hm : gc_Mo P) {nA y' : Nat} {K : Nat → Nat → List Value → gc_St → Prop} {K' : Nat → Nat → List Value → gc_H → Prop} (hK : ∀ kc ks st s, K kc ks st s → K' kc ks st (gc_bT s)) (h : gc_tcall P d y' nA kc ks st s K) : gc_call P d y' nA (gc_mL y') kc ks st (gc_bT s) K' := by
  unfold gc_tcall at h
  split at h
  · rename_i h1 h2 h3
    rw [gc_tL_all] at h3
    split at h
    · obtain ⟨hd, h⟩ := h
      refine ⟨hd, gc_ble_t h1, gc_ble_t h2, gc_ble_t h3, 0, 0, Nat.zero_le _, Nat.zero_le _, ?_⟩
      rw [gc_tL_all] at h
      refine hm _ _ _ _ _ _ _ _ _ _ ?_ h
      rintro r S' ⟨s', rfl, hq⟩
      exact hK _ _ _ _ (gc_tres_of hq)
    · obtain ⟨hd, kc', ks', a1, a2, h⟩ := h
      refine ⟨hd, gc_ble_t h1, gc_ble_t h2, gc_ble_t h3, kc', ks', a1, a2, ?_⟩
      rw [gc_tL_all] at h
      refine hm _ _ _ _ _ _ _ _ _ _ ?_ h
      rintro r S' ⟨s', rfl, hq⟩
      exact hK _ _ _ _ (gc_tres_of hq)
  · exact h.elim
theorem gc_bt_of {b : Bool} {A : Prop} (h : gc_bt b A) : b = true ∧ A := by
  unfold gc_bt at h
  split at h
  · exact ⟨rfl, h⟩
  · exact h.elim
theorem gc_q2_of {n : Nat} {A : Prop} (h : gc_q2 n A) : n = 2 ∧ A := by
  unfold gc_q2 at h
  split at h
  · exact ⟨rfl, h⟩
  · exact h.elim
theorem gc_beq_t {a b : Nat} (h : Nat.beq a b = true) : a = b := Nat.eq_of_beq_eq_true h
theorem gc_fld {q ci k : Nat} {v : Value} (hk : gc_ft ci k ≠ 9) (hv : gc_fv s q ci k = v) : ((List.range (gc_fts.getD ci []).length).map (gc_fv s q ci))[k]? = some v := by
  rw [List.getElem?_map, List.getElem?_range (gc_ft_lt hk)]
  show some (gc_fv s q ci k) = some v
  rw [hv]
/-- one instruction -/
theorem gc_texs (hm : gc_Mo P) (hK : ∀ kc ks lv st s, K kc ks lv st s → K' kc ks lv st (gc_bT s)) (el : gc_El) (h : gc_tex P d y el kc ks lv st s Q K) : gc_ex P gc_mL gc_mC gc_dfl d y el kc ks lv st (gc_bT s) (gc_lift Q) K' := by
  obtain ⟨pc, nx, ins, r1, r2, cn⟩ := el
  cases ins with
  | aload_n n => exact gc_lA_mono (k := fun v => K kc ks lv (v :: st) s) (fun x => hK _ _ _ _ _) h
  | aload n => exact gc_lA_mono (k := fun v => K kc ks lv (v :: st) s) (fun x => hK _ _ _ _ _) h
  | iload_n n => exact gc_lI_mono (fun x => hK _ _ _ _ _) h
  | iload n => exact gc_lI_mono (fun x => hK _ _ _ _ _) h
  | iinc n k => exact gc_lI_mono (fun x => hK _ _ _ _ _) h
  | lload_n n => exact gc_lL_mono (fun x => hK _ _ _ _ _) h
  | lload n => exact gc_lL_mono (fun x => hK _ _ _ _ _) h
  | istore_n n => exact gc_1i_mono (fun x r => hK _ _ _ _ _) h
  | istore n => exact gc_1i_mono (fun x r => hK _ _ _ _ _) h
  | lstore_n n => exact gc_1l_mono (fun x r => hK _ _ _ _ _) h
  | lstore n => exact gc_1l_mono (fun x r => hK _ _ _ _ _) h
  | astore_n n => exact gc_1r_mono (fun x r => hK _ _ _ _ _) h
  | astore n => exact gc_1r_mono (fun x r => hK _ _ _ _ _) h
  | iconst k => exact hK _ _ _ _ _ h
  | bipush k => exact hK _ _ _ _ _ h
  | sipush k => exact hK _ _ _ _ _ h
  | ldc k => exact hK _ _ _ _ _ h
  | ldc_w k => exact hK _ _ _ _ _ h
  | lconst k => exact hK _ _ _ _ _ h
  | ldc2_w k => exact hK _ _ _ _ _ h
  | iadd => exact gc_2i_mono (fun x z r => hK _ _ _ _ _) h
  | isub => exact gc_2i_mono (fun x z r => hK _ _ _ _ _) h
  | imul => exact gc_2i_mono (fun x z r => hK _ _ _ _ _) h
  | iand => exact gc_2i_mono (fun x z r => hK _ _ _ _ _) h
  | ior => exact gc_2i_mono (fun x z r => hK _ _ _ _ _) h
  | ixor => exact gc_2i_mono (fun x z r => hK _ _ _ _ _) h
  | ishl => exact gc_2i_mono (fun x z r => hK _ _ _ _ _) h
  | ishr => exact gc_2i_mono (fun x z r => hK _ _ _ _ _) h
  | iushr => exact gc_2i_mono (fun x z r => hK _ _ _ _ _) h
  | idiv => exact gc_2i_mono (fun x z r hk => ⟨hk.1, hK _ _ _ _ _ hk.2⟩) h
  | irem => exact gc_2i_mono (fun x z r hk => ⟨hk.1, hK _ _ _ _ _ hk.2⟩) h
  | ladd => exact gc_2l_mono (fun x z r => hK _ _ _ _ _) h
  | lmul => exact gc_2l_mono (fun x z r => hK _ _ _ _ _) h
  | lcmp => exact gc_2l_mono (fun x z r => hK _ _ _ _ _) h
  | ineg => exact gc_1i_mono (fun x r => hK _ _ _ _ _) h
  | i2l => exact gc_1i_mono (fun x r => hK _ _ _ _ _) h
  | i2b => exact gc_1i_mono (fun x r => hK _ _ _ _ _) h
  | pop => exact gc_1i_mono (fun x r => hK _ _ _ _ _) h
  | dup => 
    unfold gc_tex at h
    dsimp only at h
    unfold gc_ex at h ⊢
    dsimp only at h ⊢
    split at h
    · exact hK _ _ _ _ _ h
    · exact hK _ _ _ _ _ h
    · exact h.elim
  | dup2 => exact gc_ir_mono (fun a i r => hK _ _ _ _ _) h
  | ifCond cond off => cases cond <;> exact gc_1i_mono (fun x r hk => ⟨hk.1, fun z => hK _ _ _ _ _ (hk.2 z)⟩) h
  | if_icmp cond off => cases cond <;> exact gc_2i_mono (fun x z r hk => ⟨hk.1, fun z => hK _ _ _ _ _ (hk.2 z)⟩) h
  | ifnonnull off => exact gc_1a_mono (fun a r hk => hk) (fun r => hK _ _ _ _ _) h
  | goto off => exact h
  | tableswitch df lo hi offs => exact h
  | lookupswitch df ps => exact h
  | getfield i => 
    obtain ⟨q, r, rfl, h'⟩ := gc_1r_of h
    have hbb := gc_bt_of h'
    clear h'
    obtain ⟨hg, h'⟩ := hbb
    have hg : (gc_gk s q).1 = 100 + r1 := gc_beq_t hg
    obtain ⟨b1, b2⟩ := gc_bT_obj hg
    have key : ∀ v : Value, gc_ft r1 (r2 / 4) ≠ 9 → gc_fv s q r1 (r2 / 4) = v → ((List.range (gc_fts.getD r1 []).length).map (gc_fv s q r1))[r2 / 4]? = some v := fun v z1 z2 => gc_fld z1 z2
    refine ⟨_, b1, b2, ?_⟩
    dsimp only at h'
    split at h'
    · rename_i t1 t2
      rw [t2]
      exact ⟨_, key _ (by rw [t1]; decide) (by unfold gc_fv; simp only [t1]), hK _ _ _ _ _ h'⟩
    · rename_i t1 t2
      rw [t2]
      exact ⟨_, key _ (by rw [t1]; decide) (by unfold gc_fv; simp only [t1]), hK _ _ _ _ _ h'⟩
    · rename_i t1 t2
      rw [t2]
      exact ⟨_, key _ (by rw [t1]; decide) (by unfold gc_fv; simp only [t1]), hK _ _ _ _ _ h'⟩
    · rename_i t1 t2
      rw [t2]
      exact ⟨_, key _ (by rw [t1]; decide) (by unfold gc_fv; simp only [t1]), hK _ _ _ _ _ h'⟩
    · rename_i t1 t2
      rw [t2]
      exact ⟨_, key _ (by rw [t1]; decide) (by unfold gc_fv; simp only [t1]), hK _ _ _ _ _ h'⟩
    · rename_i t1 t2
      rw [t2]
      unfold gc_so at h'
      split at h'
      · rename_i a ha
        exact ⟨a, key _ (by rw [t1]; decide) (by unfold gc_fv; simp only [t1, ha]; rfl), hK _ _ _ _ _ h'⟩
      · exact h'.elim
    · rename_i t1 t2
      rw [t2]
      exact ⟨_, key _ (by rw [t1]; decide) (by unfold gc_fv; simp only [t1]), hK _ _ _ _ _ h'⟩
    · exact h'.elim
  | putfield i => 
    obtain ⟨q, v, r, rfl, h'⟩ := gc_vr_of h
    have hbb := gc_bt_of h'
    clear h'
    obtain ⟨hg, h'⟩ := hbb
    have hg : (gc_gk s q).1 = 100 + r1 := gc_beq_t hg
    obtain ⟨b1, b2⟩ := gc_bT_obj hg
    have hlen : gc_ft r1 (r2 / 4) ≠ 9 → r2 / 4 < ((List.range (gc_fts.getD r1 []).length).map (gc_fv s q r1)).length := fun z => by rw [List.length_map, List.length_range]; exact gc_ft_lt z
    refine ⟨_, b1, b2, ?_⟩
    dsimp only at h'
    split at h'
    · rename_i t1 t2
      rw [t2]
      exact ⟨hlen (by rw [t1]; decide), by show K' kc ks lv r _; rw [gc_up_F hg t1]; exact hK _ _ _ _ _ h'⟩
    · rename_i t1 t2
      rw [t2]
      exact ⟨hlen (by rw [t1]; decide), by show (_ ∨ _) ∧ K' kc ks lv r _; rw [gc_up_F hg t1]; exact ⟨h'.1, hK _ _ _ _ _ h'.2⟩⟩
    · rename_i t1 t2
      rw [t2]
      exact ⟨hlen (by rw [t1]; decide), by show K' kc ks lv r _; rw [gc_up_ln hg t1]; exact hK _ _ _ _ _ h'⟩
    · rename_i t1 t2
      rw [t2]
      exact ⟨hlen (by rw [t1]; decide), by show K' kc ks lv r _; rw [gc_up_lw hg t1]; exact hK _ _ _ _ _ h'⟩
    · rename_i t1 t2
      rw [t2]
      exact ⟨hlen (by rw [t1]; decide), by show K' kc ks lv r _; rw [gc_up_dr hg t1]; exact hK _ _ _ _ _ h'⟩
    · rename_i t1 t2
      rw [t2]
      exact ⟨hlen (by rw [t1]; decide), by show K' kc ks lv r _; rw [gc_up_rl hg t1]; exact hK _ _ _ _ _ h'⟩
    · rename_i t1 t2
      rw [t2]
      exact ⟨hlen (by rw [t1]; decide), by show K' kc ks lv r _; rw [gc_up_be hg t1]; exact hK _ _ _ _ _ h'⟩
    · exact h'.elim
  | iaload => 
    obtain ⟨a, i, r, rfl, h1, h2, h3⟩ := gc_ir_of h
    obtain ⟨b1, b2⟩ := gc_bT_arr (by decide) h1
    exact ⟨_, _, b1, b2, h2, hK _ _ _ _ _ h3⟩
  | baload => 
    obtain ⟨a, i, r, rfl, h'⟩ := gc_ir_of h
    split at h'
    · rename_i hg
      obtain ⟨b1, b2⟩ := gc_bT_arr (by decide) hg
      exact ⟨1, _, _, Or.inl rfl, b1, b2, h'.1, hK _ _ _ _ _ h'.2⟩
    · rename_i hg
      obtain ⟨b1, b2⟩ := gc_bT_arr (by decide) hg
      exact ⟨3, _, _, Or.inr rfl, b1, b2, h'.1, hK _ _ _ _ _ h'.2⟩
    · exact h'.elim
  | laload => 
    obtain ⟨a, i, r, rfl, h'⟩ := gc_ir_of h
    obtain ⟨hg, h'⟩ := gc_q2_of h'
    obtain ⟨b1, b2⟩ := gc_bT_arr (by decide) hg
    exact ⟨_, _, b1, b2, h'.1, hK _ _ _ _ _ h'.2⟩
  | aaload => 
    obtain ⟨a, i, r, rfl, h'⟩ := gc_ir_of h
    split at h'
    · rename_i hg
      obtain ⟨b1, b2⟩ := gc_bT_arr (by decide) hg
      refine ⟨4, _, _, Or.inl rfl, b1, b2, h'.1, ?_⟩
      rcases h'.2 with ⟨b, e1, h3⟩ | ⟨e1, h3⟩
      · exact Or.inl ⟨b, e1, hK _ _ _ _ _ h3⟩
      · exact Or.inr ⟨e1, hK _ _ _ _ _ h3⟩
    · rename_i hg
      obtain ⟨b1, b2⟩ := gc_bT_arr (by decide) hg
      exact ⟨5, _, _, Or.inr rfl, b1, b2, h'.1, Or.inl ⟨_, rfl, hK _ _ _ _ _ h'.2⟩⟩
    · exact h'.elim
  | iastore => 
    obtain ⟨a, i, v, r, rfl, h'⟩ := gc_vir_of h
    split at h'
    · obtain ⟨h1, h2, h3⟩ := h'
      obtain ⟨b1, b2⟩ := gc_bT_arr (by decide) h1
      exact ⟨_, _, b1, b2, h2, by rw [gc_up_I (Or.inl rfl) h1]; exact hK _ _ _ _ _ h3⟩
    · exact h'.elim
  | bastore => 
    obtain ⟨a, i, v, r, rfl, h'⟩ := gc_vir_of h
    split at h'
    · rename_i hg
      obtain ⟨b1, b2⟩ := gc_bT_arr (by decide) hg
      exact Or.inl ⟨_, _, b1, b2, h'.1, by rw [gc_up_I (Or.inr (Or.inl rfl)) hg]; exact hK _ _ _ _ _ h'.2⟩
    · rename_i hg
      obtain ⟨b1, b2⟩ := gc_bT_arr (by decide) hg
      exact Or.inr ⟨_, _, b1, b2, h'.1, by rw [gc_up_I (Or.inr (Or.inr rfl)) hg]; exact hK _ _ _ _ _ h'.2⟩
    · exact h'.elim
  | lastore => 
    obtain ⟨a, i, v, r, rfl, h'⟩ := gc_vir_of h
    split at h'
    · obtain ⟨hg, h'⟩ := gc_q2_of h'
      obtain ⟨b1, b2⟩ := gc_bT_arr (by decide) hg
      exact ⟨_, _, b1, b2, h'.1, by rw [gc_up_J hg]; exact hK _ _ _ _ _ h'.2⟩
    · exact h'.elim
  | aastore => 
    obtain ⟨a, i, v, r, rfl, h'⟩ := gc_vir_of h
    split at h'
    · rename_i hg
      obtain ⟨b1, b2⟩ := gc_bT_arr (by decide) hg
      obtain ⟨c1, c2⟩ := gc_bT_arr (by decide) h'.2.1
      exact Or.inr ⟨_, _, _, _, b1, b2, h'.1, c1, c2, by rw [gc_up_Y hg]; exact hK _ _ _ _ _ h'.2.2⟩
    · exact h'.elim
  | arraylength => 
    obtain ⟨a, r, rfl, h'⟩ := gc_1r_of h
    have hbb := gc_bt_of h'
    clear h'
    obtain ⟨hg, h'⟩ := hbb
    have hg := gc_blt_t hg
    obtain ⟨b1, b2⟩ := gc_bT_arr hg rfl
    exact ⟨_, _, _, hg, b1, b2, hK _ _ _ _ _ h'⟩
  | newarray t => 
    obtain ⟨n, r, rfl, h'⟩ := gc_1i_of h
    dsimp only at h'
    split at h'
    · obtain ⟨h1, h2, h3, h4, h5⟩ := h'
      exact ⟨h1, h2, h3, h4, by rw [gc_nw_I]; exact hK _ _ _ _ _ h5⟩
    · exact h'.elim
  | new i => exact h.elim
  | anewarray i => exact h.elim
  | invokespecial i => exact h.elim
  | invokevirtual i => 
    unfold gc_tex at h
    dsimp only at h
    split at h
    · rename_i b hb
      obtain ⟨hg, h⟩ := gc_bt_of h
      have hg := gc_beq_t hg
      rw [gc_tC_all] at hg
      obtain ⟨b1, b2⟩ := gc_bT_obj hg
      refine ⟨?_, gc_tcall_s hm (fun kc ks st s => hK kc ks lv st s) h⟩
      unfold gc_recv
      rw [hb]
      exact ⟨b1, _, b2⟩
    · exact h.elim
  | invokestatic i => 
    unfold gc_tex at h
    dsimp only at h
    unfold gc_ex
    dsimp only
    split at h
    · exact gc_2i_mono (fun x z r hk => ⟨hk.1, hk.2.1, hK _ _ _ _ _ hk.2.2⟩) h
    · exact gc_2i_mono (fun x z r hk => ⟨hk.1, hk.2.1, hK _ _ _ _ _ hk.2.2⟩) h
    · split at h
      · obtain ⟨g1, g2, g3, g4, g5, g6, g7, g8, g9, g10⟩ := h
        obtain ⟨b1, b2⟩ := gc_bT_arr (by decide) g6
        obtain ⟨c1, c2⟩ := gc_bT_arr (by decide) g7
        exact ⟨g1, g2, g3, g4, g5, _, _, _, _, b1, b2, c1, c2, g8, g9, by rw [gc_up_R g7]; exact hK _ _ _ _ _ g10⟩
      · exact h.elim
    · rename_i hne1 hne2 hne3
      split
      · exact absurd rfl hne1
      · exact absurd rfl hne2
      · exact absurd rfl hne3
      · exact gc_tcall_s hm (fun kc ks st s => hK kc ks lv st s) h
  | ireturn => 
    unfold gc_tex at h
    dsimp only at h
    unfold gc_ex
    dsimp only
    split at h
    · split at h
      · exact ⟨h.1, s, rfl, h.2⟩
      · rename_i hne
        dsimp only
        split
        · exact absurd rfl hne
        · exact ⟨h.1, h.2.1, s, rfl, h.2.2⟩
    · exact h.elim
  | lreturn => 
    unfold gc_tex at h
    dsimp only at h
    unfold gc_ex
    dsimp only
    split at h
    · exact ⟨h.1, s, rfl, h.2⟩
    · exact h.elim
  | areturn => 
    unfold gc_tex at h
    dsimp only at h
    unfold gc_ex
    dsimp only
    split at h
    · exact ⟨h.1, s, rfl, h.2⟩
    · exact h.elim
  | return_ => 
    unfold gc_tex at h
    dsimp only at h
    unfold gc_ex
    dsimp only
    split at h
    · exact ⟨h.1, s, rfl, h.2⟩
    · exact h.elim
  | _ => exact h.elim
end GcT
theorem gc_tblks {P : gc_Pr} {d y : Nat} {Q : gc_TQ} (hm : gc_Mo P) : ∀ (es : List gc_El) (pc kc ks : Nat) (lv st : List Value) (s : gc_St), gc_tblk P d y Q es pc kc ks lv st s → gc_blk P gc_mL gc_mC gc_dfl d y (gc_lift Q) es pc kc ks lv st (gc_bT s)
  | [], _, _, _, _, _, _, h => h
  | el :: es, _, _, _, _, _, _, h => gc_texs hm (fun kc ks lv st s => gc_tblks hm es el.2.1 kc ks lv st s) el h
/-- a block of the typed machine -/
theorem gc_tc {P : gc_Pr} (hP : gc_Cl P) (hm : gc_Mo P) {d kc ks : Nat} (y pc : Nat) {lv st : List Value} {s : gc_St} {Q : gc_TQ} (es : List gc_El) (hy : Nat.blt y 298 = true) (hes : decide (((gc_cd y).dropWhile (fun e => e.1 != pc)).take es.length = es) = true) (hne : es.isEmpty = false) (h : gc_tblk P d y Q es pc kc ks lv st s) : gc_T P d kc ks y pc lv st s Q :=
  hP d kc ks y pc lv st (gc_bT s) (gc_lift Q) es (gc_blt_t hy) (by have h := of_decide_eq_true hes; rw [← h]; exact List.take_prefix _ _) (fun e => by subst e; cases hne) (gc_tblks hm es pc kc ks lv st s h)
