theorem gc_cls12 {q ci : Nat} (h1 : q < 116) (h2 : (gc_kS.getD q (99, 0)).1 = 100 + ci) : ci < 12 := by
  have := gc_kS_c q h1
  omega
theorem gc_up_F {s : gc_St} {q ci k : Nat} {x : Int32} (hq : (gc_gk s q).1 = 100 + ci) (hk : gc_ft ci k = 0) : gc_up (gc_bT s) q (.inr (ci, ((List.range (gc_fts.getD ci []).length).map (gc_fv s q ci)).set k (.int x))) = gc_bT (gc_wF s q k x) := by
  refine gc_up_obj hq rfl rfl rfl rfl rfl (fun j _ => ?_) (fun q' ci' _ hne _ j _ => ?_)
  · unfold gc_fv
    by_cases e : j = k
    · subst e
      rw [if_pos rfl, hk]
      simp [gc_F, gc_wF, va_up]
    · rw [if_neg e]
      have e1 : gc_F (gc_wF s q k x) q j = gc_F s q j := by simp [gc_F, gc_wF, va_up, e]
      rw [e1]
      rfl
  · unfold gc_fv
    have e1 : gc_F (gc_wF s q k x) q' j = gc_F s q' j := by simp [gc_F, gc_wF, va_up, hne]
    rw [e1]
    rfl
theorem gc_up_ln {s : gc_St} {q ci k : Nat} {x : Int64} (hq : (gc_gk s q).1 = 100 + ci) (hk : gc_ft ci k = 1) : gc_up (gc_bT s) q (.inr (ci, ((List.range (gc_fts.getD ci []).length).map (gc_fv s q ci)).set k (.long x))) = gc_bT (gc_wln s x) := by
  obtain ⟨hq1, hq2⟩ := gc_gk_obj hq
  have hci := gc_cls12 hq1 hq2
  have hk84 : k < 84 := by
    have h1 := gc_ft_lt (ci := ci) (k := k) (by rw [hk]; decide)
    have h2 := gc_kS_len q hq1 (by omega)
    rw [hq2, Nat.add_sub_cancel_left] at h2
    omega
  have hq0 := gc_uni1 q hq1 (by omega) k hk84 (by rw [hq2, Nat.add_sub_cancel_left]; exact hk)
  refine gc_up_obj hq rfl rfl rfl rfl rfl (fun j hj => ?_) (fun q' ci' hlt hne hc' j hj => ?_)
  · unfold gc_fv
    by_cases e : j = k
    · subst e
      rw [if_pos rfl, hk]
      rfl
    · rw [if_neg e]
      have hne : gc_ft ci j ≠ 1 := fun z => e ((gc_one1 ci hci j hj z).trans (gc_one1 ci hci k hk84 hk).symm)
      split <;> first | rfl | (exfalso; apply hne; assumption)
  · have hne2 : gc_ft ci' j ≠ 1 := fun z => hne ((gc_uni1 q' hlt (by omega) j hj (by rw [hc', Nat.add_sub_cancel_left]; exact z)).trans hq0.symm)
    unfold gc_fv
    split <;> first | rfl | (exfalso; apply hne2; assumption)
theorem gc_up_lw {s : gc_St} {q ci k : Nat} {x : Nat} (hq : (gc_gk s q).1 = 100 + ci) (hk : gc_ft ci k = 3) : gc_up (gc_bT s) q (.inr (ci, ((List.range (gc_fts.getD ci []).length).map (gc_fv s q ci)).set k (.ref x))) = gc_bT (gc_wlw s x) := by
  obtain ⟨hq1, hq2⟩ := gc_gk_obj hq
  have hci := gc_cls12 hq1 hq2
  have hk84 : k < 84 := by
    have h1 := gc_ft_lt (ci := ci) (k := k) (by rw [hk]; decide)
    have h2 := gc_kS_len q hq1 (by omega)
    rw [hq2, Nat.add_sub_cancel_left] at h2
    omega
  have hq0 := gc_uni3 q hq1 (by omega) k hk84 (by rw [hq2, Nat.add_sub_cancel_left]; exact hk)
  refine gc_up_obj hq rfl rfl rfl rfl rfl (fun j hj => ?_) (fun q' ci' hlt hne hc' j hj => ?_)
  · unfold gc_fv
    by_cases e : j = k
    · subst e
      rw [if_pos rfl, hk]
      rfl
    · rw [if_neg e]
      have hne : gc_ft ci j ≠ 3 := fun z => e ((gc_one3 ci hci j hj z).trans (gc_one3 ci hci k hk84 hk).symm)
      split <;> first | rfl | (exfalso; apply hne; assumption)
  · have hne2 : gc_ft ci' j ≠ 3 := fun z => hne ((gc_uni3 q' hlt (by omega) j hj (by rw [hc', Nat.add_sub_cancel_left]; exact z)).trans hq0.symm)
    unfold gc_fv
    split <;> first | rfl | (exfalso; apply hne2; assumption)
theorem gc_up_dr {s : gc_St} {q ci k : Nat} {x : Nat} (hq : (gc_gk s q).1 = 100 + ci) (hk : gc_ft ci k = 4) : gc_up (gc_bT s) q (.inr (ci, ((List.range (gc_fts.getD ci []).length).map (gc_fv s q ci)).set k (.ref x))) = gc_bT (gc_wdr s x) := by
  obtain ⟨hq1, hq2⟩ := gc_gk_obj hq
  have hci := gc_cls12 hq1 hq2
  have hk84 : k < 84 := by
    have h1 := gc_ft_lt (ci := ci) (k := k) (by rw [hk]; decide)
    have h2 := gc_kS_len q hq1 (by omega)
    rw [hq2, Nat.add_sub_cancel_left] at h2
    omega
  have hq0 := gc_uni4 q hq1 (by omega) k hk84 (by rw [hq2, Nat.add_sub_cancel_left]; exact hk)
  refine gc_up_obj hq rfl rfl rfl rfl rfl (fun j hj => ?_) (fun q' ci' hlt hne hc' j hj => ?_)
  · unfold gc_fv
    by_cases e : j = k
    · subst e
      rw [if_pos rfl, hk]
      rfl
    · rw [if_neg e]
      have hne : gc_ft ci j ≠ 4 := fun z => e ((gc_one4 ci hci j hj z).trans (gc_one4 ci hci k hk84 hk).symm)
      split <;> first | rfl | (exfalso; apply hne; assumption)
  · have hne2 : gc_ft ci' j ≠ 4 := fun z => hne ((gc_uni4 q' hlt (by omega) j hj (by rw [hc', Nat.add_sub_cancel_left]; exact z)).trans hq0.symm)
    unfold gc_fv
    split <;> first | rfl | (exfalso; apply hne2; assumption)
theorem gc_up_rl {s : gc_St} {q ci k : Nat} {x : Nat} (hq : (gc_gk s q).1 = 100 + ci) (hk : gc_ft ci k = 5) : gc_up (gc_bT s) q (.inr (ci, ((List.range (gc_fts.getD ci []).length).map (gc_fv s q ci)).set k (.ref x))) = gc_bT (gc_wrl s (some x)) := by
  obtain ⟨hq1, hq2⟩ := gc_gk_obj hq
  have hci := gc_cls12 hq1 hq2
  have hk84 : k < 84 := by
    have h1 := gc_ft_lt (ci := ci) (k := k) (by rw [hk]; decide)
    have h2 := gc_kS_len q hq1 (by omega)
    rw [hq2, Nat.add_sub_cancel_left] at h2
    omega
  have hq0 := gc_uni5 q hq1 (by omega) k hk84 (by rw [hq2, Nat.add_sub_cancel_left]; exact hk)
  refine gc_up_obj hq rfl rfl rfl rfl rfl (fun j hj => ?_) (fun q' ci' hlt hne hc' j hj => ?_)
  · unfold gc_fv
    by_cases e : j = k
    · subst e
      rw [if_pos rfl, hk]
      rfl
    · rw [if_neg e]
      have hne : gc_ft ci j ≠ 5 := fun z => e ((gc_one5 ci hci j hj z).trans (gc_one5 ci hci k hk84 hk).symm)
      split <;> first | rfl | (exfalso; apply hne; assumption)
  · have hne2 : gc_ft ci' j ≠ 5 := fun z => hne ((gc_uni5 q' hlt (by omega) j hj (by rw [hc', Nat.add_sub_cancel_left]; exact z)).trans hq0.symm)
    unfold gc_fv
    split <;> first | rfl | (exfalso; apply hne2; assumption)
theorem gc_up_be {s : gc_St} {q ci k : Nat} {x : Nat} (hq : (gc_gk s q).1 = 100 + ci) (hk : gc_ft ci k = 6) : gc_up (gc_bT s) q (.inr (ci, ((List.range (gc_fts.getD ci []).length).map (gc_fv s q ci)).set k (.ref x))) = gc_bT (gc_wbe s x) := by
  obtain ⟨hq1, hq2⟩ := gc_gk_obj hq
  have hci := gc_cls12 hq1 hq2
  have hk84 : k < 84 := by
    have h1 := gc_ft_lt (ci := ci) (k := k) (by rw [hk]; decide)
    have h2 := gc_kS_len q hq1 (by omega)
    rw [hq2, Nat.add_sub_cancel_left] at h2
    omega
  have hq0 := gc_uni6 q hq1 (by omega) k hk84 (by rw [hq2, Nat.add_sub_cancel_left]; exact hk)
  refine gc_up_obj hq rfl rfl rfl rfl rfl (fun j hj => ?_) (fun q' ci' hlt hne hc' j hj => ?_)
  · unfold gc_fv
    by_cases e : j = k
    · subst e
      rw [if_pos rfl, hk]
      rfl
    · rw [if_neg e]
      have hne : gc_ft ci j ≠ 6 := fun z => e ((gc_one6 ci hci j hj z).trans (gc_one6 ci hci k hk84 hk).symm)
      split <;> first | rfl | (exfalso; apply hne; assumption)
  · have hne2 : gc_ft ci' j ≠ 6 := fun z => hne ((gc_uni6 q' hlt (by omega) j hj (by rw [hc', Nat.add_sub_cancel_left]; exact z)).trans hq0.symm)
    unfold gc_fv
    split <;> first | rfl | (exfalso; apply hne2; assumption)
theorem gc_up_I {s : gc_St} {a c i : Nat} {x : Int32} (hc : c = 0 ∨ c = 1 ∨ c = 3) (ha : (gc_gk s a).1 = c) : gc_up (gc_bT s) a (.inl (c, (gc_gk s a).2, .inl (upd (gc_I s a) i x))) = gc_bT (gc_wI s a i x) := by
  refine gc_up_arr (by omega) ha rfl rfl (fun q ci j => rfl) ?_ (fun q' c' hne _ => ?_)
  · rcases hc with rfl | rfl | rfl <;> simp [gc_ct, gc_I, gc_wI, va_up]
  · unfold gc_ct
    have e1 : gc_I (gc_wI s a i x) q' = gc_I s q' := by simp [gc_I, gc_wI, va_up, hne]
    rw [e1]
    rfl
theorem gc_up_R {s : gc_St} {a : Nat} {f : Nat → Int32} (ha : (gc_gk s a).1 = 0) : gc_up (gc_bT s) a (.inl (0, (gc_gk s a).2, .inl f)) = gc_bT (gc_wR s a f) := by
  refine gc_up_arr (by omega) ha rfl rfl (fun q ci j => rfl) ?_ (fun q' c' hne _ => ?_)
  · simp [gc_ct, gc_I, gc_wR, va_up]
  · unfold gc_ct
    have e1 : gc_I (gc_wR s a f) q' = gc_I s q' := by simp [gc_I, gc_wR, va_up, hne]
    rw [e1]
    rfl
theorem gc_up_J {s : gc_St} {a i : Nat} {x : Int64} (ha : (gc_gk s a).1 = 2) : gc_up (gc_bT s) a (.inl (2, (gc_gk s a).2, .inr (.inl (vp_updL (gc_J s a) i x)))) = gc_bT (gc_wJ s a i x) := by
  refine gc_up_arr (by omega) ha rfl rfl (fun q ci j => rfl) ?_ (fun q' c' hne _ => ?_)
  · simp [gc_ct, gc_J, gc_wJ, va_up]
  · unfold gc_ct
    have e1 : gc_J (gc_wJ s a i x) q' = gc_J s q' := by simp [gc_J, gc_wJ, va_up, hne]
    rw [e1]
    rfl
theorem gc_up_Y {s : gc_St} {a i b : Nat} (ha : (gc_gk s a).1 = 4) : gc_up (gc_bT s) a (.inl (4, (gc_gk s a).2, .inr (.inr (.inr (.inr (va_up (gc_Y s) i (some b))))))) = gc_bT (gc_wY s i b) := by
  refine gc_up_arr (by omega) ha rfl rfl (fun q ci j => rfl) rfl (fun q' c' hne hq' => ?_)
  have ha25 : a = 25 := by
    rcases Nat.lt_or_ge a 116 with h | h
    · rw [gc_gk_lo h] at ha
      exact gc_rows1 a h ha
    · exfalso
      have hb : Nat.ble 116 a = true := Nat.ble_eq_true_of_le h
      unfold gc_gk at ha
      rw [hb] at ha
      simp only at ha
      split at ha <;> simp only at ha <;> omega
  have h4 : c' ≠ 4 := by
    rintro rfl
    rcases hq' with ⟨-, h⟩ | ⟨h1, h2⟩
    · omega
    · exact hne ((gc_rows1 q' h1 h2).trans ha25.symm)
  unfold gc_ct
  split <;> first | rfl | (exfalso; apply h4; rfl)
theorem gc_nw_I {s : gc_St} {n : Nat} : gc_nw (gc_bT s) (.inl (0, n, gc_zero 0)) = gc_bT (gc_nwI s n) := by
  apply Prod.ext
  · rfl
  · funext x
    show (if x = 116 + gc_n s then _ else (gc_bT s).2 x) = _
    by_cases hx : x = 116 + gc_n s
    · rw [if_pos hx, gc_bT_hi (by omega), hx]
      simp [gc_D, gc_I, gc_nwI, gc_n, va_up, gc_zero]
    · rw [if_neg hx]
      rcases Nat.lt_or_ge x 116 with h | h
      · rw [gc_bT_lo h, gc_bT_lo h]
        have e1 : gc_I (gc_nwI s n) x = gc_I s x := by simp [gc_I, gc_nwI, va_up, hx]
        unfold gc_cell
        split
        · rfl
        · unfold gc_ct
          rw [e1]
          rfl
      · rw [gc_bT_hi h, gc_bT_hi h]
        have e1 : gc_I (gc_nwI s n) x = gc_I s x := by simp [gc_I, gc_nwI, va_up, hx]
        have e2 : gc_D (gc_nwI s n) x = gc_D s x := by simp [gc_D, gc_nwI, va_up, hx]
        rw [e1, e2]
