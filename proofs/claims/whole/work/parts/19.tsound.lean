theorem gc_1i_mono {st : List Value} {k k' : Int32 → List Value → Prop} (hk : ∀ x r, k x r → k' x r) (h : gc_1i st k) : gc_1i st k' := by
  obtain ⟨x, r, rfl, h⟩ := gc_1i_of h
  exact hk x r h
theorem gc_2i_mono {st : List Value} {k k' : Int32 → Int32 → List Value → Prop} (hk : ∀ x y r, k x y r → k' x y r) (h : gc_2i st k) : gc_2i st k' := by
  obtain ⟨x, y, r, rfl, h⟩ := gc_2i_of h
  exact hk x y r h
theorem gc_1l_mono {st : List Value} {k k' : Int64 → List Value → Prop} (hk : ∀ x r, k x r → k' x r) (h : gc_1l st k) : gc_1l st k' := by
  obtain ⟨x, r, rfl, h⟩ := gc_1l_of h
  exact hk x r h
theorem gc_2l_mono {st : List Value} {k k' : Int64 → Int64 → List Value → Prop} (hk : ∀ x y r, k x y r → k' x y r) (h : gc_2l st k) : gc_2l st k' := by
  obtain ⟨x, y, r, rfl, h⟩ := gc_2l_of h
  exact hk x y r h
theorem gc_1r_mono {st : List Value} {k k' : Nat → List Value → Prop} (hk : ∀ x r, k x r → k' x r) (h : gc_1r st k) : gc_1r st k' := by
  obtain ⟨x, r, rfl, h⟩ := gc_1r_of h
  exact hk x r h
theorem gc_ir_mono {st : List Value} {k k' : Nat → Int32 → List Value → Prop} (hk : ∀ a i r, k a i r → k' a i r) (h : gc_ir st k) : gc_ir st k' := by
  obtain ⟨a, i, r, rfl, h⟩ := gc_ir_of h
  exact hk a i r h
theorem gc_vir_mono {st : List Value} {k k' : Nat → Int32 → Value → List Value → Prop} (hk : ∀ a i v r, k a i v r → k' a i v r) (h : gc_vir st k) : gc_vir st k' := by
  obtain ⟨a, i, v, r, rfl, h⟩ := gc_vir_of h
  exact hk a i v r h
theorem gc_vr_mono {st : List Value} {k k' : Nat → Value → List Value → Prop} (hk : ∀ a v r, k a v r → k' a v r) (h : gc_vr st k) : gc_vr st k' := by
  obtain ⟨a, v, r, rfl, h⟩ := gc_vr_of h
  exact hk a v r h
theorem gc_1a_mono {st : List Value} {kr kr' : Nat → List Value → Prop} {kn kn' : List Value → Prop} (h1 : ∀ a r, kr a r → kr' a r) (h2 : ∀ r, kn r → kn' r) (h : gc_1a st kr kn) : gc_1a st kr' kn' := by
  rcases gc_1a_of h with ⟨a, r, rfl, h⟩ | ⟨r, rfl, h⟩
  · exact h1 a r h
  · exact h2 r h
theorem gc_lI_mono {lv : List Value} {n : Nat} {k k' : Int32 → Prop} (hk : ∀ x, k x → k' x) (h : gc_lI lv n k) : gc_lI lv n k' := by
  obtain ⟨x, h1, h2⟩ := gc_lI_of h
  unfold gc_lI
  rw [h1]
  exact hk x h2
theorem gc_lL_mono {lv : List Value} {n : Nat} {k k' : Int64 → Prop} (hk : ∀ x, k x → k' x) (h : gc_lL lv n k) : gc_lL lv n k' := by
  obtain ⟨x, h1, h2⟩ := gc_lL_of h
  unfold gc_lL
  rw [h1]
  exact hk x h2
theorem gc_lA_mono {lv : List Value} {n : Nat} {k k' : Value → Prop} (hk : ∀ x, k x → k' x) (h : gc_lA lv n k) : gc_lA lv n k' := by
  unfold gc_lA
  rcases gc_lA_of h with ⟨x, h1, h2⟩ | ⟨h1, h2⟩
  · rw [h1]
    exact hk _ h2
  · rw [h1]
    exact hk _ h2
/-! the tables of the layout -/
theorem gc_kS_len : ∀ q, q < 116 → 100 ≤ (gc_kS.getD q (99, 0)).1 → (gc_kS.getD q (99, 0)).2 = (gc_fts.getD ((gc_kS.getD q (99, 0)).1 - 100) []).length ∧ (gc_kS.getD q (99, 0)).2 ≤ 84 := by decide +kernel
theorem gc_uni1 : ∀ q, q < 116 → 100 ≤ (gc_kS.getD q (99, 0)).1 → ∀ k, k < 84 → gc_ft ((gc_kS.getD q (99, 0)).1 - 100) k = 1 → q = 3 := by decide +kernel
theorem gc_uni3 : ∀ q, q < 116 → 100 ≤ (gc_kS.getD q (99, 0)).1 → ∀ k, k < 84 → gc_ft ((gc_kS.getD q (99, 0)).1 - 100) k = 3 → q = 10 := by decide +kernel
theorem gc_uni4 : ∀ q, q < 116 → 100 ≤ (gc_kS.getD q (99, 0)).1 → ∀ k, k < 84 → gc_ft ((gc_kS.getD q (99, 0)).1 - 100) k = 4 → q = 0 := by decide +kernel
theorem gc_uni5 : ∀ q, q < 116 → 100 ≤ (gc_kS.getD q (99, 0)).1 → ∀ k, k < 84 → gc_ft ((gc_kS.getD q (99, 0)).1 - 100) k = 5 → q = 9 := by decide +kernel
theorem gc_uni6 : ∀ q, q < 116 → 100 ≤ (gc_kS.getD q (99, 0)).1 → ∀ k, k < 84 → gc_ft ((gc_kS.getD q (99, 0)).1 - 100) k = 6 → q = 44 := by decide +kernel
theorem gc_one1 : ∀ ci, ci < 12 → ∀ k, k < 84 → gc_ft ci k = 1 → k = 9 := by decide +kernel
theorem gc_one3 : ∀ ci, ci < 12 → ∀ k, k < 84 → gc_ft ci k = 3 → k = 0 := by decide +kernel
theorem gc_one4 : ∀ ci, ci < 12 → ∀ k, k < 84 → gc_ft ci k = 4 → k = 11 := by decide +kernel
theorem gc_one5 : ∀ ci, ci < 12 → ∀ k, k < 84 → gc_ft ci k = 5 → k = 1 := by decide +kernel
theorem gc_one6 : ∀ ci, ci < 12 → ∀ k, k < 84 → gc_ft ci k = 6 → k = 2 := by decide +kernel
theorem gc_rows1 : ∀ q, q < 116 → (gc_kS.getD q (99, 0)).1 = 4 → q = 25 := by decide +kernel
theorem gc_kS_c : ∀ q, q < 116 → (gc_kS.getD q (99, 0)).1 < 112 := by decide +kernel
theorem gc_ft_lt {ci k : Nat} (h : gc_ft ci k ≠ 9) : k < (gc_fts.getD ci []).length := by
  rcases Nat.lt_or_ge k (gc_fts.getD ci []).length with h1 | h1
  · exact h1
  · exfalso
    apply h
    unfold gc_ft
    rw [List.getD_eq_getElem?_getD, List.getElem?_eq_none h1]
    rfl
theorem gc_ble_t {a b : Nat} (h : Nat.ble a b = true) : a ≤ b := Nat.le_of_ble_eq_true h
theorem gc_ble_f {a b : Nat} (h : Nat.ble a b = false) : b < a := by
  rcases Nat.lt_or_ge b a with h1 | h1
  · exact h1
  · rw [Nat.ble_eq_true_of_le h1] at h; cases h
theorem gc_blt_t {a b : Nat} (h : Nat.blt a b = true) : a < b := Nat.le_of_ble_eq_true h
theorem gc_gk_lo {s : gc_St} {q : Nat} (h : q < 116) : gc_gk s q = gc_kS.getD q (99, 0) := by
  unfold gc_gk
  split
  · rename_i h1
    have := gc_ble_t h1
    omega
  · rfl
theorem gc_gk_obj {s : gc_St} {q ci : Nat} (h : (gc_gk s q).1 = 100 + ci) : q < 116 ∧ (gc_kS.getD q (99, 0)).1 = 100 + ci := by
  unfold gc_gk at h
  split at h
  · split at h
    · simp only at h; omega
    · simp only at h; omega
  · rename_i h1
    exact ⟨gc_ble_f h1, h⟩
theorem gc_bT_lo {s : gc_St} {q : Nat} (h : q < 116) : (gc_bT s).2 q = gc_cell s q (gc_kS.getD q (99, 0)) := by
  show (match Nat.ble 116 q with
    | true => _
    | false => _) = _
  split
  · rename_i h1
    have := gc_ble_t h1
    omega
  · rfl
theorem gc_bT_hi {s : gc_St} {q : Nat} (h : 116 ≤ q) : (gc_bT s).2 q = .inl (0, gc_D s q, .inl (gc_I s q)) := by
  show (match Nat.ble 116 q with
    | true => _
    | false => _) = _
  rw [Nat.ble_eq_true_of_le h]
theorem gc_bT_obj {s : gc_St} {q ci : Nat} (h : (gc_gk s q).1 = 100 + ci) : q < (gc_bT s).1 ∧ (gc_bT s).2 q = .inr (ci, (List.range (gc_fts.getD ci []).length).map (gc_fv s q ci)) := by
  obtain ⟨h1, h2⟩ := gc_gk_obj h
  refine ⟨Nat.lt_of_lt_of_le h1 (Nat.le_add_right _ _), ?_⟩
  rw [gc_bT_lo h1]
  unfold gc_cell
  rw [h2, (gc_kS_len q h1 (by omega)).1, h2, Nat.ble_eq_true_of_le (Nat.le_add_right 100 ci), Nat.add_sub_cancel_left]
theorem gc_bT_arr {s : gc_St} {a c : Nat} (hc : c < 6) (h : (gc_gk s a).1 = c) : a < (gc_bT s).1 ∧ (gc_bT s).2 a = .inl (c, (gc_gk s a).2, gc_ct s a c) := by
  rcases Nat.lt_or_ge a 116 with h1 | h1
  · rw [gc_gk_lo h1] at h
    refine ⟨Nat.lt_of_lt_of_le h1 (Nat.le_add_right _ _), ?_⟩
    rw [gc_bT_lo h1, gc_gk_lo h1]
    unfold gc_cell
    rw [h]
    split
    · rename_i h2
      have := gc_ble_t h2
      omega
    · rfl
  · have hb : Nat.ble 116 a = true := Nat.ble_eq_true_of_le h1
    unfold gc_gk at h ⊢
    rw [hb] at h ⊢
    simp only at h ⊢
    split at h
    · rename_i h2
      simp only at h
      subst h
      refine ⟨gc_blt_t h2, ?_⟩
      rw [gc_bT_hi h1]
      rfl
    · simp only at h
      omega
theorem gc_map_set {n k : Nat} {f g : Nat → Value} {v : Value} (h : ∀ j, j < n → g j = if j = k then v else f j) : ((List.range n).map f).set k v = (List.range n).map g := by
  apply List.ext_getElem?
  intro j
  rw [List.getElem?_set]
  by_cases hj : j < n
  · have hl : k = j → k < ((List.range n).map f).length := fun e => by rw [List.length_map, List.length_range]; omega
    by_cases e : k = j
    · rw [if_pos e, if_pos (hl e)]
      simp [hj, h j hj, e]
    · rw [if_neg e]
      simp [hj, h j hj, Ne.symm e]
  · by_cases e : k = j
    · rw [if_pos e, if_neg (by rw [List.length_map, List.length_range]; omega)]
      simp [hj]
    · rw [if_neg e]
      simp [hj]
/-- an object's field is another: the rest stays -/
theorem gc_up_obj {s s' : gc_St} {q ci k : Nat} {v : Value} (hq : (gc_gk s q).1 = 100 + ci) (hn : gc_n s' = gc_n s) (hD : gc_D s' = gc_D s) (hI : gc_I s' = gc_I s) (hJ : gc_J s' = gc_J s) (hY : gc_Y s' = gc_Y s)
    (hfv : ∀ j, j < 84 → gc_fv s' q ci j = if j = k then v else gc_fv s q ci j) (ho : ∀ q' ci', q' < 116 → q' ≠ q → (gc_kS.getD q' (99, 0)).1 = 100 + ci' → ∀ j, j < 84 → gc_fv s' q' ci' j = gc_fv s q' ci' j) :
    gc_up (gc_bT s) q (.inr (ci, ((List.range (gc_fts.getD ci []).length).map (gc_fv s q ci)).set k v)) = gc_bT s' := by
  obtain ⟨h1, h2⟩ := gc_gk_obj hq
  have hlen := gc_kS_len q h1 (by omega)
  rw [h2, Nat.add_sub_cancel_left] at hlen
  have hc : ∀ q', gc_ct s' q' = gc_ct s q' := by
    intro q'
    funext c
    unfold gc_ct
    rw [hI, hJ, hY]
  apply Prod.ext
  · show 116 + gc_n s = 116 + gc_n s'
    rw [hn]
  · funext x
    show (if x = q then _ else (gc_bT s).2 x) = (gc_bT s').2 x
    by_cases hx : x = q
    · subst hx
      rw [if_pos rfl, (gc_bT_obj (s := s') (ci := ci) (by rw [gc_gk_lo h1]; exact h2)).2]
      rw [gc_map_set (fun j hj => hfv j (by omega))]
    · rw [if_neg hx]
      rcases Nat.lt_or_ge x 116 with hx1 | hx1
      · rw [gc_bT_lo hx1, gc_bT_lo hx1]
        unfold gc_cell
        split
        · rename_i hb
          have hb := gc_ble_t hb
          obtain ⟨ci', hci⟩ : ∃ ci', (gc_kS.getD x (99, 0)).1 = 100 + ci' := ⟨(gc_kS.getD x (99, 0)).1 - 100, by omega⟩
          have hl2 := (gc_kS_len x hx1 hb).2
          rw [hci, Nat.add_sub_cancel_left]
          congr 2
          apply List.map_congr_left
          intro j hj
          exact (ho x ci' hx1 hx hci j (by have := List.mem_range.mp hj; omega)).symm
        · rw [hc]
      · rw [gc_bT_hi hx1, gc_bT_hi hx1, hD, hI]
/-- an array's contents are others: the rest stays -/
theorem gc_up_arr {s s' : gc_St} {a c : Nat} {f : (Nat → Int32) ⊕ (Nat → Int64) ⊕ (Nat → UInt32) ⊕ (Nat → UInt64) ⊕ (Nat → Option Nat)} (hc : c < 6) (ha : (gc_gk s a).1 = c) (hn : gc_n s' = gc_n s) (hD : gc_D s' = gc_D s) (hfv : ∀ q ci j, gc_fv s' q ci j = gc_fv s q ci j)
    (hf : gc_ct s' a c = f) (ho : ∀ q' c', q' ≠ a → (116 ≤ q' ∧ c' = 0 ∨ q' < 116 ∧ (gc_kS.getD q' (99, 0)).1 = c') → gc_ct s' q' c' = gc_ct s q' c') :
    gc_up (gc_bT s) a (.inl (c, (gc_gk s a).2, f)) = gc_bT s' := by
  have hg : gc_gk s' a = gc_gk s a := by
    unfold gc_gk
    rw [hn, hD]
  apply Prod.ext
  · show 116 + gc_n s = 116 + gc_n s'
    rw [hn]
  · funext x
    show (if x = a then _ else (gc_bT s).2 x) = (gc_bT s').2 x
    by_cases hx : x = a
    · subst hx
      rw [if_pos rfl, (gc_bT_arr (s := s') hc (by rw [hg]; exact ha)).2, hf, hg]
    · rw [if_neg hx]
      rcases Nat.lt_or_ge x 116 with hx1 | hx1
      · rw [gc_bT_lo hx1, gc_bT_lo hx1]
        unfold gc_cell
        split
        · congr 2
          apply List.map_congr_left
          intro j hj
          exact (hfv x _ j).symm
        · rw [ho x _ hx (Or.inr ⟨hx1, rfl⟩)]
      · rw [gc_bT_hi hx1, gc_bT_hi hx1, hD]
        have := ho x 0 hx (Or.inl ⟨hx1, rfl⟩)
        have e1 : gc_I s' x = gc_I s x := Sum.inl.inj this
        rw [e1]
