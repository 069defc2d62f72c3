/-! Steps of a TELL, by what comes of them. -/
/-- a word of a kind: none, or the fault -/
def sT (b : Nat → Nat) (n i : Nat) (k : Int32) : Option (Nat × Nat) := if rk b n i = k then (if i < 400 then none else some (2, tk_st b n i)) else some (1, tk_st b n i)
def bgR (b : Nat → Nat) (n i tl most : Nat) : Option (Nat × Nat) := if i = 400 ∨ tl = most then some (2, tk_st b n i) else sT b n (i + 1) 1
section St
variable {b : Nat → Nat} {n i : Nat} {k : Int32}
theorem sT_0 (h : sT b n i k = none) : rk b n i = k ∧ i < 400 := by
  unfold sT at h
  split at h
  · rename_i e
    split at h
    · rename_i e2
      exact ⟨e, e2⟩
    · exact absurd h (by simp)
  · exact absurd h (by simp)
theorem sT_2 (h1 : rk b n i = k) (h2 : i = 400) : sT b n i k = some (2, tk_st b n i) := by
  unfold sT
  rw [if_pos h1, if_neg (by omega)]
theorem sT_1 (h1 : rk b n i ≠ k) : sT b n i k = some (1, tk_st b n i) := by
  unfold sT
  rw [if_neg h1]
theorem sT_ok (h1 : rk b n i = k) (h2 : i < 400) : sT b n i k = none := by
  unfold sT
  rw [if_pos h1, if_pos h2]
theorem sT_st (h : sT b n i k = none) (hk : k ≠ 0) {r : Option (Nat × Nat)} (hr : ∀ w, r = some w → w.2 < tk_st b n i) : ∀ w, r = some w → w.2 < tk_st b n (i + 1) := by
  intro w e
  have := hr w e
  have h1 := tk_st_S (rk_n (b := b) (n := n) (i := i) (by rw [(sT_0 h).1]; exact hk))
  omega
end St
/-- what comes of a TELL -/
abbrev tRes : Type := (Nat × Nat) ⊕ (Nat × ld_W × Option (Nat × Nat) × List (List Nat × Nat × Nat))
/-- how many are told -/
def cnt4 (W : ld_W) : Nat := ld_g W + ld_o W + (ld_b W + ld_c W)
section Ss
variable {P : gc_Pr} {d : Nat} {s s0 S0 : gc_St} {Q : gc_TQ} {b : Nat → Nat} {n T L sd m i o : Nat} {nl nc : List (List Nat × Nat × Nat)} {W W' : ld_W} {r : Option (Nat × Nat)}
theorem zC_any (hr : r ≠ none) (h : zC b n T L m nc s0 i W r o s) (nc' : List (List Nat × Nat × Nat)) : zC b n T L m nc' s0 i W r o s := by
  obtain ⟨c1, c2, h1, h2, h4, h5, h8, ⟨nx, h9, h10, h11, h12⟩, h13⟩ := h
  exact ⟨c1, c2, h1, h2, h4, h5, h8, ⟨nx, h9, h10, h11, fun z => absurd z hr⟩, h13⟩
theorem zR_any (hr : r ≠ none) (h : zR b n T sd m nc s0 i W r o s) (nc' : List (List Nat × Nat × Nat)) : zR b n T sd m nc' s0 i W r o s := by
  obtain ⟨c1, h1, h2, h4, h5, h8, ⟨nx, h9, h10, h11, h12, h14⟩, h13⟩ := h
  exact ⟨c1, h1, h2, h4, h5, h8, ⟨nx, h9, h10, h11, h12, fun z => absurd z hr⟩, h13⟩
theorem z_acceptS (hP : gc_Cl P) (hm : gc_Mo P) (hd : 1 ≤ d) {k c : Int32} (hk : kk c k) (h : zC b n T L m nc s0 i W r o s) (h1 : ∀ t, sT b n i k = none → zC b n T L m nc s0 (i + 1) W r o t → Q (some (.int 1)) t) (h2 : ∀ t x p, sT b n i k = some (x, p) → zFC L s0 x p t → Q (some (.int 0)) t) : gc_T P d 0 0 107 0 [.ref 3, .int c] [] s Q :=
  z_accept hP hm hd hk h (fun t e t1 t2 _ _ => h1 t (sT_ok e t1) t2) (fun t e t1 t2 => h2 t _ _ (sT_2 e t1) t2) (fun t e t2 => h2 t _ _ (sT_1 e) t2)
theorem z_numberS (hP : gc_Cl P) (hm : gc_Mo P) (hd : 2 ≤ d) (hlt : ∀ j, b j < 256) {lo hi : Nat} (hhi : hi < 2 ^ 31) (hlo : lo < 2 ^ 31) (h : zC b n T L m nc s0 i W r o s) (h1 : ∀ t, sT b n i 2 = none → zC b n T L m nc s0 (i + 1) W (nuN b n i lo hi r) o t → (nuN b n i lo hi r = none → gc_F t 3 10 = nI (nui b n i)) → Q (some (.int 1)) t) (h2 : ∀ t x p, sT b n i 2 = some (x, p) → zFC L s0 x p t → Q (some (.int 0)) t) : gc_T P d 0 0 33 0 [.ref 9, .int (nI lo), .int (nI hi), gc_u] [] s Q :=
  z_number hP hm hd hlt hhi hlo h (fun t e t1 t2 t3 => h1 t (sT_ok e t1) t2 t3) (fun t e t1 t2 => h2 t _ _ (sT_2 e t1) t2) (fun t e t2 => h2 t _ _ (sT_1 e) t2)
theorem z_beginS (hP : gc_Cl P) (hm : gc_Mo P) (hd : 2 ≤ d) (hlt : ∀ j, b j < 256) {c k : Int32} (hck : kk c k) (hk : rk b n i = k) {tl most kd : Nat} (hmost : most ≤ 6) (htl : tl ≤ most) (hkd : kd ≤ 3) (hk4 : kd = 0 → most ≤ 4) (hm16 : tl < most → m < 16) (h : zT b n T L m nl S0 i W r s)
    (h1 : ∀ t, bgR b n i tl most = none → zT b n T L (m + 1) (nl ++ [(wdi b n (i + 1), kd, tl)]) S0 (i + 2) W (twN nl b n (i + 1) r) t → Q (some (.int 1)) t)
    (h2 : ∀ t x p, bgR b n i tl most = some (x, p) → zG L S0 x p t → Q (some (.int 0)) t) : gc_T P d 0 0 32 0 [.ref 9, .int (nI tl), .int (nI most), .int (nI (8 * kd))] [] s Q := by
  by_cases hf : i = 400 ∨ tl = most
  · have hb : bgR b n i tl most = some (2, tk_st b n i) := by
      unfold bgR
      rw [if_pos hf]
    obtain ⟨hS, h⟩ := h
    refine b_X3_begin_0 hP hm ⟨by omega, z_take hP hm hck hk h (fun t t1 t2 _ _ => ⟨fun _ => pk_lt tl most (fun z => by omega) (fun z => ⟨by omega, ?_⟩), fun z => absurd z (by decide)⟩) (fun t t1 t2 => ⟨fun z => absurd rfl z, fun _ => h2 t _ _ hb (zG_of hS t2)⟩)⟩
    rw [t2.2.1 (by omega), Nat.add_sub_cancel]
    exact z_blame hP hm (x := 2) (by decide) t2.2.2.1 fun u u1 => ⟨Or.inl rfl, h2 u _ _ hb (zG_of hS u1)⟩
  · have hb : bgR b n i tl most = sT b n (i + 1) 1 := by
      unfold bgR
      rw [if_neg hf]
    refine z_begin hP hm hd hlt hck hk hmost htl hkd hk4 (hm16 (by omega)) h (fun t t1 t2 t3 t4 => h1 t (hb.trans (sT_ok t3 t2)) t4) (fun t x p t1 t2 => ?_)
    rcases t2 with ⟨e, _⟩ | ⟨_, _, e, e2⟩
    · exact absurd e hf
    · refine h2 t x p ?_ t1
      rw [hb]
      rcases e with ⟨e3, e4, e5⟩ | ⟨e3, e5⟩
      · rw [e5, e2]
        exact sT_2 e3 e4
      · rw [e5, e2]
        exact sT_1 e3
/-! the reference -/
theorem y_mustS (hP : gc_Cl P) (hm : gc_Mo P) (hd : 2 ≤ d) {x : Int32} (hx : x ≠ 0) (h : zR b n T sd m nl s0 i W r o s) (h1 : ∀ t, sT b n i x = none → zR b n T sd m nl s0 (i + 1) W r o t → Q none t) (h2 : ∀ t y p, sT b n i x = some (y, p) → zFR sd s0 y p t → Q none t) : gc_T P d 0 0 188 0 [.ref 67, .int x] [] s Q :=
  y_must hP hm hd hx h (fun t e t1 t2 _ => h1 t (sT_ok e t1) t2) (fun t e t1 t2 _ => h2 t _ _ (sT_2 e t1) t2) (fun t e t2 _ => h2 t _ _ (sT_1 e) t2)
theorem y_boundedS (hP : gc_Cl P) (hm : gc_Mo P) (hd : 2 ≤ d) (hn : n ≤ 2000) (hlt : ∀ j, b j < 256) {lo hi : Nat} (hlo : lo < 2 ^ 31) (hhi : hi < 2 ^ 31) (h : zR b n T sd m nl s0 i W r o s) (hr : ∀ w, r = some w → w.2 < tk_st b n i) (h1 : ∀ t, sT b n i 2 = none → zR b n T sd m nl s0 (i + 1) W (nuN b n i lo hi r) o t → Q (some (.int (nI (nui b n i)))) t) (h2 : ∀ t x p y, sT b n i 2 = some (x, p) → zFR sd s0 x p t → Q (some (.int y)) t) : gc_T P d 0 0 197 0 [.ref 67, .int (nI lo), .int (nI hi), gc_u] [] s Q :=
  y_bounded hP hm hd hn hlt hlo hhi h hr (fun t e t1 t2 => h1 t (sT_ok e t1) t2) (fun t x y t1 t2 => by
    rcases t2 with ⟨e1, e2, e3⟩ | ⟨e1, e3⟩
    · rw [e3] at t1
      exact h2 t _ _ y (sT_2 e1 e2) t1
    · rw [e3] at t1
      exact h2 t _ _ y (sT_1 e1) t1)
theorem y_namedS (hP : gc_Cl P) (hm : gc_Mo P) (hd : 3 ≤ d) (hn : n ≤ 2000) (hlt : ∀ j, b j < 256) (h : zR b n T sd m nl s0 i W r o s) (hr : ∀ w, r = some w → w.2 < tk_st b n i) (h1 : ∀ t, sT b n i 1 = none → zR b n T sd m nl s0 (i + 1) W (twN nl b n i r) o t → Q (some (.int (nI i))) t) (h2 : ∀ t x p, sT b n i 1 = some (x, p) → zFR sd s0 x p t → Q (some (.int (nI i))) t) : gc_T P d 0 0 194 0 [.ref 67, gc_u, gc_u] [] s Q :=
  y_named hP hm hd hn hlt h hr (fun t e t1 t2 => h1 t (sT_ok e t1) t2) (fun t x t1 t2 => by
    rcases t2 with ⟨e1, e2, e3⟩ | ⟨e1, e3⟩
    · rw [e3] at t1
      exact h2 t _ _ (sT_2 e1 e2) t1
    · rw [e3] at t1
      exact h2 t _ _ (sT_1 e1) t1)
end Ss
def up1 (W : ld_W) (a x v : Nat) : ld_W := fun a' x' => if a' = a then (if x' = x then v else W a' x') else W a' x'
theorem up_eq (W : ld_W) (a x v : Nat) : up1 W a x v a x = v := by
  unfold up1
  rw [if_pos rfl, if_pos rfl]
theorem up_nx (W : ld_W) {a x v x' : Nat} (h : x' ≠ x) (a' : Nat) : up1 W a x v a' x' = W a' x' := by
  unfold up1
  rw [if_neg h]
  split <;> rfl
theorem up_na (W : ld_W) {a x v a' : Nat} (h : a' ≠ a) : up1 W a x v a' = W a' := by
  funext x'
  unfold up1
  rw [if_neg h]
/-- a GROUND more -/
def wG (W : ld_W) (pr st : Nat) : ld_W := up1 (up1 (up1 W 1 (ld_g W) pr) 11 (ld_g W) st) 0 0 (ld_g W + 1)
theorem told_S {W W' : ld_W} : ∀ g, (∀ j, j < g → W' 11 j = W 11 j) → told W' g = told W g := by
  intro g
  induction g with
  | zero =>
    intro _
    rfl
  | succ g ih =>
    intro h
    unfold told
    rw [ih (fun j hj => h j (by omega)), h g (by omega)]
section Wg
variable {W : ld_W} {pr st : Nat}
theorem wG_g : ld_g (wG W pr st) = ld_g W + 1 := up_eq _ _ _ _
theorem wG_c {k : Nat} (h : k ≠ 0) : wG W pr st 0 k = W 0 k := by
  unfold wG
  rw [up_nx _ h, up_na _ (by decide), up_na _ (by decide)]
theorem wG_a {a : Nat} (h0 : a ≠ 0) (h1 : a ≠ 1) (h11 : a ≠ 11) : wG W pr st a = W a := by
  unfold wG
  rw [up_na _ h0, up_na _ h11, up_na _ h1]
theorem wG_1 {x : Nat} : wG W pr st 1 x = if x = ld_g W then pr else W 1 x := by
  unfold wG
  rw [up_na _ (by decide), up_na _ (by decide)]
  unfold up1
  rw [if_pos rfl]
theorem wG_11 {x : Nat} : wG W pr st 11 x = if x = ld_g W then st else W 11 x := by
  unfold wG
  rw [up_na _ (by decide)]
  show (if (11 : Nat) = 11 then (if x = ld_g W then st else up1 W 1 (ld_g W) pr 11 x) else up1 W 1 (ld_g W) pr 11 x) = _
  rw [if_pos rfl, up_na _ (by decide)]
theorem wG_told : told (wG W pr st) (ld_g W + 1) = told W (ld_g W) + st * 4 ^ ld_g W := by
  show told (wG W pr st) (ld_g W) + wG W pr st 11 (ld_g W) * 4 ^ ld_g W = _
  rw [told_S (W := W) (ld_g W) (fun j hj => by rw [wG_11, if_neg (by omega)]), wG_11, if_pos rfl]
end Wg
