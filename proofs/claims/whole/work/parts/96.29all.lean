/-! All POINTS of a CLAIM, by both. -/
section Al
variable {b : Nat → Nat} {n Tc Tr L sd mc mr : Nat} {nc nr : List (List Nat × Nat × Nat)} {G : Nat}
theorem jX_all {i0 o : Nat} (ho : o ≤ 6) (hU : ∀ i' W' r', i0 ≤ i' → ld_g W' = G → ld_p W' ≤ 24 → (∀ w, r' = some w → w.2 < tk_st b n i') → uX b n Tc Tr L sd mc mr nc nr i' W' r' o) : ∀ j, j ≤ 3 → ∀ i W r, i0 ≤ i → ld_g W = G → ld_p W ≤ 24 → (∀ w, r = some w → w.2 < tk_st b n i) → jX b n Tc Tr L sd mc mr nc nr (4 - j) i W r o := by
  intro j
  induction j with
  | zero =>
    intro _ i W r hi hg hp hr
    exact jX_4 ho (hU i W r hi hg hp hr)
  | succ j ih =>
    intro hj i W r hi hg hp hr
    refine jX_k (k := 4 - (j + 1)) (by omega) (by omega) ho hp hr fun i' W' r' h1 h2 h3 h4 => ?_
    have := ih (by omega) i' W' r' (by omega) (h2.trans hg) h3 h4
    rw [show 4 - (j + 1) + 1 = 4 - j by omega]
    exact this
theorem uX_all (hn : n ≤ 2000) (hlt : ∀ j, b j < 256) (hG : ∀ w, gdC nc w = gd nr w) (hG4 : G ≤ 4) (hg : ∀ w g, gd nr w = some g → g < G) : ∀ f i W r o, 401 ≤ i + f → ld_g W = G → ld_p W ≤ 24 → o ≤ 6 → (∀ w, r = some w → w.2 < tk_st b n i) → uX b n Tc Tr L sd mc mr nc nr i W r o := by
  intro f
  induction f with
  | zero =>
    intro i W r o hf _ _ _ _
    refine ⟨.inl (1, 0), trivial, fun P d s s0 Q hP hm hd h => ?_, fun P d s s0 Q S R hP hm hd h => ?_⟩
    · have := zC_i h
      omega
    · have := zR_i h
      omega
  | succ f ih =>
    intro i W r o hf hW hp ho hr
    have hg' : ∀ w g, gd nr w = some g → g < ld_g W := fun w g e => by rw [hW]; exact hg w g e
    by_cases h1 : rk b n i = 1
    · exact uX_leaf hn hlt hG hg' hp ho hr (Or.inl ⟨h1, rfl⟩)
    by_cases h26 : rk b n i = 26
    · exact uX_leaf hn hlt hG hg' hp ho hr (Or.inr (Or.inl ⟨h26, rfl⟩))
    by_cases h27 : rk b n i = 27
    · exact uX_leaf hn hlt hG hg' hp ho hr (Or.inr (Or.inr ⟨h27, rfl⟩))
    have hst : rk b n i ≠ 0 → ∀ w, r = some w → w.2 < tk_st b n (i + 1) := fun h0 w e => Nat.lt_trans (hr w e) (tk_st_S (rk_n h0))
    by_cases h6 : rk b n i = 6
    · by_cases hf2 : i = 400 ∨ o = 6
      · exact uX_full (Or.inl h6) ho hf2
      · by_cases hi : i < 400
        · exact uX_paren h6 (by omega) hi (jX_all (G := G) (by omega) (fun i' W' r' a1 a2 a3 a4 => ih i' W' r' (o + 1) (by omega) a2 a3 (by omega) a4) 3 (by decide) (i + 1) W r (Nat.le_refl _) hW hp (hst (by rw [h6]; decide)))
        · refine ⟨.inl (1, 0), trivial, fun P d s s0 Q hP hm hd h => ?_, fun P d s s0 Q S R hP hm hd h => ?_⟩
          · have := zC_i h
            omega
          · have := zR_i h
            omega
    by_cases h11 : rk b n i = 11
    · by_cases hf2 : i = 400 ∨ o = 6
      · exact uX_full (Or.inr (Or.inl h11)) ho hf2
      · by_cases hi : i < 400
        · exact uX_given hn hlt hG (by rw [hW]; exact hG4) hg' hr h11 (by omega) hi (fun i' r' a1 a2 => ih i' W r' (o + 1) (by omega) hW hp (by omega) a2)
        · refine ⟨.inl (1, 0), trivial, fun P d s s0 Q hP hm hd h => ?_, fun P d s s0 Q S R hP hm hd h => ?_⟩
          · have := zC_i h
            omega
          · have := zR_i h
            omega
    by_cases h29 : rk b n i = 29
    · by_cases hf2 : i = 400 ∨ o = 6
      · exact uX_full (Or.inr (Or.inr h29)) ho hf2
      · by_cases hi : i < 400
        · exact uX_ever h29 (by omega) hi (ih (i + 1) W r (o + 1) (by omega) hW hp (by omega) (hst (by rw [h29]; decide)))
        · refine ⟨.inl (1, 0), trivial, fun P d s s0 Q hP hm hd h => ?_, fun P d s s0 Q S R hP hm hd h => ?_⟩
          · have := zC_i h
            omega
          · have := zR_i h
            omega
    exact uX_bad ⟨h1, h26, h27, h6, h11, h29⟩ ho
/-- all of a CLAIM, by the reference -/
def ptR (b : Nat → Nat) (n T sd m : Nat) (nr : List (List Nat × Nat × Nat)) (i : Nat) (W : ld_W) (r : Option (Nat × Nat)) (res : pRes) : Prop := ∀ (P : gc_Pr) (d : Nat) (s s0 : gc_St) (Q : gc_TQ), gc_Cl P → gc_Mo P → 7 ≤ d → zR b n T sd m nr s0 i W r 0 s → (match res with
  | .inl e => ∀ t, zFR sd s0 e.1 e.2 t → Q none t
  | .inr e => ∀ t, zR b n T sd m nr s0 e.1 e.2.1 e.2.2 0 t → gc_I t 99 0 = nI (ld_p e.2.1 - 1) → Q none t) → gc_T P d 0 0 206 0 [.ref 67, gc_u] [] s Q
theorem z_points (hn : n ≤ 2000) (hlt : ∀ j, b j < 256) (hG : ∀ w, gdC nc w = gd nr w) (hG4 : G ≤ 4) (hg : ∀ w g, gd nr w = some g → g < G) {i : Nat} {W : ld_W} {r : Option (Nat × Nat)} (hW : ld_g W = G) (hp : ld_p W ≤ 24) (hr : ∀ w, r = some w → w.2 < tk_st b n i) : ∃ res, pzP b n i W r res ∧ jC b n Tc L mc nc 1 i W r 0 res ∧ ptR b n Tr sd mr nr i W r res := by
  obtain ⟨res, p1, p2, p3⟩ := jX_all (Tc := Tc) (Tr := Tr) (L := L) (sd := sd) (mc := mc) (mr := mr) (nc := nc) (nr := nr) (G := G) (i0 := i) (o := 0) (by decide) (fun i' W' r' a1 a2 a3 a4 => uX_all hn hlt hG hG4 hg 401 i' W' r' 0 (by omega) a2 a3 (by decide) a4) 3 (by decide) i W r (Nat.le_refl _) hW hp hr
  refine ⟨res, p1, p2, fun P d s s0 Q hP hm hd h hQ => ?_⟩
  refine b_X11_pointsOf_0 hP hm ⟨fun z => absurd h.2.2.1.1 z, fun _ => b_X11_pointsOf_22 hP hm ?_⟩
  have hz : zR b n Tr sd mr nr s0 i W r 0 (gc_wF (gc_wF s 67 46 0) 67 48 0) := zR_F h (fr_wF rfl (fr_wF rfl (fr_refl s))) (fun k _ e1 e2 => (F_ne _ _ (Or.inr e2)).trans (F_ne _ _ (Or.inr e1))) (((F_ne _ _ (Or.inr (by decide))).trans (F_ne _ _ (Or.inr (by decide)))).trans h.2.2.2.1.2.2) (fun _ _ => rfl) (fun _ _ => rfl)
  have hs : stk [] [] (gc_wF (gc_wF s 67 46 0) 67 48 0) := ⟨⟨(F_ne _ _ (Or.inr (by decide))).trans (F_eq _ _ _ _), fun k e he => absurd he (by simp)⟩, F_eq _ _ _ _, fun k q hq => absurd hq (by simp)⟩
  refine p3 P d _ s0 Q [] [] hP hm hd hz hs (Nat.zero_le _) (fun S' e he => absurd he (by simp)) (fun S' e he => absurd he (by simp)) ?_
  cases res with
  | inl e => exact hQ
  | inr e =>
    intro t t1 t2 t3
    have t3' : lev (rk b n e.1) < 1 := t3
    exact G_fin hP hm (by omega) t1 t2 (by omega) (hQ t t1 (stk_part (R := []) t2).2)
end Al
