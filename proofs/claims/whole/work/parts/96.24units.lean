/-! A U, read by both. -/
abbrev pRes : Type := (Nat × Nat) ⊕ (Nat × ld_W × Option (Nat × Nat))
def pqC (b : Nat → Nat) (n T L m : Nat) (nc : List (List Nat × Nat × Nat)) (s0 : gc_St) (o : Nat) (res : pRes) (Q : gc_TQ) : Prop := match res with
  | .inl e => ∀ t, zFC L s0 e.1 e.2 t → Q (some (.int (-1))) t
  | .inr e => ∀ t, zC b n T L m nc s0 e.1 e.2.1 e.2.2 o t → Q (some (.int (nI (ld_p e.2.1 - 1)))) t
def pqE (b : Nat → Nat) (n T sd m : Nat) (nr : List (List Nat × Nat × Nat)) (s0 : gc_St) (o : Nat) (S : List (Int32 × Int32)) (R : List Nat) (res : pRes) (P : gc_Pr) (d : Nat) (Q : gc_TQ) : Prop := match res with
  | .inl e => ∀ t, zFR sd s0 e.1 e.2 t → Q none t
  | .inr e => ∀ t, zR b n T sd m nr s0 e.1 e.2.1 e.2.2 o t → stk S (R ++ [ld_p e.2.1 - 1]) t → Eb P d Q t
def pqG (b : Nat → Nat) (n T sd m : Nat) (nr : List (List Nat × Nat × Nat)) (s0 : gc_St) (k o : Nat) (S : List (Int32 × Int32)) (R : List Nat) (res : pRes) (P : gc_Pr) (d : Nat) (Q : gc_TQ) : Prop := match res with
  | .inl e => ∀ t, zFR sd s0 e.1 e.2 t → Q none t
  | .inr e => ∀ t, zR b n T sd m nr s0 e.1 e.2.1 e.2.2 o t → stk S (R ++ [ld_p e.2.1 - 1]) t → lev (rk b n e.1) < k → Gj P d Q (rk b n e.1) t
/-- what is known of it -/
def pzP (b : Nat → Nat) (n i : Nat) (W : ld_W) (r : Option (Nat × Nat)) (res : pRes) : Prop := match res with
  | .inl _ => True
  | .inr e => i < e.1 ∧ ex W e.2.1 ∧ (ld_p W < ld_p e.2.1 ∧ ld_p e.2.1 ≤ 24) ∧ ld_lo e.2.1 (ld_p e.2.1 - 1) = ld_p W ∧ (∀ w, e.2.2 = some w → w.2 < tk_st b n e.1) ∧ (e.2.2 = none → ∀ p, ld_p W ≤ p → p < ld_p e.2.1 → ld_pt e.2.1 p) ∧ (r ≠ none → e.2.2 = r)
def uC (b : Nat → Nat) (n T L m : Nat) (nc : List (List Nat × Nat × Nat)) (i : Nat) (W : ld_W) (r : Option (Nat × Nat)) (o : Nat) (res : pRes) : Prop := ∀ (P : gc_Pr) (d : Nat) (s s0 : gc_St) (Q : gc_TQ), gc_Cl P → gc_Mo P → 6 * (7 - o) ≤ d → zC b n T L m nc s0 i W r o s → pqC b n T L m nc s0 o res Q → gc_T P d 0 0 40 0 [.ref 9, gc_u, gc_u, gc_u] [] s Q
def jC (b : Nat → Nat) (n T L m : Nat) (nc : List (List Nat × Nat × Nat)) (k i : Nat) (W : ld_W) (r : Option (Nat × Nat)) (o : Nat) (res : pRes) : Prop := ∀ (P : gc_Pr) (d : Nat) (s s0 : gc_St) (Q : gc_TQ), gc_Cl P → gc_Mo P → 6 * (7 - o) + (5 - k) ≤ d → zC b n T L m nc s0 i W r o s → pqC b n T L m nc s0 o res Q → gc_T P d 0 0 39 0 [.ref 9, .int (nI (k + 2)), gc_u, gc_u, gc_u, gc_u] [] s Q
def uR (b : Nat → Nat) (n T sd m : Nat) (nr : List (List Nat × Nat × Nat)) (i : Nat) (W : ld_W) (r : Option (Nat × Nat)) (o : Nat) (res : pRes) : Prop := ∀ (P : gc_Pr) (d : Nat) (s s0 : gc_St) (Q : gc_TQ) (S : List (Int32 × Int32)) (R : List Nat), gc_Cl P → gc_Mo P → 7 ≤ d → zR b n T sd m nr s0 i W r o s → stk S R s → S.length + R.length ≤ i → pqE b n T sd m nr s0 o S R res P d Q → Hd P d Q s
def jR (b : Nat → Nat) (n T sd m : Nat) (nr : List (List Nat × Nat × Nat)) (k i : Nat) (W : ld_W) (r : Option (Nat × Nat)) (o : Nat) (res : pRes) : Prop := ∀ (P : gc_Pr) (d : Nat) (s s0 : gc_St) (Q : gc_TQ) (S : List (Int32 × Int32)) (R : List Nat), gc_Cl P → gc_Mo P → 7 ≤ d → zR b n T sd m nr s0 i W r o s → stk S R s → S.length + R.length ≤ i → tpo S → tpl S k → pqG b n T sd m nr s0 k o S R res P d Q → Hd P d Q s
theorem kk_rest : kk 308 27 := ⟨kc_27, by decide, by decide⟩
theorem kk_ever : kk 309 29 := ⟨kc_29, by decide, by decide⟩
theorem kk_open : kk 40 6 := ⟨kc_6, by decide, by decide⟩
theorem kk_close : kk 41 7 := ⟨kc_7, by decide, by decide⟩
theorem kk_from : kk 91 11 := ⟨kc_11, by decide, by decide⟩
theorem kk_to : kk 93 12 := ⟨kc_12, by decide, by decide⟩
section Hu
variable {P : gc_Pr} {d : Nat} {s s0 : gc_St} {Q : gc_TQ} {b : Nat → Nat} {n T sd m i o : Nat} {nr : List (List Nat × Nat × Nat)} {W : ld_W} {r : Option (Nat × Nat)}
/-- to the leaf, to what opens -/
theorem H_leaf (hP : gc_Cl P) (hm : gc_Mo P) (hd : 2 ≤ d) (h : zR b n T sd m nr s0 i W r o s) (hk : rk b n i ≠ 6 ∧ rk b n i ≠ 11 ∧ rk b n i ≠ 29) (hQ : gc_T P (d - 1) 0 0 208 0 [.ref 67, gc_u] [] s (fun r10 s11 => gc_rv r10 ((¬ (gc_F s11 67 14) = 0 → (gc_T P d 0 0 206 90 [.ref 67, .int 1] [] s11 Q)) ∧ ((gc_F s11 67 14) = 0 → (1 ≤ d ∧ gc_T P (d - 1) 0 0 211 0 [.ref 67, gc_u, gc_u] [] s11 (gQ P d Q)))))) : Hd P d Q s :=
  b_X11_pointsOf_23 hP hm ⟨fun z => absurd z (by decide), fun _ => ⟨fun z => absurd h.2.2.1.1 z, fun _ => ⟨by omega, y_is hP hm h (fun e => absurd e hk.1) (fun _ => ⟨fun z => absurd rfl z, fun _ => ⟨by omega, y_is hP hm h (fun e => absurd e hk.2.1) (fun _ => ⟨fun z => absurd rfl z, fun _ => ⟨by omega, y_is hP hm h (fun e => absurd e hk.2.2) (fun _ => ⟨fun _ => ⟨by omega, hQ⟩, fun z => absurd rfl z⟩)⟩⟩)⟩⟩)⟩⟩⟩
theorem H_open (hP : gc_Cl P) (hm : gc_Mo P) (hd : 2 ≤ d) (h : zR b n T sd m nr s0 i W r o s) (hk : rk b n i = 6 ∨ rk b n i = 11 ∨ rk b n i = 29) (hQ : gc_T P (d - 1) 0 0 207 0 [.ref 67, gc_u, gc_u] [] s (fun r1 s2 => gc_rv r1 (gc_T P d 0 0 206 23 [.ref 67, .int 1] [] s2 Q))) : Hd P d Q s := by
  have e61 : gc_T P d 0 0 206 61 [.ref 67, .int 1] [] s Q := b_X11_pointsOf_61 hP hm ⟨by omega, hQ⟩
  refine b_X11_pointsOf_23 hP hm ⟨fun z => absurd z (by decide), fun _ => ⟨fun z => absurd h.2.2.1.1 z, fun _ => ⟨by omega, y_is hP hm h (fun _ => ⟨fun _ => e61, fun z => absurd z (by decide)⟩) (fun k1 => ⟨fun z => absurd rfl z, fun _ => ⟨by omega, y_is hP hm h (fun _ => ⟨fun _ => e61, fun z => absurd z (by decide)⟩) (fun k2 => ⟨fun z => absurd rfl z, fun _ => ⟨by omega, y_is hP hm h (fun _ => ⟨fun z => absurd z (by decide), fun _ => e61⟩) (fun k3 => ?_)⟩⟩)⟩⟩)⟩⟩⟩
  rcases hk with e | e | e
  · exact absurd e k1
  · exact absurd e k2
  · exact absurd e k3
end Hu
section Cu
variable {P : gc_Pr} {d : Nat} {s s0 : gc_St} {Q : gc_TQ} {b : Nat → Nat} {n T L m i o : Nat} {nc nr : List (List Nat × Nat × Nat)} {W : ld_W} {r : Option (Nat × Nat)}
theorem zC_o {o' : Nat} (h : zC b n T L m nc s0 i W r o s) : zC b n T L m nc s0 i W r o' (gc_wF s 9 2 (nI o')) := by
  have hn := cL_ne (zC_L h)
  have g : fr (AcL L) (BcL L) s (gc_wF s 9 2 (nI o')) := fr_wF (AcL_iff.mpr (Or.inr (Or.inl rfl))) (fr_refl s)
  have hF : ∀ q k, q ≠ 9 → gc_F (gc_wF s 9 2 (nI o')) q k = gc_F s q k := fun q k e => F_ne _ _ (Or.inl e)
  refine ⟨⟨h.1.1, h.1.2.1, (hF 3 7 (by decide)).trans h.1.2.2.1, h.1.2.2.2⟩, fun z => (hF 3 8 (by decide)).trans (h.2.1 z), zB_up h.2.2 g (fun k => hF 3 k (by decide)) (F_eq _ _ _ _) (hF L 6 hn.2.1) rfl rfl ?_ (fun z => ?_)⟩
  · obtain ⟨c0, c1, c2, c3, c4⟩ := h.2.2.2.2.2.2.1
    exact ⟨(hF L 0 hn.2.1).trans c0, (hF L 1 hn.2.1).trans c1, (hF L 2 hn.2.1).trans c2, (hF L 3 hn.2.1).trans c3, (hF L 4 hn.2.1).trans c4⟩
  · obtain ⟨w1, w2⟩ := h.2.2.2.2.2.2.2.2 z
    exact ⟨cl_law_of (funext fun k => hF L k hn.2.1) (fun _ => rfl) w1, (hF L 5 hn.2.1).trans w2⟩
theorem zFC_o {x p : Nat} {y : Int32} (h : zFC L s0 x p s) : zFC L s0 x p (gc_wF s 9 2 y) :=
  ⟨fr_wF (AcL_iff.mpr (Or.inr (Or.inl rfl))) h.1, ⟨(F_ne _ _ (Or.inl (by decide))).trans h.2.1.1, (F_ne _ _ (Or.inl (by decide))).trans h.2.1.2⟩, h.2.2⟩
theorem z_lastGround (hP : gc_Cl P) (hm : gc_Mo P) (hd : 1 ≤ d) (hG : ∀ w, gdC nc w = gd nr w) (hk : rk b n i = 1) (h : zC b n T L m nc s0 (i + 1) W r o s) (hln : gc_ln s = lN (wnum 32 (wdi b n i))) (hw : wok (wdi b n i)) (hQ : ∀ t y, zC b n T L m nc s0 (i + 1) W (lfN nr b n i r).1 o t → ((lfN nr b n i r).1 = none → y = (lfN nr b n i r).2) → Q (some (.int (nI y))) t) : gc_T P d 0 0 44 0 [.ref 9, gc_u] [] s Q := by
  have h' := h
  obtain ⟨c1, c2, h1, ⟨h2, h3⟩, h4, ⟨h5, h6, h7⟩, h8, ⟨nx, h9, h10, h11, h12⟩, h13⟩ := h'
  refine b_X3_lastGround_0 hP hm ⟨L, h6, cl_io h5, hd, ?_⟩
  rw [hln]
  refine sp_roleOf hP hm h5 h9 hw ?_
  have hpl : tk_st b n (i + 1 - 1) = tk_st b n i := by rw [Nat.add_sub_cancel]
  have eq : r = none → gdC nx (wdi b n i) = gd nr (wdi b n i) := fun z => by rw [h12 z]; exact hG _
  rcases rl_cases h10 (wdi b n i) with ⟨e1, e2⟩ | ⟨g, e0, e1, e2⟩
  · have hnone : r = none → gd nr (wdi b n i) = none := fun z => by rw [← eq z]; exact e1
    have soft : ∀ l, gc_T P d 0 0 44 29 [.ref 9, .int l] [] s Q := fun l => by
      refine b_X3_lastGround_29 hP hm ⟨hd, z_object hP hm (x := 4) (by decide) (by decide) h (by omega) hpl fun t t1 => ?_⟩
      rw [← lfN_4 hk hnone] at t1
      refine hQ t 0 t1 fun z => ?_
      rw [lfN_4 hk hnone] at z
      exact absurd z (sf_ne _ _ _)
    rcases e2 with e2 | ⟨q, q1, q2, e2⟩
    · rw [e2]
      exact ⟨fun _ => soft _, fun y => absurd (by decide) y⟩
    · rw [e2]
      exact ⟨fun _ => soft _, fun _ => ⟨fun _ => soft _, fun y => absurd (nI_le (a := 8) q1 (by omega)) y⟩⟩
  · rw [e2]
    have hsome : r = none → gd nr (wdi b n i) = some g := fun z => by rw [← eq z]; exact e1
    refine ⟨fun y => absurd y (nI_pos (by omega)), fun _ => ⟨fun y => absurd y (nI_ge (b := 8) (by omega) (by decide)), fun _ => ?_⟩⟩
    rw [show nI g - 0 = nI g from by rw [st_lit 0, pk_sub (Nat.zero_le _), Nat.sub_zero]]
    refine hQ s g ?_ fun z => ?_
    · rw [(lfN_0 hk hsome).1]
      exact h
    · rw [(lfN_0 hk hsome).1] at z
      exact ((lfN_0 hk hsome).2 z).symm
end Cu
