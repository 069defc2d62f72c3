/-! The reference: what opens, what is a leaf. -/
section Bo
variable {P : gc_Pr} {d : Nat} {s s0 : gc_St} {Q : gc_TQ} {b : Nat → Nat} {n T sd m i o : Nat} {nr : List (List Nat × Nat × Nat)} {W : ld_W} {r : Option (Nat × Nat)} {S : List (Int32 × Int32)} {R : List Nat}
theorem f_push (hP : gc_Cl P) (hm : gc_Mo P) {x p k : Nat} {l1 l2 : Int32} (h : zFR sd s0 x p s) (h46 : gc_F s 67 46 = nI k) (hk : k < 420) (hQ : ∀ t, zFR sd s0 x p t → Q none t) : gc_T P d 0 0 204 0 [.ref 67, .int l1, .int l2] [] s Q := by
  refine b_X11_pushes_0 hP hm ?_
  rw [h46]
  refine ⟨vp_in_nI hk (by decide), vp_in_nI hk (by decide), hQ _ ⟨⟨fr_wF rfl (fr_wI rfl (fr_wI rfl h.1.1)), kp_wF (kp_wI0 (kp_wI0 h.1.2 rfl) rfl)⟩, ⟨(F_ne _ _ (Or.inr (by decide))).trans h.2.1.1, (F_ne _ _ (Or.inr (by decide))).trans h.2.1.2⟩, h.2.2.1, ?_⟩⟩
  rw [F_ne _ _ (Or.inr (by decide))]
  exact h.2.2.2
theorem f_side (hP : gc_Cl P) (hm : gc_Mo P) (hd : 1 ≤ d) {x p : Nat} (h : zFR sd s0 x p s) (hQ : Q (some (.int 0)) s) : gc_T P d 0 0 199 0 [.ref 67, gc_u, gc_u, gc_u] [] s Q :=
  b_X11_tellSide_0 hP hm ⟨hd, sp_misF hP hm (zFR_n h).1 ⟨fun _ => b_X11_tellSide_19 hP hm ⟨fun _ => hQ, fun _ => ⟨fun _ => hQ, fun z => absurd z (zFR_n h).1⟩⟩, fun z => absurd rfl z⟩⟩
/-- a seventh within one another -/
theorem y_open6 (hP : gc_Cl P) (hm : gc_Mo P) (hd : 1 ≤ d) (h : zR b n T sd m nr s0 i W r 6 s) (hQ : ∀ t, zFR sd s0 2 (tk_st b n i) t → Q none t) : gc_T P d 0 0 207 0 [.ref 67, gc_u, gc_u] [] s Q := by
  refine b_X11_opens_0 hP hm ?_
  rw [h.2.2.2.1.2.2]
  refine ⟨fun z => absurd rfl z, fun _ => ⟨hd, y_fail hP hm (x := 2) (by decide) h fun t t1 _ => b_X11_opens_14 hP hm ⟨fun z => absurd z (zFR_n t1).2.1, fun _ => hQ t t1⟩⟩⟩
theorem y_open1 (hP : gc_Cl P) (hm : gc_Mo P) (hd : 2 ≤ d) (h : zR b n T sd m nr s0 i W r o s) (hs : stk S R s) (hl : S.length ≤ 400) (ho : o < 6) (hk : rk b n i = 6 ∨ rk b n i = 29) (h1 : ∀ t, i < 400 → zR b n T sd m nr s0 (i + 1) W r (o + 1) t → stk (S ++ [(rk b n i, 0)]) R t → Q none t) (h2 : ∀ t, i = 400 → zFR sd s0 2 (tk_st b n i) t → Q none t) : gc_T P d 0 0 207 0 [.ref 67, gc_u, gc_u] [] s Q := by
  have h400 := zR_i h
  have h11 : ¬ rk b n i = 11 := by
    rcases hk with e | e <;> rw [e] <;> decide
  have h0 : rk b n i ≠ 0 := by
    rcases hk with e | e <;> rw [e] <;> decide
  have hz : zR b n T sd m nr s0 i W r (o + 1) (gc_wF s 67 13 (nI (o + 1))) := zR_F h (fr_wF rfl (fr_refl s)) (fun k e0 _ _ => F_ne _ _ (Or.inr e0)) (F_eq _ _ _ _) (fun _ _ => rfl) (fun _ _ => rfl)
  have hs' : stk S R (gc_wF s 67 13 (nI (o + 1))) := ⟨⟨(F_ne _ _ (Or.inr (by decide))).trans hs.1.1, hs.1.2⟩, (F_ne _ _ (Or.inr (by decide))).trans hs.2.1, hs.2.2⟩
  refine b_X11_opens_0 hP hm ?_
  rw [h.2.2.2.1.2.2]
  refine ⟨fun _ => b_X11_opens_14 hP hm ?_, fun z => absurd z (fun z => by have := (nI_eq (b := 6) (by omega) (by decide)).mp z; omega)⟩
  rw [h.2.2.1.1, h.1.2.2.1, h.2.2.2.1.2.2, nI_clamp (by omega), (h.1.2.1 i h.1.2.2.2).1, nI_1]
  refine ⟨fun _ => ⟨vp_in_nI (by omega) (by decide), by omega, y_go hP hm (by omega) hz h0 (fun u u1 u2 u3 => ⟨fun _ => b_X11_opens_65 hP hm ⟨by omega, y_push hP hm u2 (stk_fr hs' u3 rfl rfl (fun _ _ _ => rfl)) (by omega) (fun t t1 t2 => h1 t u1 t1 t2)⟩, fun z => absurd z h11⟩) (fun u u1 u2 u3 => ⟨fun _ => b_X11_opens_65 hP hm ⟨by omega, f_push hP hm u2 ((fr_F u3 rfl).trans hs'.1.1) (by omega) (fun t t1 => h2 t u1 t1)⟩, fun z => absurd z h11⟩)⟩, fun z => absurd (by decide) z⟩
theorem y_open2 (hP : gc_Cl P) (hm : gc_Mo P) (hd : 5 ≤ d) {res : zRes} (h : zR b n T sd m nr s0 i W r o s) (hs : stk S R s) (hl : S.length ≤ 400) (ho : o < 6) (hk : rk b n i = 11) (hsd : seR b n T sd m nr (i + 1) W r res)
    (h1 : ∀ t e y, res = .inr e → i < 400 → rk b n e.1 = 12 → e.1 < 400 → zR b n T sd m nr s0 (e.1 + 1) W e.2.1 (o + 1) t → (e.2.1 = none → y = nI e.2.2) → stk (S ++ [(11, y)]) R t → Q none t)
    (h2 : ∀ t x p, zFR sd s0 x p t → (i = 400 ∧ x = 2 ∧ p = tk_st b n i) ∨ (i < 400 ∧ res = .inl (x, p)) ∨ (i < 400 ∧ ∃ e, res = .inr e ∧ ((rk b n e.1 = 12 ∧ e.1 = 400 ∧ x = 2 ∧ p = tk_st b n e.1) ∨ (rk b n e.1 ≠ 12 ∧ x = 1 ∧ p = tk_st b n e.1))) → Q none t) : gc_T P d 0 0 207 0 [.ref 67, gc_u, gc_u] [] s Q := by
  have h400 := zR_i h
  have hz : zR b n T sd m nr s0 i W r (o + 1) (gc_wF s 67 13 (nI (o + 1))) := zR_F h (fr_wF rfl (fr_refl s)) (fun k e0 _ _ => F_ne _ _ (Or.inr e0)) (F_eq _ _ _ _) (fun _ _ => rfl) (fun _ _ => rfl)
  have hs' : stk S R (gc_wF s 67 13 (nI (o + 1))) := ⟨⟨(F_ne _ _ (Or.inr (by decide))).trans hs.1.1, hs.1.2⟩, (F_ne _ _ (Or.inr (by decide))).trans hs.2.1, hs.2.2⟩
  refine b_X11_opens_0 hP hm ?_
  rw [h.2.2.2.1.2.2]
  refine ⟨fun _ => b_X11_opens_14 hP hm ?_, fun z => absurd z (fun z => by have := (nI_eq (b := 6) (by omega) (by decide)).mp z; omega)⟩
  rw [h.2.2.1.1, h.1.2.2.1, h.2.2.2.1.2.2, nI_clamp (by omega), (h.1.2.1 i h.1.2.2.2).1, nI_1]
  refine ⟨fun _ => ⟨vp_in_nI (by omega) (by decide), by omega, y_go hP hm (by omega) hz (by rw [hk]; decide) (fun u u1 u2 u3 => ⟨fun z => absurd hk z, fun _ => ⟨by omega, hsd P _ u s0 _ (o + 1) hP hm (by omega) u2 ?_⟩⟩) (fun u u1 u2 u3 => ⟨fun z => absurd hk z, fun _ => ⟨by omega, f_side hP hm (by omega) u2 ⟨by omega, sp_mmustF hP hm (by omega) (zFR_n u2).2.1 (b_X11_opens_65 hP hm ⟨by omega, f_push hP hm u2 ((fr_F u3 rfl).trans hs'.1.1) (by omega) (fun t t1 => h2 t _ _ t1 (Or.inl ⟨u1, rfl, rfl⟩))⟩)⟩⟩⟩)⟩, fun z => absurd (by decide) z⟩
  have hsu : stk S R u := stk_fr hs' u3 rfl rfl (fun _ _ _ => rfl)
  cases res with
  | inl e =>
    intro t y t1 t2
    exact ⟨by omega, sp_mmustF hP hm (by omega) (zFR_n t1).2.1 (b_X11_opens_65 hP hm ⟨by omega, f_push hP hm t1 ((fr_F t2 rfl).trans hsu.1.1) (by omega) (fun v v1 => h2 v _ _ v1 (Or.inr (Or.inl ⟨u1, rfl⟩)))⟩)⟩
  | inr e =>
    intro t y t1 t2 t3
    have hst : stk S R t := stk_fr hsu t2 rfl rfl (fun _ _ _ => rfl)
    refine ⟨by omega, y_must hP hm (by omega) (by decide) t1 (fun v v1 v2 v3 v4 => b_X11_opens_65 hP hm ⟨by omega, ?_⟩) (fun v v1 v2 v3 v4 => b_X11_opens_65 hP hm ⟨by omega, f_push hP hm v3 ((fr_F v4 rfl).trans hst.1.1) (by omega) (fun w w1 => h2 w _ _ w1 (Or.inr (Or.inr ⟨u1, e, rfl, Or.inl ⟨v1, v2, rfl, rfl⟩⟩)))⟩) (fun v v1 v3 v4 => b_X11_opens_65 hP hm ⟨by omega, f_push hP hm v3 ((fr_F v4 rfl).trans hst.1.1) (by omega) (fun w w1 => h2 w _ _ w1 (Or.inr (Or.inr ⟨u1, e, rfl, Or.inr ⟨v1, rfl, rfl⟩⟩)))⟩)⟩
    rw [hk]
    exact y_push hP hm v3 (stk_fr hst v4 rfl rfl (fun _ _ _ => rfl)) (by omega) (fun w w1 w2 => h1 w e y rfl u1 v1 v2 w1 t3 w2)
end Bo
/-- what a leaf makes of the later fault; its GROUND -/
def lfN (nr : List (List Nat × Nat × Nat)) (b : Nat → Nat) (n i : Nat) (r : Option (Nat × Nat)) : Option (Nat × Nat) × Nat := if rk b n i = 1 then (match r with
  | some x => (some x, 0)
  | none => match gd nr (wdi b n i) with
    | none => (some (4, tk_st b n i), 0)
    | some g => (none, g)) else (r, 0)
section Lf
variable {nr : List (List Nat × Nat × Nat)} {b : Nat → Nat} {n i : Nat} {r : Option (Nat × Nat)}
theorem lfN_4 (hk : rk b n i = 1) (h : r = none → gd nr (wdi b n i) = none) : (lfN nr b n i r).1 = sf r 4 (tk_st b n i) := by
  unfold lfN
  rw [if_pos hk]
  cases r with
  | some x => rfl
  | none =>
    rw [h rfl]
    rfl
theorem lfN_0 (hk : rk b n i = 1) {g : Nat} (h : r = none → gd nr (wdi b n i) = some g) : (lfN nr b n i r).1 = r ∧ (r = none → (lfN nr b n i r).2 = g) := by
  unfold lfN
  rw [if_pos hk]
  cases r with
  | some x => exact ⟨rfl, fun z => absurd z (by simp)⟩
  | none =>
    rw [h rfl]
    exact ⟨rfl, fun _ => rfl⟩
theorem lfN_n (hk : rk b n i ≠ 1) : lfN nr b n i r = (r, 0) := by
  unfold lfN
  rw [if_neg hk]
theorem lfN_in {G : Nat} (hg : ∀ w g, gd nr w = some g → g < G) (hs : tk_st b n i < tk_st b n (i + 1)) (hr : ∀ w, r = some w → w.2 < tk_st b n i) : (rk b n i = 1 → (lfN nr b n i r).1 = none → (lfN nr b n i r).2 < G) ∧ (∀ w, (lfN nr b n i r).1 = some w → w.2 < tk_st b n (i + 1)) ∧ (r ≠ none → (lfN nr b n i r).1 = r) := by
  by_cases hk : rk b n i = 1
  · cases hr' : r with
    | some x =>
      have h0 : lfN nr b n i (some x) = (some x, 0) := by
        unfold lfN
        rw [if_pos hk]
      rw [h0]
      refine ⟨fun _ z => absurd z (by simp), fun w e => ?_, fun _ => rfl⟩
      have e2 : some x = some w := e
      rw [Option.some.injEq] at e2
      rw [← e2]
      have := hr x hr'
      omega
    | none =>
      cases hd : gd nr (wdi b n i) with
      | none =>
        have h0 : lfN nr b n i none = (some (4, tk_st b n i), 0) := by
          unfold lfN
          rw [if_pos hk, hd]
        rw [h0]
        refine ⟨fun _ z => absurd z (by simp), fun w e => ?_, fun z => absurd rfl z⟩
        have e2 : some (4, tk_st b n i) = some w := e
        rw [Option.some.injEq] at e2
        rw [← e2]
        exact hs
      | some g =>
        have h0 : lfN nr b n i none = (none, g) := by
          unfold lfN
          rw [if_pos hk, hd]
        rw [h0]
        exact ⟨fun _ _ => hg _ _ hd, fun w e => absurd e (by simp), fun z => absurd rfl z⟩
  · rw [lfN_n hk]
    refine ⟨fun z => absurd z hk, fun w e => ?_, fun _ => rfl⟩
    have := hr w e
    omega
end Lf
section Bl
variable {P : gc_Pr} {d : Nat} {s s0 : gc_St} {Q : gc_TQ} {b : Nat → Nat} {n T sd m i o : Nat} {nr : List (List Nat × Nat × Nat)} {W : ld_W} {r : Option (Nat × Nat)} {S : List (Int32 × Int32)} {R : List Nat}
theorem y_leaf (hP : gc_Cl P) (hm : gc_Mo P) (hd : 3 ≤ d) (hn : n ≤ 2000) (hlt : ∀ j, b j < 256) (hp24 : ld_p W ≤ 24) {kd : Nat} (hk : (rk b n i = 1 ∧ kd = 0) ∨ (rk b n i = 26 ∧ kd = 1) ∨ (rk b n i = 27 ∧ kd = 2)) (h : zR b n T sd m nr s0 i W r o s) (hs : stk S R s) (hl : R.length ≤ 400) (hr : ∀ w, r = some w → w.2 < tk_st b n i)
    (h1 : ∀ t, i < 400 → ld_p W < 24 → zR b n T sd m nr s0 (i + 1) (np W kd (lfN nr b n i r).2 0 (ld_p W)) (lfN nr b n i r).1 o t → stk S (R ++ [ld_p W]) t → Q none t) (h2 : ∀ t, i = 400 ∨ ld_p W = 24 → zFR sd s0 2 (tk_st b n i) t → Q none t) : gc_T P d 0 0 208 0 [.ref 67, gc_u] [] s Q := by
  have h' := h
  obtain ⟨c1, ⟨g1, g0⟩, ⟨g2, g3⟩, ⟨g4, g5, g6⟩, g7, g8, ⟨nx, g9, g10, g11, g12, g14⟩, g13⟩ := h'
  have h400 := zR_i h
  have hT := c1.2.2.2
  have hk0 : rk b n i ≠ 0 := by
    rcases hk with ⟨e, _⟩ | ⟨e, _⟩ | ⟨e, _⟩ <;> rw [e] <;> decide
  have hst := rk_n hk0
  -- the POINT, then the next word
  have fin : ∀ (l1 : Value) (t : gc_St) (l2 : Int32) (r1 : Option (Nat × Nat)), r1 = (lfN nr b n i r).1 → zR b n T sd m nr s0 i W r1 o t → stk S R t → (r1 = none → l2 = kI1 kd (lfN nr b n i r).2) → gc_T P (d - 1) 0 0 205 0 [.ref 67, .int (nI kd), .int l2, .int (-1), .int (nI i), gc_u] [] t (fun r1 s2 => gc_rv r1 (gc_T P d 0 0 208 105 [.ref 67, l1] [] s2 Q)) := by
    intro l1 t l2 r1 er ht hst2 hl2
    refine y_ends hP hm (by omega) (kd := kd) (fi := (lfN nr b n i r).2) (se := 0) (lo := ld_p W) hp24 ht hst2 (by omega) hT hl2 (fun _ => ?_) (fun u u1 u2 u3 => ?_) (fun u u1 u2 => ?_)
    · unfold kI2
      rw [if_neg (by omega)]
    · refine b_X11_leaf_105 hP hm ⟨fun z => absurd u2.2.2.1.1 z, fun _ => ⟨by omega, y_go hP hm (by omega) u2 hk0 (fun v v1 v2 v3 => ?_) (fun v v1 v2 _ => h2 v (Or.inl v1) v2)⟩⟩
      rw [er] at v2
      exact h1 v v1 u1 v2 (stk_fr u3 v3 rfl rfl (fun _ _ _ => rfl))
    · exact b_X11_leaf_105 hP hm ⟨fun _ => h2 u (Or.inr u1) u2, fun z => absurd z (zFR_n u2).1⟩
  refine b_X11_leaf_0 hP hm ⟨by omega, y_is hP hm h (fun e1 => ⟨fun z => absurd z (by decide), fun _ => ?_⟩) (fun e1 => ⟨fun _ => ?_, fun z => absurd rfl z⟩)⟩
  · have hkd : kd = 0 := by
      rcases hk with ⟨_, e⟩ | ⟨e, _⟩ | ⟨e, _⟩
      · exact e
      · exact absurd (e1.symm.trans e) (by decide)
      · exact absurd (e1.symm.trans e) (by decide)
    rw [c1.2.2.1, g5, g10]
    refine ⟨by omega, sp_mfind hP hm g9 (fun e he => by have := (g11 e he).1; omega) (wdi_ok hlt (Or.inl e1)) (kd := 0) (by omega) (by decide) (nmR_at c1 hT (Or.inl e1)) ?_⟩
    have eq : r = none → gd nx (wdi b n i) = gd nr (wdi b n i) := fun z => by rw [g14 z]
    rcases fd_cases g11 (wdi b n i) with ⟨x1, x2⟩ | ⟨g, x0, x1, x2⟩
    · rw [x2]
      have hnone : r = none → gd nr (wdi b n i) = none := fun z => by rw [← eq z]; exact x1
      have hv : ∀ w, r = some w → ¬ (tk_st b n i < w.2 ∨ (tk_st b n i = w.2 ∧ 4 < w.1)) := fun w e => by
        have := hr w e
        omega
      refine ⟨fun z => absurd rfl z, fun _ => ?_⟩
      rw [c1.2.2.1]
      refine ⟨by omega, y_wrong hP hm (x := 4) (by decide) (by decide) h hT (by omega) hv fun t t1 t2 => ?_⟩
      refine b_X11_leaf_40 hP hm ?_
      rw [t1.1.2.2.1]
      have := fin (.int (-1)) t (-1) _ (lfN_4 e1 hnone).symm t1 (stk_fr hs t2 rfl rfl (fun _ _ _ => rfl)) (fun z => absurd z (sf_ne _ _ _))
      rw [hkd] at this
      exact ⟨by omega, this⟩
    · rw [x2]
      refine ⟨fun _ => b_X11_leaf_40 hP hm ?_, fun z => absurd z (nI_nm1 (by omega))⟩
      rw [c1.2.2.1]
      have hsome : r = none → gd nr (wdi b n i) = some g := fun z => by rw [← eq z]; exact x1
      have := fin (.int (nI g)) s (nI g) r (lfN_0 e1 hsome).1.symm h hs (fun z => by
        unfold kI1
        rw [if_neg (by omega), (lfN_0 e1 hsome).2 z])
      rw [hkd] at this
      exact ⟨by omega, this⟩
  · have hlf := lfN_n (nr := nr) (r := r) e1
    refine ⟨by omega, y_is hP hm h (fun e2 => ⟨fun z => absurd z (by decide), fun _ => ?_⟩) (fun e2 => ⟨fun _ => ⟨by omega, y_is hP hm h (fun e3 => ⟨fun z => absurd z (by decide), fun _ => ?_⟩) (fun e3 => ?_)⟩, fun z => absurd rfl z⟩)⟩
    · have hkd : kd = 1 := by
        rcases hk with ⟨e, _⟩ | ⟨_, e⟩ | ⟨e, _⟩
        · exact absurd e e1
        · exact e
        · exact absurd (e2.symm.trans e) (by decide)
      rw [c1.2.2.1]
      have := fin gc_u s (-1) r (by rw [hlf]) h hs (fun z => by
        unfold kI1
        rw [if_pos (Or.inl hkd)])
      rw [hkd] at this
      exact ⟨by omega, this⟩
    · have hkd : kd = 2 := by
        rcases hk with ⟨e, _⟩ | ⟨e, _⟩ | ⟨_, e⟩
        · exact absurd e e1
        · exact absurd e e2
        · exact e
      rw [c1.2.2.1]
      have := fin gc_u s (-1) r (by rw [hlf]) h hs (fun z => by
        unfold kI1
        rw [if_pos (Or.inr hkd)])
      rw [hkd] at this
      exact ⟨by omega, this⟩
    · rcases hk with ⟨e, _⟩ | ⟨e, _⟩ | ⟨e, _⟩
      · exact absurd e e1
      · exact absurd e e2
      · exact absurd e e3
/-- no U begins so -/
theorem y_leaf0 (hP : gc_Cl P) (hm : gc_Mo P) (hd : 1 ≤ d) (h : zR b n T sd m nr s0 i W r o s) (hk : rk b n i ≠ 1 ∧ rk b n i ≠ 26 ∧ rk b n i ≠ 27) (h2 : ∀ t, zFR sd s0 1 (tk_st b n i) t → Q none t) : gc_T P d 0 0 208 0 [.ref 67, gc_u] [] s Q :=
  b_X11_leaf_0 hP hm ⟨hd, y_is hP hm h (fun e => absurd e hk.1) (fun _ => ⟨fun _ => ⟨hd, y_is hP hm h (fun e => absurd e hk.2.1) (fun _ => ⟨fun _ => ⟨hd, y_is hP hm h (fun e => absurd e hk.2.2) (fun _ => ⟨fun _ => ⟨hd, y_fail hP hm (x := 1) (by decide) h fun t t1 _ => b_X11_leaf_105 hP hm ⟨fun _ => h2 t t1, fun z => absurd z (zFR_n t1).1⟩⟩, fun z => absurd rfl z⟩)⟩, fun z => absurd rfl z⟩)⟩, fun z => absurd rfl z⟩)⟩
end Bl
