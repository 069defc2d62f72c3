/-! The reference's stack of signs: what is put there, what is taken. -/
theorem nI_sub2 (k : Nat) : nI (k + 2) - 2 = nI k := by
  rw [st_lit 2, pk_sub (by omega), Nat.add_sub_cancel]
section Bs
variable {P : gc_Pr} {d : Nat} {s s0 : gc_St} {Q : gc_TQ} {b : Nat → Nat} {n T sd m i o : Nat} {nr : List (List Nat × Nat × Nat)} {W : ld_W} {r : Option (Nat × Nat)} {S : List (Int32 × Int32)} {R : List Nat}
theorem zR_F {o' : Nat} {t : gc_St} (h : zR b n T sd m nr s0 i W r o s) (g : fr AzR BzR s t) (hF : ∀ k, k ≠ 13 → k ≠ 46 → k ≠ 48 → gc_F t 67 k = gc_F s 67 k) (h13 : gc_F t 67 13 = nI o') (hI : ∀ a, a < 97 → gc_I t a = gc_I s a) (hJ : ∀ a, a < 97 → gc_J t a = gc_J s a) : zR b n T sd m nr s0 i W r o' t := by
  refine ⟨rpw_of h.1 (hF 12 (by decide) (by decide) (by decide)) (hI 71 (by decide)) (hI 72 (by decide)) (hI 73 (by decide)) (hJ 74 (by decide)), zS_up h.2 g (fun a k hk => ?_) hF h13 (hJ 76 (by decide)) (hI 77 (by decide)) (hI 78 (by decide)) (cnR_of h.2.2.2.2.2.1 (fun a _ z => hI a (by omega))) (fun z => lwR_of (h.2.2.2.2.2.2.2 z) (fun a _ z2 => hI a (by omega)))⟩
  have ha : a < 97 := by
    refine Decidable.byContradiction fun y => ?_
    have : wid a = 0 := by
      unfold wid
      rw [if_neg (by omega), List.getD_eq_getElem?_getD, List.getElem?_eq_none (by show 21 ≤ a - 76; omega)]
      rfl
    omega
  rw [hI a ha, hJ a ha]
  exact h.2.1.2 a k hk
theorem y_push (hP : gc_Cl P) (hm : gc_Mo P) {l1 l2 : Int32} (h : zR b n T sd m nr s0 i W r o s) (hs : stk S R s) (hl : S.length < 420) (hQ : ∀ t, zR b n T sd m nr s0 i W r o t → stk (S ++ [(l1, l2)]) R t → Q none t) : gc_T P d 0 0 204 0 [.ref 67, .int l1, .int l2] [] s Q := by
  refine b_X11_pushes_0 hP hm ?_
  rw [hs.1.1, nI_clamp (by omega), nI_1]
  refine ⟨vp_in_nI hl (by decide), vp_in_nI hl (by decide), hQ _ (zR_F h (fr_wF rfl (fr_wI rfl (fr_wI rfl (fr_refl s)))) (fun k _ e _ => F_ne _ _ (Or.inr e)) ((F_ne _ _ (Or.inr (by decide))).trans h.2.2.2.1.2.2) (fun a ha => ?_) (fun a _ => rfl)) ⟨⟨?_, fun k e he => ?_⟩, (F_ne _ _ (Or.inr (by decide))).trans hs.2.1, fun k q hq => ?_⟩⟩
  · show gc_I (gc_wI (gc_wI s 97 S.length l1) 98 S.length l2) a = gc_I s a
    rw [I_na _ _ (by omega), I_na _ _ (by omega)]
  · rw [F_eq, List.length_append]
    rfl
  · show gc_I (gc_wI (gc_wI s 97 S.length l1) 98 S.length l2) 97 k = e.1 ∧ gc_I (gc_wI (gc_wI s 97 S.length l1) 98 S.length l2) 98 k = e.2
    rcases Nat.lt_trichotomy k S.length with u | u | u
    · rw [List.getElem?_append_left u] at he
      rw [I_ne _ _ (Or.inr (by omega)), I_ne _ _ (Or.inr (by omega)), I_ne _ _ (Or.inr (by omega)), I_ne _ _ (Or.inr (by omega))]
      exact hs.1.2 k e he
    · rw [u, List.getElem?_append_right (Nat.le_refl _), Nat.sub_self] at he
      have he' : (l1, l2) = e := by simpa using he
      rw [u, I_ne _ _ (Or.inl (by decide)), I_eq, I_eq, ← he']
      exact ⟨rfl, rfl⟩
    · rw [List.getElem?_eq_none (by rw [List.length_append]; show S.length + 1 ≤ k; omega)] at he
      exact absurd he (by simp)
  · show gc_I (gc_wI (gc_wI s 97 S.length l1) 98 S.length l2) 99 k = nI q
    rw [I_ne _ _ (Or.inl (by decide)), I_ne _ _ (Or.inl (by decide))]
    exact hs.2.2 k q hq
/-- a sign that joins two -/
theorem G_op (hP : gc_Cl P) (hm : gc_Mo P) (hd : 4 ≤ d) (h : zR b n T sd m nr s0 i W r o s) (hs : stk S R s) (hl : S.length ≤ 400) (hk : 1 ≤ lev (rk b n i)) (ht : tpl S (lev (rk b n i))) (h1 : ∀ t, i < 400 → zR b n T sd m nr s0 (i + 1) W r o t → stk (S ++ [(rk b n i, 0)]) R t → Hd P d Q t) (h2 : ∀ t, i = 400 → zFR sd s0 2 (tk_st b n i) t → Q none t) : Gj P d Q (rk b n i) s := by
  have hlv := lev_le (rk b n i)
  have h0 : rk b n i ≠ 0 := fun e => by
    rw [e] at hk
    exact absurd hk (by decide)
  refine G_stop hP hm (by omega) h hs hl (by rw [show max (lev (rk b n i)) 1 = lev (rk b n i) by omega]; exact ht) ⟨fun _ => ⟨fun z => absurd z (nI_nle (by omega) (by omega)), fun _ => ⟨by omega, y_push hP hm h hs (by omega) fun t t1 t2 => ⟨by omega, y_go hP hm (by omega) t1 h0 (fun u u1 u2 u3 => ⟨fun z => absurd z (by decide), fun _ => b_X11_pointsOf_91 hP hm (h1 u u1 u2 (stk_fr t2 u3 rfl rfl (fun _ _ _ => rfl)))⟩) (fun u u1 u2 u3 => f_gQ1 hP hm u2 (h2 u u1 u2))⟩⟩⟩, fun z => absurd (by rw [h.2.2.1.1]; decide) z⟩
/-- nothing is open any more -/
theorem G_fin (hP : gc_Cl P) (hm : gc_Mo P) (hd : 3 ≤ d) (h : zR b n T sd m nr s0 i W r o s) (hs : stk [] R s) (hk : lev (rk b n i) = 0) (hQ : Q none s) : Gj P d Q (rk b n i) s := by
  have h46 : gc_F s 67 46 = 0 := hs.1.1
  have e22 : ∀ l1 l2, gc_T P (d - 1) 0 0 211 222 [.ref 67, .int l1, .int l2] [] s (gQ P d Q) := fun l1 l2 =>
    b_X11_goesBeyond_222 hP hm ⟨fun _ => ⟨fun _ => b_X11_pointsOf_90 hP hm (b_X11_pointsOf_91 hP hm (b_X11_pointsOf_23 hP hm ⟨fun _ => hQ, fun z => absurd rfl z⟩)), fun z => absurd rfl z⟩, fun z => absurd (by rw [h46]; decide) z⟩
  refine G_stop hP hm (by omega) h hs (by decide) (fun S' e he => absurd he (by simp)) ⟨fun _ => ⟨fun _ => ⟨by omega, y_is hP hm h (fun _ => ⟨fun z => absurd z (by decide), fun _ => ⟨fun z => absurd h46 z, fun _ => e22 _ _⟩⟩) (fun _ => ⟨fun _ => e22 _ _, fun z => absurd rfl z⟩)⟩, fun z => absurd (by rw [hk]; decide) z⟩, fun z => absurd (by rw [h.2.2.1.1]; decide) z⟩
/-- ( waits: its ) or none -/
theorem G_close (hP : gc_Cl P) (hm : gc_Mo P) (hd : 4 ≤ d) {y : Int32} (h : zR b n T sd m nr s0 i W r (o + 1) s) (hs : stk (S ++ [(6, y)]) R s) (hl : S.length + 1 ≤ 400) (hk : lev (rk b n i) = 0) (h1 : ∀ t, rk b n i = 7 → i < 400 → zR b n T sd m nr s0 (i + 1) W r o t → stk S R t → Eb P d Q t) (h2 : ∀ t, rk b n i = 7 → i = 400 → zFR sd s0 2 (tk_st b n i) t → Q none t) (h3 : ∀ t, rk b n i ≠ 7 → zFR sd s0 1 (tk_st b n i) t → Q none t) : Gj P d Q (rk b n i) s := by
  obtain ⟨t1, t2, t3⟩ := stk_top hs
  refine G_stop hP hm (by omega) h hs (by rw [List.length_append]; exact hl) (fun S' e he => ?_) ⟨fun _ => ⟨fun _ => ⟨by omega, y_is hP hm h (fun e7 => ⟨fun z => absurd z (by decide), fun _ => ⟨fun _ => ⟨by omega, ?_⟩, fun z => absurd z (by rw [t1]; exact nI_ne0 (by omega) (by omega))⟩⟩) (fun e7 => ⟨fun _ => b_X11_goesBeyond_222 hP hm ⟨fun z => absurd z (by rw [t1]; exact nI_nle (by omega) (by omega)), fun _ => ⟨by omega, y_fail hP hm (x := 1) (by decide) h fun u u1 _ => f_gQ hP hm u1 (h3 u e7 u1)⟩⟩, fun z => absurd rfl z⟩)⟩, fun z => absurd (by rw [hk]; decide) z⟩, fun z => absurd (by rw [h.2.2.1.1]; decide) z⟩
  · have := List.append_inj' he rfl
    have e' : (6, y) = e := by simpa using this.2
    rw [← e', hk]
    show lev 6 < max 0 1
    decide
  · rw [t1, nI_pred, h.2.2.2.1.2.2, nI_pred]
    have hz : zR b n T sd m nr s0 i W r o (gc_wF (gc_wF s 67 46 (nI S.length)) 67 13 (nI o)) := zR_F h (fr_wF rfl (fr_wF rfl (fr_refl s))) (fun k e1 e2 _ => (F_ne _ _ (Or.inr e1)).trans (F_ne _ _ (Or.inr e2))) (F_eq _ _ _ _) (fun _ _ => rfl) (fun _ _ => rfl)
    have hk' : stk S R (gc_wF (gc_wF s 67 46 (nI S.length)) 67 13 (nI o)) := stk_popS hs ((F_ne _ _ (Or.inr (by decide))).trans (F_eq _ _ _ _)) ((F_ne _ _ (Or.inr (by decide))).trans (F_ne _ _ (Or.inr (by decide)))) rfl
    refine y_go hP hm (by omega) hz (by rw [e7]; decide) (fun u u1 u2 u3 => ?_) (fun u u1 u2 _ => ?_)
    · exact b_X11_goesBeyond_0 hP hm ⟨fun z => absurd u2.2.2.1.1 z, fun _ => h1 u e7 u1 u2 (stk_fr hk' u3 rfl rfl (fun _ _ _ => rfl)) _ _⟩
    · exact b_X11_goesBeyond_0 hP hm ⟨fun _ => f_gQ hP hm u2 (h2 u e7 u1 u2), fun z => absurd z (zFR_n u2).1⟩
theorem lev_cases {x : Int32} {k : Nat} (hk : 1 ≤ k) (h : lev x = k) : (x = 9 ∧ k = 3) ∨ (x ≠ 9 ∧ x = 28 ∧ k = 2) ∨ (x ≠ 9 ∧ x ≠ 28 ∧ x = 24 ∧ k = 1) := by
  unfold lev at h
  by_cases h9 : x = 9
  · rw [if_pos h9] at h
    exact Or.inl ⟨h9, h.symm⟩
  · rw [if_neg h9] at h
    by_cases h28 : x = 28
    · rw [if_pos h28] at h
      exact Or.inr (Or.inl ⟨h9, h28, h.symm⟩)
    · rw [if_neg h28] at h
      by_cases h24 : x = 24
      · rw [if_pos h24] at h
        exact Or.inr (Or.inr ⟨h9, h28, h24, h.symm⟩)
      · rw [if_neg h24] at h
        omega
/-- two are joined -/
theorem G_join (hP : gc_Cl P) (hm : gc_Mo P) (hd : 5 ≤ d) {x : Int32} {e : Int32 × Int32} {k q1 q2 lo : Nat} (hp24 : ld_p W ≤ 24) (h : zR b n T sd m nr s0 i W r o s) (hs : stk (S ++ [e]) (R ++ [q1, q2]) s) (hl : S.length + R.length ≤ 400) (hi : 1 ≤ i) (hk : lev e.1 = k) (hx : max (lev x) 1 ≤ k)
    (h1 : ∀ t, ld_p W < 24 → zR b n T sd m nr s0 i (np W (k + 2) q1 q2 lo) r o t → stk S (R ++ [ld_p W]) t → Gj P d Q x t) (h2 : ∀ t, ld_p W = 24 → zFR sd s0 2 (tk_st b n (i - 1)) t → Q none t) : Gj P d Q x s := by
  intro l2
  obtain ⟨t1, t2, t3⟩ := stk_top hs
  have h400 := zR_i h
  have hk3 : k ≤ 3 := by rw [← hk]; exact lev_le _
  have h48 : gc_F s 67 48 = nI (R.length + 2) := by
    have := hs.2.1
    rw [List.length_append] at this
    exact this
  have p1 : gc_I s 99 R.length = nI q1 := hs.2.2 R.length q1 (by rw [List.getElem?_append_right (Nat.le_refl _), Nat.sub_self]; rfl)
  have p2 : gc_I s 99 (R.length + 1) = nI q2 := hs.2.2 (R.length + 1) q2 (by rw [List.getElem?_append_right (by omega), show R.length + 1 - R.length = 1 by omega]; rfl)
  have hz : zR b n T sd m nr s0 i W r o (gc_wF (gc_wF s 67 46 (nI S.length)) 67 48 (nI R.length)) := zR_F h (fr_wF rfl (fr_wF rfl (fr_refl s))) (fun k _ e1 e2 => (F_ne _ _ (Or.inr e2)).trans (F_ne _ _ (Or.inr e1))) (((F_ne _ _ (Or.inr (by decide))).trans (F_ne _ _ (Or.inr (by decide)))).trans h.2.2.2.1.2.2) (fun _ _ => rfl) (fun _ _ => rfl)
  have hk' : stk S R (gc_wF (gc_wF s 67 46 (nI S.length)) 67 48 (nI R.length)) := stk_popR (s := gc_wF s 67 46 (nI S.length)) (stk_popS hs (F_eq _ _ _ _) (F_ne _ _ (Or.inr (by decide))) rfl) (F_ne _ _ (Or.inr (by decide))) (F_eq _ _ _ _) rfl
  have g12 : gc_F (gc_wF (gc_wF s 67 46 (nI S.length)) 67 48 (nI R.length)) 67 12 = nI i := hz.1.2.2.1
  have g48 : gc_F (gc_wF (gc_wF s 67 46 (nI S.length)) 67 48 (nI R.length)) 67 48 = nI R.length := F_eq _ _ _ _
  have go : ∀ l, gc_T P (d - 1 - 1) 0 0 210 86 [.ref 67, .int (nI (max (lev x) 1)), .int l] [.int (nI (k + 2)), .ref 67] (gc_wF (gc_wF s 67 46 (nI S.length)) 67 48 (nI R.length)) (jQ P (d - 1) (gQ P d Q) x (nI (lev x))) := by
    intro l
    refine b_X11_joins_86 hP hm ?_
    rw [g12, g48, nI_1, nI_clamp (by omega), nI_clamp (by omega)]
    show vp_in (nI R.length) 420 ∧ vp_in (nI (R.length + 1)) 420 ∧ 1 ≤ d - 1 - 1 ∧ gc_T P _ 0 0 205 0 [.ref 67, .int (nI (k + 2)), .int (gc_I s 99 R.length), .int (gc_I s 99 (R.length + 1)), .int (nI i - 1), gc_u] [] _ _
    obtain ⟨i', rfl⟩ : ∃ i', i = i' + 1 := ⟨i - 1, by omega⟩
    rw [p1, p2, nI_pred]
    have hT := h.1.2.2.2
    refine ⟨vp_in_nI (by omega) (by decide), vp_in_nI (by omega) (by decide), by omega, y_ends hP hm (by omega) (kd := k + 2) (fi := q1) (se := q2) (lo := lo) hp24 hz hk' (by omega) (by omega) (fun _ => ?_) (fun _ => ?_) (fun t u1 u2 u3 => h1 t u1 u2 u3 _) (fun t u1 u2 => f_Gj hP hm u2 (h2 t u1 u2) _)⟩
    · unfold kI1
      rw [if_neg (by omega)]
    · unfold kI2
      rw [if_pos (by omega)]
  refine b_X11_joins_0 hP hm ⟨fun z => absurd h.2.2.1.1 z, fun _ => ?_⟩
  rw [t1, nI_pred, nI_clamp (by omega), t2]
  refine ⟨fun y => absurd y (nI_nle (by omega) (by omega)), fun _ => ⟨vp_in_nI (by omega) (by decide), by omega, sp_level hP hm ⟨fun y => ?_, fun _ => ?_⟩⟩⟩
  · rw [hk] at y
    exact absurd y (nI_nlt hx (by omega))
  · rw [t1, nI_pred, nI_clamp (by omega), t2, h48, nI_sub2]
    refine ⟨vp_in_nI (by omega) (by decide), ?_⟩
    rcases lev_cases (by omega) hk with ⟨e9, ek⟩ | ⟨e9, e28, ek⟩ | ⟨e9, e28, e24, ek⟩
    · refine ⟨fun y => absurd e9 y, fun _ => ?_⟩
      have := go e.1
      rw [ek] at this
      exact this
    · refine ⟨fun _ => ⟨fun y => absurd e28 y, fun _ => ?_⟩, fun y => absurd y e9⟩
      have := go e.1
      rw [ek] at this
      exact this
    · refine ⟨fun _ => ⟨fun _ => ?_, fun y => absurd y e28⟩, fun y => absurd y e9⟩
      have := go e.1
      rw [ek] at this
      exact this
/-- ever, or [ ], ends -/
theorem E_pop (hP : gc_Cl P) (hm : gc_Mo P) (hd : 4 ≤ d) {e : Int32 × Int32} {kd q se lo : Nat} (hp24 : ld_p W ≤ 24) (h : zR b n T sd m nr s0 i W r (o + 1) s) (hs : stk (S ++ [e]) (R ++ [q]) s) (hl : S.length + R.length ≤ 400) (hi : 1 ≤ i) (he : (e.1 = 29 ∧ kd = 6) ∨ (e.1 = 11 ∧ kd = 7 ∧ (r = none → e.2 = nI se)))
    (h1 : ∀ t, ld_p W < 24 → zR b n T sd m nr s0 i (np W kd q se lo) r o t → stk S (R ++ [ld_p W]) t → Eb P d Q t) (h2 : ∀ t, ld_p W = 24 → zFR sd s0 2 (tk_st b n (i - 1)) t → Q none t) : Eb P d Q s := by
  intro l1 l2
  obtain ⟨t1, t2, t3⟩ := stk_top hs
  obtain ⟨p1, p2⟩ := stk_part hs
  have h400 := zR_i h
  have hz : zR b n T sd m nr s0 i W r o (gc_wF (gc_wF (gc_wF s 67 46 (nI S.length)) 67 13 (nI o)) 67 48 (nI R.length)) := zR_F h (fr_wF rfl (fr_wF rfl (fr_wF rfl (fr_refl s)))) (fun k e0 e1 e2 => (F_ne _ _ (Or.inr e2)).trans ((F_ne _ _ (Or.inr e0)).trans (F_ne _ _ (Or.inr e1)))) ((F_ne _ _ (Or.inr (by decide))).trans (F_eq _ _ _ _)) (fun _ _ => rfl) (fun _ _ => rfl)
  have hk' : stk S R (gc_wF (gc_wF (gc_wF s 67 46 (nI S.length)) 67 13 (nI o)) 67 48 (nI R.length)) := stk_popR (s := gc_wF (gc_wF s 67 46 (nI S.length)) 67 13 (nI o)) (stk_popS hs ((F_ne _ _ (Or.inr (by decide))).trans (F_eq _ _ _ _)) ((F_ne _ _ (Or.inr (by decide))).trans (F_ne _ _ (Or.inr (by decide)))) rfl) (F_ne _ _ (Or.inr (by decide))) (F_eq _ _ _ _) rfl
  have g12 : gc_F (gc_wF (gc_wF (gc_wF s 67 46 (nI S.length)) 67 13 (nI o)) 67 48 (nI R.length)) 67 12 = nI i := hz.1.2.2.1
  have g48 : gc_F (gc_wF (gc_wF (gc_wF s 67 46 (nI S.length)) 67 13 (nI o)) 67 48 (nI R.length)) 67 48 = nI R.length := F_eq _ _ _ _
  have g46 : gc_F (gc_wF (gc_wF (gc_wF s 67 46 (nI S.length)) 67 13 (nI o)) 67 48 (nI R.length)) 67 46 = nI S.length := hk'.1.1
  have go : ∀ (l3 a : Int32) , (r = none → a = kI2 kd se) → gc_T P (d - 1) 0 0 211 141 [.ref 67, .int l3, l2] [.int a, .int (nI q), .int (nI kd), .ref 67] (gc_wF (gc_wF (gc_wF s 67 46 (nI S.length)) 67 13 (nI o)) 67 48 (nI R.length)) (gQ P d Q) := by
    intro l3 a ha
    refine b_X11_goesBeyond_141 hP hm ?_
    rw [g12]
    obtain ⟨i', rfl⟩ : ∃ i', i = i' + 1 := ⟨i - 1, by omega⟩
    rw [nI_pred]
    have hT := h.1.2.2.2
    refine ⟨by omega, y_ends hP hm (by omega) (kd := kd) (fi := q) (se := se) (lo := lo) hp24 hz hk' (by omega) (by omega) (fun _ => ?_) ha (fun t u1 u2 u3 => h1 t u1 u2 u3 _ _) (fun t u1 u2 => f_Eb hP hm (by omega) u2 (h2 t u1 u2) _ _)⟩
    unfold kI1
    rw [if_neg (by omega)]
  have e53 : gc_T P (d - 1) 0 0 211 53 [.ref 67, l1, l2] [] s (gQ P d Q) := by
    refine b_X11_goesBeyond_53 hP hm ?_
    rw [t1, nI_pred, nI_clamp (by omega), t2, h.2.2.2.1.2.2, nI_pred, p1, nI_pred]
    refine ⟨vp_in_nI (by omega) (by decide), ?_⟩
    rcases he with ⟨e1, e2⟩ | ⟨e1, e2, e3⟩
    · refine ⟨fun y => absurd e1 y, fun _ => b_X11_goesBeyond_102 hP hm ⟨fun y => absurd y (by decide), fun _ => b_X11_goesBeyond_115 hP hm ?_⟩⟩
      rw [g48, nI_clamp (by omega)]
      refine ⟨vp_in_nI (by omega) (by decide), fun y => absurd y (by decide), fun _ => ?_⟩
      have := go 1 (-1) (fun _ => by unfold kI2; rw [if_neg (by omega)])
      rw [← p2, e2] at this
      exact this
    · refine ⟨fun _ => b_X11_goesBeyond_102 hP hm ⟨fun _ => b_X11_goesBeyond_115 hP hm ?_, fun y => absurd rfl y⟩, fun y => absurd (e1.symm.trans y) (by decide)⟩
      rw [g48, g46, nI_clamp (by omega), nI_clamp (by omega)]
      refine ⟨vp_in_nI (by omega) (by decide), fun _ => ⟨vp_in_nI (by omega) (by decide), ?_⟩, fun y => absurd rfl y⟩
      have := go 0 e.2 (fun z => by unfold kI2; rw [if_pos (by omega)]; exact e3 z)
      rw [← p2, e2, ← t3] at this
      exact this
  refine b_X11_goesBeyond_7 hP hm ⟨fun z => absurd h.2.2.1.1 z, fun _ => ?_⟩
  rw [t1, nI_pred, nI_clamp (by omega), t2]
  refine ⟨fun y => absurd y (nI_nle (by omega) (by omega)), fun _ => ⟨vp_in_nI (by omega) (by decide), fun _ => e53, fun y => ⟨vp_in_nI (by omega) (by decide), fun y2 => ?_, fun _ => e53⟩⟩⟩
  rcases he with ⟨e1, _⟩ | ⟨e1, _⟩
  · exact absurd e1 y
  · exact absurd e1 y2
end Bs
