/-! judge: the first word of a step, by both. -/
def jK (Q : gc_TQ) : gc_TQ := fun r3 s4 => gc_ri r3 fun x5 => (x5 = 0 ∨ x5 = 1) ∧ Q (some (.int x5)) s4
theorem sp3_p {p sk bs : Nat} (hsk : sk < 256) (hbs : bs < 8) : sp3 p sk bs % 8 = bs ∧ sp3 p sk bs / 8 % 256 = sk ∧ sp3 p sk bs / 2048 = p ∧ sp3 p sk bs % 2048 / 8 = sk := by
  unfold sp3
  omega
section Fr
variable {P : gc_Pr} {d : Nat} {s s0 : gc_St} {Q : gc_TQ} {b : Nat → Nat} {n T L lv i o : Nat} {nl : List (List Nat × Nat × Nat)} {W : ld_W} {N : List (Nat × Nat)} {C : List Nat} {st dp id p sk bs lvl : Nat}
theorem lst_N {α : Type} (N : List α) (e : α) : (N ++ [e])[N.length]? = some e := by
  rw [List.getElem?_append_right (Nat.le_refl _), Nat.sub_self]
  rfl
theorem lst_lt {α : Type} {N : List α} {e x : α} {k : Nat} (h : N[k]? = some x) : (N ++ [e])[k]? = some x := by
  rw [List.getElem?_append_left (List.getElem?_eq_some_iff.mp h).1]
  exact h
theorem j_front (hP : gc_Cl P) (hm : gc_Mo P) (hd : 4 ≤ d) (hlt : ∀ j, b j < 256) (hp : p < ld_p W) (hp24 : ld_p W ≤ 24) (hsk : sk < 256) (hbs : bs < 8) (hN : N.length < 64) (hlv : lvl < 1000) (hdp : dp < 1000) (hCl : C.length ≤ 64) (hCc : ∀ k, k < C.length → C.getD k 0 < 256) (h : jA b n T L W nl s0 o i (N ++ [(sp3 p sk bs, lvl)]) C st dp id s)
    (hbad : ∀ x y, stF b n i W p lvl = .inl (x, y) → ∀ t, jF s0 x y t → Q (some (.int 0)) t)
    (hgo : ∀ k, stF b n i W p lvl = .inr k → k ≠ 9 → ∀ t, jA b n T L W nl s0 o (i + 1) N [] (st + 1) (max dp lvl) (id + idl C) t → jP p sk bs lvl (tk_st b n i) t → (k ≠ 6 → gc_T P (d - 1) 0 0 80 0 [.ref 28, .int (nI k), gc_u, gc_u] [] t (jK Q)) ∧ (k = 6 → gc_T P (d - 1) 0 0 81 0 [.ref 28, gc_u, gc_u] [] t (jK Q)))
    (huse : stF b n i W p lvl = .inr 9 → ∀ t, jA b n T L W nl s0 o (i + 1) N C (st + 1) (max dp lvl) id t → jP p sk bs lvl (tk_st b n i) t → gc_T P (d - 1) 0 0 83 0 [.ref 28, gc_u] [] t (jK Q)) : gc_T P d 0 0 77 0 [.ref 28, gc_u] [] s Q := by
  obtain ⟨q1, q2, q3, q4⟩ := sp3_p (p := p) hsk hbs
  have hx : sp3 p sk bs < 2 ^ 31 := by
    unfold sp3
    omega
  refine b_X6_oneStep_0 hP hm ⟨by omega, b_X6_closeTop_0 hP hm ?_⟩
  have h6 : gc_F s 28 6 = nI (N.length + 1) := by
    have := h.2.1.1
    rw [List.length_append] at this
    exact this
  have h29 := h.2.1.2 N.length _ (lst_N N _)
  rw [h6, nI_pred, nI_clamp (by omega), h29.1, h29.2, st_lit 8, st_lit 256, st_lit 2048, pk_rem hx (by decide) (by decide), pk_div hx (by decide) (by decide), pk_rem (by omega) (by decide) (by decide), pk_div hx (by decide) (by decide), q1, q2, q3]
  refine ⟨vp_in_nI hN (by decide), vp_in_nI hN (by decide), ?_⟩
  have hS : ∀ u, u = gc_wF (gc_wF (gc_wF (gc_wF (gc_wF s 28 6 (nI N.length)) 28 11 (nI lvl)) 28 10 (nI bs)) 28 9 (nI sk)) 28 8 (nI p) → jA b n T L W nl s0 o i N C st dp id u ∧ gc_F u 28 8 = nI p ∧ gc_F u 28 9 = nI sk ∧ gc_F u 28 10 = nI bs ∧ gc_F u 28 11 = nI lvl := by
    intro u e
    have g : fr (fun q k => Nat.beq q 28 && (Nat.ble 6 k && Nat.ble k 11)) BJ s u := by
      rw [e]
      exact fr_wF rfl (fr_wF rfl (fr_wF rfl (fr_wF rfl (fr_wF rfl (fr_refl s)))))
    have hF : ∀ k, k ≠ 6 → k ≠ 8 → k ≠ 9 → k ≠ 10 → k ≠ 11 → gc_F u 28 k = gc_F s 28 k := fun k a1 a2 a3 a4 a5 => by
      rw [e, F_ne _ _ (Or.inr a2), F_ne _ _ (Or.inr a3), F_ne _ _ (Or.inr a4), F_ne _ _ (Or.inr a5), F_ne _ _ (Or.inr a1)]
    have hI : gc_I u = gc_I s := by rw [e]; rfl
    obtain ⟨h1, h2, h3, h4⟩ := h
    refine ⟨⟨jc_28 h1 g (fun q k z => by rw [Bool.and_eq_true, Bool.and_eq_true, Nat.beq_eq, Nat.ble_eq, Nat.ble_eq] at z; omega), ⟨?_, fun k x hk => ?_⟩, ⟨(hF 5 (by decide) (by decide) (by decide) (by decide) (by decide)).trans h3.1, by rw [hI]; exact h3.2⟩, (hF 13 (by decide) (by decide) (by decide) (by decide) (by decide)).trans h4.1, (hF 14 (by decide) (by decide) (by decide) (by decide) (by decide)).trans h4.2.1, (hF 15 (by decide) (by decide) (by decide) (by decide) (by decide)).trans h4.2.2.1, (hF 7 (by decide) (by decide) (by decide) (by decide) (by decide)).trans h4.2.2.2⟩, ?_, ?_, ?_, ?_⟩
    · rw [e, F_ne _ _ (Or.inr (by decide)), F_ne _ _ (Or.inr (by decide)), F_ne _ _ (Or.inr (by decide)), F_ne _ _ (Or.inr (by decide)), F_eq]
    · rw [hI]
      exact h2.2 k x (lst_lt hk)
    · rw [e, F_eq]
    · rw [e, F_ne _ _ (Or.inr (by decide)), F_eq]
    · rw [e, F_ne _ _ (Or.inr (by decide)), F_ne _ _ (Or.inr (by decide)), F_eq]
    · rw [e, F_ne _ _ (Or.inr (by decide)), F_ne _ _ (Or.inr (by decide)), F_ne _ _ (Or.inr (by decide)), F_eq]
  have hS0 := hS _ rfl
  revert hS0
  generalize gc_wF (gc_wF (gc_wF (gc_wF (gc_wF s 28 6 (nI N.length)) 28 11 (nI lvl)) 28 10 (nI bs)) 28 9 (nI sk)) 28 8 (nI p) = u
  intro ⟨hu, u8, u9, u10, u11⟩
  refine ⟨by omega, j_stepAhead hP hm hlt hu.1 ?_⟩
  cases hst : stp b n i with
  | none =>
    refine ⟨fun z => absurd rfl z, fun _ => ⟨by omega, sp_placeAhead hP hm hu.1.1 ⟨by omega, j_blame hP hm (x := 1) (by decide) hu.1.2.2.1 fun t t1 => ⟨Or.inl rfl, hbad 1 _ ?_ t t1⟩⟩⟩⟩
    unfold stF
    rw [hst]
  | some k =>
    obtain ⟨hk10, hk0, c, kx, hck, hkx⟩ := stp_k hst
    have hF0 : ∀ x y, (¬ (i < 400 ∧ lvl ≤ 60) → x = 2 → y = tk_st b n i → stF b n i W p lvl = .inl (x, y)) := by
      intro x y h1 h2 h3
      unfold stF
      rw [hst, h2, h3]
      show (if i < 400 ∧ lvl ≤ 60 then _ else _) = _
      rw [if_neg h1]
    refine ⟨fun _ => ⟨by omega, j_take hP hm hck hkx hu.1 (fun t ti t1 t2 _ => ⟨fun _ => ?_, fun z => absurd z (by decide)⟩) (fun t ti t1 => ⟨fun z => absurd rfl z, fun _ => hbad 2 _ (hF0 2 _ (by omega) rfl rfl) t t1⟩)⟩, fun z => absurd z (nI_nm1 (by omega))⟩
    have hA := jA_3 hu t2 t1
    have t28 : ∀ k, gc_F t 28 k = gc_F u 28 k := fun k => fr_F t2 rfl
    have t8 : gc_F t 3 8 = nI (tk_st b n i) := by
      have := t1.2.1 (by omega)
      rw [Nat.add_sub_cancel] at this
      exact this
    rw [t28 11, u11, t8]
    -- its place is kept
    have hb : ∀ w, w = gc_wF t 28 12 (nI (tk_st b n i)) → jA b n T L W nl s0 o (i + 1) N C st dp id w ∧ jP p sk bs lvl (tk_st b n i) w := by
      intro w e
      have hF : ∀ k, k ≠ 12 → gc_F w 28 k = gc_F t 28 k := fun k hk => by rw [e, F_ne _ _ (Or.inr hk)]
      have hI : gc_I w = gc_I t := by rw [e]; rfl
      obtain ⟨h1, h2, h3, h4⟩ := hA
      refine ⟨⟨jc_28 h1 (A := fun q k => Nat.beq q 28 && Nat.beq k 12) (by rw [e]; exact fr_wF rfl (fr_refl t)) (fun q k z => by rw [Bool.and_eq_true, Nat.beq_eq, Nat.beq_eq] at z; omega), ⟨(hF 6 (by decide)).trans h2.1, by rw [hI]; exact h2.2⟩, ⟨(hF 5 (by decide)).trans h3.1, by rw [hI]; exact h3.2⟩, (hF 13 (by decide)).trans h4.1, (hF 14 (by decide)).trans h4.2.1, (hF 15 (by decide)).trans h4.2.2.1, (hF 7 (by decide)).trans h4.2.2.2⟩, ((hF 8 (by decide)).trans (t28 8)).trans u8, ((hF 9 (by decide)).trans (t28 9)).trans u9, ((hF 10 (by decide)).trans (t28 10)).trans u10, ((hF 11 (by decide)).trans (t28 11)).trans u11, by rw [e, F_eq]⟩
    have hb0 := hb _ rfl
    revert hb0
    generalize gc_wF t 28 12 (nI (tk_st b n i)) = w
    intro ⟨hw, hwp⟩
    -- the step is counted
    have cnt : stF b n i W p lvl = .inr k → gc_T P d 0 0 77 120 [.ref 28, .int (nI k)] [] w Q := by
      intro hF
      refine b_X6_oneStep_120 hP hm ?_
      rw [hw.2.2.2.1, hw.2.2.2.2.1, hwp.2.2.2.1, nI_1]
      have emax : (if nI dp < nI lvl then nI lvl else nI dp) = nI (max dp lvl) := by
        by_cases z : dp < lvl
        · rw [if_pos ((nI_ltI (by omega) (by omega)).mpr z), Nat.max_eq_right (by omega)]
        · rw [if_neg (fun y => z ((nI_ltI (by omega) (by omega)).mp y)), Nat.max_eq_left (by omega)]
      rw [emax]
      have hc : ∀ v, v = gc_wF (gc_wF w 28 13 (nI (st + 1))) 28 14 (nI (max dp lvl)) → jA b n T L W nl s0 o (i + 1) N C (st + 1) (max dp lvl) id v ∧ jP p sk bs lvl (tk_st b n i) v := by
        intro v e
        have hF : ∀ k, k ≠ 13 → k ≠ 14 → gc_F v 28 k = gc_F w 28 k := fun k h1 h2 => by rw [e, F_ne _ _ (Or.inr h2), F_ne _ _ (Or.inr h1)]
        have hI : gc_I v = gc_I w := by rw [e]; rfl
        obtain ⟨h1, h2, h3, h4⟩ := hw
        refine ⟨⟨jc_28 h1 (A := fun q k => Nat.beq q 28 && (Nat.beq k 13 || Nat.beq k 14)) (by rw [e]; exact fr_wF rfl (fr_wF rfl (fr_refl w))) (fun q k z => by rw [Bool.and_eq_true, Bool.or_eq_true, Nat.beq_eq, Nat.beq_eq, Nat.beq_eq] at z; omega), ⟨(hF 6 (by decide) (by decide)).trans h2.1, by rw [hI]; exact h2.2⟩, ⟨(hF 5 (by decide) (by decide)).trans h3.1, by rw [hI]; exact h3.2⟩, by rw [e, F_ne _ _ (Or.inr (by decide)), F_eq], by rw [e, F_eq], (hF 15 (by decide) (by decide)).trans h4.2.2.1, (hF 7 (by decide) (by decide)).trans h4.2.2.2⟩, (hF 8 (by decide) (by decide)).trans hwp.1, (hF 9 (by decide) (by decide)).trans hwp.2.1, (hF 10 (by decide) (by decide)).trans hwp.2.2.1, (hF 11 (by decide) (by decide)).trans hwp.2.2.2.1, (hF 12 (by decide) (by decide)).trans hwp.2.2.2.2⟩
      have hc0 := hc _ rfl
      revert hc0
      generalize gc_wF (gc_wF w 28 13 (nI (st + 1))) 28 14 (nI (max dp lvl)) = v
      intro ⟨hv, hvp⟩
      by_cases h9 : k = 9
      · rw [h9] at hF ⊢
        exact ⟨by omega, fun z => absurd rfl z, fun _ => ⟨by omega, huse hF v hv hvp⟩⟩
      · refine ⟨by omega, fun _ => ⟨by omega, j_row0 hP hm hv hvp hCl hCc fun q q1 q2 => ?_⟩, fun z => absurd ((nI_eq (b := 9) (by omega) (by decide)).mp z) h9⟩
        obtain ⟨g1, g2⟩ := hgo k hF h9 q q1 q2
        exact ⟨fun z => ⟨by omega, g1 (fun y => z (by rw [y]; rfl))⟩, fun z => ⟨by omega, g2 ((nI_eq (b := 6) (by omega) (by decide)).mp z)⟩⟩
    refine pk_le lvl 60 (fun z60 => ?_) (fun z60 => ⟨by omega, j_blame hP hm (x := 2) (by decide) hw.1.2.2.1 fun q q1 => ⟨Or.inl rfl, hbad 2 _ (hF0 2 _ (by omega) rfl rfl) q q1⟩⟩)
    have hF1 : stF b n i W p lvl = (if k ≠ 9 ∧ kdF k ≠ ld_kd W p then .inl (6, tk_st b n i) else .inr k) := by
      unfold stF
      rw [hst]
      show (if i < 400 ∧ lvl ≤ 60 then _ else _) = _
      rw [if_pos ⟨ti, z60⟩]
    by_cases h9 : k = 9
    · rw [if_neg (fun z => z.1 h9)] at hF1
      have := cnt hF1
      rw [h9] at this ⊢
      exact ⟨fun _ => this, fun z => absurd rfl z⟩
    · refine ⟨fun z => absurd ((nI_eq (b := 9) (by omega) (by decide)).mp z) h9, fun _ => ⟨by omega, j_kindFor hP hm (by omega) ?_⟩⟩
      obtain ⟨⟨hL, hlw, hcl, hok, _⟩, _⟩ := hw.1.2.2.2.2
      show gc_io 2 (gc_lw w) ∧ vp_in (gc_F w 28 8) 24 ∧ _
      have e13 : gc_I w (gc_rS L 13) p = nI (ld_kd W p) := (hcl.2.2.2.2 p hp).1
      rw [hlw, hwp.1, nI_clamp (by omega), e13]
      have hkd : ld_kd W p ≤ 7 := by
        rcases hok.2.2.2.2.2 p hp with ⟨z, _⟩ | ⟨z, _⟩ | ⟨z, _⟩ | ⟨z, _⟩ <;> omega
      have hkf : kdF k ≤ 7 := by
        have : ∀ k, k < 9 → kdF k ≤ 7 := by decide
        exact this k (by omega)
      refine ⟨cl_io hL, vp_in_nI (by omega) (by decide), fun z => ?_, fun z => ⟨by omega, ?_⟩⟩
      · have z' : kdF k = ld_kd W p := (nI_eq (by omega) (by omega)).mp z
        rw [if_neg (fun y => y.2 z')] at hF1
        exact cnt hF1
      · have z' : kdF k ≠ ld_kd W p := fun y => z (by rw [y])
        rw [if_pos ⟨h9, z'⟩] at hF1
        rw [hwp.2.2.2.2]
        exact j_blame hP hm (x := 6) (by decide) hw.1.2.2.1 fun q q1 => ⟨Or.inl rfl, hbad 6 _ hF1 q q1⟩
theorem k_front (hP : gc_Cl P) (hm : gc_Mo P) (hd : 4 ≤ d) (hlt : ∀ j, b j < 256) (hp : p < ld_p W) (hp24 : ld_p W ≤ 24) (hsk : sk < 256) (hbs : bs < 8) (hN : N.length < 64) (hlv : lvl < 1000) (hdp : dp < 1000) (hCl : C.length ≤ 64) (hCc : ∀ k, k < C.length → C.getD k 0 < 256) (h : kA b n T lv W nl o s0 i (N ++ [(sp3 p sk bs, lvl)]) C st dp id s)
    (hbad : ∀ x y, stF b n i W p lvl = .inl (x, y) → ∀ t, kF' s0 x y t → Q none t)
    (hgo : ∀ k, stF b n i W p lvl = .inr k → ∀ t, kA b n T lv W nl o s0 (i + 1) N (if k = 9 then C else []) (st + 1) (max dp lvl) (if k = 9 then id else id + idl C) t → gc_T P d 0 0 264 177 [.ref 67, .int (nI (sp3 p sk bs)), .int (nI lvl), .int (nI p), .int (nI sk), .int (nI bs), .int (nI i), .int (nI k), gc_u] [] t Q) : gc_T P d 0 0 264 0 [.ref 67, gc_u, gc_u, gc_u, gc_u, gc_u, gc_u, gc_u, gc_u] [] s Q := by
  obtain ⟨q1, q2, q3, q4⟩ := sp3_p (p := p) hsk hbs
  have hx : sp3 p sk bs < 2 ^ 31 := by
    unfold sp3
    omega
  have h400 := kj_i h.1
  have h64 : gc_F s 67 64 = nI (N.length + 1) := by
    have := h.2.1.1
    rw [List.length_append] at this
    exact this
  have h107 := h.2.1.2 N.length _ (lst_N N _)
  refine b_X11_oneStep_0 hP hm ?_
  rw [h64, nI_pred, nI_clamp (by omega), h107.1]
  refine ⟨vp_in_nI (by omega) (by decide), ?_⟩
  have hS : ∀ u, u = gc_wF s 67 64 (nI N.length) → kA b n T lv W nl o s0 i N C st dp id u ∧ gc_I u 108 N.length = nI lvl := by
    intro u e
    have g : fr (fun q k => Nat.beq q 67 && Nat.beq k 64) BK s u := by
      rw [e]
      exact fr_wF rfl (fr_refl s)
    have hF : ∀ k, k ≠ 64 → gc_F u 67 k = gc_F s 67 k := fun k hk => by rw [e, F_ne _ _ (Or.inr hk)]
    have hI : gc_I u = gc_I s := by rw [e]; rfl
    obtain ⟨h1, h2, h3, h4⟩ := h
    exact ⟨⟨kj_w h1 g (fun q k z => by rw [Bool.and_eq_true, Nat.beq_eq, Nat.beq_eq] at z; omega) (kbd h1 (hF 73 (by decide))), ⟨by rw [e, F_eq], fun k x hk => by rw [hI]; exact h2.2 k x (lst_lt hk)⟩, ⟨(hF 73 (by decide)).trans h3.1, by rw [hI]; exact h3.2⟩, (hF 65 (by decide)).trans h4.1, (hF 66 (by decide)).trans h4.2.1, (hF 67 (by decide)).trans h4.2.2⟩, by rw [hI]; exact h107.2⟩
  have hS0 := hS _ rfl
  revert hS0
  generalize gc_wF s 67 64 (nI N.length) = u
  intro ⟨hu, u108⟩
  refine b_X11_oneStep_20 hP hm ?_
  rw [hu.2.1.1, nI_clamp (by omega), u108]
  refine ⟨vp_in_nI (by omega) (by decide), b_X11_oneStep_30 hP hm ?_⟩
  rw [st_lit 2048, st_lit 8, pk_rem hx (by decide) (by decide), pk_div hx (by decide) (by decide), pk_div (by omega) (by decide) (by decide), q3, q4]
  refine b_X11_oneStep_46 hP hm ?_
  rw [st_lit 8, pk_rem hx (by decide) (by decide), q1, hu.1.1.2.2.1]
  -- with a fault all ends
  have f131 : ∀ x y t l7, kF' s0 x y t → Q none t → gc_T P d 0 0 264 131 [.ref 67, .int (nI (sp3 p sk bs)), .int (nI lvl), .int (nI p), .int (nI sk), .int (nI bs), .int (nI i), .int l7, gc_u] [] t Q := fun x y t l7 t1 t2 => b_X11_oneStep_131 hP hm ⟨fun z => absurd z (kF_n t1).2.1, fun _ => t2⟩
  have f96 : ∀ x y t l7, kF' s0 x y t → Q none t → gc_T P d 0 0 264 96 [.ref 67, .int (nI (sp3 p sk bs)), .int (nI lvl), .int (nI p), .int (nI sk), .int (nI bs), .int (nI i), .int l7, gc_u] [] t Q := fun x y t l7 t1 t2 => b_X11_oneStep_96 hP hm ⟨fun _ => f131 x y t l7 t1 t2, fun z => absurd z (kF_n t1).1⟩
  have f75 : ∀ x y t l7, kF' s0 x y t → Q none t → gc_T P d 0 0 264 75 [.ref 67, .int (nI (sp3 p sk bs)), .int (nI lvl), .int (nI p), .int (nI sk), .int (nI bs), .int (nI i), .int l7, gc_u] [] t Q := fun x y t l7 t1 t2 => by
    have f91 : gc_T P d 0 0 264 91 [.ref 67, .int (nI (sp3 p sk bs)), .int (nI lvl), .int (nI p), .int (nI sk), .int (nI bs), .int (nI i), .int l7, gc_u] [] t Q := b_X11_oneStep_91 hP hm ⟨by omega, sp_mfailF hP hm (kF_n t1).2.1 (f96 x y t l7 t1 t2)⟩
    exact b_X11_oneStep_75 hP hm ⟨fun _ => f91, fun _ => ⟨fun _ => f96 x y t l7 t1 t2, fun _ => f91⟩⟩
  refine b_X11_oneStep_58 hP hm ⟨by omega, k_stepTold hP hm (by omega) hlt hu.1 ?_⟩
  cases hst : stp b n i with
  | none =>
    refine ⟨fun z => absurd rfl z, fun _ => ⟨by omega, k_fail hP hm (x := 1) (by decide) hu.1 fun t t1 => f75 _ _ t _ t1 (hbad 1 _ ?_ t t1)⟩⟩
    unfold stF
    rw [hst]
  | some k =>
    obtain ⟨hk10, hk0, c, kx, hck, hkx⟩ := stp_k hst
    have hF0 : ¬ (i < 400 ∧ lvl ≤ 60) → stF b n i W p lvl = .inl (2, tk_st b n i) := by
      intro h1
      unfold stF
      rw [hst]
      show (if i < 400 ∧ lvl ≤ 60 then _ else _) = _
      rw [if_neg h1]
    refine ⟨fun _ => ?_, fun z => absurd z (nI_nm1 (by omega))⟩
    have e91 : ¬ (i < 400 ∧ lvl ≤ 60) → gc_T P d 0 0 264 91 [.ref 67, .int (nI (sp3 p sk bs)), .int (nI lvl), .int (nI p), .int (nI sk), .int (nI bs), .int (nI i), .int (nI k), gc_u] [] u Q := fun hno => b_X11_oneStep_91 hP hm ⟨by omega, k_fail hP hm (x := 2) (by decide) hu.1 fun t t1 => f96 _ _ t _ t1 (hbad 2 _ (hF0 hno) t t1)⟩
    show gc_T P d 0 0 264 75 [.ref 67, .int (nI (sp3 p sk bs)), .int (nI lvl), .int (nI p), .int (nI sk), .int (nI bs), .int (nI i), .int (nI k), gc_u] [] u Q
    refine b_X11_oneStep_75 hP hm ?_
    rw [hu.1.1.2.2.1]
    refine pk_lt 60 lvl (fun z => e91 (by omega)) (fun z60 => ⟨fun z => ?_, fun z => e91 (fun y => by have := (nI_eq (b := 400) (by omega) (by decide)).mp z; omega)⟩)
    have hi4 : i < 400 := Decidable.byContradiction fun y => z (by rw [show i = 400 by omega]; rfl)
    have hF1 : stF b n i W p lvl = (if k ≠ 9 ∧ kdF k ≠ ld_kd W p then .inl (6, tk_st b n i) else .inr k) := by
      unfold stF
      rw [hst]
      show (if i < 400 ∧ lvl ≤ 60 then _ else _) = _
      rw [if_pos ⟨hi4, z60⟩]
    have cnt : stF b n i W p lvl = .inr k → gc_T P d 0 0 264 131 [.ref 67, .int (nI (sp3 p sk bs)), .int (nI lvl), .int (nI p), .int (nI sk), .int (nI bs), .int (nI i), .int (nI k), gc_u] [] u Q := by
      intro hF
      refine b_X11_oneStep_131 hP hm ?_
      rw [hu.1.2.2.1.1]
      refine ⟨fun _ => ⟨by omega, k_go hP hm (by omega) hu.1 hk0 (fun t _ t1 t2 => ?_) (fun t ti => by omega)⟩, fun z => absurd (by decide) z⟩
      have hA := kA_12 hu t2 t1
      show (nI lvl ≤ gc_F t 67 66 → _) ∧ _
      rw [hA.2.2.2.2.1, hA.2.2.2.1, nI_1]
      have fin : ∀ v, kA b n T lv W nl o s0 (i + 1) N C (st + 1) (max dp lvl) id v → gc_T P d 0 0 264 166 [.ref 67, .int (nI (sp3 p sk bs)), .int (nI lvl), .int (nI p), .int (nI sk), .int (nI bs), .int (nI i), .int (nI k), gc_u] [] v Q := by
        intro v hv
        by_cases h9 : k = 9
        · refine b_X11_oneStep_166 hP hm ⟨fun _ => hgo k hF v ?_, fun z => absurd (by rw [h9]; rfl) z⟩
          rw [if_pos h9, if_pos h9]
          exact hv
        · refine b_X11_oneStep_166 hP hm ⟨fun z => absurd ((nI_eq (b := 9) (by omega) (by decide)).mp z) h9, fun _ => ⟨by omega, k_row0 hP hm hv hCl hCc fun q q1 => hgo k hF q ?_⟩⟩
          rw [if_neg h9, if_neg h9]
          exact q1
      have w1 : ∀ v (x : Nat), v = gc_wF t 67 65 (nI (st + 1)) → kA b n T lv W nl o s0 (i + 1) N C (st + 1) dp id v := by
        intro v _ e
        have hF : ∀ k, k ≠ 65 → gc_F v 67 k = gc_F t 67 k := fun k h1 => by rw [e, F_ne _ _ (Or.inr h1)]
        have hI : gc_I v = gc_I t := by rw [e]; rfl
        obtain ⟨h1, h2, h3, h4⟩ := hA
        exact ⟨kj_w h1 (A := fun q k => Nat.beq q 67 && Nat.beq k 65) (by rw [e]; exact fr_wF rfl (fr_refl t)) (fun q k z => by rw [Bool.and_eq_true, Nat.beq_eq, Nat.beq_eq] at z; omega) (kbd h1 (hF 73 (by decide))), ⟨(hF 64 (by decide)).trans h2.1, by rw [hI]; exact h2.2⟩, ⟨(hF 73 (by decide)).trans h3.1, by rw [hI]; exact h3.2⟩, by rw [e, F_eq], (hF 66 (by decide)).trans h4.2.1, (hF 67 (by decide)).trans h4.2.2⟩
      have w2 : ∀ v v', kA b n T lv W nl o s0 (i + 1) N C (st + 1) dp id v → v' = gc_wF v 67 66 (nI lvl) → kA b n T lv W nl o s0 (i + 1) N C (st + 1) lvl id v' := by
        intro v v' hv e
        have hF : ∀ k, k ≠ 66 → gc_F v' 67 k = gc_F v 67 k := fun k h1 => by rw [e, F_ne _ _ (Or.inr h1)]
        have hI : gc_I v' = gc_I v := by rw [e]; rfl
        obtain ⟨h1, h2, h3, h4⟩ := hv
        exact ⟨kj_w h1 (A := fun q k => Nat.beq q 67 && Nat.beq k 66) (by rw [e]; exact fr_wF rfl (fr_refl v)) (fun q k z => by rw [Bool.and_eq_true, Nat.beq_eq, Nat.beq_eq] at z; omega) (kbd h1 (hF 73 (by decide))), ⟨(hF 64 (by decide)).trans h2.1, by rw [hI]; exact h2.2⟩, ⟨(hF 73 (by decide)).trans h3.1, by rw [hI]; exact h3.2⟩, (hF 65 (by decide)).trans h4.1, by rw [e, F_eq], (hF 67 (by decide)).trans h4.2.2⟩
      refine pk_le lvl dp (fun z => ?_) (fun z => ?_)
      · have := w1 _ 0 rfl
        rw [show dp = max dp lvl by omega] at this
        exact fin _ this
      · have := w2 _ _ (w1 _ 0 rfl) rfl
        rw [show (kA b n T lv W nl o s0 (i + 1) N C (st + 1) lvl id (gc_wF (gc_wF t 67 65 (nI (st + 1))) 67 66 (nI lvl))) = (kA b n T lv W nl o s0 (i + 1) N C (st + 1) (max dp lvl) id (gc_wF (gc_wF t 67 65 (nI (st + 1))) 67 66 (nI lvl))) from by rw [Nat.max_eq_right (by omega)]] at this
        exact fin _ this
    refine b_X11_oneStep_96 hP hm ⟨fun z => absurd hu.1.2.2.1.1 z, fun _ => ⟨by omega, k_kindOf hP hm hk10 ?_⟩⟩
    by_cases h9 : k = 9
    · rw [if_neg (fun z => z.1 h9)] at hF1
      rw [if_pos h9]
      exact ⟨fun _ => cnt hF1, fun z => absurd rfl z⟩
    · rw [if_neg h9]
      have hkf : kdF k ≤ 7 := by
        have : ∀ k, k < 9 → kdF k ≤ 7 := by decide
        exact this k (by omega)
      refine ⟨fun z => absurd z (nI_nm1 (by omega)), fun _ => ⟨by omega, k_kindOf hP hm hk10 ?_⟩⟩
      rw [if_neg h9]
      obtain ⟨⟨hlv2, h19, hok⟩, _, _, _, _, _, hpt⟩ := hu.1.2.2.2.1
      refine ⟨by omega, b_X11_kind_0 hP hm ?_⟩
      rw [h19, st_lit 24, pk_mul, nI_add, nI_clamp (by omega), (hpt p hp).1]
      have hkd : ld_kd W p ≤ 7 := by
        rcases hok.2.2.2.2.2 p hp with ⟨z, _⟩ | ⟨z, _⟩ | ⟨z, _⟩ | ⟨z, _⟩ <;> omega
      refine ⟨vp_in_nI (by omega) (by decide), fun z => ?_, fun z => ⟨by omega, ?_⟩⟩
      · have z' : kdF k = ld_kd W p := (nI_eq (by omega) (by omega)).mp z
        rw [if_neg (fun y => y.2 z')] at hF1
        exact cnt hF1
      · have z' : kdF k ≠ ld_kd W p := fun y => z (by rw [y])
        rw [if_pos ⟨h9, z'⟩] at hF1
        exact k_fail hP hm (x := 6) (by decide) hu.1 fun t t1 => f131 _ _ t _ t1 (hbad 6 _ hF1 t t1)
end Fr
