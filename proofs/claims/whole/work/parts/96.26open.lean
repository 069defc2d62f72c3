/-! A U that opens, by both. -/
theorem ex_g {W W' : ld_W} (h : ex W W') : ld_g W' = ld_g W := h.1 0 (by decide)
theorem ex_pts {W W1 W2 : ld_W} (h : ex W1 W2) {p0 : Nat} (h1 : ∀ p, p0 ≤ p → p < ld_p W1 → ld_pt W1 p) (h2 : ∀ p, ld_p W1 ≤ p → p < ld_p W2 → ld_pt W2 p) : ∀ p, p0 ≤ p → p < ld_p W2 → ld_pt W2 p := by
  intro p hp hp2
  by_cases z : p < ld_p W1
  · exact pt_ex h z (h1 p hp z)
  · exact h2 p (by omega) hp2
section Ou
variable {b : Nat → Nat} {n Tc Tr L sd mc mr : Nat} {nc nr : List (List Nat × Nat × Nat)} {i o : Nat} {W : ld_W} {r : Option (Nat × Nat)}
theorem tp6 (S : List (Int32 × Int32)) (y : Int32) : tpo (S ++ [(6, y)]) ∧ tpl (S ++ [(6, y)]) 1 := by
  refine ⟨fun S' e he => ?_, fun S' e he => ?_⟩
  · have e' : (6, y) = e := by simpa using (List.append_inj' he rfl).2
    rw [← e']
    exact ⟨by show (6 : Int32) ≠ 29; decide, by show (6 : Int32) ≠ 11; decide⟩
  · have e' : (6, y) = e := by simpa using (List.append_inj' he rfl).2
    rw [← e']
    show lev 6 < 1
    decide
theorem uX_paren (hk : rk b n i = 6) (ho : o < 6) (hi : i < 400) (hJ : jX b n Tc Tr L sd mc mr nc nr 1 (i + 1) W r (o + 1)) : uX b n Tc Tr L sd mc mr nc nr i W r o := by
  obtain ⟨rj, p1, p2, p3⟩ := hJ
  -- by the class
  have goC : ∀ res, (∀ (P : gc_Pr) (d : Nat) (s0 : gc_St) (Q : gc_TQ), gc_Cl P → gc_Mo P → 6 * (7 - o) ≤ d → pqC b n Tc L mc nc s0 o res Q → pqC b n Tc L mc nc s0 (o + 1) rj (fun r1 s2 => gc_ri r1 fun x3 => (x3 = (-1) → (kQ Q (some (.int (-1))) s2)) ∧ (¬ x3 = (-1) → (1 ≤ d - 1 ∧ gc_T P (d - 1 - 1) 0 0 107 0 [.ref 3, .int 41] [] s2 (fun r4 s5 => gc_ri r4 fun x6 => (x6 = 0 → (kQ Q (some (.int (-1))) s5)) ∧ (¬ x6 = 0 → (kQ Q (some (.int x3)) s5))))))) → uC b n Tc L mc nc i W r o res := by
    intro res hres P d s s0 Q hP hm hd h hQ
    refine z_unitOpen hP hm (by omega) (by omega) h (Or.inl hk) (fun t _ t1 t2 t3 => ?_) (fun t e => absurd (hk.symm.trans e) (by decide)) (fun t e => absurd (hk.symm.trans e) (by decide)) (fun t t1 => by omega)
    exact b_X3_bracketed_0 hP hm ⟨by omega, p2 P _ t s0 _ hP hm (by omega) t3 (hres P d s0 Q hP hm hd hQ)⟩
  have goR : ∀ res, (∀ (P : gc_Pr) (d : Nat) (s0 : gc_St) (Q : gc_TQ) (S : List (Int32 × Int32)) (R : List Nat), gc_Cl P → gc_Mo P → 7 ≤ d → S.length + R.length ≤ i → pqE b n Tr sd mr nr s0 o S R res P d Q → pqG b n Tr sd mr nr s0 1 (o + 1) (S ++ [(6, 0)]) R rj P d Q) → uR b n Tr sd mr nr i W r o res := by
    intro res hres P d s s0 Q S R hP hm hd h hs hl hQ
    refine H_open hP hm (by omega) h (Or.inl hk) (y_open1 hP hm (by omega) h hs (by omega) ho (Or.inl hk) (fun t _ t1 t2 => ?_) (fun t t1 => by omega))
    rw [hk] at t2
    exact p3 P d t s0 Q _ R hP hm hd t1 t2 (by rw [List.length_append]; show S.length + 1 + R.length ≤ i + 1; omega) (tp6 S 0).1 (tp6 S 0).2 (hres P d s0 Q S R hP hm hd hl hQ)
  cases rj with
  | inl e => exact ⟨.inl e, trivial, goC _ (fun P d s0 Q hP hm hd hQ t t1 => ⟨fun _ => kQ_f t1 hQ, fun z => absurd rfl z⟩), goR _ (fun P d s0 Q S R hP hm hd hl hQ => hQ)⟩
  | inr e =>
    obtain ⟨i2, W2, r2⟩ := e
    obtain ⟨q1, q2, q3, q4, q5, q6, q7⟩ := p1
    have q3' : ld_p W < ld_p W2 ∧ ld_p W2 ≤ 24 := q3
    have goG : ∀ (P : gc_Pr) (d : Nat) (s0 : gc_St) (Q : gc_TQ) (S : List (Int32 × Int32)) (R : List Nat), gc_Cl P → gc_Mo P → 7 ≤ d → S.length + R.length ≤ i → (∀ t, rk b n i2 = 7 → i2 < 400 → zR b n Tr sd mr nr s0 (i2 + 1) W2 r2 o t → stk S (R ++ [ld_p W2 - 1]) t → Eb P d Q t) → (∀ t, rk b n i2 = 7 → i2 = 400 → zFR sd s0 2 (tk_st b n i2) t → Q none t) → (∀ t, rk b n i2 ≠ 7 → zFR sd s0 1 (tk_st b n i2) t → Q none t) → pqG b n Tr sd mr nr s0 1 (o + 1) (S ++ [(6, 0)]) R (.inr (i2, W2, r2)) P d Q := by
      intro P d s0 Q S R hP hm hd hl h1 h2 h3 t t1 t2 t3
      exact G_close hP hm (by omega) t1 t2 (by omega) (by have t3' : lev (rk b n i2) < 1 := t3; show lev (rk b n i2) = 0; omega) h1 h2 h3
    by_cases h7 : rk b n i2 = 7
    · by_cases hi2 : i2 < 400
      · refine ⟨.inr (i2 + 1, W2, r2), ⟨by show i < i2 + 1; have : i + 1 < i2 := q1; omega, q2, q3, q4, fun w e => Nat.lt_trans (q5 w e) (tk_st_S (rk_n (by rw [h7]; decide))), q6, q7⟩, goC _ (fun P d s0 Q hP hm hd hQ t t1 => ⟨fun z => absurd z (nI_nm1 (by show ld_p W2 - 1 < 2 ^ 31; omega)), fun _ => ⟨by omega, z_accept hP hm (by omega) kk_close t1 (fun u u1 u2 u3 _ _ => ⟨fun z => absurd z (by decide), fun _ => kQ_ok u3 hQ⟩) (fun u u1 u2 => by have u2' : i2 = 400 := u2; omega) (fun u u1 => absurd h7 u1)⟩⟩), goR _ (fun P d s0 Q S R hP hm hd hl hQ => goG P d s0 Q S R hP hm hd hl (fun t _ _ t1 t2 => hQ t t1 t2) (fun t _ t1 => by omega) (fun t t1 => absurd h7 t1))⟩
      · refine ⟨.inl (2, tk_st b n i2), trivial, goC _ (fun P d s0 Q hP hm hd hQ t t1 => ⟨fun z => absurd z (nI_nm1 (by show ld_p W2 - 1 < 2 ^ 31; omega)), fun _ => ⟨by omega, z_accept hP hm (by omega) kk_close t1 (fun u u1 u2 => absurd u2 hi2) (fun u u1 u2 u3 => ⟨fun _ => kQ_f u3 hQ, fun z => absurd rfl z⟩) (fun u u1 => absurd h7 u1)⟩⟩), goR _ (fun P d s0 Q S R hP hm hd hl hQ => goG P d s0 Q S R hP hm hd hl (fun t _ t1 => absurd t1 hi2) (fun t _ _ t1 => hQ t t1) (fun t t1 => absurd h7 t1))⟩
    · refine ⟨.inl (1, tk_st b n i2), trivial, goC _ (fun P d s0 Q hP hm hd hQ t t1 => ⟨fun z => absurd z (nI_nm1 (by show ld_p W2 - 1 < 2 ^ 31; omega)), fun _ => ⟨by omega, z_accept hP hm (by omega) kk_close t1 (fun u u1 => absurd u1 h7) (fun u u1 => absurd u1 h7) (fun u _ u3 => ⟨fun _ => kQ_f u3 hQ, fun z => absurd rfl z⟩)⟩⟩), goR _ (fun P d s0 Q S R hP hm hd hl hQ => goG P d s0 Q S R hP hm hd hl (fun t t1 => absurd t1 h7) (fun t t1 => absurd t1 h7) (fun t _ t1 => hQ t t1))⟩
/-- one POINT behind what was read: what is known of it -/
theorem pz_node {i2 : Nat} {W2 : ld_W} {r2 : Option (Nat × Nat)} {kd se : Nat} (h : pzP b n i W r (.inr (i2, W2, r2))) (h24 : ld_p W2 < 24) (hkd : (kd = 6) ∨ (kd = 7 ∧ (r2 = none → se < 4 ^ ld_g W))) : pzP b n i W r (.inr (i2, np W2 kd (ld_p W2 - 1) se (ld_lo W2 (ld_p W2 - 1)), r2)) := by
  obtain ⟨q1, q2, q3, q4, q5, q6, q7⟩ := h
  have q3' : ld_p W < ld_p W2 ∧ ld_p W2 ≤ 24 := q3
  refine ⟨q1, ex_trans q2 ex_np, ?_, ?_, q5, fun z => ex_pts (W := W) ex_np (q6 z) (fun p p1 p2 => ?_), q7⟩
  · show ld_p W < ld_p (np W2 kd (ld_p W2 - 1) se (ld_lo W2 (ld_p W2 - 1))) ∧ ld_p (np W2 kd (ld_p W2 - 1) se (ld_lo W2 (ld_p W2 - 1))) ≤ 24
    rw [np_p]
    omega
  · show ld_lo (np W2 kd (ld_p W2 - 1) se (ld_lo W2 (ld_p W2 - 1))) (ld_p (np W2 kd (ld_p W2 - 1) se (ld_lo W2 (ld_p W2 - 1))) - 1) = ld_p W
    rw [np_p, Nat.add_sub_cancel, np_10]
    exact q4
  · rw [np_p] at p2
    obtain rfl : p = ld_p W2 := by omega
    unfold ld_pt
    rw [np_7, np_8, np_9, np_10]
    have e1 : ld_lo (np W2 kd (ld_p W2 - 1) se (ld_lo W2 (ld_p W2 - 1))) (ld_p W2 - 1) = ld_lo W2 (ld_p W2 - 1) := np_o (by decide) (by omega)
    have e2 : ld_N (np W2 kd (ld_p W2 - 1) se (ld_lo W2 (ld_p W2 - 1))) = 4 ^ ld_g W := by
      show 4 ^ (np W2 kd (ld_p W2 - 1) se (ld_lo W2 (ld_p W2 - 1)) 0 0) = _
      rw [np_c (by decide)]
      exact congrArg _ (ex_g q2)
    rw [e1, e2]
    rcases hkd with e | ⟨e, e3⟩
    · exact Or.inr (Or.inr (Or.inl ⟨e, by omega, rfl⟩))
    · exact Or.inr (Or.inr (Or.inr ⟨e, by omega, rfl, e3 z⟩))
theorem uX_ever (hk : rk b n i = 29) (ho : o < 6) (hi : i < 400) (hU : uX b n Tc Tr L sd mc mr nc nr (i + 1) W r (o + 1)) : uX b n Tc Tr L sd mc mr nc nr i W r o := by
  obtain ⟨rj, p1, p2, p3⟩ := hU
  have goC : ∀ res, (∀ (P : gc_Pr) (d : Nat) (s0 : gc_St) (Q : gc_TQ), gc_Cl P → gc_Mo P → 6 * (7 - o) ≤ d → pqC b n Tc L mc nc s0 o res Q → pqC b n Tc L mc nc s0 (o + 1) rj (fun r1 s2 => gc_ri r1 fun x3 => (¬ x3 = (-1) → (1 ≤ d - 1 ∧ gc_T P (d - 1 - 1) 0 0 45 0 [.ref 9, .int 6, .int x3, .int (-1), gc_u] [] s2 (fun r4 s5 => gc_ri r4 fun x6 => kQ Q (some (.int x6)) s5))) ∧ (x3 = (-1) → (kQ Q (some (.int (-1))) s2)))) → uC b n Tc L mc nc i W r o res := by
    intro res hres P d s s0 Q hP hm hd h hQ
    refine z_unitOpen hP hm (by omega) (by omega) h (Or.inr (Or.inr hk)) (fun t e => absurd (hk.symm.trans e) (by decide)) (fun t e => absurd (hk.symm.trans e) (by decide)) (fun t _ t1 t2 t3 => ?_) (fun t t1 => by omega)
    exact b_X3_ever_0 hP hm ⟨by omega, p2 P _ t s0 _ hP hm (by omega) t3 (hres P d s0 Q hP hm hd hQ)⟩
  have goR : ∀ res, (∀ (P : gc_Pr) (d : Nat) (s0 : gc_St) (Q : gc_TQ) (S : List (Int32 × Int32)) (R : List Nat), gc_Cl P → gc_Mo P → 7 ≤ d → S.length + R.length ≤ i → pqE b n Tr sd mr nr s0 o S R res P d Q → pqE b n Tr sd mr nr s0 (o + 1) (S ++ [(29, 0)]) R rj P d Q) → uR b n Tr sd mr nr i W r o res := by
    intro res hres P d s s0 Q S R hP hm hd h hs hl hQ
    refine H_open hP hm (by omega) h (Or.inr (Or.inr hk)) (y_open1 hP hm (by omega) h hs (by omega) ho (Or.inr hk) (fun t _ t1 t2 => ?_) (fun t t1 => by omega))
    rw [hk] at t2
    exact p3 P d t s0 Q _ R hP hm hd t1 t2 (by rw [List.length_append]; show S.length + 1 + R.length ≤ i + 1; omega) (hres P d s0 Q S R hP hm hd hl hQ)
  cases rj with
  | inl e => exact ⟨.inl e, trivial, goC _ (fun P d s0 Q hP hm hd hQ t t1 => ⟨fun z => absurd rfl z, fun _ => kQ_f t1 hQ⟩), goR _ (fun P d s0 Q S R hP hm hd hl hQ => hQ)⟩
  | inr e =>
    obtain ⟨i2, W2, r2⟩ := e
    have p1' : pzP b n i W r (.inr (i2, W2, r2)) := ⟨by have : i + 1 < i2 := p1.1; show i < i2; omega, p1.2⟩
    obtain ⟨q1, q2, q3, q4, q5, q6, q7⟩ := p1
    have q1' : i + 1 < i2 := q1
    have q3' : ld_p W < ld_p W2 ∧ ld_p W2 ≤ 24 := q3
    have goP : ∀ (P : gc_Pr) (d : Nat) (t s0 : gc_St) (Q : gc_TQ), gc_Cl P → gc_Mo P → 6 * (7 - o) ≤ d → zC b n Tc L mc nc s0 i2 W2 r2 (o + 1) t → (∀ u, ld_p W2 < 24 → zC b n Tc L mc nc s0 i2 (np W2 6 (ld_p W2 - 1) 0 (ld_lo W2 (ld_p W2 - 1))) r2 o u → Q (some (.int (nI (ld_p W2)))) u) → (∀ u, ld_p W2 = 24 → zFC L s0 2 (tk_st b n (i2 - 1)) u → Q (some (.int (-1))) u) → gc_T P (d - 1 - 1) 0 0 45 0 [.ref 9, .int 6, .int (nI (ld_p W2 - 1)), .int (-1), gc_u] [] t (fun r4 s5 => gc_ri r4 fun x6 => kQ Q (some (.int x6)) s5) := by
      intro P d t s0 Q hP hm hd ht h1 h2
      exact z_point hP hm (by omega) (kd := 6) (fi := ld_p W2 - 1) (se := 0) (lo := ld_lo W2 (ld_p W2 - 1)) (by decide) q3'.2 ht (by omega) (fun _ => rfl) (fun _ => rfl) (fun z => absurd z (by decide)) (fun _ => ⟨ld_p W2 - 1, by omega, rfl, rfl⟩) (fun u u1 u2 => kQ_ok u2 (fun v v1 => h1 v u1 v1)) (fun u u1 u2 => kQ_f u2 (fun v v1 => h2 v u1 v1))
    by_cases h24 : ld_p W2 < 24
    · refine ⟨.inr (i2, np W2 6 (ld_p W2 - 1) 0 (ld_lo W2 (ld_p W2 - 1)), r2), pz_node p1' h24 (Or.inl rfl), goC _ (fun P d s0 Q hP hm hd hQ t t1 => ⟨fun _ => ⟨by omega, goP P d t s0 Q hP hm hd t1 (fun u _ u1 => ?_) (fun u u1 => by omega)⟩, fun z => absurd z (nI_nm1 (by show ld_p W2 - 1 < 2 ^ 31; omega))⟩), goR _ (fun P d s0 Q S R hP hm hd hl hQ t t1 t2 => E_pop hP hm (by omega) (kd := 6) (se := 0) (lo := ld_lo W2 (ld_p W2 - 1)) q3'.2 t1 t2 (by have := zR_i t1; omega) (by show 1 ≤ i2; omega) (Or.inl ⟨rfl, rfl⟩) (fun u _ u1 u2 => hQ u u1 ?_) (fun u u1 => absurd u1 (by show ¬ ld_p W2 = 24; omega)))⟩
      · have := hQ u u1
        have e : ld_p (np W2 6 (ld_p W2 - 1) 0 (ld_lo W2 (ld_p W2 - 1))) - 1 = ld_p W2 := by rw [np_p, Nat.add_sub_cancel]
        rw [e] at this
        exact this
      · have e : ld_p (np W2 6 (ld_p W2 - 1) 0 (ld_lo W2 (ld_p W2 - 1))) - 1 = ld_p W2 := by rw [np_p, Nat.add_sub_cancel]
        show stk S (R ++ [ld_p (np W2 6 (ld_p W2 - 1) 0 (ld_lo W2 (ld_p W2 - 1))) - 1]) u
        rw [e]
        exact u2
    · refine ⟨.inl (2, tk_st b n (i2 - 1)), trivial, goC _ (fun P d s0 Q hP hm hd hQ t t1 => ⟨fun _ => ⟨by omega, goP P d t s0 Q hP hm hd t1 (fun u u1 => absurd u1 h24) (fun u _ u1 => hQ u u1)⟩, fun z => absurd z (nI_nm1 (by show ld_p W2 - 1 < 2 ^ 31; omega))⟩), goR _ (fun P d s0 Q S R hP hm hd hl hQ t t1 t2 => E_pop hP hm (by omega) (kd := 6) (se := 0) (lo := ld_lo W2 (ld_p W2 - 1)) q3'.2 t1 t2 (by have := zR_i t1; omega) (by show 1 ≤ i2; omega) (Or.inl ⟨rfl, rfl⟩) (fun u u1 => absurd u1 h24) (fun u _ u1 => hQ u u1))⟩
end Ou
