/-! [ ], what is joined, all of a CLAIM: by both. -/
section Gv
variable {b : Nat → Nat} {n Tc Tr L sd mc mr : Nat} {nc nr : List (List Nat × Nat × Nat)} {i o : Nat} {W : ld_W} {r : Option (Nat × Nat)}
theorem uX_given (hn : n ≤ 2000) (hlt : ∀ j, b j < 256) (hG : ∀ w, gdC nc w = gd nr w) (hG4 : ld_g W ≤ 4) (hg : ∀ w g, gd nr w = some g → g < ld_g W) (hr : ∀ w, r = some w → w.2 < tk_st b n i) (hk : rk b n i = 11) (ho : o < 6) (hi : i < 400) (hU : ∀ i' r', i < i' → (∀ w, r' = some w → w.2 < tk_st b n i') → uX b n Tc Tr L sd mc mr nc nr i' W r' (o + 1)) : uX b n Tc Tr L sd mc mr nc nr i W r o := by
  have hst := rk_n (i := i) (b := b) (n := n) (by rw [hk]; decide)
  obtain ⟨rs, s1, s2, s3⟩ := z_side (Tc := Tc) (Tr := Tr) (L := L) (sd := sd) (mc := mc) (mr := mr) (W := W) hn hlt hG hG4 hg (i := i + 1) (r := r) (fun w e => Nat.lt_trans (hr w e) (tk_st_S hst))
  have goC : ∀ res, (∀ (P : gc_Pr) (d : Nat) (s0 : gc_St) (Q : gc_TQ), gc_Cl P → gc_Mo P → 6 * (7 - o) ≤ d → pqC b n Tc L mc nc s0 o res Q → qC b n Tc L mc nc s0 W (o + 1) rs (fun r2 s3 => gc_ri r2 fun x4 => (x4 = (-1) → (kQ Q (some (.int (-1))) s3)) ∧ (¬ x4 = (-1) → (1 ≤ d - 1 ∧ gc_T P (d - 1 - 1) 0 0 107 0 [.ref 3, .int 93] [] s3 (fun r5 s6 => gc_ri r5 fun x7 => (¬ x7 = 0 → (1 ≤ d - 1 ∧ gc_T P (d - 1 - 1) 0 0 40 0 [.ref 9, gc_u, gc_u, gc_u] [] s6 (fun r8 s9 => gc_ri r8 fun x10 => (¬ x10 = (-1) → (1 ≤ d - 1 ∧ gc_T P (d - 1 - 1) 0 0 45 0 [.ref 9, .int 7, .int x10, .int x4, gc_u] [] s9 (fun r11 s12 => gc_ri r11 fun x13 => kQ Q (some (.int x13)) s12))) ∧ (x10 = (-1) → (kQ Q (some (.int (-1))) s9))))) ∧ (x7 = 0 → (kQ Q (some (.int (-1))) s6))))))) → uC b n Tc L mc nc i W r o res := by
    intro res hres P d s s0 Q hP hm hd h hQ
    refine z_unitOpen hP hm (by omega) (by omega) h (Or.inr (Or.inl hk)) (fun t e => absurd (hk.symm.trans e) (by decide)) (fun t _ t1 t2 t3 => ?_) (fun t e => absurd (hk.symm.trans e) (by decide)) (fun t t1 => by omega)
    exact b_X3_given_0 hP hm ⟨L, t3.2.2.2.2.2.1.2.1, by omega, s2 P _ t s0 _ (o + 1) hP hm (by omega) t3 (hres P d s0 Q hP hm hd hQ)⟩
  cases rs with
  | inl e =>
    refine ⟨.inl e, trivial, goC _ (fun P d s0 Q hP hm hd hQ t t1 => ⟨fun _ => kQ_f t1 hQ, fun z => absurd rfl z⟩), fun P d s s0 Q S R hP hm hd h hs hl hQ => ?_⟩
    refine H_open hP hm (by omega) h (Or.inr (Or.inl hk)) (y_open2 hP hm (by omega) h hs (by omega) ho hk s3 (fun t e' y y1 => absurd y1 (by simp)) (fun t x p t1 t2 => f_23 hP hm t1 ?_))
    rcases t2 with ⟨x1, _⟩ | ⟨_, x1⟩ | ⟨_, e', x1, _⟩
    · omega
    · have e2 : e = (x, p) := by simpa using x1
      refine hQ t ?_
      rw [e2]
      exact t1
    · exact absurd x1 (by simp)
  | inr e =>
    obtain ⟨i2, r2, v⟩ := e
    obtain ⟨u1, u2, u3, u4⟩ := s1
    have u1' : i + 1 < i2 := u1
    have noR : ∀ (res : Nat × Nat), i2 = 400 ∧ rk b n i2 = 12 ∧ res = (2, tk_st b n i2) ∨ rk b n i2 ≠ 12 ∧ res = (1, tk_st b n i2) → uR b n Tr sd mr nr i W r o (.inl res) := by
      intro res hres P d s s0 Q S R hP hm hd h hs hl hQ
      refine H_open hP hm (by omega) h (Or.inr (Or.inl hk)) (y_open2 hP hm (by omega) h hs (by omega) ho hk s3 (fun t e' y y1 y2 y3 y4 => ?_) (fun t x p t1 t2 => f_23 hP hm t1 (hQ t ?_)))
      · have e2 : (i2, r2, v) = e' := by simpa using y1
        rw [← e2] at y3 y4
        rcases hres with ⟨x1, _⟩ | ⟨x1, _⟩
        · have y4' : i2 < 400 := y4
          omega
        · exact absurd y3 x1
      · rcases t2 with ⟨x1, _⟩ | ⟨_, x1⟩ | ⟨_, e', x1, x2⟩
        · omega
        · exact absurd x1 (by simp)
        · have e2 : (i2, r2, v) = e' := by simpa using x1
          rw [← e2] at x2
          rcases hres with ⟨z1, z2, z3⟩ | ⟨z1, z3⟩
          · rcases x2 with ⟨_, _, x3, x4⟩ | ⟨x3, _⟩
            · rw [x3, x4] at t1
              rw [z3]
              exact t1
            · exact absurd z2 x3
          · rcases x2 with ⟨x3, _⟩ | ⟨_, x3, x4⟩
            · exact absurd x3 z1
            · rw [x3, x4] at t1
              rw [z3]
              exact t1
    by_cases h12 : rk b n i2 = 12
    · have hst2 := rk_n (i := i2) (b := b) (n := n) (by rw [h12]; decide)
      by_cases hi2 : i2 < 400
      · obtain ⟨rj, p1, p2, p3⟩ := hU (i2 + 1) r2 (by omega) (fun w e => Nat.lt_trans (u2 w e) (tk_st_S hst2))
        have goC2 : ∀ res, (∀ (P : gc_Pr) (d : Nat) (s0 : gc_St) (Q : gc_TQ) (y : Nat), gc_Cl P → gc_Mo P → 6 * (7 - o) ≤ d → y < 256 → (r2 = none → y = v) → pqC b n Tc L mc nc s0 o res Q → pqC b n Tc L mc nc s0 (o + 1) rj (fun r8 s9 => gc_ri r8 fun x10 => (¬ x10 = (-1) → (1 ≤ d - 1 ∧ gc_T P (d - 1 - 1) 0 0 45 0 [.ref 9, .int 7, .int x10, .int (nI y), gc_u] [] s9 (fun r11 s12 => gc_ri r11 fun x13 => kQ Q (some (.int x13)) s12))) ∧ (x10 = (-1) → (kQ Q (some (.int (-1))) s9)))) → uC b n Tc L mc nc i W r o res := by
          intro res hres
          refine goC res fun P d s0 Q hP hm hd hQ t y t1 t2 t3 => ⟨fun z => absurd z (nI_nm1 (by omega)), fun _ => ⟨by omega, z_accept hP hm (by omega) kk_to t1 (fun w _ w2 w3 _ _ => ⟨fun _ => ⟨by omega, p2 P _ w s0 _ hP hm (by omega) w3 (hres P d s0 Q y hP hm hd t2 t3 hQ)⟩, fun z => absurd z (by decide)⟩) (fun w _ w2 => by have w2' : i2 = 400 := w2; omega) (fun w w1 => absurd h12 w1)⟩⟩
        have goR2 : ∀ res, (∀ (P : gc_Pr) (d : Nat) (s0 : gc_St) (Q : gc_TQ) (S : List (Int32 × Int32)) (R : List Nat) (y : Int32), gc_Cl P → gc_Mo P → 7 ≤ d → S.length + R.length ≤ i → (r2 = none → y = nI v) → pqE b n Tr sd mr nr s0 o S R res P d Q → pqE b n Tr sd mr nr s0 (o + 1) (S ++ [(11, y)]) R rj P d Q) → uR b n Tr sd mr nr i W r o res := by
          intro res hres P d s s0 Q S R hP hm hd h hs hl hQ
          refine H_open hP hm (by omega) h (Or.inr (Or.inl hk)) (y_open2 hP hm (by omega) h hs (by omega) ho hk s3 (fun t e' y y1 y2 y3 y4 y5 y6 y7 => ?_) (fun t x p t1 t2 => ?_))
          · have e2 : (i2, r2, v) = e' := by simpa using y1
            rw [← e2] at y5 y6
            exact p3 P d t s0 Q _ R hP hm hd y5 y7 (by rw [List.length_append]; show S.length + 1 + R.length ≤ i2 + 1; omega) (hres P d s0 Q S R y hP hm hd hl y6 hQ)
          · rcases t2 with ⟨x1, _⟩ | ⟨_, x1⟩ | ⟨_, e', x1, x2⟩
            · omega
            · exact absurd x1 (by simp)
            · have e2 : (i2, r2, v) = e' := by simpa using x1
              rw [← e2] at x2
              rcases x2 with ⟨_, x3, _⟩ | ⟨x3, _⟩
              · have x3' : i2 = 400 := x3
                omega
              · exact absurd h12 x3
        cases rj with
        | inl e => exact ⟨.inl e, trivial, goC2 _ (fun P d s0 Q y hP hm hd hy hyv hQ t t1 => ⟨fun z => absurd rfl z, fun _ => kQ_f t1 hQ⟩), goR2 _ (fun P d s0 Q S R y hP hm hd hl hy hQ => hQ)⟩
        | inr e =>
          obtain ⟨i3, W3, r3⟩ := e
          obtain ⟨q1, q2, q3, q4, q5, q6, q7⟩ := p1
          have q1' : i2 + 1 < i3 := q1
          have q3' : ld_p W < ld_p W3 ∧ ld_p W3 ≤ 24 := q3
          have h32 : r3 = none → r2 = none := fun z => Decidable.byContradiction fun y => y ((q7 y).symm.trans z)
          have p1' : pzP b n i W r (.inr (i3, W3, r3)) := ⟨by show i < i3; omega, q2, q3, q4, q5, q6, fun z => by
            have a1 : r2 = r := u4 z
            have a2 : r3 = r2 := q7 (by rw [a1]; exact z)
            exact a2.trans a1⟩
          have goP : ∀ (P : gc_Pr) (d : Nat) (t s0 : gc_St) (Q : gc_TQ) (y : Nat), gc_Cl P → gc_Mo P → 6 * (7 - o) ≤ d → (r2 = none → y = v) → zC b n Tc L mc nc s0 i3 W3 r3 (o + 1) t → (∀ u, ld_p W3 < 24 → zC b n Tc L mc nc s0 i3 (np W3 7 (ld_p W3 - 1) v (ld_lo W3 (ld_p W3 - 1))) r3 o u → Q (some (.int (nI (ld_p W3)))) u) → (∀ u, ld_p W3 = 24 → zFC L s0 2 (tk_st b n (i3 - 1)) u → Q (some (.int (-1))) u) → gc_T P (d - 1 - 1) 0 0 45 0 [.ref 9, .int 7, .int (nI (ld_p W3 - 1)), .int (nI y), gc_u] [] t (fun r4 s5 => gc_ri r4 fun x6 => kQ Q (some (.int x6)) s5) := by
            intro P d t s0 Q y hP hm hd hy ht h1 h2
            exact z_point hP hm (by omega) (kd := 7) (fi := ld_p W3 - 1) (se := v) (lo := ld_lo W3 (ld_p W3 - 1)) (by decide) q3'.2 ht (by omega) (fun _ => rfl) (fun z => by rw [hy (h32 z)]; rfl) (fun z => absurd z (by decide)) (fun _ => ⟨ld_p W3 - 1, by omega, rfl, rfl⟩) (fun u u1 u2 => kQ_ok u2 (fun v v1 => h1 v u1 v1)) (fun u u1 u2 => kQ_f u2 (fun v v1 => h2 v u1 v1))
          by_cases h24 : ld_p W3 < 24
          · refine ⟨.inr (i3, np W3 7 (ld_p W3 - 1) v (ld_lo W3 (ld_p W3 - 1)), r3), pz_node p1' h24 (Or.inr ⟨rfl, fun z => u3 (h32 z)⟩), goC2 _ (fun P d s0 Q y hP hm hd hy hyv hQ t t1 => ⟨fun _ => ⟨by omega, goP P d t s0 Q y hP hm hd hyv t1 (fun u _ u1 => ?_) (fun u u1 => by omega)⟩, fun z => absurd z (nI_nm1 (by show ld_p W3 - 1 < 2 ^ 31; omega))⟩), goR2 _ (fun P d s0 Q S R y hP hm hd hl hy hQ t t1 t2 => E_pop hP hm (by omega) (kd := 7) (se := v) (lo := ld_lo W3 (ld_p W3 - 1)) q3'.2 t1 t2 (by have := zR_i t1; omega) (by show 1 ≤ i3; omega) (Or.inr ⟨rfl, rfl, fun z => hy (h32 z)⟩) (fun u _ u1 u2 => hQ u u1 ?_) (fun u u1 => absurd u1 (by show ¬ ld_p W3 = 24; omega)))⟩
            · have := hQ u u1
              have e : ld_p (np W3 7 (ld_p W3 - 1) v (ld_lo W3 (ld_p W3 - 1))) - 1 = ld_p W3 := by rw [np_p, Nat.add_sub_cancel]
              rw [e] at this
              exact this
            · have e : ld_p (np W3 7 (ld_p W3 - 1) v (ld_lo W3 (ld_p W3 - 1))) - 1 = ld_p W3 := by rw [np_p, Nat.add_sub_cancel]
              show stk S (R ++ [ld_p (np W3 7 (ld_p W3 - 1) v (ld_lo W3 (ld_p W3 - 1))) - 1]) u
              rw [e]
              exact u2
          · refine ⟨.inl (2, tk_st b n (i3 - 1)), trivial, goC2 _ (fun P d s0 Q y hP hm hd hy hyv hQ t t1 => ⟨fun _ => ⟨by omega, goP P d t s0 Q y hP hm hd hyv t1 (fun u u1 => absurd u1 h24) (fun u _ u1 => hQ u u1)⟩, fun z => absurd z (nI_nm1 (by show ld_p W3 - 1 < 2 ^ 31; omega))⟩), goR2 _ (fun P d s0 Q S R y hP hm hd hl hy hQ t t1 t2 => E_pop hP hm (by omega) (kd := 7) (se := v) (lo := ld_lo W3 (ld_p W3 - 1)) q3'.2 t1 t2 (by have := zR_i t1; omega) (by show 1 ≤ i3; omega) (Or.inr ⟨rfl, rfl, fun z => hy (h32 z)⟩) (fun u u1 => absurd u1 h24) (fun u _ u1 => hQ u u1))⟩
      · have h400 : ¬ i2 < 400 := hi2
        refine ⟨.inl (2, tk_st b n i2), trivial, goC _ (fun P d s0 Q hP hm hd hQ t y t1 t2 t3 => ⟨fun z => absurd z (nI_nm1 (by omega)), fun _ => ⟨by omega, z_accept hP hm (by omega) kk_to t1 (fun w _ w2 => absurd w2 hi2) (fun w _ _ w2 => ⟨fun z => absurd rfl z, fun _ => kQ_f w2 hQ⟩) (fun w w1 => absurd h12 w1)⟩⟩), fun P d s s0 Q S R hP hm hd h hs hl hQ => ?_⟩
        by_cases e400 : i2 = 400
        · exact noR (2, tk_st b n i2) (Or.inl ⟨e400, h12, rfl⟩) P d s s0 Q S R hP hm hd h hs hl hQ
        · refine H_open hP hm (by omega) h (Or.inr (Or.inl hk)) (y_open2 hP hm (by omega) h hs (by omega) ho hk s3 (fun t e' y y1 y2 y3 y4 => ?_) (fun t x p t1 t2 => f_23 hP hm t1 (hQ t ?_)))
          · have e2 : (i2, r2, v) = e' := by simpa using y1
            rw [← e2] at y4
            exact absurd y4 hi2
          · rcases t2 with ⟨x1, _⟩ | ⟨_, x1⟩ | ⟨_, e', x1, x2⟩
            · omega
            · exact absurd x1 (by simp)
            · have e2 : (i2, r2, v) = e' := by simpa using x1
              rw [← e2] at x2
              rcases x2 with ⟨_, x3, _⟩ | ⟨x3, _⟩
              · exact absurd x3 e400
              · exact absurd h12 x3
    · exact ⟨.inl (1, tk_st b n i2), trivial, goC _ (fun P d s0 Q hP hm hd hQ t y t1 t2 t3 => ⟨fun z => absurd z (nI_nm1 (by omega)), fun _ => ⟨by omega, z_accept hP hm (by omega) kk_to t1 (fun w w1 => absurd w1 h12) (fun w w1 => absurd w1 h12) (fun w _ w2 => ⟨fun z => absurd rfl z, fun _ => kQ_f w2 hQ⟩)⟩⟩), noR _ (Or.inr ⟨h12, rfl⟩)⟩
end Gv
