/-! What is joined; all of a CLAIM: by both. -/
def sg (k : Nat) : Int32 := if k = 1 then 305 else if k = 2 then 306 else 42
def so (k : Nat) : Int32 := if k = 1 then 24 else if k = 2 then 28 else 9
theorem kk_sg {k : Nat} (h1 : 1 ≤ k) (h3 : k ≤ 3) : kk (sg k) (so k) := by
  rcases (by omega : k = 1 ∨ k = 2 ∨ k = 3) with rfl | rfl | rfl
  · exact ⟨kc_24, by decide, by decide⟩
  · exact ⟨kc_28, by decide, by decide⟩
  · exact ⟨kc_9, by decide, by decide⟩
theorem so_lev {k : Nat} (h1 : 1 ≤ k) (h3 : k ≤ 3) (x : Int32) : x = so k ↔ lev x = k := by
  constructor
  · intro e
    rw [e]
    rcases (by omega : k = 1 ∨ k = 2 ∨ k = 3) with rfl | rfl | rfl <;> decide
  · intro e
    rcases lev_cases h1 e with ⟨e1, e2⟩ | ⟨_, e1, e2⟩ | ⟨_, _, e1, e2⟩ <;> rw [e1, e2] <;> rfl
theorem tpo_op (S : List (Int32 × Int32)) {x y : Int32} {k : Nat} (hk : 1 ≤ k) (h : lev x = k) : tpo (S ++ [(x, y)]) ∧ tpl (S ++ [(x, y)]) (k + 1) := by
  refine ⟨fun S' e he => ?_, fun S' e he => ?_⟩
  · have e' : (x, y) = e := by simpa using (List.append_inj' he rfl).2
    rw [← e']
    show x ≠ 29 ∧ x ≠ 11
    rcases lev_cases hk h with ⟨e1, _⟩ | ⟨_, e1, _⟩ | ⟨_, _, e1, _⟩ <;> rw [e1] <;> decide
  · have e' : (x, y) = e := by simpa using (List.append_inj' he rfl).2
    rw [← e']
    show lev x < k + 1
    omega
section Jn
variable {b : Nat → Nat} {n Tc Tr L sd mc mr : Nat} {nc nr : List (List Nat × Nat × Nat)} {i o : Nat} {W : ld_W} {r : Option (Nat × Nat)}
theorem jX_4 (ho : o ≤ 6) (h : uX b n Tc Tr L sd mc mr nc nr i W r o) : jX b n Tc Tr L sd mc mr nc nr 4 i W r o := by
  obtain ⟨res, p1, p2, p3⟩ := h
  refine ⟨res, p1, fun P d s s0 Q hP hm hd h hQ => ?_, fun P d s s0 Q S R hP hm hd h hs hl ht1 ht2 hQ => ?_⟩
  · refine b_X3_joined_0 hP hm ⟨fun z => absurd z (by decide), fun _ => ⟨by omega, p2 P _ s s0 _ hP hm (by omega) h ?_⟩⟩
    cases res with
    | inl e => exact fun t t1 => hQ t t1
    | inr e => exact fun t t1 => hQ t t1
  · refine p3 P d s s0 Q S R hP hm hd h hs hl ?_
    have h400 := zR_i h
    cases res with
    | inl e => exact hQ
    | inr e =>
      intro t t1 t2
      exact E_of_G hP hm (by omega) t1 t2 (by omega) ht1 (hQ t t1 t2 (Nat.lt_of_le_of_lt (lev_le _) (by decide)))
/-- behind the first part -/
def lC (b : Nat → Nat) (n T L m : Nat) (nc : List (List Nat × Nat × Nat)) (k i : Nat) (W : ld_W) (r : Option (Nat × Nat)) (o : Nat) (res : pRes) : Prop := ∀ (P : gc_Pr) (d : Nat) (s s0 : gc_St) (Q : gc_TQ) (c : Nat) (l5 : Value), gc_Cl P → gc_Mo P → 6 * (7 - o) + (5 - k) ≤ d → zC b n T L m nc s0 i W r o s → c ≤ i → pqC b n T L m nc s0 o res Q → gc_T P d 0 0 39 46 [.ref 9, .int (nI (k + 2)), .int (sg k), .int (nI (ld_p W - 1)), .int (nI c), l5] [] s Q
def lR (b : Nat → Nat) (n T sd m : Nat) (nr : List (List Nat × Nat × Nat)) (k i : Nat) (W : ld_W) (r : Option (Nat × Nat)) (o : Nat) (res : pRes) : Prop := ∀ (P : gc_Pr) (d : Nat) (s s0 : gc_St) (Q : gc_TQ) (S : List (Int32 × Int32)) (R : List Nat), gc_Cl P → gc_Mo P → 7 ≤ d → zR b n T sd m nr s0 i W r o s → stk S (R ++ [ld_p W - 1]) s → S.length + R.length + 1 ≤ i → tpo S → tpl S k → lev (rk b n i) ≤ k → pqG b n T sd m nr s0 k o S R res P d Q → Gj P d Q (rk b n i) s

theorem pz_join {i1 i2 k : Nat} {W1 W2 : ld_W} {r1 r2 : Option (Nat × Nat)} (hk1 : 1 ≤ k) (hk3 : k ≤ 3) (h : pzP b n i W r (.inr (i1, W1, r1))) (g : pzP b n (i1 + 1) W1 r1 (.inr (i2, W2, r2))) (h24 : ld_p W2 < 24) : pzP b n i W r (.inr (i2, np W2 (k + 2) (ld_p W1 - 1) (ld_p W2 - 1) (ld_lo W2 (ld_p W1 - 1)), r2)) := by
  obtain ⟨q1, q2, q3, q4, q5, q6, q7⟩ := h
  obtain ⟨p1, p2, p3, p4, p5, p6, p7⟩ := g
  have q1' : i < i1 := q1
  have p1' : i1 + 1 < i2 := p1
  have q3' : ld_p W < ld_p W1 ∧ ld_p W1 ≤ 24 := q3
  have p3' : ld_p W1 < ld_p W2 ∧ ld_p W2 ≤ 24 := p3
  have q4' : ld_lo W1 (ld_p W1 - 1) = ld_p W := q4
  have p4' : ld_lo W2 (ld_p W2 - 1) = ld_p W1 := p4
  have elo : ld_lo W2 (ld_p W1 - 1) = ld_p W := (p2.2.2.2 10 _ (by decide) (by show ld_p W1 - 1 < ld_p W1; omega)).trans q4'
  refine ⟨by show i < i2; omega, ex_trans q2 (ex_trans p2 ex_np), ?_, ?_, p5, fun z => ex_pts (W := W) ex_np (ex_pts (W := W) p2 (q6 ?_) (p6 z)) (fun p a1 a2 => ?_), fun z => ?_⟩
  · show ld_p W < ld_p (np W2 (k + 2) (ld_p W1 - 1) (ld_p W2 - 1) (ld_lo W2 (ld_p W1 - 1))) ∧ ld_p (np W2 (k + 2) (ld_p W1 - 1) (ld_p W2 - 1) (ld_lo W2 (ld_p W1 - 1))) ≤ 24
    rw [np_p]
    omega
  · show ld_lo (np W2 (k + 2) (ld_p W1 - 1) (ld_p W2 - 1) (ld_lo W2 (ld_p W1 - 1))) (ld_p (np W2 (k + 2) (ld_p W1 - 1) (ld_p W2 - 1) (ld_lo W2 (ld_p W1 - 1))) - 1) = ld_p W
    rw [np_p, Nat.add_sub_cancel, np_10]
    exact elo
  · have z' : r2 = none := z
    exact Decidable.byContradiction fun y => y ((p7 y).symm.trans z')
  · rw [np_p] at a2
    obtain rfl : p = ld_p W2 := by omega
    unfold ld_pt
    rw [np_7, np_8, np_9, np_10]
    have e1 : ∀ q, q < ld_p W2 → ld_lo (np W2 (k + 2) (ld_p W1 - 1) (ld_p W2 - 1) (ld_lo W2 (ld_p W1 - 1))) q = ld_lo W2 q := fun q hq => np_o (by decide) (by omega)
    rw [e1 _ (by omega), e1 _ (by omega)]
    exact Or.inr (Or.inl ⟨by omega, by omega, by omega, rfl, by omega⟩)
  · have a1 : r1 = r := q7 z
    have a2 : r2 = r1 := p7 (by rw [a1]; exact z)
    exact a2.trans a1
theorem jL {k : Nat} (hk1 : 1 ≤ k) (hk3 : k ≤ 3) (ho : o ≤ 6) (hJ : ∀ i' W' r', i < i' → ld_g W' = ld_g W → ld_p W' ≤ 24 → (∀ w, r' = some w → w.2 < tk_st b n i') → jX b n Tc Tr L sd mc mr nc nr (k + 1) i' W' r' o) : ∀ f i1 W1 r1, 401 ≤ i1 + f → pzP b n i W r (.inr (i1, W1, r1)) → ∃ res, pzP b n i W r res ∧ lC b n Tc L mc nc k i1 W1 r1 o res ∧ lR b n Tr sd mr nr k i1 W1 r1 o res := by
  intro f
  induction f with
  | zero =>
    intro i1 W1 r1 hf hp
    refine ⟨.inr (i1, W1, r1), hp, fun P d s s0 Q c l5 hP hm hd h => ?_, fun P d s s0 Q S R hP hm hd h => ?_⟩
    · have := zC_i h
      omega
    · have := zR_i h
      omega
  | succ f ih =>
    intro i1 W1 r1 hf hp
    have hp' := hp
    obtain ⟨q1, q2, q3, q4, q5, q6, q7⟩ := hp'
    have q1' : i < i1 := q1
    have q3' : ld_p W < ld_p W1 ∧ ld_p W1 ≤ 24 := q3
    have q5' : ∀ w, r1 = some w → w.2 < tk_st b n i1 := q5
    have hnm : ¬ nI (ld_p W1 - 1) = -1 := nI_nm1 (by omega)
    by_cases hlv : lev (rk b n i1) = k
    · have hso : rk b n i1 = so k := (so_lev hk1 hk3 _).mpr hlv
      have h0 : rk b n i1 ≠ 0 := fun e => by
        rw [e] at hlv
        have : lev 0 = 0 := by decide
        omega
      have hst := rk_n h0
      by_cases hi1 : i1 < 400
      · obtain ⟨rj, p1, p2, p3⟩ := hJ (i1 + 1) W1 r1 (by omega) (ex_g q2) q3'.2 (fun w e => Nat.lt_trans (q5' w e) (tk_st_S hst))
        have goC : ∀ res, (∀ (P : gc_Pr) (d : Nat) (s0 : gc_St) (Q : gc_TQ) (c : Nat), gc_Cl P → gc_Mo P → 6 * (7 - o) + (5 - k) ≤ d → c ≤ i1 → pqC b n Tc L mc nc s0 o res Q → pqC b n Tc L mc nc s0 o rj (fun r7 s8 => gc_ri r7 fun x9 => (¬ x9 = (-1) → (1 ≤ d ∧ gc_T P (d - 1) 0 0 45 0 [.ref 9, .int (nI (k + 2)), .int (nI (ld_p W1 - 1)), .int x9, gc_u] [] s8 (fun r10 s11 => gc_ri r10 fun x12 => gc_T P d 0 0 39 109 [.ref 9, .int (nI (k + 2)), .int (sg k), .int (nI (ld_p W1 - 1)), .int (nI c), .int x9] [.int x12] s11 Q))) ∧ (x9 = (-1) → (gc_T P d 0 0 39 109 [.ref 9, .int (nI (k + 2)), .int (sg k), .int (nI (ld_p W1 - 1)), .int (nI c), .int x9] [.int (-1)] s8 Q)))) → lC b n Tc L mc nc k i1 W1 r1 o res := by
          intro res hres P d s s0 Q c l5 hP hm hd h hc hQ
          refine b_X3_joined_46 hP hm (pk_lt 400 c (fun z => by omega) (fun _ => ⟨fun z => absurd z hnm, fun _ => ⟨by omega, sp_kindAhead hP hm h.1 ⟨fun z => absurd ((kk_sg hk1 hk3).1 _ |>.mpr hso) z, fun _ => ⟨by omega, z_take hP hm (kk_sg hk1 hk3) hso h (fun t _ t2 _ _ => ⟨fun _ => ⟨by omega, ?_⟩, fun z => absurd z (by decide)⟩) (fun t t1 => by omega)⟩⟩⟩⟩))
          rw [nI_1]
          exact p2 P _ t s0 _ hP hm (by omega) t2 (hres P d s0 Q c hP hm hd hc hQ)
        have goR : ∀ res, (∀ (P : gc_Pr) (d : Nat) (s0 : gc_St) (Q : gc_TQ) (S : List (Int32 × Int32)) (R : List Nat), gc_Cl P → gc_Mo P → 7 ≤ d → S.length + R.length + 1 ≤ i1 → tpo S → tpl S k → pqG b n Tr sd mr nr s0 k o S R res P d Q → pqG b n Tr sd mr nr s0 (k + 1) o (S ++ [(rk b n i1, 0)]) (R ++ [ld_p W1 - 1]) rj P d Q) → lR b n Tr sd mr nr k i1 W1 r1 o res := by
          intro res hres P d s s0 Q S R hP hm hd h hs hl ht1 ht2 hle hQ
          refine G_op hP hm (by omega) h hs (by omega) (by omega) (by rw [hlv]; exact ht2) (fun t _ t1 t2 => ?_) (fun t t1 => by omega)
          exact p3 P d t s0 Q _ _ hP hm hd t1 t2 (by rw [List.length_append, List.length_append]; show S.length + 1 + (R.length + 1) ≤ i1 + 1; omega) (tpo_op S hk1 hlv).1 (tpo_op S hk1 hlv).2 (hres P d s0 Q S R hP hm hd hl ht1 ht2 hQ)
        cases rj with
        | inl e =>
          refine ⟨.inl e, trivial, goC _ (fun P d s0 Q c hP hm hd hc hQ t t1 => ⟨fun z => absurd rfl z, fun _ => b_X3_joined_109 hP hm (b_X3_joined_46 hP hm ⟨fun _ => hQ t t1, fun _ => ⟨fun _ => hQ t t1, fun z => absurd rfl z⟩⟩)⟩), goR _ (fun P d s0 Q S R hP hm hd hl ht1 ht2 hQ => hQ)⟩
        | inr e =>
          obtain ⟨i2, W2, r2⟩ := e
          have p1'' := p1
          obtain ⟨u1, u2, u3, u4, u5, u6, u7⟩ := p1''
          have u1' : i1 + 1 < i2 := u1
          have u3' : ld_p W1 < ld_p W2 ∧ ld_p W2 ≤ 24 := u3
          have goP : ∀ (P : gc_Pr) (d c : Nat) (t s0 : gc_St) (Q : gc_TQ), gc_Cl P → gc_Mo P → 6 * (7 - o) + (5 - k) ≤ d → zC b n Tc L mc nc s0 i2 W2 r2 o t → (∀ u, ld_p W2 < 24 → zC b n Tc L mc nc s0 i2 (np W2 (k + 2) (ld_p W1 - 1) (ld_p W2 - 1) (ld_lo W2 (ld_p W1 - 1))) r2 o u → gc_T P d 0 0 39 46 [.ref 9, .int (nI (k + 2)), .int (sg k), .int (nI (ld_p W2)), .int (nI (c + 1)), .int (nI (ld_p W2 - 1))] [] u Q) → (∀ u, ld_p W2 = 24 → zFC L s0 2 (tk_st b n (i2 - 1)) u → Q (some (.int (-1))) u) → gc_T P (d - 1) 0 0 45 0 [.ref 9, .int (nI (k + 2)), .int (nI (ld_p W1 - 1)), .int (nI (ld_p W2 - 1)), gc_u] [] t (fun r10 s11 => gc_ri r10 fun x12 => gc_T P d 0 0 39 109 [.ref 9, .int (nI (k + 2)), .int (sg k), .int (nI (ld_p W1 - 1)), .int (nI c), .int (nI (ld_p W2 - 1))] [.int x12] s11 Q) := by
            intro P d c t s0 Q hP hm hd ht h1 h2
            refine z_point hP hm (by omega) (kd := k + 2) (fi := ld_p W1 - 1) (se := ld_p W2 - 1) (lo := ld_lo W2 (ld_p W1 - 1)) (by omega) u3'.2 ht (by omega) (fun _ => ?_) (fun _ => ?_) (fun z => by omega) (fun _ => ⟨ld_p W1 - 1, by omega, rfl, rfl⟩) (fun u v1 v2 => b_X3_joined_109 hP hm ?_) (fun u v1 v2 => b_X3_joined_109 hP hm (b_X3_joined_46 hP hm ⟨fun _ => h2 u v1 v2, fun _ => ⟨fun _ => h2 u v1 v2, fun z => absurd rfl z⟩⟩))
            · unfold kI1
              rw [if_neg (by omega)]
            · unfold kI2
              rw [if_pos (by omega)]
            · rw [nI_1]
              exact h1 u v1 v2
          have lst : ∀ (R : List Nat), R ++ [ld_p W1 - 1] ++ [ld_p W2 - 1] = R ++ [ld_p W1 - 1, ld_p W2 - 1] := fun R => by
            rw [List.append_assoc]
            rfl
          by_cases h24 : ld_p W2 < 24
          · obtain ⟨res, a1, a2, a3⟩ := ih i2 (np W2 (k + 2) (ld_p W1 - 1) (ld_p W2 - 1) (ld_lo W2 (ld_p W1 - 1))) r2 (by omega) (pz_join hk1 hk3 hp p1 h24)
            have e : ld_p (np W2 (k + 2) (ld_p W1 - 1) (ld_p W2 - 1) (ld_lo W2 (ld_p W1 - 1))) - 1 = ld_p W2 := by rw [np_p, Nat.add_sub_cancel]
            refine ⟨res, a1, goC _ (fun P d s0 Q c hP hm hd hc hQ t t1 => ⟨fun _ => ⟨by omega, goP P d c t s0 Q hP hm hd t1 (fun u _ v2 => ?_) (fun u v1 => by omega)⟩, fun z => absurd z (nI_nm1 (by show ld_p W2 - 1 < 2 ^ 31; omega))⟩), goR _ (fun P d s0 Q S R hP hm hd hl ht1 ht2 hQ t t1 t2 t3 => ?_)⟩
            · have := a2 P d u s0 Q (c + 1) (.int (nI (ld_p W2 - 1))) hP hm hd v2 (by omega) hQ
              rw [e] at this
              exact this
            · have t2' : stk (S ++ [(rk b n i1, 0)]) (R ++ [ld_p W1 - 1, ld_p W2 - 1]) t := by
                rw [← lst R]
                exact t2
              have t3' : lev (rk b n i2) < k + 1 := t3
              refine G_join hP hm (by omega) (k := k) (lo := ld_lo W2 (ld_p W1 - 1)) u3'.2 t1 t2' (by have := zR_i t1; omega) (by show 1 ≤ i2; omega) hlv (by show max (lev (rk b n i2)) 1 ≤ k; omega) (fun u _ v2 v3 => ?_) (fun u v1 => absurd v1 (by show ¬ ld_p W2 = 24; omega))
              refine a3 P d u s0 Q S R hP hm hd v2 ?_ (by omega) ht1 ht2 (by omega) hQ
              rw [e]
              exact v3
          · refine ⟨.inl (2, tk_st b n (i2 - 1)), trivial, goC _ (fun P d s0 Q c hP hm hd hc hQ t t1 => ⟨fun _ => ⟨by omega, goP P d c t s0 Q hP hm hd t1 (fun u v1 => absurd v1 h24) (fun u _ v2 => hQ u v2)⟩, fun z => absurd z (nI_nm1 (by show ld_p W2 - 1 < 2 ^ 31; omega))⟩), goR _ (fun P d s0 Q S R hP hm hd hl ht1 ht2 hQ t t1 t2 t3 => ?_)⟩
            have t2' : stk (S ++ [(rk b n i1, 0)]) (R ++ [ld_p W1 - 1, ld_p W2 - 1]) t := by
              rw [← lst R]
              exact t2
            have t3' : lev (rk b n i2) < k + 1 := t3
            exact G_join hP hm (by omega) (k := k) (lo := ld_lo W2 (ld_p W1 - 1)) u3'.2 t1 t2' (by have := zR_i t1; omega) (by show 1 ≤ i2; omega) hlv (by show max (lev (rk b n i2)) 1 ≤ k; omega) (fun u v1 => absurd v1 h24) (fun u _ v2 => hQ u v2)
      · refine ⟨.inl (2, tk_st b n i1), trivial, fun P d s s0 Q c l5 hP hm hd h hc hQ => ?_, fun P d s s0 Q S R hP hm hd h hs hl ht1 ht2 hle hQ => ?_⟩
        · have h400 := zC_i h
          exact b_X3_joined_46 hP hm (pk_lt 400 c (fun z => by omega) (fun _ => ⟨fun z => absurd z hnm, fun _ => ⟨by omega, sp_kindAhead hP hm h.1 ⟨fun z => absurd ((kk_sg hk1 hk3).1 _ |>.mpr hso) z, fun _ => ⟨by omega, z_take hP hm (kk_sg hk1 hk3) hso h (fun t t1 => absurd t1 hi1) (fun t _ t1 => ⟨fun z => absurd rfl z, fun _ => hQ t t1⟩)⟩⟩⟩⟩))
        · exact G_op hP hm (by omega) h hs (by have := zR_i h; omega) (by omega) (by rw [hlv]; exact ht2) (fun t t1 => absurd t1 hi1) (fun t _ t1 => hQ t t1)
    · refine ⟨.inr (i1, W1, r1), hp, fun P d s s0 Q c l5 hP hm hd h hc hQ => ?_, fun P d s s0 Q S R hP hm hd h hs hl ht1 ht2 hle hQ => hQ s h hs (by show lev (rk b n i1) < k; omega)⟩
      have h400 := zC_i h
      refine b_X3_joined_46 hP hm (pk_lt 400 c (fun z => by omega) (fun _ => ⟨fun z => absurd z hnm, fun _ => ⟨by omega, sp_kindAhead hP hm h.1 ⟨fun _ => hQ s h, fun z => ?_⟩⟩⟩))
      exact absurd ((so_lev hk1 hk3 _).mp (((kk_sg hk1 hk3).1 _).mp z)) hlv
/-- all that one sign joins -/
theorem jX_k {k : Nat} (hk1 : 1 ≤ k) (hk3 : k ≤ 3) (ho : o ≤ 6) (hp24 : ld_p W ≤ 24) (hr : ∀ w, r = some w → w.2 < tk_st b n i) (hJ : ∀ i' W' r', i ≤ i' → ld_g W' = ld_g W → ld_p W' ≤ 24 → (∀ w, r' = some w → w.2 < tk_st b n i') → jX b n Tc Tr L sd mc mr nc nr (k + 1) i' W' r' o) : jX b n Tc Tr L sd mc mr nc nr k i W r o := by
  obtain ⟨rj, p1, p2, p3⟩ := hJ i W r (Nat.le_refl _) rfl hp24 hr
  have goC : ∀ res, (∀ (P : gc_Pr) (d : Nat) (s0 : gc_St) (Q : gc_TQ), gc_Cl P → gc_Mo P → 6 * (7 - o) + (5 - k) ≤ d → pqC b n Tc L mc nc s0 o res Q → pqC b n Tc L mc nc s0 o rj (fun r1 s2 => gc_ri r1 fun x3 => gc_T P d 0 0 39 46 [.ref 9, .int (nI (k + 2)), .int (sg k), .int x3, .int 0, gc_u] [] s2 Q)) → jC b n Tc L mc nc k i W r o res := by
    intro res hres P d s s0 Q hP hm hd h hQ
    have e34 : gc_T P d 0 0 39 34 [.ref 9, .int (nI (k + 2)), gc_u, gc_u, gc_u, gc_u] [.int (sg k)] s Q := by
      refine b_X3_joined_34 hP hm ⟨by omega, ?_⟩
      rw [nI_1]
      exact p2 P _ s s0 _ hP hm (by omega) h (hres P d s0 Q hP hm hd hQ)
    refine b_X3_joined_0 hP hm ⟨fun _ => ?_, fun z => absurd (nI_le (b := 5) (by omega) (by decide)) z⟩
    rcases (by omega : k = 1 ∨ k = 2 ∨ k = 3) with rfl | rfl | rfl
    · exact ⟨fun z => absurd rfl z, fun _ => e34⟩
    · exact ⟨fun _ => ⟨fun z => absurd rfl z, fun _ => e34⟩, fun z => absurd z (by decide)⟩
    · exact ⟨fun _ => ⟨fun _ => e34, fun z => absurd z (by decide)⟩, fun z => absurd z (by decide)⟩
  have goR : ∀ res, (∀ (P : gc_Pr) (d : Nat) (s0 : gc_St) (Q : gc_TQ) (S : List (Int32 × Int32)) (R : List Nat), gc_Cl P → gc_Mo P → 7 ≤ d → S.length + R.length ≤ i → tpo S → tpl S k → pqG b n Tr sd mr nr s0 k o S R res P d Q → pqG b n Tr sd mr nr s0 (k + 1) o S R rj P d Q) → jR b n Tr sd mr nr k i W r o res := by
    intro res hres P d s s0 Q S R hP hm hd h hs hl ht1 ht2 hQ
    exact p3 P d s s0 Q S R hP hm hd h hs hl ht1 (fun S' e he => Nat.lt_succ_of_lt (ht2 S' e he)) (hres P d s0 Q S R hP hm hd hl ht1 ht2 hQ)
  cases rj with
  | inl e => exact ⟨.inl e, trivial, goC _ (fun P d s0 Q hP hm hd hQ t t1 => b_X3_joined_46 hP hm ⟨fun _ => hQ t t1, fun _ => ⟨fun _ => hQ t t1, fun z => absurd rfl z⟩⟩), goR _ (fun P d s0 Q S R hP hm hd hl ht1 ht2 hQ => hQ)⟩
  | inr e =>
    obtain ⟨i1, W1, r1⟩ := e
    obtain ⟨res, a1, a2, a3⟩ := jL (Tc := Tc) (Tr := Tr) (L := L) (sd := sd) (mc := mc) (mr := mr) (nc := nc) (nr := nr) hk1 hk3 ho (fun i' W' r' h1 => hJ i' W' r' (by omega)) 401 i1 W1 r1 (by omega) p1
    have q1 : i < i1 := p1.1
    exact ⟨res, a1, goC _ (fun P d s0 Q hP hm hd hQ t t1 => a2 P d t s0 Q 0 _ hP hm hd t1 (Nat.zero_le _) hQ), goR _ (fun P d s0 Q S R hP hm hd hl ht1 ht2 hQ t t1 t2 t3 => a3 P d t s0 Q S R hP hm hd t1 t2 (by show S.length + R.length + 1 ≤ i1; omega) ht1 ht2 (Nat.le_of_lt_succ t3) hQ)⟩
end Jn
