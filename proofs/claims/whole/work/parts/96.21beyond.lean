/-! The reference's stack of signs: where its run stands between two words. -/
def lev (x : Int32) : Nat := if x = 9 then 3 else if x = 28 then 2 else if x = 24 then 1 else 0
theorem lev_le (x : Int32) : lev x ≤ 3 := by
  unfold lev
  split
  · decide
  · split
    · decide
    · split <;> decide
/-- what follows goesBeyond -/
def gQ (P : gc_Pr) (d : Nat) (Q : gc_TQ) : gc_TQ := fun r12 s13 => gc_ri r12 fun x14 => (x14 = 0 → (gc_T P d 0 0 206 90 [.ref 67, .int 1] [] s13 Q)) ∧ (¬ x14 = 0 → (gc_T P d 0 0 206 91 [.ref 67, .int 1] [.int 1] s13 Q))
/-- what follows joins -/
def jQ (P : gc_Pr) (d : Nat) (Q : gc_TQ) (l1 l2 : Int32) : gc_TQ := fun r1 s2 => gc_rv r1 (((gc_F s2 67 14) ≤ 0 → ((l2 ≤ 0 → (1 ≤ d ∧ gc_T P (d - 1) 0 0 184 0 [.ref 67, .int 7] [] s2 (fun r3 s4 => gc_ri r3 fun x5 => (x5 = 0 → (gc_T P d 0 0 211 222 [.ref 67, .int l1, .int l2] [] s4 Q)) ∧ (¬ x5 = 0 → ((¬ (gc_F s4 67 46) = 0 → (1 ≤ d ∧ gc_T P (d - 1) 0 0 187 0 [.ref 67] [] (gc_wF (gc_wF s4 67 46 ((gc_F s4 67 46) - 1)) 67 13 ((gc_F s4 67 13) - 1)) (fun r6 s7 => gc_rv r6 (gc_T P d 0 0 211 0 [.ref 67, .int l1, .int l2] [] s7 Q)))) ∧ ((gc_F s4 67 46) = 0 → (gc_T P d 0 0 211 222 [.ref 67, .int l1, .int l2] [] s4 Q))))))) ∧ (¬ l2 ≤ 0 → (1 ≤ d ∧ gc_T P (d - 1) 0 0 204 0 [.ref 67, .int l1, .int 0] [] s2 (fun r12 s13 => gc_rv r12 (1 ≤ d ∧ gc_T P (d - 1) 0 0 187 0 [.ref 67] [] s13 (fun r14 s15 => gc_rv r14 (Q (some (.int 1)) s15)))))))) ∧ (¬ (gc_F s2 67 14) ≤ 0 → (Q (some (.int 0)) s2)))
/-- a U is wanted; one was read; the signs behind it are looked at -/
def Hd (P : gc_Pr) (d : Nat) (Q : gc_TQ) (s : gc_St) : Prop := gc_T P d 0 0 206 23 [.ref 67, .int 1] [] s Q
def Eb (P : gc_Pr) (d : Nat) (Q : gc_TQ) (s : gc_St) : Prop := ∀ l1 l2 : Value, gc_T P (d - 1) 0 0 211 7 [.ref 67, l1, l2] [] s (gQ P d Q)
def Gj (P : gc_Pr) (d : Nat) (Q : gc_TQ) (x : Int32) (s : gc_St) : Prop := ∀ l2 : Value, gc_T P (d - 1 - 1) 0 0 210 0 [.ref 67, .int (nI (max (lev x) 1)), l2] [] s (jQ P (d - 1) (gQ P d Q) x (nI (lev x)))
section Bf
variable {P : gc_Pr} {d : Nat} {s s0 t : gc_St} {Q : gc_TQ} {sd x p : Nat}
theorem sp_level (hP : gc_Cl P) (hm : gc_Mo P) {y : Int32} (hQ : Q (some (.int (nI (lev y)))) s) : gc_T P d 0 0 209 0 [.int y] [] s Q := by
  unfold lev at hQ
  refine b_X11_level_0 hP hm ⟨fun h9 => ⟨fun h28 => ⟨fun h24 => ?_, fun h24 => ?_⟩, fun h28 => ?_⟩, fun h9 => ?_⟩
  · rw [if_neg h9, if_neg h28, if_neg h24] at hQ
    exact hQ
  · rw [if_neg h9, if_neg h28, if_pos h24] at hQ
    exact hQ
  · rw [if_neg h9, if_pos h28] at hQ
    exact hQ
  · rw [if_pos h9] at hQ
    exact hQ
/-! with a fault all ends -/
theorem f_23 (hP : gc_Cl P) (hm : gc_Mo P) (h : zFR sd s0 x p t) (hQ : Q none t) {l1 : Int32} : gc_T P d 0 0 206 23 [.ref 67, .int l1] [] t Q :=
  b_X11_pointsOf_23 hP hm ⟨fun _ => hQ, fun _ => ⟨fun _ => hQ, fun z => absurd z (zFR_n h).1⟩⟩
theorem f_gQ (hP : gc_Cl P) (hm : gc_Mo P) (h : zFR sd s0 x p t) (hQ : Q none t) : gQ P d Q (some (.int 0)) t :=
  ⟨fun _ => b_X11_pointsOf_90 hP hm (b_X11_pointsOf_91 hP hm (f_23 hP hm h hQ)), fun z => absurd rfl z⟩
theorem f_gQ1 (hP : gc_Cl P) (hm : gc_Mo P) (h : zFR sd s0 x p t) (hQ : Q none t) : gQ P d Q (some (.int 1)) t :=
  ⟨fun z => absurd z (by decide), fun _ => b_X11_pointsOf_91 hP hm (f_23 hP hm h hQ)⟩
theorem f_jQ (hP : gc_Cl P) (hm : gc_Mo P) (h : zFR sd s0 x p t) (hQ : Q none t) {l1 l2 : Int32} : jQ P (d - 1) (gQ P d Q) l1 l2 none t :=
  ⟨fun z => absurd z (zFR_n h).2.1, fun _ => f_gQ hP hm h hQ⟩
theorem f_Gj (hP : gc_Cl P) (hm : gc_Mo P) (h : zFR sd s0 x p t) (hQ : Q none t) {y : Int32} : Gj P d Q y t := fun _ =>
  b_X11_joins_0 hP hm ⟨fun _ => f_jQ hP hm h hQ, fun z => absurd z (zFR_n h).1⟩
theorem f_Eb (hP : gc_Cl P) (hm : gc_Mo P) (hd : 2 ≤ d) (h : zFR sd s0 x p t) (hQ : Q none t) : Eb P d Q t := by
  intro l1 l2
  have hn := zFR_n h
  have go : ∀ (y : Int32) (l1 l2 : Int32), gc_T P (d - 1) 0 0 211 178 [.ref 67, .int l1, .int l2] [.int y, .ref 67] t (gQ P d Q) := fun y l1 l2 =>
    b_X11_goesBeyond_178 hP hm ⟨by omega, b_X11_joins_0 hP hm ⟨fun _ => f_jQ hP hm h hQ, fun z => absurd z hn.1⟩⟩
  exact b_X11_goesBeyond_7 hP hm ⟨fun _ => b_X11_goesBeyond_153 hP hm ⟨h.2.2.2, by omega, sp_level hP hm ⟨fun _ => go _ _ _, fun _ => go _ _ _⟩⟩, fun z => absurd z hn.1⟩
end Bf
/-! what stands on the stack -/
theorem stk_top {S : List (Int32 × Int32)} {R : List Nat} {s : gc_St} {e : Int32 × Int32} (h : stk (S ++ [e]) R s) : gc_F s 67 46 = nI (S.length + 1) ∧ gc_I s 97 S.length = e.1 ∧ gc_I s 98 S.length = e.2 := by
  obtain ⟨⟨h1, h2⟩, _⟩ := h
  rw [List.length_append] at h1
  exact ⟨h1, h2 S.length e (by rw [List.getElem?_append_right (Nat.le_refl _), Nat.sub_self]; rfl)⟩
theorem stk_part {S : List (Int32 × Int32)} {R : List Nat} {s : gc_St} {q : Nat} (h : stk S (R ++ [q]) s) : gc_F s 67 48 = nI (R.length + 1) ∧ gc_I s 99 R.length = nI q := by
  obtain ⟨_, h1, h2⟩ := h
  rw [List.length_append] at h1
  exact ⟨h1, h2 R.length q (by rw [List.getElem?_append_right (Nat.le_refl _), Nat.sub_self]; rfl)⟩
theorem stk_popS {S : List (Int32 × Int32)} {R : List Nat} {s t : gc_St} {e : Int32 × Int32} (h : stk (S ++ [e]) R s) (h46 : gc_F t 67 46 = nI S.length) (h48 : gc_F t 67 48 = gc_F s 67 48) (hI : gc_I t = gc_I s) : stk S R t := by
  obtain ⟨⟨h1, h2⟩, h3, h4⟩ := h
  refine ⟨⟨h46, fun k e' he => ?_⟩, h48.trans h3, fun k q hq => ?_⟩
  · rw [hI]
    exact h2 k e' (by rw [List.getElem?_append_left (List.getElem?_eq_some_iff.mp he).1]; exact he)
  · rw [hI]
    exact h4 k q hq
theorem stk_popR {S : List (Int32 × Int32)} {R R' : List Nat} {s t : gc_St} (h : stk S (R ++ R') s) (h46 : gc_F t 67 46 = gc_F s 67 46) (h48 : gc_F t 67 48 = nI R.length) (hI : gc_I t = gc_I s) : stk S R t := by
  obtain ⟨⟨h1, h2⟩, h3, h4⟩ := h
  refine ⟨⟨h46.trans h1, fun k e' he => ?_⟩, h48, fun k q hq => ?_⟩
  · rw [hI]
    exact h2 k e' he
  · rw [hI]
    exact h4 k q (by rw [List.getElem?_append_left (List.getElem?_eq_some_iff.mp hq).1]; exact hq)
/-- the top is no ever, no [ -/
def tpo (S : List (Int32 × Int32)) : Prop := ∀ S' e, S = S' ++ [e] → e.1 ≠ 29 ∧ e.1 ≠ 11
/-- the top binds less -/
def tpl (S : List (Int32 × Int32)) (k : Nat) : Prop := ∀ S' e, S = S' ++ [e] → lev e.1 < k
theorem lst_or (S : List (Int32 × Int32)) : S = [] ∨ ∃ S' e, S = S' ++ [e] := by
  rcases List.eq_nil_or_concat S with h | ⟨S', e, h⟩
  · exact Or.inl h
  · exact Or.inr ⟨S', e, by rw [h, List.concat_eq_append]⟩
section Bg
variable {P : gc_Pr} {d : Nat} {s s0 : gc_St} {Q : gc_TQ} {b : Nat → Nat} {n T sd m i o : Nat} {nr : List (List Nat × Nat × Nat)} {W : ld_W} {r : Option (Nat × Nat)} {S : List (Int32 × Int32)} {R : List Nat}
theorem E_of_G (hP : gc_Cl P) (hm : gc_Mo P) (hd : 3 ≤ d) (h : zR b n T sd m nr s0 i W r o s) (hs : stk S R s) (hl : S.length ≤ 400) (ht : tpo S) (hG : Gj P d Q (rk b n i) s) : Eb P d Q s := by
  intro l1 l2
  have h400 := zR_i h
  have go : gc_T P (d - 1) 0 0 211 153 [.ref 67, l1, l2] [] s (gQ P d Q) := by
    refine b_X11_goesBeyond_153 hP hm ?_
    rw [h.1.2.2.1, nI_clamp (by omega), (h.1.2.1 i h.1.2.2.2).1]
    refine ⟨vp_in_nI (by omega) (by decide), by omega, sp_level hP hm ?_⟩
    have hlv := lev_le (rk b n i)
    refine ⟨fun z => b_X11_goesBeyond_178 hP hm ⟨by omega, ?_⟩, fun z => b_X11_goesBeyond_178 hP hm ⟨by omega, ?_⟩⟩
    · have e0 : lev (rk b n i) = 0 := by
        refine Decidable.byContradiction fun y => ?_
        exact nI_nle (by omega) (by omega) z
      have := hG gc_u
      rw [e0] at this ⊢
      exact this
    · have e0 : max (lev (rk b n i)) 1 = lev (rk b n i) := by
        have : lev (rk b n i) ≠ 0 := fun y => z (by rw [y]; decide)
        omega
      have := hG gc_u
      rw [e0] at this
      exact this
  refine b_X11_goesBeyond_7 hP hm ⟨fun z => absurd h.2.2.1.1 z, fun _ => ?_⟩
  rcases lst_or S with e | ⟨S', e, e1⟩
  · have : gc_F s 67 46 = nI 0 := by
      have := hs.1.1
      rw [e] at this
      exact this
    rw [this]
    exact ⟨fun _ => go, fun y => absurd (by decide) y⟩
  · rw [e1] at hs hl
    rw [List.length_append] at hl
    have hl' : S'.length + 1 ≤ 400 := hl
    obtain ⟨t1, t2, t3⟩ := stk_top hs
    obtain ⟨t4, t5⟩ := ht S' e e1
    rw [t1, nI_pred, nI_clamp (by omega), t2]
    exact ⟨fun y => absurd y (nI_nle (by omega) (by omega)), fun _ => ⟨vp_in_nI (by omega) (by decide), fun y => absurd y t4, fun _ => ⟨vp_in_nI (by omega) (by decide), fun _ => go, fun y => absurd y t5⟩⟩⟩
/-- joins does nothing where the top binds less -/
theorem G_stop (hP : gc_Cl P) (hm : gc_Mo P) (hd : 3 ≤ d) (h : zR b n T sd m nr s0 i W r o s) (hs : stk S R s) (hl : S.length ≤ 400) {x : Int32} (ht : tpl S (max (lev x) 1)) (hQ : jQ P (d - 1) (gQ P d Q) x (nI (lev x)) none s) : Gj P d Q x s := by
  intro l2
  refine b_X11_joins_0 hP hm ⟨fun z => absurd h.2.2.1.1 z, fun _ => ?_⟩
  rcases lst_or S with e | ⟨S', e, e1⟩
  · have : gc_F s 67 46 = nI 0 := by
      have := hs.1.1
      rw [e] at this
      exact this
    rw [this]
    exact ⟨fun _ => hQ, fun y => absurd (by decide) y⟩
  · rw [e1] at hs hl
    rw [List.length_append] at hl
    have hl' : S'.length + 1 ≤ 400 := hl
    obtain ⟨t1, t2, t3⟩ := stk_top hs
    have t4 := ht S' e e1
    have hx := lev_le x
    rw [t1, nI_pred, nI_clamp (by omega), t2]
    refine ⟨fun y => absurd y (nI_nle (by omega) (by omega)), fun _ => ⟨vp_in_nI (by omega) (by decide), by omega, sp_level hP hm ⟨fun _ => hQ, fun y => absurd (nI_lt t4 (by omega)) y⟩⟩⟩
end Bg
