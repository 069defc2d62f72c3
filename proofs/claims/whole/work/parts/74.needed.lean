/-! The class: NEEDED. -/
def nd_k (o b : Nat) : Nat := 64 * (sb_n o + sb_n b) + 8 * o + b
section Nd
variable (W : ld_W) (h : Nat × Nat × Nat) (p : Nat)
noncomputable def nd_i (o : Nat) (x : Option Nat) : Nat → Option Nat
  | 0 => x
  | n + 1 => if sb_in n h.2.2 = true ∧ dp_D W o p h.1 n ≠ 0 ∧ (∀ y, nd_i o x n = some y → nd_k o n < y) then some (nd_k o n) else nd_i o x n
def nd_v (o : Nat) (x : Option Nat) : Bool := sb_in o h.2.1 && (match x with
  | none => true
  | some y => decide (64 * sb_n o + 8 * o < y))
noncomputable def nd : Nat → Option Nat
  | 0 => none
  | n + 1 => if nd_v h n (nd n) = true then nd_i W h p n (nd n) (h.2.2 + 1) else nd n
noncomputable def nd_S (i : Nat) : Bool := nd_v h (i / 192) (nd W h p (i / 192)) && pS W (i / 192) p h.2.2 i
end Nd
section Ne
variable {W : ld_W} {h : Nat × Nat × Nat} {p : Nat}
/-- what is found is the least -/
theorem nd_i_p {o : Nat} {x : Option Nat} : ∀ n, (∀ y, nd_i W h p o x n = some y → x = some y ∨ ∃ b, b < n ∧ sb_in b h.2.2 = true ∧ dp_D W o p h.1 b ≠ 0 ∧ y = nd_k o b) ∧ (∀ y, x = some y → ∃ z, nd_i W h p o x n = some z ∧ z ≤ y) ∧ (∀ b, b < n → sb_in b h.2.2 = true → dp_D W o p h.1 b ≠ 0 → ∃ z, nd_i W h p o x n = some z ∧ z ≤ nd_k o b)
  | 0 => ⟨fun y e => Or.inl e, fun y e => ⟨y, e, Nat.le_refl _⟩, fun b hb => absurd hb (Nat.not_lt_zero _)⟩
  | n + 1 => by
    obtain ⟨h1, h2, h3⟩ := nd_i_p (o := o) (x := x) n
    have hS : nd_i W h p o x (n + 1) = if sb_in n h.2.2 = true ∧ dp_D W o p h.1 n ≠ 0 ∧ (∀ y, nd_i W h p o x n = some y → nd_k o n < y) then some (nd_k o n) else nd_i W h p o x n := rfl
    by_cases c : sb_in n h.2.2 = true ∧ dp_D W o p h.1 n ≠ 0 ∧ (∀ y, nd_i W h p o x n = some y → nd_k o n < y)
    · rw [hS, if_pos c]
      refine ⟨fun y e => Or.inr ⟨n, by omega, c.1, c.2.1, ?_⟩, fun y e => ⟨_, rfl, ?_⟩, fun b hb e1 e2 => ⟨_, rfl, ?_⟩⟩
      · simp only [Option.some.injEq] at e
        exact e.symm
      · obtain ⟨z, z1, z2⟩ := h2 y e
        have := c.2.2 z z1
        omega
      · by_cases e : b = n
        · rw [e]
          exact Nat.le_refl _
        · obtain ⟨z, z1, z2⟩ := h3 b (by omega) e1 e2
          have := c.2.2 z z1
          omega
    · rw [hS, if_neg c]
      refine ⟨fun y e => ?_, h2, fun b hb e1 e2 => ?_⟩
      · rcases h1 y e with z | ⟨b, z1, z2⟩
        · exact Or.inl z
        · exact Or.inr ⟨b, by omega, z2⟩
      · by_cases e : b = n
        · subst e
          cases e3 : nd_i W h p o x b with
          | none => exact absurd ⟨e1, e2, fun y z => by rw [e3] at z; simp at z⟩ c
          | some z =>
            refine ⟨z, rfl, ?_⟩
            by_cases e4 : z ≤ nd_k o b
            · exact e4
            · refine absurd ⟨e1, e2, fun y y1 => ?_⟩ c
              rw [e3] at y1
              simp only [Option.some.injEq] at y1
              omega
        · exact h3 b (by omega) e1 e2
theorem nd_p : ∀ n, (∀ y, nd W h p n = some y → ∃ o b, o < n ∧ sb_in o h.2.1 = true ∧ b ≤ h.2.2 ∧ sb_in b h.2.2 = true ∧ dp_D W o p h.1 b ≠ 0 ∧ y = nd_k o b) ∧ (∀ o b, o < n → sb_in o h.2.1 = true → b ≤ h.2.2 → sb_in b h.2.2 = true → dp_D W o p h.1 b ≠ 0 → ∃ z, nd W h p n = some z ∧ z ≤ nd_k o b)
  | 0 => ⟨fun y e => by unfold nd at e; simp at e, fun o b hb => absurd hb (Nat.not_lt_zero _)⟩
  | n + 1 => by
    obtain ⟨h1, h2⟩ := nd_p n
    have hS : nd W h p (n + 1) = if nd_v h n (nd W h p n) = true then nd_i W h p n (nd W h p n) (h.2.2 + 1) else nd W h p n := rfl
    by_cases c : nd_v h n (nd W h p n) = true
    · rw [hS, if_pos c]
      obtain ⟨g1, g2, g3⟩ := nd_i_p (W := W) (h := h) (p := p) (o := n) (x := nd W h p n) (h.2.2 + 1)
      have hsb : sb_in n h.2.1 = true := by
        unfold nd_v at c
        simp only [Bool.and_eq_true] at c
        exact c.1
      refine ⟨fun y e => ?_, fun o b ho e1 e2 e3 e4 => ?_⟩
      · rcases g1 y e with z | ⟨b, z1, z2, z3, z4⟩
        · obtain ⟨o, b, y1, y2⟩ := h1 y z
          exact ⟨o, b, by omega, y2⟩
        · exact ⟨n, b, by omega, hsb, by omega, z2, z3, z4⟩
      · by_cases e : o = n
        · rw [e] at e4 ⊢
          exact g3 b (by omega) e3 e4
        · obtain ⟨z, z1, z2⟩ := h2 o b (by omega) e1 e2 e3 e4
          obtain ⟨w, w1, w2⟩ := g2 z z1
          exact ⟨w, w1, by omega⟩
    · rw [hS, if_neg c]
      refine ⟨fun y e => ?_, fun o b ho e1 e2 e3 e4 => ?_⟩
      · obtain ⟨o, b, y1, y2⟩ := h1 y e
        exact ⟨o, b, by omega, y2⟩
      · by_cases e : o = n
        · subst e
          unfold nd_v at c
          rw [e1, Bool.true_and] at c
          cases e5 : nd W h p o with
          | none =>
            rw [e5] at c
            exact absurd rfl c
          | some z =>
            rw [e5] at c
            simp only [decide_eq_true_eq] at c
            refine ⟨z, rfl, ?_⟩
            unfold nd_k
            omega
        · exact h2 o b (by omega) e1 e2 e3 e4
end Ne
section Qd
variable {P : gc_Pr} {d : Nat} {s : gc_St} {Q : gc_TQ} {W : ld_W} {L v o q kc p : Nat} {h : Nat × Nat × Nat}
theorem sp_prep2 (hP : gc_Cl P) (hm : gc_Mo P) (hd : 6 ≤ d) (hq : cq W L v h s) (ho : o < 8) (hp : p < ld_p W) {b : Nat} (hb : b < 8) (hkc : kc = kP W o p b s) (hQ : ∀ t, cq W L v h t → gc_I t 24 (cl_num o p b) = nI v → cx A0 B0 kc s t → (∀ i, i < 1536 → (gc_Y t i).isNone = ((gc_Y s i).isNone && !pS W o p b i)) → Q none t) : gc_T P d kc (256 * kc) 7 0 [.ref 10, .int (nI o), .int (nI p), .int (nI b), gc_u, gc_u] [] s Q := by
  unfold kP at hkc
  exact sp_prepare hP hm hd hq.1.1 hq.1.2 hq.2.1 ho hp hb hkc fun t t1 t2 t3 => hQ t (cq_pf hq t1 t3) t2 (cx_pf ho hp hb hq.1.2.1 t1 t2 t3 hkc) t3.2.2.2.2.2.2.2.1
theorem cq_cx {A : Nat → Nat → Bool} {B : Nat → Bool} {t : gc_St} (hq : cq W L v h s) (ht : cq W L v h t) (_ : cx A B kc s t) : True := trivial
theorem nd_k_le : ∀ o, o < 8 → ∀ b, b < 8 → nd_k o b < 512 ∧ nd_k o b / 64 = sb_n o + sb_n b ∧ nd_k o b / 8 % 8 = o ∧ nd_k o b % 8 = b := by decide +kernel
theorem sb_n_8 : ∀ o, o < 8 → sb_n o ≤ 3 := by decide
def nd_e (x : Option Nat) : Int32 := match x with
  | none => -2
  | some y => nI y
theorem nd_lt {n : Nat} (hn : n ≤ 8) (hb : h.2.2 < 8) {y : Nat} (e : nd W h p n = some y) : y < 512 := by
  obtain ⟨o, b, h1, _, h3, _, _, h6⟩ := (nd_p n).1 y e
  rw [h6]
  exact (nd_k_le o (by omega) b (by omega)).1
theorem nd_i_lt {o n : Nat} {x : Option Nat} (ho : o < 8) (hn : n ≤ 8) (hx : ∀ y, x = some y → y < 512) {y : Nat} (e : nd_i W h p o x n = some y) : y < 512 := by
  rcases (nd_i_p n).1 y e with z | ⟨b, h1, _, _, h6⟩
  · exact hx y z
  · rw [h6]
    exact (nd_k_le o ho b (by omega)).1
theorem sp_leastNeeds (hP : gc_Cl P) (hm : gc_Mo P) (hd : 8 ≤ d) (hq : cq W L v h s) (hp : p < ld_p W) (hkc : kc = kF (fun i => nd_S W h p i && (gc_Y s i).isNone) 0 1536)
    (hQ : ∀ t, cq W L v h t → cx A0 B0 kc s t → Q (some (.int (nd_e (nd W h p (h.2.1 + 1))))) t) : gc_T P d kc (256 * kc) 161 0 [.ref 0, .int (nI p), gc_u, gc_u, gc_u, gc_u, gc_u, gc_u] [] s Q := by
  obtain ⟨b1, b2, hok⟩ := cq_b hq
  have hp24 := hok.1.2.2.2.2
  refine b_X10_leastNeeds_0 hP hm ?_
  have key : ∀ m o, o + m = h.2.1 + 1 → ∀ (t : gc_St) (k0 k : Nat) (l4 l5 l6 l7 : Value), cq W L v h t → cx A0 B0 k0 s t → k0 + k = kc → k = kF (fun i => decide (o ≤ i / 192) && (nd_S W h p i && (gc_Y t i).isNone)) 0 1536 → gc_T P d k (256 * k) 161 5 [.ref 0, .int (nI p), .int (nd_e (nd W h p o)), .int (nI o), l4, l5, l6, l7] [] t Q := by
    intro m
    induction m with
    | zero =>
      intro o hmo t k0 k l4 l5 l6 l7 t1 t2 hk0 hk
      obtain rfl : o = h.2.1 + 1 := by omega
      have hk00 : k = 0 := by
        rw [hk]
        refine kF_zero _ _ fun i _ _ => ?_
        by_cases e : h.2.1 + 1 ≤ i / 192
        · have e2 : nd_S W h p i = false := by
            unfold nd_S
            rw [show nd_v h (i / 192) (nd W h p (i / 192)) = false from bf fun z => ?_]
            · rfl
            · unfold nd_v at z
              simp only [Bool.and_eq_true] at z
              by_cases e3 : i / 192 < 8
              · have := (sb_le h.2.1 b1 (i / 192) e3 z.1).1
                omega
              · omega
          rw [e2, Bool.false_and, Bool.and_false]
        · rw [decide_eq_false e, Bool.false_and]
      subst hk00
      refine b_X10_leastNeeds_5 hP hm ?_
      rw [t1.2.2.1.2.1]
      rw [Nat.add_zero] at hk0
      rw [hk0] at t2
      exact pk_lt h.2.1 (h.2.1 + 1) (fun _ => ⟨rfl, hQ t t1 t2⟩) (fun z => by omega)
    | succ m ih =>
      intro o hmo t k0 k l4 l5 l6 l7 t1 t2 hk0 hk
      have ho8 : o < 8 := by omega
      have ho3 := sb_n_8 o ho8
      have hndS : nd W h p (o + 1) = if nd_v h o (nd W h p o) = true then nd_i W h p o (nd W h p o) (h.2.2 + 1) else nd W h p o := rfl
      have hlt := fun y => nd_lt (W := W) (h := h) (p := p) (n := o) (y := y) (by omega) b2
      have skip : nd_v h o (nd W h p o) = false → ∀ (l4 : Int32) (l5 l6 l7 : Value), gc_T P d k (256 * k) 161 175 [.ref 0, .int (nI p), .int (nd_e (nd W h p o)), .int (nI o), .int l4, l5, l6, l7] [] t Q := by
        intro e l4 l5 l6 l7
        refine b_X10_leastNeeds_175 hP hm ?_
        rw [nI_1]
        have := ih (o + 1) (by omega) t k0 k (.int l4) l5 l6 l7 t1 t2 hk0 ?_
        · rw [hndS, if_neg (by rw [e]; decide)] at this
          exact this
        · rw [hk]
          refine kF_congr _ _ fun i _ _ => ?_
          by_cases e2 : i / 192 = o
          · have e3 : nd_S W h p i = false := by
              unfold nd_S
              rw [e2, e]
              rfl
            rw [e3, Bool.false_and, Bool.and_false, Bool.and_false]
          · rw [show decide (o ≤ i / 192) = decide (o + 1 ≤ i / 192) from by
              by_cases z : o ≤ i / 192
              · rw [decide_eq_true z, decide_eq_true (by omega)]
              · rw [decide_eq_false z, decide_eq_false (by omega)]]
      have visit : nd_v h o (nd W h p o) = true → ∀ (l5 l6 l7 : Value), gc_T P d k (256 * k) 161 59 [.ref 0, .int (nI p), .int (nd_e (nd W h p o)), .int (nI o), .int (nI (64 * sb_n o + 8 * o)), l5, l6, l7] [] t Q := by
        intro e l5 l6 l7
        have hsplit : k = kP W o p h.2.2 t + kF (fun i => decide (o + 1 ≤ i / 192) && (nd_S W h p i && (gc_Y t i).isNone)) 0 1536 := by
          rw [hk]
          unfold kP
          refine kF_two _ _ fun i _ _ => ?_
          by_cases e2 : i / 192 = o
          · have e3 : nd_S W h p i = pS W o p h.2.2 i := by
              unfold nd_S
              rw [e2, e]
              rfl
            rw [e3, decide_eq_true (show o ≤ i / 192 by omega), decide_eq_false (show ¬ o + 1 ≤ i / 192 by omega)]
            simp
          · have e3 : pS W o p h.2.2 i = false := by
              unfold pS
              rw [decide_eq_false e2]
              rfl
            rw [e3, show decide (o ≤ i / 192) = decide (o + 1 ≤ i / 192) from by
              by_cases z : o ≤ i / 192
              · rw [decide_eq_true z, decide_eq_true (by omega)]
              · rw [decide_eq_false z, decide_eq_false (by omega)]]
            simp
        generalize hkp : kP W o p h.2.2 t = k1 at hsplit
        refine b_X10_leastNeeds_59 hP hm ⟨by omega, k1, 256 * k1, by omega, by omega, ?_⟩
        rw [t1.2.2.1.2.2]
        refine sp_prep2 hP hm (by omega) t1 ho8 hp b2 hkp.symm fun u u1 u2 u3 u4 => ?_
        show gc_T P d (k - k1) (256 * k - 256 * k1) 161 78 _ [] u Q
        have hk' : k - k1 = kF (fun i => decide (o + 1 ≤ i / 192) && (nd_S W h p i && (gc_Y u i).isNone)) 0 1536 := by
          rw [show k - k1 = kF (fun i => decide (o + 1 ≤ i / 192) && (nd_S W h p i && (gc_Y t i).isNone)) 0 1536 by omega]
          refine kF_congr _ _ fun i _ hi => ?_
          rw [u4 i (by omega)]
          by_cases e2 : i / 192 = o
          · rw [decide_eq_false (show ¬ o + 1 ≤ i / 192 by omega)]
            rfl
          · have e3 : pS W o p h.2.2 i = false := by
              unfold pS
              rw [decide_eq_false e2]
              rfl
            rw [e3]
            simp
        rw [show 256 * k - 256 * k1 = 256 * (k - k1) by omega]
        have hcx := cx_trans (A := A0) (B := B0) rfl t2 u3
        have inner : ∀ n b, b + n = h.2.2 + 1 → ∀ l6 l7 : Value, gc_T P d (k - k1) (256 * (k - k1)) 161 78 [.ref 0, .int (nI p), .int (nd_e (nd_i W h p o (nd W h p o) b)), .int (nI o), .int (nI (64 * sb_n o + 8 * o)), .int (nI b), l6, l7] [] u Q := by
          intro n
          induction n with
          | zero =>
            intro b hb l6 l7
            obtain rfl : b = h.2.2 + 1 := by omega
            refine b_X10_leastNeeds_78 hP hm ?_
            rw [u1.2.2.1.2.2]
            refine pk_lt h.2.2 (h.2.2 + 1) (fun _ => b_X10_leastNeeds_175 hP hm ?_) (fun z => by omega)
            rw [nI_1]
            have := ih (o + 1) (by omega) u (k0 + k1) (k - k1) (.int (nI (64 * sb_n o + 8 * o))) (.int (nI (h.2.2 + 1))) l6 l7 u1 hcx (by omega) hk'
            rw [hndS, if_pos e] at this
            exact this
          | succ n ih2 =>
            intro b hb l6 l7
            have hb8 : b < 8 := by omega
            have hb3 := sb_n_8 b hb8
            have hn := ih2 (b + 1) (by omega)
            have hiS : nd_i W h p o (nd W h p o) (b + 1) = if sb_in b h.2.2 = true ∧ dp_D W o p h.1 b ≠ 0 ∧ (∀ y, nd_i W h p o (nd W h p o) b = some y → nd_k o b < y) then some (nd_k o b) else nd_i W h p o (nd W h p o) b := rfl
            have hkk : 64 * sb_n o + 8 * o + 64 * sb_n b + b = nd_k o b := by
              unfold nd_k
              omega
            have hk512 := (nd_k_le o ho8 b hb8).1
            have hilt := fun y => nd_i_lt (W := W) (h := h) (p := p) (o := o) (n := b) (x := nd W h p o) (y := y) ho8 (by omega) hlt
            have keep : ¬ (sb_in b h.2.2 = true ∧ dp_D W o p h.1 b ≠ 0 ∧ (∀ y, nd_i W h p o (nd W h p o) b = some y → nd_k o b < y)) → ∀ (x : Int32) (l7 : Int32), gc_T P d (k - k1) (256 * (k - k1)) 161 169 [.ref 0, .int (nI p), .int (nd_e (nd_i W h p o (nd W h p o) b)), .int (nI o), .int (nI (64 * sb_n o + 8 * o)), .int (nI b), .int x, .int l7] [] u Q := by
              intro c x l7
              refine b_X10_leastNeeds_169 hP hm ?_
              rw [nI_1]
              rw [hiS, if_neg c] at hn
              exact hn _ _
            have no : ¬ (sb_in b h.2.2 = true ∧ (∀ y, nd_i W h p o (nd W h p o) b = some y → nd_k o b < y)) → ∀ (x : Int32) (l7 : Value), gc_T P d (k - k1) (256 * (k - k1)) 161 137 [.ref 0, .int (nI p), .int (nd_e (nd_i W h p o (nd W h p o) b)), .int (nI o), .int (nI (64 * sb_n o + 8 * o)), .int (nI b), .int x, l7] [] u Q := by
              intro c x l7
              refine b_X10_leastNeeds_137 hP hm (b_X10_leastNeeds_138 hP hm ⟨fun _ => keep (fun z => c ⟨z.1, z.2.2⟩) _ _, fun y => absurd rfl y⟩)
            have yes : sb_in b h.2.2 = true → (∀ y, nd_i W h p o (nd W h p o) b = some y → nd_k o b < y) → ∀ (l7 : Value), gc_T P d (k - k1) (256 * (k - k1)) 161 133 [.ref 0, .int (nI p), .int (nd_e (nd_i W h p o (nd W h p o) b)), .int (nI o), .int (nI (64 * sb_n o + 8 * o)), .int (nI b), .int (nI (nd_k o b)), l7] [] u Q := by
              intro c1 c2 l7
              refine b_X10_leastNeeds_133 hP hm (b_X10_leastNeeds_138 hP hm ⟨fun y => absurd y (by decide), fun _ => ⟨by omega, ?_⟩⟩)
              rw [u1.2.2.1.1]
              have hvb := (u1.1.2.2.2.2 o p h.2.2 ho8 hp b2 u2).2 p b (ld_lo_le hok p hp) (Nat.le_refl _) hb8 c1
              have hD := dp_D_max (o := o) hok hp hq.2.2.2.1 hb8
              refine sp_least hP hm (by omega) hok u1.1.2 ho8 hp hb8 hq.2.2.2.1 hvb (pk_le (dp_D W o p h.1 b) 0 (fun z => keep (fun c => c.2.1 (by omega)) _ _) (fun z => b_X10_leastNeeds_169 hP hm ?_))
              rw [nI_1]
              rw [hiS, if_pos ⟨c1, by omega, c2⟩] at hn
              exact hn _ _
            refine b_X10_leastNeeds_78 hP hm ?_
            rw [u1.2.2.1.2.2]
            refine pk_lt h.2.2 b (fun z => by omega) (fun _ => ⟨by omega, sp_bitCount hP hm hb8 ⟨by omega, ?_⟩⟩)
            rw [u1.2.2.1.2.2, st_lit 64, pk_mul, nI_add, nI_add, hkk]
            refine sp_isSubset hP hm hb8 b2 ?_
            cases c1 : sb_in b h.2.2 with
            | false => exact ⟨fun _ => no (fun z => by rw [c1] at z; exact absurd z.1 (by decide)) _ _, fun y => absurd rfl y⟩
            | true =>
              refine ⟨fun y => absurd y (by decide), fun _ => ?_⟩
              cases c2 : nd_i W h p o (nd W h p o) b with
              | none =>
                have := yes c1 (fun y z => by rw [c2] at z; simp at z) l7
                rw [c2] at this
                exact ⟨fun _ => this, fun y => absurd rfl y⟩
              | some y =>
                have hy := hilt y c2
                refine ⟨fun z => absurd z (m2_ne (by omega)), fun _ => pk_le y (nd_k o b) (fun z => ?_) (fun z => ?_)⟩
                · have := no (fun z2 => by have := z2.2 y c2; omega) (nI (nd_k o b)) l7
                  rw [c2] at this
                  exact this
                · have := yes c1 (fun y' z2 => by rw [c2] at z2; simp only [Option.some.injEq] at z2; omega) l7
                  rw [c2] at this
                  exact this
        exact inner (h.2.2 + 1) 0 (by omega) l6 l7
      refine b_X10_leastNeeds_5 hP hm ?_
      rw [t1.2.2.1.2.1]
      refine pk_lt h.2.1 o (fun z => by omega) (fun _ => ⟨by omega, sp_bitCount hP hm ho8 ⟨by omega, ?_⟩⟩)
      rw [t1.2.2.1.2.1, st_lit 64, pk_mul, st_lit 8, pk_mul, nI_add]
      refine sp_isSubset hP hm ho8 b1 ?_
      cases c1 : sb_in o h.2.1 with
      | false => exact ⟨fun _ => skip (by unfold nd_v; rw [c1]; rfl) _ _ _ _, fun y => absurd rfl y⟩
      | true =>
        refine ⟨fun y => absurd y (by decide), fun _ => ?_⟩
        cases c2 : nd W h p o with
        | none =>
          have := visit (by unfold nd_v; rw [c1, c2]; rfl) l5 l6 l7
          rw [c2] at this
          exact ⟨fun _ => this, fun y => absurd rfl y⟩
        | some y =>
          have hy := hlt y c2
          refine ⟨fun z => absurd z (m2_ne (by omega)), fun _ => pk_lt (64 * sb_n o + 8 * o) y (fun z => ?_) (fun z => ?_)⟩
          · have := visit (by unfold nd_v; rw [c1, c2]; exact decide_eq_true z) l5 l6 l7
            rw [c2] at this
            exact this
          · have := skip (by unfold nd_v; rw [c1, c2]; exact decide_eq_false (by omega)) (nI (64 * sb_n o + 8 * o)) l5 l6 l7
            rw [c2] at this
            exact this
  refine key (h.2.1 + 1) 0 (by omega) s 0 kc _ _ _ _ hq (cx_refl s) (Nat.zero_add _) ?_
  rw [hkc]
  refine kF_congr _ _ fun i _ _ => ?_
  rw [decide_eq_true (Nat.zero_le _), Bool.true_and]
end Qd
