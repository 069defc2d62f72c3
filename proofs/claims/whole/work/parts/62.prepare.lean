/-! All rows below a place. -/
def pS (W : ld_W) (o p b i : Nat) : Bool := decide (i / 192 = o) && (decide (ld_lo W p ≤ i / 8 % 24) && (decide (i / 8 % 24 ≤ p) && sb_in (i % 8) b))
theorem pS_num {W : ld_W} {o p b q c : Nat} (hq : q < 24) (hc : c < 8) : pS W o p b (cl_num o q c) = (decide (ld_lo W p ≤ q) && (decide (q ≤ p) && sb_in c b)) := by
  unfold pS cl_num
  rw [show ((o * 24 + q) * 8 + c) / 192 = o by omega, show ((o * 24 + q) * 8 + c) / 8 % 24 = q by omega, show ((o * 24 + q) * 8 + c) % 8 = c by omega, decide_eq_true (rfl : o = o), Bool.true_and]
theorem pS_of {W : ld_W} {o p b i : Nat} (h : pS W o p b i = true) : ∃ q c, i = cl_num o q c ∧ ld_lo W p ≤ q ∧ q ≤ p ∧ q < 24 ∧ c < 8 ∧ sb_in c b = true := by
  unfold pS at h
  simp only [Bool.and_eq_true, decide_eq_true_eq] at h
  refine ⟨i / 8 % 24, i % 8, ?_, h.2.1, h.2.2.1, by omega, by omega, h.2.2.2⟩
  unfold cl_num
  omega
theorem pS_f {W : ld_W} {o p b i : Nat} (h : ∀ q c, i = cl_num o q c → ld_lo W p ≤ q → q ≤ p → q < 24 → c < 8 → sb_in c b = true → False) : pS W o p b i = false := by
  cases e : pS W o p b i with
  | false => rfl
  | true =>
    obtain ⟨q, c, h1, h2, h3, h4, h5, h6⟩ := pS_of e
    exact (h q c h1 h2 h3 h4 h5 h6).elim
theorem pf_refl {S : Nat → Bool} {s : gc_St} (h : ∀ i, i < 1536 → S i = true → (gc_Y s i).isNone = false) : pf S s s := by
  refine ⟨rfl, rfl, fun _ _ _ => rfl, rfl, ⟨rfl, rfl, rfl, rfl, rfl⟩, ⟨Nat.le_refl _, fun _ _ => rfl⟩, fun _ _ _ => rfl, fun i hi => ?_, rfl⟩
  cases e : S i with
  | false => cases (gc_Y s i).isNone <;> rfl
  | true => rw [h i hi e]; rfl
theorem pf_S {S S' : Nat → Bool} {s t : gc_St} (h : pf S s t) (e : ∀ i, i < 1536 → S' i = S i) : pf S' s t := by
  obtain ⟨h1, h2, h3, h4, h5, h6, h7, h8, h9⟩ := h
  exact ⟨h1, h2, h3, h4, h5, h6, fun i hi z => h7 i hi (by rw [← e i hi]; exact z), fun i hi => by rw [e i hi]; exact h8 i hi, h9⟩
section Pr
variable {P : gc_Pr} {d : Nat} {s : gc_St} {Q : gc_TQ} {W : ld_W} {L v o p b kc : Nat}
theorem sp_fillRow (hP : gc_Cl P) (hm : gc_Mo P) (hd : 5 ≤ d) (hC : cl_C W L s) (hR : cl_rows W v s) (hv : v < 2 ^ 31) (ho : o < 8) (hp : p < ld_p W) (hb : b < 8)
    (hbel : ∀ q c, ld_lo W p ≤ q → q ≤ p → c < 8 → sb_in c b = true → (q < p ∨ c ≠ b) → gc_I s 24 (cl_num o q c) = nI v) (hkc : kc = if (gc_Y s (cl_num o p b)).isNone = true then 1 else 0)
    (h : ∀ t, cl_rows W v t → gc_I t 24 (cl_num o p b) = nI v → pf (fun k => Nat.beq k (cl_num o p b)) s t → Q none t) :
    gc_T P d kc (256 * kc) 8 0 [.ref 10, .int (nI o), .int (nI p), .int (nI b), gc_u, gc_u] [] s Q := by
  have hok := hC.2.2.2.1
  have hp24 := hok.1.2.2.2.2
  have hi := cl_num_lt ho (show p < 24 by omega) hb
  refine b_X0_fillRow_0 hP hm ⟨by omega, sp_rowNumber hP hm ⟨vp_in_nI hi (by omega), fun z => ?_, fun z => ?_⟩⟩
  · refine ⟨vp_in_nI hi (by omega), ?_⟩
    rw [nI_clamp (by omega)]
    cases hY : gc_Y s (cl_num o p b) with
    | some a1 =>
      rw [hY] at hkc
      obtain rfl : kc = 0 := hkc
      exact Or.inl ⟨a1, rfl, sp_fillRow45 hP hm hd hC hR ho hp hb hY hbel h⟩
    | none =>
      rw [hY] at hkc
      obtain rfl : kc = 1 := hkc
      obtain ⟨n1, n2, n3⟩ := cl_rows_new hp24 hR hi hY
      refine Or.inr ⟨rfl, by decide, by decide, by decide, by decide, vp_in_nI hi (by omega), ?_, ?_⟩
      · show (gc_gk (gc_nwI s 256) (116 + gc_n s)).1 = 0
        unfold gc_gk
        rw [Nat.ble_eq_true_of_le (Nat.le_add_right 116 (gc_n s)), show Nat.blt (116 + gc_n s) (116 + gc_n (gc_nwI s 256)) = true from Nat.ble_eq_true_of_le (Nat.le_refl _)]
      · refine sp_fillRow45 hP hm hd (s := gc_wY (gc_nwI s 256) (cl_num o p b) (116 + gc_n s)) (cl_C_pf hC n2) n1 ho hp hb n3 (fun q c z1 z2 z3 z4 z5 => ?_) (fun t t1 t2 t3 => h t t1 t2 (pf_trans n2 t3 (fun i _ => by cases Nat.beq i (cl_num o p b) <;> rfl)))
        rw [n2.2.2.2.2.2.2.1 _ (cl_num_lt ho (by omega) z3) (beq_f ?_)]
        · exact hbel q c z1 z2 z3 z4 z5
        · intro e
          obtain ⟨_, y1, y2⟩ := cl_num_inj (by omega) z3 (by omega) hb e
          omega
  · rw [nI_clamp (by omega)] at z
    have z' := z.trans hR.1
    obtain ⟨⟨a', y1, y2⟩, y3⟩ := hR.2.2.2 o p b ho hp hb z'
    rw [y1] at hkc
    obtain rfl : kc = 0 := hkc
    refine ⟨rfl, h s hR z' (pf_refl fun i hi e => ?_)⟩
    rw [Nat.eq_of_beq_eq_true e, y1]
    rfl
theorem sp_prepare (hP : gc_Cl P) (hm : gc_Mo P) (hd : 6 ≤ d) (hC : cl_C W L s) (hR : cl_rows W v s) (hv : v < 2 ^ 31) (ho : o < 8) (hp : p < ld_p W) (hb : b < 8) (hkc : kc = kF (fun i => pS W o p b i && (gc_Y s i).isNone) 0 1536)
    (h : ∀ t, cl_rows W v t → gc_I t 24 (cl_num o p b) = nI v → pf (pS W o p b) s t → Q none t) :
    gc_T P d kc (256 * kc) 7 0 [.ref 10, .int (nI o), .int (nI p), .int (nI b), gc_u, gc_u] [] s Q := by
  have hok := hC.2.2.2.1
  have hp24 := hok.1.2.2.2.2
  have hi := cl_num_lt ho (show p < 24 by omega) hb
  have hlo := ld_lo_le hok p hp
  have hbb := sb_self b hb
  have outer : ∀ m q, q + m = p + 1 → ld_lo W p ≤ q → ∀ (t : gc_St) (l5 : Value) (k : Nat), cl_rows W v t → pf (fun i => pS W o p b i && decide (i < cl_num o q 0)) s t → (∀ q' c, ld_lo W p ≤ q' → q' < q → c < 8 → sb_in c b = true → gc_I t 24 (cl_num o q' c) = nI v) → k = kF (fun i => pS W o p b i && (gc_Y t i).isNone) (cl_num o q 0) (1536 - cl_num o q 0) → gc_T P d k (256 * k) 7 45 [.ref 10, .int (nI o), .int (nI p), .int (nI b), .int (nI q), l5] [] t Q := by
    intro m
    induction m with
    | zero =>
      intro q hq hlq t l5 k t1 t2 t3 hk
      obtain rfl : q = p + 1 := by omega
      have hlast : ∀ i, pS W o p b i = true → i < cl_num o (p + 1) 0 := by
        intro i e
        obtain ⟨q', c, e1, e2, e3, e4, e5, e6⟩ := pS_of e
        rw [e1]
        unfold cl_num
        omega
      have hk0 : k = 0 := by
        rw [hk]
        refine kF_zero _ _ fun i z1 _ => ?_
        rw [show pS W o p b i = false from by
          cases e : pS W o p b i with
          | false => rfl
          | true => exact absurd (hlast i e) (by omega)]
        rfl
      refine b_X0_prepare_45 hP hm (pk_lt p (p + 1) (fun _ => ⟨hk0, ?_⟩) (fun z => by omega))
      refine h t t1 (t3 p b hlo (by omega) hb hbb) (pf_S t2 fun i _ => ?_)
      cases e : pS W o p b i with
      | false => rfl
      | true => rw [decide_eq_true (hlast i e)]; rfl
    | succ m ih =>
      intro q hq hlq t l5 k t1 t2 t3 hk
      have inner : ∀ n c, c + n = b + 1 → ∀ (t : gc_St) (k : Nat), cl_rows W v t → pf (fun i => pS W o p b i && decide (i < cl_num o q c)) s t → (∀ q' c, ld_lo W p ≤ q' → q' < q → c < 8 → sb_in c b = true → gc_I t 24 (cl_num o q' c) = nI v) → (∀ c', c' < c → sb_in c' b = true → gc_I t 24 (cl_num o q c') = nI v) → k = kF (fun i => pS W o p b i && (gc_Y t i).isNone) (cl_num o q c) (1536 - cl_num o q c) → gc_T P d k (256 * k) 7 54 [.ref 10, .int (nI o), .int (nI p), .int (nI b), .int (nI q), .int (nI c)] [] t Q := by
        intro n
        induction n with
        | zero =>
          intro c hc t k t1 t2 t3 t4 hk
          obtain rfl : c = b + 1 := by omega
          have hskip : ∀ i, cl_num o q (b + 1) ≤ i → i < cl_num o (q + 1) 0 → pS W o p b i = false := by
            intro i z1 z2
            refine pS_f fun q' c' e1 e2 e3 e4 e5 e6 => ?_
            have := (sb_le b hb c' e5 e6).1
            rw [e1] at z1 z2
            unfold cl_num at z1 z2
            omega
          refine b_X0_prepare_54 hP hm (pk_lt b (b + 1) (fun _ => ?_) (fun z => by omega))
          rw [nI_1]
          refine ih (q + 1) (by omega) (by omega) t _ k t1 (pf_S t2 fun i _ => ?_) (fun q' c z1 z2 z3 z4 => ?_) ?_
          · cases e : pS W o p b i with
            | false => rfl
            | true =>
              show decide (i < cl_num o (q + 1) 0) = decide (i < cl_num o q (b + 1))
              by_cases z : i < cl_num o q (b + 1)
              · rw [decide_eq_true z, decide_eq_true (by unfold cl_num at z ⊢; omega)]
              · rw [decide_eq_false z, decide_eq_false]
                intro y
                rw [hskip i (by omega) y] at e
                exact absurd e (by decide)
          · by_cases e : q' = q
            · rw [e]
              have := (sb_le b hb c z3 z4).1
              exact t4 c (by omega) z4
            · exact t3 q' c z1 (by omega) z3 z4
          · rw [hk, show 1536 - cl_num o q (b + 1) = (7 - b) + (1536 - cl_num o (q + 1) 0) by unfold cl_num; omega, kF_add, kF_zero, show cl_num o q (b + 1) + (7 - b) = cl_num o (q + 1) 0 by unfold cl_num; omega, Nat.zero_add]
            intro i z1 z2
            rw [hskip i z1 (by unfold cl_num at z2 ⊢; omega)]
            rfl
        | succ n ih2 =>
          intro c hc t k t1 t2 t3 t4 hk
          have hj := cl_num_lt ho (show q < 24 by omega) (show c < 8 by omega)
          have hj1 : cl_num o q (c + 1) = cl_num o q c + 1 := rfl
          have hk' : k = (if (pS W o p b (cl_num o q c) && (gc_Y t (cl_num o q c)).isNone) = true then 1 else 0) + kF (fun i => pS W o p b i && (gc_Y t i).isNone) (cl_num o q (c + 1)) (1536 - cl_num o q (c + 1)) := by
            rw [hk, show 1536 - cl_num o q c = (1536 - cl_num o q (c + 1)) + 1 by omega, kF_S, hj1]
          have hpS : pS W o p b (cl_num o q c) = sb_in c b := by
            rw [pS_num (by omega) (by omega), decide_eq_true hlq, decide_eq_true (show q ≤ p by omega)]
            rfl
          rw [hpS] at hk'
          refine b_X0_prepare_54 hP hm (pk_lt b c (fun z => by omega) (fun _ => ⟨by omega, sp_isSubset hP hm (by omega) hb ?_⟩))
          cases hin : sb_in c b with
          | false =>
            rw [hin] at hk' hpS
            refine ⟨fun _ => b_X0_prepare_78 hP hm ?_, fun y => absurd rfl y⟩
            rw [nI_1]
            refine ih2 (c + 1) (by omega) t k t1 (pf_S t2 fun i _ => ?_) t3 (fun c' z1 z2 => ?_) ?_
            · by_cases e : i = cl_num o q c
              · rw [e, hpS]
                rfl
              · rw [show decide (i < cl_num o q (c + 1)) = decide (i < cl_num o q c) from by
                  by_cases z : i < cl_num o q c
                  · rw [decide_eq_true z, decide_eq_true (by omega)]
                  · rw [decide_eq_false z, decide_eq_false (by omega)]]
            · by_cases e : c' = c
              · rw [e, hin] at z2
                exact absurd z2 (by decide)
              · exact t4 c' (by omega) z2
            · rw [hk']
              exact Nat.zero_add _
          | true =>
            rw [hin] at hk' hpS
            rw [Bool.true_and] at hk'
            generalize hk1 : (if (gc_Y t (cl_num o q c)).isNone = true then 1 else 0) = k1 at hk'
            refine ⟨fun y => absurd y (by decide), fun _ => ⟨by omega, k1, 256 * k1, by omega, by omega, ?_⟩⟩
            refine sp_fillRow hP hm (by omega) (cl_C_pf hC t2) t1 hv ho (by omega) (by omega) (fun q' c' z1 z2 z3 z4 z5 => ?_) hk1.symm fun u u1 u2 u3 => b_X0_prepare_78 hP hm ?_
            · have z6 := sb_tr b hb c (by omega) hin c' z3 z4
              have z7 := ld_lo_in hok p hp q hlq (by omega)
              by_cases e : q' = q
              · rw [e]
                have := (sb_le c (by omega) c' z3 z4).1
                exact t4 c' (by omega) z6
              · exact t3 q' c' (by omega) (by omega) z3 z6
            · rw [nI_1, show k - k1 = kF (fun i => pS W o p b i && (gc_Y t i).isNone) (cl_num o q (c + 1)) (1536 - cl_num o q (c + 1)) by omega, show 256 * k - 256 * k1 = 256 * (k - k1) by omega, show k - k1 = kF (fun i => pS W o p b i && (gc_Y t i).isNone) (cl_num o q (c + 1)) (1536 - cl_num o q (c + 1)) by omega]
              have keep : ∀ q' c', q' < 24 → c' < 8 → gc_I t 24 (cl_num o q' c') = nI v → gc_I u 24 (cl_num o q' c') = nI v := by
                intro q' c' z1 z2 z3
                by_cases e : cl_num o q' c' = cl_num o q c
                · rw [e]
                  exact u2
                · rw [u3.2.2.2.2.2.2.1 _ (cl_num_lt ho z1 z2) (beq_f e)]
                  exact z3
              refine ih2 (c + 1) (by omega) u _ u1 (pf_trans t2 u3 fun i _ => ?_) (fun q' c' z1 z2 z3 z4 => keep q' c' (by omega) z3 (t3 q' c' z1 z2 z3 z4)) (fun c' z1 z2 => ?_) ?_
              · by_cases e : i = cl_num o q c
                · rw [e, hpS, Nat.beq_refl, decide_eq_true (show cl_num o q c < cl_num o q (c + 1) by omega)]
                  cases decide (cl_num o q c < cl_num o q c) <;> rfl
                · rw [beq_f e, show decide (i < cl_num o q (c + 1)) = decide (i < cl_num o q c) from by
                    by_cases z : i < cl_num o q c
                    · rw [decide_eq_true z, decide_eq_true (by omega)]
                    · rw [decide_eq_false z, decide_eq_false (by omega)], Bool.or_false]
              · by_cases e : c' = c
                · rw [e]
                  exact u2
                · exact keep q c' (by omega) (by omega) (t4 c' (by omega) z2)
              · refine kF_congr _ _ fun i z1 z2 => ?_
                have e : (gc_Y u i).isNone = ((gc_Y t i).isNone && !Nat.beq i (cl_num o q c)) := u3.2.2.2.2.2.2.2.1 i (by omega)
                rw [e, beq_f (show i ≠ cl_num o q c by omega)]
                cases (gc_Y t i).isNone <;> cases pS W o p b i <;> rfl
      refine b_X0_prepare_45 hP hm (pk_lt p q (fun z => by omega) (fun _ => ?_))
      exact inner (b + 1) 0 (by omega) t k t1 t2 t3 (fun c' z => absurd z (Nat.not_lt_zero _)) hk
  have hF4 : gc_F s L 4 = nI (ld_p W) := hC.2.2.1.1.2.2.2.2
  refine b_X0_prepare_0 hP hm ⟨fun z => absurd z (nI_pos (by omega)), fun _ => ⟨by rw [hC.2.1]; exact cl_io hC.1, ?_⟩⟩
  rw [hC.2.1, hF4]
  refine pk_le (ld_p W) p (fun z => by omega) (fun _ => ⟨by omega, sp_rowNumber hP hm ⟨vp_in_nI hi (by omega), fun z => ?_, fun z => ?_⟩⟩)
  · refine ⟨by rw [hC.2.1]; exact cl_io hC.1, vp_in_nI (by omega) (by omega), ?_⟩
    rw [hC.2.1, nI_clamp (by omega), cl_lo hC.2.2.1 hp]
    refine outer (p + 1 - ld_lo W p) (ld_lo W p) (by omega) (Nat.le_refl _) s _ kc hR (pf_refl fun i _ e => ?_) (fun q' c z1 z2 => by omega) ?_
    · simp only [Bool.and_eq_true, decide_eq_true_eq] at e
      obtain ⟨q', c, e1, e2, e3, e4, e5, e6⟩ := pS_of e.1
      have e7 := e.2
      rw [e1] at e7
      unfold cl_num at e7
      omega
    · have hj := cl_num_lt ho (show ld_lo W p < 24 by omega) (show 0 < 8 by decide)
      rw [hkc, show 1536 = cl_num o (ld_lo W p) 0 + (1536 - cl_num o (ld_lo W p) 0) by omega, kF_add, kF_zero, Nat.zero_add, Nat.zero_add, show cl_num o (ld_lo W p) 0 + (1536 - cl_num o (ld_lo W p) 0) - cl_num o (ld_lo W p) 0 = 1536 - cl_num o (ld_lo W p) 0 by omega]
      intro i _ z2
      rw [show pS W o p b i = false from pS_f fun q' c e1 e2 e3 e4 e5 e6 => by
        rw [e1] at z2
        unfold cl_num at z2
        omega]
      rfl
  · rw [nI_clamp (by omega)] at z
    have z' := z.trans hR.1
    have hY : ∀ i, i < 1536 → pS W o p b i = true → (gc_Y s i).isNone = false := by
      intro i _ e
      obtain ⟨q', c, e1, e2, e3, e4, e5, e6⟩ := pS_of e
      obtain ⟨⟨a', y1, _⟩, _⟩ := hR.2.2.2 o q' c ho (by omega) e5 ((hR.2.2.2 o p b ho hp hb z').2 q' c e2 e3 e5 e6)
      rw [e1, y1]
      rfl
    refine ⟨?_, h s hR z' (pf_refl hY)⟩
    rw [hkc]
    refine kF_zero _ _ fun i _ z2 => ?_
    cases e : pS W o p b i with
    | false => rfl
    | true => rw [hY i (by omega) e]; rfl
theorem sp_least (hP : gc_Cl P) (hm : gc_Mo P) (hd : 2 ≤ d) {st : Nat} (hok : ld_ok W) (hR : cl_rows W v s) (ho : o < 8) (hp : p < ld_p W) (hb : b < 8) (hst : st < ld_N W) (hv : gc_I s 24 (cl_num o p b) = nI v) (h : Q (some (.int (nI (dp_D W o p st b)))) s) : gc_T P d 0 0 6 0 [.ref 10, .int (nI o), .int (nI p), .int (nI st), .int (nI b)] [] s Q := by
  have hN := ld_N_le hok
  have hp24 := hok.1.2.2.2.2
  obtain ⟨⟨a', y1, y2⟩, _⟩ := hR.2.2.2 o p b ho hp hb hv
  obtain ⟨g1, g2, g3, _⟩ := hR.2.2.1.2.1 _ _ (cl_num_lt ho (show p < 24 by omega) hb) y1
  have hg := gk_row g1 g2 g3
  refine b_X0_least_0 hP hm ⟨fun z => absurd z (nI_pos (by omega)), fun _ => pk_le 256 st (fun z => by omega) (fun _ => ⟨by omega, ?_⟩)⟩
  refine sp_rowOf hP hm (by omega) ho (by omega) hb (hv.trans hR.1.symm) y1 ⟨by rw [hg], by rw [hg]; exact vp_in_nI (by omega) (by omega), ?_⟩
  rw [nI_clamp (by omega), y2 st hst]
  exact h
end Pr
