/-! The class: LACK, SPARE, NEEDED. -/
def pr_a (W : ld_W) (x : Nat) : Nat → Nat
  | 0 => 0
  | g + 1 => pr_a W x g + ld_pr W g * (x / 4 ^ g % 4)
theorem pr_a_le {W : ld_W} (hok : ld_ok W) (x : Nat) : ∀ n, n ≤ ld_g W → pr_a W x n ≤ 297 * n
  | 0, _ => Nat.le_refl _
  | g + 1, h => by
    have ih := pr_a_le hok x g (by omega)
    have h1 := (hok.2.2.2.2.1 g (by omega)).2
    have h2 : x / 4 ^ g % 4 < 4 := Nat.mod_lt _ (by decide)
    have h3 : ld_pr W g * (x / 4 ^ g % 4) ≤ 99 * 3 := Nat.mul_le_mul h1 (by omega)
    show pr_a W x g + ld_pr W g * (x / 4 ^ g % 4) ≤ 297 * (g + 1)
    omega
def pr_al (W : ld_W) (x : Nat) : Nat := pr_a W x (ld_g W)
theorem pr_al_le {W : ld_W} (hok : ld_ok W) (x : Nat) : pr_al W x ≤ 1188 := by
  have h1 := pr_a_le hok x (ld_g W) (Nat.le_refl _)
  have h2 := hok.1.1
  unfold pr_al
  omega
noncomputable def lk_ok (W : ld_W) (h : Nat × Nat × Nat) (p x : Nat) : Bool := st_fit h.1 x && !decide (dp_D W h.2.1 p (h.1 + x) h.2.2 = 0)
noncomputable def lk (W : ld_W) (h : Nat × Nat × Nat) (p : Nat) : Nat → Option Nat
  | 0 => none
  | n + 1 => if lk_ok W h p n = true then (match lk W h p n with
    | none => some n
    | some b => if pr_al W n < pr_al W b then some n else some b) else lk W h p n
noncomputable def sr_ok (W : ld_W) (h : Nat × Nat × Nat) (p x : Nat) : Bool := st_in x h.1 && !decide (dp_D W h.2.1 p (h.1 - x) h.2.2 = 0)
noncomputable def sr (W : ld_W) (h : Nat × Nat × Nat) (p : Nat) : Nat → Option Nat
  | 0 => none
  | n + 1 => if sr_ok W h p n = true then (match sr W h p n with
    | none => some n
    | some b => if pr_al W b < pr_al W n then some n else some b) else sr W h p n
def op_p (W : ld_W) (x : Option Nat) : Int32 := match x with
  | none => -2
  | some b => nI (pr_al W b)
def op_x (x : Option Nat) : Int32 := match x with
  | none => -2
  | some b => nI b
def an_op (W : ld_W) (x : Option Nat) (w : Nat) : Int32 := if w = 0 then op_p W x else op_x x
theorem m2_le {n : Nat} (h : n < 2 ^ 31) : ¬ nI n ≤ -2 := by
  intro e
  rw [Int32.le_iff_toInt_le, nI_toInt h] at e
  have : (-2 : Int32).toInt = -2 := by decide
  omega
section Qc
variable {P : gc_Pr} {d : Nat} {s : gc_St} {Q : gc_TQ} {W : ld_W} {L v o q kc p : Nat} {h : Nat × Nat × Nat}
theorem sp_priceOf (hP : gc_Cl P) (hm : gc_Mo P) (hd : 1 ≤ d) (hC : cl_C W L s) {x : Nat} (hx : x < 256) (hQ : Q (some (.int (nI (pr_al W x)))) s) : gc_T P d 0 0 160 0 [.ref 0, .int (nI x), gc_u, gc_u, gc_u] [] s Q := by
  have hok := hC.2.2.2.1
  have hg4 := hok.1.1
  have hF : gc_F s L 0 = nI (ld_g W) := hC.2.2.1.1.1
  refine b_X10_priceOf_0 hP hm ?_
  rw [hC.2.1]
  have key : ∀ m g, g + m = ld_g W → gc_T P d 0 0 160 13 [.ref 0, .int (nI x), .ref L, .int (nI (pr_a W x g)), .int (nI g)] [] s Q := by
    intro m
    induction m with
    | zero =>
      intro g hg
      obtain rfl : g = ld_g W := by omega
      refine b_X10_priceOf_13 hP hm ⟨cl_io hC.1, ?_⟩
      rw [hF]
      exact pk_le (ld_g W) (ld_g W) (fun _ => hQ) (fun z => by omega)
    | succ m ih =>
      intro g hg
      have hn := ih (g + 1) (by omega)
      refine b_X10_priceOf_13 hP hm ⟨cl_io hC.1, ?_⟩
      rw [hF]
      refine pk_le (ld_g W) g (fun z => by omega) (fun _ => ⟨vp_in_nI (by omega) (by omega), hd, sp_countOf hP hm hx (by omega) ?_⟩)
      show gc_T P d 0 0 160 13 [.ref 0, .int (nI x), .ref L, .int (nI (pr_a W x g) + (gc_I s (gc_rS L 7) (nI g).toNatClampNeg) * nI (x / 4 ^ g % 4)), .int (nI g + 1)] [] s Q
      rw [nI_clamp (by omega), cl_pr hC.2.2.1 (by omega), pk_mul, nI_add, nI_1]
      exact hn
  exact key (ld_g W) 0 (by omega)
theorem sp_isShown (hP : gc_Cl P) (hm : gc_Mo P) (hd : 3 ≤ d) (hq : cq W L v h s) (hp : p < ld_p W) {st : Nat} (hst : st < ld_N W) (hv : gc_I s 24 (cl_num h.2.1 p h.2.2) = nI v) (hQ : Q (some (.int (cb (!decide (dp_D W h.2.1 p st h.2.2 = 0))))) s) : gc_T P d 0 0 159 0 [.ref 0, .int (nI p), .int (nI st)] [] s Q := by
  obtain ⟨b1, b2, hok⟩ := cq_b hq
  have hD := dp_D_max (o := h.2.1) hok hp hst b2
  refine b_X10_isShown_0 hP hm ⟨by omega, ?_⟩
  rw [hq.2.2.1.2.1, hq.2.2.1.2.2]
  refine sp_least hP hm (by omega) hok hq.1.2 b1 hp b2 hst hv (pk_le (dp_D W h.2.1 p st h.2.2) 0 (fun z => ?_) (fun z => ?_))
  · rw [decide_eq_true (show dp_D W h.2.1 p st h.2.2 = 0 by omega)] at hQ
    exact hQ
  · rw [decide_eq_false (show ¬ dp_D W h.2.1 p st h.2.2 = 0 by omega)] at hQ
    exact hQ
theorem lk_lt : ∀ n x, lk W h p n = some x → x < n
  | 0, x, e => by
    unfold lk at e
    simp at e
  | n + 1, x, e => by
    unfold lk at e
    split at e
    · cases e2 : lk W h p n with
      | none =>
        rw [e2] at e
        simp only [Option.some.injEq] at e
        omega
      | some b =>
        rw [e2] at e
        have := lk_lt n b e2
        simp only at e
        split at e
        · simp only [Option.some.injEq] at e
          omega
        · simp only [Option.some.injEq] at e
          omega
    · have := lk_lt n x e
      omega
theorem sp_lackC (hP : gc_Cl P) (hm : gc_Mo P) (hd : 9 ≤ d) (hq : cq W L v h s) {k w : Nat} (hk : k < ld_c W) (hw : w < 2) (hkc : kc = kP W h.2.1 (ld_ro W k) h.2.2 s) (hQ : ∀ t, cq W L v h t → cx A0 B0 kc s t → Q (some (.int (an_op W (lk W h (ld_ro W k) (ld_N W)) w))) t) : gc_T P d kc (256 * kc) 142 0 [.ref 0, .int (nI k), .int (nI w), gc_u, gc_u, gc_u, gc_u, gc_u] [] s Q := by
  obtain ⟨b1, b2, hok⟩ := cq_b hq
  have hr := ld_root hok hk
  have hc6 := hok.1.2.2.2.1
  have hN := ld_N_le hok
  have hsN := hq.2.2.2.1
  refine b_X10_lack_0 hP hm ⟨by omega, sp_root hP hm hq.1.1 (fun k' hk' e => ⟨fun y => absurd y (m1_ne (by have := (ld_root hok hk').2; omega)), fun _ => ⟨fun y => absurd y (nI_pos (by omega)), fun _ => pk_le w 1 (fun _ => ⟨by omega, kc, 256 * kc, Nat.le_refl _, Nat.le_refl _, ?_⟩) (fun z => by omega)⟩⟩) (fun e => absurd rfl (e k hk))⟩
  rw [nI_eq (by omega) (by omega)] at e
  subst e
  rw [hq.2.2.1.2.1, hq.2.2.1.2.2]
  refine sp_prep hP hm (by omega) hq b1 hr.1 b2 hkc fun t t1 t2 t3 => ?_
  show gc_T P d (kc - kc) (256 * kc - 256 * kc) 142 55 _ [] t Q
  rw [Nat.sub_self, Nat.sub_self]
  have key : ∀ m j (l7 : Value), j + m = ld_N W → gc_T P d 0 0 142 55 [.ref 0, .int (nI k), .int (nI w), .int (nI (ld_ro W k)), .int (op_p W (lk W h (ld_ro W k) j)), .int (op_x (lk W h (ld_ro W k) j)), .int (nI j), l7] [] t Q := by
    intro m
    induction m with
    | zero =>
      intro j l7 hj
      obtain rfl : j = ld_N W := by omega
      refine b_X10_lack_55 hP hm ⟨by rw [t1.1.1.2.1]; exact cl_io t1.1.1.1, by omega, ?_⟩
      rw [t1.1.1.2.1]
      have hQt := hQ t t1 t3
      unfold an_op at hQt
      refine sp_stockCount hP hm t1.1.1.1 t1.1.1.2.2.1 hok (pk_le (ld_N W) (ld_N W) (fun _ => ⟨fun y => ⟨rfl, ?_⟩, fun y => ⟨rfl, ?_⟩⟩) (fun z => by omega))
      · rw [if_neg (fun e => y (by rw [e]; rfl))] at hQt
        exact hQt
      · rw [show (0 : Int32) = nI 0 from rfl, nI_eq (by omega) (by omega)] at y
        rw [if_pos y] at hQt
        exact hQt
    | succ m ih =>
      intro j l7 hj
      have hn := fun l => ih (j + 1) l (by omega)
      have hS : lk W h (ld_ro W k) (j + 1) = if lk_ok W h (ld_ro W k) j = true then (match lk W h (ld_ro W k) j with
        | none => some j
        | some b => if pr_al W j < pr_al W b then some j else some b) else lk W h (ld_ro W k) j := rfl
      have skip : lk_ok W h (ld_ro W k) j = false → ∀ l7, gc_T P d 0 0 142 133 [.ref 0, .int (nI k), .int (nI w), .int (nI (ld_ro W k)), .int (op_p W (lk W h (ld_ro W k) j)), .int (op_x (lk W h (ld_ro W k) j)), .int (nI j), l7] [] t Q := by
        intro e l7
        refine b_X10_lack_133 hP hm ?_
        rw [nI_1]
        rw [hS, if_neg (by rw [e]; decide)] at hn
        exact hn l7
      refine b_X10_lack_55 hP hm ⟨by rw [t1.1.1.2.1]; exact cl_io t1.1.1.1, by omega, ?_⟩
      rw [t1.1.1.2.1]
      refine sp_stockCount hP hm t1.1.1.1 t1.1.1.2.2.1 hok (pk_le (ld_N W) j (fun z => by omega) (fun _ => ⟨by omega, ?_⟩))
      rw [t1.2.2.1.1]
      refine sp_fits hP hm (by omega) (by omega) ?_
      by_cases hf : st_fit h.1 j = true
      · rw [if_pos hf]
        have hlt := ld_lt hok hsN (show j < ld_N W by omega) hf
        refine ⟨fun y => absurd y (by decide), fun _ => ⟨by omega, ?_⟩⟩
        rw [t1.2.2.1.1, nI_add]
        refine sp_isShown hP hm (by omega) t1 hr.1 hlt t2 ?_
        by_cases hD : dp_D W h.2.1 (ld_ro W k) (h.1 + j) h.2.2 = 0
        · rw [decide_eq_true hD]
          exact ⟨fun _ => skip (by unfold lk_ok; rw [hf, decide_eq_true hD]; rfl) _, fun y => absurd rfl y⟩
        · rw [decide_eq_false hD]
          have e1 : lk_ok W h (ld_ro W k) j = true := by
            unfold lk_ok
            rw [hf, decide_eq_false hD]
            rfl
          rw [hS, if_pos e1] at hn
          refine ⟨fun y => absurd y (by decide), fun _ => ⟨by omega, sp_priceOf hP hm (by omega) t1.1.1 (by omega) ?_⟩⟩
          have hpj := pr_al_le hok j
          have take : lk W h (ld_ro W k) (j + 1) = some j → ∀ x y : Int32, gc_T P d 0 0 142 125 [.ref 0, .int (nI k), .int (nI w), .int (nI (ld_ro W k)), .int x, .int y, .int (nI j), .int (nI (pr_al W j))] [] t Q := by
            intro e x y
            refine b_X10_lack_125 hP hm (b_X10_lack_133 hP hm ?_)
            rw [nI_1]
            rw [hS, if_pos e1] at e
            rw [e] at hn
            exact hn _
          cases e2 : lk W h (ld_ro W k) j with
          | none =>
            refine ⟨fun _ => take ?_ _ _, fun y => absurd rfl y⟩
            rw [hS, if_pos e1, e2]
          | some b =>
            have hpb := pr_al_le hok b
            refine ⟨fun y => absurd y (m2_ne (by omega)), fun _ => pk_le (pr_al W b) (pr_al W j) (fun z => b_X10_lack_133 hP hm ?_) (fun z => take ?_ _ _)⟩
            · rw [nI_1]
              rw [e2] at hn
              simp only [if_neg (show ¬ pr_al W j < pr_al W b by omega)] at hn
              exact hn _
            · rw [hS, if_pos e1, e2]
              exact if_pos z
      · rw [if_neg hf]
        refine ⟨fun _ => skip ?_ _, fun y => absurd rfl y⟩
        unfold lk_ok
        rw [show st_fit h.1 j = false by simpa using hf]
        rfl
  exact key (ld_N W) 0 gc_u (by omega)
theorem sp_lackN (hP : gc_Cl P) (hm : gc_Mo P) (hd : 9 ≤ d) (hq : cq W L v h s) {c w : Int32} (hc : (∀ k, k < ld_c W → c ≠ nI k) ∨ (∀ k, k < 2 → w ≠ nI k)) (hQ : Q (some (.int (-1))) s) : gc_T P d 0 0 142 0 [.ref 0, .int c, .int w, gc_u, gc_u, gc_u, gc_u, gc_u] [] s Q := by
  refine b_X10_lack_0 hP hm ⟨by omega, sp_root hP hm hq.1.1 (fun k' hk' e => ⟨fun y => ⟨rfl, hQ⟩, fun _ => ⟨fun _ => ⟨rfl, hQ⟩, fun y => ⟨fun y2 => ?_, fun _ => ⟨rfl, hQ⟩⟩⟩⟩) (fun _ => ⟨fun _ => ⟨rfl, hQ⟩, fun y => absurd rfl y⟩)⟩
  rcases hc with z | z
  · exact absurd e (z k' hk')
  · obtain ⟨j, hj, rfl⟩ := nI_of y
    rw [show (1 : Int32) = nI 1 from rfl, nI_leI hj (by decide)] at y2
    exact absurd rfl (z j (by omega))
theorem sp_spareC (hP : gc_Cl P) (hm : gc_Mo P) (hd : 9 ≤ d) (hq : cq W L v h s) {k w : Nat} (hk : k < ld_c W) (hw : w < 2) (hkc : kc = kP W h.2.1 (ld_ro W k) h.2.2 s) (hQ : ∀ t, cq W L v h t → cx A0 B0 kc s t → Q (some (.int (an_op W (sr W h (ld_ro W k) (ld_N W)) w))) t) : gc_T P d kc (256 * kc) 143 0 [.ref 0, .int (nI k), .int (nI w), gc_u, gc_u, gc_u, gc_u, gc_u] [] s Q := by
  obtain ⟨b1, b2, hok⟩ := cq_b hq
  have hr := ld_root hok hk
  have hc6 := hok.1.2.2.2.1
  have hN := ld_N_le hok
  have hsN := hq.2.2.2.1
  refine b_X10_spare_0 hP hm ⟨by omega, sp_root hP hm hq.1.1 (fun k' hk' e => ⟨fun y => absurd y (m1_ne (by have := (ld_root hok hk').2; omega)), fun _ => ⟨fun y => absurd y (nI_pos (by omega)), fun _ => pk_le w 1 (fun _ => ⟨by omega, kc, 256 * kc, Nat.le_refl _, Nat.le_refl _, ?_⟩) (fun z => by omega)⟩⟩) (fun e => absurd rfl (e k hk))⟩
  rw [nI_eq (by omega) (by omega)] at e
  subst e
  rw [hq.2.2.1.2.1, hq.2.2.1.2.2]
  refine sp_prep hP hm (by omega) hq b1 hr.1 b2 hkc fun t t1 t2 t3 => ?_
  show gc_T P d (kc - kc) (256 * kc - 256 * kc) 143 55 _ [] t Q
  rw [Nat.sub_self, Nat.sub_self]
  have key : ∀ m j (l7 : Value), j + m = ld_N W → gc_T P d 0 0 143 55 [.ref 0, .int (nI k), .int (nI w), .int (nI (ld_ro W k)), .int (op_p W (sr W h (ld_ro W k) j)), .int (op_x (sr W h (ld_ro W k) j)), .int (nI j), l7] [] t Q := by
    intro m
    induction m with
    | zero =>
      intro j l7 hj
      obtain rfl : j = ld_N W := by omega
      refine b_X10_spare_55 hP hm ⟨by rw [t1.1.1.2.1]; exact cl_io t1.1.1.1, by omega, ?_⟩
      rw [t1.1.1.2.1]
      have hQt := hQ t t1 t3
      unfold an_op at hQt
      refine sp_stockCount hP hm t1.1.1.1 t1.1.1.2.2.1 hok (pk_le (ld_N W) (ld_N W) (fun _ => ⟨fun y => ⟨rfl, ?_⟩, fun y => ⟨rfl, ?_⟩⟩) (fun z => by omega))
      · rw [if_neg (fun e => y (by rw [e]; rfl))] at hQt
        exact hQt
      · rw [show (0 : Int32) = nI 0 from rfl, nI_eq (by omega) (by omega)] at y
        rw [if_pos y] at hQt
        exact hQt
    | succ m ih =>
      intro j l7 hj
      have hn := fun l => ih (j + 1) l (by omega)
      have hS : sr W h (ld_ro W k) (j + 1) = if sr_ok W h (ld_ro W k) j = true then (match sr W h (ld_ro W k) j with
        | none => some j
        | some b => if pr_al W b < pr_al W j then some j else some b) else sr W h (ld_ro W k) j := rfl
      have skip : sr_ok W h (ld_ro W k) j = false → ∀ l7, gc_T P d 0 0 143 126 [.ref 0, .int (nI k), .int (nI w), .int (nI (ld_ro W k)), .int (op_p W (sr W h (ld_ro W k) j)), .int (op_x (sr W h (ld_ro W k) j)), .int (nI j), l7] [] t Q := by
        intro e l7
        refine b_X10_spare_126 hP hm ?_
        rw [nI_1]
        rw [hS, if_neg (by rw [e]; decide)] at hn
        exact hn l7
      refine b_X10_spare_55 hP hm ⟨by rw [t1.1.1.2.1]; exact cl_io t1.1.1.1, by omega, ?_⟩
      rw [t1.1.1.2.1]
      refine sp_stockCount hP hm t1.1.1.1 t1.1.1.2.2.1 hok (pk_le (ld_N W) j (fun z => by omega) (fun _ => ⟨by omega, ?_⟩))
      rw [t1.2.2.1.1]
      refine sp_isWithin hP hm (by omega) (by omega) (by omega) ?_
      by_cases hf : st_in j h.1 = true
      · rw [if_pos hf]
        have hle := st_in_le (show h.1 < 256 by omega) (show j < 256 by omega) hf
        refine ⟨fun y => absurd y (by decide), fun _ => ⟨by omega, ?_⟩⟩
        rw [t1.2.2.1.1, pk_sub hle]
        refine sp_isShown hP hm (by omega) t1 hr.1 (by omega) t2 ?_
        by_cases hD : dp_D W h.2.1 (ld_ro W k) (h.1 - j) h.2.2 = 0
        · rw [decide_eq_true hD]
          exact ⟨fun _ => skip (by unfold sr_ok; rw [hf, decide_eq_true hD]; rfl) _, fun y => absurd rfl y⟩
        · rw [decide_eq_false hD]
          have e1 : sr_ok W h (ld_ro W k) j = true := by
            unfold sr_ok
            rw [hf, decide_eq_false hD]
            rfl
          rw [hS, if_pos e1] at hn
          refine ⟨fun y => absurd y (by decide), fun _ => ⟨by omega, sp_priceOf hP hm (by omega) t1.1.1 (by omega) ?_⟩⟩
          have hpj := pr_al_le hok j
          cases e2 : sr W h (ld_ro W k) j with
          | none =>
            rw [e2] at hn
            refine ⟨fun y => absurd y (m2_le (by omega)), fun _ => b_X10_spare_126 hP hm ?_⟩
            rw [nI_1]
            exact hn _
          | some b =>
            have hpb := pr_al_le hok b
            rw [e2] at hn
            refine pk_le (pr_al W j) (pr_al W b) (fun z => b_X10_spare_126 hP hm ?_) (fun z => b_X10_spare_126 hP hm ?_)
            · rw [nI_1]
              simp only [if_neg (show ¬ pr_al W b < pr_al W j by omega)] at hn
              exact hn _
            · rw [nI_1]
              simp only [if_pos z] at hn
              exact hn _
      · rw [if_neg hf]
        refine ⟨fun _ => skip ?_ _, fun y => absurd rfl y⟩
        unfold sr_ok
        rw [show st_in j h.1 = false by simpa using hf]
        rfl
  exact key (ld_N W) 0 gc_u (by omega)
theorem sp_spareN (hP : gc_Cl P) (hm : gc_Mo P) (hd : 9 ≤ d) (hq : cq W L v h s) {c w : Int32} (hc : (∀ k, k < ld_c W → c ≠ nI k) ∨ (∀ k, k < 2 → w ≠ nI k)) (hQ : Q (some (.int (-1))) s) : gc_T P d 0 0 143 0 [.ref 0, .int c, .int w, gc_u, gc_u, gc_u, gc_u, gc_u] [] s Q := by
  refine b_X10_spare_0 hP hm ⟨by omega, sp_root hP hm hq.1.1 (fun k' hk' e => ⟨fun y => ⟨rfl, hQ⟩, fun _ => ⟨fun _ => ⟨rfl, hQ⟩, fun y => ⟨fun y2 => ?_, fun _ => ⟨rfl, hQ⟩⟩⟩⟩) (fun _ => ⟨fun _ => ⟨rfl, hQ⟩, fun y => absurd rfl y⟩)⟩
  rcases hc with z | z
  · exact absurd e (z k' hk')
  · obtain ⟨j, hj, rfl⟩ := nI_of y
    rw [show (1 : Int32) = nI 1 from rfl, nI_leI hj (by decide)] at y2
    exact absurd rfl (z j (by omega))
end Qc
