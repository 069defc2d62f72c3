/-! LACK, SPARE of the reference; NEEDED of both. -/
def op_r (x : Option Nat) : Int32 := match x with
  | none => -1
  | some b => nI b
section Rn
variable {P : gc_Pr} {d : Nat} {s : gc_St} {Q : gc_TQ} {W : ld_W} {lv o p st b : Nat} {h : Nat × Nat × Nat}
theorem sp_priceAll (hP : gc_Cl P) (hm : gc_Mo P) (hl : rf_law W lv s) {x : Nat} (hx : x < 256) (hQ : Q (some (.int (nI (pr_al W x)))) s) : gc_T P d 0 0 269 0 [.ref 67, .int (nI x), gc_u, gc_u] [] s Q := by
  have hok := hl.1.2.2
  have hlv := hl.1.1
  have hg4 := hok.1.1
  refine b_X11_priceAll_0 hP hm ?_
  have key : ∀ m g, g + m = ld_g W → gc_T P d 0 0 269 4 [.ref 67, .int (nI x), .int (nI (pr_a W x g)), .int (nI g)] [] s Q := by
    intro m
    induction m with
    | zero =>
      intro g hg
      obtain rfl : g = ld_g W := by omega
      refine b_X11_priceAll_4 hP hm ?_
      rw [hl.1.2.1, nI_clamp (by omega), hl.2.1.1]
      exact ⟨vp_in_nI hlv (by omega), pk_le (ld_g W) (ld_g W) (fun _ => hQ) (fun z => by omega)⟩
    | succ m ih =>
      intro g hg
      have hn := ih (g + 1) (by omega)
      refine b_X11_priceAll_4 hP hm ?_
      rw [hl.1.2.1, nI_clamp (by omega), hl.2.1.1]
      refine ⟨vp_in_nI hlv (by omega), pk_le (ld_g W) g (fun z => by omega) (fun _ => ?_)⟩
      rw [st_lit 4, pk_mul, nI_add, nI_clamp (by omega), hl.2.2.1 g (by omega), st_lit 2, pk_mul, st_dig hx (by omega), pk_mul, nI_add, nI_1, Nat.mul_comm (x / 4 ^ g % 4)]
      exact ⟨vp_in_nI (by omega) (by omega), hn⟩
  exact key (ld_g W) 0 (by omega)
theorem sp_lackOf (hP : gc_Cl P) (hm : gc_Mo P) (hd : 2 ≤ d) (hq : rq W lv h s) (hT : rw_T W lv h.2.1 s) {k : Nat} (hk : k < ld_c W) (hQ : Q (some (.int (op_r (lk W h (ld_ro W k) (ld_N W))))) s) : gc_T P d 0 0 270 0 [.ref 67, .int (nI k), gc_u, gc_u, gc_u] [] s Q := by
  obtain ⟨b1, b2, hok⟩ := rq_b hq
  have hN := ld_N_le hok
  have hr := ld_root hok hk
  have hsN := hq.2.2.2.1
  refine b_X11_lackOf_0 hP hm ?_
  have key : ∀ m j (l4 : Value), j + m = ld_N W → gc_T P d 0 0 270 4 [.ref 67, .int (nI k), .int (op_r (lk W h (ld_ro W k) j)), .int (nI j), l4] [] s Q := by
    intro m
    induction m with
    | zero =>
      intro j l4 hj
      obtain rfl : j = ld_N W := by omega
      exact b_X11_lackOf_4 hP hm ⟨by omega, sp_stocksAll hP hm hT.1 (pk_le (ld_N W) (ld_N W) (fun _ => hQ) (fun z => by omega))⟩
    | succ m ih =>
      intro j l4 hj
      have hn := fun l => ih (j + 1) l (by omega)
      have hS : lk W h (ld_ro W k) (j + 1) = if lk_ok W h (ld_ro W k) j = true then (match lk W h (ld_ro W k) j with
        | none => some j
        | some b => if pr_al W j < pr_al W b then some j else some b) else lk W h (ld_ro W k) j := rfl
      have skip : lk_ok W h (ld_ro W k) j = false → ∀ x : Int32, gc_T P d 0 0 270 65 [.ref 67, .int (nI k), .int (op_r (lk W h (ld_ro W k) j)), .int (nI j), .int x] [] s Q := by
        intro e x
        refine b_X11_lackOf_65 hP hm ?_
        rw [nI_1]
        rw [hS, if_neg (by rw [e]; decide)] at hn
        exact hn _
      refine b_X11_lackOf_4 hP hm ⟨by omega, sp_stocksAll hP hm hT.1 (pk_le (ld_N W) j (fun z => by omega) (fun _ => ⟨by omega, ?_⟩))⟩
      rw [hq.2.2.1.1]
      refine sp_plus hP hm (by omega) (by omega) ?_
      unfold st_plus
      by_cases hf : st_fit h.1 j = true
      · rw [if_pos hf]
        have hlt := ld_lt hok hsN (show j < ld_N W by omega) hf
        have hDm := dp_D_max (o := h.2.1) hok hr.1 hlt b2
        refine ⟨fun y => absurd y (m1_ne (by omega)), fun _ => ⟨by omega, ?_⟩⟩
        rw [hq.2.2.1.2.2]
        refine sp_claimDepth hP hm (by omega) hT hk hlt hq.2.2.2.2.2 ?_
        show (¬ nI (dp_D W h.2.1 (ld_ro W k) (h.1 + j) h.2.2) = 0 → _) ∧ (nI (dp_D W h.2.1 (ld_ro W k) (h.1 + j) h.2.2) = 0 → _)
        rw [show (0 : Int32) = nI 0 from rfl, nI_eq (by omega) (by omega)]
        refine ⟨fun hD => ?_, fun hD => skip (by unfold lk_ok; rw [hf, decide_eq_true hD]; rfl) _⟩
        have e1 : lk_ok W h (ld_ro W k) j = true := by
          unfold lk_ok
          rw [hf, decide_eq_false hD]
          rfl
        rw [hS, if_pos e1] at hn
        cases e2 : lk W h (ld_ro W k) j with
        | none =>
          rw [e2] at hn
          refine ⟨fun _ => b_X11_lackOf_63 hP hm (b_X11_lackOf_65 hP hm ?_), fun y => absurd rfl y⟩
          rw [nI_1]
          exact hn _
        | some x =>
          have hxj := lk_lt j x e2
          have hpj := pr_al_le hok j
          have hpx := pr_al_le hok x
          rw [e2] at hn
          refine ⟨fun y => absurd y (m1_ne (by omega)), fun _ => ⟨by omega, sp_priceAll hP hm hT.1 (by omega) ⟨by omega, sp_priceAll hP hm hT.1 (by omega) (pk_le (pr_al W x) (pr_al W j) (fun z => b_X11_lackOf_65 hP hm ?_) (fun z => b_X11_lackOf_63 hP hm (b_X11_lackOf_65 hP hm ?_)))⟩⟩⟩
          · rw [nI_1]
            simp only [if_neg (show ¬ pr_al W j < pr_al W x by omega)] at hn
            exact hn _
          · rw [nI_1]
            simp only [if_pos z] at hn
            exact hn _
      · rw [if_neg hf]
        refine ⟨fun _ => skip ?_ _, fun y => absurd rfl y⟩
        unfold lk_ok
        rw [show st_fit h.1 j = false by simpa using hf]
        rfl
  exact key (ld_N W) 0 _ (by omega)
theorem sr_lt : ∀ n x, sr W h p n = some x → x < n
  | 0, x, e => by
    unfold sr at e
    simp at e
  | n + 1, x, e => by
    unfold sr at e
    split at e
    · cases e2 : sr W h p n with
      | none =>
        rw [e2] at e
        simp only [Option.some.injEq] at e
        omega
      | some b =>
        rw [e2] at e
        have := sr_lt n b e2
        simp only at e
        split at e
        · simp only [Option.some.injEq] at e
          omega
        · simp only [Option.some.injEq] at e
          omega
    · have := sr_lt n x e
      omega
theorem sp_spareOf (hP : gc_Cl P) (hm : gc_Mo P) (hd : 2 ≤ d) (hq : rq W lv h s) (hT : rw_T W lv h.2.1 s) {k : Nat} (hk : k < ld_c W) (hQ : Q (some (.int (op_r (sr W h (ld_ro W k) (ld_N W))))) s) : gc_T P d 0 0 271 0 [.ref 67, .int (nI k), gc_u, gc_u, gc_u] [] s Q := by
  obtain ⟨b1, b2, hok⟩ := rq_b hq
  have hN := ld_N_le hok
  have hr := ld_root hok hk
  have hsN := hq.2.2.2.1
  refine b_X11_spareOf_0 hP hm ?_
  have key : ∀ m j (l4 : Value), j + m = ld_N W → gc_T P d 0 0 271 4 [.ref 67, .int (nI k), .int (op_r (sr W h (ld_ro W k) j)), .int (nI j), l4] [] s Q := by
    intro m
    induction m with
    | zero =>
      intro j l4 hj
      obtain rfl : j = ld_N W := by omega
      exact b_X11_spareOf_4 hP hm ⟨by omega, sp_stocksAll hP hm hT.1 (pk_le (ld_N W) (ld_N W) (fun _ => hQ) (fun z => by omega))⟩
    | succ m ih =>
      intro j l4 hj
      have hn := fun l => ih (j + 1) l (by omega)
      have hS : sr W h (ld_ro W k) (j + 1) = if sr_ok W h (ld_ro W k) j = true then (match sr W h (ld_ro W k) j with
        | none => some j
        | some b => if pr_al W b < pr_al W j then some j else some b) else sr W h (ld_ro W k) j := rfl
      have skip : sr_ok W h (ld_ro W k) j = false → ∀ x : Int32, gc_T P d 0 0 271 65 [.ref 67, .int (nI k), .int (op_r (sr W h (ld_ro W k) j)), .int (nI j), .int x] [] s Q := by
        intro e x
        refine b_X11_spareOf_65 hP hm ?_
        rw [nI_1]
        rw [hS, if_neg (by rw [e]; decide)] at hn
        exact hn _
      refine b_X11_spareOf_4 hP hm ⟨by omega, sp_stocksAll hP hm hT.1 (pk_le (ld_N W) j (fun z => by omega) (fun _ => ⟨by omega, ?_⟩))⟩
      rw [hq.2.2.1.1]
      refine sp_less hP hm (by omega) (by omega) ?_
      unfold st_less
      by_cases hf : st_in j h.1 = true
      · rw [if_pos hf]
        have hDm := dp_D_max (o := h.2.1) hok hr.1 (show h.1 - j < ld_N W by omega) b2
        refine ⟨fun y => absurd y (m1_ne (by omega)), fun _ => ⟨by omega, ?_⟩⟩
        rw [hq.2.2.1.2.2]
        refine sp_claimDepth hP hm (by omega) hT hk (by omega) hq.2.2.2.2.2 ?_
        show (¬ nI (dp_D W h.2.1 (ld_ro W k) (h.1 - j) h.2.2) = 0 → _) ∧ (nI (dp_D W h.2.1 (ld_ro W k) (h.1 - j) h.2.2) = 0 → _)
        rw [show (0 : Int32) = nI 0 from rfl, nI_eq (by omega) (by omega)]
        refine ⟨fun hD => ?_, fun hD => skip (by unfold sr_ok; rw [hf, decide_eq_true hD]; rfl) _⟩
        have e1 : sr_ok W h (ld_ro W k) j = true := by
          unfold sr_ok
          rw [hf, decide_eq_false hD]
          rfl
        rw [hS, if_pos e1] at hn
        cases e2 : sr W h (ld_ro W k) j with
        | none =>
          rw [e2] at hn
          refine ⟨fun _ => b_X11_spareOf_63 hP hm (b_X11_spareOf_65 hP hm ?_), fun y => absurd rfl y⟩
          rw [nI_1]
          exact hn _
        | some x =>
          have hxj := sr_lt j x e2
          have hpj := pr_al_le hok j
          have hpx := pr_al_le hok x
          rw [e2] at hn
          refine ⟨fun y => absurd y (m1_ne (by omega)), fun _ => ⟨by omega, sp_priceAll hP hm hT.1 (by omega) ⟨by omega, sp_priceAll hP hm hT.1 (by omega) (pk_le (pr_al W j) (pr_al W x) (fun z => b_X11_spareOf_65 hP hm ?_) (fun z => b_X11_spareOf_63 hP hm (b_X11_spareOf_65 hP hm ?_)))⟩⟩⟩
          · rw [nI_1]
            simp only [if_neg (show ¬ pr_al W x < pr_al W j by omega)] at hn
            exact hn _
          · rw [nI_1]
            simp only [if_pos z] at hn
            exact hn _
      · rw [if_neg hf]
        refine ⟨fun _ => skip ?_ _, fun y => absurd rfl y⟩
        unfold sr_ok
        rw [show st_in j h.1 = false by simpa using hf]
        rfl
  exact key (ld_N W) 0 _ (by omega)
theorem sp_mlack (hP : gc_Cl P) (hm : gc_Mo P) (hd : 6 ≤ d) (hq : rq W lv h s) {c wx : Int32} (h1 : ∀ k w t, k < ld_c W → c = nI k → w < 2 → wx = nI w → rq W lv h t → fr RA RB s t → Q (some (.int (an_op W (lk W h (ld_ro W k) (ld_N W)) w))) t) (h2 : ((∀ k, k < ld_c W → c ≠ nI k) ∨ (∀ k, k < 2 → wx ≠ nI k)) → Q (some (.int (-1))) s) : gc_T P d 0 0 272 0 [.ref 67, .int c, .int wx, gc_u] [] s Q := by
  obtain ⟨b1, b2, hok⟩ := rq_b hq
  have hN := ld_N_le hok
  refine b_X11_lack_0 hP hm ⟨by omega, sp_isClaim hP hm (by omega) hq.1 (fun k hk e => ⟨fun w => absurd w (by decide), fun _ => ⟨by omega, ?_⟩⟩) (fun e => ⟨fun _ => h2 (Or.inl e), fun w => absurd rfl w⟩)⟩
  refine sp_inN hP hm (n := 2) (by decide) (by decide) (fun w hw ew => ⟨fun _ => ⟨by omega, ?_⟩, fun y => absurd y (by decide)⟩) (fun ew => ⟨fun y => absurd rfl y, fun _ => h2 (Or.inr ew)⟩)
  rw [hq.2.2.1.2.1]
  refine sp_fillsH hP hm (by omega) hq b1 fun t t1 t2 t3 => ⟨by omega, ?_⟩
  have hfin := h1 k w t hk e hw ew t2 t3
  rw [e, ew]
  refine sp_lackOf hP hm (by omega) t2 t1 hk ?_
  unfold an_op op_p op_x at hfin
  cases e2 : lk W h (ld_ro W k) (ld_N W) with
  | none =>
    rw [e2] at hfin
    refine ⟨fun y => absurd rfl y, fun _ => ?_⟩
    split at hfin
    · exact hfin
    · exact hfin
  | some x =>
    rw [e2] at hfin
    have := lk_lt _ _ e2
    refine ⟨fun _ => ⟨fun y => ?_, fun y => ⟨by omega, ?_⟩⟩, fun y => absurd y (m1_ne (by omega))⟩
    · rw [if_neg (fun z => y (by rw [z]; rfl))] at hfin
      exact hfin
    · rw [show (0 : Int32) = nI 0 from rfl, nI_eq (by omega) (by omega)] at y
      rw [if_pos y] at hfin
      exact sp_priceAll hP hm t1.1 (by omega) hfin
theorem sp_mspare (hP : gc_Cl P) (hm : gc_Mo P) (hd : 6 ≤ d) (hq : rq W lv h s) {c wx : Int32} (h1 : ∀ k w t, k < ld_c W → c = nI k → w < 2 → wx = nI w → rq W lv h t → fr RA RB s t → Q (some (.int (an_op W (sr W h (ld_ro W k) (ld_N W)) w))) t) (h2 : ((∀ k, k < ld_c W → c ≠ nI k) ∨ (∀ k, k < 2 → wx ≠ nI k)) → Q (some (.int (-1))) s) : gc_T P d 0 0 273 0 [.ref 67, .int c, .int wx, gc_u] [] s Q := by
  obtain ⟨b1, b2, hok⟩ := rq_b hq
  have hN := ld_N_le hok
  refine b_X11_spare_0 hP hm ⟨by omega, sp_isClaim hP hm (by omega) hq.1 (fun k hk e => ⟨fun w => absurd w (by decide), fun _ => ⟨by omega, ?_⟩⟩) (fun e => ⟨fun _ => h2 (Or.inl e), fun w => absurd rfl w⟩)⟩
  refine sp_inN hP hm (n := 2) (by decide) (by decide) (fun w hw ew => ⟨fun _ => ⟨by omega, ?_⟩, fun y => absurd y (by decide)⟩) (fun ew => ⟨fun y => absurd rfl y, fun _ => h2 (Or.inr ew)⟩)
  rw [hq.2.2.1.2.1]
  refine sp_fillsH hP hm (by omega) hq b1 fun t t1 t2 t3 => ⟨by omega, ?_⟩
  have hfin := h1 k w t hk e hw ew t2 t3
  rw [e, ew]
  refine sp_spareOf hP hm (by omega) t2 t1 hk ?_
  unfold an_op op_p op_x at hfin
  cases e2 : sr W h (ld_ro W k) (ld_N W) with
  | none =>
    rw [e2] at hfin
    refine ⟨fun y => absurd rfl y, fun _ => ?_⟩
    split at hfin
    · exact hfin
    · exact hfin
  | some x =>
    rw [e2] at hfin
    have := sr_lt _ _ e2
    refine ⟨fun _ => ⟨fun y => ?_, fun y => ⟨by omega, ?_⟩⟩, fun y => absurd y (m1_ne (by omega))⟩
    · rw [if_neg (fun z => y (by rw [z]; rfl))] at hfin
      exact hfin
    · rw [show (0 : Int32) = nI 0 from rfl, nI_eq (by omega) (by omega)] at y
      rw [if_pos y] at hfin
      exact sp_priceAll hP hm t1.1 (by omega) hfin
/-! With more OATHS, more BARGAINS all can be shown that could. -/
theorem sb_sub2a : ∀ x, x < 8 → ∀ y, y < 8 → ∀ c, c < 8 → (sb_in y x && sb_in c y) = true → (sb_in c x && sb_in (y - c) (x - c)) = true := by decide +kernel
theorem sb_sub2 (b : Nat) (hb : b < 8) (b' : Nat) (hb' : b' < 8) (hin : sb_in b' b = true) (c : Nat) (hc : c < 8) (hcb : sb_in c b' = true) : sb_in c b = true ∧ sb_in (b' - c) (b - c) = true ∧ b - c < 8 := by
  have := sb_sub2a b hb b' hb' c hc (by rw [hin, hcb]; rfl)
  simp only [Bool.and_eq_true] at this
  exact ⟨this.1, this.2, by omega⟩
theorem sb_bit2a : ∀ x, x < 8 → ∀ y, y < 8 → ∀ k, k < 3 → (sb_in y x && Nat.beq (y / 2 ^ k % 2) 1) = true → (Nat.beq (x / 2 ^ k % 2) 1 && sb_in (y - 2 ^ k) (x - 2 ^ k)) = true := by decide +kernel
theorem sb_bit2 (b : Nat) (hb : b < 8) (b' : Nat) (hb' : b' < 8) (hin : sb_in b' b = true) (k : Nat) (hk : k < 3) (hbit : b' / 2 ^ k % 2 = 1) : b / 2 ^ k % 2 = 1 ∧ sb_in (b' - 2 ^ k) (b - 2 ^ k) = true := by
  have := sb_bit2a b hb b' hb' k hk (by rw [hin, hbit]; rfl)
  simp only [Bool.and_eq_true, Nat.beq_eq] at this
  exact this
theorem sh_mono {o' : Nat} (hok : ld_ok W) (hoo : ∀ k, k < ld_o W → o' / 2 ^ k % 2 = 1 → o / 2 ^ k % 2 = 1) : ∀ n p s b b', p < ld_p W → s < ld_N W → b < 8 → b' < 8 → sb_in b' b = true → dp_Sh W o' n p s b' → dp_Sh W o n p s b
  | 0, _, _, _, _, _, _, _, _, _, h => h.elim
  | n + 1, p, s, b, b', hp, hs, hb, hb', hin, h => by
    have ih := sh_mono hok hoo n
    have hN := ld_N_le hok
    obtain ⟨m, hm, hl⟩ := h
    have hml := mv_ld hok hp hs hb' hm
    have lt : ∀ l, l ∈ m.2.1 → l.1 < ld_p W ∧ l.2.1 < ld_N W ∧ l.2.2 < 8 := fun l z => ⟨by have := (hml.2 l z).2.1; omega, (hml.2 l z).2.2.1, (hml.2 l z).2.2.2.1⟩
    rcases mv_all_mem.mp hm with hm | ⟨k, hk, hm⟩ | ⟨k, hk, hm⟩
    · have own : ∀ m', m' ∈ mv_own W p s b → (∀ l, l ∈ m'.2.1 → dp_Sh W o n l.1 l.2.1 l.2.2) → dp_Sh W o (n + 1) p s b := fun m' h1 h2 => ⟨m', mv_all_mem.mpr (Or.inl h1), h2⟩
      have hpt := hok.2.2.2.2.2 p hp
      have hk7 : ld_kd W p ≤ 7 := by
        unfold ld_pt at hpt
        omega
      match hkd : ld_kd W p, hk7 with
      | 0, _ =>
        rw [mv_own_0 hkd] at hm
        split at hm
        · rename_i e
          refine own (0, [], -1, -1) (by rw [mv_own_0 hkd, if_pos e]; simp) (fun l z => by simp at z)
        · simp at hm
      | 1, _ =>
        rw [mv_own_1 hkd] at hm
        split at hm
        · rename_i e
          refine own (1, [], -1, -1) (by rw [mv_own_1 hkd, if_pos e]; simp) (fun l z => by simp at z)
        · simp at hm
      | 2, _ => exact own (2, [], -1, -1) (by rw [mv_own_2 hkd]; simp) (fun l z => by simp at z)
      | 3, _ =>
        rw [mv_own_3 hkd] at hm
        simp only [List.mem_cons, List.not_mem_nil, or_false] at hm
        rcases hm with rfl | rfl
        · refine own (3, [(ld_fi W p, s, b)], -1, -1) (by rw [mv_own_3 hkd]; simp) (fun l z => ?_)
          simp only [List.mem_singleton] at z
          rw [z]
          have := lt _ (List.mem_singleton.mpr rfl)
          exact ih _ _ _ _ this.1 this.2.1 hb hb' hin (hl _ (List.mem_singleton.mpr rfl))
        · refine own (4, [(ld_se W p, s, b)], -1, -1) (by rw [mv_own_3 hkd]; simp) (fun l z => ?_)
          simp only [List.mem_singleton] at z
          rw [z]
          have := lt _ (List.mem_singleton.mpr rfl)
          exact ih _ _ _ _ this.1 this.2.1 hb hb' hin (hl _ (List.mem_singleton.mpr rfl))
      | 4, _ =>
        rw [mv_own_4 hkd] at hm
        simp only [List.mem_singleton] at hm
        subst hm
        refine own (5, [(ld_fi W p, s, b), (ld_se W p, s, b)], -1, -1) (by rw [mv_own_4 hkd]; simp) (fun l z => ?_)
        simp only [List.mem_cons, List.not_mem_nil, or_false] at z
        rcases z with z | z
        · rw [z]
          have := lt (ld_fi W p, s, b') (by simp)
          exact ih _ _ _ _ this.1 this.2.1 hb hb' hin (hl (ld_fi W p, s, b') (by simp))
        · rw [z]
          have := lt (ld_se W p, s, b') (by simp)
          exact ih _ _ _ _ this.1 this.2.1 hb hb' hin (hl (ld_se W p, s, b') (by simp))
      | 5, _ =>
        rw [mv_own_5 hkd] at hm
        simp only [List.mem_flatMap, List.mem_map] at hm
        obtain ⟨u, hu, c, hc, rfl⟩ := hm
        have hc' := (mv_bs_mem hb').mp hc
        obtain ⟨q1, q2, q3⟩ := sb_sub2 b hb b' hb' hin c hc'.2 hc'.1
        refine own (6, [(ld_fi W p, u, c), (ld_se W p, s - u, b - c)], nI u, nI c) ?_ (fun l z => ?_)
        · rw [mv_own_5 hkd]
          simp only [List.mem_flatMap, List.mem_map]
          exact ⟨u, hu, c, (mv_bs_mem hb).mpr ⟨q1, hc'.2⟩, rfl⟩
        · simp only [List.mem_cons, List.not_mem_nil, or_false] at z
          rcases z with z | z
          · rw [z]
            have := lt (ld_fi W p, u, c) (by simp)
            exact ih _ _ _ _ this.1 this.2.1 hc'.2 hc'.2 (sb_self c hc'.2) (hl (ld_fi W p, u, c) (by simp))
          · rw [z]
            have := lt (ld_se W p, s - u, b' - c) (by simp)
            exact ih _ _ _ _ this.1 this.2.1 q3 this.2.2 q2 (hl (ld_se W p, s - u, b' - c) (by simp))
      | 6, _ =>
        rw [mv_own_6 hkd] at hm
        split at hm
        · rename_i e
          simp only [List.mem_singleton] at hm
          subst hm
          refine own (7, [(ld_fi W p, 0, 0)], -1, -1) (by rw [mv_own_6 hkd, if_pos e]; simp) (fun l z => ?_)
          simp only [List.mem_singleton] at z
          rw [z]
          have := lt _ (List.mem_singleton.mpr rfl)
          exact ih _ _ _ _ this.1 this.2.1 (show 0 < 8 by decide) (show 0 < 8 by decide) (sb_zero 0 (by decide)) (hl _ (List.mem_singleton.mpr rfl))
        · simp at hm
      | 7, _ =>
        rw [mv_own_7 hkd] at hm
        split at hm
        · rename_i e
          simp only [List.mem_singleton] at hm
          subst hm
          refine own (8, [(ld_fi W p, s + ld_se W p, b)], -1, -1) (by rw [mv_own_7 hkd, if_pos e]; simp) (fun l z => ?_)
          simp only [List.mem_singleton] at z
          rw [z]
          have := lt _ (List.mem_singleton.mpr rfl)
          exact ih _ _ _ _ this.1 this.2.1 hb hb' hin (hl _ (List.mem_singleton.mpr rfl))
        · simp at hm
      | k + 8, hk7 => omega
    · obtain ⟨hbit, t, ht, rfl⟩ := mv_oath_of hm
      refine ⟨(10 + k, [(p, t, b)], -1, -1), mv_all_mem.mpr (Or.inr (Or.inl ⟨k, hk, ?_⟩)), fun l z => ?_⟩
      · unfold mv_oath
        rw [if_pos (hoo k hk hbit), ht]
        rfl
      · simp only [List.mem_singleton] at z
        rw [z]
        have := lt _ (List.mem_singleton.mpr rfl)
        exact ih _ _ _ _ this.1 this.2.1 hb hb' hin (hl _ (List.mem_singleton.mpr rfl))
    · have b3 := hok.1.2.2.1
      obtain ⟨hbit, t, ht, ⟨hx, rfl⟩ | ⟨x, t2, hx, ht2, rfl⟩⟩ := mv_barg_of hm
      · obtain ⟨q1, q2⟩ := sb_bit2 b hb b' hb' hin k (by omega) hbit
        refine ⟨(20 + k, [(p, t, b - 2 ^ k)], -1, -1), mv_all_mem.mpr (Or.inr (Or.inr ⟨k, hk, ?_⟩)), fun l z => ?_⟩
        · unfold mv_barg
          rw [if_pos q1]
          simp only [ht, hx]
        · simp only [List.mem_singleton] at z
          rw [z]
          have := lt _ (List.mem_singleton.mpr rfl)
          exact ih _ _ _ _ this.1 this.2.1 (Nat.lt_of_le_of_lt (Nat.sub_le _ _) hb) this.2.2 q2 (hl _ (List.mem_singleton.mpr rfl))
      · obtain ⟨q1, q2⟩ := sb_bit2 b hb b' hb' hin k (by omega) hbit
        refine ⟨(20 + k, [(p, t, b - 2 ^ k), (p, t2, b - 2 ^ k)], -1, -1), mv_all_mem.mpr (Or.inr (Or.inr ⟨k, hk, ?_⟩)), fun l z => ?_⟩
        · unfold mv_barg
          rw [if_pos q1]
          simp only [ht, hx, ht2]
          rfl
        · simp only [List.mem_cons, List.not_mem_nil, or_false] at z
          rcases z with z | z
          · rw [z]
            have := lt (p, t, b' - 2 ^ k) (by simp)
            exact ih _ _ _ _ this.1 this.2.1 (Nat.lt_of_le_of_lt (Nat.sub_le _ _) hb) this.2.2 q2 (hl (p, t, b' - 2 ^ k) (by simp))
          · rw [z]
            have := lt (p, t2, b' - 2 ^ k) (by simp)
            exact ih _ _ _ _ this.1 this.2.1 (Nat.lt_of_le_of_lt (Nat.sub_le _ _) hb) this.2.2 q2 (hl (p, t2, b' - 2 ^ k) (by simp))
theorem sb_in_bit : ∀ o, o < 8 → ∀ o', o' < 8 → sb_in o' o = true → ∀ k, k < 3 → o' / 2 ^ k % 2 = 1 → o / 2 ^ k % 2 = 1 := by decide +kernel
theorem D_mono {o' b' : Nat} (hok : ld_ok W) (ho : o < 8) (ho' : o' < 8) (hoo : sb_in o' o = true) (hp : p < ld_p W) (hst : st < ld_N W) (hb : b < 8) (hb' : b' < 8) (hbb : sb_in b' b = true) (h : dp_D W o' p st b' ≠ 0) : dp_D W o p st b ≠ 0 :=
  (dp_D_le (sh_mono hok (fun k hk hbit => sb_in_bit o ho o' ho' hoo k (by have := hok.1.2.1; omega) hbit) _ p st b b' hp hst hb hb' hbb (dp_D_sh h))).1
end Rn
