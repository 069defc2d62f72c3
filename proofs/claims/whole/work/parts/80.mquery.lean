/-! The reference's queries: depth, can, stocks, moves, move, steps, step. -/
theorem tk_in_ix {n : Nat} (hn : n < 2 ^ 31) (x : Int32) : (tk_in x 0 (nI n - 1) = true ∧ ∃ k, k < n ∧ x = nI k) ∨ (tk_in x 0 (nI n - 1) = false ∧ ∀ k, k < n → x ≠ nI k) := by
  unfold tk_in
  by_cases hx : x < 0
  · refine Or.inr ⟨by rw [decide_eq_true hx]; rfl, fun k hk e => (nI_ix hn hk e).1 hx⟩
  · obtain ⟨j, hj, rfl⟩ := nI_of hx
    rw [decide_eq_false hx]
    match n, hn with
    | 0, _ =>
      refine Or.inr ⟨?_, fun k hk => absurd hk (Nat.not_lt_zero _)⟩
      rw [decide_eq_true (show nI 0 - 1 < nI j from ?_)]
      · rfl
      · rw [Int32.lt_iff_toInt_lt, nI_toInt hj, show (nI 0 - 1 : Int32).toInt = -1 by decide]
        omega
    | m + 1, hn =>
      rw [nI_pred]
      by_cases e : m < j
      · rw [decide_eq_true ((nI_ltI (by omega) hj).mpr e)]
        refine Or.inr ⟨rfl, fun k hk e2 => ?_⟩
        rw [nI_eq hj (by omega)] at e2
        omega
      · rw [decide_eq_false (fun z => e ((nI_ltI (by omega) hj).mp z))]
        exact Or.inl ⟨rfl, j, by omega, rfl⟩
section Rq
variable {P : gc_Pr} {d : Nat} {s : gc_St} {Q : gc_TQ} {W : ld_W} {lv o p st b : Nat} {h : Nat × Nat × Nat} {K : List (Nat × Nat × Nat)}
theorem sp_inN (hP : gc_Cl P) (hm : gc_Mo P) {n : Nat} (hn : n < 2 ^ 31) {x y : Int32} (hy : y = nI n - 1) (h1 : ∀ k, k < n → x = nI k → Q (some (.int 1)) s) (h2 : (∀ k, k < n → x ≠ nI k) → Q (some (.int 0)) s) : gc_T P d 0 0 212 0 [.int x, .int 0, .int y] [] s Q := by
  refine sp_in hP hm ?_
  rw [hy]
  rcases tk_in_ix hn x with ⟨e, k, hk, ek⟩ | ⟨e, hk⟩
  · rw [e]
    exact h1 k hk ek
  · rw [e]
    exact h2 hk
theorem sp_isClaim (hP : gc_Cl P) (hm : gc_Mo P) (hd : 1 ≤ d) (hl : rf_law W lv s) {c : Int32} (h1 : ∀ k, k < ld_c W → c = nI k → Q (some (.int 1)) s) (h2 : (∀ k, k < ld_c W → c ≠ nI k) → Q (some (.int 0)) s) : gc_T P d 0 0 220 0 [.ref 67, .int c] [] s Q := by
  have hlv := hl.1.1
  have hc6 := hl.1.2.2.1.2.2.2.1
  refine b_X11_isClaim_0 hP hm ?_
  rw [hl.1.2.1, nI_clamp (by omega), hl.2.1.2.2.2.1]
  exact ⟨vp_in_nI hlv (by omega), hd, sp_inN hP hm (n := ld_c W) (by omega) rfl (fun k hk e => ⟨Or.inr rfl, h1 k hk e⟩) (fun e => ⟨Or.inl rfl, h2 e⟩)⟩
theorem sp_isPlace (hP : gc_Cl P) (hm : gc_Mo P) (hd : 2 ≤ d) (hl : rf_law W lv s) {x y z : Int32} (h1 : ∀ p st b, pl W x y z p st b → Q (some (.int 1)) s) (h2 : (∀ p st b, ¬ pl W x y z p st b) → Q (some (.int 0)) s) : gc_T P d 0 0 223 0 [.ref 67, .int x, .int y, .int z] [] s Q := by
  have hok := hl.1.2.2
  have hlv := hl.1.1
  have hp24 := hok.1.2.2.2.2
  have hN := ld_N_le hok
  have hB : 2 ^ ld_b W ≤ 8 := ld_B_le hok
  refine b_X11_isPlace_0 hP hm ⟨by omega, ?_⟩
  refine b_X11_isPoint_0 hP hm ?_
  rw [hl.1.2.1, nI_clamp (by omega), hl.2.1.2.2.2.2]
  refine ⟨vp_in_nI hlv (by omega), by omega, sp_inN hP hm (n := ld_p W) (by omega) rfl (fun p hp ep => ⟨Or.inr rfl, fun w => absurd w (by decide), fun _ => ⟨by omega, ?_⟩⟩) (fun e => ⟨Or.inl rfl, fun _ => h2 fun p st b q => e p q.1 q.2.2.2.1, fun w => absurd rfl w⟩)⟩
  refine sp_stocksAll hP hm hl ⟨by omega, sp_inN hP hm (n := ld_N W) (by omega) rfl (fun st hst es => ⟨fun w => absurd w (by decide), fun _ => ?_⟩) (fun e => ⟨fun _ => h2 fun p st b q => e st q.2.1 q.2.2.2.2.1, fun w => absurd rfl w⟩)⟩
  rw [hl.1.2.1, nI_clamp (by omega), hl.2.1.2.2.1, ld_Bsh hok.1.2.2.1]
  exact ⟨vp_in_nI hlv (by omega), by omega, sp_inN hP hm (n := 2 ^ ld_b W) (by omega) rfl (fun b hb eb => ⟨fun w => absurd w (by decide), fun _ => h1 p st b ⟨hp, hst, hb, ep, es, eb⟩⟩) (fun e => ⟨fun _ => h2 fun p st b q => e b q.2.2.1 q.2.2.2.2.2, fun w => absurd rfl w⟩)⟩
/-- the table for the OATHS that hold -/
theorem sp_fillsH (hP : gc_Cl P) (hm : gc_Mo P) (hd : 4 ≤ d) (hq : rq W lv h s) (ho : o < 8) (hQ : ∀ t, rw_T W lv o t → rq W lv h t → fr RA RB s t → Q none t) : gc_T P d 0 0 232 0 [.ref 67, .int (nI o), gc_u, gc_u, gc_u] [] s Q :=
  sp_fills hP hm hd hq.1 ho hq.2.1 fun t t1 t2 t3 t4 => hQ t ⟨t1, t2, t3⟩ (rq_of ho hq ⟨t1, t2, t3⟩ (fr_53 t4)) (fr_53 t4)
theorem rtt_at (hT : rw_T W lv o s) (hp : p < ld_p W) (hst : st < ld_N W) (hb : b < 2 ^ ld_b W) : vp_in (nI (sp3 p st b)) 49152 ∧ gc_I s 100 (nI (sp3 p st b)).toNatClampNeg = nI (dp_D W o p st b) ∧ dp_D W o p st b ≤ 92160 := by
  have hok := hT.1.1.2.2
  have hp24 := hok.1.2.2.2.2
  have hN := ld_N_le hok
  have hb8 := p8 hok.1.2.2.1 hb
  have hsp := sp3_lt (show p < 24 by omega) (show st < 256 by omega) hb8
  refine ⟨vp_in_nI hsp (by omega), ?_, dp_D_max hok hp hst hb8⟩
  rw [nI_clamp (by omega)]
  exact hT.2.2 p st b hp hst hb
theorem sp_mdepth (hP : gc_Cl P) (hm : gc_Mo P) (hd : 6 ≤ d) (hq : rq W lv h s) {x y z : Int32} (h1 : ∀ p st b t, pl W x y z p st b → rq W lv h t → fr RA RB s t → Q (some (.int (nI (dp_D W h.2.1 p st b)))) t) (h2 : (∀ p st b, ¬ pl W x y z p st b) → Q (some (.int (-1))) s) : gc_T P d 0 0 241 0 [.ref 67, .int x, .int y, .int z] [] s Q := by
  obtain ⟨b1, b2, hok⟩ := rq_b hq
  refine b_X11_depth_0 hP hm ⟨by omega, sp_isPlace hP hm (by omega) hq.1 (fun p st b e => ⟨fun _ => ⟨by omega, ?_⟩, fun w => absurd w (by decide)⟩) (fun e => ⟨fun w => absurd rfl w, fun _ => h2 e⟩)⟩
  rw [hq.2.2.1.2.1]
  refine sp_fillsH hP hm (by omega) hq b1 fun t t1 t2 t3 => ⟨by omega, ?_⟩
  obtain ⟨c1, c2, c3⟩ := rtt_at t1 e.1 e.2.1 e.2.2.1
  have := h1 p st b t e t2 t3
  rw [e.2.2.2.1, e.2.2.2.2.1, e.2.2.2.2.2]
  refine sp_spot hP hm ⟨c1, ?_⟩
  rw [c2]
  exact this
theorem sp_claimDepth (hP : gc_Cl P) (hm : gc_Mo P) (hd : 1 ≤ d) (hT : rw_T W lv o s) {k : Nat} (hk : k < ld_c W) (hst : st < ld_N W) (hb : b < 2 ^ ld_b W) (hQ : Q (some (.int (nI (dp_D W o (ld_ro W k) st b)))) s) : gc_T P d 0 0 242 0 [.ref 67, .int (nI k), .int (nI st), .int (nI b)] [] s Q := by
  have hok := hT.1.1.2.2
  have hlv := hT.1.1.1
  have hc6 := hok.1.2.2.2.1
  have hr := ld_root hok hk
  obtain ⟨c1, c2, c3⟩ := rtt_at hT hr.1 hst hb
  refine b_X11_claimDepth_0 hP hm ?_
  rw [hT.1.1.2.1, st_lit 6, pk_mul, nI_add, nI_clamp (by omega), (hT.1.2.2.2.2.2.1 k hk).2]
  refine ⟨vp_in_nI (by omega) (by omega), hd, sp_spot hP hm ⟨c1, ?_⟩⟩
  rw [c2]
  exact hQ
theorem sp_mcan (hP : gc_Cl P) (hm : gc_Mo P) (hd : 6 ≤ d) (hq : rq W lv h s) {c : Int32} (h1 : ∀ k t, k < ld_c W → c = nI k → rq W lv h t → fr RA RB s t → Q (some (.int (an_d W h (ld_ro W k)))) t) (h2 : (∀ k, k < ld_c W → c ≠ nI k) → Q (some (.int (-1))) s) : gc_T P d 0 0 243 0 [.ref 67, .int c, gc_u] [] s Q := by
  obtain ⟨b1, b2, hok⟩ := rq_b hq
  refine b_X11_can_0 hP hm ⟨by omega, sp_isClaim hP hm (by omega) hq.1 (fun k hk e => ⟨fun _ => ⟨by omega, ?_⟩, fun w => absurd w (by decide)⟩) (fun e => ⟨fun w => absurd rfl w, fun _ => h2 e⟩)⟩
  rw [hq.2.2.1.2.1]
  refine sp_fillsH hP hm (by omega) hq b1 fun t t1 t2 t3 => ⟨by omega, ?_⟩
  rw [t2.2.2.1.1, t2.2.2.1.2.2]
  have := h1 k t hk e t2 t3
  rw [e]
  have hr := ld_root hok hk
  have hD := dp_D_max (o := h.2.1) hok hr.1 hq.2.2.2.1 b2
  unfold an_d at this
  refine sp_claimDepth hP hm (by omega) t1 hk hq.2.2.2.1 hq.2.2.2.2.2 ⟨fun y => ?_, fun y => ?_⟩
  · rw [if_neg (fun e => y (by rw [e]; rfl))] at this
    exact this
  · rw [show (0 : Int32) = nI 0 from rfl, nI_eq (by omega) (by omega)] at y
    rw [if_pos y] at this
    exact this
theorem sp_mstocks (hP : gc_Cl P) (hm : gc_Mo P) (hd : 6 ≤ d) (hq : rq W lv h s) {c : Int32} (h1 : ∀ k t, k < ld_c W → c = nI k → rq W lv h t → fr RA RB s t → Q (some (.int (nI (an_st W h (ld_ro W k) (ld_N W))))) t) (h2 : (∀ k, k < ld_c W → c ≠ nI k) → Q (some (.int (-1))) s) : gc_T P d 0 0 244 0 [.ref 67, .int c, gc_u, gc_u] [] s Q := by
  obtain ⟨b1, b2, hok⟩ := rq_b hq
  have hN := ld_N_le hok
  refine b_X11_stocks_0 hP hm ⟨by omega, sp_isClaim hP hm (by omega) hq.1 (fun k hk e => ⟨fun _ => ⟨by omega, ?_⟩, fun w => absurd w (by decide)⟩) (fun e => ⟨fun w => absurd rfl w, fun _ => h2 e⟩)⟩
  rw [hq.2.2.1.2.1]
  refine sp_fillsH hP hm (by omega) hq b1 fun t t1 t2 t3 => ?_
  have hr := ld_root hok hk
  have hfin := h1 k t hk e t2 t3
  rw [e]
  have key : ∀ m j, j + m = ld_N W → gc_T P d 0 0 244 22 [.ref 67, .int (nI k), .int (nI (an_st W h (ld_ro W k) j)), .int (nI j)] [] t Q := by
    intro m
    induction m with
    | zero =>
      intro j hj
      obtain rfl : j = ld_N W := by omega
      exact b_X11_stocks_22 hP hm ⟨by omega, sp_stocksAll hP hm t1.1 (pk_le (ld_N W) (ld_N W) (fun _ => hfin) (fun z => by omega))⟩
    | succ m ih =>
      intro j hj
      have hn := ih (j + 1) (by omega)
      have hD := dp_D_max (o := h.2.1) hok hr.1 (show j < ld_N W by omega) b2
      have hS : an_st W h (ld_ro W k) (j + 1) = an_st W h (ld_ro W k) j + (if (!decide (dp_D W h.2.1 (ld_ro W k) j h.2.2 = 0)) = true then 1 else 0) := rfl
      refine b_X11_stocks_22 hP hm ⟨by omega, sp_stocksAll hP hm t1.1 (pk_le (ld_N W) j (fun z => by omega) (fun _ => ⟨by omega, ?_⟩))⟩
      rw [t2.2.2.1.2.2]
      refine sp_claimDepth hP hm (by omega) t1 hk (by omega) hq.2.2.2.2.2 (pk_le (dp_D W h.2.1 (ld_ro W k) j h.2.2) 0 (fun z => b_X11_stocks_46 hP hm ?_) (fun z => b_X11_stocks_46 hP hm ?_))
      · rw [nI_1]
        rw [hS, decide_eq_true (show dp_D W h.2.1 (ld_ro W k) j h.2.2 = 0 by omega)] at hn
        exact hn
      · rw [nI_1, nI_1]
        rw [hS, decide_eq_false (show ¬ dp_D W h.2.1 (ld_ro W k) j h.2.2 = 0 by omega)] at hn
        exact hn
  exact key (ld_N W) 0 (by omega)
theorem sp_mmoves (hP : gc_Cl P) (hm : gc_Mo P) (hd : 6 ≤ d) (hq : rq W lv h s) {x y z : Int32} (h1 : ∀ p st b t, pl W x y z p st b → rq W lv h t → fr RA RB s t → Q (some (.int (nI (mv_all W h.2.1 p st b).length))) t) (h2 : (∀ p st b, ¬ pl W x y z p st b) → Q (some (.int (-1))) s) : gc_T P d 0 0 251 0 [.ref 67, .int x, .int y, .int z] [] s Q := by
  obtain ⟨b1, b2, hok⟩ := rq_b hq
  refine b_X11_moves_0 hP hm ⟨by omega, sp_isPlace hP hm (by omega) hq.1 (fun p st b e => ⟨fun _ => ⟨by omega, ?_⟩, fun w => absurd w (by decide)⟩) (fun e => ⟨fun w => absurd rfl w, fun _ => h2 e⟩)⟩
  rw [hq.2.2.1.2.1]
  refine sp_fillsH hP hm (by omega) hq b1 fun t t1 t2 t3 => ⟨by omega, ?_⟩
  have hfin := fun u => h1 p st b u e
  rw [e.2.2.2.1, e.2.2.2.2.1, e.2.2.2.2.2]
  refine sp_fillMoves hP hm (by omega) t1.1 b1 t1.2.1 e.1 e.2.1 e.2.2.1 fun u u1 u2 => ?_
  show Q (some (.int (gc_F u 67 54))) u
  rw [u1.1]
  have g := fr_trans t3 (fr_54 u2)
  exact hfin u (rq_of b1 hq (rw_54 t1 u2) g) g
theorem sp_mmove (hP : gc_Cl P) (hm : gc_Mo P) (hd : 6 ≤ d) (hq : rq W lv h s) {x y z i wx : Int32} (h1 : ∀ p st b w t, pl W x y z p st b → w < 3 → wx = nI w → rq W lv h t → fr RA RB s t → Q (some (.int (an_mv W h.2.1 p st b i w))) t) (h2 : ((∀ p st b, ¬ pl W x y z p st b) ∨ (∀ k, k < 3 → wx ≠ nI k)) → Q (some (.int (-1))) s) : gc_T P d 0 0 252 0 [.ref 67, .int x, .int y, .int z, .int i, .int wx] [] s Q := by
  obtain ⟨b1, b2, hok⟩ := rq_b hq
  refine b_X11_move_0 hP hm ⟨by omega, sp_isPlace hP hm (by omega) hq.1 (fun p st b e => ⟨fun w => absurd w (by decide), fun _ => ⟨by omega, ?_⟩⟩) (fun e => ⟨fun _ => h2 (Or.inl e), fun w => absurd rfl w⟩)⟩
  refine sp_inN hP hm (n := 3) (by decide) (by decide) (fun w hw ew => ⟨fun _ => ⟨by omega, ?_⟩, fun y => absurd y (by decide)⟩) (fun ew => ⟨fun y => absurd rfl y, fun _ => h2 (Or.inr ew)⟩)
  rw [hq.2.2.1.2.1]
  refine sp_fillsH hP hm (by omega) hq b1 fun t t1 t2 t3 => ⟨by omega, ?_⟩
  have hfin := fun u => h1 p st b w u e hw ew
  have hb8 := p8 hok.1.2.2.1 e.2.2.1
  have hle := mv_all_le (o := h.2.1) (p := p) hok e.2.1 hb8
  rw [e.2.2.2.1, e.2.2.2.2.1, e.2.2.2.2.2, ew]
  refine sp_fillMoves hP hm (by omega) t1.1 b1 t1.2.1 e.1 e.2.1 e.2.2.1 fun u u1 u2 => ⟨by omega, ?_⟩
  have g := fr_trans t3 (fr_54 u2)
  have hTu := rw_54 t1 u2
  have hfu := hfin u (rq_of b1 hq hTu g) g
  rw [u1.1]
  refine sp_inN hP hm (n := (mv_all W h.2.1 p st b).length) (by omega) rfl (fun j hj ej => ⟨fun _ => ?_, fun y => absurd y (by decide)⟩) (fun ej => ⟨fun y => absurd rfl y, fun _ => ?_⟩)
  · have hmi := List.getElem?_eq_getElem hj
    generalize (mv_all W h.2.1 p st b)[j] = m at hmi
    have hmem : m ∈ mv_all W h.2.1 p st b := List.mem_of_getElem? hmi
    obtain ⟨c1, c2⟩ := mv_in hok e.1 e.2.1 e.2.2.1 hmem
    obtain ⟨f1, f2, f3, _, _⟩ := u1.2 j m hmi
    have hv : vp_in (nI j) 2060 := vp_in_nI (by omega) (by decide)
    have han : an_mv W h.2.1 p st b i w = an_mo W h.2.1 m w := by
      unfold an_mv
      rw [ej, if_neg (nI_pos (by omega)), nI_clamp (by omega), hmi]
    rw [han] at hfu
    rw [ej]
    match w, hw, hfu with
    | 0, _, hfu =>
      refine ⟨fun y => absurd rfl y, fun _ => ⟨hv, ?_⟩⟩
      rw [nI_clamp (by omega), f1]
      exact hfu
    | 1, _, hfu => exact ⟨fun _ => ⟨fun y => absurd rfl y, fun _ => ⟨by omega, sp_depthBy hP hm (by omega) hTu u1 hmi (by omega) ⟨c1, c2⟩ hfu⟩⟩, fun y => absurd y (by decide)⟩
    | 2, _, hfu =>
      refine ⟨fun _ => ⟨fun _ => ⟨hv, ?_⟩, fun y => absurd y (by decide)⟩, fun y => absurd y (by decide)⟩
      have hfu : Q (some (.int (dp_un W h.2.1 m.2.1))) u := hfu
      have hg : ∀ l, l ∈ m.2.1 → gc_I u 100 (spt l) = nI (dp_D W h.2.1 l.1 l.2.1 l.2.2) ∧ dp_D W h.2.1 l.1 l.2.1 l.2.2 ≤ 92160 ∧ spt l < 49152 := fun l hl => ⟨hTu.2.2 l.1 l.2.1 l.2.2 (c2 l hl).1 (c2 l hl).2.1 (c2 l hl).2.2.1, dp_D_max hok (c2 l hl).1 (c2 l hl).2.1 (p8 hok.1.2.2.1 (c2 l hl).2.2.1), (c2 l hl).2.2.2⟩
      have at114 : ∀ (y1 y2 y3 : Int32), (∀ l, l ∈ m.2.1.take 1 → dp_D W h.2.1 l.1 l.2.1 l.2.2 ≠ 0) → gc_T P d 0 0 252 114 [.ref 67, .int y1, .int y2, .int y3, .int (nI j), .int (nI 2)] [] u Q := by
        intro y1 y2 y3 hne
        refine b_X11_move_114 hP hm ⟨hv, ?_⟩
        rw [nI_clamp (by omega), f3]
        unfold meI
        generalize m.2.1 = ls at hfu hg hne c1
        match ls, c1, hfu, hg, hne with
        | [], _, hfu, _, _ => exact ⟨fun _ => hfu, fun y => absurd rfl y⟩
        | [l], _, hfu, _, hne =>
          have h0 := hne l (by simp)
          have hfu : Q (some (.int (if dp_D W h.2.1 l.1 l.2.1 l.2.2 = 0 then nI (spt l) else -2))) u := hfu
          rw [if_neg h0] at hfu
          exact ⟨fun _ => hfu, fun y => absurd rfl y⟩
        | [l, k], _, hfu, hg, hne =>
          have h0 := hne l (by simp)
          obtain ⟨k1, k2, k3⟩ := hg k (by simp)
          have hfu : Q (some (.int (if dp_D W h.2.1 l.1 l.2.1 l.2.2 = 0 then nI (spt l) else (if dp_D W h.2.1 k.1 k.2.1 k.2.2 = 0 then nI (spt k) else -2)))) u := hfu
          rw [if_neg h0] at hfu
          refine ⟨fun y => absurd y (m1_ne (by omega)), fun _ => ⟨hv, vp_in_nI k3 (by decide), ?_⟩⟩
          show (¬ gc_I u 100 (nI (spt k)).toNatClampNeg = 0 → _) ∧ _
          rw [nI_clamp (by omega), k1, show (0 : Int32) = nI 0 from rfl, nI_eq (by omega) (by omega)]
          refine ⟨fun y => ?_, fun y => ⟨hv, ?_⟩⟩
          · rw [if_neg y] at hfu
            exact hfu
          · rw [if_pos y] at hfu
            exact hfu
        | _ :: _ :: _ :: _, c1, _, _, _ => simp at c1
      rw [nI_clamp (by omega), f2]
      cases hls : m.2.1 with
      | nil =>
        have e4 : mtI m = -1 := by
          unfold mtI
          rw [hls]
        rw [e4]
        exact ⟨fun _ => at114 _ _ _ (fun l hl => by rw [hls] at hl; simp at hl), fun y => absurd rfl y⟩
      | cons l rest =>
        have e4 : mtI m = nI (spt l) := by
          unfold mtI
          rw [hls]
        obtain ⟨k1, k2, k3⟩ := hg l (by rw [hls]; simp)
        rw [e4]
        refine ⟨fun y => absurd y (m1_ne (by omega)), fun _ => ⟨hv, vp_in_nI k3 (by decide), ?_⟩⟩
        rw [nI_clamp (by omega), k1, show (0 : Int32) = nI 0 from rfl, nI_eq (by omega) (by omega)]
        refine ⟨fun y => at114 _ _ _ (fun l' hl => ?_), fun y => ⟨hv, ?_⟩⟩
        · rw [hls] at hl
          simp only [List.take_succ_cons, List.take_zero, List.mem_singleton] at hl
          rw [hl]
          exact y
        · have : dp_un W h.2.1 m.2.1 = nI (spt l) := by
            rw [hls]
            unfold dp_un
            simp only [if_pos y]
          rw [this] at hfu
          exact hfu
  · have han : an_mv W h.2.1 p st b i w = -1 := by
      unfold an_mv
      by_cases hi : i < 0
      · rw [if_pos hi]
      · obtain ⟨j, hj, rfl⟩ := nI_of hi
        rw [if_neg hi, nI_clamp hj]
        have : (mv_all W h.2.1 p st b).length ≤ j := by
          rcases Nat.lt_or_ge j (mv_all W h.2.1 p st b).length with z | z
          · exact absurd rfl (ej j z)
          · exact z
        rw [List.getElem?_eq_none this]
    rw [han] at hfu
    exact hfu
end Rq
