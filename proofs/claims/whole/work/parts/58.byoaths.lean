/-! BARGAINS and OATHS over one row. -/
theorem dp_by_Sh {W : ld_W} {o p s b : Nat} (h : ld_ok W) (hp : p < ld_p W) (hs : s < ld_N W) (hb : b < 8) {m : mv_T} (hm : m ∈ mv_all W o p s b) (hne : dp_by W o m ≠ 0) : dp_Sh W o (dp_by W o m) p s b := by
  have hps := dp_ld_pos (mv_ld h hp hs hb hm).1 hne
  obtain ⟨n, hn⟩ : ∃ n, dp_by W o m = n + 1 := ⟨dp_by W o m - 1, by omega⟩
  rw [hn]
  refine ⟨m, hm, fun l z => ?_⟩
  have h1 := hps l z
  exact dp_Sh_mono (by show dp_D W o l.1 l.2.1 l.2.2 ≤ n; have : dp_D W o l.1 l.2.1 l.2.2 < dp_by W o m := h1.2; omega) (dp_D_sh h1.1)
theorem dp_one_bt {x y : Nat} (h : dp_bt x y) : dp_bt (dp_one x) (dp_one y) := by
  unfold dp_bt dp_one at *
  split <;> split <;> omega
theorem mv_barg_bv {W : ld_W} {o p s b k : Nat} (hbit : b / 2 ^ k % 2 = 1) : (∀ m, mv_barg W p s b k = some m → dp_by W o m = ld_bv W (3 + k) (fun t => dp_D W o p t (b - 2 ^ k)) s) ∧ (ld_bv W (3 + k) (fun t => dp_D W o p t (b - 2 ^ k)) s ≠ 0 → ∃ m, mv_barg W p s b k = some m) := by
  unfold mv_barg ld_bv ld_do
  rw [if_pos hbit]
  cases e1 : dp_ch s (ld_tk W (3 + k)) (ld_gv W (3 + k)) with
  | none =>
    refine ⟨fun m hm => ?_, fun hne => ?_⟩
    · simp at hm
    · exact absurd rfl hne
  | some t =>
    cases e2 : ld_ot W (3 + k) with
    | zero =>
      refine ⟨fun m hm => ?_, fun _ => ⟨_, rfl⟩⟩
      simp only [Option.some.injEq] at hm
      subst hm
      rfl
    | succ x =>
      cases e3 : dp_ch s (ld_tk W (3 + k)) x with
      | none =>
        refine ⟨fun m hm => ?_, fun hne => ?_⟩
        · simp only [e3, Option.map_none] at hm
          exact absurd hm (by simp)
        · simp only [e3, Option.map_none] at hne
          exact absurd rfl hne
      | some t2 =>
        refine ⟨fun m hm => ?_, fun _ => ?_⟩
        · simp only [e3, Option.map_some, Option.some.injEq] at hm
          subst hm
          simp only [e3, Option.map_some]
          rfl
        · simp only [e3, Option.map_some]
          exact ⟨_, rfl⟩
/-- a row of another place that is at hand -/
def cl_num (o p b : Nat) : Nat := (o * 24 + p) * 8 + b
def cl_val (W : ld_W) (s : gc_St) (a o p b : Nat) : Prop := ∃ a', gc_I s 24 (cl_num o p b) = gc_F s 10 1 ∧ gc_Y s (cl_num o p b) = some a' ∧ a' ≠ a ∧ gc_gk s a' = (0, 256) ∧ ∀ st, st < ld_N W → gc_I s a' st = nI (dp_D W o p st b)
theorem cl_num_lt {o p b : Nat} (ho : o < 8) (hp : p < 24) (hb : b < 8) : cl_num o p b < 1536 := by
  unfold cl_num
  omega
noncomputable def rw_bargs (W : ld_W) (o p b : Nat) (r : Nat → Nat) : Nat → Nat → Nat
  | 0 => r
  | j + 1 => if b / 2 ^ j % 2 = 1 then rw_barg W (3 + j) (fun st => dp_D W o p st (b - 2 ^ j)) (rw_bargs W o p b r j) else rw_bargs W o p b r j
section Bo
variable {P : gc_Pr} {d : Nat} {s : gc_St} {Q : gc_TQ} {W : ld_W} {L a a1 a2 K o p b : Nat} {q q1 q2 r : Nat → Nat}
theorem sp_rowNumber (hP : gc_Cl P) (hm : gc_Mo P) (h : Q (some (.int (nI (cl_num o p b)))) s) : gc_T P d 0 0 4 0 [.int (nI o), .int (nI p), .int (nI b)] [] s Q := by
  refine b_X0_rowNumber_0 hP hm ?_
  rw [st_lit 24, pk_mul, nI_add, st_lit 8, pk_mul, nI_add]
  exact h
theorem sp_rowOf (hP : gc_Cl P) (hm : gc_Mo P) (hd : 1 ≤ d) (ho : o < 8) (hp : p < 24) (hb : b < 8) {a' : Nat} (hv : gc_I s 24 (cl_num o p b) = gc_F s 10 1) (hY : gc_Y s (cl_num o p b) = some a') (h : Q (some (.ref a')) s) : gc_T P d 0 0 5 0 [.ref 10, .int (nI o), .int (nI p), .int (nI b), gc_u, gc_u] [] s Q := by
  have hlt := cl_num_lt ho hp hb
  refine b_X0_rowOf_0 hP hm ⟨hd, sp_rowNumber hP hm ?_⟩
  refine ⟨fun z => absurd z (nI_pos (by omega)), fun _ => pk_le 1536 (cl_num o p b) (fun z => by omega) (fun _ => ⟨vp_in_nI hlt (by omega), ?_⟩)⟩
  rw [nI_clamp (by omega)]
  refine ⟨fun _ => ⟨vp_in_nI hlt (by omega), Or.inl ⟨a', hY, h⟩⟩, fun z => absurd hv z⟩
theorem cl_val_rs (ha : 67 ≤ a) (h : cl_val W s a o p b) (r : Nat → Nat) : cl_val W (rs_w s a r) a o p b := by
  obtain ⟨a', h1, h2, h3, h4, h5⟩ := h
  refine ⟨a', ?_, h2, h3, h4, fun st hst => ?_⟩
  · rw [rs_In s r (by omega)]
    exact h1
  · rw [rs_In s r h3]
    exact h5 st hst
theorem sp_byBargain (hP : gc_Cl P) (hm : gc_Mo P) (hd : 2 ≤ d) (hC : cl_C W L s) (ha : 67 ≤ a) (hg : gc_gk s a = (0, 256)) (hne : a2 ≠ a) (hg2 : gc_gk s a2 = (0, 256)) (hK : K < 2 ^ 30) {k : Nat} (hk : ld_dl W k)
    (hq : ∀ st, st < ld_N W → gc_I s a2 st = nI (q st) ∧ q st ≤ K) (hr : ∀ st, st < ld_N W → r st ≤ K + 1) (h : Q none (rs_w s a (rw_barg W k q r))) :
    gc_T P d 0 0 15 0 [.ref 10, .ref a, .ref a2, .int (nI k), gc_u, gc_u, gc_u, gc_u] [] (rs_w s a r) Q := by
  have hN := ld_N_le hC.2.2.2.1
  have h6 := ld_dl_lt hC.2.2.2.1 hk
  have hlw : ∀ r, gc_lw (rs_w s a r) = L := fun _ => hC.2.1
  have hg2' : ∀ r, gc_gk (rs_w s a r) a2 = (0, 256) := fun _ => hg2
  have hot : gc_I (rs_w s a r) (gc_rS L 10) k = ld_oI (ld_ot W k) := ((cl_C_rs ha hC r).2.2.1.2.2.1 k hk).2.2
  have key : ∀ two : Int32, (two = 0 ↔ ld_ot W k = 0) → ∀ m j, j + m = ld_N W → ∀ l6 l7 : Value, gc_T P d 0 0 15 23 [.ref 10, .ref a, .ref a2, .int (nI k), .int two, .int (nI j), l6, l7] [] (rs_w s a (tk_mix j (rw_barg W k q r) r)) Q := by
    intro two htwo m
    induction m with
    | zero =>
      intro j hj l6 l7
      refine b_X0_byBargain_23 hP hm ⟨by rw [hlw]; exact cl_io hC.1, by omega, ?_⟩
      rw [hlw]
      refine sp_stockCount hP hm hC.1 (cl_C_rs ha hC _).2.2.1 hC.2.2.2.1 ?_
      refine pk_le (ld_N W) j (fun _ => ?_) (fun z => by omega)
      rw [mix_all fun i hi => by unfold rw_barg; rw [if_neg (by omega)]]
      exact h
    | succ m ih =>
      intro j hj l6 l7
      have hn := ih (j + 1) (by omega)
      have hrj := hr j (by omega)
      have h99 : ∀ (l6 : Int32) (l7 : Value), gc_T P d 0 0 15 99 [.ref 10, .ref a, .ref a2, .int (nI k), .int two, .int (nI j), .int l6, l7] [] (rs_w s a (tk_mix (j + 1) (rw_barg W k q r) r)) Q := by
        intro l6 l7
        refine b_X0_byBargain_99 hP hm ?_
        rw [nI_1]
        exact hn _ _
      have hfj : rw_barg W k q r j = dp_lst (r j) (ld_bv W k q j) := by
        unfold rw_barg
        rw [if_pos (by omega)]
      have h92 : ∀ (x y : Nat) (l6 l7 : Int32), x ≤ K → y ≤ K → ld_bv W k q j = dp_both x y → gc_T P d 0 0 15 92 [.ref 10, .ref a, .ref a2, .int (nI k), .int two, .int (nI j), .int l6, .int l7] [.int (nI y), .int (nI x), .int (nI j), .ref a] (rs_w s a (tk_mix j (rw_barg W k q r) r)) Q := by
        intro x y l6 l7 hx hy e
        refine b_X0_byBargain_92 hP hm ⟨by omega, ?_⟩
        refine sp_deeper hP hm (by omega) (by omega) (by omega) fun v hv hv2 => ⟨by omega, ?_⟩
        refine sp_improve hP hm hg (by omega) (by omega) (by rw [mix_at]; omega) ?_
        rw [mix_at, hv, mix_u (by rw [hfj, e])]
        exact h99 _ _
      refine b_X0_byBargain_23 hP hm ⟨by rw [hlw]; exact cl_io hC.1, by omega, ?_⟩
      rw [hlw]
      refine sp_stockCount hP hm hC.1 (cl_C_rs ha hC _).2.2.1 hC.2.2.2.1 ?_
      refine pk_le (ld_N W) j (fun z => by omega) (fun z => ⟨by omega, ?_⟩)
      refine sp_target hP hm (w := 0) (cl_C_rs ha hC _) hk (by omega) (by omega) ?_
      rw [if_pos rfl]
      cases hdo : ld_do W k j with
      | none =>
        have e0 : ld_t0 W k j = -1 := by unfold ld_t0; rw [hdo]
        rw [e0]
        refine ⟨fun _ => ?_, fun y => absurd rfl y⟩
        have e1 : rw_barg W k q r j = r j := by
          rw [hfj, show ld_bv W k q j = 0 by unfold ld_bv; rw [hdo], dp_lst_0]
        rw [← mix_s e1]
        exact h99 _ _
      | some to =>
        obtain ⟨t, o2⟩ := to
        obtain ⟨d1, d2, d3, _⟩ := ld_do_N hC.2.2.2.1 hk (by omega) hdo
        have e0 : ld_t0 W k j = nI t := by unfold ld_t0; rw [hdo]
        have hqt := hq t d1
        rw [e0]
        refine ⟨fun y => absurd y (m1_ne (by omega)), fun _ => ?_⟩
        cases o2 with
        | none =>
          have ht := htwo.mpr (d3.mp rfl)
          refine ⟨fun _ => b_X0_byBargain_69 hP hm ⟨by rw [hg2'], by rw [hg2']; exact vp_in_nI (by omega) (by omega), ⟨fun _ => ⟨by rw [hg2'], by rw [hg2']; exact vp_in_nI (by omega) (by omega), ?_⟩, fun y => absurd y (m1_ne (by omega))⟩⟩, fun y => absurd ht y⟩
          rw [nI_clamp (by omega), rs_In s _ hne, hqt.1]
          refine h92 _ _ _ _ hqt.2 hqt.2 ?_
          unfold ld_bv
          rw [hdo]
          show dp_one (q t) = dp_both (q t) (q t)
          unfold dp_one dp_both
          by_cases e : q t = 0
          · rw [if_pos e, if_pos (Or.inl e)]
          · rw [if_neg e, if_neg (by omega), if_neg (by omega)]
        | some t2 =>
          have ht : ¬ two = 0 := fun y => by
            have := d3.mpr (htwo.mp y)
            exact absurd this (by simp)
          have d2 := d2 t2 rfl
          have hqt2 := hq t2 d2
          refine ⟨fun y => absurd y ht, fun _ => ⟨by omega, ?_⟩⟩
          refine sp_target hP hm (w := 1) (cl_C_rs ha hC _) hk (by omega) (by omega) ?_
          rw [if_neg (by decide)]
          have e2 : ld_t1 W k j = nI t2 := by unfold ld_t1; rw [hdo]
          rw [e2]
          refine b_X0_byBargain_69 hP hm ⟨by rw [hg2'], by rw [hg2']; exact vp_in_nI (by omega) (by omega), ⟨fun _ => ⟨by rw [hg2'], by rw [hg2']; exact vp_in_nI (by omega) (by omega), ?_⟩, fun y => absurd y (m1_ne (by omega))⟩⟩
          rw [nI_clamp (by omega), nI_clamp (by omega), rs_In s _ hne, hqt.1, hqt2.1]
          refine h92 _ _ _ _ hqt.2 hqt2.2 ?_
          unfold ld_bv
          rw [hdo]
  refine b_X0_byBargain_0 hP hm ⟨by rw [hlw]; exact cl_io hC.1, vp_in_nI (by omega) (by omega), ?_⟩
  rw [hlw, nI_clamp (by omega), hot]
  have hN0 : 0 + ld_N W = ld_N W := by omega
  refine ⟨fun y => b_X0_byBargain_18 hP hm ?_, fun y => b_X0_byBargain_18 hP hm ?_⟩
  · have e : ld_ot W k = 0 := by
      cases e : ld_ot W k with
      | zero => rfl
      | succ x =>
        rw [e] at y
        have := hC.2.2.2.1.2.1 k hk
        exact absurd y (m1_ne (by omega))
    have := key 0 (by simp [e]) (ld_N W) 0 hN0 gc_u gc_u
    rw [mix_0] at this
    exact this
  · have e : ld_ot W k ≠ 0 := fun e => y (by rw [e]; rfl)
    have := key 1 (by constructor <;> intro z; exact absurd z (by decide); exact absurd z e) (ld_N W) 0 hN0 gc_u gc_u
    rw [mix_0] at this
    exact this
theorem rw_bargs_le (h : ld_ok W) (hp : p < ld_p W) (hb : b < 8) (hr : ∀ st, st < ld_N W → r st ≤ 92161) : ∀ j, j ≤ ld_b W → ∀ st, st < ld_N W → rw_bargs W o p b r j st ≤ 92161
  | 0, _, st, hs => hr st hs
  | j + 1, hj, st, hs => by
    have ih := rw_bargs_le h hp hb hr j (by omega) st hs
    have hb3 := h.1.2.2.1
    unfold rw_bargs
    split
    · unfold rw_barg
      rw [if_pos hs]
      refine dp_lst_le ih ?_
      unfold ld_bv
      have hm : ∀ t, t < ld_N W → dp_D W o p t (b - 2 ^ j) ≤ 92160 := fun t ht => dp_D_max h hp ht (Nat.lt_of_le_of_lt (Nat.sub_le _ _) hb)
      cases hdo : ld_do W (3 + j) st with
      | none => exact Nat.zero_le _
      | some to =>
        obtain ⟨t, o2⟩ := to
        obtain ⟨d1, d2, d3, _⟩ := ld_do_N h (Or.inr ⟨by omega, by omega⟩) hs hdo
        cases o2 with
        | none => exact dp_one_le (hm t d1)
        | some t2 => exact dp_both_le (hm t d1) (hm t2 (d2 t2 rfl))
    · exact ih
theorem sp_byBargains (hP : gc_Cl P) (hm : gc_Mo P) (hd : 3 ≤ d) (hC : cl_C W L s) (ha : 67 ≤ a) (hg : gc_gk s a = (0, 256)) (ho : o < 8) (hp : p < ld_p W) (hb : b < 8)
    (hv : ∀ j, j < ld_b W → b / 2 ^ j % 2 = 1 → cl_val W s a o p (b - 2 ^ j)) (hr : ∀ st, st < ld_N W → r st ≤ 92161) (h : Q none (rs_w s a (rw_bargs W o p b r (ld_b W)))) :
    gc_T P d 0 0 14 0 [.ref 10, .ref a, .int (nI o), .int (nI p), .int (nI b), gc_u] [] (rs_w s a r) Q := by
  have hlw : ∀ r, gc_lw (rs_w s a r) = L := fun _ => hC.2.1
  have hb3 := hC.2.2.2.1.1.2.2.1
  have hp24 := hC.2.2.2.1.1.2.2.2.2
  have hF : ∀ r, gc_F (rs_w s a r) L 2 = nI (ld_b W) := fun r => (cl_C_rs ha hC r).2.2.1.1.2.2.1
  refine b_X0_byBargains_0 hP hm ?_
  have key : ∀ m j, j + m = ld_b W → gc_T P d 0 0 14 3 [.ref 10, .ref a, .int (nI o), .int (nI p), .int (nI b), .int (nI j)] [] (rs_w s a (rw_bargs W o p b r j)) Q := by
    intro m
    induction m with
    | zero =>
      intro j hj
      refine b_X0_byBargains_3 hP hm ⟨by rw [hlw]; exact cl_io hC.1, ?_⟩
      rw [hlw, hF]
      refine pk_le (ld_b W) j (fun _ => ?_) (fun z => by omega)
      rw [show j = ld_b W by omega]
      exact h
    | succ m ih =>
      intro j hj
      have hn := ih (j + 1) (by omega)
      refine b_X0_byBargains_3 hP hm ⟨by rw [hlw]; exact cl_io hC.1, ?_⟩
      rw [hlw, hF]
      refine pk_le (ld_b W) j (fun z => by omega) (fun z => ⟨by omega, ?_⟩)
      refine sp_hasBit hP hm (by omega) (by omega) ?_
      by_cases hbit : b / 2 ^ j % 2 = 1
      · rw [decide_eq_true hbit]
        refine ⟨fun y => absurd y (by decide), fun _ => ⟨by omega, ?_⟩⟩
        have hbb := sb_bit b hb j (by omega) hbit
        rw [show (1 : Int32) = nI 1 from rfl, st_shl (by omega) (by rw [Nat.one_mul]; exact Nat.lt_of_le_of_lt (Nat.pow_le_pow_right (by decide) (show j ≤ 3 by omega)) (by decide)), Nat.one_mul, pk_sub hbb.1]
        obtain ⟨a', h1, h2, h3, h4, h5⟩ := cl_val_rs ha (hv j (by omega) hbit) (rw_bargs W o p b r j)
        obtain ⟨a'', g1, g2, g3, g4, g5⟩ := hv j (by omega) hbit
        obtain rfl : a' = a'' := by
          have : some a' = some a'' := h2.symm.trans g2
          simpa using this
        refine sp_rowOf hP hm (by omega) ho (by omega) (Nat.lt_of_le_of_lt (Nat.sub_le _ _) hb) h1 h2 ⟨by omega, ?_⟩
        rw [st_lit 3, nI_add]
        refine sp_byBargain hP hm (by omega) hC ha hg g3 g4 (K := 92160) (by omega) (Or.inr ⟨by omega, by omega⟩) (fun st hst => ⟨g5 st hst, dp_D_max hC.2.2.2.1 hp hst (Nat.lt_of_le_of_lt (Nat.sub_le _ _) hb)⟩) (rw_bargs_le hC.2.2.2.1 hp hb hr j (by omega)) ?_
        refine b_X0_byBargains_47 hP hm ?_
        rw [nI_1]
        rw [show rw_bargs W o p b r (j + 1) = rw_barg W (3 + j) (fun st => dp_D W o p st (b - 2 ^ j)) (rw_bargs W o p b r j) by
          show (if b / 2 ^ j % 2 = 1 then _ else _) = _
          rw [if_pos hbit]] at hn
        exact hn
      · rw [decide_eq_false hbit]
        refine ⟨fun _ => b_X0_byBargains_47 hP hm ?_, fun y => absurd rfl y⟩
        rw [nI_1]
        rw [show rw_bargs W o p b r (j + 1) = rw_bargs W o p b r j by
          show (if b / 2 ^ j % 2 = 1 then _ else _) = _
          rw [if_neg hbit]] at hn
        exact hn
  exact key (ld_b W) 0 (by omega)
/-- a row on its way: sound, no worse than the steps that lead elsewhere, bounded -/
def ro_I (W : ld_W) (o p b : Nat) (r : Nat → Nat) : Prop := (∀ st, st < ld_N W → r st ≠ 0 → dp_Sh W o (r st) p st b) ∧ (∀ st, st < ld_N W → ∀ m, mv_base W p st b m → dp_bt (r st) (dp_by W o m)) ∧ (∀ st, st < ld_N W → r st ≤ 92161 + dp_nz r (ld_N W))
theorem ro_I_up {st t k : Nat} (h : ro_I W o p b r) (hs : st < ld_N W) (ht : t < ld_N W) (hk : k < ld_o W) (hbit : o / 2 ^ k % 2 = 1) (hch : dp_ch st (ld_tk W k) (ld_gv W k) = some t) : ro_I W o p b (rs_u r st (dp_lst (r st) (dp_one (r t)))) := by
  refine ⟨fun x hx => ?_, fun x hx m hm => ?_, fun x hx => ?_⟩
  · unfold rs_u
    by_cases e : x = st
    · subst e
      rw [if_pos rfl]
      rcases dp_lst_or (r x) (dp_one (r t)) with e2 | e2
      · rw [e2]
        exact h.1 x hx
      · rw [e2]
        intro hne
        unfold dp_one at hne ⊢
        split at hne
        · exact absurd rfl hne
        · rename_i z
          rw [if_neg z]
          refine ⟨(10 + k, [(p, t, b)], -1, -1), mv_all_mem.mpr (Or.inr (Or.inl ⟨k, hk, ?_⟩)), fun l hl => ?_⟩
          · unfold mv_oath
            rw [if_pos hbit, hch]
            rfl
          · simp only [List.mem_singleton] at hl
            subst hl
            exact h.1 t ht z
    · rw [if_neg e]
      exact h.1 x hx
  · unfold rs_u
    by_cases e : x = st
    · subst e
      rw [if_pos rfl]
      exact dp_bt_trans (dp_lst_l _ _) (h.2.1 x hx m hm)
    · rw [if_neg e]
      exact h.2.1 x hx m hm
  · have h1 := h.2.2 t ht
    exact dp_nz_step hs h.2.2 (Nat.le_trans (dp_one_le (Nat.le_refl (r t))) (by omega)) x hx
theorem ro_max (h : ld_ok W) (hr : ro_I W o p b r) {st : Nat} (hs : st < ld_N W) : r st ≤ 92417 := by
  have h1 := hr.2.2 st hs
  have h2 := dp_nz_n r (ld_N W)
  have h3 := ld_N_le h
  omega
theorem sp_byOath (hP : gc_Cl P) (hm : gc_Mo P) (hd : 1 ≤ d) (hC : cl_C W L s) (ha : 67 ≤ a) (hg : gc_gk s a = (0, 256)) {k : Nat} (hk : k < ld_o W) (hbit : o / 2 ^ k % 2 = 1) (hr : ro_I W o p b r)
    (h : ∀ r' c, ro_I W o p b r' → (∀ st, st < ld_N W → dp_bt (r' st) (r st)) → (∀ st, st < ld_N W → ∀ t, dp_ch st (ld_tk W k) (ld_gv W k) = some t → dp_bt (r' st) (dp_one (r t))) → (c = false → r' = r) → Q (some (.int (cb c))) (rs_w s a r')) :
    gc_T P d 0 0 17 0 [.ref 10, .ref a, .int (nI k), gc_u, gc_u, gc_u] [] (rs_w s a r) Q := by
  have hok := hC.2.2.2.1
  have hN := ld_N_le hok
  have hlw : ∀ r, gc_lw (rs_w s a r) = L := fun _ => hC.2.1
  have hg' : ∀ r, gc_gk (rs_w s a r) a = (0, 256) := fun _ => hg
  refine b_X0_byOath_0 hP hm ?_
  have key : ∀ m j, j + m = ld_N W → ∀ (rc : Nat → Nat) (c : Bool), ro_I W o p b rc → (∀ st, st < ld_N W → dp_bt (rc st) (r st)) → (∀ st, st < j → ∀ t, dp_ch st (ld_tk W k) (ld_gv W k) = some t → dp_bt (rc st) (dp_one (r t))) → (c = false → rc = r) → ∀ l5 : Value, gc_T P d 0 0 17 5 [.ref 10, .ref a, .int (nI k), .int (cb c), .int (nI j), l5] [] (rs_w s a rc) Q := by
    intro m
    induction m with
    | zero =>
      intro j hj rc c h1 h2 h3 h4 l5
      refine b_X0_byOath_5 hP hm ⟨by rw [hlw]; exact cl_io hC.1, by omega, ?_⟩
      rw [hlw]
      refine sp_stockCount hP hm hC.1 (cl_C_rs ha hC _).2.2.1 hok ?_
      refine pk_le (ld_N W) j (fun _ => ⟨?_, ?_⟩) (fun z => by omega)
      · cases c
        · exact Or.inl rfl
        · exact Or.inr rfl
      · exact h rc c h1 h2 (fun st hst t ht => h3 st (by omega) t ht) h4
    | succ m ih =>
      intro j hj rc c h1 h2 h3 h4 l5
      refine b_X0_byOath_5 hP hm ⟨by rw [hlw]; exact cl_io hC.1, by omega, ?_⟩
      rw [hlw]
      refine sp_stockCount hP hm hC.1 (cl_C_rs ha hC _).2.2.1 hok ?_
      refine pk_le (ld_N W) j (fun z => by omega) (fun z => ⟨by omega, ?_⟩)
      refine sp_target hP hm (w := 0) (cl_C_rs ha hC _) (Or.inl hk) (by omega) (by omega) ?_
      rw [if_pos rfl]
      have hot := hok.2.2.1 k hk
      cases hch : dp_ch j (ld_tk W k) (ld_gv W k) with
      | none =>
        have e0 : ld_t0 W k j = -1 := by unfold ld_t0 ld_do; rw [hch]
        rw [e0]
        refine ⟨fun _ => b_X0_byOath_48 hP hm ?_, fun y => absurd rfl y⟩
        rw [nI_1]
        refine ih (j + 1) (by omega) rc c h1 h2 (fun st hst t ht => ?_) h4 _
        by_cases e : st = j
        · rw [e, hch] at ht
          exact absurd ht (by simp)
        · exact h3 st (by omega) t ht
      | some t =>
        have htN := dp_ch_N hok (show j < ld_N W by omega) (hok.2.1 k (Or.inl hk)).2.1 hch
        have e0 : ld_t0 W k j = nI t := by unfold ld_t0 ld_do; rw [hch, hot]
        rw [e0]
        have b1 := ro_max hok h1 htN
        have b2 := ro_max hok h1 (show j < ld_N W by omega)
        refine ⟨fun y => absurd y (m1_ne (by omega)), fun _ => ⟨by rw [hg'], by rw [hg']; exact vp_in_nI (by omega) (by omega), by omega, ?_⟩⟩
        rw [nI_clamp (by omega), rs_I]
        refine sp_improve hP hm hg (by omega) (by omega) (by omega) ?_
        have h1' := ro_I_up h1 (show j < ld_N W by omega) htN hk hbit hch
        have h2' : ∀ st, st < ld_N W → dp_bt (rs_u rc j (dp_lst (rc j) (dp_one (rc t))) st) (r st) := by
          intro st hst
          unfold rs_u
          by_cases e : st = j
          · rw [if_pos e, e]
            exact dp_bt_trans (dp_lst_l _ _) (h2 j (by omega))
          · rw [if_neg e]
            exact h2 st hst
        have h3' : ∀ st, st < j + 1 → ∀ t', dp_ch st (ld_tk W k) (ld_gv W k) = some t' → dp_bt (rs_u rc j (dp_lst (rc j) (dp_one (rc t))) st) (dp_one (r t')) := by
          intro st hst t' ht'
          unfold rs_u
          by_cases e : st = j
          · rw [e, hch] at ht'
            simp only [Option.some.injEq] at ht'
            subst ht'
            rw [if_pos e]
            exact dp_bt_trans (dp_lst_r _ _) (dp_one_bt (h2 t htN))
          · rw [if_neg e]
            exact h3 st (by omega) t' ht'
        by_cases ec : dp_lst (rc j) (dp_one (rc t)) = rc j
        · rw [decide_eq_true ec]
          refine ⟨fun _ => b_X0_byOath_48 hP hm ?_, fun y => absurd rfl y⟩
          rw [nI_1]
          exact ih (j + 1) (by omega) _ c h1' h2' h3' (fun z => by rw [rs_u_id ec]; exact h4 z) _
        · rw [decide_eq_false ec]
          refine ⟨fun y => absurd y (by decide), fun _ => b_X0_byOath_48 hP hm ?_⟩
          rw [nI_1]
          exact ih (j + 1) (by omega) _ true h1' h2' h3' (fun z => absurd z (by decide)) _
  exact key (ld_N W) 0 (by omega) r false hr (fun st _ => dp_bt_refl _) (fun st hst => absurd hst (Nat.not_lt_zero _)) (fun _ => rfl) gc_u
end Bo
