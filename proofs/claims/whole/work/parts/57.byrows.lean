/-! The class's loops over one row of depths. -/
theorem mix_u {f r : Nat → Nat} {k v : Nat} (hv : v = f k) : rs_u (tk_mix k f r) k v = tk_mix (k + 1) f r := by
  funext j
  unfold rs_u tk_mix
  by_cases e : j = k
  · rw [if_pos e, if_pos (by omega), hv, e]
  · rw [if_neg e]
    by_cases e2 : j < k
    · rw [if_pos e2, if_pos (by omega)]
    · rw [if_neg e2, if_neg (by omega)]
theorem mix_s {f r : Nat → Nat} {k : Nat} (h : f k = r k) : tk_mix (k + 1) f r = tk_mix k f r := by
  funext j
  unfold tk_mix
  by_cases e : j = k
  · rw [if_pos (by omega), if_neg (by omega), e, h]
  · by_cases e2 : j < k
    · rw [if_pos e2, if_pos (by omega)]
    · rw [if_neg e2, if_neg (by omega)]
theorem mix_at {f r : Nat → Nat} {k : Nat} : tk_mix k f r k = r k := by
  unfold tk_mix
  rw [if_neg (by omega)]
theorem mix_0 {f r : Nat → Nat} : tk_mix 0 f r = r := by
  funext j
  unfold tk_mix
  rw [if_neg (by omega)]
theorem mix_all {f r : Nat → Nat} {k : Nat} (h : ∀ j, k ≤ j → f j = r j) : tk_mix k f r = f := by
  funext j
  unfold tk_mix
  by_cases e : j < k
  · rw [if_pos e]
  · rw [if_neg e, h j (by omega)]
theorem mix_to {f r : Nat → Nat} {k j : Nat} (hj : k ≤ j) (h : ∀ i, k ≤ i → i < j → f i = r i) : tk_mix k f r = tk_mix j f r := by
  funext i
  unfold tk_mix
  by_cases e : i < k
  · rw [if_pos e, if_pos (by omega)]
  · rw [if_neg e]
    by_cases e2 : i < j
    · rw [if_pos e2, h i (by omega) e2]
    · rw [if_neg e2]
def rw_part (N side : Nat) (q r : Nat → Nat) (st : Nat) : Nat := if st + side < N ∧ st_fit st side = true then dp_lst (r st) (dp_one (q (st + side))) else r st
def rw_both (N : Nat) (q1 q2 r : Nat → Nat) (st : Nat) : Nat := if st < N then dp_lst (r st) (dp_both (q1 st) (q2 st)) else r st
def rw_spl (N : Nat) (q1 q2 r : Nat → Nat) : Nat → Nat → Nat
  | 0, st => r st
  | k + 1, st => if st < N ∧ st_in k st = true then dp_lst (rw_spl N q1 q2 r k st) (dp_both (q1 k) (q2 (st - k))) else rw_spl N q1 q2 r k st
/-- depth by a deal -/
def ld_bv (W : ld_W) (k : Nat) (q : Nat → Nat) (st : Nat) : Nat := match ld_do W k st with
  | none => 0
  | some (t, none) => dp_one (q t)
  | some (t, some t2) => dp_both (q t) (q t2)
def rw_barg (W : ld_W) (k : Nat) (q r : Nat → Nat) (st : Nat) : Nat := if st < ld_N W then dp_lst (r st) (ld_bv W k q st) else r st
theorem dp_lst_le {x y K : Nat} (hx : x ≤ K) (hy : y ≤ K) : dp_lst x y ≤ K := by
  unfold dp_lst
  split <;> assumption
theorem dp_one_le {x K : Nat} (hx : x ≤ K) : dp_one x ≤ K + 1 := by
  unfold dp_one
  split <;> omega
theorem dp_both_le {x y K : Nat} (hx : x ≤ K) (hy : y ≤ K) : dp_both x y ≤ K + 1 := by
  unfold dp_both
  split
  · omega
  · split <;> omega
theorem rw_spl_le {N K : Nat} {q1 q2 r : Nat → Nat} (h1 : ∀ st, st < N → q1 st ≤ K) (h2 : ∀ st, st < N → q2 st ≤ K) (hr : ∀ st, st < N → r st ≤ K + 1) : ∀ k st, k ≤ N → st < N → rw_spl N q1 q2 r k st ≤ K + 1
  | 0, st, _, hs => hr st hs
  | k + 1, st, hk, hs => by
    have ih := rw_spl_le h1 h2 hr k st (by omega) hs
    unfold rw_spl
    split
    · exact dp_lst_le ih (dp_both_le (h1 k (by omega)) (h2 (st - k) (by omega)))
    · exact ih
theorem ld_do_N {W : ld_W} (h : ld_ok W) {k st t : Nat} {o : Option Nat} (hk : ld_dl W k) (hs : st < ld_N W) (e : ld_do W k st = some (t, o)) : t < ld_N W ∧ (∀ t2, o = some t2 → t2 < ld_N W) ∧ (o = none ↔ ld_ot W k = 0) ∧ dp_ch st (ld_tk W k) (ld_gv W k) = some t := by
  have hd := h.2.1 k hk
  unfold ld_do at e
  cases e1 : dp_ch st (ld_tk W k) (ld_gv W k) with
  | none =>
    rw [e1] at e
    exact absurd e (by simp)
  | some t' =>
    rw [e1] at e
    cases e2 : ld_ot W k with
    | zero =>
      rw [e2] at e
      simp only [Option.some.injEq, Prod.mk.injEq] at e
      obtain ⟨rfl, rfl⟩ := e
      exact ⟨dp_ch_N h hs hd.2.1 e1, fun t2 z => absurd z (by simp), by simp, rfl⟩
    | succ x =>
      rw [e2] at e hd
      cases e3 : dp_ch st (ld_tk W k) x with
      | none =>
        simp only [e3, Option.map_none] at e
        exact absurd e (by simp)
      | some t2 =>
        simp only [e3, Option.map_some, Option.some.injEq, Prod.mk.injEq] at e
        obtain ⟨rfl, rfl⟩ := e
        refine ⟨dp_ch_N h hs hd.2.1 e1, fun t3 z => ?_, by simp, rfl⟩
        simp only [Option.some.injEq] at z
        subst z
        exact dp_ch_N h hs (by omega) e3
section Br
variable {P : gc_Pr} {d : Nat} {s : gc_St} {Q : gc_TQ} {W : ld_W} {L a a1 a2 K : Nat} {q q1 q2 r : Nat → Nat}
theorem sp_byPart (hP : gc_Cl P) (hm : gc_Mo P) (hd : 2 ≤ d) (hC : cl_C W L s) (ha : 67 ≤ a) (hg : gc_gk s a = (0, 256)) (hne : a2 ≠ a) (hg2 : gc_gk s a2 = (0, 256)) (hK : K < 2 ^ 30)
    (hq : ∀ st, st < ld_N W → gc_I s a2 st = nI (q st) ∧ q st ≤ K) {side : Nat} (hside : side < ld_N W) (hr : ∀ st, st < ld_N W → r st ≤ K + 1) (h : Q none (rs_w s a (rw_part (ld_N W) side q r))) :
    gc_T P d 0 0 10 0 [.ref 10, .ref a, .ref a2, .int (nI side), gc_u] [] (rs_w s a r) Q := by
  have hN := ld_N_le hC.2.2.2.1
  have hlw : ∀ r, gc_lw (rs_w s a r) = L := fun _ => hC.2.1
  have hg2' : ∀ r, gc_gk (rs_w s a r) a2 = (0, 256) := fun _ => hg2
  refine b_X0_byPart_0 hP hm ?_
  have key : ∀ m k, k + m + side = ld_N W → gc_T P d 0 0 10 3 [.ref 10, .ref a, .ref a2, .int (nI side), .int (nI k)] [] (rs_w s a (tk_mix k (rw_part (ld_N W) side q r) r)) Q := by
    intro m
    induction m with
    | zero =>
      intro k hk
      refine b_X0_byPart_3 hP hm ⟨by rw [hlw]; exact cl_io hC.1, by omega, ?_⟩
      rw [hlw, nI_add]
      refine sp_stockCount hP hm hC.1 (cl_C_rs ha hC _).2.2.1 hC.2.2.2.1 ?_
      refine pk_le (ld_N W) (k + side) (fun _ => ?_) (fun z => by omega)
      rw [mix_all fun j hj => by unfold rw_part; rw [if_neg (by omega)]]
      exact h
    | succ m ih =>
      intro k hk
      have hn := ih (k + 1) (by omega)
      refine b_X0_byPart_3 hP hm ⟨by rw [hlw]; exact cl_io hC.1, by omega, ?_⟩
      rw [hlw, nI_add]
      refine sp_stockCount hP hm hC.1 (cl_C_rs ha hC _).2.2.1 hC.2.2.2.1 ?_
      refine pk_le (ld_N W) (k + side) (fun z => by omega) (fun z => ⟨by omega, ?_⟩)
      refine sp_fits hP hm (by omega) (by omega) ?_
      by_cases hf : st_fit k side = true
      · rw [if_pos hf]
        refine ⟨fun y => absurd y (by decide), fun _ => ⟨by rw [hg2'], by rw [hg2']; exact vp_in_nI (by omega) (by omega), by omega, ?_⟩⟩
        rw [nI_clamp (by omega), rs_In s _ hne, (hq (k + side) (by omega)).1]
        have h1 := (hq (k + side) (by omega)).2
        have h2 := hr k (by omega)
        refine sp_improve hP hm hg (by omega) (by omega) (by rw [mix_at]; omega) ?_
        rw [mix_at, mix_u (by unfold rw_part; rw [if_pos ⟨by omega, hf⟩])]
        refine b_X0_byPart_39 hP hm ?_
        rw [nI_1]
        exact hn
      · rw [if_neg hf]
        refine ⟨fun _ => b_X0_byPart_39 hP hm ?_, fun y => absurd rfl y⟩
        rw [nI_1, ← mix_s (show rw_part (ld_N W) side q r k = r k by unfold rw_part; rw [if_neg (fun z => hf z.2)])]
        exact hn
  have := key (ld_N W - side) 0 (by omega)
  rw [mix_0] at this
  exact this
theorem sp_byBoth (hP : gc_Cl P) (hm : gc_Mo P) (hd : 2 ≤ d) (hC : cl_C W L s) (ha : 67 ≤ a) (hg : gc_gk s a = (0, 256)) (hne1 : a1 ≠ a) (hg1 : gc_gk s a1 = (0, 256)) (hne2 : a2 ≠ a) (hg2 : gc_gk s a2 = (0, 256)) (hK : K < 2 ^ 30)
    (hq1 : ∀ st, st < ld_N W → gc_I s a1 st = nI (q1 st) ∧ q1 st ≤ K) (hq2 : ∀ st, st < ld_N W → gc_I s a2 st = nI (q2 st) ∧ q2 st ≤ K) (hr : ∀ st, st < ld_N W → r st ≤ K + 1) (h : Q none (rs_w s a (rw_both (ld_N W) q1 q2 r))) :
    gc_T P d 0 0 11 0 [.ref 10, .ref a, .ref a1, .ref a2, gc_u] [] (rs_w s a r) Q := by
  have hN := ld_N_le hC.2.2.2.1
  have hlw : ∀ r, gc_lw (rs_w s a r) = L := fun _ => hC.2.1
  have hg1' : ∀ r, gc_gk (rs_w s a r) a1 = (0, 256) := fun _ => hg1
  have hg2' : ∀ r, gc_gk (rs_w s a r) a2 = (0, 256) := fun _ => hg2
  refine b_X0_byBoth_0 hP hm ?_
  have key : ∀ m k, k + m = ld_N W → gc_T P d 0 0 11 3 [.ref 10, .ref a, .ref a1, .ref a2, .int (nI k)] [] (rs_w s a (tk_mix k (rw_both (ld_N W) q1 q2 r) r)) Q := by
    intro m
    induction m with
    | zero =>
      intro k hk
      refine b_X0_byBoth_3 hP hm ⟨by rw [hlw]; exact cl_io hC.1, by omega, ?_⟩
      rw [hlw]
      refine sp_stockCount hP hm hC.1 (cl_C_rs ha hC _).2.2.1 hC.2.2.2.1 ?_
      refine pk_le (ld_N W) k (fun _ => ?_) (fun z => by omega)
      rw [mix_all fun j hj => by unfold rw_both; rw [if_neg (by omega)]]
      exact h
    | succ m ih =>
      intro k hk
      have hn := ih (k + 1) (by omega)
      refine b_X0_byBoth_3 hP hm ⟨by rw [hlw]; exact cl_io hC.1, by omega, ?_⟩
      rw [hlw]
      refine sp_stockCount hP hm hC.1 (cl_C_rs ha hC _).2.2.1 hC.2.2.2.1 ?_
      refine pk_le (ld_N W) k (fun z => by omega) (fun z => ⟨by rw [hg1'], by rw [hg1']; exact vp_in_nI (by omega) (by omega), by rw [hg2'], by rw [hg2']; exact vp_in_nI (by omega) (by omega), by omega, ?_⟩)
      rw [nI_clamp (by omega), rs_In s _ hne1, rs_In s _ hne2, (hq1 k (by omega)).1, (hq2 k (by omega)).1]
      have h1 := (hq1 k (by omega)).2
      have h2 := (hq2 k (by omega)).2
      have h3 := hr k (by omega)
      refine sp_deeper hP hm (by omega) (by omega) (by omega) fun v hv hv2 => ⟨by omega, ?_⟩
      refine sp_improve hP hm hg (by omega) (by omega) (by rw [mix_at]; omega) ?_
      rw [mix_at, hv, mix_u (by unfold rw_both; rw [if_pos (by omega)])]
      show gc_T P d 0 0 11 3 [.ref 10, .ref a, .ref a1, .ref a2, .int (nI k + 1)] [] _ Q
      rw [nI_1]
      exact hn
  have := key (ld_N W) 0 (by omega)
  rw [mix_0] at this
  exact this
theorem sp_bySplit (hP : gc_Cl P) (hm : gc_Mo P) (hd : 2 ≤ d) (hC : cl_C W L s) (ha : 67 ≤ a) (hg : gc_gk s a = (0, 256)) (hne1 : a1 ≠ a) (hg1 : gc_gk s a1 = (0, 256)) (hne2 : a2 ≠ a) (hg2 : gc_gk s a2 = (0, 256)) (hK : K < 2 ^ 30)
    (hq1 : ∀ st, st < ld_N W → gc_I s a1 st = nI (q1 st) ∧ q1 st ≤ K) (hq2 : ∀ st, st < ld_N W → gc_I s a2 st = nI (q2 st) ∧ q2 st ≤ K) (hr : ∀ st, st < ld_N W → r st ≤ K + 1) (h : Q none (rs_w s a (rw_spl (ld_N W) q1 q2 r (ld_N W)))) :
    gc_T P d 0 0 13 0 [.ref 10, .ref a, .ref a1, .ref a2, gc_u, gc_u, gc_u, gc_u, gc_u, gc_u, gc_u] [] (rs_w s a r) Q := by
  have hN := ld_N_le hC.2.2.2.1
  have hlw : ∀ r, gc_lw (rs_w s a r) = L := fun _ => hC.2.1
  have hg' : ∀ r, gc_gk (rs_w s a r) a = (0, 256) := fun _ => hg
  have hg1' : ∀ r, gc_gk (rs_w s a r) a1 = (0, 256) := fun _ => hg1
  have hg2' : ∀ r, gc_gk (rs_w s a r) a2 = (0, 256) := fun _ => hg2
  refine b_X0_bySplit_0 hP hm ⟨by rw [hlw]; exact cl_io hC.1, by omega, ?_⟩
  rw [hlw]
  refine sp_stockCount hP hm hC.1 (cl_C_rs ha hC _).2.2.1 hC.2.2.2.1 ?_
  have hle := rw_spl_le (N := ld_N W) (fun st z => (hq1 st z).2) (fun st z => (hq2 st z).2) hr
  have key : ∀ m k, k + m = ld_N W → ∀ l6 l7 l8 l9 l10 : Value, gc_T P d 0 0 13 12 [.ref 10, .ref a, .ref a1, .ref a2, .int (nI (ld_N W)), .int (nI k), l6, l7, l8, l9, l10] [] (rs_w s a (rw_spl (ld_N W) q1 q2 r k)) Q := by
    intro m
    induction m with
    | zero =>
      intro k hk l6 l7 l8 l9 l10
      refine b_X0_bySplit_12 hP hm (pk_le (ld_N W) k (fun _ => ?_) (fun z => by omega))
      rw [show k = ld_N W by omega]
      exact h
    | succ m ih =>
      intro k hk l6 l7 l8 l9 l10
      have hn := ih (k + 1) (by omega)
      have hk1 := hq1 k (by omega)
      refine b_X0_bySplit_12 hP hm (pk_le (ld_N W) k (fun z => by omega) (fun z => ⟨by rw [hg1'], by rw [hg1']; exact vp_in_nI (by omega) (by omega), ?_⟩))
      rw [nI_clamp (by omega), rs_In s _ hne1, hk1.1]
      refine pk_le (q1 k) 0 (fun z0 => b_X0_bySplit_37 hP hm ?_) (fun z0 => b_X0_bySplit_37 hP hm ?_)
      · have fin : gc_T P d 0 0 13 127 [.ref 10, .ref a, .ref a1, .ref a2, .int (nI (ld_N W)), .int (nI k), .int (nI (q1 k)), .int (nI (ld_N W)), .int 0, l9, l10] [] (rs_w s a (rw_spl (ld_N W) q1 q2 r k)) Q := by
          refine b_X0_bySplit_127 hP hm ?_
          rw [nI_1]
          have e : rw_spl (ld_N W) q1 q2 r (k + 1) = rw_spl (ld_N W) q1 q2 r k := by
            funext st
            show (if st < ld_N W ∧ st_in k st = true then dp_lst (rw_spl (ld_N W) q1 q2 r k st) (dp_both (q1 k) (q2 (st - k))) else rw_spl (ld_N W) q1 q2 r k st) = _
            split
            · rw [show dp_both (q1 k) (q2 (st - k)) = 0 by unfold dp_both; rw [if_pos (Or.inl (by omega))], dp_lst_0]
            · rfl
          rw [← e]
          exact hn _ _ _ _ _
        exact b_X0_bySplit_42 hP hm (pk_le (ld_N W) 0 (fun _ => fin) (fun _ => pk_le (ld_N W) (ld_N W) (fun _ => fin) (fun z => by omega)))
      · have no : ∀ st, st_in k st = false ∨ ld_N W ≤ st → rw_spl (ld_N W) q1 q2 r (k + 1) st = rw_spl (ld_N W) q1 q2 r k st := by
          intro st hst
          show (if st < ld_N W ∧ st_in k st = true then _ else _) = _
          rw [if_neg]
          rintro ⟨y1, y2⟩
          rcases hst with e | e
          · rw [e] at y2
            exact absurd y2 (by decide)
          · omega
        have fin : ∀ j cc, ld_N W ≤ j → ∀ l8 l9 : Value, gc_T P d 0 0 13 127 [.ref 10, .ref a, .ref a1, .ref a2, .int (nI (ld_N W)), .int (nI k), .int (nI (q1 k)), .int (nI j), .int (nI cc), l8, l9] [] (rs_w s a (tk_mix j (rw_spl (ld_N W) q1 q2 r (k + 1)) (rw_spl (ld_N W) q1 q2 r k))) Q := by
          intro j cc hj l8 l9
          refine b_X0_bySplit_127 hP hm ?_
          rw [nI_1, mix_all fun i hi => no i (Or.inr (by omega))]
          exact hn _ _ _ _ _
        have inner : ∀ n j cc, ld_N W ≤ j + n → k ≤ j → cc ≤ j → j < 512 → (j < 256 → st_in k j = true) → ∀ l8 l9 : Value, gc_T P d 0 0 13 42 [.ref 10, .ref a, .ref a1, .ref a2, .int (nI (ld_N W)), .int (nI k), .int (nI (q1 k)), .int (nI j), .int (nI cc), l8, l9] [] (rs_w s a (tk_mix j (rw_spl (ld_N W) q1 q2 r (k + 1)) (rw_spl (ld_N W) q1 q2 r k))) Q := by
          intro n
          induction n with
          | zero =>
            intro j cc h1 h2 hcc h3 h4 l8 l9
            exact b_X0_bySplit_42 hP hm (pk_le (ld_N W) cc (fun _ => fin j cc (by omega) l8 l9) (fun _ => pk_le (ld_N W) j (fun z => fin j cc z l8 l9) (fun z => by omega)))
          | succ n ih2 =>
            intro j cc h1 h2 hcc h3 h4 l8 l9
            refine b_X0_bySplit_42 hP hm (pk_le (ld_N W) cc (fun _ => fin j cc (by omega) l8 l9) (fun _ => pk_le (ld_N W) j (fun z => fin j cc z l8 l9) (fun zj => ?_)))
            · have hin := h4 (by omega)
              have hq := hq2 (j - k) (by omega)
              obtain ⟨n1, n2, n3, n4⟩ := st_nx_spec (a := j) (f := k) (by omega) (by omega) hin
              have h112 : ∀ l8 l9 : Int32, gc_T P d 0 0 13 112 [.ref 10, .ref a, .ref a1, .ref a2, .int (nI (ld_N W)), .int (nI k), .int (nI (q1 k)), .int (nI j), .int (nI cc), .int l8, .int l9] [] (rs_w s a (tk_mix (j + 1) (rw_spl (ld_N W) q1 q2 r (k + 1)) (rw_spl (ld_N W) q1 q2 r k))) Q := by
                intro l8 l9
                refine b_X0_bySplit_112 hP hm ⟨by omega, sp_nextAbove hP hm (by omega) (by omega) ?_⟩
                have := ih2 (st_nxa j k) (cc + 1) (by omega) (by omega) (by omega) n2 n4 (.int l8) (.int l9)
                rw [← mix_to (k := j + 1) (by omega) (fun i y1 y2 => no i (by
                  by_cases e : i < 256
                  · exact Or.inl (n3 i (by omega) e y2)
                  · exact Or.inr (by omega)))] at this
                show gc_T P d 0 0 13 42 [.ref 10, .ref a, .ref a1, .ref a2, .int (nI (ld_N W)), .int (nI k), .int (nI (q1 k)), .int (nI (st_nxa j k)), .int (nI cc + 1), .int l8, .int l9] [] _ Q
                rw [nI_1]
                exact this
              rw [pk_sub h2, nI_clamp (by omega), rs_In s _ hne2, hq.1]
              have hfj : rw_spl (ld_N W) q1 q2 r (k + 1) j = dp_lst (rw_spl (ld_N W) q1 q2 r k j) (dp_both (q1 k) (q2 (j - k))) := by
                show (if j < ld_N W ∧ st_in k j = true then _ else _) = _
                rw [if_pos ⟨by omega, hin⟩]
              have hrj := hle k j (by omega) (by omega)
              have h79 : ∀ (t : Nat) (l9 : Value), t + 1 = (if q2 (j - k) < q1 k then q1 k else q2 (j - k)) + 1 → gc_T P d 0 0 13 79 [.ref 10, .ref a, .ref a1, .ref a2, .int (nI (ld_N W)), .int (nI k), .int (nI (q1 k)), .int (nI j), .int (nI cc), .int (nI (q2 (j - k))), l9] [.int (nI t)] (rs_w s a (tk_mix j (rw_spl (ld_N W) q1 q2 r (k + 1)) (rw_spl (ld_N W) q1 q2 r k))) Q := by
                intro t l9 ht
                have htK : t ≤ K := by
                  split at ht <;> omega
                have keep : dp_lst (rw_spl (ld_N W) q1 q2 r k j) (dp_both (q1 k) (q2 (j - k))) = rw_spl (ld_N W) q1 q2 r k j → gc_T P d 0 0 13 112 [.ref 10, .ref a, .ref a1, .ref a2, .int (nI (ld_N W)), .int (nI k), .int (nI (q1 k)), .int (nI j), .int (nI cc), .int (nI (q2 (j - k))), .int (nI t)] [] (rs_w s a (tk_mix j (rw_spl (ld_N W) q1 q2 r (k + 1)) (rw_spl (ld_N W) q1 q2 r k))) Q := by
                  intro e
                  rw [← mix_s (hfj.trans e)]
                  exact h112 _ _
                refine b_X0_bySplit_79 hP hm (pk_le (q2 (j - k)) 0 (fun y => keep ?_) (fun y => ⟨by rw [hg'], by rw [hg']; exact vp_in_nI (by omega) (by omega), ?_⟩))
                · rw [show dp_both (q1 k) (q2 (j - k)) = 0 by unfold dp_both; rw [if_pos (Or.inr (by omega))], dp_lst_0]
                · have hbo : dp_both (q1 k) (q2 (j - k)) = t + 1 := by
                    unfold dp_both
                    rw [if_neg (by omega), ht]
                  have put : dp_lst (rw_spl (ld_N W) q1 q2 r k j) (dp_both (q1 k) (q2 (j - k))) = t + 1 → gc_T P d 0 0 13 104 [.ref 10, .ref a, .ref a1, .ref a2, .int (nI (ld_N W)), .int (nI k), .int (nI (q1 k)), .int (nI j), .int (nI cc), .int (nI (q2 (j - k))), .int (nI t)] [] (rs_w s a (tk_mix j (rw_spl (ld_N W) q1 q2 r (k + 1)) (rw_spl (ld_N W) q1 q2 r k))) Q := by
                    intro e
                    refine b_X0_bySplit_104 hP hm ⟨by rw [hg'], by rw [hg']; exact vp_in_nI (by omega) (by omega), ?_⟩
                    rw [nI_clamp (by omega), nI_1, rs_wI, mix_u (by rw [hfj, e])]
                    exact h112 _ _
                  rw [nI_clamp (by omega), rs_I, mix_at]
                  refine pk_eq (rw_spl (ld_N W) q1 q2 r k j) 0 (fun w => put ?_) (fun w => ⟨by rw [hg'], by rw [hg']; exact vp_in_nI (by omega) (by omega), ?_⟩)
                  · unfold dp_lst
                    rw [if_pos (Or.inl w), hbo]
                  · rw [nI_1]
                    refine pk_le (rw_spl (ld_N W) q1 q2 r k j) (t + 1) (fun v => keep ?_) (fun v => put ?_)
                    · unfold dp_lst
                      rw [if_neg (by omega)]
                    · unfold dp_lst
                      rw [if_pos (Or.inr ⟨by omega, by omega⟩), hbo]
              refine ⟨by rw [hg2'], by rw [hg2']; exact vp_in_nI (by omega) (by omega), ?_⟩
              refine pk_le (q1 k) (q2 (j - k)) (fun y => h79 _ _ ?_) (fun y => h79 _ _ ?_)
              · rw [if_neg (by omega)]
              · rw [if_pos y]
        have := inner (ld_N W) k 0 (by omega) (Nat.le_refl _) (Nat.zero_le _) (by omega) (fun y => st_in_iff.mpr ⟨Nat.le_refl _, Nat.le_refl _, Nat.le_refl _, Nat.le_refl _⟩) l9 l10
        rw [show tk_mix k (rw_spl (ld_N W) q1 q2 r (k + 1)) (rw_spl (ld_N W) q1 q2 r k) = rw_spl (ld_N W) q1 q2 r k from by
          rw [← mix_to (k := 0) (by omega) (fun i _ hi => no i (Or.inl (by
            cases e : st_in k i with
            | false => rfl
            | true => exact absurd (st_in_le (by omega) (by omega) e) (by omega)))), mix_0]] at this
        exact this
  exact key (ld_N W) 0 (by omega) _ _ _ _ _
end Br
