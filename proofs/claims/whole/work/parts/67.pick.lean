/-! Picking a MOVE by its number: deals, all. -/
section Pd
variable {P : gc_Pr} {d : Nat} {s : gc_St} {Q : gc_TQ} {W : ld_W} {L v o p st b : Nat}
theorem sp_leadByBargain (hP : gc_Cl P) (hm : gc_Mo P) (hd : 1 ≤ d) (hC : cl_C W L s) (hL : mvL W o p st b s) (hst : st < ld_N W) (hb : b < 8) (e7 : gc_F s 32 7 = -1) (e8 : gc_F s 32 8 = -1) (h0 : lsP [] s) {k : Nat} (hk : k < ld_b W) {m : mv_T} (hmv : mv_barg W p st b k = some m) (h : ∀ t, mvP m t → fr A69 B33 s t → Q none t) : gc_T P d 0 0 58 0 [.ref 32, .int (nI k), gc_u, gc_u] [] s Q := by
  have hok := hC.2.2.2.1
  have b3 := hok.1.2.2.1
  have hdl : ld_dl W (3 + k) := Or.inr ⟨by omega, by omega⟩
  have hbit := (mv_barg_of hmv).1
  have h2k := sb_bit b hb k (by omega) hbit
  have hk2 : 2 ^ k ≤ 4 := Nat.pow_le_pow_right (by decide) (show k ≤ 2 by omega)
  have esh : (1 : Int32) <<< (nI k &&& 31) = nI (2 ^ k) := by
    rw [show (1 : Int32) = nI 1 from rfl, st_shl (by omega) (by omega), Nat.one_mul]
  rw [mv_barg_do, if_pos hbit] at hmv
  cases hdo : ld_do W (3 + k) st with
  | none =>
    rw [hdo] at hmv
    simp at hmv
  | some r =>
    obtain ⟨t0, o2⟩ := r
    rw [hdo] at hmv
    simp only [Option.map_some, Option.some.injEq] at hmv
    obtain ⟨d1, d2, d3, _⟩ := ld_do_N hok hdl hst hdo
    have g0 : fr A69 B33 s (gc_wF s 32 6 (nI (20 + k))) := fr_wF rfl (fr_refl s)
    have hC1 := cl_C_mv hC g0
    refine b_X4_leadByBargain_0 hP hm ⟨hd, ?_⟩
    rw [hL.2.1, hL.2.2.1, hL.2.2.2.1, st_lit 3, nI_add, st_lit 20, nI_add, esh, pk_sub h2k.1, nI_clamp (by omega)]
    refine sp_target hP hm (w := 0) hC1 hdl (by omega) hst ⟨hd, ?_⟩
    rw [if_pos rfl, show ld_t0 W (3 + k) st = nI t0 by unfold ld_t0; rw [hdo]]
    refine sp_lead1 hP hm (k := 20 + k) (F_eq _ _ _ _) ((F_ne _ _ (Or.inr (by decide))).trans e7) ((F_ne _ _ (Or.inr (by decide))).trans e8) (lsP_wF h0 (Or.inr (by decide))) fun t t1 t2 => ?_
    have g1 := fr_trans g0 (A9_69 t2)
    have hCt := cl_C_mv hC g1
    refine ⟨by rw [hCt.2.1]; exact cl_io hC.1, vp_in_nI (by omega) (by omega), ?_⟩
    rw [hCt.2.1, cl_ot hCt.2.2.1 hdl]
    cases o2 with
    | none =>
      rw [d3.mp rfl]
      rw [← hmv] at h
      exact ⟨fun _ => h t t1 g1, fun y => absurd rfl y⟩
    | some t3 =>
      have hN := ld_N_le hok
      have d4 := d2 t3 rfl
      cases hx : ld_ot W (3 + k) with
      | zero => exact absurd (d3.mpr hx) (by simp)
      | succ x =>
        have hb5 := (hok.2.1 (3 + k) hdl).2.2
        refine ⟨fun y => absurd y (m1_ne (by omega)), fun _ => ⟨hd, ?_⟩⟩
        rw [(fr_F g1 rfl).trans hL.2.2.1, (fr_F g1 rfl).trans hL.2.1]
        refine sp_target hP hm (w := 1) hCt hdl (by omega) hst ⟨hd, ?_⟩
        rw [if_neg (by decide), show ld_t1 W (3 + k) st = nI t3 by unfold ld_t1; rw [hdo]]
        rw [← hmv] at h
        exact sp_lead2 hP hm t1 fun u u1 u2 => h u u1 (fr_trans g1 (A9_69 u2))
theorem sp_pickDeal (hP : gc_Cl P) (hm : gc_Mo P) (hd : 2 ≤ d) (hC : cl_C W L s) (hL : mvL W o p st b s) (ho : o < 8) (hst : st < ld_N W) (hb : b < 8) (e7 : gc_F s 32 7 = -1) (e8 : gc_F s 32 8 = -1) (h0 : lsP [] s) {j : Nat} (hj : j < 2 ^ 31)
    (hs : ∀ m t, ((List.range (ld_o W)).filterMap (mv_oath W o p st b) ++ (List.range (ld_b W)).filterMap (mv_barg W p st b))[j]? = some m → mvP m t → fr A69 B33 s t → Q (some (.int 1)) t)
    (hn : ((List.range (ld_o W)).filterMap (mv_oath W o p st b) ++ (List.range (ld_b W)).filterMap (mv_barg W p st b))[j]? = none → Q (some (.int 0)) s) :
    gc_T P d 0 0 57 0 [.ref 32, .int (nI j), gc_u, gc_u] [] s Q := by
  have hok := hC.2.2.2.1
  have o3 := hok.1.2.1
  have b3 := hok.1.2.2.1
  have hF1 : gc_F s L 1 = nI (ld_o W) := hC.2.2.1.1.2.1
  have hF2 : gc_F s L 2 = nI (ld_b W) := hC.2.2.1.1.2.2.1
  have l2 : ∀ n k x, k + n = ld_b W → ((List.range (ld_o W)).filterMap (mv_oath W o p st b)).length + ((List.range k).filterMap (mv_barg W p st b)).length + x = j → gc_T P d 0 0 57 76 [.ref 32, .int (nI j), .int (nI x), .int (nI k)] [] s Q := by
    intro n
    induction n with
    | zero =>
      intro k x hk hx
      obtain rfl : k = ld_b W := by omega
      refine b_X4_pickDeal_76 hP hm ⟨by rw [hC.2.1]; exact cl_io hC.1, ?_⟩
      rw [hC.2.1, hF2]
      refine pk_le (ld_b W) (ld_b W) (fun _ => hn ?_) (fun z => by omega)
      rw [List.getElem?_eq_none]
      rw [List.length_append]
      omega
    | succ n ih =>
      intro k x hk hx
      refine b_X4_pickDeal_76 hP hm ⟨by rw [hC.2.1]; exact cl_io hC.1, ?_⟩
      rw [hC.2.1, hF2]
      refine pk_le (ld_b W) k (fun z => by omega) (fun _ => ⟨by omega, ?_⟩)
      refine sp_canBargain hP hm (by omega) hC hL hb hst (by omega) ?_
      have hS := fl_S (mv_barg W p st b) k
      cases e : mv_barg W p st b k with
      | none =>
        rw [e] at hS
        refine ⟨fun _ => b_X4_pickDeal_112 hP hm ?_, fun y => absurd rfl y⟩
        rw [nI_1]
        exact ih (k + 1) x (by omega) (by rw [hS]; exact hx)
      | some m =>
        rw [e] at hS
        have hS : ((List.range (k + 1)).filterMap (mv_barg W p st b)).length = ((List.range k).filterMap (mv_barg W p st b)).length + 1 := hS
        refine ⟨fun y => absurd y (show ¬ (1 : Int32) = 0 by decide), fun _ => ⟨fun y => ?_, fun y => ⟨by omega, ?_⟩⟩⟩
        · have hx0 : x ≠ 0 := fun z => y (by rw [z]; rfl)
          obtain ⟨x', rfl⟩ : ∃ x', x = x' + 1 := ⟨x - 1, by omega⟩
          refine b_X4_pickDeal_112 hP hm ?_
          rw [nI_1, pk_m1]
          exact ih (k + 1) x' (by omega) (by omega)
        · have hx0 : x = 0 := by
            rw [show (0 : Int32) = nI 0 from rfl, nI_eq (by omega) (by omega)] at y
            exact y
          refine sp_leadByBargain hP hm (by omega) hC hL hst hb e7 e8 h0 (by omega) e fun t t1 t2 => hs m t ?_ t1 t2
          rw [List.getElem?_append_right (by omega)]
          have := fl_at e (ld_b W - (k + 1))
          rw [show k + 1 + (ld_b W - (k + 1)) = ld_b W by omega] at this
          rw [show j - ((List.range (ld_o W)).filterMap (mv_oath W o p st b)).length = ((List.range k).filterMap (mv_barg W p st b)).length by omega]
          exact this
  have l1 : ∀ n k x, k + n = ld_o W → ((List.range k).filterMap (mv_oath W o p st b)).length + x = j → gc_T P d 0 0 57 4 [.ref 32, .int (nI j), .int (nI x), .int (nI k)] [] s Q := by
    intro n
    induction n with
    | zero =>
      intro k x hk hx
      obtain rfl : k = ld_o W := by omega
      refine b_X4_pickDeal_4 hP hm ⟨by rw [hC.2.1]; exact cl_io hC.1, ?_⟩
      rw [hC.2.1, hF1]
      exact pk_le (ld_o W) (ld_o W) (fun _ => l2 (ld_b W) 0 x (by omega) (by simpa using hx)) (fun z => by omega)
    | succ n ih =>
      intro k x hk hx
      refine b_X4_pickDeal_4 hP hm ⟨by rw [hC.2.1]; exact cl_io hC.1, ?_⟩
      rw [hC.2.1, hF1]
      refine pk_le (ld_o W) k (fun z => by omega) (fun _ => ⟨by omega, ?_⟩)
      refine sp_canOath hP hm (by omega) hC hL ho hst (by omega) ?_
      have hS := fl_S (mv_oath W o p st b) k
      cases e : mv_oath W o p st b k with
      | none =>
        rw [e] at hS
        refine ⟨fun _ => b_X4_pickDeal_68 hP hm ?_, fun y => absurd rfl y⟩
        rw [nI_1]
        exact ih (k + 1) x (by omega) (by rw [hS]; exact hx)
      | some m =>
        rw [e] at hS
        have hS : ((List.range (k + 1)).filterMap (mv_oath W o p st b)).length = ((List.range k).filterMap (mv_oath W o p st b)).length + 1 := hS
        refine ⟨fun y => absurd y (show ¬ (1 : Int32) = 0 by decide), fun _ => ⟨fun y => ?_, fun y => ⟨by omega, ?_⟩⟩⟩
        · have hx0 : x ≠ 0 := fun z => y (by rw [z]; rfl)
          obtain ⟨x', rfl⟩ : ∃ x', x = x' + 1 := ⟨x - 1, by omega⟩
          refine b_X4_pickDeal_68 hP hm ?_
          rw [nI_1, pk_m1]
          exact ih (k + 1) x' (by omega) (by omega)
        · have hx0 : x = 0 := by
            rw [show (0 : Int32) = nI 0 from rfl, nI_eq (by omega) (by omega)] at y
            exact y
          have hdl : ld_dl W k := Or.inl (by omega)
          have hbit := (mv_oath_of e).1
          have e' := e
          rw [mv_oath_do hok (by omega), if_pos hbit] at e'
          have g0 : fr A69 B33 s (gc_wF s 32 6 (nI (10 + k))) := fr_wF rfl (fr_refl s)
          have hC1 := cl_C_mv hC g0
          rw [hL.2.1, hL.2.2.1, st_lit 10, nI_add]
          refine sp_target hP hm (w := 0) hC1 hdl (by omega) hst ⟨by omega, ?_⟩
          cases hdo : ld_do W k st with
          | none =>
            rw [hdo] at e'
            simp at e'
          | some r =>
            obtain ⟨t0, o2⟩ := r
            rw [hdo] at e'
            simp only [Option.map_some, Option.some.injEq] at e'
            rw [if_pos rfl, show ld_t0 W k st = nI t0 by unfold ld_t0; rw [hdo], (fr_F g0 rfl).trans hL.2.2.2.1]
            refine sp_lead1 hP hm (k := 10 + k) (F_eq _ _ _ _) ((F_ne _ _ (Or.inr (by decide))).trans e7) ((F_ne _ _ (Or.inr (by decide))).trans e8) (lsP_wF h0 (Or.inr (by decide))) fun t t1 t2 => ?_
            refine hs m t ?_ (by rw [← e']; exact t1) (fr_trans g0 (A9_69 t2))
            have := fl_at e (ld_o W - (k + 1))
            rw [show k + 1 + (ld_o W - (k + 1)) = ld_o W by omega, show ((List.range k).filterMap (mv_oath W o p st b)).length = j by omega] at this
            rw [List.getElem?_append_left (List.getElem?_eq_some_iff.mp this).1]
            exact this
  exact b_X4_pickDeal_0 hP hm (l1 (ld_o W) 0 j (by omega) (by simp))
theorem sp_pick (hP : gc_Cl P) (hm : gc_Mo P) (hd : 3 ≤ d) (hC : cl_C W L s) (hL : mvL W o p st b s) (ho : o < 8) (hp : p < ld_p W) (hst : st < ld_N W) (hb : b < 8) {i : Nat} (hi : i < 2 ^ 31)
    (hs : ∀ m t, (mv_all W o p st b)[i]? = some m → mvP m t → fr A69 B33 s t → Q (some (.int 1)) t)
    (hn : ∀ t, (mv_all W o p st b)[i]? = none → fr A69 B33 s t → Q (some (.int 0)) t) :
    gc_T P d 0 0 53 0 [.ref 32, .int (nI i)] [] s Q := by
  have hok := hC.2.2.2.1
  have hlen := mv_own_len (p := p) hok hst hb
  refine b_X4_pick_0 hP hm ⟨fun _ => ?_, fun y => absurd (nI_pos' (by omega)) y⟩
  have g0 : fr A69 B33 s (gc_wF (gc_wF (gc_wF s 32 7 (-1)) 32 8 (-1)) 32 9 0) := fr_wF rfl (fr_wF rfl (fr_wF rfl (fr_refl s)))
  have e7 : gc_F (gc_wF (gc_wF (gc_wF s 32 7 (-1)) 32 8 (-1)) 32 9 0) 32 7 = -1 := by
    rw [F_ne _ _ (Or.inr (by decide)), F_ne _ _ (Or.inr (by decide)), F_eq]
  have e8 : gc_F (gc_wF (gc_wF (gc_wF s 32 7 (-1)) 32 8 (-1)) 32 9 0) 32 8 = -1 := by
    rw [F_ne _ _ (Or.inr (by decide)), F_eq]
  have e9 : lsP [] (gc_wF (gc_wF (gc_wF s 32 7 (-1)) 32 8 (-1)) 32 9 0) := ⟨F_eq _ _ _ _, fun i l hl => by simp at hl⟩
  rw [hL.2.2.2.2]
  refine pk_le (mv_own W p st b).length i (fun z => ⟨by omega, ?_⟩) (fun z => ⟨by omega, ?_⟩)
  · rw [pk_sub z]
    refine sp_pickDeal hP hm (by omega) (cl_C_mv hC g0) (mvL_fr hL g0) ho hst hb e7 e8 e9 (by omega) (fun m t t0 t1 t2 => ⟨Or.inr rfl, hs m t ?_ t1 (fr_trans g0 t2)⟩) (fun t0 => ⟨Or.inl rfl, hn _ ?_ g0⟩)
    · unfold mv_all
      rw [List.getElem?_append_right z]
      exact t0
    · unfold mv_all
      rw [List.getElem?_append_right z]
      exact t0
  · refine sp_pickOwn hP hm (by omega) (cl_C_mv hC g0) (mvL_fr hL g0) hp hst hb e7 e8 e9 (List.getElem?_eq_getElem z) fun t t1 t2 => hs _ t ?_ t1 (fr_trans g0 t2)
    unfold mv_all
    rw [List.getElem?_append_left z]
    exact List.getElem?_eq_getElem z
theorem sp_pickN (hP : gc_Cl P) (hm : gc_Mo P) {x : Int32} (hx : x < 0) (hn : ∀ t, fr A69 B33 s t → Q (some (.int 0)) t) : gc_T P d 0 0 53 0 [.ref 32, .int x] [] s Q := by
  refine b_X4_pick_0 hP hm ⟨fun y => ?_, fun y => hn _ (fr_wF rfl (fr_wF rfl (fr_wF rfl (fr_refl s))))⟩
  exact absurd hx (by simpa using y)
end Pd
