/-! The reference: the list of MOVES, the step of THE SHOWING. -/
def mtI (m : mv_T) : Int32 := match m.2.1 with
  | [] => -1
  | l :: _ => nI (spt l)
def meI (m : mv_T) : Int32 := match m.2.1 with
  | _ :: k :: _ => nI (spt k)
  | _ => -1
def mvR (ls : List mv_T) (s : gc_St) : Prop := gc_F s 67 54 = nI ls.length ∧ ∀ i m, ls[i]? = some m → gc_I s 101 i = nI m.1 ∧ gc_I s 102 i = mtI m ∧ gc_I s 103 i = meI m ∧ gc_I s 104 i = m.2.2.1 ∧ gc_I s 105 i = m.2.2.2
def BM (a : Nat) : Bool := Nat.ble 101 a && Nat.ble a 105
theorem BM_iff {a : Nat} : BM a = true ↔ 101 ≤ a ∧ a ≤ 105 := by
  unfold BM
  simp only [Bool.and_eq_true, Nat.ble_eq]
theorem Am_iff {k q j : Nat} : Am k q j = true ↔ q = 67 ∧ j = k := by
  unfold Am
  simp only [Bool.and_eq_true, Nat.beq_eq]
theorem Bm_iff {a q : Nat} : Bm a q = true ↔ q = a := by
  unfold Bm
  simp only [Nat.beq_eq]
def RA (q k : Nat) : Bool := Nat.beq q 67 && (Nat.beq k 53 || Nat.beq k 54 || Nat.beq k 60 || Nat.beq k 75 || Nat.beq k 76)
def RB (a : Nat) : Bool := (Nat.ble 100 a && Nat.ble a 106) || Nat.beq a 110
theorem RA_iff {q k : Nat} : RA q k = true ↔ q = 67 ∧ (k = 53 ∨ k = 54 ∨ k = 60 ∨ k = 75 ∨ k = 76) := by
  unfold RA
  simp only [Bool.and_eq_true, Bool.or_eq_true, Nat.beq_eq, or_assoc]
theorem RB_iff {a : Nat} : RB a = true ↔ (100 ≤ a ∧ a ≤ 106) ∨ a = 110 := by
  unfold RB
  simp only [Bool.and_eq_true, Bool.or_eq_true, Nat.beq_eq, Nat.ble_eq]
theorem rfB_iff {a : Nat} : rfB a = true → 80 ≤ a ∧ a ≤ 96 := by
  intro h
  unfold rfB at h
  simp only [Bool.and_eq_true, Nat.ble_eq] at h
  exact h.1
theorem rf_RA {W : ld_W} {lv : Nat} {s t : gc_St} (h : rf_law W lv s) (g : fr RA RB s t) : rf_law W lv t := rf_law_fr h g rfl (fun a e => bf fun z => by
  have h1 := rfB_iff e
  have h2 := RB_iff.mp z
  omega)
theorem fr_54 {s t : gc_St} (g : fr (Am 54) BM s t) : fr RA RB s t := fr_up g (fun _ _ z => RA_iff.mpr (by have := Am_iff.mp z; omega)) (fun _ z => RB_iff.mpr (by have := BM_iff.mp z; omega))
theorem fr_53 {s t : gc_St} (g : fr (Am 53) (Bm 100) s t) : fr RA RB s t := fr_up g (fun _ _ z => RA_iff.mpr (by have := Am_iff.mp z; omega)) (fun _ z => RB_iff.mpr (by have := Bm_iff.mp z; omega))
theorem rf_54 {W : ld_W} {lv : Nat} {s t : gc_St} (h : rf_law W lv s) (g : fr (Am 54) BM s t) : rf_law W lv t := rf_RA h (fr_54 g)
section Ml
variable {P : gc_Pr} {d : Nat} {s : gc_St} {Q : gc_TQ} {W : ld_W} {lv o p st b : Nat}
theorem sp_offers (hP : gc_Cl P) (hm : gc_Mo P) {ls : List mv_T} (hls : mvR ls s) (hlen : ls.length < 2060) {m : mv_T} {x1 x2 x3 x4 x5 : Int32} (e1 : x1 = nI m.1) (e2 : x2 = mtI m) (e3 : x3 = meI m) (e4 : x4 = m.2.2.1) (e5 : x5 = m.2.2.2) (h : ∀ t, mvR (ls ++ [m]) t → fr (Am 54) BM s t → Q none t) : gc_T P d 0 0 245 0 [.ref 67, .int x1, .int x2, .int x3, .int x4, .int x5] [] s Q := by
  refine b_X11_offers_0 hP hm ?_
  rw [hls.1, nI_clamp (by omega)]
  have hv : vp_in (nI ls.length) 2060 := vp_in_nI hlen (by decide)
  refine ⟨hv, hv, hv, hv, hv, ?_⟩
  rw [nI_1]
  refine h _ ⟨?_, fun i l hi => ?_⟩ (fr_wF rfl (fr_wI rfl (fr_wI rfl (fr_wI rfl (fr_wI rfl (fr_wI rfl (fr_refl s)))))))
  · rw [F_eq, List.length_append]
    rfl
  · rw [rw_I_wF]
    by_cases e : i = ls.length
    · rw [e, List.getElem?_append_right (Nat.le_refl _), Nat.sub_self] at hi
      simp only [List.getElem?_cons_zero, Option.some.injEq] at hi
      subst hi
      rw [e]
      refine ⟨?_, ?_, ?_, ?_, ?_⟩
      · rw [I_ne _ _ (Or.inl (by decide)), I_ne _ _ (Or.inl (by decide)), I_ne _ _ (Or.inl (by decide)), I_ne _ _ (Or.inl (by decide)), I_eq]
        exact e1
      · rw [I_ne _ _ (Or.inl (by decide)), I_ne _ _ (Or.inl (by decide)), I_ne _ _ (Or.inl (by decide)), I_eq]
        exact e2
      · rw [I_ne _ _ (Or.inl (by decide)), I_ne _ _ (Or.inl (by decide)), I_eq]
        exact e3
      · rw [I_ne _ _ (Or.inl (by decide)), I_eq]
        exact e4
      · rw [I_eq]
        exact e5
    · have hlt : i < ls.length := by
        have := (List.getElem?_eq_some_iff.mp hi).1
        rw [List.length_append] at this
        simp only [List.length_cons, List.length_nil] at this
        omega
      rw [List.getElem?_append_left hlt] at hi
      have := hls.2 i l hi
      rw [I_ne _ _ (Or.inr e), I_ne _ _ (Or.inr e), I_ne _ _ (Or.inr e), I_ne _ _ (Or.inr e), I_ne _ _ (Or.inr e), I_ne _ _ (Or.inr e), I_ne _ _ (Or.inr e), I_ne _ _ (Or.inr e), I_ne _ _ (Or.inr e), I_ne _ _ (Or.inr e), I_ne _ _ (Or.inr e), I_ne _ _ (Or.inr e), I_ne _ _ (Or.inr e), I_ne _ _ (Or.inr e), I_ne _ _ (Or.inr e), I_ne _ _ (Or.inr e), I_ne _ _ (Or.inr e), I_ne _ _ (Or.inr e), I_ne _ _ (Or.inr e), I_ne _ _ (Or.inr e), I_ne _ _ (Or.inr e), I_ne _ _ (Or.inr e), I_ne _ _ (Or.inr e), I_ne _ _ (Or.inr e), I_ne _ _ (Or.inr e)]
      exact this
def mk6 (x y st b u c : Nat) : mv_T := (6, [(x, u, c), (y, st - u, b - c)], nI u, nI c)
theorem sp_fillSplits (hP : gc_Cl P) (hm : gc_Mo P) (hd : 2 ≤ d) {x y : Nat} (hst : st < 256) (hb : b < 8) (hls : mvR [] s)
    (h : ∀ t, mvR ((mv_ss st).flatMap fun u => (mv_bs b).map (mk6 x y st b u)) t → fr (Am 54) BM s t → Q none t) : gc_T P d 0 0 247 0 [.ref 67, .int (nI x), .int (nI y), .int (nI st), .int (nI b), gc_u, gc_u, gc_u] [] s Q := by
  refine b_X11_fillSplits_0 hP hm ?_
  have hall : ((mv_ss st).flatMap fun u => (mv_bs b).map (mk6 x y st b u)).length ≤ 2048 := by
    rw [mv_len5 hst hb]
    exact Nat.mul_le_mul (ssn_le st hst).2 (sb_p2 b hb).2
  have pre : ∀ u, u ≤ st + 1 → (((List.range u).filter (fun u => st_in u st)).flatMap fun u => (mv_bs b).map (mk6 x y st b u)).length ≤ ((mv_ss st).flatMap fun u => (mv_bs b).map (mk6 x y st b u)).length := by
    intro u hu
    obtain ⟨r, hr⟩ : ∃ r, st + 1 = u + r := ⟨st + 1 - u, by omega⟩
    unfold mv_ss
    rw [hr, List.range_add, List.filter_append, List.flatMap_append, List.length_append]
    omega
  have hS : ∀ u, ((List.range (u + 1)).filter (fun u => st_in u st)).flatMap (fun u => (mv_bs b).map (mk6 x y st b u)) = ((List.range u).filter (fun u => st_in u st)).flatMap (fun u => (mv_bs b).map (mk6 x y st b u)) ++ (if st_in u st = true then (mv_bs b).map (mk6 x y st b u) else []) := by
    intro u
    rw [List.range_succ, List.filter_append, List.flatMap_append]
    by_cases e : st_in u st = true
    · rw [if_pos e]
      simp [e]
    · rw [if_neg e]
      simp [e]
  have key : ∀ n u, u + n = st + 1 → ∀ t (l6 l7 : Value), mvR (((List.range u).filter (fun u => st_in u st)).flatMap fun u => (mv_bs b).map (mk6 x y st b u)) t → fr (Am 54) BM s t → gc_T P d 0 0 247 3 [.ref 67, .int (nI x), .int (nI y), .int (nI st), .int (nI b), .int (nI u), l6, l7] [] t Q := by
    intro n
    induction n with
    | zero =>
      intro u hu t l6 l7 t1 t2
      refine b_X11_fillSplits_3 hP hm (pk_lt st u (fun _ => h t ?_ t2) (fun z => by omega))
      unfold mv_ss
      rw [show st + 1 = u by omega]
      exact t1
    | succ n ih =>
      intro u hu t l6 l7 t1 t2
      have hSu := hS u
      refine b_X11_fillSplits_3 hP hm (pk_lt st u (fun z => by omega) (fun _ => ⟨by omega, sp_less hP hm hst (by omega) ?_⟩))
      unfold st_less
      by_cases hin : st_in u st = true
      · rw [if_pos hin]
        rw [if_pos hin] at hSu
        have hpu := pre (u + 1) (by omega)
        rw [hSu, List.length_append] at hpu
        have hlb : (mv_bs b).length ≤ 8 := by
          rw [mv_bs_eq b hb]
          simp only [List.length_map, List.length_range]
          exact (sb_p2 b hb).2
        refine ⟨fun _ => ?_, fun z => absurd z (m1_ne (by omega))⟩
        have bS : ∀ c, ((List.range (c + 1)).filter (fun c => sb_in c b)).map (mk6 x y st b u) = ((List.range c).filter (fun c => sb_in c b)).map (mk6 x y st b u) ++ (if sb_in c b = true then [mk6 x y st b u c] else []) := by
          intro c
          rw [List.range_succ, List.filter_append, List.map_append]
          by_cases e : sb_in c b = true
          · rw [if_pos e]
            simp [e]
          · rw [if_neg e]
            simp [e]
        have bpre : ∀ c, c ≤ b + 1 → (((List.range c).filter (fun c => sb_in c b)).map (mk6 x y st b u)).length ≤ ((mv_bs b).map (mk6 x y st b u)).length := by
          intro c hc
          obtain ⟨r, hr⟩ : ∃ r, b + 1 = c + r := ⟨b + 1 - c, by omega⟩
          unfold mv_bs
          rw [hr, List.range_add, List.filter_append, List.map_append, List.length_append]
          omega
        have inner : ∀ n c, c + n = b + 1 → ∀ t, mvR ((((List.range u).filter (fun u => st_in u st)).flatMap fun u => (mv_bs b).map (mk6 x y st b u)) ++ ((List.range c).filter (fun c => sb_in c b)).map (mk6 x y st b u)) t → fr (Am 54) BM s t → gc_T P d 0 0 247 29 [.ref 67, .int (nI x), .int (nI y), .int (nI st), .int (nI b), .int (nI u), .int (nI (st - u)), .int (nI c)] [] t Q := by
          intro n
          induction n with
          | zero =>
            intro c hc t t1 t2
            refine b_X11_fillSplits_29 hP hm (pk_lt b c (fun _ => b_X11_fillSplits_81 hP hm ?_) (fun z => by omega))
            rw [nI_1]
            refine ih (u + 1) (by omega) t _ _ ?_ t2
            rw [hSu]
            unfold mv_bs at t1 ⊢
            rw [show b + 1 = c by omega] at t1 ⊢
            exact t1
          | succ n ih2 =>
            intro c hc t t1 t2
            have hSc := bS c
            refine b_X11_fillSplits_29 hP hm (pk_lt b c (fun z => by omega) (fun _ => ?_))
            rw [st_subI c (by omega) b hb]
            cases hcb : sb_in c b with
            | false =>
              rw [hcb] at hSc
              refine ⟨fun _ => b_X11_fillSplits_75 hP hm ?_, fun z => absurd z (by decide)⟩
              rw [nI_1]
              refine ih2 (c + 1) (by omega) t ?_ t2
              rw [hSc, if_neg (by decide), List.append_nil]
              exact t1
            | true =>
              rw [hcb, if_pos rfl] at hSc
              have hcle := (sb_le b hb c (by omega) hcb).1
              have hb1 := bpre (c + 1) (by omega)
              rw [hSc, List.length_append, List.length_singleton] at hb1
              refine ⟨fun z => absurd rfl z, fun _ => ⟨by omega, sp_spot hP hm ⟨by omega, ?_⟩⟩⟩
              rw [pk_sub hcle]
              refine sp_spot hP hm ⟨by omega, sp_offers hP hm (m := mk6 x y st b u c) t1 (by rw [List.length_append]; omega) rfl rfl rfl rfl rfl fun w w1 w2 => b_X11_fillSplits_75 hP hm ?_⟩
              rw [nI_1]
              refine ih2 (c + 1) (by omega) w ?_ (fr_trans t2 w2)
              rw [hSc, ← List.append_assoc]
              exact w1
        refine inner (b + 1) 0 (by omega) t ?_ t2
        rw [show ((List.range 0).filter (fun c => sb_in c b)).map (mk6 x y st b u) = [] from rfl, List.append_nil]
        exact t1
      · rw [if_neg hin]
        rw [if_neg hin, List.append_nil] at hSu
        refine ⟨fun z => absurd rfl z, fun _ => b_X11_fillSplits_81 hP hm ?_⟩
        rw [nI_1]
        refine ih (u + 1) (by omega) t _ _ ?_ t2
        rw [hSu]
        exact t1
  exact key (st + 1) 0 (by omega) s _ _ hls (fr_refl s)
theorem fl_SS {α : Type} (f : Nat → Option α) (k : Nat) : (List.range (k + 1)).filterMap f = (List.range k).filterMap f ++ (f k).toList := by
  rw [List.range_succ, List.filterMap_append]
  cases e : f k with
  | none => simp [e]
  | some m => simp [e]
theorem fl_le {α : Type} (f : Nat → Option α) (k : Nat) : ((List.range k).filterMap f).length ≤ k := Nat.le_trans (List.length_filterMap_le _ _) (by rw [List.length_range]; exact Nat.le_refl _)
theorem sp_fillUses (hP : gc_Cl P) (hm : gc_Mo P) (hd : 2 ≤ d) (hl : rf_law W lv s) (ho : o < 8) (hF : gc_F s 67 53 = nI o) (hp : p < ld_p W) (hst : st < ld_N W) (hb : b < 2 ^ ld_b W) {ls : List mv_T} (hls : mvR ls s) (hlen : ls.length ≤ 2048)
    (h : ∀ t, mvR (ls ++ ((List.range (ld_o W)).filterMap (mv_oath W o p st b) ++ (List.range (ld_b W)).filterMap (mv_barg W p st b))) t → fr (Am 54) BM s t → Q none t) : gc_T P d 0 0 248 0 [.ref 67, .int (nI p), .int (nI st), .int (nI b), gc_u, gc_u, gc_u, gc_u] [] s Q := by
  have hok := hl.1.2.2
  have hp24 := hok.1.2.2.2.2
  have hN := ld_N_le hok
  have hlv := hl.1.1
  have o3 := hok.1.2.1
  have b3 := hok.1.2.2.1
  have hb8 := p8 b3 hb
  refine b_X11_fillUses_0 hP hm ?_
  have hL : ∀ t, fr (Am 54) BM s t → rf_law W lv t ∧ gc_F t 67 53 = nI o := fun t g => ⟨rf_54 hl g, (fr_F g rfl).trans hF⟩
  have l2 : ∀ n k, k + n = ld_b W → ∀ t (l5 l6 l7 : Value), mvR (ls ++ ((List.range (ld_o W)).filterMap (mv_oath W o p st b) ++ (List.range k).filterMap (mv_barg W p st b))) t → fr (Am 54) BM s t → gc_T P d 0 0 248 100 [.ref 67, .int (nI p), .int (nI st), .int (nI b), .int (nI k), l5, l6, l7] [] t Q := by
    intro n
    induction n with
    | zero =>
      intro k hk t l5 l6 l7 t1 t2
      obtain ⟨g1, g2⟩ := hL t t2
      refine b_X11_fillUses_100 hP hm ?_
      rw [g1.1.2.1, nI_clamp (by omega), g1.2.1.2.2.1]
      refine ⟨vp_in_nI hlv (by omega), pk_le (ld_b W) k (fun _ => h t ?_ t2) (fun z => by omega)⟩
      rw [show ld_b W = k by omega]
      exact t1
    | succ n ih =>
      intro k hk t l5 l6 l7 t1 t2
      obtain ⟨g1, g2⟩ := hL t t2
      have hS := fl_SS (mv_barg W p st b) k
      have hdl : ld_dl W (3 + k) := Or.inr ⟨by omega, by omega⟩
      obtain ⟨d1, d2, d3⟩ := hok.2.1 (3 + k) hdl
      obtain ⟨c1, c2, c3⟩ := g1.2.2.2.2.1 k (by omega)
      have hlo := fl_le (mv_oath W o p st b) (ld_o W)
      have hlk := fl_le (mv_barg W p st b) k
      have skip : mv_barg W p st b k = none → ∀ (l5 : Int32) (l6 l7 : Value), gc_T P d 0 0 248 267 [.ref 67, .int (nI p), .int (nI st), .int (nI b), .int (nI k), .int l5, l6, l7] [] t Q := by
        intro e l5 l6 l7
        refine b_X11_fillUses_267 hP hm ?_
        rw [nI_1]
        refine ih (k + 1) (by omega) t _ _ _ ?_ t2
        rw [hS, e, Option.toList_none, List.append_nil]
        exact t1
      have put : ∀ m, mv_barg W p st b k = some m → ∀ (l5 l6 l7 x2 x3 : Int32), x2 = mtI m → x3 = meI m → m.1 = 20 + k → m.2.2.1 = -1 → m.2.2.2 = -1 → gc_T P d 0 0 248 262 [.ref 67, .int (nI p), .int (nI st), .int (nI b), .int (nI k), .int l5, .int l6, .int l7] [.int x3, .int x2, .int ((20 : Int32) + nI k), .ref 67] t Q := by
        intro m e l5 l6 l7 x2 x3 e2 e3 em e4 e5
        refine b_X11_fillUses_262 hP hm ⟨by omega, ?_⟩
        rw [st_lit 20, nI_add]
        refine sp_offers hP hm t1 (by rw [List.length_append, List.length_append]; omega) (by rw [em]) e2 e3 e4.symm e5.symm fun w w1 w2 => b_X11_fillUses_267 hP hm ?_
        rw [nI_1]
        refine ih (k + 1) (by omega) w _ _ _ ?_ (fr_trans t2 w2)
        rw [hS, e, Option.toList_some, ← List.append_assoc, ← List.append_assoc]
        rw [← List.append_assoc] at w1
        exact w1
      refine b_X11_fillUses_100 hP hm ?_
      rw [g1.1.2.1, nI_clamp (by omega), g1.2.1.2.2.1]
      refine ⟨vp_in_nI hlv (by omega), pk_le (ld_b W) k (fun z => by omega) (fun _ => ?_)⟩
      rw [st_bitI (by omega) (by omega), st_lit 3, pk_mul, nI_add, nI_clamp (by omega), c1, c2]
      refine ⟨fun hbit => ?_, fun hbit => skip (by rw [mv_barg_do, if_neg hbit]) _ _ _⟩
      have hbit : b / 2 ^ k % 2 = 1 := by omega
      refine ⟨vp_in_nI (by omega) (by omega), vp_in_nI (by omega) (by omega), by omega, sp_changed hP hm (by omega) (by omega) (by omega) (by omega) ⟨vp_in_nI (by omega) (by omega), ?_⟩⟩
      rw [c1, c3, st_ch_dp]
      have hmv := mv_barg_do (W := W) (p := p) (s := st) (b := b) (k := k)
      rw [if_pos hbit] at hmv
      unfold ld_do at hmv
      cases hx : ld_ot W (3 + k) with
      | zero =>
        rw [hx] at hmv
        refine ⟨fun z => absurd rfl z, fun _ => b_X11_fillUses_190 hP hm ?_⟩
        rw [nI_clamp (by omega), c3, hx]
        cases e : dp_ch st (ld_tk W (3 + k)) (ld_gv W (3 + k)) with
        | none =>
          rw [e] at hmv
          exact ⟨fun _ => skip hmv _ _ _, fun z => absurd rfl z⟩
        | some t' =>
          rw [e] at hmv
          have ht := dp_ch_N hok hst d2 e
          refine ⟨fun z => absurd z (m1_ne (by omega)), fun _ => ⟨vp_in_nI (by omega) (by omega), fun _ => b_X11_fillUses_218 hP hm ⟨by omega, ?_⟩, fun z => absurd rfl z⟩⟩
          rw [st_clr b hb8 k (by omega) hbit]
          exact sp_spot hP hm ⟨fun z => absurd rfl z, fun _ => put _ hmv _ _ _ _ _ rfl rfl rfl rfl rfl⟩
      | succ x =>
        rw [hx] at hmv
        refine ⟨fun _ => ⟨vp_in_nI (by omega) (by omega), vp_in_nI (by omega) (by omega), by omega, sp_changed hP hm (by omega) (by omega) (by omega) (show x < 256 by omega) ?_⟩, fun z => absurd z (m1_ne (show x < 2 ^ 31 by omega))⟩
        refine b_X11_fillUses_190 hP hm ?_
        rw [nI_clamp (by omega), c3, hx, st_ch_dp]
        cases e : dp_ch st (ld_tk W (3 + k)) (ld_gv W (3 + k)) with
        | none =>
          rw [e] at hmv
          exact ⟨fun _ => skip hmv _ _ _, fun z => absurd rfl z⟩
        | some t' =>
          rw [e] at hmv
          have ht := dp_ch_N hok hst d2 e
          refine ⟨fun z => absurd z (m1_ne (by omega)), fun _ => ⟨vp_in_nI (by omega) (by omega), fun z => absurd z (m1_ne (show x < 2 ^ 31 by omega)), fun _ => ?_⟩⟩
          cases e2 : dp_ch st (ld_tk W (3 + k)) x with
          | none =>
            simp only [e2, Option.map_none] at hmv
            exact ⟨fun z => absurd rfl z, fun _ => skip hmv _ _ _⟩
          | some t3 =>
            simp only [e2, Option.map_some] at hmv
            have ht3 := dp_ch_N hok hst (show x < ld_N W by omega) e2
            refine ⟨fun _ => b_X11_fillUses_218 hP hm ⟨by omega, ?_⟩, fun z => absurd z (m1_ne (by omega))⟩
            rw [st_clr b hb8 k (by omega) hbit]
            exact sp_spot hP hm ⟨fun _ => ⟨by omega, sp_spot hP hm (put _ hmv _ _ _ _ _ rfl rfl rfl rfl rfl)⟩, fun z => absurd z (m1_ne (by omega))⟩
  have l1 : ∀ n k, k + n = ld_o W → ∀ t (l5 : Value), mvR (ls ++ (List.range k).filterMap (mv_oath W o p st b)) t → fr (Am 54) BM s t → gc_T P d 0 0 248 3 [.ref 67, .int (nI p), .int (nI st), .int (nI b), .int (nI k), l5, gc_u, gc_u] [] t Q := by
    intro n
    induction n with
    | zero =>
      intro k hk t l5 t1 t2
      obtain ⟨g1, g2⟩ := hL t t2
      refine b_X11_fillUses_3 hP hm ?_
      rw [g1.1.2.1, nI_clamp (by omega), g1.2.1.2.1]
      refine ⟨vp_in_nI hlv (by omega), pk_le (ld_o W) k (fun _ => ?_) (fun z => by omega)⟩
      refine l2 (ld_b W) 0 (by omega) t _ _ _ ?_ t2
      rw [show (List.range 0).filterMap (mv_barg W p st b) = [] from rfl, List.append_nil, show ld_o W = k by omega]
      exact t1
    | succ n ih =>
      intro k hk t l5 t1 t2
      obtain ⟨g1, g2⟩ := hL t t2
      have hS := fl_SS (mv_oath W o p st b) k
      obtain ⟨d1, d2, d3⟩ := hok.2.1 k (Or.inl (by omega))
      obtain ⟨c1, c2⟩ := g1.2.2.2.1 k (by omega)
      have hlk := fl_le (mv_oath W o p st b) k
      have skip : mv_oath W o p st b k = none → ∀ (l5 : Value), gc_T P d 0 0 248 91 [.ref 67, .int (nI p), .int (nI st), .int (nI b), .int (nI k), l5, gc_u, gc_u] [] t Q := by
        intro e l5
        refine b_X11_fillUses_91 hP hm ?_
        rw [nI_1]
        refine ih (k + 1) (by omega) t _ ?_ t2
        rw [hS, e, Option.toList_none, List.append_nil]
        exact t1
      refine b_X11_fillUses_3 hP hm ?_
      rw [g1.1.2.1, g2, nI_clamp (by omega), g1.2.1.2.1]
      refine ⟨vp_in_nI hlv (by omega), pk_le (ld_o W) k (fun z => by omega) (fun _ => ?_)⟩
      rw [st_bitI (by omega) (by omega), st_lit 3, pk_mul, nI_add, nI_clamp (by omega), c1, c2]
      refine ⟨fun hbit => ?_, fun hbit => skip (by unfold mv_oath; rw [if_neg hbit]) _⟩
      have hbit : o / 2 ^ k % 2 = 1 := by omega
      refine ⟨vp_in_nI (by omega) (by omega), vp_in_nI (by omega) (by omega), by omega, sp_changed hP hm (by omega) (by omega) (by omega) (by omega) ?_⟩
      have hmv : mv_oath W o p st b k = (dp_ch st (ld_tk W k) (ld_gv W k)).map (fun t => (10 + k, [(p, t, b)], -1, -1)) := by
        unfold mv_oath
        rw [if_pos hbit]
      rw [st_ch_dp]
      cases e : dp_ch st (ld_tk W k) (ld_gv W k) with
      | none =>
        rw [e] at hmv
        exact ⟨fun _ => skip hmv _, fun z => absurd rfl z⟩
      | some t' =>
        rw [e] at hmv
        have hmv : mv_oath W o p st b k = some (10 + k, [(p, t', b)], -1, -1) := hmv
        have ht := dp_ch_N hok hst d2 e
        refine ⟨fun z => absurd z (m1_ne (by omega)), fun _ => ⟨by omega, sp_spot hP hm ⟨by omega, ?_⟩⟩⟩
        rw [st_lit 10, nI_add]
        refine sp_offers hP hm (m := (10 + k, [(p, t', b)], -1, -1)) t1 (by rw [List.length_append]; omega) rfl rfl rfl rfl rfl fun w w1 w2 => b_X11_fillUses_91 hP hm ?_
        rw [nI_1]
        refine ih (k + 1) (by omega) w _ ?_ (fr_trans t2 w2)
        rw [hS, hmv, Option.toList_some, ← List.append_assoc]
        exact w1
  refine l1 (ld_o W) 0 (by omega) s _ ?_ (fr_refl s)
  rw [show (List.range 0).filterMap (mv_oath W o p st b) = [] from rfl, List.append_nil]
  exact hls
theorem sp_fillMoves (hP : gc_Cl P) (hm : gc_Mo P) (hd : 3 ≤ d) (hl : rf_law W lv s) (ho : o < 8) (hF : gc_F s 67 53 = nI o) (hp : p < ld_p W) (hst : st < ld_N W) (hb : b < 2 ^ ld_b W)
    (h : ∀ t, mvR (mv_all W o p st b) t → fr (Am 54) BM s t → Q none t) : gc_T P d 0 0 246 0 [.ref 67, .int (nI p), .int (nI st), .int (nI b), gc_u, gc_u, gc_u] [] s Q := by
  have hok := hl.1.2.2
  have hp24 := hok.1.2.2.2.2
  have hN := ld_N_le hok
  have hg4 := hok.1.1
  have hb8 := p8 hok.1.2.2.1 hb
  have hpt := hok.2.2.2.2.2 p hp
  have hk7 : ld_kd W p ≤ 7 := by
    unfold ld_pt at hpt
    omega
  have g0 : fr (Am 54) BM s (gc_wF s 67 54 0) := fr_wF rfl (fr_refl s)
  have m0 : mvR [] (gc_wF s 67 54 0) := ⟨F_eq _ _ _ _, fun i m hi => by simp at hi⟩
  have l0 := rf_54 hl g0
  have hlen := mv_own_len (p := p) hok hst hb8
  have fin : ∀ t, mvR (mv_own W p st b) t → fr (Am 54) BM (gc_wF s 67 54 0) t → ∀ (x y : Int32) (l6 : Value), gc_T P d 0 0 246 242 [.ref 67, .int (nI p), .int (nI st), .int (nI b), .int x, .int y, l6] [] t Q := by
    intro t t1 t2 x y l6
    have g := fr_trans g0 t2
    refine b_X11_fillMoves_242 hP hm ⟨by omega, sp_fillUses hP hm (by omega) (rf_54 hl g) ho ((fr_F g rfl).trans hF) hp hst hb t1 hlen fun u u1 u2 => h u ?_ (fr_trans g u2)⟩
    unfold mv_all
    exact u1
  have ef : 3 ≤ ld_kd W p ∨ ld_kd W p = 0 → ld_fI W p = nI (ld_fi W p) := by
    intro z
    unfold ld_fI
    rw [if_neg (by omega)]
  have es : ld_kd W p = 3 ∨ ld_kd W p = 4 ∨ ld_kd W p = 5 ∨ ld_kd W p = 7 → ld_sI W p = nI (ld_se W p) := by
    intro z
    unfold ld_sI
    rw [if_pos z]
  refine b_X11_fillMoves_0 hP hm ⟨by omega, sp_mfirst hP hm l0 hp ⟨by omega, sp_msecond hP hm l0 hp ⟨by omega, sp_mkind hP hm l0 hp ?_⟩⟩⟩
  show _ ∧ _
  rw [nI_toInt (by omega)]
  refine ⟨fun z => ?_, fun z => ?_, fun z => ?_, fun z => ?_, fun z => ?_, fun z => ?_, fun z => ?_, fun z => ?_⟩
  · have hk : ld_kd W p = 0 := by omega
    have hf : ld_fi W p < ld_g W := by
      unfold ld_pt at hpt
      omega
    have hx : 4 ^ ld_fi W p < 256 := Nat.lt_of_lt_of_le (Nat.pow_lt_pow_right (by decide) hf) hN
    rw [ef (by omega), ld_shN (by omega), nI_eq (by omega) (by omega)]
    refine ⟨fun y => fin _ (by rw [mv_own_0 hk, if_neg y]; exact m0) (fr_refl _) _ _ _, fun y => ⟨by omega, sp_offers hP hm (m := (0, [], -1, -1)) m0 (by decide) rfl rfl rfl rfl rfl fun t t1 t2 => fin t (by rw [mv_own_0 hk, if_pos y]; exact t1) t2 _ _ _⟩⟩
  · have hk : ld_kd W p = 1 := by omega
    rw [show (0 : Int32) = nI 0 from rfl, nI_eq (by omega) (by omega)]
    refine ⟨fun y => fin _ (by rw [mv_own_1 hk, if_neg y]; exact m0) (fr_refl _) _ _ _, fun y => ⟨by omega, sp_offers hP hm (m := (1, [], -1, -1)) m0 (by decide) rfl rfl rfl rfl rfl fun t t1 t2 => fin t (by rw [mv_own_1 hk, if_pos y]; exact t1) t2 _ _ _⟩⟩
  · exact ⟨by omega, sp_offers hP hm (m := (2, [], -1, -1)) m0 (by decide) rfl rfl rfl rfl rfl fun t t1 t2 => fin t (by rw [mv_own_2 (by omega)]; exact t1) t2 _ _ _⟩
  · have hk : ld_kd W p = 3 := by omega
    rw [ef (by omega), es (by omega)]
    refine ⟨by omega, sp_spot hP hm ⟨by omega, sp_offers hP hm (m := (3, [(ld_fi W p, st, b)], -1, -1)) m0 (by decide) rfl rfl rfl rfl rfl fun t t1 t2 => ⟨by omega, sp_spot hP hm ⟨by omega, sp_offers hP hm (m := (4, [(ld_se W p, st, b)], -1, -1)) t1 (by show 1 < 2060; decide) rfl rfl rfl rfl rfl fun u u1 u2 => fin u (by rw [mv_own_3 hk]; exact u1) (fr_trans t2 u2) _ _ _⟩⟩⟩⟩
  · have hk : ld_kd W p = 4 := by omega
    rw [ef (by omega), es (by omega)]
    exact ⟨by omega, sp_spot hP hm ⟨by omega, sp_spot hP hm ⟨by omega, sp_offers hP hm (m := (5, [(ld_fi W p, st, b), (ld_se W p, st, b)], -1, -1)) m0 (by decide) rfl rfl rfl rfl rfl fun t t1 t2 => fin t (by rw [mv_own_4 hk]; exact t1) t2 _ _ _⟩⟩⟩
  · have hk : ld_kd W p = 5 := by omega
    rw [ef (by omega), es (by omega)]
    exact ⟨by omega, sp_fillSplits hP hm (by omega) (by omega) hb8 m0 fun t t1 t2 => fin t (by rw [mv_own_5 hk]; exact t1) t2 _ _ _⟩
  · have hk : ld_kd W p = 6 := by omega
    rw [ef (by omega), show (0 : Int32) = nI 0 from rfl, nI_eq (by omega) (by omega)]
    refine ⟨fun y => fin _ (by rw [mv_own_6 hk, if_neg y]; exact m0) (fr_refl _) _ _ _, fun y => ⟨by omega, sp_spot hP hm ⟨by omega, sp_offers hP hm (m := (7, [(ld_fi W p, 0, 0)], -1, -1)) m0 (by decide) rfl rfl rfl rfl rfl fun t t1 t2 => fin t (by rw [mv_own_6 hk, if_pos y]; exact t1) t2 _ _ _⟩⟩⟩
  · have hk : ld_kd W p = 7 := by omega
    have hsN := (ld_part hok hp (by omega)).2.2.2.2 hk
    rw [ef (by omega), es (by omega)]
    refine ⟨by omega, sp_plus hP hm (by omega) (by omega) ?_⟩
    unfold st_plus
    by_cases y : st_fit st (ld_se W p) = true
    · rw [if_pos y]
      have hlt := ld_lt hok hst hsN y
      exact ⟨fun y => absurd y (m1_ne (by omega)), fun _ => ⟨by omega, sp_spot hP hm ⟨by omega, sp_offers hP hm (m := (8, [(ld_fi W p, st + ld_se W p, b)], -1, -1)) m0 (by decide) rfl rfl rfl rfl rfl fun t t1 t2 => fin t (by rw [mv_own_7 hk, if_pos y]; exact t1) t2 _ _ _⟩⟩⟩
    · rw [if_neg y]
      exact ⟨fun _ => fin _ (by rw [mv_own_7 hk, if_neg y]; exact m0) (fr_refl _) _ _ _, fun y => absurd rfl y⟩
end Ml
