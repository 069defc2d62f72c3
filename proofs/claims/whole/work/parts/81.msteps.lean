/-! The reference: steps, step, lots, sit, now, go. -/
def SA (q k : Nat) : Bool := RA q k || (Nat.beq q 67 && (Nat.beq k 77 || Nat.beq k 79))
def SB (a : Nat) : Bool := RB a || Nat.beq a 111
theorem SA_iff {q k : Nat} : SA q k = true ↔ (q = 67 ∧ (k = 53 ∨ k = 54 ∨ k = 60 ∨ k = 75 ∨ k = 76)) ∨ (q = 67 ∧ (k = 77 ∨ k = 79)) := by
  unfold SA
  simp only [Bool.and_eq_true, Bool.or_eq_true, Nat.beq_eq, RA_iff]
theorem SB_iff {a : Nat} : SB a = true ↔ ((100 ≤ a ∧ a ≤ 106) ∨ a = 110) ∨ a = 111 := by
  unfold SB
  simp only [Bool.or_eq_true, Nat.beq_eq, RB_iff]
theorem SA_RA {s t : gc_St} (g : fr RA RB s t) : fr SA SB s t := fr_up g (fun _ _ z => SA_iff.mpr (Or.inl (RA_iff.mp z))) (fun _ z => SB_iff.mpr (Or.inl (RB_iff.mp z)))
section Rs
variable {P : gc_Pr} {d : Nat} {s : gc_St} {Q : gc_TQ} {W : ld_W} {lv o p st b : Nat} {h : Nat × Nat × Nat} {K : List (Nat × Nat × Nat)}
theorem sp_claimPlace (hP : gc_Cl P) (hm : gc_Mo P) (hd : 1 ≤ d) (hl : rf_law W lv s) (hh : rqh h s) {k : Nat} (hk : k < ld_c W) (hQ : Q (some (.int (nI (sp3 (ld_ro W k) h.1 h.2.2)))) s) : gc_T P d 0 0 255 0 [.ref 67, .int (nI k)] [] s Q := by
  have hok := hl.1.2.2
  have hlv := hl.1.1
  have hc6 := hok.1.2.2.2.1
  refine b_X11_claimPlace_0 hP hm ?_
  rw [hl.1.2.1, st_lit 6, pk_mul, nI_add, nI_clamp (by omega), (hl.2.2.2.2.2.1 k hk).2, hh.1, hh.2.2]
  exact ⟨vp_in_nI (by omega) (by omega), hd, sp_spot hP hm hQ⟩
theorem sp_told (hP : gc_Cl P) (hm : gc_Mo P) (hok : ld_ok W) (hp : p < ld_p W) (hst : st < ld_N W) (hb : b < 8) (hD : dp_D W o p st b ≠ 0) (hls : mvR (mv_all W o p st b) s) {w : Nat} (hw : w < 6) (hQ : Q (some (.int (mv_tell p st b (mv_best W o p st b) w))) s) : gc_T P d 0 0 257 0 [.ref 67, .int (nI (sp3 p st b)), .int (nI (mv_bi W o p st b)), .int (nI w)] [] s Q := by
  have hp24 := hok.1.2.2.2.2
  have hN := ld_N_le hok
  obtain ⟨c1, c2, c3⟩ := sp3_dec (show p < 24 by omega) (show st < 256 by omega) hb
  obtain ⟨b1, _, _⟩ := mv_best_at (o := o) hok hp hst hb hD
  have hlt := mv_bi_lt (o := o) hok hp hst hb hD
  have hle := mv_all_le (o := o) (p := p) hok hst hb
  obtain ⟨f1, _, _, f4, f5⟩ := hls.2 _ _ b1
  have hv : vp_in (nI (mv_bi W o p st b)) 2060 := vp_in_nI (by omega) (by decide)
  refine b_X11_told_0 hP hm ?_
  rw [c2, c3, c1, nI_clamp (by omega), f1, f4, f5, nI_toInt (by omega)]
  refine ⟨fun z => ⟨hv, ?_⟩, fun z => ?_, fun z => ?_, fun z => ?_, fun z => ⟨hv, ?_⟩, fun z => ⟨hv, ?_⟩⟩
  · obtain rfl : w = 0 := by omega
    exact hQ
  · obtain rfl : w = 1 := by omega
    exact hQ
  · obtain rfl : w = 2 := by omega
    exact hQ
  · obtain rfl : w = 3 := by omega
    exact hQ
  · obtain rfl : w = 4 := by omega
    exact hQ
  · obtain rfl : w = 5 := by omega
    exact hQ
theorem wkB_1 (hb : b < 2 ^ ld_b W) : wkB W [(p, st, b)] := by
  intro l hl
  simp only [List.mem_singleton] at hl
  subst hl
  exact hb
theorem wkB_n (hok : ld_ok W) : ∀ {K : List (Nat × Nat × Nat)} {l : Nat × Nat × Nat}, wkI W o (l :: K) → wkB W (l :: K) → wkB W ((mv_best W o l.1 l.2.1 l.2.2).2.1 ++ K) := by
  intro K l hI hB k hk
  exact wkB_step hok hI hB (List.mem_append.mp hk)
theorem sp_msteps (hP : gc_Cl P) (hm : gc_Mo P) (hd : 7 ≤ d) (hq : rq W lv h s) {c : Int32} (h1 : ∀ k t, k < ld_c W → c = nI k → rq W lv h t → fr RA RB s t → Q (some (.int (an_ss W h (ld_ro W k)))) t) (h2 : (∀ k, k < ld_c W → c ≠ nI k) → Q (some (.int (-1))) s) : gc_T P d 0 0 256 0 [.ref 67, .int c, gc_u, gc_u] [] s Q := by
  obtain ⟨b1, b2, hok⟩ := rq_b hq
  refine b_X11_steps_0 hP hm ⟨by omega, sp_isClaim hP hm (by omega) hq.1 (fun k hk e => ⟨fun _ => ⟨by omega, ?_⟩, fun w => absurd w (by decide)⟩) (fun e => ⟨fun w => absurd rfl w, fun _ => h2 e⟩)⟩
  rw [hq.2.2.1.2.1]
  refine sp_fillsH hP hm (by omega) hq b1 fun t t1 t2 t3 => ⟨by omega, ?_⟩
  have hfin := fun u => h1 k u hk e
  have hr := ld_root hok hk
  rw [e]
  refine sp_claimPlace hP hm (by omega) t1.1 t2.2.2.1 hk ?_
  obtain ⟨c1, c2, c3⟩ := rtt_at t1 hr.1 hq.2.2.2.1 hq.2.2.2.2.2
  refine ⟨c1, ?_⟩
  rw [c2, show (0 : Int32) = nI 0 from rfl, nI_eq (by omega) (by omega)]
  unfold an_ss at hfin
  refine ⟨fun hD => ⟨by omega, ?_⟩, fun hD => ?_⟩
  · have g0 : fr (Am 60) (Bm 106) t (gc_wF t 67 60 (nI 0)) := fr_wF rfl (fr_refl t)
    have w0 : mP 60 106 [] (gc_wF t 67 60 (nI 0)) := ⟨F_eq _ _ _ _, fun i k hi => by simp at hi⟩
    have T0 := rw_AP t1 (AP_60 g0)
    have hh0 := rqh_fr t2.2.2.1 (RA_AP (AP_60 g0))
    refine sp_claimPlace hP hm (by omega) T0.1 hh0 hk ⟨by omega, ?_⟩
    refine sp_piles hP hm (l := (ld_ro W k, h.1, h.2.2)) w0 (by decide) fun u u1 u2 => ?_
    have hT := wk_T_le (o := h.2.1) hok hr.1 hq.2.2.2.1 b2 hD
    have key : ∀ n (K : List (Nat × Nat × Nat)) (j : Nat) (x : gc_St) (l3 : Value), wk_T W h.2.1 K ≤ n → j + wk_T W h.2.1 K = wk_T W h.2.1 [(ld_ro W k, h.1, h.2.2)] → rw_T W lv h.2.1 x → fr AP BP t x → mP 60 106 K x → wkI W h.2.1 K → wkB W K → gc_T P d 0 0 256 50 [.ref 67, .int (nI k), .int (nI j), l3] [] x Q := by
      intro n
      induction n with
      | zero =>
        intro K j x l3 hn hj xT g xw xI xB
        have hK : K = [] := by
          cases K with
          | nil => rfl
          | cons l K =>
            have := wk_T_S hok xI
            omega
        subst hK
        refine b_X11_steps_50 hP hm ?_
        rw [xw.1]
        have hj : j = _ := hj
        have g3 := fr_trans t3 (RA_AP g)
        have := hfin x (rq_of b1 hq xT g3) g3
        rw [if_neg hD, ← hj] at this
        exact ⟨fun _ => this, fun y => absurd (by decide) y⟩
      | succ n ih =>
        intro K j x l3 hn hj xT g xw xI xB
        cases K with
        | nil =>
          refine b_X11_steps_50 hP hm ?_
          rw [xw.1]
          have hj : j = _ := hj
          have g3 := fr_trans t3 (RA_AP g)
          have := hfin x (rq_of b1 hq xT g3) g3
          rw [if_neg hD, ← hj] at this
          exact ⟨fun _ => this, fun y => absurd (by decide) y⟩
        | cons l K =>
          have hTS := wk_T_S hok xI
          have e1 : wk_1 W h.2.1 (l :: K) = (mv_best W h.2.1 l.1 l.2.1 l.2.2).2.1 ++ K := rfl
          rw [e1] at hTS
          have hlen := wkI_len xI
          rw [List.length_cons] at hlen
          obtain ⟨y1, y2, y3, y4⟩ := wkI_mem xI List.mem_cons_self
          have hle := mv_all_le (o := h.2.1) (p := l.1) hok y2 y3
          have hlt := mv_bi_lt (o := h.2.1) hok y1 y2 y3 y4
          refine b_X11_steps_50 hP hm ?_
          rw [xw.1, List.length_cons]
          refine pk_le (K.length + 1) 0 (fun z => by omega) (fun _ => ⟨by omega, ?_⟩)
          refine sp_shows hP hm (by omega) xT b1 xw xI xB fun y z1 z2 z3 z4 => ⟨fun _ => b_X11_steps_72 hP hm ?_, fun y => absurd (nI_pos' (by omega)) y⟩
          rw [nI_1]
          exact ih _ (j + 1) y _ (by omega) (by omega) z1 (fr_trans g z4) z2 (wkI_step hok xI).1 (wkB_n hok xI xB)
    exact key (wk_T W h.2.1 [(ld_ro W k, h.1, h.2.2)]) _ 0 u _ (Nat.le_refl _) (Nat.zero_add _) (rw_AP T0 (AP_60 u2)) (fr_trans (AP_60 g0) (AP_60 u2)) u1 (wkI_1 hok hr.1 hq.2.2.2.1 b2 hD) (wkB_1 hq.2.2.2.2.2)
  · have := hfin t t2 t3
    rw [if_pos hD] at this
    exact this
theorem sp_mstep (hP : gc_Cl P) (hm : gc_Mo P) (hd : 7 ≤ d) (hq : rq W lv h s) {c ix wx : Int32} (h1 : ∀ k i w t, k < ld_c W → c = nI k → i < 2 ^ 31 → ix = nI i → w < 6 → wx = nI w → rq W lv h t → fr RA RB s t → Q (some (.int (an_sp W h (ld_ro W k) i w))) t) (h2 : ((∀ k, k < ld_c W → c ≠ nI k) ∨ ix < 0 ∨ (∀ x, x < 6 → wx ≠ nI x)) → Q (some (.int (-1))) s) : gc_T P d 0 0 258 0 [.ref 67, .int c, .int ix, .int wx, gc_u, gc_u, gc_u] [] s Q := by
  obtain ⟨b1, b2, hok⟩ := rq_b hq
  refine b_X11_step_0 hP hm ⟨by omega, sp_isClaim hP hm (by omega) hq.1 (fun k hk e => ⟨fun w => absurd w (by decide), fun _ => ⟨fun z => h2 (Or.inr (Or.inl z)), fun z => ⟨by omega, ?_⟩⟩⟩) (fun e => ⟨fun _ => h2 (Or.inl e), fun w => absurd rfl w⟩)⟩
  obtain ⟨i, hi, ei⟩ := nI_of z
  refine sp_inN hP hm (n := 6) (by decide) (by decide) (fun w hw ew => ⟨fun _ => ⟨by omega, ?_⟩, fun y => absurd y (by decide)⟩) (fun ew => ⟨fun y => absurd rfl y, fun _ => h2 (Or.inr (Or.inr ew))⟩)
  rw [hq.2.2.1.2.1]
  refine sp_fillsH hP hm (by omega) hq b1 fun t t1 t2 t3 => ⟨by omega, ?_⟩
  have hfin := fun u => h1 k i w u hk e hi ei hw ew
  have hr := ld_root hok hk
  rw [e, ei, ew]
  refine sp_claimPlace hP hm (by omega) t1.1 t2.2.2.1 hk ?_
  obtain ⟨c1, c2, c3⟩ := rtt_at t1 hr.1 hq.2.2.2.1 hq.2.2.2.2.2
  refine ⟨c1, ?_⟩
  rw [c2, show (0 : Int32) = nI 0 from rfl, nI_eq (by omega) (by omega)]
  unfold an_sp at hfin
  refine ⟨fun hD => ⟨by omega, ?_⟩, fun hD => ?_⟩
  · have g0 : fr (Am 60) (Bm 106) t (gc_wF t 67 60 (nI 0)) := fr_wF rfl (fr_refl t)
    have w0 : mP 60 106 [] (gc_wF t 67 60 (nI 0)) := ⟨F_eq _ _ _ _, fun i k hi => by simp at hi⟩
    have T0 := rw_AP t1 (AP_60 g0)
    have hh0 := rqh_fr t2.2.2.1 (RA_AP (AP_60 g0))
    refine sp_claimPlace hP hm (by omega) T0.1 hh0 hk ⟨by omega, ?_⟩
    refine sp_piles hP hm (l := (ld_ro W k, h.1, h.2.2)) w0 (by decide) fun u u1 u2 => ?_
    have hT := wk_T_le (o := h.2.1) hok hr.1 hq.2.2.2.1 b2 hD
    have key : ∀ n (K : List (Nat × Nat × Nat)) (j r : Nat) (x : gc_St) (l5 l6 : Value), wk_T W h.2.1 K ≤ n → j + wk_T W h.2.1 K ≤ 92160 → j + r = i → wk_n W h.2.1 r K = wk_n W h.2.1 i [(ld_ro W k, h.1, h.2.2)] → rw_T W lv h.2.1 x → fr AP BP t x → mP 60 106 K x → wkI W h.2.1 K → wkB W K → gc_T P d 0 0 258 63 [.ref 67, .int (nI k), .int (nI i), .int (nI w), .int (nI j), l5, l6] [] x Q := by
      intro n
      have nil : ∀ (j r : Nat) (x : gc_St) (l5 l6 : Value), wk_n W h.2.1 r [] = wk_n W h.2.1 i [(ld_ro W k, h.1, h.2.2)] → rw_T W lv h.2.1 x → fr AP BP t x → mP 60 106 [] x → gc_T P d 0 0 258 63 [.ref 67, .int (nI k), .int (nI i), .int (nI w), .int (nI j), l5, l6] [] x Q := by
        intro j r x l5 l6 hn xT g xw
        refine b_X11_step_63 hP hm ?_
        rw [xw.1]
        have g3 := fr_trans t3 (RA_AP g)
        have := hfin x (rq_of b1 hq xT g3) g3
        rw [if_neg hD, ← hn, wk_nil] at this
        exact ⟨fun _ => this, fun y => absurd (by decide) y⟩
      induction n with
      | zero =>
        intro K j r x l5 l6 hn hj0 hj hw' xT g xw xI xB
        have hK : K = [] := by
          cases K with
          | nil => rfl
          | cons l K =>
            have := wk_T_S hok xI
            omega
        subst hK
        exact nil j r x l5 l6 hw' xT g xw
      | succ n ih =>
        intro K j r x l5 l6 hn hj0 hj hw' xT g xw xI xB
        cases K with
        | nil => exact nil j r x l5 l6 hw' xT g xw
        | cons l K =>
          have hTS := wk_T_S hok xI
          have e1 : wk_1 W h.2.1 (l :: K) = (mv_best W h.2.1 l.1 l.2.1 l.2.2).2.1 ++ K := rfl
          have hlen := wkI_len xI
          rw [List.length_cons] at hlen
          obtain ⟨y1, y2, y3, y4⟩ := wkI_mem xI List.mem_cons_self
          refine b_X11_step_63 hP hm ?_
          rw [xw.1, List.length_cons, nI_pred, nI_clamp (by omega), xw.2 K.length l rv_top]
          refine pk_le (K.length + 1) 0 (fun z => by omega) (fun _ => ⟨vp_in_nI (by omega) (by decide), by omega, ?_⟩)
          refine sp_shows hP hm (by omega) xT b1 xw xI xB fun y z1 z2 z3 z4 => ⟨fun z => ?_, fun z => ⟨by omega, ?_⟩⟩
          · have hne : j ≠ i := fun q => z (by rw [q])
            obtain ⟨r', rfl⟩ : ∃ r', r = r' + 1 := ⟨r - 1, by omega⟩
            rw [nI_1]
            rw [e1] at hTS
            exact ih ((mv_best W h.2.1 l.1 l.2.1 l.2.2).2.1 ++ K) (j + 1) r' y _ _ (by omega) (by omega) (by omega) hw' z1 (fr_trans g z4) z2 (wkI_step hok xI).1 (wkB_n hok xI xB)
          · have hji : j = i := by
              rw [nI_eq (by omega) (by omega)] at z
              exact z
            have hr0 : r = 0 := by omega
            subst hr0
            have g3 := fr_trans t3 (RA_AP (fr_trans g z4))
            have := hfin y (rq_of b1 hq z1 g3) g3
            rw [if_neg hD, ← hw'] at this
            exact sp_told hP hm hok y1 y2 y3 y4 z3 hw this
    exact key (wk_T W h.2.1 [(ld_ro W k, h.1, h.2.2)]) _ 0 i u _ _ (Nat.le_refl _) (by omega) (Nat.zero_add _) rfl (rw_AP T0 (AP_60 u2)) (fr_trans (AP_60 g0) (AP_60 u2)) u1 (wkI_1 hok hr.1 hq.2.2.2.1 b2 hD) (wkB_1 hq.2.2.2.2.2)
  · have := hfin t t2 t3
    rw [if_pos hD] at this
    exact this
theorem meI_ask {m : mv_T} (hlen : m.2.1.length ≤ 2) (hsp : ∀ l, l ∈ m.2.1 → spt l < 49152) : (meI m = -1 ↔ m.2.1.length ≠ 2) ∧ (mtI m = -1 ↔ m.2.1 = []) := by
  unfold meI mtI
  generalize m.2.1 = ls at hlen hsp
  match ls, hlen, hsp with
  | [], _, _ => exact ⟨⟨fun _ => by decide, fun _ => rfl⟩, ⟨fun _ => rfl, fun _ => rfl⟩⟩
  | [l], _, hsp =>
    have := hsp l (by simp)
    exact ⟨⟨fun _ => by show 1 ≠ 2; decide, fun _ => rfl⟩, ⟨fun y => absurd y (m1_ne (by omega)), fun y => absurd y (by simp)⟩⟩
  | [l, k], _, hsp =>
    have := hsp l (by simp)
    have h2 := hsp k (by simp)
    exact ⟨⟨fun y => absurd y (m1_ne (by omega)), fun y => absurd rfl y⟩, ⟨fun y => absurd y (m1_ne (by omega)), fun y => absurd y (by simp)⟩⟩
  | _ :: _ :: _ :: _, hlen, _ => simp at hlen
theorem sp_isAsked (hP : gc_Cl P) (hm : gc_Mo P) {m : mv_T} (hlen : m.2.1.length ≤ 2) (hsp : ∀ l, l ∈ m.2.1 → spt l < 49152) (h30 : m.1 < 30) (hQ : Q (some (.int (cb (mv_ask m)))) s) : gc_T P d 0 0 286 0 [.int (nI m.1), .int (meI m)] [] s Q := by
  have hme := (meI_ask hlen hsp).1
  unfold mv_ask at hQ
  refine b_X11_isAsked_0 hP hm (pk_lt m.1 20 (fun z => ?_) (fun z => ⟨fun y => ?_, fun y => ?_⟩))
  · rw [nble z] at hQ
    exact hQ
  · rw [Nat.ble_eq_true_of_le z, beq_f (hme.mp y)] at hQ
    exact hQ
  · have : m.2.1.length = 2 := by
      by_cases e : m.2.1.length = 2
      · exact e
      · exact absurd (hme.mpr e) y
    rw [Nat.ble_eq_true_of_le z, this] at hQ
    exact hQ
theorem sp_mlot (hP : gc_Cl P) (hm : gc_Mo P) (hd : 1 ≤ d) {x y : Int32} (hQ : Q (some (.int (nI (lt_v x y)))) s) : gc_T P d 0 0 289 0 [.int x, .int y, .int 2] [] s Q := by
  refine b_X11_lot_0 hP hm ⟨hd, b_X11_mixed_0 hP hm ⟨hd, b_X11_mixed_0 hP hm ⟨by decide, ?_⟩⟩⟩
  show Q (some (.int (((lt_m (lt_m x 19) y).toUInt32 >>> ((1 : Int32).toUInt32 &&& Int32.toUInt32 31)).toInt32 - ((lt_m (lt_m x 19) y).toUInt32 >>> ((1 : Int32).toUInt32 &&& Int32.toUInt32 31)).toInt32 / 2 * 2))) s
  rw [lt_r]
  exact hQ
theorem sp_mlots (hP : gc_Cl P) (hm : gc_Mo P) (hd : 7 ≤ d) (hq : rq W lv h s) {c seed : Int32} (h1 : ∀ k t, k < ld_c W → c = nI k → rq W lv h t → fr RA RB s t → Q (some (.int (an_lo W h (ld_ro W k) seed))) t) (h2 : (∀ k, k < ld_c W → c ≠ nI k) → Q (some (.int (-1))) s) : gc_T P d 0 0 290 0 [.ref 67, .int c, .int seed, gc_u, gc_u, gc_u] [] s Q := by
  obtain ⟨b1, b2, hok⟩ := rq_b hq
  refine b_X11_lots_0 hP hm ⟨by omega, sp_isClaim hP hm (by omega) hq.1 (fun k hk e => ⟨fun _ => ⟨by omega, ?_⟩, fun w => absurd w (by decide)⟩) (fun e => ⟨fun w => absurd rfl w, fun _ => h2 e⟩)⟩
  rw [hq.2.2.1.2.1]
  refine sp_fillsH hP hm (by omega) hq b1 fun t t1 t2 t3 => ⟨by omega, ?_⟩
  have hfin := fun u => h1 k u hk e
  have hr := ld_root hok hk
  rw [e]
  refine sp_claimPlace hP hm (by omega) t1.1 t2.2.2.1 hk ?_
  obtain ⟨c1, c2, c3⟩ := rtt_at t1 hr.1 hq.2.2.2.1 hq.2.2.2.2.2
  refine ⟨c1, ?_⟩
  rw [c2, show (0 : Int32) = nI 0 from rfl, nI_eq (by omega) (by omega)]
  unfold an_lo at hfin
  refine ⟨fun hD => ⟨by omega, ?_⟩, fun hD => ?_⟩
  · have g0 : fr (Am 60) (Bm 106) t (gc_wF t 67 60 (nI 0)) := fr_wF rfl (fr_refl t)
    have w0 : mP 60 106 [] (gc_wF t 67 60 (nI 0)) := ⟨F_eq _ _ _ _, fun i k hi => by simp at hi⟩
    have T0 := rw_AP t1 (AP_60 g0)
    have hh0 := rqh_fr t2.2.2.1 (RA_AP (AP_60 g0))
    refine sp_claimPlace hP hm (by omega) T0.1 hh0 hk ⟨by omega, ?_⟩
    refine sp_piles hP hm (l := (ld_ro W k, h.1, h.2.2)) w0 (by decide) fun u u1 u2 => ?_
    have hT := wk_T_le (o := h.2.1) hok hr.1 hq.2.2.2.1 b2 hD
    have key : ∀ f (K : List (Nat × Nat × Nat)) (a j : Nat) (x : gc_St) (l5 : Value), wk_T W h.2.1 K ≤ f → rw_T W lv h.2.1 x → fr AP BP t x → mP 60 106 K x → wkI W h.2.1 K → wkB W K → j + lt_c W h.2.1 seed f K a = lt_c W h.2.1 seed (wk_T W h.2.1 [(ld_ro W k, h.1, h.2.2)]) [(ld_ro W k, h.1, h.2.2)] 0 → gc_T P d 0 0 290 53 [.ref 67, .int (nI k), .int seed, .int (nI j), .int (nI a), l5] [] x Q := by
      intro f
      have nil : ∀ (a j : Nat) (x : gc_St) (l5 : Value), rw_T W lv h.2.1 x → fr AP BP t x → mP 60 106 [] x → j = lt_c W h.2.1 seed (wk_T W h.2.1 [(ld_ro W k, h.1, h.2.2)]) [(ld_ro W k, h.1, h.2.2)] 0 → gc_T P d 0 0 290 53 [.ref 67, .int (nI k), .int seed, .int (nI j), .int (nI a), l5] [] x Q := by
        intro a j x l5 xT g xw hc
        refine b_X11_lots_53 hP hm ?_
        rw [xw.1]
        have g3 := fr_trans t3 (RA_AP g)
        have := hfin x (rq_of b1 hq xT g3) g3
        rw [if_neg hD, ← hc] at this
        exact ⟨fun _ => this, fun y => absurd (by decide) y⟩
      induction f with
      | zero =>
        intro K a j x l5 hf xT g xw xI xB hc
        have hK : K = [] := by
          cases K with
          | nil => rfl
          | cons l K =>
            have := wk_T_S hok xI
            omega
        subst hK
        exact nil a j x l5 xT g xw hc
      | succ f ih =>
        intro K a j x l5 hf xT g xw xI xB hc
        cases K with
        | nil => exact nil a j x l5 xT g xw hc
        | cons l K =>
          have hst := wkI_step hok xI
          have hlen := wkI_len xI
          rw [List.length_cons] at hlen
          obtain ⟨y1, y2, y3, y4⟩ := wkI_mem xI List.mem_cons_self
          have hle := mv_all_le (o := h.2.1) (p := l.1) hok y2 y3
          have hlt := mv_bi_lt (o := h.2.1) hok y1 y2 y3 y4
          obtain ⟨m1, m2, m3⟩ := mv_best_at (o := h.2.1) hok y1 y2 y3 y4
          obtain ⟨n1, n2⟩ := mv_in hok y1 y2 (xB l List.mem_cons_self) m2
          have hto := wkI_to hok xI (a := lt_a seed (mv_best W h.2.1 l.1 l.2.1 l.2.2) a)
          have hBto : wkB W (wk_to (mv_best W h.2.1 l.1 l.2.1 l.2.2) (lt_a seed (mv_best W h.2.1 l.1 l.2.1 l.2.2) a) K) := fun k' hk' => wkB_step hok xI xB (hto.2.2 k' hk')
          have hv : vp_in (nI (mv_bi W h.2.1 l.1 l.2.1 l.2.2)) 2060 := vp_in_nI (by omega) (by decide)
          have hc : j + (1 + lt_c W h.2.1 seed f (wk_to (mv_best W h.2.1 l.1 l.2.1 l.2.2) (lt_a seed (mv_best W h.2.1 l.1 l.2.1 l.2.2) a) K) (if mv_ask (mv_best W h.2.1 l.1 l.2.1 l.2.2) = true then a + 1 else a)) = _ := hc
          refine b_X11_lots_53 hP hm ?_
          rw [xw.1, List.length_cons]
          refine pk_le (K.length + 1) 0 (fun z => by omega) (fun _ => ⟨by omega, ?_⟩)
          refine sp_shows hP hm (by omega) xT b1 xw xI xB fun y z1 z2 z3 z4 => ⟨hv, hv, by omega, ?_⟩
          obtain ⟨f1, f2, f3, _, _⟩ := z3.2 _ _ m1
          rw [nI_clamp (by omega), f1, f3]
          refine sp_isAsked hP hm n1 (fun l' hl' => (n2 l' hl').2.2.2) hst.2.2.2 ?_
          cases hask : mv_ask (mv_best W h.2.1 l.1 l.2.1 l.2.2) with
          | false =>
            refine ⟨fun y => absurd rfl y, fun _ => ?_⟩
            rw [nI_1]
            rw [hask, if_neg (by decide)] at hc
            have ewk : wk_to (mv_best W h.2.1 l.1 l.2.1 l.2.2) (lt_a seed (mv_best W h.2.1 l.1 l.2.1 l.2.2) a) K = (mv_best W h.2.1 l.1 l.2.1 l.2.2).2.1 ++ K := by
              unfold wk_to
              rw [if_neg (fun z => by rw [hask] at z; exact absurd z.1 (by decide))]
            rw [ewk] at hc hto hBto
            exact ih _ a (j + 1) y _ (by omega) z1 (fr_trans g z4) z2 hto.1 hBto (by omega)
          | true =>
            refine ⟨fun _ => ⟨by omega, ?_⟩, fun y => absurd y (by decide)⟩
            have hl2 : (mv_best W h.2.1 l.1 l.2.1 l.2.2).2.1.length = 2 := by
              have := hask
              unfold mv_ask at this
              simp only [Bool.and_eq_true, Nat.beq_eq] at this
              exact this.2
            rw [hask, if_pos rfl] at hc
            have ela : lt_a seed (mv_best W h.2.1 l.1 l.2.1 l.2.2) a = nI (lt_v seed (nI a)) := by
              unfold lt_a
              rw [hask]
              rfl
            have hvl := lt_v_lt seed (nI a)
            have ewk : wk_to (mv_best W h.2.1 l.1 l.2.1 l.2.2) (lt_a seed (mv_best W h.2.1 l.1 l.2.1 l.2.2) a) K = (if lt_v seed (nI a) = 0 then (mv_best W h.2.1 l.1 l.2.1 l.2.2).2.1.take 1 else (mv_best W h.2.1 l.1 l.2.1 l.2.2).2.1.drop 1) ++ K := by
              unfold wk_to
              rw [ela, if_pos ⟨hask, m1_ne (by omega)⟩]
              by_cases e0 : lt_v seed (nI a) = 0
              · rw [if_pos (show nI (lt_v seed (nI a)) = 0 by rw [e0]; rfl), if_pos e0]
              · rw [if_neg (fun z => e0 (by rw [show (0 : Int32) = nI 0 from rfl, nI_eq (by omega) (by omega)] at z; exact z)), if_neg e0]
            rw [ewk] at hc hto hBto
            rw [z2.1, List.length_append, hl2, show (2 : Int32) = nI 2 from rfl, pk_sub (by omega), show 2 + K.length - 2 = K.length by omega]
            have w3 : mP 60 106 K (gc_wF y 67 60 (nI K.length)) := by
              refine ⟨F_eq _ _ _ _, fun i k' hi => ?_⟩
              refine z2.2 i k' ?_
              rw [List.reverse_append, List.getElem?_append_left (List.getElem?_eq_some_iff.mp hi).1]
              exact hi
            have g4 : fr AP BP y (gc_wF y 67 60 (nI K.length)) := AP_60 (fr_wF rfl (fr_refl y))
            have T4 := rw_AP z1 g4
            have R4 := mvR_fr z3 (show fr (Am 60) (Bm 106) y (gc_wF y 67 60 (nI K.length)) from fr_wF rfl (fr_refl y)) rfl (fun a h1 h2 => bf fun z => by have := Bm_iff.mp z; omega)
            generalize gc_wF y 67 60 (nI K.length) = y2 at w3 g4 T4 R4
            obtain ⟨f1, f2, f3, _, _⟩ := R4.2 _ _ m1
            refine sp_mlot hP hm (by omega) ?_
            have go : ∀ k', k' ∈ (mv_best W h.2.1 l.1 l.2.1 l.2.2).2.1 → (if lt_v seed (nI a) = 0 then (mv_best W h.2.1 l.1 l.2.1 l.2.2).2.1.take 1 else (mv_best W h.2.1 l.1 l.2.1 l.2.2).2.1.drop 1) = [k'] → gc_T P d 0 0 290 130 [.ref 67, .int (nI k), .int seed, .int (nI j + 1), .int (nI a), .int (nI (mv_bi W h.2.1 l.1 l.2.1 l.2.2))] [.int (nI (spt k')), .ref 67] y2 Q := by
              intro k' hk' ek
              rw [ek] at hc hto hBto
              refine b_X11_lots_130 hP hm ⟨by omega, sp_piles hP hm w3 (by omega) fun r r1 r2 => ?_⟩
              show gc_T P d 0 0 290 53 [.ref 67, .int (nI k), .int seed, .int (nI j + 1), .int (nI a + 1), .int (nI (mv_bi W h.2.1 l.1 l.2.1 l.2.2))] [] r Q
              rw [nI_1, nI_1]
              exact ih ([k'] ++ K) (a + 1) (j + 1) r _ (by omega) (rw_AP T4 (AP_60 r2)) (fr_trans (fr_trans g z4) (fr_trans g4 (AP_60 r2))) r1 hto.1 hBto (by omega)
            show (¬ nI (lt_v seed (nI a)) = 0 → _) ∧ (nI (lt_v seed (nI a)) = 0 → _)
            rw [f2, f3, show (0 : Int32) = nI 0 from rfl, nI_eq (by omega) (by omega)]
            unfold mtI meI
            generalize (mv_best W h.2.1 l.1 l.2.1 l.2.2).2.1 = ls at hl2 go
            match ls, hl2, go with
            | [k1, k2], _, go =>
              refine ⟨fun z => ⟨hv, go k2 (by simp) (by rw [if_neg z]; rfl)⟩, fun z => ⟨hv, go k1 (by simp) (by rw [if_pos z]; rfl)⟩⟩
    exact key (wk_T W h.2.1 [(ld_ro W k, h.1, h.2.2)]) _ 0 0 u _ (Nat.le_refl _) (rw_AP T0 (AP_60 u2)) (fr_trans (AP_60 g0) (AP_60 u2)) u1 (wkI_1 hok hr.1 hq.2.2.2.1 b2 hD) (wkB_1 hq.2.2.2.2.2) (Nat.zero_add _)
  · have := hfin t t2 t3
    rw [if_pos hD] at this
    exact this
end Rs
