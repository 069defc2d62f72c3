/-! The reference: sit, now, go. -/
section Rt
variable {P : gc_Pr} {d : Nat} {s : gc_St} {Q : gc_TQ} {W : ld_W} {lv o p st b : Nat} {h : Nat × Nat × Nat} {K : List (Nat × Nat × Nat)}
theorem rf_SA {s t : gc_St} (hl : rf_law W lv s) (g : fr SA SB s t) : rf_law W lv t := rf_law_fr hl g rfl (fun a e => bf fun z => by
  have h1 := rfB_iff e
  have h2 := SB_iff.mp z
  omega)
theorem rqh_SA {s t : gc_St} (hq : rqh h s) (g : fr SA SB s t) : rqh h t := ⟨(fr_F g rfl).trans hq.1, (fr_F g rfl).trans hq.2.1, (fr_F g rfl).trans hq.2.2⟩
/-- only what belongs to the SITTING -/
def TA (q k : Nat) : Bool := Nat.beq q 67 && (Nat.beq k 77 || Nat.beq k 79)
theorem TA_iff {q k : Nat} : TA q k = true ↔ q = 67 ∧ (k = 77 ∨ k = 79) := by
  unfold TA
  simp only [Bool.and_eq_true, Bool.or_eq_true, Nat.beq_eq]
theorem SA_TA {s t : gc_St} (g : fr TA (Bm 111) s t) : fr SA SB s t := fr_up g (fun _ _ z => SA_iff.mpr (Or.inr (TA_iff.mp z))) (fun _ z => SB_iff.mpr (Or.inr (Bm_iff.mp z)))
theorem rw_TA {s t : gc_St} (hT : rw_T W lv o s) (g : fr TA (Bm 111) s t) : rw_T W lv o t := by
  refine ⟨rf_SA hT.1 (SA_TA g), (fr_F g rfl).trans hT.2.1, fun p st b hp hst hb => ?_⟩
  rw [fr_I g rfl]
  exact hT.2.2 p st b hp hst hb
theorem rq_TA {s t : gc_St} (ho : o < 8) (hq : rq W lv h s) (hT : rw_T W lv o s) (g : fr TA (Bm 111) s t) : rq W lv h t := ⟨(rw_TA hT g).1, rft_of ho (rw_TA hT g), rqh_SA hq.2.2.1 (SA_TA g), hq.2.2.2⟩
theorem sp_msit (hP : gc_Cl P) (hm : gc_Mo P) (hd : 6 ≤ d) (hq : rq W lv h s) {c : Int32}
    (h0 : ∀ k t, k < ld_c W → c = nI k → dp_D W h.2.1 (ld_ro W k) h.1 h.2.2 = 0 → rq W lv h t → fr RA RB s t → Q (some (.int 0)) t)
    (h1 : ∀ k t, k < ld_c W → c = nI k → dp_D W h.2.1 (ld_ro W k) h.1 h.2.2 ≠ 0 → rq W lv h t → fr SA SB s t → mP 77 111 [(ld_ro W k, h.1, h.2.2)] t → gc_F t 67 79 = nI h.2.1 → Q (some (.int 1)) t)
    (h2 : (∀ k, k < ld_c W → c ≠ nI k) → Q (some (.int 0)) s) : gc_T P d 0 0 284 0 [.ref 67, .int c] [] s Q := by
  obtain ⟨b1, b2, hok⟩ := rq_b hq
  refine b_X11_sit_0 hP hm ⟨by omega, sp_isClaim hP hm (by omega) hq.1 (fun k hk e => ⟨fun _ => ⟨by omega, ?_⟩, fun w => absurd w (by decide)⟩) (fun e => ⟨fun w => absurd rfl w, fun _ => h2 e⟩)⟩
  rw [hq.2.2.1.2.1]
  refine sp_fillsH hP hm (by omega) hq b1 fun t t1 t2 t3 => ⟨by omega, ?_⟩
  have f0 := fun u => h0 k u hk e
  have f1 := fun u => h1 k u hk e
  have hr := ld_root hok hk
  rw [e]
  refine sp_claimPlace hP hm (by omega) t1.1 t2.2.2.1 hk ?_
  obtain ⟨c1, c2, c3⟩ := rtt_at t1 hr.1 hq.2.2.2.1 hq.2.2.2.2.2
  refine ⟨c1, ?_⟩
  rw [c2, show (0 : Int32) = nI 0 from rfl, nI_eq (by omega) (by omega)]
  refine ⟨fun hD => ⟨by omega, ?_⟩, fun hD => f0 t hD t2 t3⟩
  have g0 : fr TA (Bm 111) t (gc_wF t 67 79 (gc_F t 67 50)) := fr_wF rfl (fr_refl t)
  refine sp_claimPlace hP hm (by omega) (rw_TA t1 g0).1 (rqh_SA t2.2.2.1 (SA_TA g0)) hk ⟨vp_in_nI (n := 0) (by decide) (by decide), ?_⟩
  have g1 : fr TA (Bm 111) t (gc_wF (gc_wI (gc_wF t 67 79 (gc_F t 67 50)) 111 ((0 : Int32).toNatClampNeg) (nI (sp3 (ld_ro W k) h.1 h.2.2))) 67 77 1) := fr_wF rfl (fr_wI rfl g0)
  refine f1 _ hD (rq_TA b1 t2 t1 g1) (fr_trans (SA_RA t3) (SA_TA g1)) ⟨F_eq _ _ _ _, fun i l hi => ?_⟩ ?_
  · have hi : [(ld_ro W k, h.1, h.2.2)][i]? = some l := hi
    obtain ⟨rfl, rfl⟩ := one_at hi
    rw [rw_I_wF]
    exact I_eq _ _ _ _
  · rw [F_ne _ _ (Or.inr (by decide))]
    show gc_F (gc_wF t 67 79 (gc_F t 67 50)) 67 79 = _
    rw [F_eq]
    exact t2.2.2.1.2.1
/-- behind the table for the SITTING's OATHS -/
theorem sp_fillsS (hP : gc_Cl P) (hm : gc_Mo P) (hd : 4 ≤ d) (hq : rq W lv h s) (ho : o < 8) (hQ : ∀ t, rw_T W lv o t → rq W lv h t → fr RA RB s t → Q none t) : gc_T P d 0 0 232 0 [.ref 67, .int (nI o), gc_u, gc_u, gc_u] [] s Q := sp_fillsH hP hm hd hq ho hQ
theorem sp_mnow (hP : gc_Cl P) (hm : gc_Mo P) (hd : 6 ≤ d) (hq : rq W lv h s) (hw : mP 77 111 K s) (h79 : gc_F s 67 79 = nI o) (ho : o < 8) (hI : wkI W o K) (hB : wkB W K) {x : Int32}
    (h1 : ∀ w t, w < 6 → x = nI w → rq W lv h t → fr RA RB s t → Q (some (.int (an_tp W o K w (-2)))) t) (h2 : (∀ w, w < 6 → x ≠ nI w) → Q (some (.int (-1))) s) : gc_T P d 0 0 285 0 [.ref 67, .int x, gc_u] [] s Q := by
  obtain ⟨b1, b2, hok⟩ := rq_b hq
  refine b_X11_now_0 hP hm ⟨by omega, sp_inN hP hm (n := 6) (by decide) (by decide) (fun w hw6 ew => ⟨fun _ => ?_, fun y => absurd y (by decide)⟩) (fun ew => ⟨fun y => absurd rfl y, fun _ => h2 ew⟩)⟩
  have hfin := fun u => h1 w u hw6 ew
  have hlen := wkI_len hI
  rw [hw.1, h79, ew]
  cases K with
  | nil => exact ⟨fun y => absurd rfl y, fun _ => hfin s hq (fr_refl s)⟩
  | cons l K =>
    rw [List.length_cons] at hlen ⊢
    refine ⟨fun _ => ⟨by omega, ?_⟩, fun y => absurd y (nI_ne0 (by omega) (by omega))⟩
    refine sp_fillsH hP hm (by omega) hq ho fun t t1 t2 t3 => ?_
    have wt := mP_fr hw t3 rfl rfl
    obtain ⟨y1, y2, y3, y4⟩ := wkI_mem hI List.mem_cons_self
    show _ ∧ _
    rw [wt.1, List.length_cons, nI_pred, nI_clamp (by omega), wt.2 K.length l rv_top]
    refine ⟨vp_in_nI (by omega) (by decide), by omega, ?_⟩
    refine sp_bestAt hP hm (by omega) t1 ho y1 y2 (hB l List.mem_cons_self) y4 fun u u1 u2 => ⟨by omega, ?_⟩
    have g := fr_trans t3 (fr_54 u2)
    exact sp_told hP hm hok y1 y2 y3 y4 u1 hw6 (hfin u (rq_of ho hq (rw_54 t1 u2) g) g)
theorem go_bad_in {m : mv_T} {a : Int32} : go_bad m a = true ↔ mv_ask m = true ∧ ∀ k, k < 2 → a ≠ nI k := by
  unfold go_bad
  simp only [Bool.and_eq_true, Bool.not_eq_true', Bool.or_eq_false_iff, decide_eq_false_iff_not]
  constructor
  · rintro ⟨h1, h2, h3⟩
    refine ⟨h1, fun k hk e => ?_⟩
    rcases Nat.lt_or_ge k 1 with z | z
    · obtain rfl : k = 0 := by omega
      exact h2 e
    · obtain rfl : k = 1 := by omega
      exact h3 e
  · rintro ⟨h1, h2⟩
    exact ⟨h1, h2 0 (by decide), h2 1 (by decide)⟩
theorem sp_mgo (hP : gc_Cl P) (hm : gc_Mo P) (hd : 6 ≤ d) (hq : rq W lv h s) {l : Nat × Nat × Nat} (hw : mP 77 111 (l :: K) s) (h79 : gc_F s 67 79 = nI o) (ho : o < 8) (hI : wkI W o (l :: K)) (hB : wkB W (l :: K)) {a : Int32}
    (hN : ∀ t, go_bad (mv_best W o l.1 l.2.1 l.2.2) a = true → rq W lv h t → fr RA RB s t → Q (some (.int (-1))) t)
    (hQ : ∀ t, go_bad (mv_best W o l.1 l.2.1 l.2.2) a = false → rq W lv h t → fr SA SB s t → gc_F t 67 79 = nI o → mP 77 111 (wk_to (mv_best W o l.1 l.2.1 l.2.2) a K) t → Q (some (.int (nI (wk_to (mv_best W o l.1 l.2.1 l.2.2) a K).length))) t) : gc_T P d 0 0 287 0 [.ref 67, .int a, gc_u, gc_u] [] s Q := by
  obtain ⟨b1, b2, hok⟩ := rq_b hq
  have hlen := wkI_len hI
  rw [List.length_cons] at hlen
  obtain ⟨y1, y2, y3, y4⟩ := wkI_mem hI List.mem_cons_self
  have hst := wkI_step hok hI
  have hle := mv_all_le (o := o) (p := l.1) hok y2 y3
  have hlt := mv_bi_lt (o := o) hok y1 y2 y3 y4
  obtain ⟨m1, m2, m3⟩ := mv_best_at (o := o) hok y1 y2 y3 y4
  obtain ⟨n1, n2⟩ := mv_in hok y1 y2 (hB l List.mem_cons_self) m2
  have hv : vp_in (nI (mv_bi W o l.1 l.2.1 l.2.2)) 2060 := vp_in_nI (by omega) (by decide)
  refine b_X11_go_0 hP hm ?_
  rw [hw.1, h79, List.length_cons]
  refine ⟨fun _ => ⟨by omega, ?_⟩, fun y => absurd y (nI_ne0 (by omega) (by omega))⟩
  refine sp_fillsH hP hm (by omega) hq ho fun t t1 t2 t3 => ?_
  have wt := mP_fr hw t3 rfl rfl
  show _ ∧ _
  rw [wt.1, List.length_cons, nI_pred, nI_clamp (by omega), wt.2 K.length l rv_top]
  refine ⟨vp_in_nI (by omega) (by decide), by omega, ?_⟩
  refine sp_bestAt hP hm (by omega) t1 ho y1 y2 (hB l List.mem_cons_self) y4 fun u u1 u2 => ⟨hv, hv, by omega, ?_⟩
  have wu := mP_fr wt u2 rfl rfl
  have Tu := rw_54 t1 u2
  have gu := fr_trans t3 (fr_54 u2)
  have qu := rq_of ho hq Tu gu
  have e79 : gc_F u 67 79 = nI o := (fr_F gu rfl).trans h79
  obtain ⟨f1, f2, f3, _, _⟩ := u1.2 _ _ m1
  rw [nI_clamp (by omega), f1, f3]
  refine sp_isAsked hP hm n1 (fun l' hl' => (n2 l' hl').2.2.2) hst.2.2.2 ?_
  have hme := meI_ask n1 (fun l' hl' => (n2 l' hl').2.2.2)
  -- one place written
  have put1 : ∀ (y : gc_St) (K' : List (Nat × Nat × Nat)) (k : Nat × Nat × Nat), K'.length ≤ 40 → mP 77 111 K' y → fr TA (Bm 111) u y → mP 77 111 (k :: K') (gc_wF (gc_wI y 111 K'.length (nI (spt k))) 67 77 (nI (K'.length + 1))) ∧ fr TA (Bm 111) u (gc_wF (gc_wI y 111 K'.length (nI (spt k))) 67 77 (nI (K'.length + 1))) := by
    intro y K' k hK yw yg
    refine ⟨⟨F_eq _ _ _ _, fun i k' hi => ?_⟩, fr_wF rfl (fr_wI rfl yg)⟩
    rw [rw_I_wF]
    rcases rv_or hi with e | ⟨rfl, rfl⟩
    · have hne : i ≠ K'.length := by
        have := (List.getElem?_eq_some_iff.mp e).1
        rw [List.length_reverse] at this
        omega
      rw [I_ne _ _ (Or.inr hne)]
      exact yw.2 i k' e
    · rw [I_eq]
  have g0 : fr TA (Bm 111) u (gc_wF u 67 77 (nI K.length)) := fr_wF rfl (fr_refl u)
  have w0 : mP 77 111 K (gc_wF u 67 77 (nI K.length)) := ⟨F_eq _ _ _ _, fun i k hi => wu.2 i k (rv_low hi)⟩
  have fin : ∀ y, go_bad (mv_best W o l.1 l.2.1 l.2.2) a = false → fr TA (Bm 111) u y → gc_F y 67 79 = nI o → mP 77 111 (wk_to (mv_best W o l.1 l.2.1 l.2.2) a K) y → Q (some (.int (nI (wk_to (mv_best W o l.1 l.2.1 l.2.2) a K).length))) y := by
    intro y q1 q2 q3 q4
    exact hQ y q1 (rq_TA ho qu Tu q2) (fr_trans (SA_RA gu) (SA_TA q2)) q3 q4
  have k79 : ∀ y (i : Nat) (x z : Int32), gc_F (gc_wF (gc_wI y 111 i x) 67 77 z) 67 79 = gc_F y 67 79 := fun y i x z => F_ne _ _ (Or.inr (by decide))
  have e79' : gc_F (gc_wF u 67 77 (nI K.length)) 67 79 = nI o := (F_ne _ _ (Or.inr (by decide))).trans e79
  have at64 : ∀ (c : Bool), mv_ask (mv_best W o l.1 l.2.1 l.2.2) = c → go_bad (mv_best W o l.1 l.2.1 l.2.2) a = false → gc_T P d 0 0 287 64 [.ref 67, .int a, .int (nI (mv_bi W o l.1 l.2.1 l.2.2)), .int (cb c)] [] u Q := by
    intro c hc hb
    refine b_X11_go_64 hP hm ?_
    rw [wu.1, List.length_cons, nI_pred, nI_clamp (by omega), nI_clamp (by omega), f2, f3, nI_1]
    have I0 : ∀ q, q ≠ 111 → gc_I (gc_wF u 67 77 (nI K.length)) q = gc_I u q := fun _ _ => rfl
    generalize hs0 : gc_wF u 67 77 (nI K.length) = s0 at g0 w0 e79' I0
    cases hcc : c with
    | false =>
      rw [hcc] at hc
      refine ⟨fun _ => ⟨hv, ?_⟩, fun y => absurd rfl y⟩
      have ewk : wk_to (mv_best W o l.1 l.2.1 l.2.2) a K = (mv_best W o l.1 l.2.1 l.2.2).2.1 ++ K := by
        unfold wk_to
        rw [if_neg (fun z => by rw [hc] at z; exact absurd z.1 (by decide))]
      rw [ewk] at fin
      have at156 : ∀ y K', mP 77 111 K' y → K'.length ≤ 40 → fr TA (Bm 111) u y → gc_F y 67 79 = nI o → (mtI (mv_best W o l.1 l.2.1 l.2.2) = -1 → K' = (mv_best W o l.1 l.2.1 l.2.2).2.1 ++ K) → (∀ k rest, (mv_best W o l.1 l.2.1 l.2.2).2.1 = k :: rest → K' = rest ++ K) → ∀ x3 : Int32, gc_T P d 0 0 287 156 [.ref 67, .int a, .int (nI (mv_bi W o l.1 l.2.1 l.2.2)), .int x3] [] y Q := by
        intro y K' yw hK yg y79 q1 q2 x3
        refine b_X11_go_156 hP hm ⟨hv, ?_⟩
        rw [nI_clamp (by omega), fr_I yg rfl, f2, yw.1, nI_clamp (by omega), nI_1]
        refine ⟨fun z => ?_, fun z => ⟨hv, vp_in_nI (by omega) (by decide), ?_⟩⟩
        · have := q1 z
          rw [this] at yw ⊢
          exact fin y hb yg y79 yw
        · cases hls : (mv_best W o l.1 l.2.1 l.2.2).2.1 with
          | nil => exact absurd (hme.2.mpr hls) z
          | cons k rest =>
            have e4 : mtI (mv_best W o l.1 l.2.1 l.2.2) = nI (spt k) := by
              unfold mtI
              rw [hls]
            rw [e4]
            obtain ⟨p1, p2⟩ := put1 y K' k hK yw yg
            rw [hls] at fin
            have hK' := q2 k rest hls
            have e5 : (k :: rest) ++ K = k :: K' := by
              rw [hK']
              rfl
            rw [e5, List.length_cons] at fin
            exact fin _ hb p2 ((k79 _ _ _ _).trans y79) p1
      refine ⟨fun z => ?_, fun z => ⟨hv, vp_in_nI (by omega) (by decide), ?_⟩⟩
      · have hl2 := hme.1.mp z
        refine at156 s0 K w0 (by omega) g0 e79' (fun z2 => ?_) (fun k rest hls => ?_) _
        · rw [hme.2.mp z2]
          rfl
        · rw [hls] at hl2 n1
          rw [List.length_cons] at hl2 n1
          have : rest = [] := List.length_eq_zero_iff.mp (by omega)
          rw [this]
          rfl
      · have hl2 : (mv_best W o l.1 l.2.1 l.2.2).2.1.length = 2 := by
          by_cases e : (mv_best W o l.1 l.2.1 l.2.2).2.1.length = 2
          · exact e
          · exact absurd (hme.1.mpr e) z
        obtain ⟨k1, k2, hls⟩ : ∃ k1 k2, (mv_best W o l.1 l.2.1 l.2.2).2.1 = [k1, k2] := by
          generalize (mv_best W o l.1 l.2.1 l.2.2).2.1 = ls at hl2
          match ls, hl2 with
          | [k1, k2], _ => exact ⟨k1, k2, rfl⟩
        have e4 : meI (mv_best W o l.1 l.2.1 l.2.2) = nI (spt k2) := by
          unfold meI
          rw [hls]
        rw [e4]
        obtain ⟨p1, p2⟩ := put1 s0 K k2 (by omega) w0 g0
        refine at156 _ (k2 :: K) p1 (by rw [List.length_cons]; omega) p2 ((k79 _ _ _ _).trans e79') (fun z2 => ?_) (fun k rest hls2 => ?_) _
        · have := hme.2.mp z2
          rw [hls] at this
          simp at this
        · rw [hls] at hls2
          simp only [List.cons.injEq] at hls2
          rw [← hls2.2]
          rfl
    | true =>
      rw [hcc] at hc
      refine ⟨fun y => absurd y (by decide), fun _ => ?_⟩
      have hl2 : (mv_best W o l.1 l.2.1 l.2.2).2.1.length = 2 := by
        have := hc
        unfold mv_ask at this
        simp only [Bool.and_eq_true, Nat.beq_eq] at this
        exact this.2
      obtain ⟨k1, k2, hls⟩ : ∃ k1 k2, (mv_best W o l.1 l.2.1 l.2.2).2.1 = [k1, k2] := by
        generalize (mv_best W o l.1 l.2.1 l.2.2).2.1 = ls at hl2
        match ls, hl2 with
        | [k1, k2], _ => exact ⟨k1, k2, rfl⟩
      have ha : a = 0 ∨ a = 1 := by
        unfold go_bad at hb
        rw [hc, Bool.true_and] at hb
        simp only [Bool.not_eq_false', Bool.or_eq_true, decide_eq_true_eq] at hb
        exact hb
      have hne : a ≠ -1 := by
        rcases ha with e | e
        · rw [e]
          decide
        · rw [e]
          decide
      have one : ∀ k, wk_to (mv_best W o l.1 l.2.1 l.2.2) a K = k :: K → gc_T P d 0 0 287 105 [.ref 67, .int a, .int (nI (mv_bi W o l.1 l.2.1 l.2.2)), .int (cb true)] [.int (nI (spt k)), .int (nI K.length), .ref 111] s0 Q := by
        intro k ek
        rw [ek, List.length_cons] at fin
        refine b_X11_go_105 hP hm ⟨vp_in_nI (by omega) (by decide), ?_⟩
        rw [w0.1, nI_1, nI_clamp (by omega)]
        obtain ⟨p1, p2⟩ := put1 s0 K k (by omega) w0 g0
        exact fin _ hb p2 ((k79 _ _ _ _).trans e79') p1
      refine ⟨fun y => ⟨hv, ?_⟩, fun y => ⟨hv, ?_⟩⟩
      · have e4 : meI (mv_best W o l.1 l.2.1 l.2.2) = nI (spt k2) := by
          unfold meI
          rw [hls]
        rw [e4]
        refine one k2 ?_
        unfold wk_to
        rw [if_pos ⟨hc, hne⟩, if_neg y, hls]
        rfl
      · have e4 : mtI (mv_best W o l.1 l.2.1 l.2.2) = nI (spt k1) := by
          unfold mtI
          rw [hls]
        rw [e4]
        refine one k1 ?_
        unfold wk_to
        rw [if_pos ⟨hc, hne⟩, if_pos y, hls]
        rfl
  cases hask : mv_ask (mv_best W o l.1 l.2.1 l.2.2) with
  | false =>
    have hb : go_bad (mv_best W o l.1 l.2.1 l.2.2) a = false := by
      unfold go_bad
      rw [hask]
      rfl
    exact ⟨fun _ => at64 false hask hb, fun y => absurd rfl y⟩
  | true =>
    refine ⟨fun y => absurd y (by decide), fun _ => ⟨by omega, ?_⟩⟩
    refine sp_inN hP hm (n := 2) (by decide) (by decide) (fun k hk ek => ⟨fun _ => at64 true hask (bf fun z => (go_bad_in.mp z).2 k hk ek), fun y => absurd y (by decide)⟩) (fun ek => ⟨fun y => absurd rfl y, fun _ => hN u (go_bad_in.mpr ⟨hask, ek⟩) qu gu⟩)
theorem sp_mgoN (hP : gc_Cl P) (hm : gc_Mo P) (hw : mP 77 111 [] s) {a : Int32} (hQ : Q (some (.int (-1))) s) : gc_T P d 0 0 287 0 [.ref 67, .int a, gc_u, gc_u] [] s Q := by
  refine b_X11_go_0 hP hm ?_
  rw [hw.1]
  exact ⟨fun y => absurd rfl y, fun _ => hQ⟩
end Rt
