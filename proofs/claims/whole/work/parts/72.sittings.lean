/-! The class: moves, move, sit, now, go, lots. -/
section Qb
variable {P : gc_Pr} {d : Nat} {s : gc_St} {Q : gc_TQ} {W : ld_W} {L v o q kc p : Nat} {K : List (Nat × Nat × Nat)} {h : Nat × Nat × Nat}
theorem fr_B0 {A : Nat → Nat → Bool} {B : Nat → Bool} {s t : gc_St} (g : fr A B0 s t) : fr A B s t := fr_up g (fun _ _ z => z) (fun _ z => absurd z (by unfold B0; decide))
theorem sp_movesC (hP : gc_Cl P) (hm : gc_Mo P) (hd : 7 ≤ d) (hq : cq W L v h s) {x y z : Int32} {p st b : Nat} (hpl : pl W x y z p st b)
    (hQ : ∀ t, cq W L v h t → cx (AW 36) (BW 36) 0 s t → Q (some (.int (nI (mv_all W h.2.1 p st b).length))) t) : gc_T P d 0 0 140 0 [.ref 0, .int x, .int y, .int z] [] s Q := by
  obtain ⟨b1, b2, hok⟩ := cq_b hq
  have b3 := p8 hok.1.2.2.1 hpl.2.2.1
  refine b_X10_moves_0 hP hm ⟨by rw [hq.1.1.2.1]; exact cl_io hq.1.1.1, by omega, ?_⟩
  rw [hq.1.1.2.1]
  refine sp_hasPlace hP hm (by omega) hq.1.1 (fun p' st' b' hpl' => ⟨fun _ => ⟨by omega, ?_⟩, fun y => absurd y (by decide)⟩) (fun e => absurd hpl (e p st b))
  rw [hq.2.2.1.2.1, hpl.2.2.2.1, hpl.2.2.2.2.1, hpl.2.2.2.2.2]
  refine sp_lookAt hP hm (by omega) hq.1.1 hpl.1 hpl.2.1 b3 fun t t1 t2 => ⟨by omega, ?_⟩
  have g : fr (AW 36) (BW 36) s t := AW_32 (fr_B0 t2)
  have hqt := cq_W (Or.inl rfl) hq g
  exact sp_total hP hm (by omega) hqt.1.1 t1 b1 b3 hpl.2.1 (hQ t hqt (cx_W (Or.inl rfl) hq.1.2 g))
theorem sp_movesN (hP : gc_Cl P) (hm : gc_Mo P) (hd : 7 ≤ d) (hq : cq W L v h s) {x y z : Int32} (hpl : ∀ p st b, ¬ pl W x y z p st b) (hQ : Q (some (.int (-1))) s) : gc_T P d 0 0 140 0 [.ref 0, .int x, .int y, .int z] [] s Q := by
  refine b_X10_moves_0 hP hm ⟨by rw [hq.1.1.2.1]; exact cl_io hq.1.1.1, by omega, ?_⟩
  rw [hq.1.1.2.1]
  exact sp_hasPlace hP hm (by omega) hq.1.1 (fun p' st' b' hpl' => absurd hpl' (hpl p' st' b')) (fun e => ⟨fun y => absurd rfl y, fun _ => hQ⟩)
/-- what a MOVE tells -/
noncomputable def an_mo (W : ld_W) (o : Nat) (m : mv_T) (w : Nat) : Int32 := match w with
  | 0 => nI m.1
  | 1 => nI (dp_by W o m)
  | _ => dp_un W o m.2.1
noncomputable def an_mv (W : ld_W) (o p st b : Nat) (i : Int32) (w : Nat) : Int32 := if i < 0 then -1 else (match (mv_all W o p st b)[i.toNatClampNeg]? with
  | none => -1
  | some m => an_mo W o m w)
theorem sp_moveC (hP : gc_Cl P) (hm : gc_Mo P) (hd : 8 ≤ d) (hq : cq W L v h s) {x y z i : Int32} {p st b w : Nat} (hpl : pl W x y z p st b) (hw : w < 3) (hkc : kc = kP W h.2.1 p b s)
    (hQ : ∀ t, cq W L v h t → cx (AW 36) (BW 36) kc s t → Q (some (.int (an_mv W h.2.1 p st b i w))) t) : gc_T P d kc (256 * kc) 141 0 [.ref 0, .int x, .int y, .int z, .int i, .int (nI w)] [] s Q := by
  obtain ⟨b1, b2, hok⟩ := cq_b hq
  have b3 := p8 hok.1.2.2.1 hpl.2.2.1
  refine b_X10_move_0 hP hm ⟨by rw [hq.1.1.2.1]; exact cl_io hq.1.1.1, by omega, ?_⟩
  rw [hq.1.1.2.1]
  refine sp_hasPlace hP hm (by omega) hq.1.1 (fun p' st' b' hpl' => ⟨fun y => absurd y (by decide), fun _ => ⟨fun y => absurd y (nI_pos (by omega)), fun _ => pk_le w 2 (fun _ => ⟨by omega, kc, 256 * kc, Nat.le_refl _, Nat.le_refl _, ?_⟩) (fun y => by omega)⟩⟩) (fun e => absurd hpl (e p st b))
  rw [hq.2.2.1.2.1, hpl.2.2.2.1, hpl.2.2.2.2.1, hpl.2.2.2.2.2]
  refine sp_prep hP hm (by omega) hq b1 hpl.1 b3 hkc fun t t1 t2 t3 => ⟨by omega, ?_⟩
  rw [t1.2.2.1.2.1]
  refine sp_lookAt hP hm (by omega) t1.1.1 hpl.1 hpl.2.1 b3 fun u u1 u2 => ⟨by omega, ?_⟩
  have g : fr (AW 36) (BW 36) t u := AW_32 (fr_B0 u2)
  have hqu := cq_W (Or.inl rfl) t1 g
  have no : ∀ r, fr A69 B33 u r → an_mv W h.2.1 p st b i w = -1 → Q (some (.int (-1))) r := by
    intro r g2 e
    have g3 := fr_trans g (AW_32 (fr_up g2 (fun _ _ z => A32_iff.mpr (A69_iff.mp z).1) (fun _ z => z)))
    have := hQ r (cq_W (Or.inl rfl) t1 g3) (cx36 t3 t1.1.2 g3)
    rw [e] at this
    exact this
  by_cases hi : i < 0
  · refine sp_pickN hP hm hi fun r r1 => ⟨fun y => absurd rfl y, fun _ => ⟨Nat.sub_self _, no r r1 ?_⟩⟩
    unfold an_mv
    rw [if_pos hi]
  · obtain ⟨j, hj, rfl⟩ := nI_of hi
    have e0 : an_mv W h.2.1 p st b (nI j) w = (match (mv_all W h.2.1 p st b)[j]? with
      | none => -1
      | some m => an_mo W h.2.1 m w) := by
      unfold an_mv
      rw [if_neg hi, nI_clamp hj]
    refine sp_pick hP hm (by omega) hqu.1.1 u1 b1 hpl.1 hpl.2.1 b3 hj (fun m r r1 r2 r3 => ⟨fun _ => ?_, fun y => absurd y (by decide)⟩) (fun r r1 r2 => ⟨fun y => absurd rfl y, fun _ => ⟨Nat.sub_self _, no r r2 (by rw [e0, r1])⟩⟩)
    rw [e0, r1] at hQ
    have g3 := fr_trans g (AW_32 (fr_up r3 (fun _ _ z => A32_iff.mpr (A69_iff.mp z).1) (fun _ z => z)))
    have hqr := cq_W (Or.inl rfl) t1 g3
    have hQr := hQ r hqr (cx36 t3 t1.1.2 g3)
    have hvr : gc_I r 24 (cl_num h.2.1 p b) = nI v := by
      rw [fr_I g3 rfl]
      exact t2
    obtain ⟨w1, w2⟩ := vl_mv hok hqr.1.2 b1 hpl.1 hpl.2.1 b3 hvr (List.mem_of_getElem? r1)
    have e1 : gc_F r 32 1 = nI h.2.1 := (fr_F r3 rfl).trans u1.1
    match w, hw, hQr with
    | 0, _, hQr =>
      refine ⟨fun y => absurd rfl y, fun _ => ⟨Nat.sub_self _, ?_⟩⟩
      rw [r2.1]
      exact hQr
    | 1, _, hQr => exact ⟨fun _ => ⟨fun y => absurd rfl y, fun _ => ⟨by omega, sp_depthByIt hP hm (by omega) hqr.1 e1 b1 r2 w1 w2 ⟨Nat.sub_self _, hQr⟩⟩⟩, fun y => absurd y (by decide)⟩
    | 2, _, hQr => exact ⟨fun _ => ⟨fun _ => ⟨by omega, sp_firstUnshown hP hm (by omega) hqr.1 e1 b1 r2 w1 w2 ⟨Nat.sub_self _, hQr⟩⟩, fun y => absurd y (by decide)⟩, fun y => absurd y (by decide)⟩
theorem sp_moveN (hP : gc_Cl P) (hm : gc_Mo P) (hd : 7 ≤ d) (hq : cq W L v h s) {x y z i w : Int32} (hpl : (∀ p st b, ¬ pl W x y z p st b) ∨ (∀ k, k < 3 → w ≠ nI k)) (hQ : Q (some (.int (-1))) s) : gc_T P d 0 0 141 0 [.ref 0, .int x, .int y, .int z, .int i, .int w] [] s Q := by
  refine b_X10_move_0 hP hm ⟨by rw [hq.1.1.2.1]; exact cl_io hq.1.1.1, by omega, ?_⟩
  rw [hq.1.1.2.1]
  refine sp_hasPlace hP hm (by omega) hq.1.1 (fun p' st' b' hpl' => ⟨fun y => absurd y (by decide), fun _ => ⟨fun _ => ⟨rfl, hQ⟩, fun y => ⟨fun y2 => ?_, fun _ => ⟨rfl, hQ⟩⟩⟩⟩) (fun e => ⟨fun _ => ⟨rfl, hQ⟩, fun y => absurd rfl y⟩)
  rcases hpl with e | e
  · exact absurd hpl' (e p' st' b')
  · obtain ⟨j, hj, rfl⟩ := nI_of y
    rw [show (2 : Int32) = nI 2 from rfl, nI_leI hj (by decide)] at y2
    exact absurd rfl (e j (by omega))
theorem sp_sit (hP : gc_Cl P) (hm : gc_Mo P) (hd : 9 ≤ d) (hq : cq W L v h s) {k : Nat} (hk : k < ld_c W) (hkc : kc = kP W h.2.1 (ld_ro W k) h.2.2 s)
    (h0 : ∀ t, dp_D W h.2.1 (ld_ro W k) h.1 h.2.2 = 0 → cq W L v h t → cx A0 B0 kc s t → Q (some (.int 0)) t)
    (h1 : ∀ t, dp_D W h.2.1 (ld_ro W k) h.1 h.2.2 ≠ 0 → cq W L v h t → cx (AW 40) (BW 40) kc s t → wkP 40 [(ld_ro W k, h.1, h.2.2)] t → gc_F t 40 4 = nI h.2.1 → vK v h.2.1 t [(ld_ro W k, h.1, h.2.2)] → Q (some (.int 1)) t) : gc_T P d kc (256 * kc) 147 0 [.ref 0, .int (nI k), gc_u] [] s Q := by
  obtain ⟨b1, b2, hok⟩ := cq_b hq
  have hr := ld_root hok hk
  have hc6 := hok.1.2.2.2.1
  refine b_X10_sit_0 hP hm ⟨by omega, sp_root hP hm hq.1.1 (fun k' hk' e => ⟨fun y => absurd y (m1_ne (by have := (ld_root hok hk').2; omega)), fun _ => ⟨by omega, kc, 256 * kc, Nat.le_refl _, Nat.le_refl _, ?_⟩⟩) (fun e => absurd rfl (e k hk))⟩
  rw [nI_eq (by omega) (by omega)] at e
  subst e
  refine sp_dwh hP hm (by omega) hq hr.1 hkc fun t t1 t2 t3 => ?_
  unfold an_d
  by_cases hD : dp_D W h.2.1 (ld_ro W k) h.1 h.2.2 = 0
  · rw [if_pos hD]
    exact ⟨fun y => absurd rfl y, fun _ => ⟨Nat.sub_self _, h0 t hD t1 t3⟩⟩
  · rw [if_neg hD]
    have hDm := dp_D_max (o := h.2.1) hok hr.1 hq.2.2.2.1 b2
    refine ⟨fun _ => ⟨by omega, ?_⟩, fun y => absurd y (m2_ne (by omega))⟩
    exact sp_begin hP hm (by omega) (Or.inr rfl) t1 fun u u1 u2 u3 => ⟨Nat.sub_self _, h1 u hD (cq_W (Or.inr rfl) t1 u3) (cx_trans rfl (cx_0 t3) (cx_W (Or.inr rfl) t1.1.2 u3)) u1 u2 (vK_fr (Or.inr rfl) (vK_one t2) u3)⟩
theorem sp_sitN (hP : gc_Cl P) (hm : gc_Mo P) (hd : 9 ≤ d) (hq : cq W L v h s) {c : Int32} (hc : ∀ k, k < ld_c W → c ≠ nI k) (hQ : Q (some (.int 0)) s) : gc_T P d 0 0 147 0 [.ref 0, .int c, gc_u] [] s Q :=
  b_X10_sit_0 hP hm ⟨by omega, sp_root hP hm hq.1.1 (fun k' hk' e => absurd e (hc k' hk')) (fun _ => ⟨fun _ => ⟨rfl, hQ⟩, fun y => absurd rfl y⟩)⟩
theorem sp_nowC (hP : gc_Cl P) (hm : gc_Mo P) (hd : 9 ≤ d) (hS : mvS W L v s) (hw : wkP 40 K s) (hI : wkI W o K) (h4 : gc_F s 40 4 = nI o) (ho : o < 8) (hv : vK v o s K) {w : Nat} (hw6 : w < 6)
    (hQ : ∀ t, fr A32 B33 s t → Q (some (.int (an_tp W o K w (-2)))) t) : gc_T P d 0 0 148 0 [.ref 0, .int (nI w)] [] s Q := by
  refine b_X10_now_0 hP hm ⟨by omega, sp_isPart hP hm (fun w' hw' e => ⟨fun _ => ⟨by omega, ?_⟩, fun y => absurd y (by decide)⟩) (fun e => absurd rfl (e w hw6))⟩
  cases K with
  | nil => exact sp_choose0 hP hm (Or.inr rfl) hw ⟨fun _ => hQ s (fr_refl s), fun y => absurd rfl y⟩
  | cons l K => exact sp_choose hP hm (by omega) (Or.inr rfl) hS hw hI h4 ho (hv l List.mem_cons_self) fun a a1 a2 a3 => ⟨fun y => absurd y (by decide), fun _ => ⟨by omega, sp_tell hP hm a2 a1 hw6 (hQ a a3)⟩⟩
theorem sp_nowN (hP : gc_Cl P) (hm : gc_Mo P) (hd : 9 ≤ d) {x : Int32} (hx : ∀ w, w < 6 → x ≠ nI w) (hQ : Q (some (.int (-1))) s) : gc_T P d 0 0 148 0 [.ref 0, .int x] [] s Q :=
  b_X10_now_0 hP hm ⟨by omega, sp_isPart hP hm (fun w' hw' e => absurd e (hx w' hw')) (fun _ => ⟨fun y => absurd rfl y, fun _ => hQ⟩)⟩
theorem wkI_to (hok : ld_ok W) {l : Nat × Nat × Nat} (hw : wkI W o (l :: K)) {a : Int32} : wkI W o (wk_to (mv_best W o l.1 l.2.1 l.2.2) a K) ∧ wk_T W o (wk_to (mv_best W o l.1 l.2.1 l.2.2) a K) + 1 ≤ wk_T W o (l :: K) ∧ ∀ k, k ∈ wk_to (mv_best W o l.1 l.2.1 l.2.2) a K → k ∈ (mv_best W o l.1 l.2.1 l.2.2).2.1 ∨ k ∈ K := by
  have hT := wk_T_S hok hw
  obtain ⟨s1, s2, s3, _⟩ := wkI_step hok hw
  have e1 : wk_1 W o (l :: K) = (mv_best W o l.1 l.2.1 l.2.2).2.1 ++ K := rfl
  rw [e1] at hT
  unfold wk_to
  by_cases h0 : mv_ask (mv_best W o l.1 l.2.1 l.2.2) = true ∧ a ≠ -1
  · rw [if_pos h0]
    have hask := h0.1
    unfold mv_ask at hask
    simp only [Bool.and_eq_true, Nat.beq_eq] at hask
    have h2 := hask.2
    generalize (mv_best W o l.1 l.2.1 l.2.2).2.1 = ls at s1 s2 s3 hT h2 ⊢
    match ls, h2, s2, hT with
    | [k, j], _, s2, hT =>
      have hT : wk_T W o (l :: K) = (dp_Sz W o k.1 k.2.1 k.2.2 + (dp_Sz W o j.1 j.2.1 j.2.2 + dp_sum K (dp_Sz W o))) + 1 := hT
      by_cases e : a = 0
      · rw [if_pos e]
        refine ⟨s2 k (by simp), ?_, fun x hx => ?_⟩
        · show dp_Sz W o k.1 k.2.1 k.2.2 + dp_sum K (dp_Sz W o) + 1 ≤ _
          omega
        · rcases List.mem_append.mp hx with hx | hx
          · exact Or.inl (List.mem_of_mem_take hx)
          · exact Or.inr hx
      · rw [if_neg e]
        refine ⟨s2 j (by simp), ?_, fun x hx => ?_⟩
        · show dp_Sz W o j.1 j.2.1 j.2.2 + dp_sum K (dp_Sz W o) + 1 ≤ _
          omega
        · rcases List.mem_append.mp hx with hx | hx
          · exact Or.inl (List.mem_of_mem_drop hx)
          · exact Or.inr hx
  · rw [if_neg h0]
    exact ⟨s1, by omega, fun x hx => List.mem_append.mp hx⟩
theorem vK_to (hok : ld_ok W) (hR : cl_rows W v s) (ho : o < 8) {l : Nat × Nat × Nat} (hw : wkI W o (l :: K)) (hv : vK v o s (l :: K)) {a : Int32} : vK v o s (wk_to (mv_best W o l.1 l.2.1 l.2.2) a K) := by
  intro k hk
  rcases (wkI_to hok hw).2.2 k hk with hk | hk
  · exact vK_best hok hR ho hw hv hk
  · exact hv k (List.mem_cons_of_mem _ hk)
/-- whether the answer will do -/
def go_bad (m : mv_T) (a : Int32) : Bool := mv_ask m && !(decide (a = 0) || decide (a = 1))
theorem sp_goC (hP : gc_Cl P) (hm : gc_Mo P) (hd : 9 ≤ d) (hS : mvS W L v s) {l : Nat × Nat × Nat} (hw : wkP 40 (l :: K) s) (hI : wkI W o (l :: K)) (h4 : gc_F s 40 4 = nI o) (ho : o < 8) (hv : vK v o s (l :: K)) {a : Int32}
    (hN : ∀ t, go_bad (mv_best W o l.1 l.2.1 l.2.2) a = true → fr A32 B33 s t → Q (some (.int (-1))) t)
    (hQ : ∀ t, go_bad (mv_best W o l.1 l.2.1 l.2.2) a = false → fr (AW 40) (BW 40) s t → gc_F t 40 4 = nI o → wkP 40 (wk_to (mv_best W o l.1 l.2.1 l.2.2) a K) t → Q (some (.int (nI (wk_to (mv_best W o l.1 l.2.1 l.2.2) a K).length))) t) : gc_T P d 0 0 149 0 [.ref 0, .int a] [] s Q := by
  have hok := hS.1.2.2.2.1
  have hst := wkI_step hok hI
  have hlen := wkI_len hI
  rw [List.length_cons] at hlen
  refine b_X10_go_0 hP hm ⟨by omega, ?_⟩
  refine sp_choose hP hm (by omega) (Or.inr rfl) hS hw hI h4 ho (hv l List.mem_cons_self) fun t t1 t2 t3 => ⟨fun _ => ⟨by omega, ?_⟩, fun y => absurd y (by decide)⟩
  refine sp_asksAnswer hP hm t1 (by omega) hst.2.2.1 ?_
  have fin : go_bad (mv_best W o l.1 l.2.1 l.2.2) a = false → (mv_ask (mv_best W o l.1 l.2.1 l.2.2) = true → a = -1 ∨ a = 0 ∨ a = 1) → gc_T P d 0 0 149 33 [.ref 0, .int a] [] t Q := by
    intro e1 e2
    refine b_X10_go_33 hP hm ⟨by omega, ?_⟩
    refine sp_follow hP hm (by omega) (Or.inr rfl) t1 (wkP_32 (Or.inr rfl) hw t3) (by omega) (by omega) hst.2.2.1 e2 fun u u1 u2 => ?_
    show Q (some (.int (gc_F u 40 5))) u
    rw [u1.1]
    refine hQ u e1 (fr_trans (AW_32 t3) (AW_V u2)) ?_ u1
    rw [fr_F u2 rfl, fr_F t3 rfl]
    exact h4
  cases e : mv_ask (mv_best W o l.1 l.2.1 l.2.2) with
  | false => exact ⟨fun _ => fin (by unfold go_bad; rw [e]; rfl) (fun z => by rw [e] at z; exact absurd z (by decide)), fun y => absurd rfl y⟩
  | true =>
    refine ⟨fun y => absurd y (by decide), fun _ => ⟨fun z => fin (by unfold go_bad; rw [e, z]; rfl) (fun _ => Or.inr (Or.inl z)), fun z => ⟨fun z2 => fin (by unfold go_bad; rw [e, z2]; rfl) (fun _ => Or.inr (Or.inr z2)), fun z2 => hN t ?_ t3⟩⟩⟩
    unfold go_bad
    rw [e, decide_eq_false z, decide_eq_false z2]
    rfl
theorem sp_goN (hP : gc_Cl P) (hm : gc_Mo P) (hd : 9 ≤ d) (hw : wkP 40 [] s) {a : Int32} (hQ : Q (some (.int (-1))) s) : gc_T P d 0 0 149 0 [.ref 0, .int a] [] s Q :=
  b_X10_go_0 hP hm ⟨by omega, sp_choose0 hP hm (Or.inr rfl) hw ⟨fun y => absurd rfl y, fun _ => hQ⟩⟩
/-! BY LOTS. -/
def lt_m (x y : Int32) : Int32 := (((x ^^^ y) * 1103515245) + 12345) ^^^ (((((x ^^^ y) * 1103515245) + 12345).toUInt32 >>> ((15 : Int32).toUInt32 &&& Int32.toUInt32 31)).toInt32)
def lt_v (seed which : Int32) : Nat := (lt_m (lt_m seed 19) which).toBitVec.toNat / 2 % 2
theorem nI_any (x : Int32) : x = nI x.toBitVec.toNat := by
  apply Int32.toBitVec_inj.1
  show _ = BitVec.ofNat 32 _
  rw [BitVec.ofNat_toNat]
  simp
theorem lt_sh (x : Int32) : (x.toUInt32 >>> ((1 : Int32).toUInt32 &&& Int32.toUInt32 31)).toInt32 = nI (x.toBitVec.toNat / 2) := by
  rw [nI_any (x.toUInt32 >>> ((1 : Int32).toUInt32 &&& Int32.toUInt32 31)).toInt32, pk_ushr x 1 1 (by decide)]
theorem lt_v_lt (seed which : Int32) : lt_v seed which < 2 := Nat.mod_lt _ (by decide)
theorem lt_r (x : Int32) : (x.toUInt32 >>> ((1 : Int32).toUInt32 &&& Int32.toUInt32 31)).toInt32 - (x.toUInt32 >>> ((1 : Int32).toUInt32 &&& Int32.toUInt32 31)).toInt32 / 2 * 2 = nI (x.toBitVec.toNat / 2 % 2) := by
  have := x.toBitVec.isLt
  rw [lt_sh, show (2 : Int32) = nI 2 from rfl, pk_rem (by omega) (by decide) (by decide)]
theorem sp_lot (hP : gc_Cl P) (hm : gc_Mo P) (hd : 1 ≤ d) {x y : Int32} (h : Q (some (.int (nI (lt_v x y)))) s) : gc_T P d 0 0 162 0 [.int 2, .int x, .int y, gc_u] [] s Q := by
  refine b_X10_lot_0 hP hm ⟨hd, b_X10_lotRound_0 hP hm ⟨hd, b_X10_lotRound_0 hP hm ⟨fun z => absurd z (by decide), fun _ => ⟨by decide, ?_⟩⟩⟩⟩
  show Q (some (.int (((lt_m (lt_m x 19) y).toUInt32 >>> ((1 : Int32).toUInt32 &&& Int32.toUInt32 31)).toInt32 - ((lt_m (lt_m x 19) y).toUInt32 >>> ((1 : Int32).toUInt32 &&& Int32.toUInt32 31)).toInt32 / 2 * 2))) s
  rw [lt_r]
  exact h
noncomputable def lt_a (seed : Int32) (m : mv_T) (a : Nat) : Int32 := if mv_ask m = true then nI (lt_v seed (nI a)) else 0
noncomputable def lt_c (W : ld_W) (o : Nat) (seed : Int32) : Nat → List (Nat × Nat × Nat) → Nat → Nat
  | 0, _, _ => 0
  | _ + 1, [], _ => 0
  | f + 1, l :: K, a => 1 + lt_c W o seed f (wk_to (mv_best W o l.1 l.2.1 l.2.2) (lt_a seed (mv_best W o l.1 l.2.1 l.2.2) a) K) (if mv_ask (mv_best W o l.1 l.2.1 l.2.2) = true then a + 1 else a)
noncomputable def an_lo (W : ld_W) (h : Nat × Nat × Nat) (p : Nat) (seed : Int32) : Int32 := if dp_D W h.2.1 p h.1 h.2.2 = 0 then -2 else nI (lt_c W h.2.1 seed (wk_T W h.2.1 [(p, h.1, h.2.2)]) [(p, h.1, h.2.2)] 0)
theorem lt_a_or (seed : Int32) (m : mv_T) (a : Nat) : lt_a seed m a = -1 ∨ lt_a seed m a = 0 ∨ lt_a seed m a = 1 := by
  have := lt_v_lt seed (nI a)
  unfold lt_a
  split
  · rcases Nat.lt_or_ge (lt_v seed (nI a)) 1 with e | e
    · rw [show lt_v seed (nI a) = 0 by omega]
      exact Or.inr (Or.inl rfl)
    · rw [show lt_v seed (nI a) = 1 by omega]
      exact Or.inr (Or.inr rfl)
  · exact Or.inr (Or.inl rfl)
theorem sp_lotsC (hP : gc_Cl P) (hm : gc_Mo P) (hd : 9 ≤ d) (hq : cq W L v h s) {k : Nat} {seed : Int32} (hk : k < ld_c W) (hkc : kc = kP W h.2.1 (ld_ro W k) h.2.2 s) (hQ : ∀ t, cq W L v h t → cx (AW 36) (BW 36) kc s t → Q (some (.int (an_lo W h (ld_ro W k) seed))) t) : gc_T P d kc (256 * kc) 150 0 [.ref 0, .int (nI k), .int seed, gc_u, gc_u, gc_u, gc_u] [] s Q := by
  obtain ⟨b1, b2, hok⟩ := cq_b hq
  have hr := ld_root hok hk
  have hc6 := hok.1.2.2.2.1
  refine b_X10_lots_0 hP hm ⟨by omega, sp_root hP hm hq.1.1 (fun k' hk' e => ⟨fun _ => ⟨by omega, kc, 256 * kc, Nat.le_refl _, Nat.le_refl _, ?_⟩, fun y => absurd y (m1_ne (by have := (ld_root hok hk').2; omega))⟩) (fun e => absurd rfl (e k hk))⟩
  rw [nI_eq (by omega) (by omega)] at e
  subst e
  unfold an_lo at hQ
  refine sp_dwh hP hm (by omega) hq hr.1 hkc fun t t1 t2 t3 => ?_
  unfold an_d
  by_cases hD : dp_D W h.2.1 (ld_ro W k) h.1 h.2.2 = 0
  · rw [if_pos hD] at hQ ⊢
    exact ⟨fun y => absurd rfl y, fun _ => ⟨Nat.sub_self _, hQ t t1 (cx_0 t3)⟩⟩
  · rw [if_neg hD] at hQ ⊢
    have hDm := dp_D_max (o := h.2.1) hok hr.1 hq.2.2.2.1 b2
    have hT := wk_T_le (o := h.2.1) hok hr.1 hq.2.2.2.1 b2 hD
    refine ⟨fun _ => ⟨by omega, ?_⟩, fun y => absurd y (m2_ne (by omega))⟩
    refine sp_begin hP hm (by omega) (Or.inl rfl) t1 fun u u1 u2 u3 => ?_
    show gc_T P d (kc - kc) (256 * kc - 256 * kc) 150 44 _ [] u Q
    rw [Nat.sub_self, Nat.sub_self]
    have key : ∀ f (K : List (Nat × Nat × Nat)) (a j : Nat) (x : gc_St) (l6 : Value), wk_T W h.2.1 K ≤ f → j + f ≤ 92160 → a ≤ j → fr (AW 36) (BW 36) t x → wkP 36 K x → wkI W h.2.1 K → gc_F x 36 4 = nI h.2.1 → vK v h.2.1 x K →
        j + lt_c W h.2.1 seed f K a = lt_c W h.2.1 seed (wk_T W h.2.1 [(ld_ro W k, h.1, h.2.2)]) [(ld_ro W k, h.1, h.2.2)] 0 → gc_T P d 0 0 150 44 [.ref 0, .int (nI k), .int seed, .int (nI (ld_ro W k)), .int (nI j), .int (nI a), l6] [] x Q := by
      intro f
      induction f with
      | zero =>
        intro K a j x l6 hf hj ha g x1 x2 x3 x4 hc
        have hK : K = [] := by
          cases K with
          | nil => rfl
          | cons l K =>
            have := wk_T_S hok x2
            omega
        subst hK
        refine b_X10_lots_44 hP hm (pk_le 1000000 j (fun y => by omega) (fun _ => ⟨by omega, sp_choose0 hP hm (Or.inl rfl) x1 ⟨fun _ => ⟨rfl, ?_⟩, fun y => absurd rfl y⟩⟩))
        have hc : j = _ := hc
        rw [hc]
        exact hQ x (cq_W (Or.inl rfl) t1 g) (cx36 t3 t1.1.2 g)
      | succ f ih =>
        intro K a j x l6 hf hj ha g x1 x2 x3 x4 hc
        cases K with
        | nil =>
          refine b_X10_lots_44 hP hm (pk_le 1000000 j (fun y => by omega) (fun _ => ⟨by omega, sp_choose0 hP hm (Or.inl rfl) x1 ⟨fun _ => ⟨rfl, ?_⟩, fun y => absurd rfl y⟩⟩))
          have hc : j = _ := hc
          rw [hc]
          exact hQ x (cq_W (Or.inl rfl) t1 g) (cx36 t3 t1.1.2 g)
        | cons l K =>
          have hst := wkI_step hok x2
          have hlen := wkI_len x2
          rw [List.length_cons] at hlen
          have hS := (cq_W (Or.inl rfl) t1 g).1
          have hto := wkI_to hok x2 (a := lt_a seed (mv_best W h.2.1 l.1 l.2.1 l.2.2) a)
          refine b_X10_lots_44 hP hm (pk_le 1000000 j (fun y => by omega) (fun _ => ⟨by omega, ?_⟩))
          refine sp_choose hP hm (by omega) (Or.inl rfl) hS x1 x2 x3 b1 (x4 l List.mem_cons_self) fun y y1 y2 y3 => ⟨fun z => absurd z (by decide), fun _ => ⟨by omega, ?_⟩⟩
          refine sp_asksAnswer hP hm y1 (by omega) hst.2.2.1 ?_
          have hc : j + (1 + lt_c W h.2.1 seed f (wk_to (mv_best W h.2.1 l.1 l.2.1 l.2.2) (lt_a seed (mv_best W h.2.1 l.1 l.2.1 l.2.2) a) K) (if mv_ask (mv_best W h.2.1 l.1 l.2.1 l.2.2) = true then a + 1 else a)) = _ := hc
          have fin : ∀ a', a' = (if mv_ask (mv_best W h.2.1 l.1 l.2.1 l.2.2) = true then a + 1 else a) → gc_T P d 0 0 150 86 [.ref 0, .int (nI k), .int seed, .int (nI (ld_ro W k)), .int (nI j), .int (nI a'), .int (lt_a seed (mv_best W h.2.1 l.1 l.2.1 l.2.2) a)] [] y Q := by
            intro a' ha'
            refine b_X10_lots_86 hP hm ⟨by omega, sp_follow hP hm (by omega) (Or.inl rfl) y1 (wkP_32 (Or.inl rfl) x1 y3) (by omega) (by omega) hst.2.2.1 (fun _ => lt_a_or _ _ _) fun w w1 w2 => ?_⟩
            show gc_T P d 0 0 150 44 [.ref 0, .int (nI k), .int seed, .int (nI (ld_ro W k)), .int (nI j + 1), .int (nI a'), .int (lt_a seed (mv_best W h.2.1 l.1 l.2.1 l.2.2) a)] [] w Q
            rw [nI_1]
            have gw : fr (AW 36) (BW 36) x w := fr_trans (AW_32 y3) (AW_V w2)
            rw [← ha'] at hc
            refine ih _ a' (j + 1) w _ (by omega) (by omega) (by rw [ha']; split <;> omega) (fr_trans g gw) w1 hto.1 ?_ (vK_fr (Or.inl rfl) (vK_to hok hS.2 b1 x2 x4) gw) (by omega)
            rw [fr_F w2 rfl, fr_F y3 rfl]
            exact x3
          cases e : mv_ask (mv_best W h.2.1 l.1 l.2.1 l.2.2) with
          | false =>
            rw [e] at fin
            have e2 : lt_a seed (mv_best W h.2.1 l.1 l.2.1 l.2.2) a = 0 := by
              unfold lt_a
              rw [e]
              rfl
            rw [e2] at fin
            exact ⟨fun _ => fin a rfl, fun z => absurd rfl z⟩
          | true =>
            rw [e] at fin
            have e2 : lt_a seed (mv_best W h.2.1 l.1 l.2.1 l.2.2) a = nI (lt_v seed (nI a)) := by
              unfold lt_a
              rw [e]
              rfl
            rw [e2] at fin
            refine ⟨fun z => absurd z (by decide), fun _ => ⟨by omega, sp_lot hP hm (by omega) ?_⟩⟩
            show gc_T P d 0 0 150 86 [.ref 0, .int (nI k), .int seed, .int (nI (ld_ro W k)), .int (nI j), .int (nI a + 1), .int (nI (lt_v seed (nI a)))] [] y Q
            rw [nI_1]
            exact fin (a + 1) rfl
    exact key (wk_T W h.2.1 [(ld_ro W k, h.1, h.2.2)]) _ 0 0 u _ (Nat.le_refl _) (by omega) (Nat.le_refl _) u3 u1 (wkI_1 hok hr.1 hq.2.2.2.1 b2 hD) u2 (vK_fr (Or.inl rfl) (vK_one t2) u3) (Nat.zero_add _)
theorem sp_lotsN (hP : gc_Cl P) (hm : gc_Mo P) (hd : 9 ≤ d) (hq : cq W L v h s) {c seed : Int32} (hc : ∀ k, k < ld_c W → c ≠ nI k) (hQ : Q (some (.int (-1))) s) : gc_T P d 0 0 150 0 [.ref 0, .int c, .int seed, gc_u, gc_u, gc_u, gc_u] [] s Q :=
  b_X10_lots_0 hP hm ⟨by omega, sp_root hP hm hq.1.1 (fun k' hk' e => absurd e (hc k' hk')) (fun _ => ⟨fun y => absurd rfl y, fun _ => ⟨rfl, hQ⟩⟩)⟩
end Qb
