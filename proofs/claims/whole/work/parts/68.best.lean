/-! DEPTH by the MOVE that was picked; the step of THE SHOWING. -/
section Db
variable {P : gc_Pr} {d : Nat} {s : gc_St} {Q : gc_TQ} {W : ld_W} {L v o p st b : Nat}
/-- a place whose row is there -/
def vl (W : ld_W) (v o : Nat) (s : gc_St) (l : Nat × Nat × Nat) : Prop := l.1 < ld_p W ∧ l.2.1 < ld_N W ∧ l.2.2 < 8 ∧ gc_I s 24 (cl_num o l.1 l.2.2) = nI v
theorem sp_dby_least (hP : gc_Cl P) (hm : gc_Mo P) (hd : 2 ≤ d) (hS : mvS W L v s) (h1 : gc_F s 32 1 = nI o) (ho : o < 8) {ls : List (Nat × Nat × Nat)} (hls : lsP ls s) {i : Nat} {l : Nat × Nat × Nat} (hi : ls[i]? = some l) (hl : vl W v o s l) (hi2 : i < 2) (h : Q (some (.int (nI (dp_D W o l.1 l.2.1 l.2.2)))) s) :
    gc_T P d 0 0 6 0 [.ref 10, .int (gc_F s 32 1), .int (gc_I s 33 (nI i).toNatClampNeg), .int (gc_I s 34 (nI i).toNatClampNeg), .int (gc_I s 35 (nI i).toNatClampNeg)] [] s Q := by
  obtain ⟨e1, e2, e3⟩ := hls.2 i l hi
  rw [nI_clamp (by omega), h1, e1, e2, e3]
  exact sp_least hP hm hd hS.1.2.2.2.1 hS.2 ho hl.1 hl.2.2.1 hl.2.1 hl.2.2.2 h
theorem sp_depthByIt (hP : gc_Cl P) (hm : gc_Mo P) (hd : 3 ≤ d) (hS : mvS W L v s) (h1 : gc_F s 32 1 = nI o) (ho : o < 8) {m : mv_T} (hmp : mvP m s) (hlen : m.2.1.length ≤ 2) (hl : ∀ l, l ∈ m.2.1 → vl W v o s l) (h : Q (some (.int (nI (dp_by W o m)))) s) : gc_T P d 0 0 59 0 [.ref 32, gc_u, gc_u, gc_u] [] s Q := by
  have hok := hS.1.2.2.2.1
  have hD : ∀ l, l ∈ m.2.1 → dp_D W o l.1 l.2.1 l.2.2 ≤ 92160 := fun l z => dp_D_max hok (hl l z).1 (hl l z).2.1 (hl l z).2.2.1
  refine b_X4_depthByIt_0 hP hm ?_
  unfold dp_by at h
  have h9 := hmp.2.2.2
  generalize m.2.1 = ls at h9 hlen hl h hD
  have fin : ∀ x l3, gc_T P d 0 0 59 4 [.ref 32, .int (nI x), .int (nI ls.length), l3] [] s Q ∨ ¬ Q (some (.int (nI (x + 1)))) s := by
    intro x l3
    by_cases z : Q (some (.int (nI (x + 1)))) s
    · refine Or.inl (b_X4_depthByIt_4 hP hm ?_)
      rw [h9.1]
      refine pk_le ls.length ls.length (fun _ => ?_) (fun y => by omega)
      rw [nI_1]
      exact z
    · exact Or.inr z
  have fin : ∀ x l3, Q (some (.int (nI (x + 1)))) s → gc_T P d 0 0 59 4 [.ref 32, .int (nI x), .int (nI ls.length), l3] [] s Q := fun x l3 z => (fin x l3).resolve_right (fun y => y z)
  have step : ∀ i l x l3, ls[i]? = some l → i < 2 → x < 2 ^ 31 → (dp_D W o l.1 l.2.1 l.2.2 = 0 → Q (some (.int 0)) s) → (dp_D W o l.1 l.2.1 l.2.2 ≠ 0 → ∀ l3, gc_T P d 0 0 59 4 [.ref 32, .int (nI (if x < dp_D W o l.1 l.2.1 l.2.2 then dp_D W o l.1 l.2.1 l.2.2 else x)), .int (nI (i + 1)), l3] [] s Q) → gc_T P d 0 0 59 4 [.ref 32, .int (nI x), .int (nI i), l3] [] s Q := by
    intro i l x l3 hi hi2 hx z1 z2
    have hlt := (List.getElem?_eq_some_iff.mp hi).1
    have hmem : l ∈ ls := List.mem_of_getElem? hi
    have hDl := hD l hmem
    refine b_X4_depthByIt_4 hP hm ?_
    rw [h9.1]
    refine pk_le ls.length i (fun y => by omega) (fun _ => pk_le 2 i (fun y => by omega) (fun _ => ⟨vp_in_nI hi2 (by omega), vp_in_nI hi2 (by omega), vp_in_nI hi2 (by omega), by omega, ?_⟩))
    refine sp_dby_least hP hm (by omega) hS h1 ho h9 hi (hl l hmem) hi2 ⟨fun y => ⟨by omega, ?_⟩, fun y => ?_⟩
    · have y2 : dp_D W o l.1 l.2.1 l.2.2 ≠ 0 := fun e => y (by rw [e]; rfl)
      have := z2 y2 (.int (nI (dp_D W o l.1 l.2.1 l.2.2)))
      by_cases e : x < dp_D W o l.1 l.2.1 l.2.2
      · rw [if_pos e] at this
        rw [if_pos ((nI_ltI hx (by omega)).mpr e), nI_1]
        exact this
      · rw [if_neg e] at this
        rw [if_neg (fun c => e ((nI_ltI hx (by omega)).mp c)), nI_1]
        exact this
    · rw [show (0 : Int32) = nI 0 from rfl, nI_eq (by omega) (by omega)] at y
      exact z1 y
  match ls, hlen, h, hD, fin, step with
  | [], _, h, _, fin, _ => exact fin 0 gc_u h
  | [l], _, h, hD, fin, step =>
    have h : Q (some (.int (nI (dp_one (dp_D W o l.1 l.2.1 l.2.2))))) s := h
    unfold dp_one at h
    refine step 0 l 0 gc_u rfl (by decide) (by decide) (fun z => ?_) (fun z l3 => ?_)
    · rw [if_pos z] at h
      exact h
    · rw [if_neg z] at h
      rw [if_pos (by omega)]
      exact fin _ l3 h
  | [l, k], _, h, hD, fin, step =>
    have h : Q (some (.int (nI (dp_both (dp_D W o l.1 l.2.1 l.2.2) (dp_D W o k.1 k.2.1 k.2.2))))) s := h
    have hDl := hD l (by simp)
    have hDk := hD k (by simp)
    unfold dp_both at h
    refine step 0 l 0 gc_u rfl (by decide) (by decide) (fun z => ?_) (fun z l3 => ?_)
    · rw [if_pos (Or.inl z)] at h
      exact h
    · rw [if_pos (by omega)]
      refine step 1 k _ l3 rfl (by decide) (by omega) (fun z2 => ?_) (fun z2 l4 => ?_)
      · rw [if_pos (Or.inr z2)] at h
        exact h
      · rw [if_neg (by omega)] at h
        refine fin _ l4 ?_
        by_cases e : dp_D W o l.1 l.2.1 l.2.2 < dp_D W o k.1 k.2.1 k.2.2
        · rw [if_pos e]
          rw [if_neg (by omega)] at h
          exact h
        · rw [if_neg e]
          by_cases e2 : dp_D W o k.1 k.2.1 k.2.2 < dp_D W o l.1 l.2.1 l.2.2
          · rw [if_pos e2] at h
            exact h
          · rw [if_neg e2] at h
            rw [show dp_D W o l.1 l.2.1 l.2.2 = dp_D W o k.1 k.2.1 k.2.2 by omega]
            exact h
  | _ :: _ :: _ :: _, hlen, _, _, _, _ => simp at hlen
/-- the first of what it leads to that can't be shown -/
def spt (l : Nat × Nat × Nat) : Nat := 2048 * l.1 + 8 * l.2.1 + l.2.2
noncomputable def dp_un (W : ld_W) (o : Nat) (ls : List (Nat × Nat × Nat)) : Int32 := match ls with
  | [] => -2
  | l :: r => if dp_D W o l.1 l.2.1 l.2.2 = 0 then nI (spt l) else (match r with
    | [] => -2
    | k :: _ => if dp_D W o k.1 k.2.1 k.2.2 = 0 then nI (spt k) else -2)
theorem sp_firstUnshown (hP : gc_Cl P) (hm : gc_Mo P) (hd : 3 ≤ d) (hS : mvS W L v s) (h1 : gc_F s 32 1 = nI o) (ho : o < 8) {m : mv_T} (hmp : mvP m s) (hlen : m.2.1.length ≤ 2) (hl : ∀ l, l ∈ m.2.1 → vl W v o s l) (h : Q (some (.int (dp_un W o m.2.1))) s) : gc_T P d 0 0 60 0 [.ref 32, gc_u] [] s Q := by
  have hok := hS.1.2.2.2.1
  have hD : ∀ l, l ∈ m.2.1 → dp_D W o l.1 l.2.1 l.2.2 ≤ 92160 := fun l z => dp_D_max hok (hl l z).1 (hl l z).2.1 (hl l z).2.2.1
  refine b_X4_firstUnshown_0 hP hm ?_
  have h9 := hmp.2.2.2
  generalize m.2.1 = ls at h9 hlen hl h hD
  have fin : Q (some (.int (-2))) s → gc_T P d 0 0 60 2 [.ref 32, .int (nI ls.length)] [] s Q := by
    intro z
    refine b_X4_firstUnshown_2 hP hm ?_
    rw [h9.1]
    exact pk_le ls.length ls.length (fun _ => z) (fun y => by omega)
  have step : ∀ i l, ls[i]? = some l → i < 2 → (dp_D W o l.1 l.2.1 l.2.2 = 0 → Q (some (.int (nI (spt l)))) s) → (dp_D W o l.1 l.2.1 l.2.2 ≠ 0 → gc_T P d 0 0 60 2 [.ref 32, .int (nI (i + 1))] [] s Q) → gc_T P d 0 0 60 2 [.ref 32, .int (nI i)] [] s Q := by
    intro i l hi hi2 z1 z2
    have hlt := (List.getElem?_eq_some_iff.mp hi).1
    have hmem : l ∈ ls := List.mem_of_getElem? hi
    have hDl := hD l hmem
    refine b_X4_firstUnshown_2 hP hm ?_
    rw [h9.1]
    refine pk_le ls.length i (fun y => by omega) (fun _ => pk_le 2 i (fun y => by omega) (fun _ => ⟨vp_in_nI hi2 (by omega), vp_in_nI hi2 (by omega), vp_in_nI hi2 (by omega), by omega, ?_⟩))
    refine sp_dby_least hP hm (by omega) hS h1 ho h9 hi (hl l hmem) hi2 ⟨fun y => ?_, fun y => ⟨vp_in_nI hi2 (by omega), vp_in_nI hi2 (by omega), vp_in_nI hi2 (by omega), ?_⟩⟩
    · rw [nI_1]
      exact z2 (fun e => y (by rw [e]; rfl))
    · rw [show (0 : Int32) = nI 0 from rfl, nI_eq (by omega) (by omega)] at y
      obtain ⟨e1, e2, e3⟩ := h9.2 i l hi
      rw [nI_clamp (by omega), e1, e2, e3, st_lit 2048, pk_mul, st_lit 8, pk_mul, nI_add, nI_add]
      exact z1 y
  match ls, hlen, h, fin, step with
  | [], _, h, fin, _ => exact fin h
  | [l], _, h, fin, step =>
    have h : Q (some (.int (if dp_D W o l.1 l.2.1 l.2.2 = 0 then nI (spt l) else -2))) s := h
    refine step 0 l rfl (by decide) (fun z => ?_) (fun z => ?_)
    · rw [if_pos z] at h
      exact h
    · rw [if_neg z] at h
      exact fin h
  | [l, k], _, h, fin, step =>
    have h : Q (some (.int (if dp_D W o l.1 l.2.1 l.2.2 = 0 then nI (spt l) else (if dp_D W o k.1 k.2.1 k.2.2 = 0 then nI (spt k) else -2)))) s := h
    refine step 0 l rfl (by decide) (fun z => ?_) (fun z => ?_)
    · rw [if_pos z] at h
      exact h
    · rw [if_neg z] at h
      refine step 1 k rfl (by decide) (fun z2 => ?_) (fun z2 => ?_)
      · rw [if_pos z2] at h
        exact h
      · rw [if_neg z2] at h
        exact fin h
  | _ :: _ :: _ :: _, hlen, _, _, _ => simp at hlen
/-- all that a place's MOVES lead to has its row -/
theorem vl_mv (hok : ld_ok W) (hR : cl_rows W v s) (ho : o < 8) (hp : p < ld_p W) (hst : st < ld_N W) (hb : b < 8) (hv : gc_I s 24 (cl_num o p b) = nI v) {m : mv_T} (hmv : m ∈ mv_all W o p st b) : m.2.1.length ≤ 2 ∧ ∀ l, l ∈ m.2.1 → vl W v o s l := by
  have h1 := mv_ld hok hp hst hb hmv
  refine ⟨h1.1, fun l hl => ?_⟩
  obtain ⟨g1, g2, g3, g4, g5⟩ := h1.2 l hl
  exact ⟨by omega, g3, g4, (hR.2.2.2 o p b ho hp hb hv).2 l.1 l.2.2 g1 g2 g4 g5⟩
theorem mvS_mv (h : mvS W L v s) {t : gc_St} (g : fr A69 B33 s t) : mvS W L v t := mvS_fr h g hA69 hB33
theorem mv_all_le (hok : ld_ok W) (hst : st < ld_N W) (hb : b < 8) : (mv_all W o p st b).length ≤ 2054 := by
  rw [mv_all_len]
  have h1 := mv_own_len (p := p) hok hst hb
  have h2 : ((List.range (ld_o W)).filterMap (mv_oath W o p st b)).length ≤ 3 := Nat.le_trans (List.length_filterMap_le _ _) (by rw [List.length_range]; exact hok.1.2.1)
  have h3 : ((List.range (ld_b W)).filterMap (mv_barg W p st b)).length ≤ 3 := Nat.le_trans (List.length_filterMap_le _ _) (by rw [List.length_range]; exact hok.1.2.2.1)
  omega
theorem sp_pickBest (hP : gc_Cl P) (hm : gc_Mo P) (hd : 4 ≤ d) (hS : mvS W L v s) (hL : mvL W o p st b s) (ho : o < 8) (hp : p < ld_p W) (hst : st < ld_N W) (hb : b < 8) (hv : gc_I s 24 (cl_num o p b) = nI v) (hD : dp_D W o p st b ≠ 0) (h : ∀ t, mvP (mv_best W o p st b) t → fr A69 B33 s t → Q (some (.int 1)) t) : gc_T P d 0 0 61 0 [.ref 32, gc_u, gc_u, gc_u] [] s Q := by
  have hok := hS.1.2.2.2.1
  have hDm := dp_D_max (o := o) hok hp hst hb
  have hle := mv_all_le (o := o) (p := p) hok hst hb
  obtain ⟨b1, b2, b3⟩ := mv_best_at hok hp hst hb hD
  have hlt := mv_bi_lt hok hp hst hb hD
  refine b_X4_pickBest_0 hP hm ⟨by omega, ?_⟩
  rw [hL.1, hL.2.1, hL.2.2.1, hL.2.2.2.1]
  refine sp_least hP hm (by omega) hok hS.2 ho hp hb hst hv ⟨by omega, ?_⟩
  refine sp_total hP hm (by omega) hS.1 hL ho hb hst ?_
  have key : ∀ n i, i + n = mv_bi W o p st b → ∀ t, fr A69 B33 s t → gc_T P d 0 0 61 31 [.ref 32, .int (nI (dp_D W o p st b)), .int (nI (mv_all W o p st b).length), .int (nI i)] [] t Q := by
    intro n
    induction n with
    | zero =>
      intro i hi t g
      obtain rfl : i = mv_bi W o p st b := by omega
      have hSt := mvS_mv hS g
      refine b_X4_pickBest_31 hP hm (pk_le (dp_D W o p st b) 0 (fun z => by omega) (fun _ => pk_le (mv_all W o p st b).length (mv_bi W o p st b) (fun z => by omega) (fun _ => ⟨by omega, ?_⟩)))
      refine sp_pick hP hm (by omega) hSt.1 (mvL_fr hL g) ho hp hst hb (by omega) (fun m u u1 u2 u3 => ⟨fun y => absurd y (by decide), fun _ => ⟨by omega, ?_⟩⟩) (fun u u1 _ => ?_)
      · rw [b1] at u1
        simp only [Option.some.injEq] at u1
        subst u1
        have g2 := fr_trans g u3
        have hSu := mvS_mv hS g2
        have hvu : gc_I u 24 (cl_num o p b) = nI v := by
          rw [fr_I g2 rfl]
          exact hv
        obtain ⟨w1, w2⟩ := vl_mv hok hSu.2 ho hp hst hb hvu b2
        refine sp_depthByIt hP hm (by omega) hSu ((fr_F g2 rfl).trans hL.1) ho u2 w1 w2 ⟨fun y => absurd (by rw [b3]) y, fun _ => h u u2 g2⟩
      · rw [b1] at u1
        simp at u1
    | succ n ih =>
      intro i hi t g
      have hSt := mvS_mv hS g
      have hil : i < (mv_all W o p st b).length := by omega
      refine b_X4_pickBest_31 hP hm (pk_le (dp_D W o p st b) 0 (fun z => by omega) (fun _ => pk_le (mv_all W o p st b).length i (fun z => by omega) (fun _ => ⟨by omega, ?_⟩)))
      refine sp_pick hP hm (by omega) hSt.1 (mvL_fr hL g) ho hp hst hb (by omega) (fun m u u1 u2 u3 => ⟨fun y => absurd y (by decide), fun _ => ⟨by omega, ?_⟩⟩) (fun u u1 _ => ?_)
      · have g2 := fr_trans g u3
        have hSu := mvS_mv hS g2
        have hvu : gc_I u 24 (cl_num o p b) = nI v := by
          rw [fr_I g2 rfl]
          exact hv
        have hmem : m ∈ mv_all W o p st b := List.mem_of_getElem? u1
        obtain ⟨w1, w2⟩ := vl_mv hok hSu.2 ho hp hst hb hvu hmem
        have hne := mv_bi_min (i := i) (by omega) u1
        have hby := dp_by_le (o := o) hok hp hst hb hmem
        refine sp_depthByIt hP hm (by omega) hSu ((fr_F g2 rfl).trans hL.1) ho u2 w1 w2 ⟨fun _ => b_X4_pickBest_58 hP hm ?_, fun y => ?_⟩
        · rw [nI_1]
          exact ih (i + 1) (by omega) u g2
        · rw [nI_eq (by omega) (by omega)] at y
          exact absurd y hne
      · rw [List.getElem?_eq_getElem hil] at u1
        simp at u1
  exact key (mv_bi W o p st b) 0 (by omega) s (fr_refl s)
/-- whether the other side is asked -/
def mv_ask (m : mv_T) : Bool := Nat.ble 20 m.1 && Nat.beq m.2.1.length 2
theorem sp_asksAnswer (hP : gc_Cl P) (hm : gc_Mo P) {m : mv_T} (hmp : mvP m s) (h1 : m.1 < 2 ^ 31) (h2 : m.2.1.length ≤ 2) (h : Q (some (.int (cb (mv_ask m)))) s) : gc_T P d 0 0 62 0 [.ref 32] [] s Q := by
  refine b_X4_asksAnswer_0 hP hm ?_
  rw [hmp.1, hmp.2.2.2.1]
  unfold mv_ask at h
  refine pk_lt m.1 20 (fun z => ?_) (fun z => ?_)
  · rw [nble z] at h
    exact h
  · rw [Nat.ble_eq_true_of_le z] at h
    rw [show (2 : Int32) = nI 2 from rfl, nI_eq (by omega) (by omega)]
    refine ⟨fun y => ?_, fun y => ?_⟩
    · rw [beq_f y] at h
      exact h
    · rw [y] at h
      exact h
/-- what is told of the step -/
def mv_tell (p st b : Nat) (m : mv_T) (w : Nat) : Int32 := match w with
  | 0 => nI m.1
  | 1 => nI p
  | 2 => nI st
  | 3 => nI b
  | 4 => m.2.2.1
  | _ => m.2.2.2
theorem sp_tell (hP : gc_Cl P) (hm : gc_Mo P) (hL : mvL W o p st b s) {m : mv_T} (hmp : mvP m s) {w : Nat} (hw : w < 6) (h : Q (some (.int (mv_tell p st b m w))) s) : gc_T P d 0 0 63 0 [.ref 32, .int (nI w)] [] s Q := by
  refine b_X4_tell_0 hP hm ?_
  rw [hL.2.1, hL.2.2.1, hL.2.2.2.1, hmp.1, hmp.2.1, hmp.2.2.1, nI_toInt (by omega)]
  refine ⟨fun z => ?_, fun z => ?_, fun z => ?_, fun z => ?_, fun z => ?_, fun z => ?_, fun z => by omega⟩
  · obtain rfl : w = 0 := by omega
    exact h
  · obtain rfl : w = 1 := by omega
    exact h
  · obtain rfl : w = 2 := by omega
    exact h
  · obtain rfl : w = 3 := by omega
    exact h
  · obtain rfl : w = 4 := by omega
    exact h
  · obtain rfl : w = 5 := by omega
    exact h
end Db
