/-! Picking a MOVE by its number. -/
theorem one_at {α : Type} {x m : α} {i : Nat} (h : [x][i]? = some m) : i = 0 ∧ m = x := by
  match i, h with
  | 0, h => exact ⟨rfl, by simpa using h.symm⟩
  | i + 1, h => simp at h
theorem two_at {α : Type} {x y m : α} {i : Nat} (h : [x, y][i]? = some m) : (i = 0 ∧ m = x) ∨ (i = 1 ∧ m = y) := by
  match i, h with
  | 0, h => exact Or.inl ⟨rfl, by simpa using h.symm⟩
  | 1, h => exact Or.inr ⟨rfl, by simpa using h.symm⟩
  | i + 2, h => simp at h
theorem ssd_le : ∀ s, s < 256 → ∀ r, r < 256 → r < ssn s → ssd s r ≤ s := by decide +kernel
theorem bsc_le : ∀ b, b < 8 → ∀ i, i < 8 → bsc b i 3 ≤ b := by decide +kernel
theorem A78_69 {s t : gc_St} (h : fr A78 B0 s t) : fr A69 B33 s t := by
  refine fr_mono (fun q k e => ?_) (fun _ _ => rfl) h
  unfold A69 at e
  unfold A78
  cases e1 : Nat.beq q 32 with
  | false => rfl
  | true =>
    rw [e1] at e
    cases e2 : Nat.beq k 7 with
    | true =>
      rw [Nat.eq_of_beq_eq_true e2] at e
      exact absurd e (by decide)
    | false =>
      cases e3 : Nat.beq k 8 with
      | true =>
        rw [Nat.eq_of_beq_eq_true e3] at e
        exact absurd e (by decide)
      | false => rfl
theorem mvL_fr {W : ld_W} {o p st b : Nat} {s t : gc_St} (h : mvL W o p st b s) (g : fr A69 B33 s t) : mvL W o p st b t :=
  ⟨(fr_F g rfl).trans h.1, (fr_F g rfl).trans h.2.1, (fr_F g rfl).trans h.2.2.1, (fr_F g rfl).trans h.2.2.2.1, (fr_F g rfl).trans h.2.2.2.2⟩
theorem cl_C_mv {W : ld_W} {L : Nat} {s t : gc_St} (h : cl_C W L s) (g : fr A69 B33 s t) : cl_C W L t := cl_C_fr h g hA69.2 (fun a z => hB33 a (by omega))
section Pi
variable {P : gc_Pr} {d : Nat} {s : gc_St} {Q : gc_TQ} {W : ld_W} {L v o p st b : Nat}
/-- one lead, two leads -/
theorem sp_lead1 (hP : gc_Cl P) (hm : gc_Mo P) {k : Nat} {u w : Int32} {x y z : Nat} (h6 : gc_F s 32 6 = nI k) (h7 : gc_F s 32 7 = u) (h8 : gc_F s 32 8 = w) (h0 : lsP [] s) (h : ∀ t, mvP (k, [(x, y, z)], u, w) t → fr A9 B33 s t → Q none t) : gc_T P d 0 0 55 0 [.ref 32, .int (nI x), .int (nI y), .int (nI z)] [] s Q := by
  refine sp_lead hP hm h0 (by decide) fun t t1 t2 => h t ⟨?_, ?_, ?_, t1⟩ t2
  · exact (fr_F t2 rfl).trans h6
  · exact (fr_F t2 rfl).trans h7
  · exact (fr_F t2 rfl).trans h8
theorem sp_lead2 (hP : gc_Cl P) (hm : gc_Mo P) {k : Nat} {u w : Int32} {l : Nat × Nat × Nat} {x y z : Nat} (h1 : mvP (k, [l], u, w) s) (h : ∀ t, mvP (k, [l, (x, y, z)], u, w) t → fr A9 B33 s t → Q none t) : gc_T P d 0 0 55 0 [.ref 32, .int (nI x), .int (nI y), .int (nI z)] [] s Q := by
  refine sp_lead hP hm h1.2.2.2 (by show 1 < 2; decide) fun t t1 t2 => h t ⟨?_, ?_, ?_, t1⟩ t2
  · exact (fr_F t2 rfl).trans h1.1
  · exact (fr_F t2 rfl).trans h1.2.1
  · exact (fr_F t2 rfl).trans h1.2.2.1
theorem sp_pickOwn (hP : gc_Cl P) (hm : gc_Mo P) (hd : 2 ≤ d) (hC : cl_C W L s) (hL : mvL W o p st b s) (hp : p < ld_p W) (hst : st < ld_N W) (hb : b < 8) (e7 : gc_F s 32 7 = -1) (e8 : gc_F s 32 8 = -1) (h0 : lsP [] s) {i : Nat} {m : mv_T} (hi : (mv_own W p st b)[i]? = some m) (h : ∀ t, mvP m t → fr A69 B33 s t → Q none t) : gc_T P d 0 0 54 0 [.ref 32, .int (nI i), gc_u, gc_u, gc_u] [] s Q := by
  have hok := hC.2.2.2.1
  have hN := ld_N_le hok
  have hp24 := hok.1.2.2.2.2
  have hl := hC.2.2.1
  have hpt := hok.2.2.2.2.2 p hp
  have hk7 : ld_kd W p ≤ 7 := by
    unfold ld_pt at hpt
    omega
  have hi2 : i < 2048 := Nat.lt_of_lt_of_le (List.getElem?_eq_some_iff.mp hi).1 (mv_own_len hok hst hb)
  have leaf : ∀ k, m = (k, [], -1, -1) → Q none (gc_wF s 32 6 (nI k)) := by
    intro k e
    rw [e] at h
    refine h _ ⟨F_eq _ _ _ _, ?_, ?_, lsP_wF h0 (Or.inr (by decide))⟩ (fr_wF rfl (fr_refl s))
    · rw [F_ne _ _ (Or.inr (by decide))]
      exact e7
    · rw [F_ne _ _ (Or.inr (by decide))]
      exact e8
  have one : ∀ k x y z, m = (k, [(x, y, z)], -1, -1) → gc_T P (d - 1) 0 0 55 0 [.ref 32, .int (nI x), .int (nI y), .int (nI z)] [] (gc_wF s 32 6 (nI k)) (fun r1 s2 => gc_rv r1 (Q none s2)) := by
    intro k x y z e
    rw [e] at h
    refine sp_lead1 hP hm (F_eq _ _ _ _) ((F_ne _ _ (Or.inr (by decide))).trans e7) ((F_ne _ _ (Or.inr (by decide))).trans e8) (lsP_wF h0 (Or.inr (by decide))) fun t t1 t2 => ?_
    exact h t t1 (fr_trans (fr_wF rfl (fr_refl s)) (A9_69 t2))
  refine b_X4_pickOwn_0 hP hm ?_
  rw [hL.2.1, hL.2.2.1, hL.2.2.2.1, nI_clamp (by omega), hC.2.1, cl_kd hl hp, cl_fi hl hp, cl_se hl hp, nI_toInt (by omega)]
  refine ⟨cl_io hC.1, vp_in_nI (by omega) (by omega), vp_in_nI (by omega) (by omega), vp_in_nI (by omega) (by omega), fun z => ?_, fun z => ?_, fun z => ?_, fun z => ?_, fun z => ⟨by omega, ?_⟩, fun z => ⟨by omega, ?_⟩, fun z => ⟨by omega, ?_⟩, fun z => ⟨by omega, ?_⟩⟩
  · rw [mv_own_0 (by omega)] at hi
    split at hi
    · exact leaf 0 (one_at hi).2
    · simp at hi
  · rw [mv_own_1 (by omega)] at hi
    split at hi
    · exact leaf 1 (one_at hi).2
    · simp at hi
  · rw [mv_own_2 (by omega)] at hi
    exact leaf 2 (one_at hi).2
  · rw [mv_own_3 (by omega)] at hi
    have ef : ld_fI W p = nI (ld_fi W p) := by
      unfold ld_fI
      rw [if_neg (by omega)]
    have es : ld_sI W p = nI (ld_se W p) := by
      unfold ld_sI
      rw [if_pos (by omega)]
    rw [ef, es]
    rcases two_at hi with ⟨rfl, e⟩ | ⟨rfl, e⟩
    · refine ⟨fun y => absurd rfl y, fun _ => b_X4_pickOwn_114 hP hm ⟨fun y => absurd rfl y, fun _ => b_X4_pickOwn_128 hP hm ⟨by omega, ?_⟩⟩⟩
      rw [F_ne _ _ (Or.inr (by decide)), F_ne _ _ (Or.inr (by decide)), hL.2.2.1, hL.2.2.2.1]
      exact one 3 _ _ _ e
    · refine ⟨fun _ => b_X4_pickOwn_114 hP hm ⟨fun _ => b_X4_pickOwn_128 hP hm ⟨by omega, ?_⟩, fun y => absurd y (by decide)⟩, fun y => absurd y (by decide)⟩
      rw [F_ne _ _ (Or.inr (by decide)), F_ne _ _ (Or.inr (by decide)), hL.2.2.1, hL.2.2.2.1]
      exact one 4 _ _ _ e
  · rw [mv_own_4 (by omega)] at hi
    have ef : ld_fI W p = nI (ld_fi W p) := by
      unfold ld_fI
      rw [if_neg (by omega)]
    have es : ld_sI W p = nI (ld_se W p) := by
      unfold ld_sI
      rw [if_pos (by omega)]
    rw [ef, es]
    rw [(one_at hi).2] at h
    refine sp_lead1 hP hm (k := 5) (F_eq _ _ _ _) ((F_ne _ _ (Or.inr (by decide))).trans e7) ((F_ne _ _ (Or.inr (by decide))).trans e8) (lsP_wF h0 (Or.inr (by decide))) fun t t1 t2 => ⟨by omega, ?_⟩
    rw [(fr_F t2 rfl).trans ((F_ne _ _ (Or.inr (by decide))).trans hL.2.2.1), (fr_F t2 rfl).trans ((F_ne _ _ (Or.inr (by decide))).trans hL.2.2.2.1)]
    refine sp_lead2 hP hm t1 fun u u1 u2 => ?_
    exact h u u1 (fr_trans (fr_wF rfl (fr_refl s)) (fr_trans (A9_69 t2) (A9_69 u2)))
  · rw [mv_own_5 (by omega)] at hi
    have hi3 : i < ssn st * 2 ^ sb_n b := by
      have := (List.getElem?_eq_some_iff.mp hi).1
      rw [mv_len5 (by omega) hb] at this
      exact this
    rw [mv_get5 (by omega) hb hi3] at hi
    have hp2 := sb_p2 b hb
    have h1 : i / 2 ^ sb_n b < ssn st := Nat.div_lt_of_lt_mul (by rw [Nat.mul_comm]; exact hi3)
    have h2 : i % 2 ^ sb_n b < 2 ^ sb_n b := Nat.mod_lt _ hp2.1
    have hu := ssd_le st (by omega) _ (by have := (ssn_le st (by omega)).2; omega) h1
    have hc := bsc_le b hb _ (by omega : i % 2 ^ sb_n b < 8)
    simp only [Option.some.injEq] at hi
    rw [← hi] at h
    have ef : ld_fI W p = nI (ld_fi W p) := by
      unfold ld_fI
      rw [if_neg (by omega)]
    have es : ld_sI W p = nI (ld_se W p) := by
      unfold ld_sI
      rw [if_pos (by omega)]
    rw [ef, es]
    refine sp_pickSplit hP hm (by omega) (by omega) hb ((F_ne _ _ (Or.inr (by decide))).trans hL.2.2.1) ((F_ne _ _ (Or.inr (by decide))).trans hL.2.2.2.1) hi3 fun t t1 t2 t3 => ⟨by omega, ?_⟩
    rw [t1, t2]
    refine sp_lead1 hP hm (k := 6) ((fr_F t3 rfl).trans (F_eq _ _ _ _)) t1 t2 ⟨(fr_F t3 rfl).trans ((F_ne _ _ (Or.inr (by decide))).trans h0.1), fun j l hl => by simp at hl⟩ fun x x1 x2 => ⟨by omega, ?_⟩
    rw [(fr_F x2 rfl).trans ((fr_F t3 rfl).trans ((F_ne _ _ (Or.inr (by decide))).trans hL.2.2.1)), (fr_F x2 rfl).trans ((fr_F t3 rfl).trans ((F_ne _ _ (Or.inr (by decide))).trans hL.2.2.2.1)), x1.2.1, x1.2.2.1, pk_sub hu, pk_sub hc]
    refine sp_lead2 hP hm x1 fun y y1 y2 => ?_
    exact h y y1 (fr_trans (fr_wF rfl (fr_refl s)) (fr_trans (A78_69 t3) (fr_trans (A9_69 x2) (A9_69 y2))))
  · rw [mv_own_6 (by omega)] at hi
    have ef : ld_fI W p = nI (ld_fi W p) := by
      unfold ld_fI
      rw [if_neg (by omega)]
    rw [ef]
    split at hi
    · exact one 7 _ 0 0 (one_at hi).2
    · simp at hi
  · have hk : ld_kd W p = 7 := by omega
    rw [mv_own_7 hk] at hi
    have ef : ld_fI W p = nI (ld_fi W p) := by
      unfold ld_fI
      rw [if_neg (by omega)]
    have es : ld_sI W p = nI (ld_se W p) := by
      unfold ld_sI
      rw [if_pos (by omega)]
    rw [ef, es, nI_add]
    split at hi
    · exact one 8 _ _ _ (one_at hi).2
    · simp at hi
end Pi
