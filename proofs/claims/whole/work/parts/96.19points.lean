/-! A POINT more, on both sides. -/
def np (W : ld_W) (kd fi se lo : Nat) : ld_W := fun a x => if a = 0 then (if x = 4 then W 0 4 + 1 else W 0 x) else if x = W 0 4 then (if a = 7 then kd else if a = 8 then fi else if a = 9 then se else if a = 10 then lo else W a x) else W a x
/-- more POINTS, nothing else -/
def ex (W W' : ld_W) : Prop := (∀ k, k ≠ 4 → W' 0 k = W 0 k) ∧ (∀ a, a ≠ 0 → a ≠ 7 → a ≠ 8 → a ≠ 9 → a ≠ 10 → W' a = W a) ∧ ld_p W ≤ ld_p W' ∧ ∀ a p, a ≠ 0 → p < ld_p W → W' a p = W a p
section Np
variable {W W' W2 : ld_W} {kd fi se lo : Nat}
theorem np_c {k : Nat} (h : k ≠ 4) : np W kd fi se lo 0 k = W 0 k := by
  unfold np
  rw [if_pos rfl, if_neg h]
theorem np_p : ld_p (np W kd fi se lo) = ld_p W + 1 := by
  show np W kd fi se lo 0 4 = W 0 4 + 1
  unfold np
  rw [if_pos rfl, if_pos rfl]
theorem np_o {a x : Nat} (h : a ≠ 0) (hx : x ≠ ld_p W) : np W kd fi se lo a x = W a x := by
  unfold np
  rw [if_neg h, if_neg hx]
theorem np_a {a : Nat} (h : a ≠ 0) (h7 : a ≠ 7) (h8 : a ≠ 8) (h9 : a ≠ 9) (h10 : a ≠ 10) : np W kd fi se lo a = W a := by
  funext x
  unfold np
  rw [if_neg h, if_neg h7, if_neg h8, if_neg h9, if_neg h10]
  split <;> rfl
theorem np_7 : ld_kd (np W kd fi se lo) (ld_p W) = kd := by
  show np W kd fi se lo 7 (W 0 4) = kd
  unfold np
  rw [if_neg (by decide), if_pos rfl, if_pos rfl]
theorem np_8 : ld_fi (np W kd fi se lo) (ld_p W) = fi := by
  show np W kd fi se lo 8 (W 0 4) = fi
  unfold np
  rw [if_neg (by decide), if_pos rfl, if_neg (by decide), if_pos rfl]
theorem np_9 : ld_se (np W kd fi se lo) (ld_p W) = se := by
  show np W kd fi se lo 9 (W 0 4) = se
  unfold np
  rw [if_neg (by decide), if_pos rfl, if_neg (by decide), if_neg (by decide), if_pos rfl]
theorem np_10 : ld_lo (np W kd fi se lo) (ld_p W) = lo := by
  show np W kd fi se lo 10 (W 0 4) = lo
  unfold np
  rw [if_neg (by decide), if_pos rfl, if_neg (by decide), if_neg (by decide), if_neg (by decide), if_pos rfl]
theorem ex_refl : ex W W := ⟨fun _ _ => rfl, fun _ _ _ _ _ _ => rfl, Nat.le_refl _, fun _ _ _ _ => rfl⟩
theorem ex_np : ex W (np W kd fi se lo) := ⟨fun _ h => np_c h, fun _ h h7 h8 h9 h10 => np_a h h7 h8 h9 h10, by rw [np_p]; exact Nat.le_succ _, fun a p h hp => np_o h (by omega)⟩
theorem ex_trans (h : ex W W') (g : ex W' W2) : ex W W2 := ⟨fun k e => (g.1 k e).trans (h.1 k e), fun a e e7 e8 e9 e10 => (g.2.1 a e e7 e8 e9 e10).trans (h.2.1 a e e7 e8 e9 e10), Nat.le_trans h.2.2.1 g.2.2.1, fun a p e hp => (g.2.2.2 a p e (Nat.lt_of_lt_of_le hp h.2.2.1)).trans (h.2.2.2 a p e hp)⟩
theorem told_ex (h : W' 11 = W 11) : ∀ g, told W' g = told W g := by
  intro g
  induction g with
  | zero => rfl
  | succ g ih =>
    unfold told
    rw [ih, h]
theorem pt_ex (h : ex W W') {p : Nat} (hp : p < ld_p W) (hpt : ld_pt W p) : ld_pt W' p := by
  have e7 : ld_kd W' p = ld_kd W p := h.2.2.2 7 p (by decide) hp
  have e8 : ld_fi W' p = ld_fi W p := h.2.2.2 8 p (by decide) hp
  have e9 : ld_se W' p = ld_se W p := h.2.2.2 9 p (by decide) hp
  have e10 : ∀ q, q < ld_p W → ld_lo W' q = ld_lo W q := fun q hq => h.2.2.2 10 q (by decide) hq
  have eg : ld_g W' = ld_g W := h.1 0 (by decide)
  unfold ld_pt at hpt ⊢
  rw [e7, e8, e9, e10 p hp, eg, show ld_N W' = ld_N W from by unfold ld_N; rw [eg]]
  rcases hpt with h1 | ⟨h1, h2, h3, h4, h5⟩ | ⟨h1, h2, h3⟩ | ⟨h1, h2, h3, h4⟩
  · exact Or.inl h1
  · refine Or.inr (Or.inl ⟨h1, h2, h3, ?_, ?_⟩)
    · rw [e10 _ (by omega)]
      exact h4
    · rw [e10 _ (by omega)]
      exact h5
  · refine Or.inr (Or.inr (Or.inl ⟨h1, h2, ?_⟩))
    rw [e10 _ (by omega)]
    exact h3
  · refine Or.inr (Or.inr (Or.inr ⟨h1, h2, ?_, h4⟩))
    rw [e10 _ (by omega)]
    exact h3
theorem fI_ex (h : ex W W') {p : Nat} (hp : p < ld_p W) : ld_fI W' p = ld_fI W p ∧ ld_sI W' p = ld_sI W p ∧ ld_kd W' p = ld_kd W p ∧ ld_lo W' p = ld_lo W p := by
  have e7 : ld_kd W' p = ld_kd W p := h.2.2.2 7 p (by decide) hp
  have e8 : ld_fi W' p = ld_fi W p := h.2.2.2 8 p (by decide) hp
  have e9 : ld_se W' p = ld_se W p := h.2.2.2 9 p (by decide) hp
  have e10 : ld_lo W' p = ld_lo W p := h.2.2.2 10 p (by decide) hp
  unfold ld_fI ld_sI
  rw [e7, e8, e9, e10]
  exact ⟨rfl, rfl, rfl, rfl⟩
end Np
def kI1 (kd fi : Nat) : Int32 := if kd = 1 ∨ kd = 2 then -1 else nI fi
def kI2 (kd se : Nat) : Int32 := if kd = 3 ∨ kd = 4 ∨ kd = 5 ∨ kd = 7 then nI se else -1
theorem np_fI {W : ld_W} {kd fi se lo : Nat} : ld_fI (np W kd fi se lo) (ld_p W) = kI1 kd fi ∧ ld_sI (np W kd fi se lo) (ld_p W) = kI2 kd se := by
  unfold ld_fI ld_sI kI1 kI2
  rw [np_7, np_8, np_9]
  exact ⟨rfl, rfl⟩
theorem A4L_i {L q k : Nat} (h : A4L L q k = true) : q = L ∧ k = 4 := by
  unfold A4L at h
  rw [Bool.and_eq_true, Nat.beq_eq, Nat.beq_eq] at h
  exact h
theorem BpL_i {L a : Nat} (hL : cl_L L) (h : BpL L a = true) : L + 7 ≤ a ∧ a ≤ L + 10 := by
  unfold BpL at h
  simp only [Bool.or_eq_true, Nat.beq_eq] at h
  rw [rS_eq hL 13 (by decide) (by decide), rS_eq hL 14 (by decide) (by decide), rS_eq hL 15 (by decide) (by decide), rS_eq hL 16 (by decide) (by decide)] at h
  omega
section Zu
variable {s s0 t : gc_St} {L m o : Nat} {nc : List (List Nat × Nat × Nat)} {W W' : ld_W} {r : Option (Nat × Nat)}
/-- the class's law changed, nothing else -/
theorem zB_up {o' : Nat} (h : zB L m nc s0 W r o s) (g : fr (AcL L) (BcL L) s t) (hF : ∀ k, gc_F t 3 k = gc_F s 3 k) (h9 : gc_F t 9 2 = nI o') (hn1 : gc_F t L 6 = gc_F s L 6) (hn2 : gc_J t (gc_rS L 17) = gc_J s (gc_rS L 17)) (hn3 : gc_I t (gc_rS L 18) = gc_I s (gc_rS L 18)) (hc : cnC W' L t) (hl : r = none → lwC W' L t) : zB L m nc s0 W' r o' t := by
  obtain ⟨h1, ⟨h2, h3⟩, h4, ⟨h5, h6, h7⟩, h8, ⟨nx, g9, h10, h11, h12⟩, h13⟩ := h
  exact ⟨fr_trans h1 g, ⟨(hF 11).trans h2, (hF 12).trans h3⟩, sfC_of h4 (hF 14) (hF 15), ⟨h5, (fr_rl g).trans h6, h9⟩, hc, ⟨nx, nmC_of g9 hn1 hn2 hn3, h10, h11, h12⟩, hl⟩
end Zu
section Zp
variable {P : gc_Pr} {d : Nat} {s s0 : gc_St} {Q : gc_TQ} {b : Nat → Nat} {n T L sd m i o : Nat} {nc : List (List Nat × Nat × Nat)} {W : ld_W} {r : Option (Nat × Nat)}
theorem z_point (hP : gc_Cl P) (hm : gc_Mo P) (hd : 1 ≤ d) {kd fi se lo : Nat} {l2 l3 : Int32} (hkd : kd ≤ 7) (hp24 : ld_p W ≤ 24) (h : zC b n T L m nc s0 i W r o s) (hi : 1 ≤ i) (hl2 : r = none → l2 = kI1 kd fi) (hl3 : r = none → l3 = kI2 kd se) (hlo : kd < 3 → lo = ld_p W) (hlo2 : 3 ≤ kd → ∃ q, q < ld_p W ∧ l2 = nI q ∧ lo = ld_lo W q)
    (h1 : ∀ t, ld_p W < 24 → zC b n T L m nc s0 i (np W kd fi se lo) r o t → Q (some (.int (nI (ld_p W)))) t) (h2 : ∀ t, ld_p W = 24 → zFC L s0 2 (tk_st b n (i - 1)) t → Q (some (.int (-1))) t) : gc_T P d 0 0 45 0 [.ref 9, .int (nI kd), .int l2, .int l3, gc_u] [] s Q := by
  have h' := h
  obtain ⟨c1, c2, g1, ⟨g2, g3⟩, g4, ⟨g5, g6, g7⟩, g8, ⟨nx, g9, g10, g11, g12⟩, g13⟩ := h'
  have hn := cL_ne g5
  refine b_X3_newPoint_0 hP hm ⟨L, g6, cl_io g5, hd, ?_⟩
  by_cases hlt : ld_p W < 24
  · have hex : ∃ lo' : Int32, (kd < 3 → lo' = nI (ld_p W)) ∧ (3 ≤ kd → ∃ q, q < ld_p W ∧ l2 = nI q ∧ lo' = gc_I s (gc_rS L 16) q ∧ lo = ld_lo W q) := by
      by_cases z : kd < 3
      · exact ⟨nI (ld_p W), fun _ => rfl, fun y => by omega⟩
      · obtain ⟨q, q1, q2, q3⟩ := hlo2 (by omega)
        exact ⟨_, fun y => by omega, fun _ => ⟨q, q1, q2, rfl, q3⟩⟩
    obtain ⟨lo', e1, e2⟩ := hex
    refine sp_addPoint hP hm g5 (lo := lo') hlt g8.2.2.2.2 (fun z => e1 ?_) (fun z z2 => ?_) fun t t1 t2 t3 t4 => ⟨fun _ => h1 t hlt ?_, fun z => absurd z (nI_nm1 (by omega))⟩
    · rcases z with z | z
      · exact (nI_ltI (b := 3) (by omega) (by decide)).mp z
      · refine Decidable.byContradiction fun y => ?_
        obtain ⟨q, q1, q2, _⟩ := e2 (by omega)
        rw [q2] at z
        exact nI_pos (by omega) z
    · obtain ⟨q, q1, q2, q3, _⟩ := e2 (Decidable.byContradiction fun y => z (nI_lt (b := 3) (by omega) (by decide)))
      exact ⟨q, q1, q2, q3⟩
    · have hF3 : ∀ q k, q ≠ L → gc_F t q k = gc_F s q k := fun q k e => fr_F t1 (bf fun z => e (A4L_i z).1)
      have hFL : ∀ k, k ≠ 4 → gc_F t L k = gc_F s L k := fun k e => fr_F t1 (bf fun z => e (A4L_i z).2)
      have hI : ∀ a, (a < L + 7 ∨ L + 10 < a) → gc_I t a = gc_I s a := fun a e => fr_I t1 (bf fun z => by
        have := BpL_i g5 z
        omega)
      have hJ : ∀ a, (a < L + 7 ∨ L + 10 < a) → gc_J t a = gc_J s a := fun a e => fr_J t1 (bf fun z => by
        have := BpL_i g5 z
        omega)
      have rS := rS_eq g5
      have hL11 : 11 ≤ L := by rcases g5 with e | e <;> omega
      refine ⟨cpw_fr c1 t1 (bf fun z => hn.1 (A4L_i z).1.symm) (fun a a1 a2 => bf fun z => by have := BpL_i g5 z; omega), fun y => (hF3 3 8 (fun e => hn.1 e.symm)).trans (c2 y), zB_up h.2.2 (fr_up t1 (fun q k z => AcL_iff.mpr (Or.inr (Or.inr (A4L_i z).1))) (fun a z => BcL_iff.mpr (by have := BpL_i g5 z; omega))) (fun k => hF3 3 k (fun e => hn.1 e.symm)) ((hF3 9 2 (fun e => hn.2.1 e.symm)).trans g7) (hFL 6 (by decide)) (hJ _ (by rw [rS 17 (by decide) (by decide)]; omega)) (hI _ (by rw [rS 18 (by decide) (by decide)]; omega)) ?_ (fun z => ?_)⟩
      · refine ⟨?_, ?_, ?_, ?_, ?_⟩
        · rw [hFL 0 (by decide), g8.1]
          exact congrArg nI (np_c (show (0 : Nat) ≠ 4 by decide)).symm
        · rw [hFL 1 (by decide), g8.2.1]
          exact congrArg nI (np_c (show (1 : Nat) ≠ 4 by decide)).symm
        · rw [hFL 2 (by decide), g8.2.2.1]
          exact congrArg nI (np_c (show (2 : Nat) ≠ 4 by decide)).symm
        · rw [hFL 3 (by decide), g8.2.2.2.1]
          exact congrArg nI (np_c (show (3 : Nat) ≠ 4 by decide)).symm
        · rw [t2, np_p]
      · obtain ⟨⟨⟨f0, f1, f2, f3, f4⟩, w1, w2, w3, w4⟩, w5⟩ := g13 z
        have c0 : ∀ k, k ≠ 4 → np W kd fi se lo 0 k = W 0 k := fun k e => np_c e
        have ca : ∀ a, a ≠ 0 → a ≠ 7 → a ≠ 8 → a ≠ 9 → a ≠ 10 → np W kd fi se lo a = W a := fun a e e7 e8 e9 e10 => np_a e e7 e8 e9 e10
        refine ⟨⟨⟨?_, ?_, ?_, ?_, ?_⟩, fun g hg => ?_, fun k hk => ?_, fun c hc => ?_, fun p hp => ?_⟩, ?_⟩
        · rw [hFL 0 (by decide), f0]
          show _ = nI (np W kd fi se lo 0 0)
          rw [c0 0 (by decide)]
        · rw [hFL 1 (by decide), f1]
          show _ = nI (np W kd fi se lo 0 1)
          rw [c0 1 (by decide)]
        · rw [hFL 2 (by decide), f2]
          show _ = nI (np W kd fi se lo 0 2)
          rw [c0 2 (by decide)]
        · rw [hFL 3 (by decide), f3]
          show _ = nI (np W kd fi se lo 0 3)
          rw [c0 3 (by decide)]
        · rw [t2, np_p]
        · show gc_I t (gc_rS L 7) g = nI (np W kd fi se lo 1 g)
          have hg' : g < W 0 0 := by
            have hh : g < np W kd fi se lo 0 0 := hg
            rw [c0 0 (by decide)] at hh
            exact hh
          rw [ca 1 (by decide) (by decide) (by decide) (by decide) (by decide), hI _ (by rw [rS 7 (by decide) (by decide)]; omega)]
          exact w1 g hg'
        · have hk' : ld_dl W k := by
            have hh : k < np W kd fi se lo 0 1 ∨ (3 ≤ k ∧ k < 3 + np W kd fi se lo 0 2) := hk
            rw [c0 1 (by decide), c0 2 (by decide)] at hh
            exact hh
          show gc_I t (gc_rS L 8) k = nI (np W kd fi se lo 2 k) ∧ gc_I t (gc_rS L 9) k = nI (np W kd fi se lo 3 k) ∧ gc_I t (gc_rS L 10) k = ld_oI (np W kd fi se lo 4 k)
          rw [ca 2 (by decide) (by decide) (by decide) (by decide) (by decide), ca 3 (by decide) (by decide) (by decide) (by decide) (by decide), ca 4 (by decide) (by decide) (by decide) (by decide) (by decide), hI _ (by rw [rS 8 (by decide) (by decide)]; omega), hI _ (by rw [rS 9 (by decide) (by decide)]; omega), hI _ (by rw [rS 10 (by decide) (by decide)]; omega)]
          exact w2 k hk'
        · have hc' : c < W 0 3 := by
            have hh : c < np W kd fi se lo 0 3 := hc
            rw [c0 3 (by decide)] at hh
            exact hh
          show gc_I t (gc_rS L 11) c = nI (np W kd fi se lo 5 c) ∧ gc_I t (gc_rS L 12) c = nI (np W kd fi se lo 6 c)
          rw [ca 5 (by decide) (by decide) (by decide) (by decide) (by decide), ca 6 (by decide) (by decide) (by decide) (by decide) (by decide), hI _ (by rw [rS 11 (by decide) (by decide)]; omega), hI _ (by rw [rS 12 (by decide) (by decide)]; omega)]
          exact w3 c hc'
        · rw [np_p] at hp
          show gc_I t (gc_rS L 13) p = _ ∧ gc_I t (gc_rS L 14) p = _ ∧ gc_I t (gc_rS L 15) p = _ ∧ gc_I t (gc_rS L 16) p = _
          by_cases e : p = ld_p W
          · rw [e, t3.1, t3.2.1, t3.2.2.1, t3.2.2.2, np_7, np_fI.1, np_fI.2, np_10]
            refine ⟨rfl, hl2 z, hl3 z, ?_⟩
            by_cases y : kd < 3
            · rw [e1 y, hlo y]
            · obtain ⟨q, q1, q2, q3, q4⟩ := e2 (by omega)
              rw [q3, q4]
              exact (w4 q q1).2.2.2
          · obtain ⟨x1, x2, x3, x4⟩ := fI_ex (ex_np (W := W) (kd := kd) (fi := fi) (se := se) (lo := lo)) (p := p) (by omega)
            rw [t4 _ _ e, t4 _ _ e, t4 _ _ e, t4 _ _ e, x1, x2, x3, x4]
            exact w4 p (by omega)
        · rw [hFL 5 (by decide), w5]
          show _ = nI (told (np W kd fi se lo) (np W kd fi se lo 0 0))
          rw [c0 0 (by decide), told_ex (ca 11 (by decide) (by decide) (by decide) (by decide) (by decide))]
  · have he : ld_p W = 24 := by omega
    refine b_X2_addPoint_0 hP hm (cl_io g5) ?_
    rw [g8.2.2.2.2, he]
    refine ⟨fun z => absurd z (by decide), fun _ => ⟨fun z => absurd rfl z, fun _ => ⟨hd, ?_⟩⟩⟩
    rw [c2 hi]
    exact z_blame hP hm (x := 2) (by decide) g1 fun t t1 => h2 t he t1
end Zp
