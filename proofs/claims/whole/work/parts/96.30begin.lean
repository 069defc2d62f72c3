/-! A TELL begins; numbers: the class. -/
def BcC (L a : Nat) : Bool := Nat.ble (L + 1) a && Nat.ble a (L + 12)
theorem BcC_iff {L a : Nat} : BcC L a = true ↔ L + 1 ≤ a ∧ a ≤ L + 12 := by
  unfold BcC
  rw [Bool.and_eq_true, Nat.ble_eq, Nat.ble_eq]
/-- what reading a text may change -/
def frC (L : Nat) (s t : gc_St) : Prop := fr (AcL L) (BcC L) s t
theorem frC_of {L : Nat} {s t : gc_St} (h : fr (AcL L) (BcL L) s t) : frC L s t := fr_up h (fun _ _ z => z) (fun a z => BcC_iff.mpr (by have := BcL_iff.mp z; omega))
def zG (L : Nat) (S0 : gc_St) (x p : Nat) (t : gc_St) : Prop := frC L S0 t ∧ blm t (nI x) (nI p) ∧ 1 ≤ x ∧ x < 9
def zT (b : Nat → Nat) (n T L m : Nat) (nl : List (List Nat × Nat × Nat)) (S0 : gc_St) (i : Nat) (W : ld_W) (r : Option (Nat × Nat)) (s : gc_St) : Prop := frC L S0 s ∧ zC b n T L m nl s i W r 0 s
/-- a NAME told already -/
def twN (nl : List (List Nat × Nat × Nat)) (b : Nat → Nat) (n i : Nat) (r : Option (Nat × Nat)) : Option (Nat × Nat) := match r with
  | some x => some x
  | none => if nl.any (fun e => e.1 == wdi b n i) = true then some (3, tk_st b n i) else none
def nuN (b : Nat → Nat) (n i lo hi : Nat) (r : Option (Nat × Nat)) : Option (Nat × Nat) := match r with
  | some x => some x
  | none => if lo ≤ nui b n i ∧ nui b n i ≤ hi then none else some (5, tk_st b n i)
section Tw
variable {nl : List (List Nat × Nat × Nat)} {b : Nat → Nat} {n i lo hi : Nat} {r : Option (Nat × Nat)}
theorem twN_3 (h : r = none → nl.any (fun e => e.1 == wdi b n i) = true) : twN nl b n i r = sf r 3 (tk_st b n i) := by
  cases r with
  | some x => rfl
  | none =>
    unfold twN
    rw [h rfl]
    rfl
theorem twN_0 (h : r = none → nl.any (fun e => e.1 == wdi b n i) = false) : twN nl b n i r = r := by
  cases r with
  | some x => rfl
  | none =>
    unfold twN
    rw [h rfl]
    rfl
theorem nuN_5 (h : r = none → ¬ (lo ≤ nui b n i ∧ nui b n i ≤ hi)) : nuN b n i lo hi r = sf r 5 (tk_st b n i) := by
  cases r with
  | some x => rfl
  | none =>
    show (if lo ≤ nui b n i ∧ nui b n i ≤ hi then none else some (5, tk_st b n i)) = some (5, tk_st b n i)
    rw [if_neg (h rfl)]
theorem nuN_0 (h : r = none → (lo ≤ nui b n i ∧ nui b n i ≤ hi)) : nuN b n i lo hi r = r := by
  cases r with
  | some x => rfl
  | none =>
    show (if lo ≤ nui b n i ∧ nui b n i ≤ hi then none else some (5, tk_st b n i)) = none
    rw [if_pos (h rfl)]
theorem twN_in (hs : tk_st b n i < tk_st b n (i + 1)) (hr : ∀ w, r = some w → w.2 < tk_st b n i) : (∀ w, twN nl b n i r = some w → w.2 < tk_st b n (i + 1)) ∧ (twN nl b n i r = none → r = none ∧ nl.any (fun e => e.1 == wdi b n i) = false) := by
  cases r with
  | some x =>
    refine ⟨fun w e => ?_, fun z => absurd z (by unfold twN; simp)⟩
    have e2 : some x = some w := e
    rw [Option.some.injEq] at e2
    rw [← e2]
    have := hr x rfl
    omega
  | none =>
    unfold twN
    by_cases z : nl.any (fun e => e.1 == wdi b n i) = true
    · rw [if_pos z]
      refine ⟨fun w e => ?_, fun z => absurd z (by simp)⟩
      rw [Option.some.injEq] at e
      rw [← e]
      exact hs
    · rw [if_neg z]
      exact ⟨fun w e => absurd e (by simp), fun _ => ⟨rfl, bf z⟩⟩
theorem nuN_in (hs : tk_st b n i < tk_st b n (i + 1)) (hr : ∀ w, r = some w → w.2 < tk_st b n i) : (∀ w, nuN b n i lo hi r = some w → w.2 < tk_st b n (i + 1)) ∧ (nuN b n i lo hi r = none → r = none ∧ lo ≤ nui b n i ∧ nui b n i ≤ hi) := by
  cases r with
  | some x =>
    refine ⟨fun w e => ?_, fun z => absurd z (by unfold nuN; simp)⟩
    have e2 : some x = some w := e
    rw [Option.some.injEq] at e2
    rw [← e2]
    have := hr x rfl
    omega
  | none =>
    unfold nuN
    show (∀ w, (if lo ≤ nui b n i ∧ nui b n i ≤ hi then none else some (5, tk_st b n i)) = some w → _) ∧ ((if lo ≤ nui b n i ∧ nui b n i ≤ hi then none else some (5, tk_st b n i)) = none → _)
    by_cases z : lo ≤ nui b n i ∧ nui b n i ≤ hi
    · rw [if_pos z]
      exact ⟨fun w e => absurd e (by simp), fun _ => ⟨rfl, z⟩⟩
    · rw [if_neg z]
      refine ⟨fun w e => ?_, fun z => absurd z (by simp)⟩
      rw [Option.some.injEq] at e
      rw [← e]
      exact hs
end Tw
theorem kk_int : kk 3 2 := ⟨kc_2, by decide, by decide⟩
theorem kk_semi : kk 59 4 := ⟨kc_4, by decide, by decide⟩
theorem kk_set : kk 61 10 := ⟨kc_10, by decide, by decide⟩
theorem kk_gives : kk 304 22 := ⟨kc_22, by decide, by decide⟩
theorem kk_or : kk 305 24 := ⟨kc_24, by decide, by decide⟩
section Tb
variable {P : gc_Pr} {d : Nat} {s s0 S0 : gc_St} {Q : gc_TQ} {b : Nat → Nat} {n T L m i o : Nat} {nl nc : List (List Nat × Nat × Nat)} {W W' : ld_W} {r : Option (Nat × Nat)}
theorem zC_re (h : zC b n T L m nc s0 i W r o s) : zC b n T L m nc s i W r o s := ⟨h.1, h.2.1, fr_refl s, h.2.2.2⟩
theorem zT_of {t : gc_St} (h : frC L S0 s) (g : zC b n T L m nc s i W r 0 t) : zT b n T L m nc S0 i W r t := ⟨fr_trans h (frC_of g.2.2.1), zC_re g⟩
theorem zG_of {x p : Nat} {t : gc_St} (h : frC L S0 s) (g : zFC L s x p t) : zG L S0 x p t := ⟨fr_trans h (frC_of g.1), g.2⟩
/-- the class's law changed -/
theorem zT_up {t : gc_St} {m' : Nat} {nl' : List (List Nat × Nat × Nat)} {r' : Option (Nat × Nat)} (hS : frC L S0 s) (h : zC b n T L m nl s0 i W r 0 s) (g : frC L s t) (hF : ∀ k, gc_F t 3 k = gc_F s 3 k) (h9 : gc_F t 9 2 = gc_F s 9 2) (hr : r' = r) (hn : nmsC nl' r' L m' t) (hc : cnC W' L t) (hl : r' = none → lwC W' L t) : zT b n T L m' nl' S0 i W' r' t := by
  have hL := zC_L h
  have hL11 : 11 ≤ L := by rcases hL with e | e <;> omega
  refine ⟨fr_trans hS g, ⟨h.1.1, fun j hj => ?_, (hF 7).trans h.1.2.2.1, h.1.2.2.2⟩, fun z => (hF 8).trans (h.2.1 z), fr_refl t, ⟨(hF 11).trans h.2.2.2.1.1, (hF 12).trans h.2.2.2.1.2⟩, by rw [hr]; exact sfC_of h.2.2.2.2.1 (hF 14) (hF 15), ⟨hL, (fr_rl g).trans h.2.2.2.2.2.1.2.1, h9.trans h.2.2.2.2.2.1.2.2⟩, hc, hn, hl⟩
  have hB : ∀ a, 4 ≤ a → a ≤ 7 → BcC L a = false := fun a a1 a2 => bf fun z => by
    have := BcC_iff.mp z
    omega
  have := h.1.2.1 j hj
  unfold tkF at this ⊢
  rw [fr_I g (hB 4 (by decide) (by decide)), fr_I g (hB 5 (by decide) (by decide)), fr_I g (hB 7 (by decide) (by decide)), fr_J g (hB 6 (by decide) (by decide))]
  exact this
theorem z_number (hP : gc_Cl P) (hm : gc_Mo P) (hd : 2 ≤ d) (hlt : ∀ j, b j < 256) {lo hi : Nat} (hhi : hi < 2 ^ 31) (hlo : lo < 2 ^ 31) (h : zC b n T L m nc s0 i W r o s) (h1 : ∀ t, rk b n i = 2 → i < 400 → zC b n T L m nc s0 (i + 1) W (nuN b n i lo hi r) o t → (nuN b n i lo hi r = none → gc_F t 3 10 = nI (nui b n i)) → Q (some (.int 1)) t) (h2 : ∀ t, rk b n i = 2 → i = 400 → zFC L s0 2 (tk_st b n i) t → Q (some (.int 0)) t) (h3 : ∀ t, rk b n i ≠ 2 → zFC L s0 1 (tk_st b n i) t → Q (some (.int 0)) t) : gc_T P d 0 0 33 0 [.ref 9, .int (nI lo), .int (nI hi), gc_u] [] s Q := by
  refine b_X3_number_0 hP hm ⟨by omega, z_accept hP hm (by omega) kk_int h (fun t e t1 t2 _ t4 => ⟨fun _ => ?_, fun z => absurd z (by decide)⟩) (fun t e t1 t2 => ⟨fun z => absurd rfl z, fun _ => h2 t e t1 t2⟩) (fun t e t2 => ⟨fun z => absurd rfl z, fun _ => h3 t e t2⟩)⟩
  have hv : gc_F t 3 10 = nI (nui b n i) := by
    rw [t4]
    exact nuC_at h.1 h.1.2.2.2 e
  have hlt' := nui_lt hlt e
  have soft : ¬ (lo ≤ nui b n i ∧ nui b n i ≤ hi) → gc_T P d 0 0 33 31 [.ref 9, .int (nI lo), .int (nI hi), .int (nI (nui b n i))] [] t Q := by
    intro z
    refine b_X3_number_31 hP hm ⟨by omega, z_object hP hm (x := 5) (by decide) (by decide) t2 (by omega) (show tk_st b n (i + 1 - 1) = tk_st b n i by rw [Nat.add_sub_cancel]) fun u u1 => ⟨fun y => absurd y (by decide), fun _ => h1 u e t1 ?_ ?_⟩⟩
    · rw [nuN_5 (fun _ => z)]
      exact u1
    · intro y
      rw [nuN_5 (fun _ => z)] at y
      exact absurd y (sf_ne _ _ _)
  rw [hv]
  refine pk_lt (nui b n i) lo (fun z => soft (by omega)) (fun z => pk_le (nui b n i) hi (fun z2 => h1 t e t1 ?_ (fun _ => hv)) (fun z2 => soft (by omega)))
  rw [nuN_0 (fun _ => ⟨z, z2⟩)]
  exact t2
theorem nms_of {t : gc_St} {m' : Nat} {r' : Option (Nat × Nat)} (h : nmsC nl r L m s) (hm' : m ≤ m') (hr : r' ≠ none) (h1 : gc_F t L 6 = gc_F s L 6) (h2 : gc_J t (gc_rS L 17) = gc_J s (gc_rS L 17)) (h3 : gc_I t (gc_rS L 18) = gc_I s (gc_rS L 18)) (nl' : List (List Nat × Nat × Nat)) : nmsC nl' r' L m' t := by
  obtain ⟨nx, g9, g10, g11, g12⟩ := h
  exact ⟨nx, nmC_of g9 h1 h2 h3, g10, Nat.le_trans g11 hm', fun z => absurd z hr⟩
theorem A6_i {q k : Nat} (h : A6 L q k = true) : q = L ∧ k = 6 := by
  unfold A6 at h
  rw [Bool.and_eq_true, Nat.beq_eq, Nat.beq_eq] at h
  exact h
theorem Bn_i {a : Nat} (hL : cl_L L) (h : Bn L a = true) : a = L + 11 ∨ a = L + 12 := by
  unfold Bn at h
  rw [Bool.or_eq_true, Nat.beq_eq, Nat.beq_eq, rS_eq hL 17 (by decide) (by decide), rS_eq hL 18 (by decide) (by decide)] at h
  exact h
theorem rl_none {nx : List (List Nat × Nat × Nat)} (h : nok nx) (w : List Nat) : (nx.any (fun e => e.1 == w) = false ∧ rl_v (nx.find? (fun e => e.1 == w)) = -1) ∨ (nx.any (fun e => e.1 == w) = true ∧ rl_v (nx.find? (fun e => e.1 == w)) ≠ -1) := by
  cases hf : nx.find? (fun e => e.1 == w) with
  | none =>
    refine Or.inl ⟨bf fun z => ?_, rfl⟩
    obtain ⟨e, e1, e2⟩ := List.any_eq_true.mp z
    exact List.find?_eq_none.mp hf e e1 e2
  | some e =>
    obtain ⟨h1, h2, h3⟩ := h e (List.mem_of_find?_eq_some hf)
    have hp := List.find?_some hf
    refine Or.inr ⟨List.any_eq_true.mpr ⟨e, List.mem_of_find?_eq_some hf, hp⟩, ?_⟩
    exact nI_nm1 (by omega)
/-- the word of a TELL, its NAME -/
theorem z_begin (hP : gc_Cl P) (hm : gc_Mo P) (hd : 2 ≤ d) (hlt : ∀ j, b j < 256) {c k : Int32} (hck : kk c k) (hk : rk b n i = k) {tl most kd : Nat} (hmost : most ≤ 6) (htl : tl ≤ most) (hkd : kd ≤ 3) (hk4 : kd = 0 → most ≤ 4) (hm16 : m < 16) (h : zT b n T L m nl S0 i W r s)
    (h1 : ∀ t, tl < most → i + 1 < 400 → rk b n (i + 1) = 1 → zT b n T L (m + 1) (nl ++ [(wdi b n (i + 1), kd, tl)]) S0 (i + 2) W (twN nl b n (i + 1) r) t → Q (some (.int 1)) t)
    (h2 : ∀ t x p, zG L S0 x p t → ((i = 400 ∨ tl = most) ∧ x = 2 ∧ p = tk_st b n i) ∨ (i < 400 ∧ tl < most ∧ ((rk b n (i + 1) = 1 ∧ i + 1 = 400 ∧ x = 2) ∨ (rk b n (i + 1) ≠ 1 ∧ x = 1)) ∧ p = tk_st b n (i + 1)) → Q (some (.int 0)) t) : gc_T P d 0 0 32 0 [.ref 9, .int (nI tl), .int (nI most), .int (nI (8 * kd))] [] s Q := by
  obtain ⟨hS, h⟩ := h
  refine b_X3_begin_0 hP hm ⟨by omega, z_take hP hm hck hk h (fun t t1 t2 _ _ => ⟨fun _ => ?_, fun z => absurd z (by decide)⟩) (fun t t1 t2 => ⟨fun z => absurd rfl z, fun _ => h2 t _ _ (zG_of hS t2) (Or.inl ⟨Or.inl t1, rfl, rfl⟩)⟩)⟩
  refine pk_lt tl most (fun z => ⟨by omega, z_accept hP hm (by omega) kk_name t2 (fun u e u1 u2 u3 _ => ⟨fun _ => ?_, fun z => absurd z (by decide)⟩) (fun u e u1 u2 => ⟨fun z => absurd rfl z, fun _ => h2 u _ _ (zG_of hS u2) (Or.inr ⟨t1, z, Or.inl ⟨e, u1, rfl⟩, rfl⟩)⟩) (fun u e u2 => ⟨fun z => absurd rfl z, fun _ => h2 u _ _ (zG_of hS u2) (Or.inr ⟨t1, z, Or.inr ⟨e, rfl⟩, rfl⟩)⟩)⟩) (fun z => ⟨by omega, ?_⟩)
  · have hw := wdi_ok hlt (Or.inl e)
    have hln : gc_ln u = lN (wnum 32 (wdi b n (i + 1))) := by
      rw [u3]
      exact nmC_at t2.1 t2.1.2.2.2 (Or.inl e)
    have hL := zC_L u2
    have hrl : gc_rl u = some L := u2.2.2.2.2.2.1.2.1
    obtain ⟨nx, g9, g10, g11, g12⟩ := u2.2.2.2.2.2.2.2.1
    have hLne := cL_ne hL
    have hL11 : 11 ≤ L := by rcases hL with e | e <;> omega
    refine ⟨L, hrl, cl_io hL, by omega, ?_⟩
    rw [hln]
    refine sp_roleOf hP hm hL g9 hw ?_
    rcases rl_none g10 (wdi b n (i + 1)) with ⟨e1, e2⟩ | ⟨e1, e2⟩
    · rw [e2]
      refine ⟨fun _ => ⟨L, hrl, cl_io hL, by omega, ?_⟩, fun z => absurd rfl z⟩
      rw [hln, nI_add]
      refine sp_giveName hP hm hL g9 (by omega) hw fun v v1 v2 => h1 v z u1 e ?_
      have hr' : twN nl b n (i + 1) r = r := twN_0 fun z => by rw [← g12 z]; exact e1
      have hF : ∀ q k, (q = L → k ≠ 6) → gc_F v q k = gc_F u q k := fun q k hq => fr_F v2 (bf fun z => hq (A6_i z).1 (A6_i z).2)
      have hI : ∀ a, a ≠ L + 11 → a ≠ L + 12 → gc_I v a = gc_I u a := fun a a1 a2 => fr_I v2 (bf fun z => by
        have := Bn_i hL z
        omega)
      refine zT_up (fr_trans hS (frC_of u2.2.2.1)) u2 (fr_up v2 (fun q k z => AcL_iff.mpr (Or.inr (Or.inr (A6_i z).1))) (fun a z => BcC_iff.mpr (by have := Bn_i hL z; omega))) (fun k => hF 3 k (fun z => absurd z.symm hLne.1)) (hF 9 2 (fun z => absurd z.symm hLne.2.1)) hr' ?_ ?_ ?_
      · refine ⟨_, v1, fun e' he => ?_, by rw [List.length_append]; show nx.length + 1 ≤ m + 1; omega, fun z => ?_⟩
        · rcases List.mem_append.mp he with y | y
          · exact g10 e' y
          · have ey : e' = (wdi b n (i + 1), kd, tl) := by simpa using y
            rw [ey]
            exact ⟨hkd, by show tl < 8; omega, fun y2 => by have := hk4 y2; show tl < 4; omega⟩
        · rw [hr'] at z
          rw [g12 z]
      · obtain ⟨c0, c1, c2, c3, c4⟩ := u2.2.2.2.2.2.2.1
        exact ⟨(hF L 0 (fun _ => by decide)).trans c0, (hF L 1 (fun _ => by decide)).trans c1, (hF L 2 (fun _ => by decide)).trans c2, (hF L 3 (fun _ => by decide)).trans c3, (hF L 4 (fun _ => by decide)).trans c4⟩
      · intro z
        rw [hr'] at z
        obtain ⟨⟨⟨f0, f1, f2, f3, f4⟩, w1, w2, w3, w4⟩, w5⟩ := u2.2.2.2.2.2.2.2.2 z
        have hIr : ∀ j, 7 ≤ j → j ≤ 16 → gc_I v (gc_rS L j) = gc_I u (gc_rS L j) := fun j j1 j2 => hI _ (by rw [rS_eq hL j j1 (by omega)]; omega) (by rw [rS_eq hL j j1 (by omega)]; omega)
        refine ⟨⟨⟨(hF L 0 (fun _ => by decide)).trans f0, (hF L 1 (fun _ => by decide)).trans f1, (hF L 2 (fun _ => by decide)).trans f2, (hF L 3 (fun _ => by decide)).trans f3, (hF L 4 (fun _ => by decide)).trans f4⟩, ?_, ?_, ?_, ?_⟩, (hF L 5 (fun _ => by decide)).trans w5⟩
        · show ∀ g, g < ld_g W → gc_I v (gc_rS L 7) g = _
          rw [hIr 7 (by decide) (by decide)]
          exact w1
        · show ∀ k, ld_dl W k → gc_I v (gc_rS L 8) k = _ ∧ gc_I v (gc_rS L 9) k = _ ∧ gc_I v (gc_rS L 10) k = _
          rw [hIr 8 (by decide) (by decide), hIr 9 (by decide) (by decide), hIr 10 (by decide) (by decide)]
          exact w2
        · show ∀ c, c < ld_c W → gc_I v (gc_rS L 11) c = _ ∧ gc_I v (gc_rS L 12) c = _
          rw [hIr 11 (by decide) (by decide), hIr 12 (by decide) (by decide)]
          exact w3
        · show ∀ p, p < ld_p W → gc_I v (gc_rS L 13) p = _ ∧ gc_I v (gc_rS L 14) p = _ ∧ gc_I v (gc_rS L 15) p = _ ∧ gc_I v (gc_rS L 16) p = _
          rw [hIr 13 (by decide) (by decide), hIr 14 (by decide) (by decide), hIr 15 (by decide) (by decide), hIr 16 (by decide) (by decide)]
          exact w4
    · refine ⟨fun y => absurd y e2, fun _ => ⟨by omega, z_object hP hm (x := 3) (by decide) (by decide) u2 (by omega) (show tk_st b n (i + 1 + 1 - 1) = tk_st b n (i + 1) by rw [Nat.add_sub_cancel]) fun v v1 => ⟨Or.inr rfl, h1 v z u1 e ?_⟩⟩⟩
      have hr' : twN nl b n (i + 1) r = sf r 3 (tk_st b n (i + 1)) := twN_3 fun z => by rw [← g12 z]; exact e1
      rw [hr']
      have hv := zT_of hS v1
      refine ⟨hv.1, hv.2.1, hv.2.2.1, hv.2.2.2.1, hv.2.2.2.2.1, hv.2.2.2.2.2.1, hv.2.2.2.2.2.2.1, hv.2.2.2.2.2.2.2.1, nms_of hv.2.2.2.2.2.2.2.2.1 (by omega) (sf_ne _ _ _) rfl rfl rfl _, fun y => absurd y (sf_ne _ _ _)⟩
  · rw [t2.2.1 (by omega), Nat.add_sub_cancel]
    exact z_blame hP hm (x := 2) (by decide) t2.2.2.1 fun u u1 => ⟨Or.inl rfl, h2 u _ _ (zG_of hS u1) (Or.inl ⟨Or.inr (by omega), rfl, rfl⟩)⟩
end Tb
