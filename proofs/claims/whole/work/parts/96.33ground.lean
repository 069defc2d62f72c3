/-! A GROUND told, by both. -/
def tqC (b : Nat → Nat) (n T L : Nat) (S0 : gc_St) (res : tRes) (Q : gc_TQ) : Prop := match res with
  | .inl e => ∀ t, zG L S0 e.1 e.2 t → Q (some (.int 0)) t
  | .inr e => ∀ t, zT b n T L (cnt4 e.2.1) e.2.2.2 S0 e.1 e.2.1 e.2.2.1 t → Q (some (.int 1)) t
def tqR (b : Nat → Nat) (n T sd : Nat) (S0 : gc_St) (res : tRes) (Q : gc_TQ) : Prop := match res with
  | .inl e => ∀ t, zH sd S0 e.1 e.2 t → Q none t
  | .inr e => ∀ t, zU b n T sd (cnt4 e.2.1) e.2.2.2 S0 e.1 e.2.1 e.2.2.1 t → Q none t
/-- the cells that count -/
def livC (W : ld_W) (j k : Nat) : Prop := (j = 7 ∧ k < ld_g W) ∨ ((j = 8 ∨ j = 9 ∨ j = 10) ∧ ld_dl W k) ∨ ((j = 11 ∨ j = 12) ∧ k < ld_c W) ∨ (13 ≤ j ∧ j ≤ 16 ∧ k < ld_p W)
theorem lwC_of {W : ld_W} {L : Nat} {s t : gc_St} (h : lwC W L s) (hF : ∀ k, k ≤ 5 → gc_F t L k = gc_F s L k) (hI : ∀ j k, livC W j k → gc_I t (gc_rS L j) k = gc_I s (gc_rS L j) k) : lwC W L t := by
  obtain ⟨⟨⟨f0, f1, f2, f3, f4⟩, w1, w2, w3, w4⟩, w5⟩ := h
  refine ⟨⟨⟨(hF 0 (by decide)).trans f0, (hF 1 (by decide)).trans f1, (hF 2 (by decide)).trans f2, (hF 3 (by decide)).trans f3, (hF 4 (by decide)).trans f4⟩, fun g hg => (hI 7 g (Or.inl ⟨rfl, hg⟩)).trans (w1 g hg), fun k hk => ?_, fun c hc => ?_, fun p hp => ?_⟩, (hF 5 (by decide)).trans w5⟩
  · obtain ⟨a1, a2, a3⟩ := w2 k hk
    exact ⟨(hI 8 k (Or.inr (Or.inl ⟨by omega, hk⟩))).trans a1, (hI 9 k (Or.inr (Or.inl ⟨by omega, hk⟩))).trans a2, (hI 10 k (Or.inr (Or.inl ⟨by omega, hk⟩))).trans a3⟩
  · obtain ⟨a1, a2⟩ := w3 c hc
    exact ⟨(hI 11 c (Or.inr (Or.inr (Or.inl ⟨by omega, hc⟩)))).trans a1, (hI 12 c (Or.inr (Or.inr (Or.inl ⟨by omega, hc⟩)))).trans a2⟩
  · obtain ⟨a1, a2, a3, a4⟩ := w4 p hp
    exact ⟨(hI 13 p (Or.inr (Or.inr (Or.inr ⟨by omega, by omega, hp⟩)))).trans a1, (hI 14 p (Or.inr (Or.inr (Or.inr ⟨by omega, by omega, hp⟩)))).trans a2, (hI 15 p (Or.inr (Or.inr (Or.inr ⟨by omega, by omega, hp⟩)))).trans a3, (hI 16 p (Or.inr (Or.inr (Or.inr ⟨by omega, by omega, hp⟩)))).trans a4⟩
theorem kk_ground : kk 300 20 := ⟨kc_20, by decide, by decide⟩
theorem kk_oath : kk 301 21 := ⟨kc_21, by decide, by decide⟩
theorem kk_bargain : kk 302 23 := ⟨kc_23, by decide, by decide⟩
theorem kk_claim : kk 303 25 := ⟨kc_25, by decide, by decide⟩
/-- what comes of it -/
def grR (b : Nat → Nat) (n i : Nat) (W : ld_W) (r : Option (Nat × Nat)) (nl : List (List Nat × Nat × Nat)) : tRes := match bgR b n i (ld_g W) 4 with
  | some e => .inl e
  | none => match sT b n (i + 2) 2 with
    | some e => .inl e
    | none => match sT b n (i + 3) 2 with
      | some e => .inl e
      | none => match sT b n (i + 4) 4 with
        | some e => .inl e
        | none => .inr (i + 5, wG W (nui b n (i + 2)) (nui b n (i + 3)), nuN b n (i + 3) 0 3 (nuN b n (i + 2) 1 99 (twN nl b n (i + 1) r)), nl ++ [(wdi b n (i + 1), 0, ld_g W)])
theorem st_told {st g : Nat} (hst : st ≤ 3) (hg : g < 4) (a : Nat) : nI a + ((nI st &&& 3) <<< (((2 : Int32) * nI g) &&& 31)) = nI (a + st * 4 ^ g) := by
  have h4 : (4 : Nat) ^ g ≤ 64 := Nat.le_trans (Nat.pow_le_pow_right (by decide) (by omega : g ≤ 3)) (by decide)
  have h5 : st * 4 ^ g ≤ 3 * 64 := Nat.mul_le_mul hst h4
  rw [st_and3 (by omega), Nat.mod_eq_of_lt (by omega), st_lit 2, pk_mul, st_shl (by omega) (by rw [Nat.pow_mul]; show st * 4 ^ g < 2 ^ 32; omega), Nat.pow_mul, nI_add]
section Cg
variable {P : gc_Pr} {d : Nat} {s s0 S0 : gc_St} {Q : gc_TQ} {b : Nat → Nat} {n T L sd m i o : Nat} {nl nc : List (List Nat × Nat × Nat)} {W W' : ld_W} {r : Option (Nat × Nat)}
theorem zT_L (h : zT b n T L m nl S0 i W r s) : cl_L L ∧ gc_rl s = some L ∧ cnC W L s := ⟨zC_L h.2, h.2.2.2.2.2.2.1.2.1, h.2.2.2.2.2.2.2.1⟩
theorem C_ground (hP : gc_Cl P) (hm : gc_Mo P) (hd : 4 ≤ d) (hlt : ∀ j, b j < 256) (hk : rk b n i = 20) (hg4 : ld_g W ≤ 4) (h16 : ld_g W < 4 → cnt4 W < 16) (h : zT b n T L (cnt4 W) nl S0 i W r s) (hQ : tqC b n T L S0 (grR b n i W r nl) Q) : gc_T P d 0 0 34 0 [.ref 9, gc_u] [] s Q := by
  obtain ⟨hL, hrl, hcn⟩ := zT_L h
  have hLne := cL_ne hL
  have hL11 : 11 ≤ L := by rcases hL with e | e <;> omega
  have rS := rS_eq hL
  refine b_X3_ground_0 hP hm ⟨L, hrl, cl_io hL, by omega, ?_⟩
  rw [hcn.1]
  refine z_beginS hP hm (by omega) hlt kk_ground hk (tl := ld_g W) (most := 4) (kd := 0) (by decide) hg4 (by decide) (fun _ => by decide) h16 h (fun t tb t1 => ⟨fun z => absurd z (by decide), fun _ => ⟨by omega, z_numberS hP hm (by omega) hlt (lo := 1) (hi := 99) (by decide) (by decide) t1.2 (fun u us u1 u2 => ⟨fun _ => ?_, fun z => absurd z (by decide)⟩) (fun u x p us u1 => ⟨fun z => absurd rfl z, fun _ => ?_⟩)⟩⟩) (fun t x p tb t1 => ⟨fun _ => ?_, fun z => absurd rfl z⟩)
  · have hg : ld_g W < 4 := by
      unfold bgR at tb
      split at tb
      · exact absurd tb (by simp)
      · omega
    have hrlu : gc_rl u = some L := (fr_rl u1.2.2.1).trans (zT_L t1).2.1
    refine ⟨L, hrlu, cl_io hL, vp_in_nI hg (by decide), by omega, ?_⟩
    rw [nI_clamp (by omega)]
    have hSu : frC L S0 u := fr_trans t1.1 (frC_of u1.2.2.1)
    have b7 : BcC L (gc_rS L 7) = true := BcC_iff.mpr (by rw [rS 7 (by decide) (by decide)]; omega)
    have hu' : zT b n T L (cnt4 W + 1) (nl ++ [(wdi b n (i + 1), 0, ld_g W)]) S0 (i + 3) W (nuN b n (i + 2) 1 99 (twN nl b n (i + 1) r)) (gc_wI u (gc_rS L 7) (ld_g W) (gc_F u 3 10)) := by
      refine zT_up hSu u1 (fr_wI b7 (fr_refl u)) (fun _ => rfl) rfl rfl ?_ u1.2.2.2.2.2.2.1 (fun z => lwC_of (u1.2.2.2.2.2.2.2.2 z) (fun _ _ => rfl) (fun j k hl => ?_))
      · obtain ⟨nx, g9, g10, g11, g12⟩ := u1.2.2.2.2.2.2.2.1
        exact ⟨nx, nmC_of g9 rfl rfl (I_na _ _ (by rw [rS 18 (by decide) (by decide), rS 7 (by decide) (by decide)]; omega)), g10, g11, g12⟩
      · refine I_ne _ _ ?_
        rcases hl with ⟨rfl, hl⟩ | ⟨hl, _⟩ | ⟨hl, _⟩ | ⟨hl, hl2, _⟩
        · exact Or.inr (by omega)
        · refine Or.inl ?_
          rw [rS j (by omega) (by omega), rS 7 (by decide) (by decide)]
          omega
        · refine Or.inl ?_
          rw [rS j (by omega) (by omega), rS 7 (by decide) (by decide)]
          omega
        · refine Or.inl ?_
          rw [rS j (by omega) (by omega), rS 7 (by decide) (by decide)]
          omega
    have hI7 : gc_I (gc_wI u (gc_rS L 7) (ld_g W) (gc_F u 3 10)) (gc_rS L 7) (ld_g W) = gc_F u 3 10 := I_eq _ _ _ _
    revert hu' hI7
    generalize gc_wI u (gc_rS L 7) (ld_g W) (gc_F u 3 10) = u'
    intro hu' hI7
    refine z_numberS hP hm (by omega) hlt (lo := 0) (hi := 3) (by decide) (by decide) hu'.2 (fun v vs v1 v2 => ⟨fun _ => ?_, fun z => absurd z (by decide)⟩) (fun v x p vs v1 => ⟨fun z => absurd rfl z, fun _ => ?_⟩)
    · have hrlv : gc_rl v = some L := (fr_rl v1.2.2.1).trans (zT_L hu').2.1
      refine ⟨L, hrlv, cl_io hL, L, hrlv, cl_io hL, by omega, ?_⟩
      have hIv : gc_I v (gc_rS L 7) = gc_I u' (gc_rS L 7) := fr_I v1.2.2.1 (bf fun z => by
        have := BcL_iff.mp z
        rw [rS 7 (by decide) (by decide)] at this
        omega)
      have hSv : frC L S0 v := fr_trans hu'.1 (frC_of v1.2.2.1)
      have aL : ∀ k, AcL L L k = true := fun k => AcL_iff.mpr (Or.inr (Or.inr rfl))
      have cv := v1.2.2.2.2.2.2.1
      rw [F_ne _ _ (Or.inr (show (0 : Nat) ≠ 5 by decide)), cv.1, nI_1]
      have hw : zT b n T L (cnt4 (wG W (nui b n (i + 2)) (nui b n (i + 3)))) (nl ++ [(wdi b n (i + 1), 0, ld_g W)]) S0 (i + 4) (wG W (nui b n (i + 2)) (nui b n (i + 3))) (nuN b n (i + 3) 0 3 (nuN b n (i + 2) 1 99 (twN nl b n (i + 1) r))) (gc_wF (gc_wF v L 5 (gc_F v L 5 + ((gc_F v 3 10 &&& 3) <<< (((2 : Int32) * nI (ld_g W)) &&& 31)))) L 0 (nI (ld_g W + 1))) := by
        have e4 : cnt4 (wG W (nui b n (i + 2)) (nui b n (i + 3))) = cnt4 W + 1 := by
          unfold cnt4
          rw [wG_g]
          show ld_g W + 1 + wG W _ _ 0 1 + (wG W _ _ 0 2 + wG W _ _ 0 3) = _
          rw [wG_c (by decide), wG_c (by decide), wG_c (by decide)]
          show ld_g W + 1 + ld_o W + (ld_b W + ld_c W) = _
          omega
        rw [e4]
        have hF : ∀ q k, (q = L → k ≠ 5 ∧ k ≠ 0) → gc_F (gc_wF (gc_wF v L 5 (gc_F v L 5 + ((gc_F v 3 10 &&& 3) <<< (((2 : Int32) * nI (ld_g W)) &&& 31)))) L 0 (nI (ld_g W + 1))) q k = gc_F v q k := fun q k e => by
          rw [F_ne _ _ (by by_cases y : q = L; exact Or.inr (e y).2; exact Or.inl y), F_ne _ _ (by by_cases y : q = L; exact Or.inr (e y).1; exact Or.inl y)]
        refine zT_up hSv v1 (fr_wF (aL _) (fr_wF (aL _) (fr_refl v))) (fun k => hF 3 k (fun z => absurd z.symm hLne.1)) (hF 9 2 (fun z => absurd z.symm hLne.2.1)) rfl ?_ ?_ (fun z => ?_)
        · obtain ⟨nx, g9, g10, g11, g12⟩ := v1.2.2.2.2.2.2.2.1
          exact ⟨nx, nmC_of g9 (hF L 6 (fun _ => by decide)) rfl rfl, g10, g11, g12⟩
        · refine ⟨?_, ?_, ?_, ?_, ?_⟩
          · rw [F_eq, wG_g]
          · rw [hF L 1 (fun _ => by decide), cv.2.1]
            exact congrArg nI (wG_c (by decide)).symm
          · rw [hF L 2 (fun _ => by decide), cv.2.2.1]
            exact congrArg nI (wG_c (by decide)).symm
          · rw [hF L 3 (fun _ => by decide), cv.2.2.2.1]
            exact congrArg nI (wG_c (by decide)).symm
          · rw [hF L 4 (fun _ => by decide), cv.2.2.2.2]
            exact congrArg nI (wG_c (by decide)).symm
        · have z2 : nuN b n (i + 2) 1 99 (twN nl b n (i + 1) r) = none ∧ nui b n (i + 3) ≤ 3 := by
            cases hz : nuN b n (i + 2) 1 99 (twN nl b n (i + 1) r) with
            | none =>
              rw [hz] at z
              refine ⟨rfl, Decidable.byContradiction fun y => ?_⟩
              rw [nuN_5 (fun _ => by omega)] at z
              exact absurd z (sf_ne _ _ _)
            | some x =>
              rw [hz] at z
              exact absurd z (by unfold nuN; simp)
          obtain ⟨⟨⟨f0, f1, f2, f3, f4⟩, w1, w2, w3, w4⟩, w5⟩ := v1.2.2.2.2.2.2.2.2 z
          refine ⟨⟨⟨?_, ?_, ?_, ?_, ?_⟩, fun g hg' => ?_, fun k hk' => ?_, fun c hc => ?_, fun p hp => ?_⟩, ?_⟩
          · rw [F_eq, wG_g]
          · rw [hF L 1 (fun _ => by decide), f1]
            exact congrArg nI (wG_c (by decide)).symm
          · rw [hF L 2 (fun _ => by decide), f2]
            exact congrArg nI (wG_c (by decide)).symm
          · rw [hF L 3 (fun _ => by decide), f3]
            exact congrArg nI (wG_c (by decide)).symm
          · rw [hF L 4 (fun _ => by decide), f4]
            exact congrArg nI (wG_c (by decide)).symm
          · show gc_I v (gc_rS L 7) g = nI (wG W _ _ 1 g)
            rw [wG_g] at hg'
            rw [wG_1]
            by_cases e : g = ld_g W
            · rw [if_pos e, e, hIv, hI7, u2 z2.1]
            · rw [if_neg e]
              exact w1 g (by omega)
          · show gc_I v (gc_rS L 8) k = nI (wG W _ _ 2 k) ∧ gc_I v (gc_rS L 9) k = nI (wG W _ _ 3 k) ∧ gc_I v (gc_rS L 10) k = ld_oI (wG W _ _ 4 k)
            rw [wG_a (by decide) (by decide) (by decide), wG_a (by decide) (by decide) (by decide), wG_a (by decide) (by decide) (by decide)]
            refine w2 k ?_
            have hh : k < wG W _ _ 0 1 ∨ (3 ≤ k ∧ k < 3 + wG W _ _ 0 2) := hk'
            rw [wG_c (by decide), wG_c (by decide)] at hh
            exact hh
          · show gc_I v (gc_rS L 11) c = nI (wG W _ _ 5 c) ∧ gc_I v (gc_rS L 12) c = nI (wG W _ _ 6 c)
            rw [wG_a (by decide) (by decide) (by decide), wG_a (by decide) (by decide) (by decide)]
            refine w3 c ?_
            have hh : c < wG W _ _ 0 3 := hc
            rw [wG_c (by decide)] at hh
            exact hh
          · have hh : p < wG W (nui b n (i + 2)) (nui b n (i + 3)) 0 4 := hp
            rw [wG_c (by decide)] at hh
            have := w4 p hh
            show gc_I v (gc_rS L 13) p = nI (wG W _ _ 7 p) ∧ gc_I v (gc_rS L 14) p = ld_fI (wG W _ _) p ∧ gc_I v (gc_rS L 15) p = ld_sI (wG W _ _) p ∧ gc_I v (gc_rS L 16) p = nI (wG W _ _ 10 p)
            unfold ld_fI ld_sI
            rw [show ld_kd (wG W (nui b n (i + 2)) (nui b n (i + 3))) = ld_kd W from wG_a (by decide) (by decide) (by decide), show ld_fi (wG W (nui b n (i + 2)) (nui b n (i + 3))) = ld_fi W from wG_a (by decide) (by decide) (by decide), show ld_se (wG W (nui b n (i + 2)) (nui b n (i + 3))) = ld_se W from wG_a (by decide) (by decide) (by decide), wG_a (by decide) (by decide) (by decide), wG_a (by decide) (by decide) (by decide)]
            exact this
          · rw [F_ne _ _ (Or.inr (by decide)), F_eq, w5, v2 z, st_told z2.2 hg, wG_g, wG_told]
      revert hw
      generalize gc_wF (gc_wF v L 5 (gc_F v L 5 + ((gc_F v 3 10 &&& 3) <<< (((2 : Int32) * nI (ld_g W)) &&& 31)))) L 0 (nI (ld_g W + 1)) = w
      intro hw
      refine z_acceptS hP hm (by omega) kk_semi hw.2 (fun q qs q1 => ⟨Or.inr rfl, ?_⟩) (fun q x p qs q1 => ⟨Or.inl rfl, ?_⟩)
      · unfold grR at hQ
        rw [tb, us, vs, qs] at hQ
        exact hQ q (zT_of hw.1 q1)
      · unfold grR at hQ
        rw [tb, us, vs, qs] at hQ
        exact hQ q (zG_of hw.1 q1)
    · unfold grR at hQ
      rw [tb, us, vs] at hQ
      exact hQ v (zG_of hu'.1 v1)
  · unfold grR at hQ
    rw [tb, us] at hQ
    exact hQ u (zG_of t1.1 u1)
  · unfold grR at hQ
    rw [tb] at hQ
    exact hQ t t1
end Cg
