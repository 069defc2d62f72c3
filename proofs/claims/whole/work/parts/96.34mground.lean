/-! A GROUND told, by the reference. -/
theorem zU_R {b : Nat → Nat} {n T sd m i : Nat} {nl : List (List Nat × Nat × Nat)} {S0 s : gc_St} {W : ld_W} {r : Option (Nat × Nat)} (h : zU b n T sd m nl S0 i W r s) : sd < 2 ∧ gc_F s 67 14 = 0 ∧ gc_F s 67 20 = nI sd ∧ cnR W sd s := ⟨h.2.2.2.2.1.1, h.2.2.2.1.1, h.2.2.2.2.1.2.1, h.2.2.2.2.2.2.1⟩
/-- the cells that count -/
def livR (W : ld_W) (sd a j : Nat) : Prop := (∃ k, k < ld_g W ∧ (a = 81 ∨ a = 82) ∧ j = 4 * sd + k) ∨ (∃ k, k < ld_o W ∧ (a = 84 ∨ a = 85) ∧ j = 3 * sd + k) ∨ (∃ k, k < ld_b W ∧ (a = 87 ∨ a = 88 ∨ a = 89) ∧ j = 3 * sd + k) ∨ (∃ k, k < ld_c W ∧ (a = 91 ∨ a = 92) ∧ j = 6 * sd + k) ∨ (∃ k, k < ld_p W ∧ (a = 94 ∨ a = 95 ∨ a = 96) ∧ j = 24 * sd + k)
theorem lwR_ofL {W : ld_W} {sd : Nat} {s t : gc_St} (h : lwR W sd s) (hI : ∀ a j, livR W sd a j → gc_I t a j = gc_I s a j) : lwR W sd t := by
  obtain ⟨w1, w2, w3, w4, w5⟩ := h
  refine ⟨fun g hg => ?_, fun k hk => ?_, fun k hk => ?_, fun c hc => ?_, fun p hp => ?_⟩
  · rw [hI 81 _ (Or.inl ⟨g, hg, by omega, rfl⟩), hI 82 _ (Or.inl ⟨g, hg, by omega, rfl⟩)]
    exact w1 g hg
  · rw [hI 84 _ (Or.inr (Or.inl ⟨k, hk, by omega, rfl⟩)), hI 85 _ (Or.inr (Or.inl ⟨k, hk, by omega, rfl⟩))]
    exact w2 k hk
  · rw [hI 87 _ (Or.inr (Or.inr (Or.inl ⟨k, hk, by omega, rfl⟩))), hI 88 _ (Or.inr (Or.inr (Or.inl ⟨k, hk, by omega, rfl⟩))), hI 89 _ (Or.inr (Or.inr (Or.inl ⟨k, hk, by omega, rfl⟩)))]
    exact w3 k hk
  · rw [hI 91 _ (Or.inr (Or.inr (Or.inr (Or.inl ⟨c, hc, by omega, rfl⟩)))), hI 92 _ (Or.inr (Or.inr (Or.inr (Or.inl ⟨c, hc, by omega, rfl⟩))))]
    exact w4 c hc
  · rw [hI 94 _ (Or.inr (Or.inr (Or.inr (Or.inr ⟨p, hp, by omega, rfl⟩)))), hI 95 _ (Or.inr (Or.inr (Or.inr (Or.inr ⟨p, hp, by omega, rfl⟩)))), hI 96 _ (Or.inr (Or.inr (Or.inr (Or.inr ⟨p, hp, by omega, rfl⟩))))]
    exact w5 p hp
section Mg
variable {P : gc_Pr} {d : Nat} {s s0 S0 : gc_St} {Q : gc_TQ} {b : Nat → Nat} {n T sd m i : Nat} {nl : List (List Nat × Nat × Nat)} {W W' : ld_W} {r : Option (Nat × Nat)}
/-- a cell of this side that does not count yet -/
theorem zU_wI {a j k' : Nat} {x : Int32} (hS : frR sd S0 s) (h : zR b n T sd m nl s0 i W r 0 s) (ha : 80 ≤ a ∧ a ≤ 96) (hc : a ≠ 80 ∧ a ≠ 83 ∧ a ≠ 86 ∧ a ≠ 90 ∧ a ≠ 93) (hk : k' < wid a) (hj : j = wid a * sd + k') (hl : ¬ livR W sd a j) : zU b n T sd m nl S0 i W r (gc_wI s a j x) := by
  have hsd : sd < 2 := h.2.2.2.1.1
  refine zU_up hS h ⟨fr_wI (BzU_iff.mpr (by omega)) (fr_refl s), kp_wI' hsd (kp_refl s) hk hj⟩ (fun _ => rfl) (fun a' ha' => I_na _ _ (by omega)) (fun _ _ => rfl) ?_ (fun z => lwR_ofL (h.2.2.2.2.2.2.2 z) (fun a' j' hl' => I_ne _ _ ?_))
  · obtain ⟨c0, c1, c2, c3, c4⟩ := h.2.2.2.2.2.1
    exact ⟨(I_ne _ _ (Or.inl (Ne.symm hc.1))).trans c0, (I_ne _ _ (Or.inl (Ne.symm hc.2.1))).trans c1, (I_ne _ _ (Or.inl (Ne.symm hc.2.2.1))).trans c2, (I_ne _ _ (Or.inl (Ne.symm hc.2.2.2.1))).trans c3, (I_ne _ _ (Or.inl (Ne.symm hc.2.2.2.2))).trans c4⟩
  · by_cases e : a' = a
    · refine Or.inr fun e2 => hl ?_
      rw [← e, ← e2]
      exact hl'
    · exact Or.inl e
theorem R_ground (hP : gc_Cl P) (hm : gc_Mo P) (hd : 6 ≤ d) (hn : n ≤ 2000) (hlt : ∀ j, b j < 256) (hk : rk b n i = 20) (hg4 : ld_g W ≤ 4) (h16 : ld_g W < 4 → cnt4 W < 16) (hr : ∀ w, r = some w → w.2 < tk_st b n i) (h : zU b n T sd (cnt4 W) nl S0 i W r s) (hQ : tqR b n T sd S0 (grR b n i W r nl) Q) : gc_T P d 0 0 193 0 [.ref 67] [] s Q := by
  have h400 := zR_i h.2
  obtain ⟨hsd, h14, h20, hcn⟩ := zU_R h
  have hk0 : rk b n i ≠ 0 := by rw [hk]; decide
  have hst := tk_st_S (rk_n hk0)
  have bg : ∀ x p, (i = 400 ∨ ld_g W = 4) → x = 2 → p = tk_st b n i → ∀ t, zH sd S0 x p t → Q none t := by
    intro x p hf hx hp t t1
    unfold grR at hQ
    rw [show bgR b n i (ld_g W) 4 = some (2, tk_st b n i) from by unfold bgR; rw [if_pos hf]] at hQ
    rw [hx, hp] at t1
    exact hQ t t1
  refine b_X11_tell_0 hP hm ?_
  rw [h.2.1.2.2.1, nI_clamp (by omega), (h.2.1.2.1 i h.2.1.2.2.2).1, hk, h20, nI_clamp (by omega), hcn.1]
  refine ⟨vp_in_nI (by omega) (by decide), fun _ => ⟨vp_in_nI hsd (by decide), fun z => ?_, fun z => ⟨by omega, y_fail hP hm (x := 2) (by decide) h.2 fun t t1 _ => ?_⟩⟩, fun z => absurd z (by decide), fun z => absurd z (by decide), fun z => absurd z (by decide), fun z => absurd z (by decide), fun z => absurd z (by decide), fun z => absurd z (by decide)⟩
  · have hg : ld_g W < 4 := Decidable.byContradiction fun y => z (by rw [show ld_g W = 4 by omega]; rfl)
    refine b_X11_tell_66 hP hm ⟨fun y => absurd h14 y, fun _ => ⟨by omega, b_X11_tellGround_0 hP hm ?_⟩⟩
    have eix : (4 : Int32) * (gc_F s 67 20) + (gc_I s 80 (gc_F s 67 20).toNatClampNeg) = nI (4 * sd + ld_g W) := by
      rw [h20, nI_clamp (by omega), hcn.1, st_lit 4, pk_mul, nI_add]
    rw [eix, h20, nI_clamp (show 4 * sd + ld_g W < 2 ^ 31 by omega)]
    have hv8 : vp_in (nI (4 * sd + ld_g W)) 8 := vp_in_nI (by omega) (by decide)
    refine ⟨vp_in_nI hsd (by decide), by omega, y_go hP hm (by omega) h.2 hk0 (fun t ti t1 _ => ?_) (fun t ti t1 _ => ?_)⟩
    · have hb1 : bgR b n i (ld_g W) 4 = sT b n (i + 1) 1 := by
        unfold bgR
        rw [if_neg (by omega)]
      have hr1 : ∀ w, r = some w → w.2 < tk_st b n (i + 1) := fun w e => Nat.lt_trans (hr w e) hst
      refine ⟨by omega, y_namedS hP hm (by omega) hn hlt t1 hr1 (fun u us u1 => ?_) (fun u x p us u1 => ?_)⟩
      · have hr2 := (twN_in (nl := nl) (tk_st_S (rk_n (b := b) (n := n) (i := i + 1) (by rw [(sT_0 us).1]; decide))) hr1).1
        refine ⟨by omega, y_boundedS hP hm (by omega) hn hlt (lo := 1) (hi := 99) (by decide) (by decide) u1 hr2 (fun v vs v1 => ?_) (fun v x p y vs v1 => ?_)⟩
        · have hr3 := (nuN_in (lo := 1) (hi := 99) (tk_st_S (rk_n (b := b) (n := n) (i := i + 2) (by rw [(sT_0 vs).1]; decide))) hr2).1
          have hSv : frR sd S0 v := frR_trans h.1 (frR_of v1.2.1.1 v1.2.1.2)
          have hv' : zU b n T sd (cnt4 W) nl S0 (i + 3) W (nuN b n (i + 2) 1 99 (twN nl b n (i + 1) r)) (gc_wI v 81 (4 * sd + ld_g W) (nI (nui b n (i + 2)))) := zU_wI hSv v1 (by decide) (by decide) (k' := ld_g W) hg rfl (fun hl => by
            rcases hl with ⟨k, k1, _, k3⟩ | ⟨k, _, k2, _⟩ | ⟨k, _, k2, _⟩ | ⟨k, _, k2, _⟩ | ⟨k, _, k2, _⟩ <;> omega)
          have hI81 : gc_I (gc_wI v 81 (4 * sd + ld_g W) (nI (nui b n (i + 2)))) 81 (4 * sd + ld_g W) = nI (nui b n (i + 2)) := I_eq _ _ _ _
          refine ⟨hv8, by omega, ?_⟩
          revert hv' hI81
          generalize gc_wI v 81 (4 * sd + ld_g W) (nI (nui b n (i + 2))) = v'
          intro hv' hI81
          refine y_boundedS hP hm (by omega) hn hlt (lo := 0) (hi := 3) (by decide) (by decide) hv'.2 hr3 (fun w ws w1 => ?_) (fun w x p y ws w1 => ?_)
          · have hSw : frR sd S0 w := frR_trans hv'.1 (frR_of w1.2.1.1 w1.2.1.2)
            have hw' : zU b n T sd (cnt4 W) nl S0 (i + 4) W (nuN b n (i + 3) 0 3 (nuN b n (i + 2) 1 99 (twN nl b n (i + 1) r))) (gc_wI w 82 (4 * sd + ld_g W) (nI (nui b n (i + 3)))) := zU_wI hSw w1 (by decide) (by decide) (k' := ld_g W) hg rfl (fun hl => by
              rcases hl with ⟨k, k1, _, k3⟩ | ⟨k, _, k2, _⟩ | ⟨k, _, k2, _⟩ | ⟨k, _, k2, _⟩ | ⟨k, _, k2, _⟩ <;> omega)
            have hI82 : gc_I (gc_wI w 82 (4 * sd + ld_g W) (nI (nui b n (i + 3)))) 82 (4 * sd + ld_g W) = nI (nui b n (i + 3)) := I_eq _ _ _ _
            have hI81' : gc_I (gc_wI w 82 (4 * sd + ld_g W) (nI (nui b n (i + 3)))) 81 (4 * sd + ld_g W) = nI (nui b n (i + 2)) := by
              rw [I_ne _ _ (Or.inl (by decide)), fr_I w1.2.1.1 rfl]
              exact hI81
            refine ⟨hv8, by omega, ?_⟩
            revert hw' hI82 hI81'
            generalize gc_wI w 82 (4 * sd + ld_g W) (nI (nui b n (i + 3))) = w'
            intro hw' hI82 hI81'
            refine y_mustS hP hm (by omega) (by decide) hw'.2 (fun q qs q1 => ?_) (fun q x p qs q1 => ?_)
            · have hSq : frR sd S0 q := frR_trans hw'.1 (frR_of q1.2.1.1 q1.2.1.2)
              obtain ⟨_, q14, q20, qcn⟩ := zU_R (zU_of hw'.1 q1)
              refine ⟨fun _ => ?_, fun y => absurd (by rw [q14]; decide) y⟩
              rw [q20, nI_clamp (by omega), qcn.1]
              have hi1T : i + 1 < T := Nat.lt_trans (by omega) q1.1.2.2.2
              refine ⟨vp_in_nI hsd (by decide), by omega, y_notes hP hm hlt hSq q1 hi1T (sT_0 us).1 (kd := 0) (ix := ld_g W) (by decide) (by omega) (fun _ => hg) (h16 hg) fun p1 p2 p3 => ?_⟩
              obtain ⟨_, _, p20, pcn⟩ := zU_R p2
              show vp_in (gc_F p1 67 20) 2 ∧ vp_in (gc_F p1 67 20) 2 ∧ _
              rw [p20, nI_clamp (by omega), pcn.1, nI_1]
              refine ⟨vp_in_nI hsd (by decide), vp_in_nI hsd (by decide), ?_⟩
              unfold grR at hQ
              rw [hb1, us, vs, ws, qs] at hQ
              refine hQ _ ?_
              have e4 : cnt4 (wG W (nui b n (i + 2)) (nui b n (i + 3))) = cnt4 W + 1 := by
                unfold cnt4
                rw [wG_g]
                show ld_g W + 1 + wG W _ _ 0 1 + (wG W _ _ 0 2 + wG W _ _ 0 3) = _
                rw [wG_c (by decide), wG_c (by decide), wG_c (by decide)]
                show ld_g W + 1 + ld_o W + (ld_b W + ld_c W) = _
                omega
              show zU b n T sd (cnt4 (wG W (nui b n (i + 2)) (nui b n (i + 3)))) _ S0 (i + 5) (wG W (nui b n (i + 2)) (nui b n (i + 3))) _ _
              rw [e4]
              refine zU_up p2.1 p2.2 ⟨fr_wI rfl (fr_refl p1), kp_wI' hsd (kp_refl p1) (k' := 0) (by decide) (by show sd = 1 * sd + 0; omega)⟩ (fun _ => rfl) (fun a ha => I_na _ _ (by omega)) (fun _ _ => rfl) ?_ (fun y => ?_)
              · refine ⟨?_, ?_, ?_, ?_, ?_⟩
                · rw [I_eq, wG_g]
                · rw [I_ne _ _ (Or.inl (by decide)), pcn.2.1]
                  exact congrArg nI (wG_c (by decide)).symm
                · rw [I_ne _ _ (Or.inl (by decide)), pcn.2.2.1]
                  exact congrArg nI (wG_c (by decide)).symm
                · rw [I_ne _ _ (Or.inl (by decide)), pcn.2.2.2.1]
                  exact congrArg nI (wG_c (by decide)).symm
                · rw [I_ne _ _ (Or.inl (by decide)), pcn.2.2.2.2]
                  exact congrArg nI (wG_c (by decide)).symm
              · obtain ⟨w1', w2', w3', w4', w5'⟩ := p2.2.2.2.2.2.2.2.2 y
                have hIp : ∀ a, a ≠ 80 → gc_I (gc_wI p1 80 sd (nI (ld_g W + 1))) a = gc_I p1 a := fun a ha => I_na _ _ ha
                have h81 : gc_I p1 81 (4 * sd + ld_g W) = nI (nui b n (i + 2)) := by
                  rw [p3 81 (by decide), fr_I q1.2.1.1 rfl]
                  exact hI81'
                have h82 : gc_I p1 82 (4 * sd + ld_g W) = nI (nui b n (i + 3)) := by
                  rw [p3 82 (by decide), fr_I q1.2.1.1 rfl]
                  exact hI82
                refine ⟨fun g hg' => ?_, fun k hk' => ?_, fun k hk' => ?_, fun c hc => ?_, fun p hp => ?_⟩
                · rw [wG_g] at hg'
                  show gc_I (gc_wI p1 80 sd (nI (ld_g W + 1))) 81 _ = nI (wG W _ _ 1 g) ∧ gc_I (gc_wI p1 80 sd (nI (ld_g W + 1))) 82 _ = nI (wG W _ _ 11 g)
                  rw [hIp 81 (by decide), hIp 82 (by decide), wG_1, wG_11]
                  by_cases e : g = ld_g W
                  · rw [if_pos e, if_pos e, e]
                    exact ⟨h81, h82⟩
                  · rw [if_neg e, if_neg e]
                    exact w1' g (by omega)
                · have hh : k < wG W (nui b n (i + 2)) (nui b n (i + 3)) 0 1 := hk'
                  rw [wG_c (by decide)] at hh
                  show gc_I (gc_wI p1 80 sd (nI (ld_g W + 1))) 84 _ = nI (wG W _ _ 2 k) ∧ gc_I (gc_wI p1 80 sd (nI (ld_g W + 1))) 85 _ = nI (wG W _ _ 3 k)
                  rw [hIp 84 (by decide), hIp 85 (by decide), wG_a (by decide) (by decide) (by decide), wG_a (by decide) (by decide) (by decide)]
                  exact w2' k hh
                · have hh : k < wG W (nui b n (i + 2)) (nui b n (i + 3)) 0 2 := hk'
                  rw [wG_c (by decide)] at hh
                  show gc_I (gc_wI p1 80 sd (nI (ld_g W + 1))) 87 _ = nI (wG W _ _ 2 (3 + k)) ∧ gc_I (gc_wI p1 80 sd (nI (ld_g W + 1))) 88 _ = nI (wG W _ _ 3 (3 + k)) ∧ gc_I (gc_wI p1 80 sd (nI (ld_g W + 1))) 89 _ = ld_oI (wG W _ _ 4 (3 + k))
                  rw [hIp 87 (by decide), hIp 88 (by decide), hIp 89 (by decide), wG_a (by decide) (by decide) (by decide), wG_a (by decide) (by decide) (by decide), wG_a (by decide) (by decide) (by decide)]
                  exact w3' k hh
                · have hh : c < wG W (nui b n (i + 2)) (nui b n (i + 3)) 0 3 := hc
                  rw [wG_c (by decide)] at hh
                  show gc_I (gc_wI p1 80 sd (nI (ld_g W + 1))) 91 _ = nI (wG W _ _ 5 c) ∧ gc_I (gc_wI p1 80 sd (nI (ld_g W + 1))) 92 _ = nI (wG W _ _ 6 c)
                  rw [hIp 91 (by decide), hIp 92 (by decide), wG_a (by decide) (by decide) (by decide), wG_a (by decide) (by decide) (by decide)]
                  exact w4' c hh
                · have hh : p < wG W (nui b n (i + 2)) (nui b n (i + 3)) 0 4 := hp
                  rw [wG_c (by decide)] at hh
                  show gc_I (gc_wI p1 80 sd (nI (ld_g W + 1))) 94 _ = nI (wG W _ _ 7 p) ∧ gc_I (gc_wI p1 80 sd (nI (ld_g W + 1))) 95 _ = ld_fI (wG W _ _) p ∧ gc_I (gc_wI p1 80 sd (nI (ld_g W + 1))) 96 _ = ld_sI (wG W _ _) p
                  unfold ld_fI ld_sI
                  rw [hIp 94 (by decide), hIp 95 (by decide), hIp 96 (by decide), show ld_kd (wG W (nui b n (i + 2)) (nui b n (i + 3))) = ld_kd W from wG_a (by decide) (by decide) (by decide), show ld_fi (wG W (nui b n (i + 2)) (nui b n (i + 3))) = ld_fi W from wG_a (by decide) (by decide) (by decide), show ld_se (wG W (nui b n (i + 2)) (nui b n (i + 3))) = ld_se W from wG_a (by decide) (by decide) (by decide), wG_a (by decide) (by decide) (by decide)]
                  exact w5' p hh
            · have hz := zH_of hw'.1 q1
              have hF : ∀ t, zH sd S0 x p t → Q none t := fun t t1 => by
                unfold grR at hQ
                rw [hb1, us, vs, ws, qs] at hQ
                exact hQ t t1
              exact ⟨fun z => absurd z (zH_n (hz)).2.1, fun _ => hF _ (hz)⟩
          · have hz := zH_of hv'.1 w1
            have hF : ∀ t, zH sd S0 x p t → Q none t := fun t t1 => by
              unfold grR at hQ
              rw [hb1, us, vs, ws] at hQ
              exact hQ t t1
            exact ⟨hv8, by omega, f_must hP hm (by omega) (zH_wI (a := 82) hsd (hz) rfl (k' := ld_g W) hg rfl) (⟨fun z => absurd z (zH_n (zH_wI (a := 82) hsd (hz) rfl (k' := ld_g W) hg rfl)).2.1, fun _ => hF _ (zH_wI (a := 82) hsd (hz) rfl (k' := ld_g W) hg rfl)⟩)⟩
        · have hz := zH_of h.1 v1
          have hF : ∀ t, zH sd S0 x p t → Q none t := fun t t1 => by
            unfold grR at hQ
            rw [hb1, us, vs] at hQ
            exact hQ t t1
          exact ⟨hv8, by omega, f_bounded hP hm (by omega) (zH_wI (a := 81) hsd (hz) rfl (k' := ld_g W) hg rfl) (fun _ => ⟨hv8, by omega, f_must hP hm (by omega) (zH_wI (a := 82) hsd (zH_wI (a := 81) hsd (hz) rfl (k' := ld_g W) hg rfl) rfl (k' := ld_g W) hg rfl) (⟨fun z => absurd z (zH_n (zH_wI (a := 82) hsd (zH_wI (a := 81) hsd (hz) rfl (k' := ld_g W) hg rfl) rfl (k' := ld_g W) hg rfl)).2.1, fun _ => hF _ (zH_wI (a := 82) hsd (zH_wI (a := 81) hsd (hz) rfl (k' := ld_g W) hg rfl) rfl (k' := ld_g W) hg rfl)⟩)⟩)⟩
      · have hz := zH_of h.1 u1
        have hF : ∀ t, zH sd S0 x p t → Q none t := fun t t1 => by
          unfold grR at hQ
          rw [hb1, us] at hQ
          exact hQ t t1
        exact ⟨by omega, f_bounded hP hm (by omega) (hz) (fun _ => ⟨hv8, by omega, f_bounded hP hm (by omega) (zH_wI (a := 81) hsd (hz) rfl (k' := ld_g W) hg rfl) (fun _ => ⟨hv8, by omega, f_must hP hm (by omega) (zH_wI (a := 82) hsd (zH_wI (a := 81) hsd (hz) rfl (k' := ld_g W) hg rfl) rfl (k' := ld_g W) hg rfl) (⟨fun z => absurd z (zH_n (zH_wI (a := 82) hsd (zH_wI (a := 81) hsd (hz) rfl (k' := ld_g W) hg rfl) rfl (k' := ld_g W) hg rfl)).2.1, fun _ => hF _ (zH_wI (a := 82) hsd (zH_wI (a := 81) hsd (hz) rfl (k' := ld_g W) hg rfl) rfl (k' := ld_g W) hg rfl)⟩)⟩)⟩)⟩
    · have hz := zH_of h.1 t1
      have hF := bg 2 _ (Or.inl ti) rfl rfl
      exact ⟨by omega, f_named hP hm (by omega) (hz) (fun _ => ⟨by omega, f_bounded hP hm (by omega) (hz) (fun _ => ⟨hv8, by omega, f_bounded hP hm (by omega) (zH_wI (a := 81) hsd (hz) rfl (k' := ld_g W) hg rfl) (fun _ => ⟨hv8, by omega, f_must hP hm (by omega) (zH_wI (a := 82) hsd (zH_wI (a := 81) hsd (hz) rfl (k' := ld_g W) hg rfl) rfl (k' := ld_g W) hg rfl) (⟨fun z => absurd z (zH_n (zH_wI (a := 82) hsd (zH_wI (a := 81) hsd (hz) rfl (k' := ld_g W) hg rfl) rfl (k' := ld_g W) hg rfl)).2.1, fun _ => hF _ (zH_wI (a := 82) hsd (zH_wI (a := 81) hsd (hz) rfl (k' := ld_g W) hg rfl) rfl (k' := ld_g W) hg rfl)⟩)⟩)⟩)⟩)⟩
  · have he : ld_g W = 4 := (nI_eq (by omega) (by decide)).mp z
    have hz := zH_of h.1 t1
    exact b_X11_tell_66 hP hm ⟨fun _ => bg 2 _ (Or.inr he) rfl rfl t hz, fun y => absurd y (zH_n hz).1⟩
end Mg
