/-! A BARGAIN told, by both. -/
section Tbg
variable {b : Nat → Nat} {n Tc Tr L sd i : Nat} {nl : List (List Nat × Nat × Nat)} {W : ld_W} {r : Option (Nat × Nat)}
theorem tqR_rv {S0 : gc_St} {res : tRes} {Q : gc_TQ} (h : tqR b n Tr sd S0 res Q) : tqR b n Tr sd S0 res (fun r1 s2 => gc_rv r1 (Q none s2)) := by
  cases res with
  | inl e => exact h
  | inr e => exact h
/-- behind its SIDES -/
def bgF (b : Nat → Nat) (n i : Nat) (W : ld_W) (nl : List (List Nat × Nat × Nat)) (i' : Nat) (r' : Option (Nat × Nat)) (v1 v2 ot : Nat) : tRes := match sT b n i' 4 with
  | some e => .inl e
  | none => .inr (i' + 1, wD W 2 (3 + ld_b W) v1 v2 ot, r', nl ++ [(wdi b n (i + 1), 2, ld_b W)])
theorem t_bargain (hn : n ≤ 2000) (hlt : ∀ j, b j < 256) (hk : rk b n i = 23) (hI : tI b n i W r nl) : ∃ res, tP b n i res ∧ tC b n Tc L 36 [.ref 9, gc_u, gc_u] i W r nl res ∧ tR b n Tr sd i W r nl res := by
  obtain ⟨⟨c0, c1, c2, c3, c4⟩, hr, hnone⟩ := hI
  have hI : tI b n i W r nl := ⟨⟨c0, c1, c2, c3, c4⟩, hr, hnone⟩
  have hk0 : rk b n i ≠ 0 := by rw [hk]; decide
  have hst := tk_st_S (rk_n hk0)
  have h16 : ld_b W < 3 → cnt4 W < 16 := fun z => by unfold cnt4; omega
  -- by the class: up to the NAME
  have goC : ∀ res, (∀ (P : gc_Pr) (d : Nat) (t S0 : gc_St) (Q : gc_TQ), gc_Cl P → gc_Mo P → 60 ≤ d → bgR b n i (ld_b W) 3 = none → zT b n Tc L (cnt4 W + 1) (nl ++ [(wdi b n (i + 1), 2, ld_b W)]) S0 (i + 2) W (twN nl b n (i + 1) r) t → tqC b n Tc L S0 res Q → gc_T P (d - 1) 0 0 37 0 [.ref 9, .int (nI (3 + ld_b W))] [] t (fun r6 s7 => gc_ri r6 fun x8 => (¬ x8 = 0 → (1 ≤ d ∧ gc_T P (d - 1) 0 0 103 0 [.ref 3] [] s7 (fun r9 s10 => gc_ri r9 fun x11 => (¬ x11 = 305 → (gc_T P d 0 0 36 93 [.ref 9, .int (nI (ld_b W)), .int (nI (3 + ld_b W))] [] s10 Q)) ∧ (x11 = 305 → (1 ≤ d ∧ gc_T P (d - 1) 0 0 106 0 [.ref 3] [] s10 (fun r12 s13 => gc_ri r12 fun x14 => (¬ x14 = 0 → (∃ a15, gc_rl s13 = some a15 ∧ (gc_io 2 a15 ∧ (∃ a17, gc_rl s13 = some a17 ∧ (1 ≤ d ∧ gc_T P (d - 1) 0 0 112 0 [.ref 3, .ref a17, gc_u, gc_u] [] s13 (fun r18 s19 => gc_ri r18 fun x20 => vp_in (nI (3 + ld_b W)) 6 ∧ (∃ a21, gc_rl s19 = some a21 ∧ (gc_io 2 a21 ∧ (vp_in (nI (3 + ld_b W)) 6 ∧ ((¬ (gc_I (gc_wI s19 (gc_rS a15 10) (3 + ld_b W) x20) (gc_rS a21 10) (3 + ld_b W)) = (-1) → (gc_T P d 0 0 36 93 [.ref 9, .int (nI (ld_b W)), .int (nI (3 + ld_b W))] [] (gc_wI s19 (gc_rS a15 10) (3 + ld_b W) x20) Q)) ∧ ((gc_I (gc_wI s19 (gc_rS a15 10) (3 + ld_b W) x20) (gc_rS a21 10) (3 + ld_b W)) = (-1) → (Q (some (.int 0)) (gc_wI s19 (gc_rS a15 10) (3 + ld_b W) x20))))))))))))) ∧ (x14 = 0 → (Q (some (.int 0)) s13)))))))) ∧ (x8 = 0 → (Q (some (.int 0)) s7)))) → (∀ x p, bgR b n i (ld_b W) 3 = some (x, p) → res = .inl (x, p)) → tC b n Tc L 36 [.ref 9, gc_u, gc_u] i W r nl res := by
    intro res hres hbad P d s S0 Q hP hm hd h hQ
    obtain ⟨hL, hrl, hcn⟩ := zT_L h
    refine b_X3_givenBargain_0 hP hm ⟨L, hrl, cl_io hL, by omega, ?_⟩
    rw [hcn.2.2.1, st_lit 3, nI_add, nI_clamp (show 3 + ld_b W < 2 ^ 31 by omega)]
    refine z_beginS hP hm (by omega) hlt kk_bargain hk (tl := ld_b W) (most := 3) (kd := 2) (by decide) c2 (by decide) (fun z => absurd z (by decide)) h16 h (fun t tb t1 => ⟨fun z => absurd z (by decide), fun _ => ⟨by omega, hres P d t S0 Q hP hm hd tb t1 hQ⟩⟩) (fun t x p tb t1 => ⟨fun _ => ?_, fun z => absurd rfl z⟩)
    rw [hbad x p tb] at hQ
    exact hQ t t1
  have goR : ∀ res, (∀ (P : gc_Pr) (d : Nat) (t S0 : gc_St) (Q : gc_TQ), gc_Cl P → gc_Mo P → 11 ≤ d → sd < 2 → ld_b W < 3 → bgR b n i (ld_b W) 3 = none → zU b n Tr sd (cnt4 W) nl S0 (i + 2) W (twN nl b n (i + 1) r) t → tqR b n Tr sd S0 res Q → gc_T P (d - 1) 0 0 199 0 [.ref 67, gc_u, gc_u, gc_u] [] t (fun r6 s7 => gc_ri r6 fun x8 => vp_in (nI (3 * sd + ld_b W)) 6 ∧ (1 ≤ d ∧ gc_T P (d - 1) 0 0 188 0 [.ref 67, .int 22] [] (gc_wI s7 87 (3 * sd + ld_b W) x8) (fun r9 s10 => gc_rv r9 (1 ≤ d ∧ gc_T P (d - 1) 0 0 199 0 [.ref 67, gc_u, gc_u, gc_u] [] s10 (fun r11 s12 => gc_ri r11 fun x13 => vp_in (nI (3 * sd + ld_b W)) 6 ∧ (vp_in (nI (3 * sd + ld_b W)) 6 ∧ (1 ≤ d ∧ gc_T P (d - 1) 0 0 184 0 [.ref 67, .int 24] [] (gc_wI (gc_wI s12 88 (3 * sd + ld_b W) x13) 89 (3 * sd + ld_b W) (-1)) (fun r14 s15 => gc_ri r14 fun x16 => (x16 = 0 → (gc_T P d 0 0 202 82 [.ref 67, .int (nI (3 * sd + ld_b W)), .int (nI (i + 1))] [] s15 Q)) ∧ (¬ x16 = 0 → (1 ≤ d ∧ gc_T P (d - 1) 0 0 187 0 [.ref 67] [] s15 (fun r17 s18 => gc_rv r17 (1 ≤ d ∧ gc_T P (d - 1) 0 0 199 0 [.ref 67, gc_u, gc_u, gc_u] [] s18 (fun r19 s20 => gc_ri r19 fun x21 => vp_in (nI (3 * sd + ld_b W)) 6 ∧ (gc_T P d 0 0 202 82 [.ref 67, .int (nI (3 * sd + ld_b W)), .int (nI (i + 1))] [] (gc_wI s20 89 (3 * sd + ld_b W) x21) Q))))))))))))))) → (∀ x p, bgR b n i (ld_b W) 3 = some (x, p) → res = .inl (x, p)) → tR b n Tr sd i W r nl res := by
    intro res hres hbad P d s S0 Q hP hm hd h hQ
    have h400 := zR_i h.2
    obtain ⟨hsd, h14, h20, hcn⟩ := zU_R h
    refine b_X11_tell_0 hP hm ?_
    rw [h.2.1.2.2.1, nI_clamp (by omega), (h.2.1.2.1 i h.2.1.2.2.2).1, hk, h20, nI_clamp (by omega), hcn.2.2.1]
    refine ⟨vp_in_nI (by omega) (by decide), fun z => absurd z (by decide), fun z => absurd z (by decide), fun z => absurd z (by decide), fun _ => ⟨vp_in_nI hsd (by decide), fun z => ?_, fun z => ⟨by omega, y_fail hP hm (x := 2) (by decide) h.2 fun t t1 _ => ?_⟩⟩, fun z => absurd z (by decide), fun z => absurd z (by decide), fun z => absurd z (by decide)⟩
    · have ho : ld_b W < 3 := Decidable.byContradiction fun y => z (by rw [show ld_b W = 3 by omega]; rfl)
      refine b_X11_tell_130 hP hm ⟨fun y => absurd h14 y, fun _ => ⟨by omega, b_X11_tellBargain_0 hP hm ?_⟩⟩
      have eix : (3 : Int32) * (gc_F s 67 20) + (gc_I s 86 (gc_F s 67 20).toNatClampNeg) = nI (3 * sd + ld_b W) := by
        rw [h20, nI_clamp (by omega), hcn.2.2.1, st_lit 3, pk_mul, nI_add]
      rw [eix, h20, nI_clamp (show 3 * sd + ld_b W < 2 ^ 31 by omega)]
      have hv6 : vp_in (nI (3 * sd + ld_b W)) 6 := vp_in_nI (by omega) (by decide)
      refine ⟨vp_in_nI hsd (by decide), by omega, y_go hP hm (by omega) h.2 hk0 (fun t ti t1 _ => ?_) (fun t ti t1 _ => ?_)⟩
      · have hb1 : bgR b n i (ld_b W) 3 = sT b n (i + 1) 1 := by
          unfold bgR
          rw [if_neg (by omega)]
        have hr1 : ∀ w, r = some w → w.2 < tk_st b n (i + 1) := fun w e => Nat.lt_trans (hr w e) hst
        refine ⟨by omega, y_namedS hP hm (by omega) hn hlt t1 hr1 (fun u us u1 => ⟨by omega, hres P (d - 1) u S0 _ hP hm (by omega) hsd ho (hb1.trans us) (zU_of h.1 u1) (tqR_rv hQ)⟩) (fun u x p us u1 => ?_)⟩
        have hz := zH_of h.1 u1
        have hF : ∀ t, zH sd S0 x p t → Q none t := fun t t1 => by
          rw [hbad x p (hb1.trans us)] at hQ
          exact hQ t t1
        exact ⟨by omega, f_tside hP hm (by omega) (hz) (fun _ => ⟨hv6, by omega, f_must hP hm (by omega) (zH_wI (a := 87) hsd (hz) rfl (k' := ld_b W) ho rfl) ⟨by omega, f_tside hP hm (by omega) (zH_wI (a := 87) hsd (hz) rfl (k' := ld_b W) ho rfl) (fun _ => ⟨hv6, hv6, by omega, sp_misF hP hm (zH_n (zH_wI (a := 89) hsd (zH_wI (a := 88) hsd (zH_wI (a := 87) hsd (hz) rfl (k' := ld_b W) ho rfl) rfl (k' := ld_b W) ho rfl) rfl (k' := ld_b W) ho rfl)).1 ⟨fun _ => b_X11_tellBargain_82 hP hm ⟨by omega, f_must hP hm (by omega) (zH_wI (a := 89) hsd (zH_wI (a := 88) hsd (zH_wI (a := 87) hsd (hz) rfl (k' := ld_b W) ho rfl) rfl (k' := ld_b W) ho rfl) rfl (k' := ld_b W) ho rfl) (⟨fun z => absurd z (zH_n (zH_wI (a := 89) hsd (zH_wI (a := 88) hsd (zH_wI (a := 87) hsd (hz) rfl (k' := ld_b W) ho rfl) rfl (k' := ld_b W) ho rfl) rfl (k' := ld_b W) ho rfl)).2.1, fun _ => hF _ (zH_wI (a := 89) hsd (zH_wI (a := 88) hsd (zH_wI (a := 87) hsd (hz) rfl (k' := ld_b W) ho rfl) rfl (k' := ld_b W) ho rfl) rfl (k' := ld_b W) ho rfl)⟩)⟩, fun z => absurd rfl z⟩⟩)⟩⟩)⟩
      · have hz := zH_of h.1 t1
        have hF : ∀ t, zH sd S0 2 (tk_st b n i) t → Q none t := fun t t1 => by
          rw [hbad 2 (tk_st b n i) (by unfold bgR; rw [if_pos (Or.inl ti)])] at hQ
          exact hQ t t1
        exact ⟨by omega, f_named hP hm (by omega) (hz) (fun _ => ⟨by omega, f_tside hP hm (by omega) (hz) (fun _ => ⟨hv6, by omega, f_must hP hm (by omega) (zH_wI (a := 87) hsd (hz) rfl (k' := ld_b W) ho rfl) ⟨by omega, f_tside hP hm (by omega) (zH_wI (a := 87) hsd (hz) rfl (k' := ld_b W) ho rfl) (fun _ => ⟨hv6, hv6, by omega, sp_misF hP hm (zH_n (zH_wI (a := 89) hsd (zH_wI (a := 88) hsd (zH_wI (a := 87) hsd (hz) rfl (k' := ld_b W) ho rfl) rfl (k' := ld_b W) ho rfl) rfl (k' := ld_b W) ho rfl)).1 ⟨fun _ => b_X11_tellBargain_82 hP hm ⟨by omega, f_must hP hm (by omega) (zH_wI (a := 89) hsd (zH_wI (a := 88) hsd (zH_wI (a := 87) hsd (hz) rfl (k' := ld_b W) ho rfl) rfl (k' := ld_b W) ho rfl) rfl (k' := ld_b W) ho rfl) (⟨fun z => absurd z (zH_n (zH_wI (a := 89) hsd (zH_wI (a := 88) hsd (zH_wI (a := 87) hsd (hz) rfl (k' := ld_b W) ho rfl) rfl (k' := ld_b W) ho rfl) rfl (k' := ld_b W) ho rfl)).2.1, fun _ => hF _ (zH_wI (a := 89) hsd (zH_wI (a := 88) hsd (zH_wI (a := 87) hsd (hz) rfl (k' := ld_b W) ho rfl) rfl (k' := ld_b W) ho rfl) rfl (k' := ld_b W) ho rfl)⟩)⟩, fun z => absurd rfl z⟩⟩)⟩⟩)⟩)⟩
    · have he : ld_b W = 3 := (nI_eq (by omega) (by decide)).mp z
      have hz := zH_of h.1 t1
      rw [hbad 2 (tk_st b n i) (by unfold bgR; rw [if_pos (Or.inr he)])] at hQ
      exact b_X11_tell_130 hP hm ⟨fun _ => hQ t hz, fun y => absurd y (zH_n hz).1⟩
  cases hb : bgR b n i (ld_b W) 3 with
  | some e =>
    obtain ⟨x, p⟩ := e
    exact ⟨.inl (x, p), trivial, goC _ (fun P d t S0 Q hP hm hd tb => absurd (hb.symm.trans tb) (by simp)) (fun x' p' h' => by rw [(eqz hb h').1, (eqz hb h').2]), goR _ (fun P d t S0 Q hP hm hd _ _ tb => absurd (hb.symm.trans tb) (by simp)) (fun x' p' h' => by rw [(eqz hb h').1, (eqz hb h').2])⟩
  | none =>
    have hbno : ∀ {res : tRes}, ∀ x p, bgR b n i (ld_b W) 3 = some (x, p) → res = .inl (x, p) := fun x p h' => absurd (hb.symm.trans h') (by simp)
    have hb2 : ld_b W < 3 ∧ sT b n (i + 1) 1 = none := by
      unfold bgR at hb
      split at hb
      · exact absurd hb (by simp)
      · exact ⟨by omega, hb⟩
    have ho := hb2.1
    have hst1 := tk_st_S (rk_n (b := b) (n := n) (i := i + 1) (by rw [(sT_0 hb2.2).1]; decide))
    obtain ⟨hr1, hr1n⟩ := twN_in (nl := nl) hst1 (fun w e => Nat.lt_trans (hr w e) hst)
    obtain ⟨nc, nr, hnc, hnr, hG, hg⟩ := ls_ok hI (r1 := twN nl b n (i + 1) r) (fun z => (hr1n z).1) (w := wdi b n (i + 1)) (kd := 2) (ix := ld_b W) (by decide)
    have hdl : dlk W 2 (3 + ld_b W) := Or.inr ⟨rfl, rfl, ho⟩
    obtain ⟨rd, d1, d2, d3⟩ := z_deal (Tc := Tc) (Tr := Tr) (L := L) (sd := sd) (mc := cnt4 W + 1) (mr := cnt4 W) (W := W) (G := ld_g W) (i := i + 2) hn hlt hG c0 hg hr1
    have hnl : ∀ a, a = 87 ∨ a = 88 ∨ a = 89 → ¬ livR W sd a (3 * sd + ld_b W) := fun a ha hl => by
      rcases hl with ⟨k, _, k2, _⟩ | ⟨k, _, k2, _⟩ | ⟨k, k1, _, k3⟩ | ⟨k, _, k2, _⟩ | ⟨k, _, k2, _⟩ <;> omega
    have hnlC : ¬ livC W 10 (3 + ld_b W) := fun hl => by
      rcases hl with ⟨z, _⟩ | ⟨_, z⟩ | ⟨z, _⟩ | ⟨z, _⟩
      · omega
      · exact (dlk_n hdl c1).1 z
      · omega
      · omega
    cases rd with
    | inl e =>
      refine ⟨.inl e, trivial, goC _ (fun P d t S0 Q hP hm hd tb t1 hQ => d2 P _ t S0 _ (3 + ld_b W) hP hm (by omega) (dlk_n hdl c1).2 (dlk_n hdl c1).1 (zT_sw hnc t1) (fun u u1 => ⟨fun z => absurd rfl z, fun _ => hQ u u1⟩)) hbno, goR _ (fun P d t S0 Q hP hm hd hsd ho' tb t1 hQ => d3 P d t S0 _ 87 (ld_b W) hP hm (by omega) (Or.inr rfl) ho (hnl 87 (by omega)) (zU_sw hnr t1) (fun u y hz => ?_)) hbno⟩
      have hv6 : vp_in (nI (3 * sd + ld_b W)) 6 := vp_in_nI (by omega) (by decide)
      have hF : ∀ t, zH sd S0 e.1 e.2 t → Q none t := hQ
      exact ⟨hv6, hv6, by omega, sp_misF hP hm (zH_n (zH_wI (a := 89) hsd (zH_wI (a := 88) hsd (hz) rfl (k' := ld_b W) ho rfl) rfl (k' := ld_b W) ho rfl)).1 ⟨fun _ => b_X11_tellBargain_82 hP hm ⟨by omega, f_must hP hm (by omega) (zH_wI (a := 89) hsd (zH_wI (a := 88) hsd (hz) rfl (k' := ld_b W) ho rfl) rfl (k' := ld_b W) ho rfl) (⟨fun z => absurd z (zH_n (zH_wI (a := 89) hsd (zH_wI (a := 88) hsd (hz) rfl (k' := ld_b W) ho rfl) rfl (k' := ld_b W) ho rfl)).2.1, fun _ => hF _ (zH_wI (a := 89) hsd (zH_wI (a := 88) hsd (hz) rfl (k' := ld_b W) ho rfl) rfl (k' := ld_b W) ho rfl)⟩)⟩, fun z => absurd rfl z⟩⟩
    | inr e =>
      obtain ⟨i2, r2, v1, v2⟩ := e
      obtain ⟨e1, e2, e3⟩ := d1
      have e1' : i + 2 < i2 := e1
      have e2' : ∀ w, r2 = some w → w.2 < tk_st b n i2 := e2
      have e3' : r2 = none → twN nl b n (i + 1) r = none ∧ v1 < 4 ^ ld_g W ∧ v2 < 4 ^ ld_g W := e3
      -- behind all SIDES
      have C93 : ∀ (P : gc_Pr) (d : Nat) (u S0 : gc_St) (Q : gc_TQ) (i' ot : Nat) (r' : Option (Nat × Nat)) (l1 l2 : Int32), gc_Cl P → gc_Mo P → 60 ≤ d → (r' = none → r2 = none) → zT b n Tc L (cnt4 W + 1) nc S0 i' W r' u → (r' = none → gc_I u (gc_rS L 8) (3 + ld_b W) = nI v1 ∧ gc_I u (gc_rS L 9) (3 + ld_b W) = nI v2 ∧ gc_I u (gc_rS L 10) (3 + ld_b W) = ld_oI ot) → tqC b n Tc L S0 (bgF b n i W nl i' r' v1 v2 ot) Q → gc_T P d 0 0 36 93 [.ref 9, .int l1, .int l2] [] u Q := by
        intro P d u S0 Q i' ot r' l1 l2 hP hm hd hr' hu hI3 hQ
        obtain ⟨hL, hrl, hcn⟩ := zT_L hu
        have hLne := cL_ne hL
        have hcnt : cnt4 (wD W 2 (3 + ld_b W) v1 v2 ot) = cnt4 W + 1 := wD_cnt (Or.inr rfl)
        have hw : zT b n Tc L (cnt4 (wD W 2 (3 + ld_b W) v1 v2 ot)) (nl ++ [(wdi b n (i + 1), 2, ld_b W)]) S0 i' (wD W 2 (3 + ld_b W) v1 v2 ot) r' (gc_wF u L 2 ((gc_F u L 2) + 1)) := by
          rw [hcnt, hcn.2.2.1, nI_1]
          have hF : ∀ q k, (q = L → k ≠ 2) → gc_F (gc_wF u L 2 (nI (ld_b W + 1))) q k = gc_F u q k := fun q k hq => F_ne _ _ (by
            by_cases y : q = L
            · exact Or.inr (hq y)
            · exact Or.inl y)
          refine zT_up hu.1 hu.2 (fr_wF (AcL_iff.mpr (Or.inr (Or.inr rfl))) (fr_refl u)) (fun k => hF 3 k (fun z => absurd z.symm hLne.1)) (hF 9 2 (fun z => absurd z.symm hLne.2.1)) rfl ?_ (cnC_D hcn) (fun z => lwC_D hL hdl (hu.2.2.2.2.2.2.2.2.2 z) (hI3 z).1 (hI3 z).2.1 (hI3 z).2.2)
          obtain ⟨nx, g9, g10, g11, g12⟩ := hu.2.2.2.2.2.2.2.2.1
          exact ⟨nx, nmC_of g9 (hF L 6 (fun _ => by decide)) rfl rfl, g10, g11, fun z => (g12 z).trans (hnc (e3' (hr' z)).1).symm⟩
        refine b_X3_givenBargain_93 hP hm ⟨L, hrl, cl_io hL, by omega, z_acceptS hP hm (by omega) kk_semi hw.2 (fun q qs q1 => ⟨Or.inr rfl, ?_⟩) (fun q x' p' qs q1 => ⟨Or.inl rfl, ?_⟩)⟩
        · unfold bgF at hQ
          rw [qs] at hQ
          exact hQ q (zT_of hw.1 q1)
        · unfold bgF at hQ
          rw [qs] at hQ
          exact hQ q (zG_of hw.1 q1)
      have R82 : ∀ (P : gc_Pr) (d : Nat) (u S0 : gc_St) (Q : gc_TQ) (i' ot : Nat) (r' : Option (Nat × Nat)) (l1 : Int32), gc_Cl P → gc_Mo P → 11 ≤ d → i + 2 < i' → (r' = none → r2 = none) → zU b n Tr sd (cnt4 W) nr S0 i' W r' u → (r' = none → gc_I u 87 (3 * sd + ld_b W) = nI v1 ∧ gc_I u 88 (3 * sd + ld_b W) = nI v2 ∧ gc_I u 89 (3 * sd + ld_b W) = ld_oI ot) → tqR b n Tr sd S0 (bgF b n i W nl i' r' v1 v2 ot) Q → gc_T P d 0 0 202 82 [.ref 67, .int l1, .int (nI (i + 1))] [] u Q := by
        intro P d u S0 Q i' ot r' l1 hP hm hd hi' hr' hu hI3 hQ
        have hcnt : cnt4 (wD W 2 (3 + ld_b W) v1 v2 ot) = cnt4 W + 1 := wD_cnt (Or.inr rfl)
        refine b_X11_tellBargain_82 hP hm ⟨by omega, y_mustS hP hm (by omega) (by decide) hu.2 (fun q qs q1 => ?_) (fun q x' p' qs q1 => ?_)⟩
        · have hq := zU_of hu.1 q1
          obtain ⟨_, q14, q20, qcn⟩ := zU_R hq
          refine ⟨fun _ => ?_, fun y => absurd (by rw [q14]; decide) y⟩
          unfold bgF at hQ
          rw [qs] at hQ
          refine y_finish hP hm (by omega) hlt (W' := wD W 2 (3 + ld_b W) v1 v2 ot) (m' := cnt4 (wD W 2 (3 + ld_b W) v1 v2 ot)) (kd := 2) (ix := ld_b W) hq.1 hq.2 (Nat.lt_trans (by omega) q1.1.2.2.2) (sT_0 hb2.2).1 (Or.inr (Or.inr (Or.inl rfl))) qcn.2.2.1 (by decide) (by omega) (fun z => absurd z (by decide)) (h16 ho) hcnt (fun p1 hp => cnR_D (Or.inr rfl) hp) (fun p1 hp3 hz hl => lwR_D c1 hdl hl (Or.inr ⟨rfl, ld_b W, rfl, ?_, ?_, ?_⟩)) (fun w w1 => hQ w (zU_sw (fun z => ?_) w1))
          · rw [hp3 87 (by decide), fr_I q1.2.1.1 rfl]
            exact (hI3 hz).1
          · rw [hp3 88 (by decide), fr_I q1.2.1.1 rfl]
            exact (hI3 hz).2.1
          · rw [hp3 89 (by decide), fr_I q1.2.1.1 rfl]
            exact (hI3 hz).2.2
          · rw [← hnr (e3' (hr' z)).1]
        · have hz := zH_of hu.1 q1
          have hF : ∀ t, zH sd S0 x' p' t → Q none t := fun t t1 => by
            unfold bgF at hQ
            rw [qs] at hQ
            exact hQ t t1
          exact ⟨fun z => absurd z (zH_n (hz)).2.1, fun _ => hF _ (hz)⟩
      have tPF : ∀ i' r' ot, i + 2 < i' → (∀ w, r' = some w → w.2 < tk_st b n i') → (r' = none → r2 = none ∧ ot ≤ 4 ^ ld_g W) → tP b n i (bgF b n i W nl i' r' v1 v2 ot) := by
        intro i' r' ot hi' hr' hn'
        unfold bgF
        cases h4 : sT b n i' 4 with
        | some e => trivial
        | none => exact ⟨by show i < i' + 1; omega, tI_D hI hdl (sT_st h4 (by decide) hr') (fun z => ⟨(hr1n (e3' (hn' z).1).1).1, (hr1n (e3' (hn' z).1).1).2, (e3' (hn' z).1).2.1, (e3' (hn' z).1).2.2, (hn' z).2, fun y => absurd y (by decide)⟩) (Or.inr ⟨rfl, rfl, rfl⟩)⟩
      -- both cells of the second SIDE
      have wr2 : ∀ (u S0 : gc_St) (y : Int32), zU b n Tr sd (cnt4 W) nr S0 i2 W r2 u → zU b n Tr sd (cnt4 W) nr S0 i2 W r2 (gc_wI (gc_wI u 88 (3 * sd + ld_b W) y) 89 (3 * sd + ld_b W) (-1)) := by
        intro u S0 y hu
        have h1 := zU_wI (a := 88) (j := 3 * sd + ld_b W) (x := y) hu.1 hu.2 (by decide) (by decide) (k' := ld_b W) ho rfl (hnl 88 (by omega))
        exact zU_wI (a := 89) (j := 3 * sd + ld_b W) (x := -1) h1.1 h1.2 (by decide) (by decide) (k' := ld_b W) ho rfl (hnl 89 (by omega))
      have wrI : ∀ (u : gc_St) (y : Int32), gc_I (gc_wI (gc_wI u 88 (3 * sd + ld_b W) y) 89 (3 * sd + ld_b W) (-1)) 87 = gc_I u 87 ∧ gc_I (gc_wI (gc_wI u 88 (3 * sd + ld_b W) y) 89 (3 * sd + ld_b W) (-1)) 88 (3 * sd + ld_b W) = y ∧ gc_I (gc_wI (gc_wI u 88 (3 * sd + ld_b W) y) 89 (3 * sd + ld_b W) (-1)) 89 (3 * sd + ld_b W) = -1 := by
        intro u y
        refine ⟨?_, ?_, I_eq _ _ _ _⟩
        · rw [I_na _ _ (by decide), I_na _ _ (by decide)]
        · rw [I_ne _ _ (Or.inl (by decide)), I_eq]
      by_cases h24 : rk b n i2 = 24
      · by_cases hi2 : i2 < 400
        · have hst2 := tk_st_S (rk_n (b := b) (n := n) (i := i2) (by rw [h24]; decide))
          obtain ⟨rs, s1, s2, s3⟩ := z_side (Tc := Tc) (Tr := Tr) (L := L) (sd := sd) (mc := cnt4 W + 1) (mr := cnt4 W) (W := W) (i := i2 + 1) (r := r2) hn hlt hG c0 hg (fun w e => Nat.lt_trans (e2' w e) hst2)
          have goC2 : ∀ res, (∀ (P : gc_Pr) (d : Nat) (v S0 : gc_St) (Q : gc_TQ), gc_Cl P → gc_Mo P → 60 ≤ d → zT b n Tc L (cnt4 W + 1) nc S0 (i2 + 1) W r2 v → (r2 = none → gc_I v (gc_rS L 8) (3 + ld_b W) = nI v1 ∧ gc_I v (gc_rS L 9) (3 + ld_b W) = nI v2) → tqC b n Tc L S0 res Q → qC b n Tc L (cnt4 W + 1) nc v W 0 rs (fun r18 s19 => gc_ri r18 fun x20 => vp_in (nI (3 + ld_b W)) 6 ∧ (∃ a21, gc_rl s19 = some a21 ∧ (gc_io 2 a21 ∧ (vp_in (nI (3 + ld_b W)) 6 ∧ ((¬ (gc_I (gc_wI s19 (gc_rS L 10) (3 + ld_b W) x20) (gc_rS a21 10) (3 + ld_b W)) = (-1) → (gc_T P d 0 0 36 93 [.ref 9, .int (nI (ld_b W)), .int (nI (3 + ld_b W))] [] (gc_wI s19 (gc_rS L 10) (3 + ld_b W) x20) Q)) ∧ ((gc_I (gc_wI s19 (gc_rS L 10) (3 + ld_b W) x20) (gc_rS a21 10) (3 + ld_b W)) = (-1) → (Q (some (.int 0)) (gc_wI s19 (gc_rS L 10) (3 + ld_b W) x20)))))))) ) → tC b n Tc L 36 [.ref 9, gc_u, gc_u] i W r nl res := by
            intro res hres
            refine goC res (fun P d t S0 Q hP hm hd tb t1 hQ => d2 P _ t S0 _ (3 + ld_b W) hP hm (by omega) (dlk_n hdl c1).2 (dlk_n hdl c1).1 (zT_sw hnc t1) (fun u u1 u2 => ⟨fun _ => ⟨by omega, sp_kindAhead hP hm u1.2.1 ⟨fun z => absurd ((kc_24 _).mpr h24) z, fun _ => ⟨by omega, z_take hP hm kk_or h24 u1.2 (fun v _ v1' _ _ => ⟨fun _ => ?_, fun z => absurd z (by decide)⟩) (fun v vi => absurd vi (by show ¬ i2 = 400; omega))⟩⟩⟩, fun z => absurd z (by decide)⟩)) hbno
            obtain ⟨hL, hrl, _⟩ := zT_L u1
            have rS := rS_eq hL
            have hrlv : gc_rl v = some L := (fr_rl v1'.2.2.1).trans hrl
            have hIv : ∀ j, 7 ≤ j → j ≤ 10 → gc_I v (gc_rS L j) = gc_I u (gc_rS L j) := fun j j1 j2 => fr_I v1'.2.2.1 (bf fun z => by
              have := BcL_iff.mp z
              rw [rS j j1 (by omega)] at this
              omega)
            have hv := zT_of u1.1 v1'
            exact ⟨L, hrlv, cl_io hL, L, hrlv, by omega, s2 P _ v v _ 0 hP hm (by omega) hv.2 (hres P d v S0 Q hP hm hd hv (fun z => ⟨by rw [hIv 8 (by decide) (by decide)]; exact (u2 z).1, by rw [hIv 9 (by decide) (by decide)]; exact (u2 z).2.1⟩) hQ)⟩
          have goR2 : ∀ res, (∀ (P : gc_Pr) (d : Nat) (v S0 : gc_St) (Q : gc_TQ), gc_Cl P → gc_Mo P → 11 ≤ d → sd < 2 → zU b n Tr sd (cnt4 W) nr S0 (i2 + 1) W r2 v → (r2 = none → gc_I v 87 (3 * sd + ld_b W) = nI v1 ∧ gc_I v 88 (3 * sd + ld_b W) = nI v2) → tqR b n Tr sd S0 res Q → qR b n Tr sd (cnt4 W) nr v W 0 v rs (fun r19 s20 => gc_ri r19 fun x21 => vp_in (nI (3 * sd + ld_b W)) 6 ∧ (gc_T P d 0 0 202 82 [.ref 67, .int (nI (3 * sd + ld_b W)), .int (nI (i + 1))] [] (gc_wI s20 89 (3 * sd + ld_b W) x21) Q))) → tR b n Tr sd i W r nl res := by
            intro res hres
            refine goR res (fun P d t S0 Q hP hm hd hsd ho' tb t1 hQ => d3 P d t S0 _ 87 (ld_b W) hP hm (by omega) (Or.inr rfl) ho (hnl 87 (by omega)) (zU_sw hnr t1) (fun u y u1 u2 => ?_)) hbno
            have hv6 : vp_in (nI (3 * sd + ld_b W)) 6 := vp_in_nI (by omega) (by decide)
            have hu' := wr2 u S0 y u1
            obtain ⟨w1, w2, w3⟩ := wrI u y
            refine ⟨hv6, hv6, by omega, ?_⟩
            revert hu' w1 w2 w3
            generalize gc_wI (gc_wI u 88 (3 * sd + ld_b W) y) 89 (3 * sd + ld_b W) (-1) = u'
            intro hu' w1 w2 w3
            refine y_is hP hm hu'.2 (fun _ => ⟨fun z => absurd z (by decide), fun _ => ⟨by omega, y_go hP hm (by omega) hu'.2 (by rw [h24]; decide) (fun v _ v1' v2' => ⟨by omega, ?_⟩) (fun v vi => absurd vi (by show ¬ i2 = 400; omega))⟩⟩) (fun z => absurd h24 z)
            have hv := zU_of hu'.1 v1'
            exact s3 P _ v v _ 0 hP hm (by omega) hv.2 (hres P d v S0 Q hP hm hd hsd hv (fun z => ⟨by rw [fr_I v2' rfl, w1]; exact (u2 z).1, by rw [fr_I v2' rfl, w2]; exact (u2 z).2⟩) hQ)
          cases rs with
          | inl e =>
            refine ⟨.inl e, trivial, goC2 _ (fun P d v S0 Q hP hm hd hv hI2 hQ u u1 => ?_), goR2 _ (fun P d v S0 Q hP hm hd hsd hv hI2 hQ u y u1 _ => ?_)⟩
            · obtain ⟨hL, hrl, _⟩ := zT_L hv
              have hrlu : gc_rl u = some L := (fr_rl u1.1).trans hrl
              refine ⟨vp_in_nI (by omega) (by decide), L, hrlu, cl_io hL, vp_in_nI (by omega) (by decide), ?_⟩
              rw [I_eq]
              refine ⟨fun z => absurd rfl z, fun _ => hQ _ ?_⟩
              have hg := zG_of hv.1 u1
              exact ⟨fr_wI (BcC_iff.mpr (by rw [rS_eq hL 10 (by decide) (by decide)]; omega)) hg.1, hg.2⟩
            · have hv6 : vp_in (nI (3 * sd + ld_b W)) 6 := vp_in_nI (by omega) (by decide)
              have hz := zH_of hv.1 u1
              have hF : ∀ t, zH sd S0 e.1 e.2 t → Q none t := hQ
              exact ⟨hv6, b_X11_tellBargain_82 hP hm ⟨by omega, f_must hP hm (by omega) (zH_wI (a := 89) hsd (hz) rfl (k' := ld_b W) ho rfl) (⟨fun z => absurd z (zH_n (zH_wI (a := 89) hsd (hz) rfl (k' := ld_b W) ho rfl)).2.1, fun _ => hF _ (zH_wI (a := 89) hsd (hz) rfl (k' := ld_b W) ho rfl)⟩)⟩⟩
          | inr e =>
            obtain ⟨i3, r3, v3⟩ := e
            obtain ⟨q1, q2, q3, q4⟩ := s1
            have q1' : i2 + 1 < i3 := q1
            have q3' : r3 = none → v3 < 4 ^ ld_g W := q3
            have q4' : r2 ≠ none → r3 = r2 := q4
            have h32 : r3 = none → r2 = none := fun z => Decidable.byContradiction fun y => y ((q4' y).symm.trans z)
            refine ⟨bgF b n i W nl i3 r3 v1 v2 (v3 + 1), tPF i3 r3 (v3 + 1) (by omega) q2 (fun z => ⟨h32 z, q3' z⟩), goC2 _ (fun P d v S0 Q hP hm hd hv hI2 hQ u y u1 u2 u3 => ?_), goR2 _ (fun P d v S0 Q hP hm hd hsd hv hI2 hQ u y u1 u2 u3 => ?_)⟩
            · obtain ⟨hL, hrl, _⟩ := zT_L hv
              have rS := rS_eq hL
              have hrlu : gc_rl u = some L := (fr_rl u1.2.2.1).trans hrl
              refine ⟨vp_in_nI (by omega) (by decide), L, hrlu, cl_io hL, vp_in_nI (by omega) (by decide), ?_⟩
              rw [I_eq]
              have hu := zT_wI (j := 10) (k := 3 + ld_b W) (x := nI y) (fr_trans hv.1 (frC_of u1.2.2.1)) u1 (by decide) hnlC
              have hIu : ∀ j, 7 ≤ j → j ≤ 10 → gc_I u (gc_rS L j) = gc_I v (gc_rS L j) := fun j j1 j2 => fr_I u1.2.2.1 (bf fun z => by
                have := BcL_iff.mp z
                rw [rS j j1 (by omega)] at this
                omega)
              refine ⟨fun _ => C93 P d _ S0 Q i3 (v3 + 1) r3 _ _ hP hm hd h32 hu (fun z => ⟨?_, ?_, ?_⟩) hQ, fun z => absurd z (nI_nm1 (by omega))⟩
              · rw [I_ne _ _ (Or.inl (by rw [rS 8 (by decide) (by decide), rS 10 (by decide) (by decide)]; omega)), hIu 8 (by decide) (by decide)]
                exact (hI2 (h32 z)).1
              · rw [I_ne _ _ (Or.inl (by rw [rS 9 (by decide) (by decide), rS 10 (by decide) (by decide)]; omega)), hIu 9 (by decide) (by decide)]
                exact (hI2 (h32 z)).2
              · rw [I_eq, u3 z]
                rfl
            · have hv6 : vp_in (nI (3 * sd + ld_b W)) 6 := vp_in_nI (by omega) (by decide)
              have hu := zU_wI (a := 89) (j := 3 * sd + ld_b W) (x := y) (frR_trans hv.1 (frR_of u1.2.1.1 u1.2.1.2)) u1 (by decide) (by decide) (k' := ld_b W) ho rfl (hnl 89 (by omega))
              refine ⟨hv6, R82 P d _ S0 Q i3 (v3 + 1) r3 _ hP hm hd (by omega) h32 hu (fun z => ⟨?_, ?_, ?_⟩) hQ⟩
              · rw [I_ne _ _ (Or.inl (by decide)), fr_I u2 rfl]
                exact (hI2 (h32 z)).1
              · rw [I_ne _ _ (Or.inl (by decide)), fr_I u2 rfl]
                exact (hI2 (h32 z)).2
              · rw [I_eq, u3 z]
                rfl
        · refine ⟨.inl (2, tk_st b n i2), trivial, goC _ (fun P d t S0 Q hP hm hd tb t1 hQ => d2 P _ t S0 _ (3 + ld_b W) hP hm (by omega) (dlk_n hdl c1).2 (dlk_n hdl c1).1 (zT_sw hnc t1) (fun u u1 u2 => ⟨fun _ => ⟨by omega, sp_kindAhead hP hm u1.2.1 ⟨fun z => absurd ((kc_24 _).mpr h24) z, fun _ => ⟨by omega, z_take hP hm kk_or h24 u1.2 (fun v vi => absurd vi hi2) (fun v _ v1' => ⟨fun z => absurd rfl z, fun _ => hQ v (zG_of u1.1 v1')⟩)⟩⟩⟩, fun z => absurd z (by decide)⟩)) hbno, goR _ (fun P d t S0 Q hP hm hd hsd ho' tb t1 hQ => d3 P d t S0 _ 87 (ld_b W) hP hm (by omega) (Or.inr rfl) ho (hnl 87 (by omega)) (zU_sw hnr t1) (fun u y u1 u2 => ?_)) hbno⟩
          have hv6 : vp_in (nI (3 * sd + ld_b W)) 6 := vp_in_nI (by omega) (by decide)
          have hu' := wr2 u S0 y u1
          refine ⟨hv6, hv6, by omega, y_is hP hm hu'.2 (fun _ => ⟨fun z => absurd z (by decide), fun _ => ⟨by omega, y_go hP hm (by omega) hu'.2 (by rw [h24]; decide) (fun v vi => absurd vi hi2) (fun v _ v1' _ => ?_)⟩⟩) (fun z => absurd h24 z)⟩
          have hz := zH_of hu'.1 v1'
          have hF : ∀ t, zH sd S0 2 (tk_st b n i2) t → Q none t := hQ
          exact ⟨by omega, f_tside hP hm (by omega) (hz) (fun _ => ⟨hv6, b_X11_tellBargain_82 hP hm ⟨by omega, f_must hP hm (by omega) (zH_wI (a := 89) hsd (hz) rfl (k' := ld_b W) ho rfl) (⟨fun z => absurd z (zH_n (zH_wI (a := 89) hsd (hz) rfl (k' := ld_b W) ho rfl)).2.1, fun _ => hF _ (zH_wI (a := 89) hsd (hz) rfl (k' := ld_b W) ho rfl)⟩)⟩⟩)⟩
      · refine ⟨bgF b n i W nl i2 r2 v1 v2 0, tPF i2 r2 0 (by omega) e2' (fun z => ⟨z, Nat.zero_le _⟩), goC _ (fun P d t S0 Q hP hm hd tb t1 hQ => d2 P _ t S0 _ (3 + ld_b W) hP hm (by omega) (dlk_n hdl c1).2 (dlk_n hdl c1).1 (zT_sw hnc t1) (fun u u1 u2 => ⟨fun _ => ⟨by omega, sp_kindAhead hP hm u1.2.1 ⟨fun _ => C93 P d u S0 Q i2 0 r2 _ _ hP hm hd id u1 u2 hQ, fun z => absurd ((kc_24 _).mp z) h24⟩⟩, fun z => absurd z (by decide)⟩)) hbno, goR _ (fun P d t S0 Q hP hm hd hsd ho' tb t1 hQ => d3 P d t S0 _ 87 (ld_b W) hP hm (by omega) (Or.inr rfl) ho (hnl 87 (by omega)) (zU_sw hnr t1) (fun u y u1 u2 => ?_)) hbno⟩
        have hv6 : vp_in (nI (3 * sd + ld_b W)) 6 := vp_in_nI (by omega) (by decide)
        have hu' := wr2 u S0 y u1
        obtain ⟨w1, w2, w3⟩ := wrI u y
        refine ⟨hv6, hv6, by omega, ?_⟩
        revert hu' w1 w2 w3
        generalize gc_wI (gc_wI u 88 (3 * sd + ld_b W) y) 89 (3 * sd + ld_b W) (-1) = u'
        intro hu' w1 w2 w3
        exact y_is hP hm hu'.2 (fun z => absurd z h24) (fun _ => ⟨fun _ => R82 P d u' S0 Q i2 0 r2 _ hP hm hd (by omega) id hu' (fun z => ⟨by rw [w1]; exact (u2 z).1, by rw [w2]; exact (u2 z).2, w3⟩) hQ, fun z => absurd rfl z⟩)
end Tbg
