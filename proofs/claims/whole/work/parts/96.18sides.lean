/-! A SIDE read by both: what comes of it is the same. -/
abbrev zRes : Type := (Nat × Nat) ⊕ (Nat × Option (Nat × Nat) × Nat)
def qC (b : Nat → Nat) (n T L m : Nat) (nc : List (List Nat × Nat × Nat)) (s0 : gc_St) (W : ld_W) (o : Nat) (res : zRes) (Q : gc_TQ) : Prop := match res with
  | .inl e => ∀ t, zFC L s0 e.1 e.2 t → Q (some (.int (-1))) t
  | .inr e => ∀ t y, zC b n T L m nc s0 e.1 W e.2.1 o t → y < 256 → (e.2.1 = none → y = e.2.2) → Q (some (.int (nI y))) t
def qR (b : Nat → Nat) (n T sd m : Nat) (nr : List (List Nat × Nat × Nat)) (s0 : gc_St) (W : ld_W) (o : Nat) (s : gc_St) (res : zRes) (Q : gc_TQ) : Prop := match res with
  | .inl e => ∀ t y, zFR sd s0 e.1 e.2 t → fr AsR B0 s t → Q (some (.int y)) t
  | .inr e => ∀ t y, zR b n T sd m nr s0 e.1 W e.2.1 o t → fr AsR B0 s t → (e.2.1 = none → y = nI e.2.2) → Q (some (.int y)) t
def sdP (b : Nat → Nat) (n G i : Nat) (r : Option (Nat × Nat)) (res : zRes) : Prop := match res with
  | .inl _ => True
  | .inr e => i < e.1 ∧ (∀ w, e.2.1 = some w → w.2 < tk_st b n e.1) ∧ (e.2.1 = none → e.2.2 < 4 ^ G) ∧ (r ≠ none → e.2.1 = r)
def sdC (b : Nat → Nat) (n T L m : Nat) (nc : List (List Nat × Nat × Nat)) (i : Nat) (W : ld_W) (r : Option (Nat × Nat)) (v : Nat) (res : zRes) : Prop := ∀ (P : gc_Pr) (d : Nat) (s s0 : gc_St) (Q : gc_TQ) (o x k : Nat), gc_Cl P → gc_Mo P → 2 ≤ d → zC b n T L m nc s0 i W r o s → x < 256 → (r = none → x = v) → k ≤ i → qC b n T L m nc s0 W o res Q → gc_T P d 0 0 112 27 [.ref 3, .ref L, .int (nI x), .int (nI k)] [] s Q
def sdR (b : Nat → Nat) (n T sd m : Nat) (nr : List (List Nat × Nat × Nat)) (i : Nat) (W : ld_W) (r : Option (Nat × Nat)) (v : Nat) (res : zRes) : Prop := ∀ (P : gc_Pr) (d : Nat) (s s0 : gc_St) (Q : gc_TQ) (o : Nat) (y : Int32) (l3 : Value), gc_Cl P → gc_Mo P → 4 ≤ d → zR b n T sd m nr s0 i W r o s → (r = none → y = nI v ∧ v < 256) → qR b n T sd m nr s0 W o s res Q → gc_T P d 0 0 199 19 [.ref 67, .int y, .int 1, l3] [] s Q
theorem zC_i {b : Nat → Nat} {n T L m i o : Nat} {nc : List (List Nat × Nat × Nat)} {s0 s : gc_St} {W : ld_W} {r : Option (Nat × Nat)} (h : zC b n T L m nc s0 i W r o s) : i ≤ 400 := cpw_i h.1
theorem zR_i {b : Nat → Nat} {n T sd m i o : Nat} {nr : List (List Nat × Nat × Nat)} {s0 s : gc_St} {W : ld_W} {r : Option (Nat × Nat)} (h : zR b n T sd m nr s0 i W r o s) : i ≤ 400 := rpw_i h.1
theorem zC_L {b : Nat → Nat} {n T L m i o : Nat} {nc : List (List Nat × Nat × Nat)} {s0 s : gc_St} {W : ld_W} {r : Option (Nat × Nat)} (h : zC b n T L m nc s0 i W r o s) : cl_L L := h.2.2.2.2.2.1.1
section Sl
variable {b : Nat → Nat} {n Tc Tr L sd mc mr G : Nat} {nc nr : List (List Nat × Nat × Nat)} {W : ld_W}
/-- no NAME, or one too many -/
theorem side_no {i : Nat} {r : Option (Nat × Nat)} {v : Nat} (hk : rk b n i ≠ 1) : sdC b n Tc L mc nc i W r v (.inl (1, tk_st b n i)) ∧ sdR b n Tr sd mr nr i W r v (.inl (1, tk_st b n i)) := by
  refine ⟨fun P d s s0 Q o x k hP hm hd h hx hxv hki hQ => ?_, fun P d s s0 Q o y l3 hP hm hd h hy hQ => ?_⟩
  · have h400 := zC_i h
    have io := cl_io (zC_L h)
    refine b_X8_side_27 hP hm io (pk_lt 400 k (fun z => by omega) (fun _ => ⟨by omega, z_accept hP hm (by omega) kk_name h (fun t t1 => absurd t1 hk) (fun t t1 => absurd t1 hk) (fun t _ t2 => ⟨fun _ => ?_, fun z => absurd rfl z⟩)⟩))
    exact b_X8_side_52 hP hm io ⟨fun _ => hQ t t2, fun z => absurd rfl z⟩
  · refine b_X11_tellSide_19 hP hm ⟨fun z => absurd z (by decide), fun _ => ⟨fun z => absurd h.2.2.1.1 z, fun _ => ⟨by omega, y_is hP hm h (fun e => absurd e hk) (fun _ => ⟨fun z => absurd rfl z, fun _ => ⟨by omega, y_fail hP hm (x := 1) (by decide) h fun t t1 t1f => ?_⟩⟩)⟩⟩⟩
    have hn := zFR_n t1
    have h43 : gc_F t 67 43 = 0 := (fr_F t1.1.1 (q := 67) (k := 43) rfl).trans ((fr_F h.2.1.1 (q := 67) (k := 43) rfl).symm.trans h.2.2.1.2)
    refine b_X11_tellSide_43 hP hm ⟨fun _ => b_X11_tellSide_65 hP hm ⟨fun z => absurd z hn.2.1, fun _ => hQ t _ t1 (sR_f t1f)⟩, fun z => absurd h43 z⟩
theorem side_loop (hn : n ≤ 2000) (hlt : ∀ j, b j < 256) (hG : ∀ w, gdC nc w = gd nr w) (hG4 : G ≤ 4) (hg : ∀ w g, gd nr w = some g → g < G) : ∀ f i (r : Option (Nat × Nat)) v, 401 ≤ i + f → (∀ w, r = some w → w.2 < tk_st b n i) → (r = none → v < 4 ^ G) → ∃ res, sdP b n G i r res ∧ sdC b n Tc L mc nc i W r v res ∧ sdR b n Tr sd mr nr i W r v res := by
  have h256 : (4 : Nat) ^ G ≤ 256 := Nat.le_trans (Nat.pow_le_pow_right (by decide) hG4) (by decide)
  intro f
  induction f with
  | zero =>
    intro i r v hf _ _
    refine ⟨.inl (1, 0), trivial, fun P d s s0 Q o x k hP hm hd h => ?_, fun P d s s0 Q o y l3 hP hm hd h => ?_⟩
    · have := zC_i h
      omega
    · have := zR_i h
      omega
  | succ f ih =>
    intro i r v hf hr hv
    by_cases hk : rk b n i = 1
    · have hst := rk_n (i := i) (b := b) (n := n) (by rw [hk]; decide)
      by_cases hi : i < 400
      · have hin := sdN_in (nr := nr) (b := b) (n := n) (i := i) hG4 hg hv (tk_st_S hst) hr
        -- what both do up to the next word
        have goC : ∀ (res : zRes), (∀ (P : gc_Pr) (d : Nat) (s s0 : gc_St) (Q : gc_TQ) (o x k y : Nat), gc_Cl P → gc_Mo P → 2 ≤ d → zC b n Tc L mc nc s0 (i + 1) W (sdN nr b n i r v).1 o s → y < 256 → ((sdN nr b n i r v).1 = none → y = (sdN nr b n i r v).2) → k ≤ i → qC b n Tc L mc nc s0 W o res Q → gc_T P d 0 0 112 52 [.ref 3, .ref L, .int (nI x), .int (nI k)] [.int (nI y)] s Q) → sdC b n Tc L mc nc i W r v res := by
          intro res hnext P d s s0 Q o x k hP hm hd h hx hxv hki hQ
          have io := cl_io (zC_L h)
          refine b_X8_side_27 hP hm io (pk_lt 400 k (fun z => by omega) (fun _ => ⟨by omega, z_accept hP hm (by omega) kk_name h (fun t _ _ t3 t4 _ => ⟨fun z => absurd z (by decide), fun _ => ⟨by omega, ?_⟩⟩) (fun t _ t2 => by omega) (fun t t1 => absurd hk t1)⟩))
          exact z_withName hP hm (by omega) hG t3 (by rw [t4]; exact nmC_at h.1 h.1.2.2.2 (Or.inl hk)) (wdi_ok hlt (Or.inl hk)) hx hxv (fun u y u1 u2 u3 => hnext P d u s0 Q o x k y hP hm hd u1 u2 u3 hki hQ)
        have goR : ∀ (res : zRes), (∀ (P : gc_Pr) (d : Nat) (s s0 : gc_St) (Q : gc_TQ) (o : Nat) (y l3 : Int32), gc_Cl P → gc_Mo P → 4 ≤ d → zR b n Tr sd mr nr s0 (i + 1) W (sdN nr b n i r v).1 o s → ((sdN nr b n i r v).1 = none → y = nI (sdN nr b n i r v).2) → qR b n Tr sd mr nr s0 W o s res Q → gc_T P (d - 1) 0 0 184 0 [.ref 67, .int 8] [] s (fun r3 s4 => gc_ri r3 fun x5 => (x5 = 0 → (gc_T P d 0 0 199 192 [.ref 67, .int y, .int x5, .int l3] [] s4 Q)) ∧ (¬ x5 = 0 → (1 ≤ d ∧ gc_T P (d - 1) 0 0 187 0 [.ref 67] [] s4 (fun r6 s7 => gc_rv r6 (gc_T P d 0 0 199 192 [.ref 67, .int y, .int x5, .int l3] [] s7 Q)))))) → sdR b n Tr sd mr nr i W r v res := by
          intro res hnext P d s s0 Q o y l3 hP hm hd h hy hQ
          refine b_X11_tellSide_19 hP hm ⟨fun z => absurd z (by decide), fun _ => ⟨fun z => absurd h.2.2.1.1 z, fun _ => ⟨by omega, y_is hP hm h (fun _ => ⟨fun _ => ?_, fun z => absurd z (by decide)⟩) (fun e => absurd hk e)⟩⟩⟩
          refine b_X11_tellSide_43 hP hm ⟨fun _ => y_withName hP hm (by omega) hn hlt h hk hr hy fun t y' l3' t1 t2 t3 => ?_, fun z => absurd h.2.2.1.2 z⟩
          refine b_X11_tellSide_164 hP hm ?_
          rw [t1.2.2.1.1]
          refine ⟨fun _ => ⟨by omega, y_go hP hm (by omega) t1 (by rw [hk]; decide) (fun u _ u2 u3 => ⟨by omega, hnext P d u s0 Q o y' l3' hP hm hd u2 t3 ?_⟩) (fun u u1 => by omega)⟩, fun z => absurd (by decide) z⟩
          cases res with
          | inl e => exact fun t' y2 a1 a2 => hQ t' y2 a1 (fr_trans t2 (fr_trans (sR_12 u3) a2))
          | inr e => exact fun t' y2 a1 a2 a3 => hQ t' y2 a1 (fr_trans t2 (fr_trans (sR_12 u3) a2)) a3
        by_cases h8 : rk b n (i + 1) = 8
        · have hst8 := rk_n (i := i + 1) (b := b) (n := n) (by rw [h8]; decide)
          by_cases hi2 : i + 1 < 400
          · obtain ⟨res, p1, p2, p3⟩ := ih (i + 2) (sdN nr b n i r v).1 (sdN nr b n i r v).2 (by omega) (fun w e => Nat.lt_trans (hin.2 w e) (tk_st_S hst8)) hin.1
            refine ⟨res, ?_, goC res ?_, goR res ?_⟩
            · cases res with
              | inl e => trivial
              | inr e =>
                obtain ⟨q1, q2, q3, q4⟩ := p1
                refine ⟨by omega, q2, q3, fun z => ?_⟩
                have := sdN_r (nr := nr) (b := b) (n := n) (i := i) (v := v) z
                rw [q4 (by rw [this]; exact z), this]
            · intro P d s s0 Q o x k y hP hm hd h hy hyv hki hQ
              have io := cl_io (zC_L h)
              refine b_X8_side_52 hP hm io ⟨fun z => absurd z (nI_nm1 (by omega)), fun _ => ⟨by omega, sp_kindAhead hP hm h.1 ⟨fun _ => ⟨by omega, z_take hP hm kk_plus h8 h (fun t _ t2 _ _ => ⟨fun _ => ?_, fun z => absurd z (by decide)⟩) (fun t t1 => by omega)⟩, fun z => absurd ((kc_8 _).mpr h8) z⟩⟩⟩
              rw [nI_1]
              exact p2 P d t s0 Q o y (k + 1) hP hm hd t2 hy hyv (by omega) hQ
            · intro P d s s0 Q o y l3 hP hm hd h hyv hQ
              refine y_is hP hm h (fun _ => ⟨fun z => absurd z (by decide), fun _ => ⟨by omega, y_go hP hm (by omega) h (by rw [h8]; decide) (fun u _ u2 u3 => ?_) (fun u u1 => by omega)⟩⟩) (fun z => absurd h8 z)
              refine b_X11_tellSide_192 hP hm (p3 P d u s0 Q o y _ hP hm hd u2 (fun z => ⟨hyv z, Nat.lt_of_lt_of_le (hin.1 z) h256⟩) ?_)
              cases res with
              | inl e => exact fun t' y2 a1 a2 => hQ t' y2 a1 (fr_trans (sR_12 u3) a2)
              | inr e => exact fun t' y2 a1 a2 a3 => hQ t' y2 a1 (fr_trans (sR_12 u3) a2) a3
          · refine ⟨.inl (2, tk_st b n (i + 1)), trivial, goC _ ?_, goR _ ?_⟩
            · intro P d s s0 Q o x k y hP hm hd h hy hyv hki hQ
              have io := cl_io (zC_L h)
              exact b_X8_side_52 hP hm io ⟨fun z => absurd z (nI_nm1 (by omega)), fun _ => ⟨by omega, sp_kindAhead hP hm h.1 ⟨fun _ => ⟨by omega, z_take hP hm kk_plus h8 h (fun t t1 => by omega) (fun t _ t2 => ⟨fun z => absurd rfl z, fun _ => hQ t t2⟩)⟩, fun z => absurd ((kc_8 _).mpr h8) z⟩⟩⟩
            · intro P d s s0 Q o y l3 hP hm hd h hyv hQ
              refine y_is hP hm h (fun _ => ⟨fun z => absurd z (by decide), fun _ => ⟨by omega, y_go hP hm (by omega) h (by rw [h8]; decide) (fun u u1 => by omega) (fun u _ u2 u3 => ?_)⟩⟩) (fun z => absurd h8 z)
              exact b_X11_tellSide_192 hP hm (b_X11_tellSide_19 hP hm ⟨fun z => absurd z (by decide), fun _ => ⟨fun _ => hQ u _ u2 (sR_f u3), fun z => absurd z (zFR_n u2).1⟩⟩)
        · refine ⟨.inr (i + 1, (sdN nr b n i r v).1, (sdN nr b n i r v).2), ⟨Nat.lt_succ_self _, hin.2, hin.1, sdN_r⟩, goC _ ?_, goR _ ?_⟩
          · intro P d s s0 Q o x k y hP hm hd h hy hyv hki hQ
            have io := cl_io (zC_L h)
            exact b_X8_side_52 hP hm io ⟨fun z => absurd z (nI_nm1 (by omega)), fun _ => ⟨by omega, sp_kindAhead hP hm h.1 ⟨fun z => absurd ((kc_8 _).mp z) h8, fun _ => hQ s y h hy hyv⟩⟩⟩
          · intro P d s s0 Q o y l3 hP hm hd h hyv hQ
            refine y_is hP hm h (fun z => absurd z h8) (fun _ => ⟨fun _ => ?_, fun z => absurd rfl z⟩)
            exact b_X11_tellSide_192 hP hm (b_X11_tellSide_19 hP hm ⟨fun _ => hQ s y h (fr_refl s) hyv, fun z => absurd rfl z⟩)
      · refine ⟨.inl (2, tk_st b n i), trivial, fun P d s s0 Q o x k hP hm hd h hx hxv hki hQ => ?_, fun P d s s0 Q o y l3 hP hm hd h hy hQ => ?_⟩
        · have h400 := zC_i h
          have io := cl_io (zC_L h)
          refine b_X8_side_27 hP hm io (pk_lt 400 k (fun z => by omega) (fun _ => ⟨by omega, z_accept hP hm (by omega) kk_name h (fun t _ t1 => by omega) (fun t _ _ t2 => ⟨fun _ => ?_, fun z => absurd rfl z⟩) (fun t t1 => absurd hk t1)⟩))
          exact b_X8_side_52 hP hm io ⟨fun _ => hQ t t2, fun z => absurd rfl z⟩
        · refine b_X11_tellSide_19 hP hm ⟨fun z => absurd z (by decide), fun _ => ⟨fun z => absurd h.2.2.1.1 z, fun _ => ⟨by omega, y_is hP hm h (fun _ => ⟨fun _ => ?_, fun z => absurd z (by decide)⟩) (fun e => absurd hk e)⟩⟩⟩
          refine b_X11_tellSide_43 hP hm ⟨fun _ => y_withName hP hm (by omega) hn hlt h hk hr hy fun t y' l3' t1 t2 t3 => ?_, fun z => absurd h.2.2.1.2 z⟩
          refine b_X11_tellSide_164 hP hm ?_
          rw [t1.2.2.1.1]
          refine ⟨fun _ => ⟨by omega, y_go hP hm (by omega) t1 (by rw [hk]; decide) (fun u u1 => by omega) (fun u _ u2 u3 => ⟨by omega, sp_misF hP hm (zFR_n u2).1 ⟨fun _ => ?_, fun z => absurd rfl z⟩⟩)⟩, fun z => absurd (by decide) z⟩
          exact b_X11_tellSide_192 hP hm (b_X11_tellSide_19 hP hm ⟨fun _ => hQ u _ u2 (fr_trans t2 (sR_f u3)), fun z => absurd rfl z⟩)
    · exact ⟨.inl (1, tk_st b n i), trivial, side_no hk⟩
/-- a SIDE from its first word on -/
def seC (b : Nat → Nat) (n T L m : Nat) (nc : List (List Nat × Nat × Nat)) (i : Nat) (W : ld_W) (r : Option (Nat × Nat)) (res : zRes) : Prop := ∀ (P : gc_Pr) (d : Nat) (s s0 : gc_St) (Q : gc_TQ) (o : Nat), gc_Cl P → gc_Mo P → 2 ≤ d → zC b n T L m nc s0 i W r o s → qC b n T L m nc s0 W o res Q → gc_T P d 0 0 112 0 [.ref 3, .ref L, gc_u, gc_u] [] s Q
def seR (b : Nat → Nat) (n T sd m : Nat) (nr : List (List Nat × Nat × Nat)) (i : Nat) (W : ld_W) (r : Option (Nat × Nat)) (res : zRes) : Prop := ∀ (P : gc_Pr) (d : Nat) (s s0 : gc_St) (Q : gc_TQ) (o : Nat), gc_Cl P → gc_Mo P → 4 ≤ d → zR b n T sd m nr s0 i W r o s → qR b n T sd m nr s0 W o s res Q → gc_T P d 0 0 199 0 [.ref 67, gc_u, gc_u, gc_u] [] s Q
theorem z_side (hn : n ≤ 2000) (hlt : ∀ j, b j < 256) (hG : ∀ w, gdC nc w = gd nr w) (hG4 : G ≤ 4) (hg : ∀ w g, gd nr w = some g → g < G) {i : Nat} {r : Option (Nat × Nat)} (hr : ∀ w, r = some w → w.2 < tk_st b n i) : ∃ res, sdP b n G i r res ∧ seC b n Tc L mc nc i W r res ∧ seR b n Tr sd mr nr i W r res := by
  by_cases hk : rk b n i = 26
  · have hst := rk_n (i := i) (b := b) (n := n) (by rw [hk]; decide)
    by_cases hi : i < 400
    · refine ⟨.inr (i + 1, r, 0), ⟨Nat.lt_succ_self _, fun w e => Nat.lt_trans (hr w e) (tk_st_S hst), fun _ => Nat.pow_pos (by decide), fun _ => rfl⟩, fun P d s s0 Q o hP hm hd h hQ => ?_, fun P d s s0 Q o hP hm hd h hQ => ?_⟩
      · refine b_X8_side_0 hP hm (cl_io (zC_L h)) ⟨by omega, sp_kindAhead hP hm h.1 ⟨fun z => absurd ((kc_26 _).mpr hk) z, fun _ => ⟨by omega, z_take hP hm kk_nothing hk h (fun t _ t2 _ _ => ⟨fun z => absurd z (by decide), fun _ => hQ t 0 t2 (by decide) (fun _ => rfl)⟩) (fun t t1 => by omega)⟩⟩⟩
      · refine b_X11_tellSide_0 hP hm ⟨by omega, y_is hP hm h (fun _ => ⟨fun z => absurd z (by decide), fun _ => ⟨by omega, y_go hP hm (by omega) h (by rw [hk]; decide) (fun u _ u2 u3 => hQ u 0 u2 (sR_12 u3) (fun _ => rfl)) (fun u u1 => by omega)⟩⟩) (fun z => absurd hk z)⟩
    · refine ⟨.inl (2, tk_st b n i), trivial, fun P d s s0 Q o hP hm hd h hQ => ?_, fun P d s s0 Q o hP hm hd h hQ => ?_⟩
      · refine b_X8_side_0 hP hm (cl_io (zC_L h)) ⟨by omega, sp_kindAhead hP hm h.1 ⟨fun z => absurd ((kc_26 _).mpr hk) z, fun _ => ⟨by omega, z_take hP hm kk_nothing hk h (fun t t1 => by omega) (fun t _ t2 => ⟨fun _ => hQ t t2, fun z => absurd rfl z⟩)⟩⟩⟩
      · refine b_X11_tellSide_0 hP hm ⟨by omega, y_is hP hm h (fun _ => ⟨fun z => absurd z (by decide), fun _ => ⟨by omega, y_go hP hm (by omega) h (by rw [hk]; decide) (fun u u1 => by omega) (fun u _ u2 u3 => hQ u _ u2 (sR_f u3))⟩⟩) (fun z => absurd hk z)⟩
  · obtain ⟨res, p1, p2, p3⟩ := side_loop (Tc := Tc) (Tr := Tr) (L := L) (sd := sd) (mc := mc) (mr := mr) (W := W) hn hlt hG hG4 hg 401 i r 0 (by omega) hr (fun _ => Nat.pow_pos (by decide))
    refine ⟨res, p1, fun P d s s0 Q o hP hm hd h hQ => ?_, fun P d s s0 Q o hP hm hd h hQ => ?_⟩
    · exact b_X8_side_0 hP hm (cl_io (zC_L h)) ⟨by omega, sp_kindAhead hP hm h.1 ⟨fun _ => p2 P d s s0 Q o 0 0 hP hm hd h (by decide) (fun _ => rfl) (Nat.zero_le _) hQ, fun z => absurd ((kc_26 _).mp z) hk⟩⟩
    · exact b_X11_tellSide_0 hP hm ⟨by omega, y_is hP hm h (fun z => absurd z hk) (fun _ => ⟨fun _ => p3 P d s s0 Q o 0 _ hP hm hd h (fun _ => ⟨rfl, by decide⟩) hQ, fun z => absurd rfl z⟩)⟩
end Sl
