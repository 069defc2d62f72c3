/-! judge: USE, by the reference. -/
theorem st_chN {a t g x : Nat} (h : dp_ch a t g = some x) : st_ch a t g = nI x := by
  rw [st_ch_dp, h]
theorem st_chn {a t g : Nat} (h : dp_ch a t g = none) : st_ch a t g = -1 := by
  rw [st_ch_dp, h]
def oI : Option Nat → Int32
  | none => -1
  | some t => nI t
theorem st_ch_oI {a t g : Nat} : st_ch a t g = oI (dp_ch a t g) := by
  cases h : dp_ch a t g with
  | none => exact st_chn h
  | some x => exact st_chN h
def fdK (nl : List (List Nat × Nat × Nat)) (w : List Nat) (kd : Nat) : Int32 := match nl.find? (fun e => e.1 == w) with
  | none => -1
  | some e => if e.2.1 = kd then nI e.2.2 else -1
theorem fd_K {nl : List (List Nat × Nat × Nat)} (hd : ndN nl) (w : List Nat) (kd : Nat) : fd_v (nl.find? (fun e => e.1 == w && Nat.beq e.2.1 kd)) = fdK nl w kd := by
  rw [fd_by hd]
  unfold fdK
  cases nl.find? (fun e => e.1 == w) with
  | none => rfl
  | some e =>
    show fd_v (if e.2.1 = kd then some e else none) = if e.2.1 = kd then nI e.2.2 else -1
    by_cases z : e.2.1 = kd
    · rw [if_pos z, if_pos z]
      rfl
    · rw [if_neg z, if_neg z]
      rfl
theorem fdK_n {nl : List (List Nat × Nat × Nat)} {w : List Nat} (kd : Nat) (h : nl.find? (fun e => e.1 == w) = none) : fdK nl w kd = -1 := by
  unfold fdK
  rw [h]
theorem fdK_y {nl : List (List Nat × Nat × Nat)} {w : List Nat} {kd : Nat} {e : List Nat × Nat × Nat} (h : nl.find? (fun e => e.1 == w) = some e) (hk : e.2.1 = kd) : fdK nl w kd = nI e.2.2 := by
  unfold fdK
  rw [h]
  exact if_pos hk
theorem fdK_o {nl : List (List Nat × Nat × Nat)} {w : List Nat} {kd : Nat} {e : List Nat × Nat × Nat} (h : nl.find? (fun e => e.1 == w) = some e) (hk : e.2.1 ≠ kd) : fdK nl w kd = -1 := by
  unfold fdK
  rw [h]
  exact if_neg hk
section Ku
variable {P : gc_Pr} {d : Nat} {s s0 : gc_St} {Q : gc_TQ} {b : Nat → Nat} {n T L lv i o : Nat} {nl : List (List Nat × Nat × Nat)} {W : ld_W} {N : List (Nat × Nat)} {C : List Nat} {st dp id p sk bs lvl bg k : Nat}
theorem k_useOath (hP : gc_Cl P) (hm : gc_Mo P) (hd : 3 ≤ d) (ho : o < 8) (hk : k < ld_o W) (hsk : sk < ld_N W) (hN : N.length + 1 < 64) (hC : C.length + 2 ≤ 64) (hiT : i < T) (h : kA b n T lv W nl o s0 (i + 2) N C st dp id s) {l6 l8 : Int32}
    (hbad : usO W o p sk bs k C (tk_st b n i) = .inl (8, tk_st b n i) → ∀ t, kF' s0 8 (tk_st b n i) t → Q none t)
    (hgo : ∀ ps C' a, usO W o p sk bs k C (tk_st b n i) = .inr (ps, C', a) → ∀ t, kA b n T lv W nl o s0 (i + 2) (pu N ps (lvl + 1)) C' st dp (id + a) t → Q none t) :
    vp_in (((3 : Int32) * (gc_F s 67 19)) + nI k) 6 ∧ (vp_in (((3 : Int32) * (gc_F s 67 19)) + nI k) 6 ∧ (1 ≤ d ∧ gc_T P (d - 1) 0 0 215 0 [.int (nI sk), .int (gc_I s 84 (((3 : Int32) * (gc_F s 67 19)) + nI k).toNatClampNeg), .int (gc_I s 85 (((3 : Int32) * (gc_F s 67 19)) + nI k).toNatClampNeg), gc_u] [] s (fun r15 s16 => gc_ri r15 fun x17 => ((((gc_F s16 67 50) >>> (nI k &&& 31)) &&& 1) = 0 → (gc_T P d 0 0 266 173 [.ref 67, .int (nI p), .int (nI sk), .int (nI bs), .int (nI lvl), .int (nI i), .int l6, .int (nI k), .int l8, .int x17, gc_u, gc_u] [] s16 Q)) ∧ (¬ (((gc_F s16 67 50) >>> (nI k &&& 31)) &&& 1) = 0 → ((¬ x17 = (-1) → (gc_T P d 0 0 266 181 [.ref 67, .int (nI p), .int (nI sk), .int (nI bs), .int (nI lvl), .int (nI i), .int l6, .int (nI k), .int l8, .int x17, gc_u, gc_u] [] s16 Q)) ∧ (x17 = (-1) → (gc_T P d 0 0 266 173 [.ref 67, .int (nI p), .int (nI sk), .int (nI bs), .int (nI lvl), .int (nI i), .int l6, .int (nI k), .int l8, .int x17, gc_u, gc_u] [] s16 Q))))))) := by
  obtain ⟨⟨⟨hlv, h19, hok⟩, _, _, hoa, _⟩, _, _, h50, _⟩ := h.1.2.2.2
  have hN256 := ld_N_le hok
  have hk3 := hok.1.2.1
  have hdl : ld_dl W k := Or.inl hk
  obtain ⟨htk, hgv, _⟩ := hok.2.1 k hdl
  rw [h19, st_lit 3, pk_mul, nI_add, nI_clamp (by omega), (hoa k hk).1, (hoa k hk).2]
  refine ⟨vp_in_nI (by omega) (by decide), vp_in_nI (by omega) (by decide), by omega, sp_changed hP hm (by omega) (by omega) (by omega) (by omega) ?_⟩
  show ((((gc_F s 67 50) >>> (nI k &&& 31)) &&& 1) = 0 → _) ∧ _
  rw [h50]
  have bad : usO W o p sk bs k C (tk_st b n i) = .inl (8, tk_st b n i) → ∀ x, gc_T P d 0 0 266 173 [.ref 67, .int (nI p), .int (nI sk), .int (nI bs), .int (nI lvl), .int (nI i), .int l6, .int (nI k), .int l8, .int x, gc_u, gc_u] [] s Q := fun e x => b_X11_uses_173 hP hm ⟨by omega, k_failAt hP hm (x := 8) (by decide) h.1 hiT fun t t1 => b_X11_uses_181 hP hm ⟨fun z => absurd z (kF_n t1).2.1, fun _ => hbad e t t1⟩⟩
  refine ⟨fun z => bad ?_ _, fun z => ?_⟩
  · unfold usO
    rw [if_neg ((st_bitI (by omega) (by omega)).mp z)]
  · have zb : o / 2 ^ k % 2 = 1 := Decidable.byContradiction fun y => z ((st_bitI (by omega) (by omega)).mpr y)
    cases hch : dp_ch sk (ld_tk W k) (ld_gv W k) with
    | none =>
      rw [st_chn hch]
      exact ⟨fun y => absurd rfl y, fun _ => bad (by unfold usO; rw [if_pos zb, dch_n hch]) _⟩
    | some t =>
      have hdo := dch_0 hch (hok.2.2.1 k hk)
      have ht := (ld_do_N hok hdl hsk hdo).1
      have hu : usO W o p sk bs k C (tk_st b n i) = .inr ([(p, t, bs)], (if C.length = 0 then [sk] else C) ++ [t], 0) := by
        unfold usO
        rw [if_pos zb, hdo]
      rw [st_chN hch]
      refine ⟨fun _ => b_X11_uses_181 hP hm ?_, fun y => absurd y (nI_nm1 (by omega))⟩
      rw [h.1.2.2.1.1, h.2.2.1.1]
      have fin : ∀ C1 u, C1.length < 64 → kA b n T lv W nl o s0 (i + 2) N C1 st dp id u → C1 = (if C.length = 0 then [sk] else C) → gc_T P d 0 0 266 201 [.ref 67, .int (nI p), .int (nI sk), .int (nI bs), .int (nI lvl), .int (nI i), .int l6, .int (nI k), .int l8, .int (nI t), gc_u, gc_u] [] u Q := by
        intro C1 u hl hu' e
        refine b_X11_uses_201 hP hm ⟨by omega, k_links hP hm hu' (by omega) fun v v1 => ⟨by omega, sp_spot hP hm ⟨by omega, ?_⟩⟩⟩
        rw [nI_1]
        refine k_needs hP hm v1 (by omega) fun w w1 => hgo _ _ _ hu w ?_
        rw [← e]
        exact w1
      refine ⟨fun _ => ⟨fun z => ?_, fun z => ⟨by omega, ?_⟩⟩, fun z => absurd (by decide) z⟩
      · have z' : C.length ≠ 0 := fun y => z (by rw [y]; rfl)
        exact fin C s (by omega) h (by rw [if_neg z'])
      · have z' : C.length = 0 := (nI_eq (b := 0) (by omega) (by decide)).mp z
        refine k_links hP hm h (by omega) fun u u1 => fin _ u ?_ u1 ?_
        · rw [List.length_append]
          show C.length + 1 < 64
          omega
        · rw [if_pos z', List.length_eq_zero_iff.mp z']
          rfl
theorem k_useBargain (hP : gc_Cl P) (hm : gc_Mo P) (hd : 3 ≤ d) (hbs : bs < 8) (hk : k < ld_b W) (hsk : sk < ld_N W) (hN : N.length + 1 < 64) (hiT : i < T) (h : kA b n T lv W nl o s0 (i + 2) N [] st dp (id + idl C) s) {l6 l7 : Int32}
    (hbad : usB W p sk bs k C (tk_st b n i) = .inl (8, tk_st b n i) → ∀ t, kF' s0 8 (tk_st b n i) t → Q none t)
    (hgo : ∀ ps C' a, usB W p sk bs k C (tk_st b n i) = .inr (ps, C', a) → ∀ t, kA b n T lv W nl o s0 (i + 2) (pu N ps (lvl + 1)) C' st dp (id + a) t → Q none t) :
    vp_in (((3 : Int32) * (gc_F s 67 19)) + nI k) 6 ∧ (vp_in (((3 : Int32) * (gc_F s 67 19)) + nI k) 6 ∧ (1 ≤ d ∧ gc_T P (d - 1) 0 0 215 0 [.int (nI sk), .int (gc_I s 87 (((3 : Int32) * (gc_F s 67 19)) + nI k).toNatClampNeg), .int (gc_I s 88 (((3 : Int32) * (gc_F s 67 19)) + nI k).toNatClampNeg), gc_u] [] s (fun r5 s6 => gc_ri r5 fun x7 => vp_in (((3 : Int32) * (gc_F s 67 19)) + nI k) 6 ∧ ((¬ (gc_I s6 89 (((3 : Int32) * (gc_F s 67 19)) + nI k).toNatClampNeg) = (-1) → (vp_in (((3 : Int32) * (gc_F s 67 19)) + nI k) 6 ∧ (vp_in (((3 : Int32) * (gc_F s 67 19)) + nI k) 6 ∧ (1 ≤ d ∧ gc_T P (d - 1) 0 0 215 0 [.int (nI sk), .int (gc_I s6 87 (((3 : Int32) * (gc_F s 67 19)) + nI k).toNatClampNeg), .int (gc_I s6 89 (((3 : Int32) * (gc_F s 67 19)) + nI k).toNatClampNeg), gc_u] [] s6 (fun r8 s9 => gc_ri r8 fun x10 => gc_T P d 0 0 266 291 [.ref 67, .int (nI p), .int (nI sk), .int (nI bs), .int (nI lvl), .int (nI i), .int l6, .int l7, .int (nI k), .int (((3 : Int32) * (gc_F s 67 19)) + nI k), .int x7, gc_u] [.int x10] s9 Q))))) ∧ ((gc_I s6 89 (((3 : Int32) * (gc_F s 67 19)) + nI k).toNatClampNeg) = (-1) → (gc_T P d 0 0 266 291 [.ref 67, .int (nI p), .int (nI sk), .int (nI bs), .int (nI lvl), .int (nI i), .int l6, .int l7, .int (nI k), .int (((3 : Int32) * (gc_F s 67 19)) + nI k), .int x7, gc_u] [.int (-1)] s6 Q)))))) := by
  obtain ⟨⟨⟨hlv, h19, hok⟩, _, _, _, hba, _⟩, _⟩ := h.1.2.2.2
  have hN256 := ld_N_le hok
  have hk3 := hok.1.2.2.1
  have hdl : ld_dl W (3 + k) := Or.inr ⟨by omega, by omega⟩
  obtain ⟨htk, hgv, hot⟩ := hok.2.1 (3 + k) hdl
  obtain ⟨b1, b2, b3⟩ := hba k hk
  rw [h19, st_lit 3, pk_mul, nI_add, nI_clamp (by omega), b1, b2]
  have v6 := vp_in_nI (n := 3 * lv + k) (N := 6) (by omega) (by decide)
  refine ⟨v6, v6, by omega, sp_changed hP hm (by omega) (by omega) (by omega) (by omega) ?_⟩
  show vp_in (nI (3 * lv + k)) 6 ∧ (¬ gc_I s 89 (3 * lv + k) = -1 → _) ∧ _
  rw [b3, b1]
  have bad : usB W p sk bs k C (tk_st b n i) = .inl (8, tk_st b n i) → ∀ x y, gc_T P d 0 0 266 325 [.ref 67, .int (nI p), .int (nI sk), .int (nI bs), .int (nI lvl), .int (nI i), .int l6, .int l7, .int (nI k), .int (nI (3 * lv + k)), .int x, .int y] [] s Q := fun e x y => b_X11_uses_325 hP hm ⟨by omega, k_failAt hP hm (x := 8) (by decide) h.1 hiT fun t t1 => b_X11_uses_333 hP hm ⟨fun z => absurd z (kF_n t1).2.1, fun _ => hbad e t t1⟩⟩
  -- the case that is first shown
  have fin : ∀ u N1 t x, N1.length < 64 → bs / 2 ^ k % 2 = 1 → kA b n T lv W nl o s0 (i + 2) N1 [] st dp (id + idl C) u → (∀ w, kA b n T lv W nl o s0 (i + 2) (N1 ++ [(sp3 p t (bs - 2 ^ k), lvl + 1)]) [] st dp (id + idl C) w → Q none w) → gc_T P d 0 0 266 369 [.ref 67, .int (nI p), .int (nI sk), .int (nI bs), .int (nI lvl), .int (nI i), .int l6, .int l7, .int (nI k), .int (nI (3 * lv + k)), .int (nI t), .int x] [] u Q := by
    intro u N1 t x hl zb hu hq
    refine b_X11_uses_369 hP hm ⟨by omega, ?_⟩
    rw [st_clr bs hbs k (by omega) zb]
    refine sp_spot hP hm ⟨by omega, ?_⟩
    rw [nI_1]
    exact k_needs hP hm hu (by omega) hq
  -- what comes of it
  have go : ∀ (x0 : Option Nat), x0 = dp_ch sk (ld_tk W (3 + k)) (ld_gv W (3 + k)) → ∀ (y : Option Nat), (ld_ot W (3 + k) = 0 → y = none) → (∀ z, ld_ot W (3 + k) = z + 1 → y = dp_ch sk (ld_tk W (3 + k)) z) → gc_T P d 0 0 266 291 [.ref 67, .int (nI p), .int (nI sk), .int (nI bs), .int (nI lvl), .int (nI i), .int l6, .int l7, .int (nI k), .int (nI (3 * lv + k)), .int (st_ch sk (ld_tk W (3 + k)) (ld_gv W (3 + k))), gc_u] [.int (oI y)] s Q := by
    intro x0 hx0 y hy0 hy1
    refine b_X11_uses_291 hP hm ⟨fun z => bad ?_ _ _, fun z => ?_⟩
    · unfold usB
      rw [if_neg ((st_bitI (by omega) (by omega)).mp z)]
    · have zb : bs / 2 ^ k % 2 = 1 := Decidable.byContradiction fun y => z ((st_bitI (by omega) (by omega)).mpr y)
      cases hch : dp_ch sk (ld_tk W (3 + k)) (ld_gv W (3 + k)) with
      | none =>
        rw [st_chn hch]
        exact ⟨fun _ => bad (by unfold usB; rw [if_pos zb, dch_n hch]) _ _, fun y => absurd rfl y⟩
      | some t =>
        rw [st_chN hch]
        have ht : t < 256 := dp_ch_lt (by omega) (by omega) hch
        rw [nI_clamp (by omega), b3]
        refine ⟨fun y => absurd y (nI_nm1 (by omega)), fun _ => ⟨v6, ?_⟩⟩
        cases hx : ld_ot W (3 + k) with
        | zero =>
          have hdo := dch_0 hch hx
          rw [hy0 hx]
          refine ⟨fun _ => b_X11_uses_333 hP hm ?_, fun y => absurd rfl y⟩
          rw [h.1.2.2.1.1]
          refine ⟨fun _ => ⟨fun _ => fin s N t _ (by omega) zb h fun w w1 => hgo [(p, t, bs - 2 ^ k)] [] (idl C) ?_ w w1, fun z => absurd rfl z⟩, fun z => absurd (by decide) z⟩
          unfold usB
          rw [if_pos zb, hdo]
        | succ x =>
          have hdo := dch_1 hch hx
          have hxb : ld_oI (x + 1) ≠ -1 := nI_nm1 (by omega)
          rw [hy1 x hx]
          refine ⟨fun y => absurd y hxb, fun _ => ?_⟩
          cases hc2 : dp_ch sk (ld_tk W (3 + k)) x with
          | none =>
            rw [hc2] at hdo
            exact ⟨fun y => absurd rfl y, fun _ => bad (by unfold usB; rw [if_pos zb, hdo]; rfl) _ _⟩
          | some t2 =>
            rw [hc2] at hdo
            have ht2 : t2 < 256 := dp_ch_lt (by omega) (by omega) hc2
            refine ⟨fun _ => b_X11_uses_333 hP hm ?_, fun y => absurd y (nI_nm1 (by omega))⟩
            rw [h.1.2.2.1.1, st_clr bs hbs k (by omega) zb]
            refine ⟨fun _ => ⟨fun z => absurd z (nI_nm1 (by omega)), fun _ => ⟨by omega, sp_spot hP hm ⟨by omega, ?_⟩⟩⟩, fun z => absurd (by decide) z⟩
            rw [nI_1]
            refine k_needs hP hm h (by omega) fun u u1 => fin u _ t _ (by rw [List.length_append]; exact hN) zb u1 fun w w1 => hgo [(p, t2, bs - 2 ^ k), (p, t, bs - 2 ^ k)] [] (idl C) ?_ w (by rw [pu_2]; exact w1)
            unfold usB
            rw [if_pos zb, hdo]
            rfl
  refine ⟨v6, fun z => ⟨v6, v6, by omega, ?_⟩, fun z => ?_⟩
  · cases hx : ld_ot W (3 + k) with
    | zero => exact absurd (by rw [hx]; rfl) z
    | succ x =>
      have hxb : x < 256 := by omega
      rw [show ld_oI (x + 1) = nI x from rfl]
      refine sp_changed hP hm (by omega) (by omega) (by omega) hxb ?_
      have := go _ rfl (dp_ch sk (ld_tk W (3 + k)) x) (fun e => by omega) (fun z e => by rw [show z = x by omega])
      rw [← st_ch_oI] at this
      exact this
  · cases hx : ld_ot W (3 + k) with
    | zero => exact go _ rfl none (fun _ => rfl) (fun z e => by omega)
    | succ x =>
      rw [hx] at z
      exact absurd z (nI_nm1 (by omega))
theorem k_uses (hP : gc_Cl P) (hm : gc_Mo P) (hd : 4 ≤ d) (hlt : ∀ j, b j < 256) (hnd : ndN nl) (hnl : nli W nl) (ho : o < 8) (hsk : sk < ld_N W) (hbs : bs < 8) (hN : N.length + 1 < 64) (hC : C.length + 2 ≤ 64) (hCc : ∀ k, k < C.length → C.getD k 0 < 256) (h : kA b n T lv W nl o s0 (i + 1) N C st dp id s)
    (hbad : ∀ x y, usF b n (i + 1) W nl o p sk bs C (tk_st b n i) = .inl (x, y) → ∀ t, kF' s0 x y t → Q none t)
    (hgo : ∀ ps C' a, usF b n (i + 1) W nl o p sk bs C (tk_st b n i) = .inr (ps, C', a) → ∀ t, kA b n T lv W nl o s0 (i + 2) (pu N ps (lvl + 1)) C' st dp (id + a) t → Q none t) : gc_T P d 0 0 266 0 [.ref 67, .int (nI p), .int (nI sk), .int (nI bs), .int (nI lvl), .int (nI i), gc_u, gc_u, gc_u, gc_u, gc_u, gc_u] [] s Q := by
  have h400 := kj_i h.1
  have hT := h.1.1.2.2.2
  obtain ⟨⟨hlv, h19, hok⟩, _⟩ := h.1.2.2.2.1
  obtain ⟨_, hnm, h79, _⟩ := h.1.2.2.2
  have f34 : ∀ x y t l6, kF' s0 x y t → Q none t → gc_T P d 0 0 266 34 [.ref 67, .int (nI p), .int (nI sk), .int (nI bs), .int (nI lvl), .int (nI i), .int l6, gc_u, gc_u, gc_u, gc_u, gc_u] [] t Q := fun x y t l6 t1 t2 => b_X11_uses_34 hP hm ⟨fun z => absurd z (kF_n t1).2.1, fun _ => t2⟩
  have f103 : ∀ x y t l6 l7 l8, kF' s0 x y t → Q none t → gc_T P d 0 0 266 103 [.ref 67, .int (nI p), .int (nI sk), .int (nI bs), .int (nI lvl), .int (nI i), .int l6, .int l7, .int l8, gc_u, gc_u, gc_u] [] t Q := fun x y t l6 l7 l8 t1 t2 => b_X11_uses_103 hP hm ⟨fun z => absurd z (kF_n t1).2.1, fun _ => t2⟩
  refine b_X11_uses_0 hP hm ⟨by omega, k_is hP hm h.1 (fun e1 => ⟨fun _ => b_X11_uses_19 hP hm ?_, fun z => absurd z (by decide)⟩) (fun n1 => ⟨fun z => absurd rfl z, fun _ => ⟨by omega, k_fail hP hm (x := 1) (by decide) h.1 fun t t1 => ?_⟩⟩)⟩
  · rw [h.1.1.2.2.1]
    by_cases hi4 : i + 1 < 400
    · have t0 := sT_ok e1 hi4
      refine ⟨fun _ => b_X11_uses_34 hP hm ?_, fun z => absurd ((nI_eq (b := 400) (by omega) (by decide)).mp z) (by omega)⟩
      rw [h.1.2.2.1.1, h19, nI_clamp (by omega), h79]
      have hk8 : ∀ e, e ∈ nl → e.2.1 < 2 ^ 31 := fun e he => by
        have := (hnl e he).1
        omega
      have hw := wdi_ok hlt (b := b) (n := n) (i := i + 1) (Or.inl e1)
      refine ⟨fun _ => ⟨vp_in_nI hlv (by decide), by omega, sp_mfind hP hm hnm hk8 hw (kd := 1) (by omega) (by decide) (nmR_at h.1.1 hT (Or.inl e1)) ?_⟩, fun z => absurd (by decide) z⟩
      show vp_in (gc_F s 67 19) 2 ∧ _
      rw [h19, nI_clamp (by omega), h79]
      refine ⟨vp_in_nI hlv (by decide), by omega, sp_mfind hP hm hnm hk8 hw (kd := 2) (by omega) (by decide) (nmR_at h.1.1 hT (Or.inl e1)) ?_⟩
      rw [fd_K hnd, fd_K hnd]
      have u0 : usF b n (i + 1) W nl o p sk bs C (tk_st b n i) = (match nl.find? (fun e => e.1 == wdi b n (i + 1)) with
        | none => .inl (4, tk_st b n (i + 1))
        | some e => if e.2.1 = 1 then usO W o p sk bs e.2.2 C (tk_st b n i) else if e.2.1 = 2 then usB W p sk bs e.2.2 C (tk_st b n i) else .inl (4, tk_st b n (i + 1))) := by
        unfold usF
        rw [t0]
        rfl
      have no : usF b n (i + 1) W nl o p sk bs C (tk_st b n i) = .inl (4, tk_st b n (i + 1)) → ((¬ (-1 : Int32) = (-1) → (gc_T P d 0 0 266 103 [.ref 67, .int (nI p), .int (nI sk), .int (nI bs), .int (nI lvl), .int (nI i), .int (nI (i + 1)), .int (-1), .int (-1), gc_u, gc_u, gc_u] [] s Q)) ∧ ((-1 : Int32) = (-1) → ((¬ (-1 : Int32) = (-1) → (gc_T P d 0 0 266 103 [.ref 67, .int (nI p), .int (nI sk), .int (nI bs), .int (nI lvl), .int (nI i), .int (nI (i + 1)), .int (-1), .int (-1), gc_u, gc_u, gc_u] [] s Q)) ∧ ((-1 : Int32) = (-1) → (1 ≤ d ∧ gc_T P (d - 1) 0 0 185 0 [.ref 67, .int 4] [] s (fun r7 s8 => gc_rv r7 (gc_T P d 0 0 266 103 [.ref 67, .int (nI p), .int (nI sk), .int (nI bs), .int (nI lvl), .int (nI i), .int (nI (i + 1)), .int (-1), .int (-1), gc_u, gc_u, gc_u] [] s8 Q))))))) := fun e => ⟨fun y => absurd rfl y, fun _ => ⟨fun y => absurd rfl y, fun _ => ⟨by omega, k_fail hP hm (x := 4) (by decide) h.1 fun t t1 => f103 _ _ t _ _ _ t1 (hbad _ _ e t t1)⟩⟩⟩
      cases hf : nl.find? (fun e => e.1 == wdi b n (i + 1)) with
      | none =>
        rw [hf] at u0
        rw [fdK_n 1 hf, fdK_n 2 hf]
        exact no u0
      | some e =>
        rw [hf] at u0
        have u1 : usF b n (i + 1) W nl o p sk bs C (tk_st b n i) = (if e.2.1 = 1 then usO W o p sk bs e.2.2 C (tk_st b n i) else if e.2.1 = 2 then usB W p sk bs e.2.2 C (tk_st b n i) else .inl (4, tk_st b n (i + 1))) := u0
        have he := List.mem_of_find?_eq_some hf
        obtain ⟨k0, k1, k2, k3, k4⟩ := hnl e he
        have c1 := hok.1.2.1
        have c2 := hok.1.2.2.1
        -- the word is taken
        have go : ∀ l7 l8 : Int32, (∀ t, kA b n T lv W nl o s0 (i + 2) N C st dp id t → (l7 = (-1) → (1 ≤ d ∧ gc_T P (d - 1) 0 0 261 0 [.ref 67, gc_u, gc_u, gc_u] [] t (fun r3 s4 => gc_rv r3 (vp_in (((3 : Int32) * (gc_F s4 67 19)) + l8) 6 ∧ (vp_in (((3 : Int32) * (gc_F s4 67 19)) + l8) 6 ∧ (1 ≤ d ∧ gc_T P (d - 1) 0 0 215 0 [.int (nI sk), .int (gc_I s4 87 (((3 : Int32) * (gc_F s4 67 19)) + l8).toNatClampNeg), .int (gc_I s4 88 (((3 : Int32) * (gc_F s4 67 19)) + l8).toNatClampNeg), gc_u] [] s4 (fun r5 s6 => gc_ri r5 fun x7 => vp_in (((3 : Int32) * (gc_F s4 67 19)) + l8) 6 ∧ ((¬ (gc_I s6 89 (((3 : Int32) * (gc_F s4 67 19)) + l8).toNatClampNeg) = (-1) → (vp_in (((3 : Int32) * (gc_F s4 67 19)) + l8) 6 ∧ (vp_in (((3 : Int32) * (gc_F s4 67 19)) + l8) 6 ∧ (1 ≤ d ∧ gc_T P (d - 1) 0 0 215 0 [.int (nI sk), .int (gc_I s6 87 (((3 : Int32) * (gc_F s4 67 19)) + l8).toNatClampNeg), .int (gc_I s6 89 (((3 : Int32) * (gc_F s4 67 19)) + l8).toNatClampNeg), gc_u] [] s6 (fun r8 s9 => gc_ri r8 fun x10 => gc_T P d 0 0 266 291 [.ref 67, .int (nI p), .int (nI sk), .int (nI bs), .int (nI lvl), .int (nI i), .int (nI (i + 1)), .int l7, .int l8, .int (((3 : Int32) * (gc_F s4 67 19)) + l8), .int x7, gc_u] [.int x10] s9 Q))))) ∧ ((gc_I s6 89 (((3 : Int32) * (gc_F s4 67 19)) + l8).toNatClampNeg) = (-1) → (gc_T P d 0 0 266 291 [.ref 67, .int (nI p), .int (nI sk), .int (nI bs), .int (nI lvl), .int (nI i), .int (nI (i + 1)), .int l7, .int l8, .int (((3 : Int32) * (gc_F s4 67 19)) + l8), .int x7, gc_u] [.int (-1)] s6 Q))))))))))) → (∀ t, kA b n T lv W nl o s0 (i + 2) N C st dp id t → (¬ l7 = (-1) → (vp_in (((3 : Int32) * (gc_F t 67 19)) + l7) 6 ∧ (vp_in (((3 : Int32) * (gc_F t 67 19)) + l7) 6 ∧ (1 ≤ d ∧ gc_T P (d - 1) 0 0 215 0 [.int (nI sk), .int (gc_I t 84 (((3 : Int32) * (gc_F t 67 19)) + l7).toNatClampNeg), .int (gc_I t 85 (((3 : Int32) * (gc_F t 67 19)) + l7).toNatClampNeg), gc_u] [] t (fun r15 s16 => gc_ri r15 fun x17 => ((((gc_F s16 67 50) >>> (l7 &&& 31)) &&& 1) = 0 → (gc_T P d 0 0 266 173 [.ref 67, .int (nI p), .int (nI sk), .int (nI bs), .int (nI lvl), .int (nI i), .int (nI (i + 1)), .int l7, .int l8, .int x17, gc_u, gc_u] [] s16 Q)) ∧ (¬ (((gc_F s16 67 50) >>> (l7 &&& 31)) &&& 1) = 0 → ((¬ x17 = (-1) → (gc_T P d 0 0 266 181 [.ref 67, .int (nI p), .int (nI sk), .int (nI bs), .int (nI lvl), .int (nI i), .int (nI (i + 1)), .int l7, .int l8, .int x17, gc_u, gc_u] [] s16 Q)) ∧ (x17 = (-1) → (gc_T P d 0 0 266 173 [.ref 67, .int (nI p), .int (nI sk), .int (nI bs), .int (nI lvl), .int (nI i), .int (nI (i + 1)), .int l7, .int l8, .int x17, gc_u, gc_u] [] s16 Q)))))))))) → gc_T P d 0 0 266 103 [.ref 67, .int (nI p), .int (nI sk), .int (nI bs), .int (nI lvl), .int (nI i), .int (nI (i + 1)), .int l7, .int l8, gc_u, gc_u, gc_u] [] s Q := by
          intro l7 l8 g1 g2
          refine b_X11_uses_103 hP hm ?_
          rw [h.1.2.2.1.1]
          exact ⟨fun _ => ⟨by omega, k_go hP hm (by omega) h.1 (by rw [e1]; decide) (fun t _ t1 t2 => ⟨fun z => g1 t (kA_12 h t2 t1) z, fun z => g2 t (kA_12 h t2 t1) z⟩) (fun t ti => by omega)⟩, fun z => absurd (by decide) z⟩
        by_cases z1 : e.2.1 = 1
        · rw [if_pos z1] at u1
          rw [fdK_y hf z1]
          have hk' := k2 z1
          refine ⟨fun _ => go _ _ (fun t _ z => absurd z (nI_nm1 (y := e.2.2) (by omega))) (fun t t1 _ => k_useOath (k := e.2.2) hP hm (by omega) ho hk' hsk hN hC (by omega) t1 (fun y u u1' => hbad _ _ (u1.trans y) u u1') (fun ps C' a y u u1' => hgo ps C' a (u1.trans y) u u1')), fun z => absurd z (nI_nm1 (y := e.2.2) (by omega))⟩
        · rw [if_neg z1] at u1
          rw [fdK_o hf z1]
          refine ⟨fun y => absurd rfl y, fun _ => ?_⟩
          by_cases z2 : e.2.1 = 2
          · rw [if_pos z2] at u1
            have hk' := k3 z2
            rw [fdK_y hf z2]
            refine ⟨fun _ => go _ _ (fun t t1 _ => ⟨by omega, k_row0 hP hm t1 (by omega) hCc fun u u2 => k_useBargain (k := e.2.2) hP hm (by omega) hbs hk' hsk hN (by omega) u2 (fun y u u1' => hbad _ _ (u1.trans y) u u1') (fun ps C' a y u u1' => hgo ps C' a (u1.trans y) u u1')⟩) (fun t _ z => absurd rfl z), fun z => absurd z (nI_nm1 (by omega))⟩
          · rw [if_neg z2] at u1
            rw [fdK_o hf z2]
            exact (no u1).2 rfl
    · have hi : i + 1 = 400 := by omega
      refine ⟨fun z => absurd (by rw [hi]; rfl) z, fun _ => ⟨by omega, k_fail hP hm (x := 2) (by decide) h.1 fun t t1 => f34 _ _ t _ t1 (hbad _ _ ?_ t t1)⟩⟩
      unfold usF
      rw [sT_2 e1 hi]
  · have hb : Q none t := by
      refine hbad _ _ ?_ t t1
      unfold usF
      rw [sT_1 n1]
    exact b_X11_uses_19 hP hm ⟨fun _ => f34 _ _ t _ t1 hb, fun _ => ⟨by omega, sp_mfailF hP hm (kF_n t1).2.1 (f34 _ _ t _ t1 hb)⟩⟩
end Ku
