/-! judge: USE, by both. -/
theorem fd_by {nl : List (List Nat × Nat × Nat)} (hd : ndN nl) (w : List Nat) (kd : Nat) : nl.find? (fun e => e.1 == w && Nat.beq e.2.1 kd) = (match nl.find? (fun e => e.1 == w) with
    | none => none
    | some e => if e.2.1 = kd then some e else none) := by
  cases hf : nl.find? (fun e => e.1 == w) with
  | some e =>
    have he := List.mem_of_find?_eq_some hf
    have hp : (e.1 == w) = true := by
      have := List.find?_some hf
      exact this
    have hw : e.1 = w := by simpa using hp
    show _ = (if e.2.1 = kd then some e else none)
    cases hg : nl.find? (fun e => e.1 == w && Nat.beq e.2.1 kd) with
    | none =>
      have := List.find?_eq_none.mp hg e he
      by_cases z : e.2.1 = kd
      · rw [hp, z] at this
        exact absurd (by rw [Bool.true_and]; exact Nat.beq_refl kd) this
      · rw [if_neg z]
    | some e' =>
      have hp' : (e'.1 == w && Nat.beq e'.2.1 kd) = true := by
        have := List.find?_some hg
        exact this
      rw [Bool.and_eq_true, Nat.beq_eq] at hp'
      have hw' : e'.1 = w := by simpa using hp'.1
      have : e = e' := hd e e' he (List.mem_of_find?_eq_some hg) (hw.trans hw'.symm)
      rw [this, if_pos hp'.2]
  | none =>
    exact List.find?_eq_none.mpr fun e he hp => by
      rw [Bool.and_eq_true] at hp
      exact List.find?_eq_none.mp hf e he hp.1
abbrev uRes : Type := (Nat × Nat) ⊕ (List (Nat × Nat × Nat) × List Nat × Nat)
/-- an OATH used -/
def usO (W : ld_W) (o p sk bs k : Nat) (C : List Nat) (bg : Nat) : uRes := if o / 2 ^ k % 2 = 1 then (match ld_do W k sk with
  | some r => .inr ([(p, r.1, bs)], (if C.length = 0 then [sk] else C) ++ [r.1], 0)
  | none => .inl (8, bg)) else .inl (8, bg)
/-- a BARGAIN used -/
def usB (W : ld_W) (p sk bs k : Nat) (C : List Nat) (bg : Nat) : uRes := if bs / 2 ^ k % 2 = 1 then (match ld_do W (3 + k) sk with
  | some (t, none) => .inr ([(p, t, bs - 2 ^ k)], [], idl C)
  | some (t, some t2) => .inr ([(p, t2, bs - 2 ^ k), (p, t, bs - 2 ^ k)], [], idl C)
  | none => .inl (8, bg)) else .inl (8, bg)
def usF (b : Nat → Nat) (n i : Nat) (W : ld_W) (nl : List (List Nat × Nat × Nat)) (o p sk bs : Nat) (C : List Nat) (bg : Nat) : uRes := match sT b n i 1 with
  | some e => .inl e
  | none => match nl.find? (fun e => e.1 == wdi b n i) with
    | none => .inl (4, tk_st b n i)
    | some e => if e.2.1 = 1 then usO W o p sk bs e.2.2 C bg else if e.2.1 = 2 then usB W p sk bs e.2.2 C bg else .inl (4, tk_st b n i)
theorem bit_le {bs k : Nat} (h : bs / 2 ^ k % 2 = 1) : 2 ^ k ≤ bs := by
  rcases Nat.lt_or_ge bs (2 ^ k) with z | z
  · rw [Nat.div_eq_of_lt z] at h
    exact absurd h (by decide)
  · exact z
theorem ld_t0_s {W : ld_W} {k sk : Nat} {r : Nat × Option Nat} (h : ld_do W k sk = some r) : ld_t0 W k sk = nI r.1 := by
  unfold ld_t0
  rw [h]
theorem ld_t0_n {W : ld_W} {k sk : Nat} (h : ld_do W k sk = none) : ld_t0 W k sk = -1 := by
  unfold ld_t0
  rw [h]
theorem ld_t1_s {W : ld_W} {k sk t t2 : Nat} (h : ld_do W k sk = some (t, some t2)) : ld_t1 W k sk = nI t2 := by
  unfold ld_t1
  rw [h]
theorem dch_n {W : ld_W} {k sk : Nat} (h : dp_ch sk (ld_tk W k) (ld_gv W k) = none) : ld_do W k sk = none := by
  unfold ld_do
  rw [h]
theorem dch_0 {W : ld_W} {k sk t : Nat} (h : dp_ch sk (ld_tk W k) (ld_gv W k) = some t) (h0 : ld_ot W k = 0) : ld_do W k sk = some (t, none) := by
  unfold ld_do
  rw [h]
  show (match ld_ot W k with
    | 0 => some (t, none)
    | x + 1 => (dp_ch sk (ld_tk W k) x).map (fun t2 => (t, some t2))) = _
  rw [h0]
theorem dch_1 {W : ld_W} {k sk t x : Nat} (h : dp_ch sk (ld_tk W k) (ld_gv W k) = some t) (h0 : ld_ot W k = x + 1) : ld_do W k sk = (dp_ch sk (ld_tk W k) x).map (fun t2 => (t, some t2)) := by
  unfold ld_do
  rw [h]
  show (match ld_ot W k with
    | 0 => some (t, none)
    | x + 1 => (dp_ch sk (ld_tk W k) x).map (fun t2 => (t, some t2))) = _
  rw [h0]
theorem nI_gtn {a b : Nat} (h : b < a) (ha : a < 2 ^ 31) : ¬ nI a ≤ nI b := by
  rw [nI_leI ha (by omega)]
  omega
section Us
variable {P : gc_Pr} {d : Nat} {s s0 : gc_St} {Q : gc_TQ} {b : Nat → Nat} {n T L lv i o : Nat} {nl : List (List Nat × Nat × Nat)} {W : ld_W} {N : List (Nat × Nat)} {C : List Nat} {st dp id p sk bs lvl bg k : Nat}
theorem j_useOath (hP : gc_Cl P) (hm : gc_Mo P) (hd : 3 ≤ d) (ho : o < 8) (hk : k < ld_o W) (hsk : sk < ld_N W) (hN : N.length + 1 < 64) (hC : C.length + 2 ≤ 64) (h : jA b n T L W nl s0 o i N C st dp id s) (hj : jP p sk bs lvl bg s)
    (hbad : usO W o p sk bs k C bg = .inl (8, bg) → ∀ t, jF s0 8 bg t → Q (some (.int 0)) t)
    (hgo : ∀ ps C' a, usO W o p sk bs k C bg = .inr (ps, C', a) → ∀ t, jA b n T L W nl s0 o i (pu N ps (lvl + 1)) C' st dp (id + a) t → Q (some (.int 1)) t) : gc_T P d 0 0 84 0 [.ref 28, .int (nI k), gc_u] [] s Q := by
  have hCl := h.1.2.2.2.2.1
  have hok := hCl.2.2.2.1
  have hN256 := ld_N_le hok
  have hk3 := hok.1.2.1
  refine b_X6_useOath_0 hP hm ⟨by omega, ?_⟩
  rw [hj.2.1]
  refine sp_target hP hm hCl (w := 0) (Or.inl hk) (by decide) hsk ⟨by omega, ?_⟩
  rw [if_pos rfl, h.2.2.2.2.2.2]
  have bad : usO W o p sk bs k C bg = .inl (8, bg) → ∀ x, gc_T P d 0 0 84 30 [.ref 28, .int (nI k), .int x] [] s Q := fun e x => b_X6_useOath_30 hP hm ⟨by omega, by
    rw [hj.2.2.2.2]
    exact j_blame hP hm (x := 8) (by decide) h.1.2.2.1 fun t t1 => ⟨Or.inl rfl, hbad e t t1⟩⟩
  refine sp_hasBit hP hm (by omega) (by omega) ?_
  by_cases zb : o / 2 ^ k % 2 = 1
  · rw [decide_eq_true zb]
    refine ⟨fun y => absurd y (by decide), fun _ => ?_⟩
    cases hdo : ld_do W k sk with
    | none =>
      rw [ld_t0_n hdo]
      exact ⟨fun y => absurd rfl y, fun _ => bad (by unfold usO; rw [if_pos zb, hdo]) _⟩
    | some r =>
      have hr := (ld_do_N hok (Or.inl hk) hsk (t := r.1) (o := r.2) hdo).1
      have hu : usO W o p sk bs k C bg = .inr ([(p, r.1, bs)], (if C.length = 0 then [sk] else C) ++ [r.1], 0) := by
        unfold usO
        rw [if_pos zb, hdo]
      rw [ld_t0_s hdo, h.2.2.1.1]
      have fin : ∀ C1 t, C1.length < 64 → jA b n T L W nl s0 o i N C1 st dp id t → jP p sk bs lvl bg t → C1 = (if C.length = 0 then [sk] else C) → gc_T P d 0 0 84 59 [.ref 28, .int (nI k), .int (nI r.1)] [] t Q := by
        intro C1 t hl ht htp e
        refine b_X6_useOath_59 hP hm ⟨by omega, j_addRow hP hm ht htp hl fun u u1 u2 => ⟨by omega, ?_⟩⟩
        rw [u2.1, u2.2.2.1]
        refine j_open hP hm u1 u2 (by omega) fun w w1 _ => ⟨Or.inr rfl, hgo _ _ _ hu w ?_⟩
        rw [← e]
        exact w1
      refine ⟨fun _ => ⟨fun z => ?_, fun z => ⟨by omega, ?_⟩⟩, fun y => absurd y (nI_nm1 (by omega))⟩
      · have z' : C.length ≠ 0 := fun y => z (by rw [y]; rfl)
        exact fin C s (by omega) h hj (by rw [if_neg z'])
      · have z' : C.length = 0 := (nI_eq (b := 0) (by omega) (by decide)).mp z
        rw [hj.2.1]
        refine j_addRow hP hm h hj (by omega) fun u u1 u2 => fin _ u ?_ u1 u2 ?_
        · rw [List.length_append]
          show C.length + 1 < 64
          omega
        · rw [if_pos z', List.length_eq_zero_iff.mp z']
          rfl
  · rw [decide_eq_false zb]
    exact ⟨fun _ => bad (by unfold usO; rw [if_neg zb]) _, fun y => absurd rfl y⟩
theorem j_useBargain (hP : gc_Cl P) (hm : gc_Mo P) (hd : 3 ≤ d) (hbs : bs < 8) (hk : k < ld_b W) (hsk : sk < ld_N W) (hN : N.length + 1 < 64) (h : jA b n T L W nl s0 o i N [] st dp (id + idl C) s) (hj : jP p sk bs lvl bg s)
    (hbad : usB W p sk bs k C bg = .inl (8, bg) → ∀ t, jF s0 8 bg t → Q (some (.int 0)) t)
    (hgo : ∀ ps C' a, usB W p sk bs k C bg = .inr (ps, C', a) → ∀ t, jA b n T L W nl s0 o i (pu N ps (lvl + 1)) C' st dp (id + a) t → Q (some (.int 1)) t) : gc_T P d 0 0 85 0 [.ref 28, .int (nI k), gc_u, gc_u, gc_u] [] s Q := by
  have hCl := h.1.2.2.2.2.1
  have hok := hCl.2.2.2.1
  have hN256 := ld_N_le hok
  have hk3 := hok.1.2.2.1
  have hdl : ld_dl W (3 + k) := Or.inr ⟨by omega, by omega⟩
  refine b_X6_useBargain_0 hP hm ⟨by omega, ?_⟩
  rw [hj.2.1, st_lit 3, nI_add]
  refine sp_target hP hm hCl (w := 0) hdl (by decide) hsk ⟨by omega, ?_⟩
  rw [if_pos rfl, hj.2.2.1]
  have bad : usB W p sk bs k C bg = .inl (8, bg) → ∀ x, gc_T P d 0 0 85 34 [.ref 28, .int (nI k), .int (nI (3 + k)), .int x, gc_u] [] s Q := fun e x => b_X6_useBargain_34 hP hm ⟨by omega, by
    rw [hj.2.2.2.2]
    exact j_blame hP hm (x := 8) (by decide) h.1.2.2.1 fun t t1 => ⟨Or.inl rfl, hbad e t t1⟩⟩
  refine sp_hasBit hP hm (by omega) (by omega) ?_
  by_cases zb : bs / 2 ^ k % 2 = 1
  · rw [decide_eq_true zb]
    refine ⟨fun y => absurd y (by decide), fun _ => ?_⟩
    cases hdo : ld_do W (3 + k) sk with
    | none =>
      rw [ld_t0_n hdo]
      exact ⟨fun y => absurd rfl y, fun _ => bad (by unfold usB; rw [if_pos zb, hdo]) _⟩
    | some r =>
      obtain ⟨t, ot⟩ := r
      obtain ⟨hr, hr2, hr3, _⟩ := ld_do_N hok hdl hsk hdo
      rw [ld_t0_s hdo]
      show (¬ nI t = -1 → _) ∧ _
      refine ⟨fun _ => ?_, fun y => absurd y (nI_nm1 (by omega))⟩
      have e10 := cl_ot hCl.2.2.1 hdl
      rw [hCl.2.1, nI_clamp (by omega), e10, hj.2.1, hj.2.2.1, hj.1, ld_Bsh (by omega), pk_sub (bit_le zb)]
      refine ⟨cl_io hCl.1, vp_in_nI (by omega) (by decide), ?_⟩
      have fin : ∀ u N1, N1.length < 64 → jA b n T L W nl s0 o i N1 [] st dp (id + idl C) u → jP p sk bs lvl bg u → (∀ w, jA b n T L W nl s0 o i (N1 ++ [(sp3 p t (bs - 2 ^ k), lvl + 1)]) [] st dp (id + idl C) w → Q (some (.int 1)) w) → gc_T P d 0 0 85 98 [.ref 28, .int (nI k), .int (nI (3 + k)), .int (nI t), .int (nI (bs - 2 ^ k))] [] u Q := by
        intro u N1 hl hu hup hq
        refine b_X6_useBargain_98 hP hm ⟨by omega, ?_⟩
        rw [hup.1]
        exact j_open hP hm hu hup hl fun w w1 _ => ⟨Or.inr rfl, hq w w1⟩
      cases ot with
      | none =>
        have h0 : ld_ot W (3 + k) = 0 := hr3.mp rfl
        rw [h0]
        refine ⟨fun _ => fin s N (by omega) h hj fun w w1 => hgo [(p, t, bs - 2 ^ k)] [] (idl C) ?_ w w1, fun y => absurd rfl y⟩
        unfold usB
        rw [if_pos zb, hdo]
      | some t2 =>
        have h1 : ld_oI (ld_ot W (3 + k)) ≠ -1 := by
          have hb := (hok.2.1 (3 + k) hdl).2.2
          cases hx : ld_ot W (3 + k) with
          | zero => exact absurd (hr3.mpr hx) (by simp)
          | succ x => exact nI_nm1 (by omega)
        have ht2 := hr2 t2 rfl
        refine ⟨fun y => absurd y h1, fun _ => ⟨by omega, sp_target hP hm hCl (w := 1) hdl (by decide) hsk ⟨by omega, ?_⟩⟩⟩
        rw [if_neg (by decide), ld_t1_s hdo]
        refine j_open hP hm h hj (by omega) fun u u1 u2 => fin u _ (by rw [List.length_append]; exact hN) u1 u2 fun w w1 => hgo [(p, t2, bs - 2 ^ k), (p, t, bs - 2 ^ k)] [] (idl C) ?_ w (by rw [pu_2]; exact w1)
        unfold usB
        rw [if_pos zb, hdo]
  · rw [decide_eq_false zb]
    exact ⟨fun _ => bad (by unfold usB; rw [if_neg zb]) _, fun y => absurd rfl y⟩
theorem usO_bad {x y : Nat} (h : usO W o p sk bs k C bg = .inl (x, y)) : x = 8 ∧ y = bg := by
  unfold usO at h
  split at h
  · split at h
    · exact absurd h (by simp)
    · have : (8, bg) = (x, y) := by simpa using h
      simp only [Prod.mk.injEq] at this
      exact ⟨this.1.symm, this.2.symm⟩
  · have : (8, bg) = (x, y) := by simpa using h
    simp only [Prod.mk.injEq] at this
    exact ⟨this.1.symm, this.2.symm⟩
theorem j_use (hP : gc_Cl P) (hm : gc_Mo P) (hd : 4 ≤ d) (hlt : ∀ j, b j < 256) (hnl : nli W nl) (ho : o < 8) (hsk : sk < ld_N W) (hbs : bs < 8) (hN : N.length + 1 < 64) (hC : C.length + 2 ≤ 64) (hCc : ∀ k, k < C.length → C.getD k 0 < 256) (h : jA b n T L W nl s0 o i N C st dp id s) (hj : jP p sk bs lvl bg s)
    (hbad : ∀ x y, usF b n i W nl o p sk bs C bg = .inl (x, y) → ∀ t, jF s0 x y t → Q (some (.int 0)) t)
    (hgo : ∀ ps C' a, usF b n i W nl o p sk bs C bg = .inr (ps, C', a) → ∀ t, jA b n T L W nl s0 o (i + 1) (pu N ps (lvl + 1)) C' st dp (id + a) t → Q (some (.int 1)) t) : gc_T P d 0 0 83 0 [.ref 28, gc_u] [] s Q := by
  have hCl := h.1.2.2.2.2.1
  have hok := hCl.2.2.2.1
  have hT := h.1.1.2.2.2
  refine b_X6_use_0 hP hm ⟨by omega, j_accept hP hm (by omega) kk_name h.1 (fun t t0 t1 t2 t3 => ⟨fun _ => ?_, fun z => absurd z (by decide)⟩) (fun t x y t0 t1 => ⟨fun z => absurd rfl z, fun _ => hbad x y ?_ t t1⟩)⟩
  · obtain ⟨hk1, hi4⟩ := sT_0 t0
    have hA := jA_3 h t2 t1
    have hjt := jP_3 hj t2
    have hlw : gc_lw t = L := t1.2.2.2.2.1.2.1
    rw [hlw, show gc_ln t = lN (wnum 32 (wdi b n i)) from t3.trans (nmC_at h.1.1 hT (Or.inl hk1))]
    refine ⟨cl_io hCl.1, by omega, sp_roleOf hP hm hCl.1 t1.2.2.2.2.2.1 (wdi_ok hlt (Or.inl hk1)) ?_⟩
    have u0 : usF b n i W nl o p sk bs C bg = (match nl.find? (fun e => e.1 == wdi b n i) with
      | none => .inl (4, tk_st b n i)
      | some e => if e.2.1 = 1 then usO W o p sk bs e.2.2 C bg else if e.2.1 = 2 then usB W p sk bs e.2.2 C bg else .inl (4, tk_st b n i)) := by
      unfold usF
      rw [t0]
    have f77 : usF b n i W nl o p sk bs C bg = .inl (4, tk_st b n i) → ∀ l, gc_T P d 0 0 83 77 [.ref 28, .int l] [] t Q := fun e l => b_X6_use_77 hP hm ⟨by omega, j_object hP hm (x := 4) (by decide) t1 fun u u1 => ⟨Or.inl rfl, hbad _ _ e u u1⟩⟩
    cases hf : nl.find? (fun e => e.1 == wdi b n i) with
    | none =>
      rw [hf] at u0
      exact ⟨fun _ => b_X6_use_52 hP hm ⟨fun _ => f77 u0 _, fun z => absurd (by decide) z⟩, fun z => absurd (by decide) z⟩
    | some e =>
      rw [hf] at u0
      have u1 : usF b n i W nl o p sk bs C bg = (if e.2.1 = 1 then usO W o p sk bs e.2.2 C bg else if e.2.1 = 2 then usB W p sk bs e.2.2 C bg else .inl (4, tk_st b n i)) := u0
      have he := List.mem_of_find?_eq_some hf
      obtain ⟨k0, k1, k2, k3, k4⟩ := hnl e he
      have hnk := (nli_ok hnl hok e he).2.1
      have c1 := hok.1.2.1
      have c2 := hok.1.2.2.1
      rw [show rl_v (some e) = nI (8 * e.2.1 + e.2.2) from rfl]
      by_cases z1 : e.2.1 = 1
      · rw [if_pos z1] at u1
        rw [z1]
        refine ⟨fun y => absurd y (nI_nlt (b := 8) (by omega) (by omega)), fun _ => ⟨fun y => absurd y (nI_gtn (a := 16) (by omega) (by omega)), fun _ => ⟨by omega, ?_⟩⟩⟩
        rw [st_lit 8, pk_sub (by omega), show 8 * 1 + e.2.2 - 8 = e.2.2 by omega]
        refine j_useOath hP hm (by omega) ho (k2 z1) hsk hN hC hA hjt (fun y u u1' => ⟨Or.inl rfl, hbad 8 bg (u1.trans y) u u1'⟩) (fun ps C' a y u u1' => ⟨Or.inr rfl, hgo ps C' a (u1.trans y) u u1'⟩)
      · rw [if_neg z1] at u1
        have go52 : gc_T P d 0 0 83 52 [.ref 28, .int (nI (8 * e.2.1 + e.2.2))] [] t Q := by
          refine b_X6_use_52 hP hm ?_
          by_cases z2 : e.2.1 = 2
          · rw [if_pos z2] at u1
            rw [z2]
            refine ⟨fun y => absurd y (nI_nlt (b := 16) (by omega) (by omega)), fun _ => ⟨fun y => absurd y (nI_gtn (a := 24) (by omega) (by omega)), fun _ => ⟨by omega, j_row0 hP hm hA hjt (by omega) hCc fun u u1' u2 => ⟨by omega, ?_⟩⟩⟩⟩
            rw [st_lit 16, pk_sub (by omega), show 8 * 2 + e.2.2 - 16 = e.2.2 by omega]
            exact j_useBargain hP hm (by omega) hbs (k3 z2) hsk hN u1' u2 (fun y w w1 => ⟨Or.inl rfl, hbad 8 bg (u1.trans y) w w1⟩) (fun ps C' a y w w1 => ⟨Or.inr rfl, hgo ps C' a (u1.trans y) w w1⟩)
          · rw [if_neg z2] at u1
            rcases (by omega : e.2.1 = 0 ∨ e.2.1 = 3) with z | z
            · rw [z]
              exact ⟨fun _ => f77 u1 _, fun y => absurd (nI_lt (b := 16) (by omega) (by decide)) y⟩
            · rw [z]
              exact ⟨fun y => absurd y (nI_nlt (b := 16) (by omega) (by omega)), fun _ => ⟨fun _ => f77 u1 _, fun y => absurd (nI_le (a := 24) (by omega) (by omega)) y⟩⟩
        refine ⟨fun _ => go52, fun y => ⟨fun _ => go52, fun y' => ?_⟩⟩
        rcases (by omega : e.2.1 = 0 ∨ e.2.1 = 2 ∨ e.2.1 = 3) with z | z | z
        · exact absurd (nI_lt (b := 8) (by omega) (by decide)) y
        · exact absurd (nI_le (a := 16) (by omega) (by omega)) y'
        · exact absurd (nI_le (a := 16) (by omega) (by omega)) y'
  · unfold usF
    rw [t0]
end Us
