/-! A SIDE, on both sides. -/
theorem sd_add0 : ∀ v, v < 256 → ∀ g, g < 4 → ∀ G, G < 5 → (Nat.ble G g || (Nat.ble (4 ^ G) v || (Nat.beq (v / 4 ^ g % 4) 3 || Nat.blt (v + 4 ^ g) (4 ^ G)))) = true := by decide +kernel
theorem sd_add (v : Nat) (hv : v < 256) (g : Nat) (hg : g < 4) (G : Nat) (hG : G < 5) (h1 : g < G) (h2 : v < 4 ^ G) (h3 : v / 4 ^ g % 4 ≠ 3) : v + 4 ^ g < 4 ^ G := by
  have := sd_add0 v hv g hg G hG
  rw [Bool.or_eq_true, Bool.or_eq_true, Bool.or_eq_true, Nat.ble_eq, Nat.ble_eq, Nat.beq_eq] at this
  rcases this with e | e | e | e
  · omega
  · omega
  · exact absurd e h3
  · exact Nat.le_of_ble_eq_true e
def gd (nl : List (List Nat × Nat × Nat)) (w : List Nat) : Option Nat := (nl.find? (fun e => e.1 == w && Nat.beq e.2.1 0)).map (fun e => e.2.2)
def gdC (nl : List (List Nat × Nat × Nat)) (w : List Nat) : Option Nat := match nl.find? (fun e => e.1 == w) with
  | none => none
  | some e => if e.2.1 = 0 then some e.2.2 else none
theorem rl_cases {nx : List (List Nat × Nat × Nat)} (h : nok nx) (w : List Nat) : (gdC nx w = none ∧ (rl_v (nx.find? (fun e => e.1 == w)) = -1 ∨ ∃ q, 8 ≤ q ∧ q < 32 ∧ rl_v (nx.find? (fun e => e.1 == w)) = nI q)) ∨ ∃ g, g < 4 ∧ gdC nx w = some g ∧ rl_v (nx.find? (fun e => e.1 == w)) = nI g := by
  unfold gdC
  cases hf : nx.find? (fun e => e.1 == w) with
  | none => exact Or.inl ⟨rfl, Or.inl rfl⟩
  | some e =>
    obtain ⟨h1, h2, h3⟩ := h e (List.mem_of_find?_eq_some hf)
    show ((if e.2.1 = 0 then some e.2.2 else none) = none ∧ (nI (8 * e.2.1 + e.2.2) = -1 ∨ ∃ q, 8 ≤ q ∧ q < 32 ∧ nI (8 * e.2.1 + e.2.2) = nI q)) ∨ ∃ g, g < 4 ∧ (if e.2.1 = 0 then some e.2.2 else none) = some g ∧ nI (8 * e.2.1 + e.2.2) = nI g
    by_cases z : e.2.1 = 0
    · rw [if_pos z, z]
      exact Or.inr ⟨e.2.2, h3 z, rfl, by rw [Nat.mul_zero, Nat.zero_add]⟩
    · rw [if_neg z]
      exact Or.inl ⟨rfl, Or.inr ⟨_, by omega, by omega, rfl⟩⟩
theorem fd_cases {nx : List (List Nat × Nat × Nat)} (h : nok nx) (w : List Nat) : (gd nx w = none ∧ fd_v (nx.find? (fun e => e.1 == w && Nat.beq e.2.1 0)) = -1) ∨ ∃ g, g < 4 ∧ gd nx w = some g ∧ fd_v (nx.find? (fun e => e.1 == w && Nat.beq e.2.1 0)) = nI g := by
  unfold gd
  cases hf : nx.find? (fun e => e.1 == w && Nat.beq e.2.1 0) with
  | none => exact Or.inl ⟨rfl, rfl⟩
  | some e =>
    obtain ⟨h1, h2, h3⟩ := h e (List.mem_of_find?_eq_some hf)
    have hp := List.find?_some hf
    have z : e.2.1 = 0 := by
      have : (e.1 == w && Nat.beq e.2.1 0) = true := hp
      rw [Bool.and_eq_true, Nat.beq_eq] at this
      exact this.2
    exact Or.inr ⟨e.2.2, h3 z, rfl, rfl⟩
/-- what a NAME makes of a SIDE -/
def sdN (nr : List (List Nat × Nat × Nat)) (b : Nat → Nat) (n i : Nat) (r : Option (Nat × Nat)) (v : Nat) : Option (Nat × Nat) × Nat := match r with
  | some x => (some x, v)
  | none => match gd nr (wdi b n i) with
    | none => (some (4, tk_st b n i), v)
    | some g => if v / 4 ^ g % 4 = 3 then (some (5, tk_st b n i), v) else (none, v + 4 ^ g)
section Sn
variable {nr : List (List Nat × Nat × Nat)} {b : Nat → Nat} {n i : Nat} {r : Option (Nat × Nat)} {v : Nat}
theorem sdN_4 (h : r = none → gd nr (wdi b n i) = none) : (sdN nr b n i r v).1 = sf r 4 (tk_st b n i) := by
  cases r with
  | some x => rfl
  | none =>
    unfold sdN
    rw [h rfl]
    rfl
theorem sdN_5 {g : Nat} (h : r = none → gd nr (wdi b n i) = some g ∧ v / 4 ^ g % 4 = 3) : (sdN nr b n i r v).1 = sf r 5 (tk_st b n i) := by
  cases r with
  | some x => rfl
  | none =>
    unfold sdN
    rw [(h rfl).1]
    show (if v / 4 ^ g % 4 = 3 then (some (5, tk_st b n i), v) else (none, v + 4 ^ g)).1 = _
    rw [if_pos (h rfl).2]
    rfl
theorem sdN_0 {g : Nat} (h : r = none → gd nr (wdi b n i) = some g ∧ v / 4 ^ g % 4 ≠ 3) : (sdN nr b n i r v).1 = r ∧ (r = none → (sdN nr b n i r v).2 = v + 4 ^ g) := by
  cases r with
  | some x => exact ⟨rfl, fun z => absurd z (by simp)⟩
  | none =>
    unfold sdN
    rw [(h rfl).1]
    show (if v / 4 ^ g % 4 = 3 then (some (5, tk_st b n i), v) else (none, v + 4 ^ g)).1 = none ∧ (_ → (if v / 4 ^ g % 4 = 3 then (some (5, tk_st b n i), v) else (none, v + 4 ^ g)).2 = v + 4 ^ g)
    rw [if_neg (h rfl).2]
    exact ⟨rfl, fun _ => rfl⟩
theorem sdN_in {G : Nat} (hG : G ≤ 4) (hg : ∀ w g, gd nr w = some g → g < G) (hv : r = none → v < 4 ^ G) (hs : tk_st b n i < tk_st b n (i + 1)) (hr : ∀ w, r = some w → w.2 < tk_st b n i) : ((sdN nr b n i r v).1 = none → (sdN nr b n i r v).2 < 4 ^ G) ∧ ∀ w, (sdN nr b n i r v).1 = some w → w.2 < tk_st b n (i + 1) := by
  cases r with
  | some x =>
    refine ⟨fun z => absurd z (by unfold sdN; simp), fun w e => ?_⟩
    have := hr x rfl
    have e2 : some x = some w := e
    rw [Option.some.injEq] at e2
    rw [← e2]
    omega
  | none =>
    unfold sdN
    cases hd : gd nr (wdi b n i) with
    | none =>
      refine ⟨fun z => absurd z (by simp), fun w e => ?_⟩
      have e2 : some (4, tk_st b n i) = some w := e
      rw [Option.some.injEq] at e2
      rw [← e2]
      exact hs
    | some g =>
      show ((if v / 4 ^ g % 4 = 3 then (some (5, tk_st b n i), v) else (none, v + 4 ^ g)).1 = none → (if v / 4 ^ g % 4 = 3 then (some (5, tk_st b n i), v) else (none, v + 4 ^ g)).2 < 4 ^ G) ∧ ∀ w, (if v / 4 ^ g % 4 = 3 then (some (5, tk_st b n i), v) else (none, v + 4 ^ g)).1 = some w → _
      have h256 : (4 : Nat) ^ G ≤ 256 := Nat.le_trans (Nat.pow_le_pow_right (by decide) hG) (by decide)
      have hv' := hv rfl
      have hgG := hg _ _ hd
      by_cases z : v / 4 ^ g % 4 = 3
      · rw [if_pos z]
        refine ⟨fun z => absurd z (by simp), fun w e => ?_⟩
        have e2 : some (5, tk_st b n i) = some w := e
        rw [Option.some.injEq] at e2
        rw [← e2]
        exact hs
      · rw [if_neg z]
        exact ⟨fun _ => sd_add v (by omega) g (by omega) G (by omega) hgG hv' z, fun w e => absurd e (by simp)⟩
theorem sdN_r (h : r ≠ none) : (sdN nr b n i r v).1 = r := by
  cases r with
  | some x => rfl
  | none => exact absurd rfl h
end Sn
theorem kk_name : kk 2 1 := ⟨kc_1, by decide, by decide⟩
theorem kk_plus : kk 43 8 := ⟨kc_8, by decide, by decide⟩
theorem kk_nothing : kk 307 26 := ⟨kc_26, by decide, by decide⟩
theorem nI_nm1 {y : Nat} (h : y < 2 ^ 31) : ¬ nI y = -1 := by
  intro e
  have := nI_pos h
  rw [e] at this
  exact this (by decide)
section Sc2
variable {P : gc_Pr} {d : Nat} {s s0 : gc_St} {Q : gc_TQ} {b : Nat → Nat} {n T L sd m i o : Nat} {nc nr : List (List Nat × Nat × Nat)} {W : ld_W} {r : Option (Nat × Nat)} {v : Nat}
theorem z_withName (hP : gc_Cl P) (hm : gc_Mo P) (hd : 1 ≤ d) (hG : ∀ w, gdC nc w = gd nr w) {x : Nat} (h : zC b n T L m nc s0 (i + 1) W r o s) (hln : gc_ln s = lN (wnum 32 (wdi b n i))) (hw : wok (wdi b n i)) (hx : x < 256) (hxv : r = none → x = v) (hQ : ∀ t y, zC b n T L m nc s0 (i + 1) W (sdN nr b n i r v).1 o t → y < 256 → ((sdN nr b n i r v).1 = none → y = (sdN nr b n i r v).2) → Q (some (.int (nI y))) t) : gc_T P d 0 0 113 0 [.ref 3, .int (nI x), .ref L, gc_u] [] s Q := by
  have h' := h
  obtain ⟨c1, c2, h1, ⟨h2, h3⟩, h4, ⟨h5, h6, h7⟩, h8, ⟨nx, h9, h10, h11, h12⟩, h13⟩ := h'
  have io := cl_io h5
  refine b_X8_withLastName_0 hP hm io ⟨hd, ?_⟩
  rw [hln]
  refine sp_roleOf hP hm h5 h9 hw ?_
  have hpl : tk_st b n (i + 1 - 1) = tk_st b n i := by rw [Nat.add_sub_cancel]
  have soft4 : (r = none → gd nr (wdi b n i) = none) → ∀ z, gc_T P d 0 0 113 20 [.ref 3, .int (nI x), .ref L, .int z] [] s Q := by
    intro hnone z
    refine b_X8_withLastName_20 hP hm io ⟨hd, z_object hP hm (x := 4) (by decide) (by decide) h (by omega) hpl fun t t1 => ⟨fun y => absurd y (by decide), fun _ => ?_⟩⟩
    rw [← sdN_4 (v := v) hnone] at t1
    refine hQ t x t1 hx fun z => ?_
    rw [sdN_4 hnone] at z
    exact absurd z (sf_ne _ _ _)
  have eq : r = none → gdC nx (wdi b n i) = gd nr (wdi b n i) := fun z => by rw [h12 z]; exact hG _
  rcases rl_cases h10 (wdi b n i) with ⟨e1, e2⟩ | ⟨g, e0, e1, e2⟩
  · have hnone : r = none → gd nr (wdi b n i) = none := fun z => by rw [← eq z]; exact e1
    rcases e2 with e2 | ⟨q, q1, q2, e2⟩
    · rw [e2]
      exact ⟨fun _ => soft4 hnone _, fun y => absurd rfl y⟩
    · rw [e2]
      refine ⟨fun y => absurd y (nI_nm1 (by omega)), fun _ => ⟨fun y => absurd y (nI_nlt (b := 8) q1 (by omega)), fun _ => soft4 hnone _⟩⟩
  · rw [e2]
    refine ⟨fun y => absurd y (nI_nm1 (by omega)), fun _ => ⟨fun _ => ⟨hd, ?_⟩, fun y => absurd (nI_lt (b := 8) (by omega) (by decide)) y⟩⟩
    refine sp_countOf hP hm hx e0 ?_
    by_cases z : x / 4 ^ g % 4 = 3
    · rw [z]
      refine ⟨fun y => absurd rfl y, fun _ => ⟨hd, z_object hP hm (x := 5) (by decide) (by decide) h (by omega) hpl fun t t1 => ⟨fun y => absurd y (by decide), fun _ => ?_⟩⟩⟩
      have h5' : r = none → gd nr (wdi b n i) = some g ∧ v / 4 ^ g % 4 = 3 := fun y => ⟨by rw [← eq y]; exact e1, by rw [← hxv y]; exact z⟩
      rw [← sdN_5 (v := v) h5'] at t1
      refine hQ t x t1 hx fun y => ?_
      rw [sdN_5 h5'] at y
      exact absurd y (sf_ne _ _ _)
    · have h0' : r = none → gd nr (wdi b n i) = some g ∧ v / 4 ^ g % 4 ≠ 3 := fun y => ⟨by rw [← eq y]; exact e1, by rw [← hxv y]; exact z⟩
      have hm4 : x / 4 ^ g % 4 < 4 := Nat.mod_lt _ (by decide)
      refine ⟨fun _ => ?_, fun y => absurd y (fun y => z ((nI_eq (by omega) (by decide)).mp y))⟩
      have hadd := sd_add x hx g e0 4 (by decide) e0 hx z
      rw [st_lit 2, pk_mul, st_lit 1, st_shl (by omega) (by rw [Nat.one_mul, Nat.pow_mul]; exact Nat.lt_of_le_of_lt (Nat.pow_le_pow_right (by decide) (by omega : g ≤ 3)) (by decide)), Nat.one_mul, Nat.pow_mul, nI_add]
      refine hQ s (x + 4 ^ g) ?_ hadd fun y => ?_
      · rw [(sdN_0 h0').1]
        exact h
      · rw [(sdN_0 h0').1] at y
        rw [(sdN_0 h0').2 y, hxv y]
end Sc2
def AsR (q k : Nat) : Bool := Nat.beq q 67 && (Nat.ble 12 k && Nat.ble k 17)
theorem AsR_i {q k : Nat} : AsR q k = true ↔ q = 67 ∧ 12 ≤ k ∧ k ≤ 17 := by
  unfold AsR
  rw [Bool.and_eq_true, Bool.and_eq_true, Nat.beq_eq, Nat.ble_eq, Nat.ble_eq]
theorem sR_12 {s t : gc_St} (g : fr Am12 B0 s t) : fr AsR B0 s t := fr_up g (fun q k z => AsR_i.mpr ⟨(Am12_i z).1, by have := (Am12_i z).2; omega⟩) (fun _ z => z)
theorem sR_f {s t : gc_St} (g : fr Amf B0 s t) : fr AsR B0 s t := fr_up g (fun q k z => AsR_i.mpr ⟨(Amf_i z).1, by have := (Amf_i z).2; omega⟩) (fun _ z => z)
theorem sR_w {s t : gc_St} (g : fr Amw B0 s t) : fr AsR B0 s t := fr_up g (fun q k z => AsR_i.mpr ⟨(Amw_i z).1, by have := (Amw_i z).2; omega⟩) (fun _ z => z)
section Sr2
variable {P : gc_Pr} {d : Nat} {s s0 : gc_St} {Q : gc_TQ} {b : Nat → Nat} {n T L sd m i o : Nat} {nc nr : List (List Nat × Nat × Nat)} {W : ld_W} {r : Option (Nat × Nat)} {v : Nat}
/-- a NAME of a SIDE, by the reference -/
theorem y_withName (hP : gc_Cl P) (hm : gc_Mo P) (hd : 3 ≤ d) (hn : n ≤ 2000) (hlt : ∀ j, b j < 256) {y l2 : Int32} {l3 : Value} (h : zR b n T sd m nr s0 i W r o s) (hk : rk b n i = 1) (hr : ∀ w, r = some w → w.2 < tk_st b n i) (hy : r = none → y = nI v ∧ v < 256)
    (hQ : ∀ t y' l3', zR b n T sd m nr s0 i W (sdN nr b n i r v).1 o t → fr AsR B0 s t → ((sdN nr b n i r v).1 = none → y' = nI (sdN nr b n i r v).2) → gc_T P d 0 0 199 164 [.ref 67, .int y', .int l2, .int l3'] [] t Q) : gc_T P d 0 0 199 65 [.ref 67, .int y, .int l2, l3] [] s Q := by
  have h' := h
  obtain ⟨c1, ⟨h1, h0⟩, ⟨h2, h3⟩, ⟨h4, h5, h6⟩, h7, h8, ⟨nx, h9, h10, h11, h12, h14⟩, h13⟩ := h'
  have hst := rk_n (i := i) (b := b) (n := n) (by rw [hk]; decide)
  have hi := c1.2.2.2
  have h400 := rpw_i c1
  have hv : ∀ x w, r = some w → ¬ (tk_st b n i < w.2 ∨ (tk_st b n i = w.2 ∧ x < w.1)) := fun x w e => by
    have := hr w e
    omega
  refine b_X11_tellSide_65 hP hm ?_
  rw [h2, h3, c1.2.2.1, h5, h10]
  refine ⟨fun _ => ⟨fun _ => ⟨by omega, ?_⟩, fun y => absurd rfl y⟩, fun y => absurd (by decide) y⟩
  refine sp_mfind hP hm h9 (fun e he => by have := (h11 e he).1; omega) (wdi_ok hlt (Or.inl hk)) (kd := 0) (by omega) (by decide) (nmR_at c1 hi (Or.inl hk)) ?_
  have eq : r = none → gd nx (wdi b n i) = gd nr (wdi b n i) := fun z => by rw [h14 z]
  show gc_T P d 0 0 199 123 _ _ _ Q
  refine b_X11_tellSide_123 hP hm ?_
  rcases fd_cases h11 (wdi b n i) with ⟨e1, e2⟩ | ⟨g, e0, e1, e2⟩
  · rw [e2]
    refine ⟨fun y => absurd rfl y, fun _ => ⟨by omega, b_X11_amiss_0 hP hm ?_⟩⟩
    rw [h3, c1.2.2.1]
    refine ⟨fun _ => ⟨by omega, y_wrong hP hm (x := 4) (by decide) (by decide) h hi (by omega) (hv 4) fun t t1 t2 => ?_⟩, fun y => absurd rfl y⟩
    have hnone : r = none → gd nr (wdi b n i) = none := fun z => by rw [← eq z]; exact e1
    rw [← sdN_4 (v := v) hnone] at t1
    refine hQ t y _ t1 (sR_w t2) fun z => ?_
    rw [sdN_4 hnone] at z
    exact absurd z (sf_ne _ _ _)
  · rw [e2]
    refine ⟨fun _ => ⟨fun z => ?_, fun z => ⟨by omega, b_X11_amiss_0 hP hm ?_⟩⟩, fun y => absurd y (nI_nm1 (by omega))⟩
    · have h0' : r = none → gd nr (wdi b n i) = some g ∧ v / 4 ^ g % 4 ≠ 3 := fun q => ⟨by rw [← eq q]; exact e1, fun q2 => z (by
        obtain ⟨q3, q4⟩ := hy q
        rw [q3, st_lit 2, pk_mul, st_dig q4 e0, q2]
        rfl)⟩
      refine hQ s _ _ ?_ (fr_refl s) fun q => ?_
      · rw [(sdN_0 h0').1]
        exact h
      · rw [(sdN_0 h0').1] at q
        rw [(sdN_0 h0').2 q, (hy q).1, st_lit 2, pk_mul, st_lit 1, st_shl (by omega) (by rw [Nat.one_mul, Nat.pow_mul]; exact Nat.lt_of_le_of_lt (Nat.pow_le_pow_right (by decide) (by omega : g ≤ 3)) (by decide)), Nat.one_mul, Nat.pow_mul, nI_add]
    · rw [h3, c1.2.2.1]
      refine ⟨fun _ => ⟨by omega, y_wrong hP hm (x := 5) (by decide) (by decide) h hi (by omega) (hv 5) fun t t1 t2 => ?_⟩, fun y => absurd rfl y⟩
      have h5' : r = none → gd nr (wdi b n i) = some g ∧ v / 4 ^ g % 4 = 3 := fun q => ⟨by rw [← eq q]; exact e1, by
        obtain ⟨q3, q4⟩ := hy q
        have hm4 : v / 4 ^ g % 4 < 4 := Nat.mod_lt _ (by decide)
        rw [q3, st_lit 2, pk_mul, st_dig q4 e0] at z
        exact (nI_eq (by omega) (by decide)).mp z⟩
      rw [← sdN_5 (v := v) h5'] at t1
      refine hQ t y _ t1 (sR_w t2) fun q => ?_
      rw [sdN_5 h5'] at q
      exact absurd q (sf_ne _ _ _)
end Sr2
