/-! SIDES of an OATH, of a BARGAIN: by both. -/
section Sw
variable {s s0 S0 : gc_St} {b : Nat → Nat} {n T L sd m i o : Nat} {nl nl' : List (List Nat × Nat × Nat)} {W : ld_W} {r : Option (Nat × Nat)}
theorem zC_sw (hr : r = none → nl = nl') (h : zC b n T L m nl s0 i W r o s) : zC b n T L m nl' s0 i W r o s := by
  obtain ⟨c1, c2, h1, h2, h4, h5, h8, ⟨nx, h9, h10, h11, h12⟩, h13⟩ := h
  exact ⟨c1, c2, h1, h2, h4, h5, h8, ⟨nx, h9, h10, h11, fun z => (h12 z).trans (hr z)⟩, h13⟩
theorem zR_sw (hr : r = none → nl = nl') (h : zR b n T sd m nl s0 i W r o s) : zR b n T sd m nl' s0 i W r o s := by
  obtain ⟨c1, h1, h2, h4, h5, h8, ⟨nx, h9, h10, h11, h12, h14⟩, h13⟩ := h
  exact ⟨c1, h1, h2, h4, h5, h8, ⟨nx, h9, h10, h11, h12, fun z => (h14 z).trans (hr z)⟩, h13⟩
theorem zT_sw (hr : r = none → nl = nl') (h : zT b n T L m nl S0 i W r s) : zT b n T L m nl' S0 i W r s := ⟨h.1, zC_sw hr h.2⟩
theorem zU_sw (hr : r = none → nl = nl') (h : zU b n T sd m nl S0 i W r s) : zU b n T sd m nl' S0 i W r s := ⟨h.1, zR_sw hr h.2⟩
end Sw
/-- no NAME twice -/
def ndN (nl : List (List Nat × Nat × Nat)) : Prop := ∀ e e', e ∈ nl → e' ∈ nl → e.1 = e'.1 → e = e'
theorem gd_app {nl : List (List Nat × Nat × Nat)} (hd : ndN nl) {w0 : List Nat} {kd ix : Nat} (hkd : kd ≠ 0) : ∀ w, gdC (nl ++ [(w0, kd, ix)]) w = gd nl w := by
  intro w
  unfold gdC gd
  rw [List.find?_append]
  cases hf : nl.find? (fun e => e.1 == w) with
  | some e =>
    have he := List.mem_of_find?_eq_some hf
    have hp : (e.1 == w) = true := by
      have := List.find?_some hf
      exact this
    have hw : e.1 = w := by simpa using hp
    show (if e.2.1 = 0 then some e.2.2 else none) = _
    by_cases z : e.2.1 = 0
    · rw [if_pos z]
      cases hg : nl.find? (fun e => e.1 == w && Nat.beq e.2.1 0) with
      | none =>
        have := List.find?_eq_none.mp hg e he
        rw [hp, z] at this
        exact absurd rfl this
      | some e' =>
        have hp' : (e'.1 == w && Nat.beq e'.2.1 0) = true := by
          have := List.find?_some hg
          exact this
        rw [Bool.and_eq_true] at hp'
        have hw' : e'.1 = w := by simpa using hp'.1
        have : e = e' := hd e e' he (List.mem_of_find?_eq_some hg) (hw.trans hw'.symm)
        rw [this]
        rfl
    · rw [if_neg z]
      cases hg : nl.find? (fun e => e.1 == w && Nat.beq e.2.1 0) with
      | none => rfl
      | some e' =>
        have hp' : (e'.1 == w && Nat.beq e'.2.1 0) = true := by
          have := List.find?_some hg
          exact this
        rw [Bool.and_eq_true, Nat.beq_eq] at hp'
        have hw' : e'.1 = w := by simpa using hp'.1
        have : e = e' := hd e e' he (List.mem_of_find?_eq_some hg) (hw.trans hw'.symm)
        rw [this] at z
        exact absurd hp'.2 z
  | none =>
    have hg : nl.find? (fun e => e.1 == w && Nat.beq e.2.1 0) = none := List.find?_eq_none.mpr fun e he hp => by
      rw [Bool.and_eq_true] at hp
      exact List.find?_eq_none.mp hf e he hp.1
    rw [hg]
    show (match ([(w0, kd, ix)].find? (fun e => e.1 == w)) with
      | none => none
      | some e => if e.2.1 = 0 then some e.2.2 else none) = none
    by_cases z : (w0 == w) = true
    · rw [List.find?_cons_of_pos (by simpa using z)]
      show (if kd = 0 then some ix else none) = none
      rw [if_neg hkd]
    · rw [List.find?_cons_of_neg (by simpa using z)]
      rfl
abbrev dRes : Type := (Nat × Nat) ⊕ (Nat × Option (Nat × Nat) × Nat × Nat)
def dP (b : Nat → Nat) (n G i : Nat) (r : Option (Nat × Nat)) (res : dRes) : Prop := match res with
  | .inl _ => True
  | .inr e => i < e.1 ∧ (∀ w, e.2.1 = some w → w.2 < tk_st b n e.1) ∧ (e.2.1 = none → r = none ∧ e.2.2.1 < 4 ^ G ∧ e.2.2.2 < 4 ^ G)
def dqC (b : Nat → Nat) (n T L m : Nat) (nc : List (List Nat × Nat × Nat)) (S0 : gc_St) (W : ld_W) (k : Nat) (res : dRes) (Q : gc_TQ) : Prop := match res with
  | .inl e => ∀ t, zG L S0 e.1 e.2 t → Q (some (.int 0)) t
  | .inr e => ∀ t, zT b n T L m nc S0 e.1 W e.2.1 t → (e.2.1 = none → gc_I t (gc_rS L 8) k = nI e.2.2.1 ∧ gc_I t (gc_rS L 9) k = nI e.2.2.2 ∧ gc_I t (gc_rS L 10) k = -1) → Q (some (.int 1)) t
def dqR (b : Nat → Nat) (n T sd m : Nat) (nr : List (List Nat × Nat × Nat)) (S0 : gc_St) (W : ld_W) (a1 k : Nat) (res : dRes) (K : Int32 → gc_St → Prop) : Prop := match res with
  | .inl e => ∀ t y, zH sd S0 e.1 e.2 t → K y t
  | .inr e => ∀ t y, zU b n T sd m nr S0 e.1 W e.2.1 t → (e.2.1 = none → gc_I t a1 (3 * sd + k) = nI e.2.2.1 ∧ y = nI e.2.2.2) → K y t
def dC (b : Nat → Nat) (n T L m : Nat) (nc : List (List Nat × Nat × Nat)) (i : Nat) (W : ld_W) (r : Option (Nat × Nat)) (res : dRes) : Prop := ∀ (P : gc_Pr) (d : Nat) (s S0 : gc_St) (Q : gc_TQ) (k : Nat), gc_Cl P → gc_Mo P → 4 ≤ d → k < 6 → ¬ ld_dl W k → zT b n T L m nc S0 i W r s → dqC b n T L m nc S0 W k res Q → gc_T P d 0 0 37 0 [.ref 9, .int (nI k)] [] s Q
def dR (b : Nat → Nat) (n T sd m : Nat) (nr : List (List Nat × Nat × Nat)) (i : Nat) (W : ld_W) (r : Option (Nat × Nat)) (res : dRes) : Prop := ∀ (P : gc_Pr) (d : Nat) (s S0 : gc_St) (K : Int32 → gc_St → Prop) (a1 k : Nat), gc_Cl P → gc_Mo P → 6 ≤ d → (a1 = 84 ∨ a1 = 87) → k < 3 → ¬ livR W sd a1 (3 * sd + k) → zU b n T sd m nr S0 i W r s → dqR b n T sd m nr S0 W a1 k res K → gc_T P (d - 1) 0 0 199 0 [.ref 67, gc_u, gc_u, gc_u] [] s (fun r6 s7 => gc_ri r6 fun x8 => vp_in (nI (3 * sd + k)) 6 ∧ (1 ≤ d ∧ gc_T P (d - 1) 0 0 188 0 [.ref 67, .int 22] [] (gc_wI s7 a1 (3 * sd + k) x8) (fun r9 s10 => gc_rv r9 (1 ≤ d ∧ gc_T P (d - 1) 0 0 199 0 [.ref 67, gc_u, gc_u, gc_u] [] s10 (fun r11 s12 => gc_ri r11 fun x13 => K x13 s12)))))
section Wr
variable {b : Nat → Nat} {n T L sd m i : Nat} {nl : List (List Nat × Nat × Nat)} {S0 s s0 : gc_St} {W : ld_W} {r : Option (Nat × Nat)}
/-- a cell of the class's law that does not count yet -/
theorem zT_wI {j k : Nat} {x : Int32} (hS : frC L S0 s) (h : zC b n T L m nl s0 i W r 0 s) (hj : 7 ≤ j ∧ j ≤ 16) (hl : ¬ livC W j k) : zT b n T L m nl S0 i W r (gc_wI s (gc_rS L j) k x) := by
  have hL := zC_L h
  have rS := rS_eq hL
  refine zT_up hS h (fr_wI (BcC_iff.mpr (by rw [rS j hj.1 (by omega)]; omega)) (fr_refl s)) (fun _ => rfl) rfl rfl ?_ h.2.2.2.2.2.2.1 (fun z => lwC_of (h.2.2.2.2.2.2.2.2 z) (fun _ _ => rfl) (fun j' k' hl' => ?_))
  · obtain ⟨nx, g9, g10, g11, g12⟩ := h.2.2.2.2.2.2.2.1
    exact ⟨nx, nmC_of g9 rfl rfl (I_na _ _ (by rw [rS 18 (by decide) (by decide), rS j hj.1 (by omega)]; omega)), g10, g11, g12⟩
  · refine I_ne _ _ ?_
    by_cases e : j' = j
    · refine Or.inr fun e2 => hl ?_
      rw [← e, ← e2]
      exact hl'
    · refine Or.inl ?_
      have hj' : 7 ≤ j' ∧ j' ≤ 16 := by
        rcases hl' with ⟨z, _⟩ | ⟨z, _⟩ | ⟨z, _⟩ | ⟨z, z2, _⟩ <;> omega
      rw [rS j' hj'.1 (by omega), rS j hj.1 (by omega)]
      omega
end Wr
section De
variable {b : Nat → Nat} {n Tc Tr L sd mc mr G : Nat} {nc nr : List (List Nat × Nat × Nat)} {i : Nat} {W : ld_W} {r : Option (Nat × Nat)}
theorem z_deal (hn : n ≤ 2000) (hlt : ∀ j, b j < 256) (hG : ∀ w, gdC nc w = gd nr w) (hG4 : G ≤ 4) (hg : ∀ w g, gd nr w = some g → g < G) (hr : ∀ w, r = some w → w.2 < tk_st b n i) : ∃ res, dP b n G i r res ∧ dC b n Tc L mc nc i W r res ∧ dR b n Tr sd mr nr i W r res := by
  have hlive : ∀ {k : Nat}, ¬ ld_dl W k → ∀ j, j = 8 ∨ j = 9 ∨ j = 10 → ¬ livC W j k := by
    intro k hk j hj hl
    rcases hl with ⟨z, _⟩ | ⟨_, z⟩ | ⟨z, _⟩ | ⟨z, _⟩
    · omega
    · exact hk z
    · omega
    · omega
  obtain ⟨r1, s1, s2, s3⟩ := z_side (Tc := Tc) (Tr := Tr) (L := L) (sd := sd) (mc := mc) (mr := mr) (W := W) hn hlt hG hG4 hg hr
  -- the class up to the first SIDE
  have goC : ∀ res, (∀ (P : gc_Pr) (d : Nat) (t S0 : gc_St) (Q : gc_TQ) (k : Nat), gc_Cl P → gc_Mo P → 4 ≤ d → k < 6 → ¬ ld_dl W k → zT b n Tc L mc nc S0 i W r t → gc_I t (gc_rS L 10) k = -1 → dqC b n Tc L mc nc S0 W k res Q → qC b n Tc L mc nc t W 0 r1 (fun r6 s7 => gc_ri r6 fun x8 => vp_in (nI k) 6 ∧ (∃ a9, gc_rl s7 = some a9 ∧ (gc_io 2 a9 ∧ (vp_in (nI k) 6 ∧ (((gc_I (gc_wI s7 (gc_rS L 8) k x8) (gc_rS a9 8) k) = (-1) → (Q (some (.int 0)) (gc_wI s7 (gc_rS L 8) k x8))) ∧ (¬ (gc_I (gc_wI s7 (gc_rS L 8) k x8) (gc_rS a9 8) k) = (-1) → (1 ≤ d ∧ gc_T P (d - 1) 0 0 107 0 [.ref 3, .int 304] [] (gc_wI s7 (gc_rS L 8) k x8) (fun r11 s12 => gc_ri r11 fun x13 => (¬ x13 = 0 → (∃ a14, gc_rl s12 = some a14 ∧ (gc_io 2 a14 ∧ (∃ a16, gc_rl s12 = some a16 ∧ (1 ≤ d ∧ gc_T P (d - 1) 0 0 112 0 [.ref 3, .ref a16, gc_u, gc_u] [] s12 (fun r17 s18 => gc_ri r17 fun x19 => vp_in (nI k) 6 ∧ (∃ a20, gc_rl s18 = some a20 ∧ (gc_io 2 a20 ∧ (vp_in (nI k) 6 ∧ (((gc_I (gc_wI s18 (gc_rS a14 9) k x19) (gc_rS a20 9) k) = (-1) → (Q (some (.int 0)) (gc_wI s18 (gc_rS a14 9) k x19))) ∧ (¬ (gc_I (gc_wI s18 (gc_rS a14 9) k x19) (gc_rS a20 9) k) = (-1) → (Q (some (.int 1)) (gc_wI s18 (gc_rS a14 9) k x19))))))))))))) ∧ (x13 = 0 → (Q (some (.int 0)) s12))))))))))) → dC b n Tc L mc nc i W r res := by
    intro res hres P d s S0 Q k hP hm hd hk6 hdl h hQ
    obtain ⟨hL, hrl, _⟩ := zT_L h
    refine b_X3_dealSides_0 hP hm ⟨L, hrl, cl_io hL, vp_in_nI hk6 (by decide), L, hrl, cl_io hL, L, hrl, by omega, ?_⟩
    rw [nI_clamp (by omega)]
    have ht := zT_wI (j := 10) (k := k) (x := -1) h.1 h.2 (by decide) (hlive hdl 10 (by omega))
    have h10 : gc_I (gc_wI s (gc_rS L 10) k (-1)) (gc_rS L 10) k = -1 := I_eq _ _ _ _
    revert ht h10
    generalize gc_wI s (gc_rS L 10) k (-1) = t
    intro ht h10
    exact s2 P _ t t _ 0 hP hm (by omega) ht.2 (hres P d t S0 Q k hP hm hd hk6 hdl ht h10 hQ)
  cases r1 with
  | inl e =>
    refine ⟨.inl e, trivial, goC _ (fun P d t S0 Q k hP hm hd hk6 hdl ht h10 hQ u u1 => ?_), fun P d s S0 K a1 k hP hm hd ha hk3 hl h hQ => ?_⟩
    · obtain ⟨hL, hrl, _⟩ := zT_L ht
      have hrlu : gc_rl u = some L := (fr_rl u1.1).trans hrl
      refine ⟨vp_in_nI hk6 (by decide), L, hrlu, cl_io hL, vp_in_nI hk6 (by decide), ?_⟩
      rw [I_eq]
      refine ⟨fun _ => hQ _ ?_, fun z => absurd rfl z⟩
      have hg := zG_of ht.1 u1
      exact ⟨fr_wI (BcC_iff.mpr (by rw [rS_eq hL 8 (by decide) (by decide)]; omega)) hg.1, hg.2⟩
    · have hsd := (zU_R h).1
      refine s3 P _ s s _ 0 hP hm (by omega) h.2 (fun t y t1 _ => ?_)
      have hz := zH_of h.1 t1
      have hz2 : zH sd S0 e.1 e.2 (gc_wI t a1 (3 * sd + k) y) := by
        rcases ha with rfl | rfl
        · exact zH_wI (a := 84) hsd hz rfl (k' := k) hk3 rfl
        · exact zH_wI (a := 87) hsd hz rfl (k' := k) hk3 rfl
      exact ⟨vp_in_nI (by omega) (by decide), by omega, f_must hP hm (by omega) hz2 ⟨by omega, f_tside hP hm (by omega) hz2 (fun y2 => hQ _ y2 hz2)⟩⟩
  | inr e =>
    obtain ⟨i1, r1, v1⟩ := e
    obtain ⟨a1', a2', a3', a4'⟩ := s1
    have e1i : i < i1 := a1'
    have a2 : ∀ w, r1 = some w → w.2 < tk_st b n i1 := a2'
    have a3 : r1 = none → v1 < 4 ^ G := a3'
    have a4 : r ≠ none → r1 = r := a4'
    have h256 : (4 : Nat) ^ G ≤ 256 := Nat.le_trans (Nat.pow_le_pow_right (by decide) hG4) (by decide)
    have wlive : ∀ {a1 k : Nat}, (a1 = 84 ∨ a1 = 87) → k < 3 → ∀ (x : Int32) (t S0 : gc_St), ¬ livR W sd a1 (3 * sd + k) → frR sd S0 t → ∀ s0, zR b n Tr sd mr nr s0 i1 W r1 0 t → zU b n Tr sd mr nr S0 i1 W r1 (gc_wI t a1 (3 * sd + k) x) := by
      intro a1 k ha hk3 x t S0 hl hS s0 ht
      rcases ha with rfl | rfl
      · exact zU_wI hS ht (by decide) (by decide) (k' := k) hk3 rfl hl
      · exact zU_wI hS ht (by decide) (by decide) (k' := k) hk3 rfl hl
    cases h22 : sT b n i1 22 with
    | some e =>
      obtain ⟨x, p⟩ := e
      refine ⟨.inl (x, p), trivial, goC _ (fun P d t S0 Q k hP hm hd hk6 hdl ht h10 hQ u y u1 u2 u3 => ?_), fun P d s S0 K a1 k hP hm hd ha hk3 hl h hQ => ?_⟩
      · obtain ⟨hL, hrl, _⟩ := zT_L ht
        have hrlu : gc_rl u = some L := (fr_rl u1.2.2.1).trans hrl
        refine ⟨vp_in_nI hk6 (by decide), L, hrlu, cl_io hL, vp_in_nI hk6 (by decide), ?_⟩
        rw [I_eq]
        have hu := zT_wI (j := 8) (k := k) (x := nI y) (fr_trans ht.1 (frC_of u1.2.2.1)) u1 (by decide) (hlive hdl 8 (by omega))
        exact ⟨fun z => absurd z (nI_nm1 (by omega)), fun _ => ⟨by omega, z_acceptS hP hm (by omega) kk_gives hu.2 (fun v vs => absurd (h22.symm.trans vs) (by simp)) (fun v x' p' vs v1 => ⟨fun z => absurd rfl z, fun _ => by
          have e2 : (x, p) = (x', p') := Option.some.inj (h22.symm.trans vs)
          have v1' := zG_of hu.1 v1
          rw [Prod.mk.injEq] at e2
          rw [← e2.1, ← e2.2] at v1'
          exact hQ v v1'⟩)⟩⟩
      · have hsd := (zU_R h).1
        refine s3 P _ s s _ 0 hP hm (by omega) h.2 (fun t y t1 t2 t3 => ?_)
        have hu := wlive ha hk3 y t S0 hl (frR_trans h.1 (frR_of t1.2.1.1 t1.2.1.2)) s t1
        refine ⟨vp_in_nI (by omega) (by decide), by omega, y_mustS hP hm (by omega) (by decide) hu.2 (fun v vs => absurd (h22.symm.trans vs) (by simp)) (fun v x' p' vs v1 => ⟨by omega, ?_⟩)⟩
        have e2 : (x, p) = (x', p') := Option.some.inj (h22.symm.trans vs)
        have v1' := zH_of hu.1 v1
        rw [Prod.mk.injEq] at e2
        rw [← e2.1, ← e2.2] at v1'
        exact f_tside hP hm (by omega) v1' (fun y2 => hQ _ y2 v1')
    | none =>
      obtain ⟨r2, q1, q2, q3⟩ := z_side (Tc := Tc) (Tr := Tr) (L := L) (sd := sd) (mc := mc) (mr := mr) (W := W) (i := i1 + 1) (r := r1) hn hlt hG hG4 hg (sT_st h22 (by decide) a2)
      have goC2 : ∀ res, (∀ (P : gc_Pr) (d : Nat) (t S0 : gc_St) (Q : gc_TQ) (k y : Nat), gc_Cl P → gc_Mo P → 4 ≤ d → k < 6 → ¬ ld_dl W k → zT b n Tc L mc nc S0 (i1 + 1) W r1 t → gc_I t (gc_rS L 10) k = -1 → gc_I t (gc_rS L 8) k = nI y → (r1 = none → y = v1) → dqC b n Tc L mc nc S0 W k res Q → qC b n Tc L mc nc t W 0 r2 (fun r17 s18 => gc_ri r17 fun x19 => vp_in (nI k) 6 ∧ (∃ a20, gc_rl s18 = some a20 ∧ (gc_io 2 a20 ∧ (vp_in (nI k) 6 ∧ (((gc_I (gc_wI s18 (gc_rS L 9) k x19) (gc_rS a20 9) k) = (-1) → (Q (some (.int 0)) (gc_wI s18 (gc_rS L 9) k x19))) ∧ (¬ (gc_I (gc_wI s18 (gc_rS L 9) k x19) (gc_rS a20 9) k) = (-1) → (Q (some (.int 1)) (gc_wI s18 (gc_rS L 9) k x19))))))))) → dC b n Tc L mc nc i W r res := by
        intro res hres
        refine goC res (fun P d t S0 Q k hP hm hd hk6 hdl ht h10 hQ u y u1 u2 u3 => ?_)
        obtain ⟨hL, hrl, _⟩ := zT_L ht
        have rS := rS_eq hL
        have hrlu : gc_rl u = some L := (fr_rl u1.2.2.1).trans hrl
        refine ⟨vp_in_nI hk6 (by decide), L, hrlu, cl_io hL, vp_in_nI hk6 (by decide), ?_⟩
        rw [I_eq]
        have hu := zT_wI (j := 8) (k := k) (x := nI y) (fr_trans ht.1 (frC_of u1.2.2.1)) u1 (by decide) (hlive hdl 8 (by omega))
        have hI8 : gc_I (gc_wI u (gc_rS L 8) k (nI y)) (gc_rS L 8) k = nI y := I_eq _ _ _ _
        have hI10 : gc_I (gc_wI u (gc_rS L 8) k (nI y)) (gc_rS L 10) k = -1 := by
          rw [I_ne _ _ (Or.inl (by rw [rS 8 (by decide) (by decide), rS 10 (by decide) (by decide)]; omega)), fr_I u1.2.2.1 (bf fun z => by
            have := BcL_iff.mp z
            rw [rS 10 (by decide) (by decide)] at this
            omega)]
          exact h10
        have hrlu' : gc_rl (gc_wI u (gc_rS L 8) k (nI y)) = some L := hrlu
        revert hu hI8 hI10 hrlu'
        generalize gc_wI u (gc_rS L 8) k (nI y) = u'
        intro hu hI8 hI10 hrlu'
        refine ⟨fun z => absurd z (nI_nm1 (by omega)), fun _ => ⟨by omega, z_acceptS hP hm (by omega) kk_gives hu.2 (fun v vs v1 => ⟨fun _ => ?_, fun z => absurd z (by decide)⟩) (fun v x' p' vs => absurd (h22.symm.trans vs) (by simp))⟩⟩
        have hrlv : gc_rl v = some L := (fr_rl v1.2.2.1).trans hrlu'
        refine ⟨L, hrlv, cl_io hL, L, hrlv, by omega, ?_⟩
        have hv := zT_of hu.1 v1
        have hIv : ∀ j, 7 ≤ j → j ≤ 10 → gc_I v (gc_rS L j) = gc_I u' (gc_rS L j) := fun j j1 j2 => fr_I v1.2.2.1 (bf fun z => by
          have := BcL_iff.mp z
          rw [rS j j1 (by omega)] at this
          omega)
        exact q2 P _ v v _ 0 hP hm (by omega) hv.2 (hres P d v S0 Q k y hP hm hd hk6 hdl hv (by rw [hIv 10 (by decide) (by decide)]; exact hI10) (by rw [hIv 8 (by decide) (by decide)]; exact hI8) u3 hQ)
      have goR2 : ∀ res, (∀ (P : gc_Pr) (d : Nat) (t S0 : gc_St) (K : Int32 → gc_St → Prop) (a1 k : Nat) (y : Int32), gc_Cl P → gc_Mo P → 6 ≤ d → (a1 = 84 ∨ a1 = 87) → k < 3 → zU b n Tr sd mr nr S0 (i1 + 1) W r1 t → gc_I t a1 (3 * sd + k) = y → (r1 = none → y = nI v1) → dqR b n Tr sd mr nr S0 W a1 k res K → qR b n Tr sd mr nr t W 0 t r2 (fun r11 s12 => gc_ri r11 fun x13 => K x13 s12)) → dR b n Tr sd mr nr i W r res := by
        intro res hres P d s S0 K a1 k hP hm hd ha hk3 hl h hQ
        have hsd := (zU_R h).1
        refine s3 P _ s s _ 0 hP hm (by omega) h.2 (fun t y t1 t2 t3 => ?_)
        have hu := wlive ha hk3 y t S0 hl (frR_trans h.1 (frR_of t1.2.1.1 t1.2.1.2)) s t1
        have hIu : gc_I (gc_wI t a1 (3 * sd + k) y) a1 (3 * sd + k) = y := I_eq _ _ _ _
        refine ⟨vp_in_nI (by omega) (by decide), by omega, ?_⟩
        revert hu hIu
        generalize gc_wI t a1 (3 * sd + k) y = u
        intro hu hIu
        refine y_mustS hP hm (by omega) (by decide) hu.2 (fun v vs v1 => ⟨by omega, ?_⟩) (fun v x' p' vs => absurd (h22.symm.trans vs) (by simp))
        have hv := zU_of hu.1 v1
        have hIv : gc_I v a1 = gc_I u a1 := by
          rcases ha with rfl | rfl
          · exact fr_I v1.2.1.1 rfl
          · exact fr_I v1.2.1.1 rfl
        exact q3 P _ v v _ 0 hP hm (by omega) hv.2 (hres P d v S0 K a1 k y hP hm hd ha hk3 hv (by rw [hIv]; exact hIu) t3 hQ)
      cases r2 with
      | inl e =>
        refine ⟨.inl e, trivial, goC2 _ (fun P d t S0 Q k y hP hm hd hk6 hdl ht h10 h8 hy hQ u u1 => ?_), goR2 _ (fun P d t S0 K a1 k y hP hm hd ha hk3 ht hI hy hQ u y2 u1 _ => hQ u y2 (zH_of ht.1 u1))⟩
        obtain ⟨hL, hrl, _⟩ := zT_L ht
        have hrlu : gc_rl u = some L := (fr_rl u1.1).trans hrl
        refine ⟨vp_in_nI hk6 (by decide), L, hrlu, cl_io hL, vp_in_nI hk6 (by decide), ?_⟩
        rw [I_eq]
        refine ⟨fun _ => hQ _ ?_, fun z => absurd rfl z⟩
        have hg := zG_of ht.1 u1
        exact ⟨fr_wI (BcC_iff.mpr (by rw [rS_eq hL 9 (by decide) (by decide)]; omega)) hg.1, hg.2⟩
      | inr e =>
        obtain ⟨i2, r2, v2⟩ := e
        obtain ⟨c1', c2', c3', c4'⟩ := q1
        have c1 : i1 + 1 < i2 := c1'
        have c3 : r2 = none → v2 < 4 ^ G := c3'
        have c4 : r1 ≠ none → r2 = r1 := c4'
        have h21 : r2 = none → r1 = none := fun z => Decidable.byContradiction fun y => y ((c4 y).symm.trans z)
        have h10' : r1 = none → r = none := fun z => Decidable.byContradiction fun y => y ((a4 y).symm.trans z)
        refine ⟨.inr (i2, r2, v1, v2), ⟨by show i < i2; omega, c2', fun z => ⟨h10' (h21 z), a3 (h21 z), c3 z⟩⟩, goC2 _ (fun P d t S0 Q k y hP hm hd hk6 hdl ht h10 h8 hy hQ u y2 u1 u2 u3 => ?_), goR2 _ (fun P d t S0 K a1 k y hP hm hd ha hk3 ht hI hy hQ u y2 u1 u2 u3 => ?_)⟩
        · obtain ⟨hL, hrl, _⟩ := zT_L ht
          have rS := rS_eq hL
          have hrlu : gc_rl u = some L := (fr_rl u1.2.2.1).trans hrl
          refine ⟨vp_in_nI hk6 (by decide), L, hrlu, cl_io hL, vp_in_nI hk6 (by decide), ?_⟩
          rw [I_eq]
          have hu := zT_wI (j := 9) (k := k) (x := nI y2) (fr_trans ht.1 (frC_of u1.2.2.1)) u1 (by decide) (hlive hdl 9 (by omega))
          have hIu : ∀ j, 7 ≤ j → j ≤ 10 → gc_I u (gc_rS L j) = gc_I t (gc_rS L j) := fun j j1 j2 => fr_I u1.2.2.1 (bf fun z => by
            have := BcL_iff.mp z
            rw [rS j j1 (by omega)] at this
            omega)
          refine ⟨fun z => absurd z (nI_nm1 (by omega)), fun _ => hQ _ hu fun z => ⟨?_, ?_, ?_⟩⟩
          · rw [I_ne _ _ (Or.inl (by rw [rS 8 (by decide) (by decide), rS 9 (by decide) (by decide)]; omega)), hIu 8 (by decide) (by decide), h8, hy (h21 z)]
          · rw [I_eq, u3 z]
          · rw [I_ne _ _ (Or.inl (by rw [rS 10 (by decide) (by decide), rS 9 (by decide) (by decide)]; omega)), hIu 10 (by decide) (by decide), h10]
        · refine hQ u y2 (zU_of ht.1 u1) fun z => ⟨?_, u3 z⟩
          have hIv : gc_I u a1 = gc_I t a1 := by
            rcases ha with rfl | rfl
            · exact fr_I u2 rfl
            · exact fr_I u2 rfl
          rw [hIv, hI, hy (h21 z)]
end De
