/-! judge: words taken where the first fault ends it. -/
def AJ (q k : Nat) : Bool := Nat.beq q 3 || (Nat.beq q 28 && (Nat.ble 5 k && Nat.ble k 15))
def BJ (a : Nat) : Bool := Nat.ble 29 a && Nat.ble a 31
theorem AJ_iff {q k : Nat} : AJ q k = true ↔ q = 3 ∨ (q = 28 ∧ 5 ≤ k ∧ k ≤ 15) := by
  unfold AJ
  simp only [Bool.and_eq_true, Bool.or_eq_true, Nat.beq_eq, Nat.ble_eq]
theorem BJ_iff {a : Nat} : BJ a = true ↔ 29 ≤ a ∧ a ≤ 31 := by
  unfold BJ
  rw [Bool.and_eq_true, Nat.ble_eq, Nat.ble_eq]
/-- the law, its names, the words -/
def stC (W : ld_W) (L : Nat) (nl : List (List Nat × Nat × Nat)) (s : gc_St) : Prop := cl_C W L s ∧ nmC nl L s ∧ ∀ k, k < 20 → gc_J s 8 k = lN (w32 k)
theorem stC_fr {W : ld_W} {L : Nat} {nl : List (List Nat × Nat × Nat)} {s t : gc_St} (h : stC W L nl s) (g : fr AJ BJ s t) : stC W L nl t := by
  obtain ⟨⟨h1, h2, h3, h4, h5⟩, h6, h7⟩ := h
  have hL : ∀ k, gc_F t L k = gc_F s L k := fun k => fr_F g (bf fun z => by
    have := AJ_iff.mp z
    rcases h1 with e | e <;> omega)
  have hr : ∀ j, gc_rS L j ≠ 29 ∧ gc_rS L j ≠ 30 ∧ gc_rS L j ≠ 31 := by
    intro j
    rcases Nat.lt_or_ge j 19 with e | e
    · have key : ∀ j, j < 19 → (gc_rS 11 j ≠ 29 ∧ gc_rS 11 j ≠ 30 ∧ gc_rS 11 j ≠ 31) ∧ (gc_rS 54 j ≠ 29 ∧ gc_rS 54 j ≠ 30 ∧ gc_rS 54 j ≠ 31) := by decide
      rcases h1 with rfl | rfl
      · exact (key j e).1
      · exact (key j e).2
    · have : gc_rS L j = 0 := by
        unfold gc_rS
        rw [List.getD_eq_getElem?_getD, List.getElem?_eq_none]
        · rfl
        · rcases h1 with rfl | rfl
          · exact e
          · exact e
      omega
  have hI : ∀ j, gc_I t (gc_rS L j) = gc_I s (gc_rS L j) := fun j => fr_I g (bf fun z => by
    have := BJ_iff.mp z
    have := hr j
    omega)
  have hJ : ∀ j, gc_J t (gc_rS L j) = gc_J s (gc_rS L j) := fun j => fr_J g (bf fun z => by
    have := BJ_iff.mp z
    have := hr j
    omega)
  refine ⟨⟨h1, (fr_lw g).trans h2, cl_law_of (funext hL) hI h3, h4, ?_⟩, nmC_of h6 (hL 6) (hJ 17) (hI 18), fun k hk => ?_⟩
  · unfold cl_tg at h5 ⊢
    rw [fr_I g rfl]
    exact h5
  · rw [fr_J g rfl]
    exact h7 k hk
def jc (b : Nat → Nat) (n T L : Nat) (W : ld_W) (nl : List (List Nat × Nat × Nat)) (s0 : gc_St) (i : Nat) (s : gc_St) : Prop := cpw b n T i s ∧ (1 ≤ i → gc_F s 3 8 = nI (tk_st b n (i - 1))) ∧ fr AJ BJ s0 s ∧ (gc_F s 3 11 = 0 ∧ gc_F s 3 12 = 0 ∧ gc_F s 3 14 = 0 ∧ gc_F s 3 15 = -1) ∧ stC W L nl s
def jF (s0 : gc_St) (x p : Nat) (t : gc_St) : Prop := fr AJ BJ s0 t ∧ blm t (nI x) (nI p) ∧ 1 ≤ x ∧ x < 9
theorem AJ_3 {A : Nat → Nat → Bool} {s t : gc_St} (g : fr A B0 s t) (hA : ∀ q k, A q k = true → q = 3) : fr AJ BJ s t := fr_up g (fun q k z => AJ_iff.mpr (Or.inl (hA q k z))) (fun a z => (B0_f z).elim)
theorem fr3 {A : Nat → Nat → Bool} {s t : gc_St} (g : fr A B0 s t) (hA : ∀ q k, A q k = true → q = 3) : fr A3 B0 s t := fr_up g (fun q k z => A3_iff.mpr (hA q k z)) (fun a z => z)
section Jt
variable {P : gc_Pr} {d : Nat} {s s0 : gc_St} {Q : gc_TQ} {b : Nat → Nat} {n T L i : Nat} {nl : List (List Nat × Nat × Nat)} {W : ld_W}
theorem jc_i (h : jc b n T L W nl s0 i s) : i ≤ 400 := cpw_i h.1
theorem jc_fr {A : Nat → Nat → Bool} {t : gc_St} (h : jc b n T L W nl s0 i s) (hc : cpw b n T (i + 1) t) (g : fr A B0 s t) (hA : ∀ q k, A q k = true → q = 3 ∧ k ≤ 10) (h8 : gc_F t 3 8 = nI (tk_st b n i)) : jc b n T L W nl s0 (i + 1) t := by
  have hF : ∀ k, 10 < k → gc_F t 3 k = gc_F s 3 k := fun k hk => fr_F g (bf fun z => by
    have := (hA 3 k z).2
    omega)
  have gJ := AJ_3 g (fun q k z => (hA q k z).1)
  exact ⟨hc, fun _ => h8, fr_trans h.2.2.1 gJ, ⟨(hF 11 (by decide)).trans h.2.2.2.1.1, (hF 12 (by decide)).trans h.2.2.2.1.2.1, (hF 14 (by decide)).trans h.2.2.2.1.2.2.1, (hF 15 (by decide)).trans h.2.2.2.1.2.2.2⟩, stC_fr h.2.2.2.2 gJ⟩
theorem j_take (hP : gc_Cl P) (hm : gc_Mo P) {k c : Int32} (hk : kk c k) (e : rk b n i = k) (h : jc b n T L W nl s0 i s) (h1 : ∀ t, i < 400 → jc b n T L W nl s0 (i + 1) t → fr A3 B0 s t → gc_ln t = gc_J s 6 i → Q (some (.int 1)) t) (h2 : ∀ t, i = 400 → jF s0 2 (tk_st b n i) t → Q (some (.int 0)) t) : gc_T P d 0 0 106 0 [.ref 3] [] s Q := by
  have hc : ck b n i = c := (hk.1 _).mpr e
  exact sp_take hP hm h.1 (by rw [hc]; exact kk_c hk) (fun t t1 t2 t3 t4 => h1 t t1 (jc_fr h t2 t4 (fun _ _ => Atk_3) t3.2.1) (fr3 t4 (fun _ _ z => (Atk_3 z).1)) t3.2.2.1) (fun t t1 t2 t3 => h2 t t1 ⟨fr_trans h.2.2.1 (AJ_3 t2 (fun _ _ => Abl_3)), t3, by decide, by decide⟩)
theorem j_accept (hP : gc_Cl P) (hm : gc_Mo P) (hd : 1 ≤ d) {k c : Int32} (hk : kk c k) (h : jc b n T L W nl s0 i s) (h1 : ∀ t, sT b n i k = none → jc b n T L W nl s0 (i + 1) t → fr A3 B0 s t → gc_ln t = gc_J s 6 i → Q (some (.int 1)) t) (h2 : ∀ t x p, sT b n i k = some (x, p) → jF s0 x p t → Q (some (.int 0)) t) : gc_T P d 0 0 107 0 [.ref 3, .int c] [] s Q :=
  sp_accept hP hm hd (kk_c hk) h.1 (fun t t0 t1 t2 t3 t4 => h1 t (sT_ok ((hk.1 _).mp t0) t1) (jc_fr h t2 t4 (fun _ _ => Atk_3) t3.2.1) (fr3 t4 (fun _ _ z => (Atk_3 z).1)) t3.2.2.1) (fun t t0 t1 t2 t3 => h2 t _ _ (sT_2 ((hk.1 _).mp t0) t1) ⟨fr_trans h.2.2.1 (AJ_3 t2 (fun _ _ => Abl_3)), t3, by decide, by decide⟩) (fun t t0 t2 t3 => h2 t _ _ (sT_1 (fun z => t0 ((hk.1 _).mpr z))) ⟨fr_trans h.2.2.1 (AJ_3 t2 (fun _ _ => Abl_3)), t3, by decide, by decide⟩)
theorem j_blame (hP : gc_Cl P) (hm : gc_Mo P) {x p : Nat} (hx : 1 ≤ x ∧ x < 9) (h : fr AJ BJ s0 s) (hQ : ∀ t, jF s0 x p t → Q (some (.int 0)) t) : gc_T P d 0 0 108 0 [.ref 3, .int (nI x), .int (nI p)] [] s Q :=
  sp_blame hP hm fun t t1 t2 => hQ t ⟨fr_trans h (AJ_3 t1 (fun _ _ => Abl_3)), t2, hx⟩
theorem j_object (hP : gc_Cl P) (hm : gc_Mo P) {x : Nat} (hx : 1 ≤ x ∧ x < 9) (h : jc b n T L W nl s0 (i + 1) s) (hQ : ∀ t, jF s0 x (tk_st b n i) t → Q (some (.int 0)) t) : gc_T P d 0 0 109 0 [.ref 3, .int (nI x)] [] s Q := by
  refine sp_object hP hm (Or.inl h.2.2.2.1.1) (fun t z => absurd (h.2.2.2.1.1.symm.trans z) (by decide)) (fun t _ t1 t2 => hQ t ⟨fr_trans h.2.2.1 (AJ_3 t1 (fun _ _ => Abl_3)), ?_, hx⟩)
  have h8 := h.2.1 (by omega)
  rw [Nat.add_sub_cancel] at h8
  rw [h8] at t2
  exact t2
end Jt
/-! the reference -/
def AK (q k : Nat) : Bool := Nat.beq q 67 && (Nat.ble 12 k && Nat.ble k 15 || (Nat.ble 64 k && Nat.ble k 67 || Nat.beq k 73))
def BK (a : Nat) : Bool := Nat.ble 107 a && Nat.ble a 109
theorem AK_iff {q k : Nat} : AK q k = true ↔ q = 67 ∧ ((12 ≤ k ∧ k ≤ 15) ∨ (64 ≤ k ∧ k ≤ 67) ∨ k = 73) := by
  unfold AK
  simp only [Bool.and_eq_true, Bool.or_eq_true, Nat.beq_eq, Nat.ble_eq]
theorem BK_iff {a : Nat} : BK a = true ↔ 107 ≤ a ∧ a ≤ 109 := by
  unfold BK
  rw [Bool.and_eq_true, Nat.ble_eq, Nat.ble_eq]
/-- which of the class's words the reference's k-th step word is -/
def pw (k : Nat) : Nat := [10, 11, 13, 14, 18, 15, 16, 19].getD k 0
def stR (W : ld_W) (lv : Nat) (nl : List (List Nat × Nat × Nat)) (o : Nat) (s : gc_St) : Prop := rf_law W lv s ∧ nmR nl lv s ∧ gc_I s 79 lv = nI (16 * lv + nl.length) ∧ gc_F s 67 50 = nI o ∧ ∀ k, k < 8 → gc_J s 68 k = lN (w27 (pw k))
theorem stR_fr {W : ld_W} {lv o : Nat} {nl : List (List Nat × Nat × Nat)} {s t : gc_St} (h : stR W lv nl o s) (g : fr AK BK s t) : stR W lv nl o t := by
  obtain ⟨h1, h2, h3, h4, h5⟩ := h
  have hI : ∀ a, a < 107 → gc_I t a = gc_I s a := fun a ha => fr_I g (bf fun z => by
    have := BK_iff.mp z
    omega)
  have hJ : ∀ a, a < 107 → gc_J t a = gc_J s a := fun a ha => fr_J g (bf fun z => by
    have := BK_iff.mp z
    omega)
  refine ⟨rf_law_of h1 (fr_F g rfl) (fun a ha => hI a ?_), nmR_of h2 (hJ 76 (by decide)) (hI 77 (by decide)) (hI 78 (by decide)), by rw [hI 79 (by decide)]; exact h3, (fr_F g rfl).trans h4, fun k hk => by rw [hJ 68 (by decide)]; exact h5 k hk⟩
  unfold rfB at ha
  simp only [Bool.and_eq_true, Nat.ble_eq] at ha
  omega
/-- and the row of OATHS is never too long -/
def fk (s0 s : gc_St) : Prop := fr AK BK s0 s ∧ ∃ c, c ≤ 64 ∧ gc_F s 67 73 = nI c
theorem fk_go {A : Nat → Nat → Bool} {s0 s t : gc_St} (h : fk s0 s) (g : fr A B0 s t) (gK : fr AK BK s t) (h73 : A 67 73 = false) : fk s0 t := by
  obtain ⟨h1, c, c1, c2⟩ := h
  exact ⟨fr_trans h1 gK, c, c1, (fr_F g h73).trans c2⟩
def kj (b : Nat → Nat) (n T lv : Nat) (W : ld_W) (nl : List (List Nat × Nat × Nat)) (o : Nat) (s0 : gc_St) (i : Nat) (s : gc_St) : Prop := rpw b n T i s ∧ fk s0 s ∧ (gc_F s 67 14 = 0 ∧ gc_F s 67 43 = 1) ∧ stR W lv nl o s
def kF' (s0 : gc_St) (x p : Nat) (t : gc_St) : Prop := fk s0 t ∧ mbl t (nI x) (nI p) ∧ 1 ≤ x ∧ x < 9
theorem kF_n {x p : Nat} {s0 t : gc_St} (h : kF' s0 x p t) : ¬ gc_F t 67 14 = 0 ∧ ¬ gc_F t 67 14 ≤ 0 ∧ 0 < gc_F t 67 14 := by
  rw [h.2.1.1]
  have h1 := h.2.2.1
  have h2 := h.2.2.2
  exact ⟨nI_ne0 h1 (by omega), nI_nle h1 (by omega), nI_lt (a := 0) h1 (by omega)⟩
section Kt
variable {P : gc_Pr} {d : Nat} {s s0 : gc_St} {Q : gc_TQ} {b : Nat → Nat} {n T lv i o : Nat} {nl : List (List Nat × Nat × Nat)} {W : ld_W}
theorem kj_i (h : kj b n T lv W nl o s0 i s) : i ≤ 400 := rpw_i h.1
theorem kmf {t : gc_St} (g : fr Amf B0 s t) : fr AK BK s t := fr_up g (fun q k z => AK_iff.mpr ⟨(Amf_i z).1, by have := (Amf_i z).2; omega⟩) (fun a z => (B0_f z).elim)
theorem k12 {t : gc_St} (g : fr Am12 B0 s t) : fr AK BK s t := fr_up g (fun q k z => AK_iff.mpr ⟨(Am12_i z).1, by have := (Am12_i z).2; omega⟩) (fun a z => (B0_f z).elim)
theorem kj_12 {t : gc_St} (h : kj b n T lv W nl o s0 i s) (hr : rpw b n T (i + 1) t) (g : fr Am12 B0 s t) : kj b n T lv W nl o s0 (i + 1) t :=
  ⟨hr, fk_go h.2.1 g (k12 g) rfl, ⟨(fr_F g rfl).trans h.2.2.1.1, (fr_F g rfl).trans h.2.2.1.2⟩, stR_fr h.2.2.2 (k12 g)⟩
theorem k_is (hP : gc_Cl P) (hm : gc_Mo P) {x : Int32} (h : kj b n T lv W nl o s0 i s) (h1 : rk b n i = x → Q (some (.int 1)) s) (h2 : rk b n i ≠ x → Q (some (.int 0)) s) : gc_T P d 0 0 184 0 [.ref 67, .int x] [] s Q := by
  refine sp_mis hP hm h.1 h.2.2.1.1 ?_
  by_cases e : rk b n i = x
  · rw [decide_eq_true e]
    exact h1 e
  · rw [decide_eq_false e]
    exact h2 e
theorem k_fail (hP : gc_Cl P) (hm : gc_Mo P) {x : Nat} (hx : 1 ≤ x ∧ x < 9) (h : kj b n T lv W nl o s0 i s) (hQ : ∀ t, kF' s0 x (tk_st b n i) t → Q none t) : gc_T P d 0 0 185 0 [.ref 67, .int (nI x)] [] s Q :=
  sp_mfail hP hm h.1 h.2.2.1.1 fun t t1 t2 => hQ t ⟨fk_go h.2.1 t1 (kmf t1) rfl, t2, hx⟩
theorem k_failAt (hP : gc_Cl P) (hm : gc_Mo P) {x j : Nat} (hx : 1 ≤ x ∧ x < 9) (h : kj b n T lv W nl o s0 i s) (hj : j < T) (hQ : ∀ t, kF' s0 x (tk_st b n j) t → Q none t) : gc_T P d 0 0 192 0 [.ref 67, .int (nI x), .int (nI j)] [] s Q := by
  have hT := h.1.1.1
  refine b_X11_failAt_0 hP hm ?_
  rw [h.2.2.1.1, nI_clamp (by omega), (h.1.2.1 j hj).2.1]
  refine ⟨fun _ => ⟨vp_in_nI (by omega) (by decide), hQ _ ⟨fk_go (A := Amf) h.2.1 (fr_wF rfl (fr_wF rfl (fr_refl s))) (kmf (fr_wF rfl (fr_wF rfl (fr_refl s)))) rfl, ⟨?_, F_eq _ _ _ _⟩, hx⟩⟩, fun y => absurd (by decide) y⟩
  rw [F_ne _ _ (Or.inr (by decide)), F_eq]
theorem k_failAtF (hP : gc_Cl P) (hm : gc_Mo P) {x p : Nat} {y z : Int32} (h : kF' s0 x p s) (hQ : Q none s) : gc_T P d 0 0 192 0 [.ref 67, .int y, .int z] [] s Q :=
  b_X11_failAt_0 hP hm ⟨fun u => absurd u (kF_n h).2.1, fun _ => hQ⟩
theorem k_go (hP : gc_Cl P) (hm : gc_Mo P) (hd : 1 ≤ d) (h : kj b n T lv W nl o s0 i s) (hk : rk b n i ≠ 0) (h1 : ∀ t, i < 400 → kj b n T lv W nl o s0 (i + 1) t → fr Am12 B0 s t → Q none t) (h2 : ∀ t, i = 400 → kF' s0 2 (tk_st b n i) t → Q none t) : gc_T P d 0 0 187 0 [.ref 67] [] s Q :=
  sp_mgoesOn hP hm hd h.1 h.2.2.1.1 hk (fun t t1 t2 t3 => h1 t t1 (kj_12 h t2 t3) t3) (fun t t1 t2 t3 => h2 t t1 ⟨fk_go h.2.1 t2 (kmf t2) rfl, t3, by decide, by decide⟩)
theorem k_must (hP : gc_Cl P) (hm : gc_Mo P) (hd : 2 ≤ d) {x : Int32} (hx : x ≠ 0) (h : kj b n T lv W nl o s0 i s) (h1 : ∀ t, sT b n i x = none → kj b n T lv W nl o s0 (i + 1) t → fr Am12 B0 s t → Q none t) (h2 : ∀ t y p, sT b n i x = some (y, p) → kF' s0 y p t → Q none t) : gc_T P d 0 0 188 0 [.ref 67, .int x] [] s Q :=
  sp_mmust hP hm hd hx h.1 h.2.2.1.1 (fun t t0 t1 t2 t3 => h1 t (sT_ok t0 t1) (kj_12 h t2 t3) t3) (fun t t0 t1 t2 t3 => h2 t _ _ (sT_2 t0 t1) ⟨fk_go h.2.1 t2 (kmf t2) rfl, t3, by decide, by decide⟩) (fun t t0 t2 t3 => h2 t _ _ (sT_1 t0) ⟨fk_go h.2.1 t2 (kmf t2) rfl, t3, by decide, by decide⟩)
end Kt
/-! a SIDE -/
theorem gdC_gd {nl : List (List Nat × Nat × Nat)} (hd : ndN nl) : ∀ w, gdC nl w = gd nl w := by
  intro w
  unfold gdC gd
  cases hf : nl.find? (fun e => e.1 == w) with
  | some e =>
    have he := List.mem_of_find?_eq_some hf
    have hp : (e.1 == w) = true := by
      have := List.find?_some hf
      exact this
    have hw : e.1 = w := by simpa using hp
    show (if e.2.1 = 0 then some e.2.2 else none) = _
    by_cases z : e.2.1 = 0
    · rw [if_pos z]
      cases hg : nl.find? (fun e => e.1 == w && Nat.beq e.2.1 0) with
      | none =>
        have := List.find?_eq_none.mp hg e he
        rw [hp, z] at this
        exact absurd rfl this
      | some e' =>
        have hp' : (e'.1 == w && Nat.beq e'.2.1 0) = true := by
          have := List.find?_some hg
          exact this
        rw [Bool.and_eq_true] at hp'
        have hw' : e'.1 = w := by simpa using hp'.1
        have : e = e' := hd e e' he (List.mem_of_find?_eq_some hg) (hw.trans hw'.symm)
        rw [this]
        rfl
    · rw [if_neg z]
      cases hg : nl.find? (fun e => e.1 == w && Nat.beq e.2.1 0) with
      | none => rfl
      | some e' =>
        have hp' : (e'.1 == w && Nat.beq e'.2.1 0) = true := by
          have := List.find?_some hg
          exact this
        rw [Bool.and_eq_true, Nat.beq_eq] at hp'
        have hw' : e'.1 = w := by simpa using hp'.1
        have : e = e' := hd e e' he (List.mem_of_find?_eq_some hg) (hw.trans hw'.symm)
        rw [this] at z
        exact absurd hp'.2 z
  | none =>
    have hg : nl.find? (fun e => e.1 == w && Nat.beq e.2.1 0) = none := List.find?_eq_none.mpr fun e he hp => by
      rw [Bool.and_eq_true] at hp
      exact List.find?_eq_none.mp hf e he hp.1
    rw [hg]
    rfl
theorem nli_ok {W : ld_W} {nl : List (List Nat × Nat × Nat)} (h : nli W nl) (hok : ld_ok W) : nok nl := by
  intro e he
  obtain ⟨h0, h1, h2, h3, h4⟩ := h e he
  obtain ⟨c0, c1, c2, c3, _⟩ := hok.1
  refine ⟨h0, ?_, fun z => by have := h1 z; omega⟩
  rcases (by omega : e.2.1 = 0 ∨ e.2.1 = 1 ∨ e.2.1 = 2 ∨ e.2.1 = 3) with z | z | z | z
  · have := h1 z
    omega
  · have := h2 z
    omega
  · have := h3 z
    omega
  · have := h4 z
    omega
def sdQ (nl : List (List Nat × Nat × Nat)) (b : Nat → Nat) (n i v : Nat) : (Nat × Nat) ⊕ Nat := match gd nl (wdi b n i) with
  | none => .inl (4, tk_st b n i)
  | some g => if v / 4 ^ g % 4 = 3 then .inl (5, tk_st b n i) else .inr (v + 4 ^ g)
abbrev sRes : Type := (Nat × Nat) ⊕ (Nat × Nat)
section Js
variable {b : Nat → Nat} {n Tc Tr L lv o G : Nat} {nl : List (List Nat × Nat × Nat)} {W : ld_W}
def jqC (b : Nat → Nat) (n T L : Nat) (W : ld_W) (nl : List (List Nat × Nat × Nat)) (s0 s : gc_St) (res : sRes) (Q : gc_TQ) : Prop := match res with
  | .inl e => ∀ t, jF s0 e.1 e.2 t → Q (some (.int (-1))) t
  | .inr e => ∀ t, jc b n T L W nl s0 e.1 t → fr A3 B0 s t → Q (some (.int (nI e.2))) t
def jqR (b : Nat → Nat) (n T lv : Nat) (W : ld_W) (nl : List (List Nat × Nat × Nat)) (o : Nat) (s0 s : gc_St) (res : sRes) (Q : gc_TQ) : Prop := match res with
  | .inl e => ∀ t y, kF' s0 e.1 e.2 t → y < 256 → Q (some (.int (nI y))) t
  | .inr e => ∀ t, kj b n T lv W nl o s0 e.1 t → fr Am12 B0 s t → Q (some (.int (nI e.2))) t
theorem js_loop (hlt : ∀ j, b j < 256) (hnd : ndN nl) (hnk : nok nl) (hG4 : G ≤ 4) (hg : ∀ w g, gd nl w = some g → g < G) : ∀ f i v, 401 ≤ i + f → v < 4 ^ G → ∃ res : sRes, (∀ e, res = .inr e → i < e.1 ∧ e.2 < 4 ^ G) ∧ (∀ (P : gc_Pr) (d : Nat) (s s0 : gc_St) (Q : gc_TQ) (k : Nat), gc_Cl P → gc_Mo P → 2 ≤ d → jc b n Tc L W nl s0 i s → k ≤ i → jqC b n Tc L W nl s0 s res Q → gc_T P d 0 0 112 27 [.ref 3, .ref L, .int (nI v), .int (nI k)] [] s Q) ∧ (∀ (P : gc_Pr) (d : Nat) (s s0 : gc_St) (Q : gc_TQ) (l3 : Value), gc_Cl P → gc_Mo P → 4 ≤ d → kj b n Tr lv W nl o s0 i s → jqR b n Tr lv W nl o s0 s res Q → gc_T P d 0 0 199 19 [.ref 67, .int (nI v), .int 1, l3] [] s Q) := by
  have h256 : (4 : Nat) ^ G ≤ 256 := Nat.le_trans (Nat.pow_le_pow_right (by decide) hG4) (by decide)
  intro f
  induction f with
  | zero =>
    intro i v hf _
    refine ⟨.inl (1, 0), fun e he => absurd he (by simp), fun P d s s0 Q k hP hm hd h => ?_, fun P d s s0 Q l3 hP hm hd h => ?_⟩
    · have := jc_i h
      omega
    · have := kj_i h
      omega
  | succ f ih =>
    intro i v hf hv
    by_cases hk : rk b n i = 1
    · by_cases hi : i < 400
      · -- the class: up to the value of the NAME
        have goC : ∀ (res : sRes), (∀ (P : gc_Pr) (d : Nat) (s t s0 : gc_St) (Q : gc_TQ) (k : Nat), gc_Cl P → gc_Mo P → 2 ≤ d → jc b n Tc L W nl s0 (i + 1) t → k ≤ i → fr A3 B0 s t → jqC b n Tc L W nl s0 s res Q → (match sdQ nl b n i v with
            | .inl e => ∀ u, jF s0 e.1 e.2 u → gc_T P d 0 0 112 52 [.ref 3, .ref L, .int (nI v), .int (nI k)] [.int (-1)] u Q
            | .inr v' => gc_T P d 0 0 112 52 [.ref 3, .ref L, .int (nI v), .int (nI k)] [.int (nI v')] t Q)) → (∀ (P : gc_Pr) (d : Nat) (s s0 : gc_St) (Q : gc_TQ) (k : Nat), gc_Cl P → gc_Mo P → 2 ≤ d → jc b n Tc L W nl s0 i s → k ≤ i → jqC b n Tc L W nl s0 s res Q → gc_T P d 0 0 112 27 [.ref 3, .ref L, .int (nI v), .int (nI k)] [] s Q) := by
          intro res hres P d s s0 Q k hP hm hd h hki hQ
          have hL : cl_L L := h.2.2.2.2.1.1
          have io := cl_io hL
          refine b_X8_side_27 hP hm io (pk_lt 400 k (fun z => by omega) (fun _ => ⟨by omega, j_accept hP hm (by omega) kk_name h (fun t _ t2 t3 t4 => ⟨fun z => absurd z (by decide), fun _ => ⟨by omega, ?_⟩⟩) (fun t x p t1 => absurd ((sT_ok hk hi).symm.trans t1) (by simp))⟩))
          have hr := hres P d s t s0 Q k hP hm hd t2 hki t3 hQ
          have hw := wdi_ok hlt (Or.inl hk)
          refine b_X8_withLastName_0 hP hm io ⟨by omega, ?_⟩
          rw [show gc_ln t = lN (wnum 32 (wdi b n i)) from t4.trans (nmC_at h.1 h.1.2.2.2 (Or.inl hk))]
          refine sp_roleOf hP hm hL t2.2.2.2.2.2.1 hw ?_
          rcases rl_cases hnk (wdi b n i) with ⟨e1, e2⟩ | ⟨g, e0, e1, e2⟩
          · rw [gdC_gd hnd] at e1
            unfold sdQ at hr
            rw [e1] at hr
            have soft : ∀ l, gc_T P (d - 1) 0 0 113 20 [.ref 3, .int (nI v), .ref L, .int l] [] t (fun r4 s5 => gc_ri r4 fun x6 => gc_T P d 0 0 112 52 [.ref 3, .ref L, .int (nI v), .int (nI k)] [.int x6] s5 Q) := fun l => b_X8_withLastName_20 hP hm io ⟨by omega, j_object hP hm (x := 4) (by decide) t2 fun u u1 => ⟨fun _ => hr u u1, fun z => absurd rfl z⟩⟩
            rcases e2 with e2 | ⟨q, q1, q2, e2⟩
            · rw [e2]
              exact ⟨fun _ => soft _, fun y => absurd rfl y⟩
            · rw [e2]
              exact ⟨fun y => absurd y (nI_nm1 (by omega)), fun _ => ⟨fun y => absurd y (nI_nlt (b := 8) q1 (by omega)), fun _ => soft _⟩⟩
          · rw [gdC_gd hnd] at e1
            unfold sdQ at hr
            rw [e1] at hr
            rw [e2]
            refine ⟨fun y => absurd y (nI_nm1 (by omega)), fun _ => ⟨fun _ => ⟨by omega, sp_countOf hP hm (by omega) e0 ?_⟩, fun y => absurd (nI_lt (b := 8) (by omega) (by decide)) y⟩⟩
            by_cases z : v / 4 ^ g % 4 = 3
            · have hr' : ∀ u, jF s0 5 (tk_st b n i) u → gc_T P d 0 0 112 52 [.ref 3, .ref L, .int (nI v), .int (nI k)] [.int (-1)] u Q := by
                have := hr
                simp only [z, if_true] at this
                exact this
              rw [z]
              exact ⟨fun y => absurd rfl y, fun _ => ⟨by omega, j_object hP hm (x := 5) (by decide) t2 fun u u1 => ⟨fun _ => hr' u u1, fun z => absurd rfl z⟩⟩⟩
            · have hr' : gc_T P d 0 0 112 52 [.ref 3, .ref L, .int (nI v), .int (nI k)] [.int (nI (v + 4 ^ g))] t Q := by
                have := hr
                simp only [z, if_false] at this
                exact this
              have hm4 : v / 4 ^ g % 4 < 4 := Nat.mod_lt _ (by decide)
              refine ⟨fun _ => ?_, fun y => absurd y (fun y => z ((nI_eq (by omega) (by decide)).mp y))⟩
              rw [st_lit 2, pk_mul, st_lit 1, st_shl (by omega) (by rw [Nat.one_mul, Nat.pow_mul]; exact Nat.lt_of_le_of_lt (Nat.pow_le_pow_right (by decide) (by omega : g ≤ 3)) (by decide)), Nat.one_mul, Nat.pow_mul, nI_add]
              exact hr'
        have goR : ∀ (res : sRes), (∀ (P : gc_Pr) (d : Nat) (s s0 : gc_St) (Q : gc_TQ) (l3 : Int32), gc_Cl P → gc_Mo P → 4 ≤ d → kj b n Tr lv W nl o s0 i s → jqR b n Tr lv W nl o s0 s res Q → (match sdQ nl b n i v with
            | .inl e => ∀ u, kF' s0 e.1 e.2 u → Q (some (.int (nI 0))) u
            | .inr v' => gc_T P d 0 0 199 164 [.ref 67, .int (nI v'), .int 1, .int l3] [] s Q)) → (∀ (P : gc_Pr) (d : Nat) (s s0 : gc_St) (Q : gc_TQ) (l3 : Value), gc_Cl P → gc_Mo P → 4 ≤ d → kj b n Tr lv W nl o s0 i s → jqR b n Tr lv W nl o s0 s res Q → gc_T P d 0 0 199 19 [.ref 67, .int (nI v), .int 1, l3] [] s Q) := by
          intro res hres P d s s0 Q l3 hP hm hd h hQ
          have h400 := kj_i h
          have hT := h.1.2.2.2
          obtain ⟨⟨⟨n1, n2, n2'⟩, _⟩, n3, n4, n5⟩ := h.2.2.2
          refine b_X11_tellSide_19 hP hm ⟨fun z => absurd z (by decide), fun _ => ⟨fun z => absurd h.2.2.1.1 z, fun _ => ⟨by omega, k_is hP hm h (fun _ => ⟨fun _ => ?_, fun z => absurd z (by decide)⟩) (fun e => absurd hk e)⟩⟩⟩
          refine b_X11_tellSide_43 hP hm ?_
          rw [h.2.2.1.2, h.1.2.2.1]
          refine ⟨fun z => absurd z (by decide), fun _ => ⟨fun _ => ?_, fun z => absurd ((nI_eq (b := 400) (by omega) (by decide)).mp z) (by omega)⟩⟩
          refine b_X11_tellSide_65 hP hm ?_
          rw [h.2.2.1.1, h.2.2.1.2, h.1.2.2.1, n2, nI_clamp (by omega), n4]
          refine ⟨fun _ => ⟨fun z => absurd z (by decide), fun _ => ⟨vp_in_nI n1 (by decide), by omega, sp_mfind hP hm n3 (fun e he => by have := (hnk e he).1; omega) (wdi_ok hlt (Or.inl hk)) (kd := 0) (by omega) (by decide) (nmR_at h.1 hT (Or.inl hk)) ?_⟩⟩, fun y => absurd (by decide) y⟩
          show gc_T P d 0 0 199 123 _ _ _ Q
          refine b_X11_tellSide_123 hP hm ?_
          have hr : ∀ l, match sdQ nl b n i v with
            | .inl e => ∀ u, kF' s0 e.1 e.2 u → Q (some (.int (nI 0))) u
            | .inr v' => gc_T P d 0 0 199 164 [.ref 67, .int (nI v'), .int 1, .int l] [] s Q := fun l => hres P d s s0 Q l hP hm hd h hQ
          rcases fd_cases hnk (wdi b n i) with ⟨e1, e2⟩ | ⟨g, e0, e1, e2⟩
          · unfold sdQ at hr
            rw [e1] at hr
            rw [e2]
            refine ⟨fun y => absurd rfl y, fun _ => ⟨by omega, b_X11_amiss_0 hP hm ?_⟩⟩
            rw [h.2.2.1.2]
            exact ⟨fun z => absurd z (by decide), fun _ => ⟨by omega, k_fail hP hm (x := 4) (by decide) h fun t t1 => b_X11_tellSide_164 hP hm ⟨fun z => absurd z (kF_n t1).2.1, fun _ => hr 0 t t1⟩⟩⟩
          · unfold sdQ at hr
            rw [e1] at hr
            rw [e2, st_lit 2, pk_mul, st_dig (by omega) e0]
            have hm4 : v / 4 ^ g % 4 < 4 := Nat.mod_lt _ (by decide)
            refine ⟨fun _ => ⟨fun z => ?_, fun z => ⟨by omega, b_X11_amiss_0 hP hm ?_⟩⟩, fun y => absurd y (nI_nm1 (by omega))⟩
            · have z' : ¬ v / 4 ^ g % 4 = 3 := fun y => z (by rw [y]; rfl)
              have hr' : ∀ l, gc_T P d 0 0 199 164 [.ref 67, .int (nI (v + 4 ^ g)), .int 1, .int l] [] s Q := by
                have := hr
                simp only [z', if_false] at this
                exact this
              rw [st_lit 1, st_shl (by omega) (by rw [Nat.one_mul, Nat.pow_mul]; exact Nat.lt_of_le_of_lt (Nat.pow_le_pow_right (by decide) (by omega : g ≤ 3)) (by decide)), Nat.one_mul, Nat.pow_mul, nI_add]
              exact hr' _
            · have z' : v / 4 ^ g % 4 = 3 := (nI_eq (by omega) (by decide)).mp z
              have hr' : ∀ u, kF' s0 5 (tk_st b n i) u → Q (some (.int (nI 0))) u := by
                have := hr 0
                simp only [z', if_true] at this
                exact this
              rw [h.2.2.1.2]
              exact ⟨fun z => absurd z (by decide), fun _ => ⟨by omega, k_fail hP hm (x := 5) (by decide) h fun t t1 => b_X11_tellSide_164 hP hm ⟨fun z => absurd z (kF_n t1).2.1, fun _ => hr' t t1⟩⟩⟩
        cases hq : sdQ nl b n i v with
        | inl e =>
          refine ⟨.inl e, fun e' he => absurd he (by simp), goC _ (fun P d s t s0 Q k hP hm hd h hki ht hQ => ?_), goR _ (fun P d s s0 Q l3 hP hm hd h hQ => ?_)⟩
          · rw [hq]
            intro u u1
            exact b_X8_side_52 hP hm (cl_io h.2.2.2.2.1.1) ⟨fun _ => hQ u u1, fun z => absurd rfl z⟩
          · rw [hq]
            exact fun u u1 => hQ u 0 u1 (by decide)
        | inr v' =>
          have hv' : v' < 4 ^ G := by
            unfold sdQ at hq
            cases hgd : gd nl (wdi b n i) with
            | none =>
              rw [hgd] at hq
              exact absurd hq (by simp)
            | some g =>
              rw [hgd] at hq
              have hgG := hg _ _ hgd
              by_cases z : v / 4 ^ g % 4 = 3
              · simp only [z, if_true] at hq
                exact absurd hq (by simp)
              · simp only [z, if_false] at hq
                have e : v + 4 ^ g = v' := by simpa using hq
                rw [← e]
                exact sd_add v (by omega) g (by omega) G (by omega) hgG hv z
          by_cases h8 : rk b n (i + 1) = 8
          · by_cases hi2 : i + 1 < 400
            · obtain ⟨res, p1, p2, p3⟩ := ih (i + 2) v' (by omega) hv'
              refine ⟨res, fun e he => ⟨by have := (p1 e he).1; omega, (p1 e he).2⟩, goC _ (fun P d s t s0 Q k hP hm hd h hki ht hQ => ?_), goR _ (fun P d s s0 Q l3 hP hm hd h hQ => ?_)⟩
              · rw [hq]
                refine b_X8_side_52 hP hm (cl_io h.2.2.2.2.1.1) ⟨fun z => absurd z (nI_nm1 (by omega)), fun _ => ⟨by omega, sp_kindAhead hP hm h.1 ⟨fun _ => ⟨by omega, j_take hP hm kk_plus h8 h (fun u _ u2 u3 _ => ⟨fun _ => ?_, fun z => absurd z (by decide)⟩) (fun u u1 => by omega)⟩, fun z => absurd ((kc_8 _).mpr h8) z⟩⟩⟩
                rw [nI_1]
                refine p2 P d u s0 Q (k + 1) hP hm hd u2 (by omega) ?_
                cases res with
                | inl e => exact hQ
                | inr e => exact fun w w1 w2 => hQ w w1 (fr_trans ht (fr_trans u3 w2))
              · rw [hq]
                refine b_X11_tellSide_164 hP hm ?_
                rw [h.2.2.1.1]
                refine ⟨fun _ => ⟨by omega, k_go hP hm (by omega) h (by rw [hk]; decide) (fun u _ u2 u3 => ⟨by omega, k_is hP hm u2 (fun _ => ⟨fun z => absurd z (by decide), fun _ => ⟨by omega, k_go hP hm (by omega) u2 (by rw [h8]; decide) (fun w _ w2 w3 => b_X11_tellSide_192 hP hm (p3 P d w s0 Q _ hP hm hd w2 ?_)) (fun w w1 => by omega)⟩⟩) (fun z => absurd h8 z)⟩) (fun u u1 => by omega)⟩, fun z => absurd (by decide) z⟩
                cases res with
                | inl e => exact hQ
                | inr e => exact fun y y1 y2 => hQ y y1 (fr_trans u3 (fr_trans w3 y2))
            · refine ⟨.inl (2, tk_st b n (i + 1)), fun e he => absurd he (by simp), goC _ (fun P d s t s0 Q k hP hm hd h hki ht hQ => ?_), goR _ (fun P d s s0 Q l3 hP hm hd h hQ => ?_)⟩
              · rw [hq]
                exact b_X8_side_52 hP hm (cl_io h.2.2.2.2.1.1) ⟨fun z => absurd z (nI_nm1 (by omega)), fun _ => ⟨by omega, sp_kindAhead hP hm h.1 ⟨fun _ => ⟨by omega, j_take hP hm kk_plus h8 h (fun u u1 => by omega) (fun u _ u2 => ⟨fun z => absurd rfl z, fun _ => hQ u u2⟩)⟩, fun z => absurd ((kc_8 _).mpr h8) z⟩⟩⟩
              · rw [hq]
                refine b_X11_tellSide_164 hP hm ?_
                rw [h.2.2.1.1]
                exact ⟨fun _ => ⟨by omega, k_go hP hm (by omega) h (by rw [hk]; decide) (fun u _ u2 u3 => ⟨by omega, k_is hP hm u2 (fun _ => ⟨fun z => absurd z (by decide), fun _ => ⟨by omega, k_go hP hm (by omega) u2 (by rw [h8]; decide) (fun w w1 => by omega) (fun w _ w2 => b_X11_tellSide_192 hP hm (b_X11_tellSide_19 hP hm ⟨fun z => absurd z (by decide), fun _ => ⟨fun _ => hQ w v' w2 (by omega), fun z => absurd z (kF_n w2).1⟩⟩))⟩⟩) (fun z => absurd h8 z)⟩) (fun u u1 => by omega)⟩, fun z => absurd (by decide) z⟩
          · refine ⟨.inr (i + 1, v'), fun e he => ?_, goC _ (fun P d s t s0 Q k hP hm hd h hki ht hQ => ?_), goR _ (fun P d s s0 Q l3 hP hm hd h hQ => ?_)⟩
            · have e' : (i + 1, v') = e := by simpa using he
              rw [← e']
              exact ⟨Nat.lt_succ_self _, hv'⟩
            · rw [hq]
              exact b_X8_side_52 hP hm (cl_io h.2.2.2.2.1.1) ⟨fun z => absurd z (nI_nm1 (by omega)), fun _ => ⟨by omega, sp_kindAhead hP hm h.1 ⟨fun z => absurd ((kc_8 _).mp z) h8, fun _ => hQ t h ht⟩⟩⟩
            · rw [hq]
              refine b_X11_tellSide_164 hP hm ?_
              rw [h.2.2.1.1]
              exact ⟨fun _ => ⟨by omega, k_go hP hm (by omega) h (by rw [hk]; decide) (fun u _ u2 u3 => ⟨by omega, k_is hP hm u2 (fun z => absurd z h8) (fun _ => ⟨fun _ => b_X11_tellSide_192 hP hm (b_X11_tellSide_19 hP hm ⟨fun _ => hQ u u2 u3, fun z => absurd rfl z⟩), fun z => absurd rfl z⟩)⟩) (fun u u1 => by omega)⟩, fun z => absurd (by decide) z⟩
      · refine ⟨.inl (2, tk_st b n i), fun e he => absurd he (by simp), fun P d s s0 Q k hP hm hd h hki hQ => ?_, fun P d s s0 Q l3 hP hm hd h hQ => ?_⟩
        · have h400 := jc_i h
          have io := cl_io h.2.2.2.2.1.1
          refine b_X8_side_27 hP hm io (pk_lt 400 k (fun z => by omega) (fun _ => ⟨by omega, j_accept hP hm (by omega) kk_name h (fun t t1 => absurd (sT_0 t1).2 hi) (fun t x p t1 t2 => ⟨fun _ => b_X8_side_52 hP hm io ⟨fun _ => ?_, fun z => absurd rfl z⟩, fun z => absurd rfl z⟩)⟩))
          rw [(eqz (sT_2 hk (by omega)) t1).1, (eqz (sT_2 hk (by omega)) t1).2] at t2
          exact hQ t t2
        · have h400 := kj_i h
          refine b_X11_tellSide_19 hP hm ⟨fun z => absurd z (by decide), fun _ => ⟨fun z => absurd h.2.2.1.1 z, fun _ => ⟨by omega, k_is hP hm h (fun _ => ⟨fun _ => ?_, fun z => absurd z (by decide)⟩) (fun e => absurd hk e)⟩⟩⟩
          refine b_X11_tellSide_43 hP hm ?_
          rw [h.2.2.1.2, h.1.2.2.1, show i = 400 by omega]
          refine ⟨fun z => absurd z (by decide), fun _ => ⟨fun z => absurd rfl z, fun _ => ⟨by omega, k_fail hP hm (x := 2) (by decide) h fun t t1 => b_X11_tellSide_65 hP hm ⟨fun z => absurd z (kF_n t1).2.1, fun _ => hQ t 0 t1 (by decide)⟩⟩⟩⟩
    · refine ⟨.inl (1, tk_st b n i), fun e he => absurd he (by simp), fun P d s s0 Q k hP hm hd h hki hQ => ?_, fun P d s s0 Q l3 hP hm hd h hQ => ?_⟩
      · have h400 := jc_i h
        have io := cl_io h.2.2.2.2.1.1
        refine b_X8_side_27 hP hm io (pk_lt 400 k (fun z => by omega) (fun _ => ⟨by omega, j_accept hP hm (by omega) kk_name h (fun t t1 => absurd (sT_0 t1).1 hk) (fun t x p t1 t2 => ⟨fun _ => b_X8_side_52 hP hm io ⟨fun _ => ?_, fun z => absurd rfl z⟩, fun z => absurd rfl z⟩)⟩))
        rw [(eqz (sT_1 hk) t1).1, (eqz (sT_1 hk) t1).2] at t2
        exact hQ t t2
      · have h400 := kj_i h
        refine b_X11_tellSide_19 hP hm ⟨fun z => absurd z (by decide), fun _ => ⟨fun z => absurd h.2.2.1.1 z, fun _ => ⟨by omega, k_is hP hm h (fun e => absurd e hk) (fun _ => ⟨fun z => absurd rfl z, fun _ => ⟨by omega, k_fail hP hm (x := 1) (by decide) h fun t t1 => ?_⟩⟩)⟩⟩⟩
        have go : gc_T P d 0 0 199 65 [.ref 67, .int (nI v), .int 1, l3] [] t Q := b_X11_tellSide_65 hP hm ⟨fun z => absurd z (kF_n t1).2.1, fun _ => hQ t 0 t1 (by decide)⟩
        exact b_X11_tellSide_43 hP hm ⟨fun _ => go, fun _ => ⟨fun _ => go, fun _ => ⟨by omega, sp_mfailF hP hm (kF_n t1).2.1 go⟩⟩⟩
theorem j_side (hlt : ∀ j, b j < 256) (hnd : ndN nl) (hnk : nok nl) (hG4 : G ≤ 4) (hg : ∀ w g, gd nl w = some g → g < G) (i : Nat) : ∃ res : sRes, (∀ e, res = .inr e → i < e.1 ∧ e.2 < 4 ^ G) ∧ (∀ (P : gc_Pr) (d : Nat) (s s0 : gc_St) (Q : gc_TQ), gc_Cl P → gc_Mo P → 2 ≤ d → jc b n Tc L W nl s0 i s → jqC b n Tc L W nl s0 s res Q → gc_T P d 0 0 112 0 [.ref 3, .ref L, gc_u, gc_u] [] s Q) ∧ (∀ (P : gc_Pr) (d : Nat) (s s0 : gc_St) (Q : gc_TQ), gc_Cl P → gc_Mo P → 4 ≤ d → kj b n Tr lv W nl o s0 i s → jqR b n Tr lv W nl o s0 s res Q → gc_T P d 0 0 199 0 [.ref 67, gc_u, gc_u, gc_u] [] s Q) := by
  by_cases hk : rk b n i = 26
  · by_cases hi : i < 400
    · refine ⟨.inr (i + 1, 0), fun e he => ?_, fun P d s s0 Q hP hm hd h hQ => ?_, fun P d s s0 Q hP hm hd h hQ => ?_⟩
      · have e' : (i + 1, 0) = e := by simpa using he
        rw [← e']
        exact ⟨Nat.lt_succ_self _, Nat.pow_pos (by decide)⟩
      · exact b_X8_side_0 hP hm (cl_io h.2.2.2.2.1.1) ⟨by omega, sp_kindAhead hP hm h.1 ⟨fun z => absurd ((kc_26 _).mpr hk) z, fun _ => ⟨by omega, j_take hP hm kk_nothing hk h (fun t _ t2 t3 _ => ⟨fun z => absurd z (by decide), fun _ => hQ t t2 t3⟩) (fun t t1 => by omega)⟩⟩⟩
      · exact b_X11_tellSide_0 hP hm ⟨by omega, k_is hP hm h (fun _ => ⟨fun z => absurd z (by decide), fun _ => ⟨by omega, k_go hP hm (by omega) h (by rw [hk]; decide) (fun u _ u2 u3 => hQ u u2 u3) (fun u u1 => by omega)⟩⟩) (fun z => absurd hk z)⟩
    · refine ⟨.inl (2, tk_st b n i), fun e he => absurd he (by simp), fun P d s s0 Q hP hm hd h hQ => ?_, fun P d s s0 Q hP hm hd h hQ => ?_⟩
      · exact b_X8_side_0 hP hm (cl_io h.2.2.2.2.1.1) ⟨by omega, sp_kindAhead hP hm h.1 ⟨fun z => absurd ((kc_26 _).mpr hk) z, fun _ => ⟨by omega, j_take hP hm kk_nothing hk h (fun t t1 => absurd t1 hi) (fun t _ t2 => ⟨fun _ => hQ t t2, fun z => absurd rfl z⟩)⟩⟩⟩
      · exact b_X11_tellSide_0 hP hm ⟨by omega, k_is hP hm h (fun _ => ⟨fun z => absurd z (by decide), fun _ => ⟨by omega, k_go hP hm (by omega) h (by rw [hk]; decide) (fun u u1 => absurd u1 hi) (fun u _ u2 => hQ u 0 u2 (by decide))⟩⟩) (fun z => absurd hk z)⟩
  · obtain ⟨res, p1, p2, p3⟩ := js_loop (Tc := Tc) (Tr := Tr) (L := L) (lv := lv) (o := o) (W := W) hlt hnd hnk hG4 hg 401 i 0 (by omega) (Nat.pow_pos (by decide))
    refine ⟨res, p1, fun P d s s0 Q hP hm hd h hQ => ?_, fun P d s s0 Q hP hm hd h hQ => ?_⟩
    · exact b_X8_side_0 hP hm (cl_io h.2.2.2.2.1.1) ⟨by omega, sp_kindAhead hP hm h.1 ⟨fun _ => p2 P d s s0 Q 0 hP hm hd h (Nat.zero_le _) hQ, fun z => absurd ((kc_26 _).mp z) hk⟩⟩
    · exact b_X11_tellSide_0 hP hm ⟨by omega, k_is hP hm h (fun z => absurd z hk) (fun _ => ⟨fun _ => p3 P d s s0 Q _ hP hm hd h hQ, fun z => absurd rfl z⟩)⟩
end Js
