/-! Counting rows that have not come yet; one row; all rows below a place; the least depth. -/
theorem beq_f {k i : Nat} (h : k ≠ i) : Nat.beq k i = false := by
  cases e : Nat.beq k i with
  | false => rfl
  | true => exact absurd (Nat.eq_of_beq_eq_true e) h
def kF (f : Nat → Bool) : Nat → Nat → Nat
  | _, 0 => 0
  | j, m + 1 => (if f j = true then 1 else 0) + kF f (j + 1) m
theorem kF_S (f : Nat → Bool) (j m : Nat) : kF f j (m + 1) = (if f j = true then 1 else 0) + kF f (j + 1) m := rfl
theorem kF_add {f : Nat → Bool} : ∀ m1 m2 j, kF f j (m1 + m2) = kF f j m1 + kF f (j + m1) m2
  | 0, m2, j => by
    rw [Nat.zero_add, Nat.add_zero]
    exact (Nat.zero_add _).symm
  | m1 + 1, m2, j => by
    rw [show m1 + 1 + m2 = (m1 + m2) + 1 by omega, kF_S, kF_S, kF_add m1 m2 (j + 1), show j + 1 + m1 = j + (m1 + 1) by omega, Nat.add_assoc]
theorem kF_zero {f : Nat → Bool} : ∀ m j, (∀ i, j ≤ i → i < j + m → f i = false) → kF f j m = 0
  | 0, _, _ => rfl
  | m + 1, j, h => by
    rw [kF_S, kF_zero m (j + 1) (fun i h1 h2 => h i (by omega) (by omega)), if_neg (by rw [h j (by omega) (by omega)]; decide)]
theorem kF_congr {f g : Nat → Bool} : ∀ m j, (∀ i, j ≤ i → i < j + m → f i = g i) → kF f j m = kF g j m
  | 0, _, _ => rfl
  | m + 1, j, h => by
    rw [kF_S, kF_S, kF_congr m (j + 1) (fun i h1 h2 => h i (by omega) (by omega)), h j (by omega) (by omega)]
theorem kF_le {f : Nat → Bool} : ∀ m j, kF f j m ≤ m
  | 0, _ => Nat.le_refl _
  | m + 1, j => by
    have := kF_le (f := f) m (j + 1)
    rw [kF_S]
    split <;> omega
theorem kF_one {f g : Nat → Bool} {i : Nat} (hi : f i = true) (hg : g i = false) (hne : ∀ k, k ≠ i → g k = f k) : ∀ m j, j ≤ i → i < j + m → kF f j m = kF g j m + 1
  | 0, j, h1, h2 => by omega
  | m + 1, j, h1, h2 => by
    rw [kF_S, kF_S]
    by_cases e : j = i
    · subst e
      rw [if_pos hi, if_neg (by rw [hg]; decide), kF_congr m (j + 1) (fun k h3 _ => (hne k (by omega)).symm)]
      omega
    · rw [hne j e, kF_one hi hg hne m (j + 1) (by omega) (by omega)]
      omega
theorem kF_two {f g h : Nat → Bool} : ∀ m j, (∀ i, j ≤ i → i < j + m → (f i = true ↔ g i = true ∨ h i = true) ∧ ¬ (g i = true ∧ h i = true)) → kF f j m = kF g j m + kF h j m
  | 0, _, _ => rfl
  | m + 1, j, hh => by
    have ih := kF_two (f := f) (g := g) (h := h) m (j + 1) (fun i h1 h2 => hh i (by omega) (by omega))
    obtain ⟨h1, h2⟩ := hh j (by omega) (by omega)
    rw [kF_S, kF_S, kF_S, ih]
    by_cases eg : g j = true
    · have eh : ¬ h j = true := fun z => h2 ⟨eg, z⟩
      rw [if_pos (h1.mpr (Or.inl eg)), if_pos eg, if_neg eh]
      omega
    · by_cases eh : h j = true
      · rw [if_pos (h1.mpr (Or.inr eh)), if_neg eg, if_pos eh]
        omega
      · rw [if_neg (fun z => (h1.mp z).elim eg eh), if_neg eg, if_neg eh]
        omega
/-- rows that come later lie apart -/
def rw_ok (s : gc_St) : Prop := ((gc_be s = 46 ∨ 116 ≤ gc_be s) ∧ gc_be s < 116 + gc_n s) ∧ (∀ i a, i < 1536 → gc_Y s i = some a → 116 ≤ a ∧ a < 116 + gc_n s ∧ gc_D s a = 256 ∧ a ≠ gc_be s) ∧ (∀ i j a, i < 1536 → j < 1536 → gc_Y s i = some a → gc_Y s j = some a → i = j)
/-- the rows of depths: those of this law are right, with all below -/
def cl_rows (W : ld_W) (v : Nat) (s : gc_St) : Prop :=
  gc_F s 10 1 = nI v ∧ (∀ i, i < 1536 → ∃ u, u ≤ v ∧ gc_I s 24 i = nI u) ∧ rw_ok s ∧
  ∀ o p b, o < 8 → p < ld_p W → b < 8 → gc_I s 24 (cl_num o p b) = nI v → (∃ a', gc_Y s (cl_num o p b) = some a' ∧ ∀ st, st < ld_N W → gc_I s a' st = nI (dp_D W o p st b)) ∧ ∀ q c, ld_lo W p ≤ q → q ≤ p → c < 8 → sb_in c b = true → gc_I s 24 (cl_num o q c) = nI v
/-- what making rows may have changed: those of S are there then -/
def pf (S : Nat → Bool) (s t : gc_St) : Prop :=
  gc_F t = gc_F s ∧ gc_J t = gc_J s ∧ (∀ a, a < 116 → a ≠ 24 → gc_I t a = gc_I s a) ∧ gc_I t (gc_be s) = gc_I s (gc_be s) ∧
  (gc_ln t = gc_ln s ∧ gc_lw t = gc_lw s ∧ gc_dr t = gc_dr s ∧ gc_rl t = gc_rl s ∧ gc_be t = gc_be s) ∧
  (gc_n s ≤ gc_n t ∧ ∀ a, a < 116 + gc_n s → gc_D t a = gc_D s a) ∧
  (∀ i, i < 1536 → S i = false → gc_I t 24 i = gc_I s 24 i) ∧
  (∀ i, i < 1536 → (gc_Y t i).isNone = ((gc_Y s i).isNone && !S i)) ∧
  gc_n t + kF (fun i => (gc_Y t i).isNone) 0 1536 = gc_n s + kF (fun i => (gc_Y s i).isNone) 0 1536
theorem pf_trans {S1 S2 S : Nat → Bool} {s t u : gc_St} (h : pf S1 s t) (g : pf S2 t u) (hS : ∀ i, i < 1536 → S i = (S1 i || S2 i)) : pf S s u := by
  obtain ⟨h1, h2, h3, h4, ⟨h5, h6, h7, h8, h9⟩, ⟨h10, h11⟩, h12, h13, h14⟩ := h
  obtain ⟨g1, g2, g3, g4, ⟨g5, g6, g7, g8, g9⟩, ⟨g10, g11⟩, g12, g13, g14⟩ := g
  refine ⟨g1.trans h1, g2.trans h2, fun a ha hb => (g3 a ha hb).trans (h3 a ha hb), ?_, ⟨g5.trans h5, g6.trans h6, g7.trans h7, g8.trans h8, g9.trans h9⟩, ⟨by omega, fun a ha => (g11 a (by omega)).trans (h11 a ha)⟩, fun i hi e => ?_, fun i hi => ?_, g14.trans h14⟩
  · rw [h9] at g4
    exact g4.trans h4
  · rw [hS i hi, Bool.or_eq_false_iff] at e
    exact (g12 i hi e.2).trans (h12 i hi e.1)
  · rw [g13 i hi, h13 i hi, hS i hi]
    cases (gc_Y s i).isNone <;> cases S1 i <;> cases S2 i <;> rfl
theorem pf_gk {S : Nat → Bool} {s t : gc_St} (h : pf S s t) {a : Nat} (ha : a < 116 + gc_n s) : gc_gk t a = gc_gk s a := by
  obtain ⟨h1, h2, h3, h4, h5, ⟨h10, h11⟩, h12⟩ := h
  unfold gc_gk
  cases e : Nat.ble 116 a with
  | false => rfl
  | true =>
    have e1 : Nat.blt a (116 + gc_n t) = true := Nat.ble_eq_true_of_le (show a + 1 ≤ _ by omega)
    have e2 : Nat.blt a (116 + gc_n s) = true := Nat.ble_eq_true_of_le (show a + 1 ≤ _ by omega)
    rw [e1, e2, h11 a ha]
theorem gk_row {s : gc_St} {a : Nat} (h1 : 116 ≤ a) (h2 : a < 116 + gc_n s) (h3 : gc_D s a = 256) : gc_gk s a = (0, 256) := by
  unfold gc_gk
  rw [Nat.ble_eq_true_of_le h1, show Nat.blt a (116 + gc_n s) = true from Nat.ble_eq_true_of_le (show a + 1 ≤ _ by omega), h3]
theorem cl_rS24 {L : Nat} (h : cl_L L) (j : Nat) : gc_rS L j ≠ 24 := by
  rcases Nat.lt_or_ge j 19 with e | e
  · have h1 : ∀ j, j < 19 → gc_rS 11 j ≠ 24 ∧ gc_rS 54 j ≠ 24 := by decide
    rcases h with rfl | rfl
    · exact (h1 j e).1
    · exact (h1 j e).2
  · have : gc_rS L j = 0 := by
      unfold gc_rS
      rw [List.getD_eq_getElem?_getD, List.getElem?_eq_none]
      · rfl
      · rcases h with rfl | rfl
        · exact e
        · exact e
    omega
theorem cl_C_of {W : ld_W} {L : Nat} {s t : gc_St} (h : cl_C W L s) (hlw : gc_lw t = gc_lw s) (hF : gc_F t L = gc_F s L) (hI : ∀ a, a ≤ 66 → a ≠ 24 → gc_I t a = gc_I s a) : cl_C W L t := by
  refine ⟨h.1, hlw.trans h.2.1, cl_law_of hF (fun j => hI _ (cl_rS_lt h.1 j) (cl_rS24 h.1 j)) h.2.2.1, h.2.2.2.1, fun k hk st hst => ?_⟩
  rw [hI 27 (by decide) (by decide)]
  exact h.2.2.2.2 k hk st hst
theorem cl_C_pf {W : ld_W} {L : Nat} {S : Nat → Bool} {s t : gc_St} (h : cl_C W L s) (g : pf S s t) : cl_C W L t :=
  cl_C_of h g.2.2.2.2.1.2.1 (congrFun g.1 L) (fun a h1 h2 => g.2.2.1 a (by omega) h2)
theorem cl_num_inj {o p b o' p' b' : Nat} (hp : p < 24) (hb : b < 8) (hp' : p' < 24) (hb' : b' < 8) (h : cl_num o p b = cl_num o' p' b') : o = o' ∧ p = p' ∧ b = b' := by
  unfold cl_num at h
  omega
section Fr
variable {P : gc_Pr} {d : Nat} {s : gc_St} {Q : gc_TQ} {W : ld_W} {L v o p b : Nat}
theorem cl_val_of (hR : cl_rows W v s) {a1 i : Nat} (hi : i < 1536) (hY : gc_Y s i = some a1) (ho : o < 8) (hp : p < ld_p W) (hp24 : p < 24) (hb : b < 8) (hne : cl_num o p b ≠ i) (hv : gc_I s 24 (cl_num o p b) = nI v) : cl_val W s a1 o p b := by
  obtain ⟨⟨a', h1, h2⟩, _⟩ := hR.2.2.2 o p b ho hp hb hv
  have hlt := cl_num_lt ho hp24 hb
  obtain ⟨g1, g2, g3, g4⟩ := hR.2.2.1.2.1 _ _ hlt h1
  refine ⟨a', hv.trans hR.1.symm, h1, fun e => ?_, gk_row g1 g2 g3, h2⟩
  rw [e] at h1
  exact hne (hR.2.2.1.2.2 _ _ _ hlt hi h1 hY)
theorem sp_fillRow45 (hP : gc_Cl P) (hm : gc_Mo P) (hd : 5 ≤ d) {ks : Nat} (hC : cl_C W L s) (hR : cl_rows W v s) (ho : o < 8) (hp : p < ld_p W) (hb : b < 8) {a1 : Nat} (hY : gc_Y s (cl_num o p b) = some a1)
    (hbel : ∀ q c, ld_lo W p ≤ q → q ≤ p → c < 8 → sb_in c b = true → (q < p ∨ c ≠ b) → gc_I s 24 (cl_num o q c) = nI v)
    (h : ∀ t, cl_rows W v t → gc_I t 24 (cl_num o p b) = nI v → pf (fun k => Nat.beq k (cl_num o p b)) s t → Q none t) :
    gc_T P d 0 ks 8 45 [.ref 10, .int (nI o), .int (nI p), .int (nI b), .int (nI (cl_num o p b)), gc_u] [] s Q := by
  have hok := hC.2.2.2.1
  have hp24 := hok.1.2.2.2.2
  have hb3 := hok.1.2.2.1
  have hi := cl_num_lt ho (show p < 24 by omega) hb
  obtain ⟨g1, g2, g3, g4⟩ := hR.2.2.1.2.1 _ _ hi hY
  have hg := gk_row g1 g2 g3
  have hvl : ∀ q c, ld_lo W p ≤ q → q ≤ p → c < 8 → sb_in c b = true → (q < p ∨ c ≠ b) → cl_val W s a1 o q c := by
    intro q c z1 z2 z3 z4 z5
    refine cl_val_of hR hi hY ho (by omega) (by omega) z3 (fun e => ?_) (hbel q c z1 z2 z3 z4 z5)
    obtain ⟨_, y1, y2⟩ := cl_num_inj (by omega) z3 (by omega) hb e
    omega
  have hlo := ld_lo_le hok p hp
  refine b_X0_fillRow_45 hP hm ⟨vp_in_nI hi (by omega), Or.inl ⟨a1, by rw [nI_clamp (by omega)]; exact hY, by omega, ?_⟩⟩
  rw [nI_clamp (by omega)]
  have fin : ∀ r, (∀ st, st < ld_N W → r st = dp_D W o p st b) → Q none (gc_wI (rs_w s a1 r) 24 (cl_num o p b) (gc_F (rs_w s a1 r) 10 1)) := by
    intro r hr
    have eF : gc_F (rs_w s a1 r) 10 1 = nI v := hR.1
    rw [eF]
    have e24 : ∀ k, gc_I (gc_wI (rs_w s a1 r) 24 (cl_num o p b) (nI v)) 24 k = if k = cl_num o p b then nI v else gc_I s 24 k := by
      intro k
      rw [rw_I_wI, if_pos rfl, rs_In s _ (by omega)]
    have eR : ∀ a, a ≠ 24 → a ≠ a1 → gc_I (gc_wI (rs_w s a1 r) 24 (cl_num o p b) (nI v)) a = gc_I s a := by
      intro a z1 z2
      rw [I_na _ _ z1, rs_In s _ z2]
    have eA : ∀ st, gc_I (gc_wI (rs_w s a1 r) 24 (cl_num o p b) (nI v)) a1 st = nI (r st) := by
      intro st
      rw [I_na _ _ (by omega), rs_I]
    refine h _ ⟨hR.1, fun k hk => ?_, hR.2.2.1, fun o' p' b' ho' hp' hb' hv' => ?_⟩ ?_ ⟨rfl, rfl, fun a z1 z2 => eR a z2 (by omega), ?_, ⟨rfl, rfl, rfl, rfl, rfl⟩, ⟨Nat.le_refl _, fun _ _ => rfl⟩, fun k hk hS => ?_, fun k hk => ?_, rfl⟩
    · rw [e24]
      by_cases z : k = cl_num o p b
      · rw [if_pos z]
        exact ⟨v, Nat.le_refl _, rfl⟩
      · rw [if_neg z]
        exact hR.2.1 k hk
    · rw [e24] at hv'
      by_cases z : cl_num o' p' b' = cl_num o p b
      · obtain ⟨rfl, rfl, rfl⟩ := cl_num_inj (by omega) hb' (by omega) hb z
        refine ⟨⟨a1, hY, fun st hst => by rw [eA, hr st hst]⟩, fun q c z1 z2 z3 z4 => ?_⟩
        rw [e24]
        by_cases z5 : cl_num o' q c = cl_num o' p' b'
        · rw [if_pos z5]
        · rw [if_neg z5]
          refine hbel q c z1 z2 z3 z4 ?_
          by_cases z6 : q = p'
          · refine Or.inr fun z7 => z5 (by rw [z6, z7])
          · exact Or.inl (by omega)
      · rw [if_neg z] at hv'
        obtain ⟨⟨a', y1, y2⟩, y3⟩ := hR.2.2.2 o' p' b' ho' hp' hb' hv'
        have hi' := cl_num_lt ho' (show p' < 24 by omega) hb'
        refine ⟨⟨a', y1, fun st hst => ?_⟩, fun q c z1 z2 z3 z4 => ?_⟩
        · have hne : a' ≠ a1 := fun e => by
            rw [e] at y1
            exact z (hR.2.2.1.2.2 _ _ _ hi' hi y1 hY)
          have h116 := (hR.2.2.1.2.1 _ _ hi' y1).1
          rw [eR a' (by omega) hne]
          exact y2 st hst
        · rw [e24]
          split
          · rfl
          · exact y3 q c z1 z2 z3 z4
    · rw [e24, if_pos rfl]
    · have hbe := hR.2.2.1.1
      exact eR _ (by omega) (fun e => g4 e.symm)
    · rw [e24, if_neg]
      intro e
      have hS : Nat.beq k (cl_num o p b) = false := hS
      rw [e, Nat.beq_refl] at hS
      exact absurd hS (by decide)
    · show (gc_Y s k).isNone = ((gc_Y s k).isNone && !Nat.beq k (cl_num o p b))
      by_cases z : k = cl_num o p b
      · rw [z, hY]
        rfl
      · rw [beq_f z]
        cases (gc_Y s k).isNone <;> rfl
  rw [rs_any s a1]
  refine sp_fill hP hm (n := 256) (v := 0) hg (by decide) ⟨by omega, ?_⟩
  refine sp_byOwnKind hP hm (by omega) hC (by omega) hg ho hp hb (fun q c z1 z2 z3 z4 => hvl q c z1 (by omega) z3 z4 (Or.inl z2)) (fun st hst => by show (if st < 256 then 0 else _) = 0; rw [if_pos hst]) fun r1 hr1 => ⟨by omega, ?_⟩
  refine sp_byBargains hP hm (by omega) hC (by omega) hg ho hp hb (fun j hj hbit => ?_) hr1.2.2 ⟨by omega, ?_⟩
  · have := sb_bit b hb j (by omega) hbit
    exact hvl p _ hlo (Nat.le_refl _) (Nat.lt_of_le_of_lt (Nat.sub_le _ _) hb) this.2.1 (Or.inr this.2.2)
  · exact sp_byOaths hP hm (by omega) hC (by omega) hg ho hp hb (ow_ro hok hp hb hr1) fun r2 hr2 => ⟨vp_in_nI hi (by omega), rfl, fin r2 hr2⟩
/-- a row comes -/
theorem cl_rows_new (hp24 : ld_p W ≤ 24) (hR : cl_rows W v s) {i : Nat} (hi : i < 1536) (hY : gc_Y s i = none) : cl_rows W v (gc_wY (gc_nwI s 256) i (116 + gc_n s)) ∧ pf (fun k => Nat.beq k i) s (gc_wY (gc_nwI s 256) i (116 + gc_n s)) ∧ gc_Y (gc_wY (gc_nwI s 256) i (116 + gc_n s)) i = some (116 + gc_n s) := by
  have eI : ∀ a, a < 116 + gc_n s → gc_I (gc_wY (gc_nwI s 256) i (116 + gc_n s)) a = gc_I s a := by
    intro a ha
    funext j
    show gc_I (gc_nwI s 256) a j = _
    rw [rw_I_nwI, if_neg (by omega)]
  have eY : ∀ k, gc_Y (gc_wY (gc_nwI s 256) i (116 + gc_n s)) k = if k = i then some (116 + gc_n s) else gc_Y s k := by
    intro k
    show va_up (gc_Y s) i (some (116 + gc_n s)) k = _
    unfold va_up
    rfl
  have eD : ∀ a, gc_D (gc_wY (gc_nwI s 256) i (116 + gc_n s)) a = if a = 116 + gc_n s then 256 else gc_D s a := by
    intro a
    show va_up (gc_D s) (116 + gc_n s) 256 a = _
    unfold va_up
    rfl
  have en : gc_n (gc_wY (gc_nwI s 256) i (116 + gc_n s)) = gc_n s + 1 := rfl
  have ebe : gc_be (gc_wY (gc_nwI s 256) i (116 + gc_n s)) = gc_be s := rfl
  obtain ⟨r1, r2, ⟨⟨r3, r4⟩, r5, r6⟩, r7⟩ := hR
  refine ⟨⟨r1, fun k hk => ?_, ⟨⟨r3, by rw [ebe, en]; omega⟩, fun k a hk e => ?_, fun k j a hk hj e1 e2 => ?_⟩, fun o p b ho hp hb hv => ?_⟩, ⟨rfl, rfl, fun a z1 z2 => eI a (by omega), eI _ r4, ⟨rfl, rfl, rfl, rfl, rfl⟩, ⟨by rw [en]; omega, fun a ha => by rw [eD, if_neg (by omega)]⟩, fun k hk _ => by rw [eI 24 (by omega)], fun k hk => ?_, ?_⟩, ?_⟩
  · rw [eI 24 (by omega)]
    exact r2 k hk
  · rw [en, ebe, eD]
    rw [eY] at e
    by_cases z : k = i
    · rw [if_pos z] at e
      simp only [Option.some.injEq] at e
      rw [if_pos e.symm]
      exact ⟨by omega, by omega, rfl, by omega⟩
    · rw [if_neg z] at e
      have := r5 k a hk e
      rw [if_neg (by omega)]
      exact ⟨this.1, by omega, this.2.2⟩
  · rw [eY] at e1 e2
    by_cases z : k = i
    · rw [if_pos z] at e1
      by_cases y : j = i
      · omega
      · rw [if_neg y] at e2
        simp only [Option.some.injEq] at e1
        have := r5 j a hj e2
        omega
    · rw [if_neg z] at e1
      by_cases y : j = i
      · rw [if_pos y] at e2
        simp only [Option.some.injEq] at e2
        have := r5 k a hk e1
        omega
      · rw [if_neg y] at e2
        exact r6 k j a hk hj e1 e2
  · rw [eI 24 (by omega)] at hv ⊢
    obtain ⟨⟨a', y1, y2⟩, y3⟩ := r7 o p b ho hp hb hv
    refine ⟨⟨a', ?_, fun st hst => ?_⟩, y3⟩
    · rw [eY, if_neg]
      · exact y1
      · intro e
        rw [e, hY] at y1
        exact absurd y1 (by simp)
    · rw [eI a' (r5 _ _ (cl_num_lt ho (by omega) hb) y1).2.1]
      exact y2 st hst
  · show _ = ((gc_Y s k).isNone && !Nat.beq k i)
    rw [eY]
    by_cases z : k = i
    · rw [if_pos z, z, hY, Nat.beq_refl]
      rfl
    · rw [if_neg z, beq_f z]
      cases (gc_Y s k).isNone <;> rfl
  · rw [en, kF_one (f := fun k => (gc_Y s k).isNone) (g := fun k => (gc_Y (gc_wY (gc_nwI s 256) i (116 + gc_n s)) k).isNone) (i := i) (by show (gc_Y s i).isNone = true; rw [hY]; rfl) (by show (gc_Y _ i).isNone = false; rw [eY, if_pos rfl]; rfl) (fun k hk => by show (gc_Y _ k).isNone = (gc_Y s k).isNone; rw [eY, if_neg hk]) 1536 0 (by omega) (by omega)]
    omega
  · rw [eY, if_pos rfl]
end Fr
