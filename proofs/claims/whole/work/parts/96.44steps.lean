/-! judge: the word of a step; rows of OATHS; places that are open. -/
def stN (w : List Nat) : Option Nat := (List.range 10).find? (fun k => wL.getD (10 + k) [] == w)
theorem wL_ok : ∀ j, j < 20 → wok (wL.getD j []) := by
  intro j hj
  have h := wl_ok j hj
  refine ⟨Nat.le_trans h.1 (by decide), fun t ht => ?_⟩
  have := h.2 t ht
  rw [Nat.zero_add] at this
  exact this
theorem w32_eq (j : Nat) : w32 j = wnum 32 (wL.getD j []) := rfl
theorem w27_eq (j : Nat) : w27 j = wnum 27 (wL.getD j []) := rfl
theorem tk_kw_at {kw : Nat → Nat} {x k : Nat} (hk : k < 10) : ∀ m, m ≤ 10 → tk_kw kw x 1 m = nI (20 + k) → kw k = x := by
  intro m
  induction m with
  | zero =>
    intro _ h
    have h' : (1 : Int32) = nI (20 + k) := h
    have key : ∀ k, k < 10 → (1 : Int32) ≠ nI (20 + k) := by decide
    exact absurd h' (key k hk)
  | succ m ih =>
    intro hm h
    unfold tk_kw at h
    split at h
    · rename_i e
      have := (nI_eq (by omega) (by omega)).mp h
      rw [← show m = k by omega]
      exact e
    · exact ih (by omega) h
theorem tk_kw_no1 {kw : Nat → Nat} {x : Nat} : ∀ m, m ≤ 10 → tk_kw kw x 1 m = 1 → ∀ k, k < m → kw k ≠ x := by
  intro m
  induction m with
  | zero =>
    intro _ _ k hk
    omega
  | succ m ih =>
    intro hm h k hk
    unfold tk_kw at h
    split at h
    · have key : ∀ k, k < 10 → nI (20 + k) ≠ 1 := by decide
      exact absurd h (key m (by omega))
    · rename_i e
      by_cases z : k = m
      · rw [z]
        exact e
      · exact ih (by omega) h k (by omega)
section Sw2
variable {b : Nat → Nat} {n i : Nat}
theorem rk_kw (hlt : ∀ j, b j < 256) (h : rk b n i = 27 ∨ rk b n i = 29) : (rk b n i = 27 → wdi b n i = wL.getD 8 []) ∧ (rk b n i = 29 → wdi b n i = wL.getD 9 []) := by
  have hw := wdi_ok hlt (b := b) (n := n) (i := i) (Or.inr h)
  obtain ⟨h1, h2, h3⟩ := rk_let (b := b) (n := n) (i := i) (Or.inr h)
  have hkd : rk b n i = (if tk_eL b n (tk_st b n i) - tk_st b n i ≤ 7 then tk_kw k27 (wnum 27 (wdi b n i)) 1 10 else 1) := by
    unfold rk tk_kd wdi
    rw [wnum_wrd, if_neg (by omega), if_pos h2, Nat.min_eq_left h3]
    split
    · rfl
    · rfl
  have h7 : tk_eL b n (tk_st b n i) - tk_st b n i ≤ 7 := by
    refine Decidable.byContradiction fun z => ?_
    rw [if_neg z] at hkd
    rcases h with e | e <;> rw [hkd] at e <;> exact absurd e (by decide)
  rw [if_pos h7] at hkd
  refine ⟨fun e => ?_, fun e => ?_⟩
  · have := tk_kw_at (k := 7) (by decide) 10 (Nat.le_refl _) (hkd.symm.trans e)
    exact ((wnum_inj (by decide) (wL_ok 8 (by decide)) hw).mp this).symm
  · have := tk_kw_at (k := 9) (by decide) 10 (Nat.le_refl _) (hkd.symm.trans e)
    exact ((wnum_inj (by decide) (wL_ok 9 (by decide)) hw).mp this).symm
theorem rk_nokw (hlt : ∀ j, b j < 256) (h : rk b n i = 1) : wdi b n i ≠ wL.getD 8 [] ∧ wdi b n i ≠ wL.getD 9 [] := by
  have hw := wdi_ok hlt (b := b) (n := n) (i := i) (Or.inl h)
  obtain ⟨h1, h2, h3⟩ := rk_let (b := b) (n := n) (i := i) (Or.inl h)
  have hkd : rk b n i = (if tk_eL b n (tk_st b n i) - tk_st b n i ≤ 7 then tk_kw k27 (wnum 27 (wdi b n i)) 1 10 else 1) := by
    unfold rk tk_kd wdi
    rw [wnum_wrd, if_neg (by omega), if_pos h2, Nat.min_eq_left h3]
    split
    · rfl
    · rfl
  by_cases h7 : tk_eL b n (tk_st b n i) - tk_st b n i ≤ 7
  · rw [if_pos h7] at hkd
    have := tk_kw_no1 10 (Nat.le_refl _) (hkd.symm.trans h)
    exact ⟨fun e => this 7 (by decide) ((wnum_inj (by decide) (wL_ok 8 (by decide)) hw).mpr e.symm), fun e => this 9 (by decide) ((wnum_inj (by decide) (wL_ok 9 (by decide)) hw).mpr e.symm)⟩
  · have hl : (wdi b n i).length = tk_eL b n (tk_st b n i) - tk_st b n i := wrd_len _ _ _
    refine ⟨fun e => ?_, fun e => ?_⟩
    · rw [e] at hl
      have : (wL.getD 8 []).length = 4 := by decide
      omega
    · rw [e] at hl
      have : (wL.getD 9 []).length = 4 := by decide
      omega
end Sw2
/-- the step that a word tells -/
def stp (b : Nat → Nat) (n i : Nat) : Option Nat := if rk b n i = 1 ∨ rk b n i = 27 ∨ rk b n i = 29 then stN (wdi b n i) else none
def stI (x : Option Nat) : Int32 := match x with
  | none => -1
  | some k => nI k
theorem stN_lt {w : List Nat} {k : Nat} (h : stN w = some k) : k < 10 := by
  have := List.mem_of_find?_eq_some h
  exact List.mem_range.mp this
section Sp
variable {P : gc_Pr} {d : Nat} {s s0 : gc_St} {Q : gc_TQ} {b : Nat → Nat} {n T L lv i o : Nat} {nl : List (List Nat × Nat × Nat)} {W : ld_W}
theorem j_stepAhead (hP : gc_Cl P) (hm : gc_Mo P) (hlt : ∀ j, b j < 256) (h : jc b n T L W nl s0 i s) (hQ : Q (some (.int (stI (stp b n i)))) s) : gc_T P d 0 0 105 0 [.ref 3, gc_u, gc_u] [] s Q := by
  have h400 := jc_i h
  have hT := h.1.2.2.2
  refine b_X8_stepAhead_0 hP hm ?_
  rw [h.1.2.2.1, nI_clamp (by omega), (h.1.2.1 i hT).1]
  have go : (rk b n i = 1 ∨ rk b n i = 27 ∨ rk b n i = 29) → ∀ l, gc_T P d 0 0 105 31 [.ref 3, .int l, gc_u] [] s Q := by
    intro hk l
    have hw := wdi_ok hlt hk
    unfold stp at hQ
    rw [if_pos hk] at hQ
    refine b_X8_stepAhead_31 hP hm ?_
    have key : ∀ m k, k + m = 10 → (stN (wdi b n i) = ((List.range' k m).find? (fun k => wL.getD (10 + k) [] == wdi b n i))) → gc_T P d 0 0 105 33 [.ref 3, .int l, .int (nI k)] [] s Q := by
      intro m
      induction m with
      | zero =>
        intro k hk' he
        rw [he] at hQ
        exact b_X8_stepAhead_33 hP hm (pk_le 10 k (fun _ => hQ) (fun z => by omega))
      | succ m ih =>
        intro k hk' he
        refine b_X8_stepAhead_33 hP hm ?_
        rw [st_lit 10, nI_add, nI_clamp (by omega), h.1.2.2.1, nI_clamp (by omega), h.2.2.2.2.2.2 (10 + k) (by omega), nmC_at h.1 hT hk, lg_cmp0, w32_eq, lN_eq40 (wnum_lt (by decide) (by decide) (wL_ok _ (by omega))) (wnum_lt (by decide) (by decide) hw), wnum_inj (by decide) (wL_ok _ (by omega)) hw]
        refine pk_le 10 k (fun z => by omega) (fun _ => ⟨vp_in_nI (by omega) (by decide), vp_in_nI (by omega) (by decide), fun z => ?_, fun z => ?_⟩)
        · rw [nI_1]
          refine ih (k + 1) (by omega) ?_
          rw [he]
          show ((k :: List.range' (k + 1) m).find? _) = _
          rw [List.find?_cons_of_neg (by simpa using z)]
        · have : stN (wdi b n i) = some k := by
            rw [he]
            show ((k :: List.range' (k + 1) m).find? _) = _
            rw [List.find?_cons_of_pos (by simpa using z)]
          rw [this] at hQ
          exact hQ
    refine key 10 0 (by omega) ?_
    unfold stN
    rfl
  refine ⟨vp_in_nI (by omega) (by decide), fun z => go (Or.inl ((kc_1 _).mp z)) _, fun z1 => ⟨fun z => go (Or.inr (Or.inl ((kc_27 _).mp z))) _, fun z2 => ⟨fun z => go (Or.inr (Or.inr ((kc_29 _).mp z))) _, fun z3 => ?_⟩⟩⟩
  unfold stp at hQ
  rw [if_neg (fun z => by
    rcases z with z | z | z
    · exact z1 ((kc_1 _).mpr z)
    · exact z2 ((kc_27 _).mpr z)
    · exact z3 ((kc_29 _).mpr z))] at hQ
  exact hQ
theorem k_stepTold (hP : gc_Cl P) (hm : gc_Mo P) (hd : 1 ≤ d) (hlt : ∀ j, b j < 256) (h : kj b n T lv W nl o s0 i s) (hQ : Q (some (.int (stI (stp b n i)))) s) : gc_T P d 0 0 262 0 [.ref 67] [] s Q := by
  have h400 := kj_i h
  have hT := h.1.2.2.2
  refine b_X11_stepTold_0 hP hm ⟨hd, k_is hP hm h (fun e27 => ⟨fun z => absurd z (by decide), fun _ => ?_⟩) (fun n27 => ⟨fun _ => ⟨hd, k_is hP hm h (fun e29 => ⟨fun z => absurd z (by decide), fun _ => ?_⟩) (fun n29 => ⟨fun _ => ⟨hd, k_is hP hm h (fun e1 => ⟨fun _ => ?_, fun z => absurd z (by decide)⟩) (fun n1 => ⟨fun z => absurd rfl z, fun _ => ?_⟩)⟩, fun z => absurd rfl z⟩)⟩, fun z => absurd rfl z⟩)⟩
  · unfold stp at hQ
    rw [if_pos (Or.inr (Or.inl e27)), (rk_kw hlt (Or.inl e27)).1 e27, show stN (wL.getD 8 []) = some 2 by decide] at hQ
    exact hQ
  · unfold stp at hQ
    rw [if_pos (Or.inr (Or.inr e29)), (rk_kw hlt (Or.inr e29)).2 e29, show stN (wL.getD 9 []) = some 7 by decide] at hQ
    exact hQ
  · have hw := wdi_ok hlt (b := b) (n := n) (i := i) (Or.inl e1)
    obtain ⟨x8, x9⟩ := rk_nokw hlt e1
    unfold stp at hQ
    rw [if_pos (Or.inl e1)] at hQ
    have cmp : ∀ k, k < 8 → (lg_cmp (gc_J s 74 (gc_F s 67 12).toNatClampNeg) (gc_J s 68 k) = 0 ↔ wdi b n i = wL.getD (pw k) []) := by
      intro k hk
      have hp : pw k < 20 := by
        have : ∀ k, k < 8 → pw k < 20 := by decide
        exact this k hk
      rw [h.1.2.2.1, nI_clamp (by omega), nmR_at h.1 hT (Or.inl e1), h.2.2.2.2.2.2.2 k hk, lg_cmp0, w27_eq, lN_eq40 (wnum_lt (by decide) (by decide) hw) (wnum_lt (by decide) (by decide) (wL_ok _ hp)), wnum_inj (by decide) hw (wL_ok _ hp)]
    have hv : vp_in (gc_F s 67 12) 403 := by
      rw [h.1.2.2.1]
      exact vp_in_nI (by omega) (by decide)
    have yes : ∀ k st, k < 8 → stN (wL.getD (pw k) []) = some st → wdi b n i = wL.getD (pw k) [] → Q (some (.int (nI st))) s := by
      intro k st hk h1 h2
      rw [h2, h1] at hQ
      exact hQ
    refine ⟨hv, vp_in_nI (n := 0) (by decide) (by decide), fun z0 => ⟨hv, vp_in_nI (n := 1) (by decide) (by decide), fun z1 => ⟨hv, vp_in_nI (n := 2) (by decide) (by decide), fun z2 => ⟨hv, vp_in_nI (n := 3) (by decide) (by decide), fun z3 => ⟨hv, vp_in_nI (n := 4) (by decide) (by decide), fun z4 => ⟨hv, vp_in_nI (n := 5) (by decide) (by decide), fun z5 => ⟨hv, vp_in_nI (n := 6) (by decide) (by decide), fun z6 => ⟨hv, vp_in_nI (n := 7) (by decide) (by decide), fun z7 => ?_, fun z => yes 7 9 (by decide) (by decide) ((cmp 7 (by decide)).mp z)⟩, fun z => yes 6 6 (by decide) (by decide) ((cmp 6 (by decide)).mp z)⟩, fun z => yes 5 5 (by decide) (by decide) ((cmp 5 (by decide)).mp z)⟩, fun z => yes 4 8 (by decide) (by decide) ((cmp 4 (by decide)).mp z)⟩, fun z => yes 3 4 (by decide) (by decide) ((cmp 3 (by decide)).mp z)⟩, fun z => yes 2 3 (by decide) (by decide) ((cmp 2 (by decide)).mp z)⟩, fun z => yes 1 1 (by decide) (by decide) ((cmp 1 (by decide)).mp z)⟩, fun z => yes 0 0 (by decide) (by decide) ((cmp 0 (by decide)).mp z)⟩
    have hno : stN (wdi b n i) = none := by
      refine List.find?_eq_none.mpr fun k hk hp => ?_
      have hk10 : k < 10 := List.mem_range.mp hk
      have e : wL.getD (10 + k) [] = wdi b n i := by simpa using hp
      rcases (by omega : k = 0 ∨ k = 1 ∨ k = 2 ∨ k = 3 ∨ k = 4 ∨ k = 5 ∨ k = 6 ∨ k = 7 ∨ k = 8 ∨ k = 9) with rfl | rfl | rfl | rfl | rfl | rfl | rfl | rfl | rfl | rfl
      · exact z0 ((cmp 0 (by decide)).mpr e.symm)
      · exact z1 ((cmp 1 (by decide)).mpr e.symm)
      · exact x8 e.symm
      · exact z2 ((cmp 2 (by decide)).mpr e.symm)
      · exact z3 ((cmp 3 (by decide)).mpr e.symm)
      · exact z5 ((cmp 5 (by decide)).mpr e.symm)
      · exact z6 ((cmp 6 (by decide)).mpr e.symm)
      · exact x9 e.symm
      · exact z4 ((cmp 4 (by decide)).mpr e.symm)
      · exact z7 ((cmp 7 (by decide)).mpr e.symm)
    rw [hno] at hQ
    exact hQ
  · unfold stp at hQ
    rw [if_neg (fun z => by
      rcases z with z | z | z
      · exact n1 z
      · exact n27 z
      · exact n29 z)] at hQ
    exact hQ
end Sp
/-! rows of OATHS -/
def lsF (C : List Nat) (i : Nat) : Nat → Nat → Nat
  | 0, last => last
  | m + 1, last => lsF C i m (if C.getD (C.length - (m + 1)) 0 = C.getD i 0 then C.length - (m + 1) else last)
def idF (C : List Nat) : Nat → Nat → Nat
  | 0, _ => 0
  | f + 1, i => if C.length ≤ i then 0 else (lsF C i (C.length - (i + 1)) i - i) + idF C f (lsF C i (C.length - (i + 1)) i + 1)
def idl (C : List Nat) : Nat := idF C C.length 0
theorem lsF_in {C : List Nat} {i : Nat} : ∀ m last, i ≤ last → last < C.length → i + m < C.length → i ≤ lsF C i m last ∧ lsF C i m last < C.length := by
  intro m
  induction m with
  | zero =>
    intro last h1 h2 _
    exact ⟨h1, h2⟩
  | succ m ih =>
    intro last h1 h2 h3
    unfold lsF
    split
    · exact ih _ (by omega) (by omega) (by omega)
    · exact ih _ h1 h2 (by omega)
def A28 (q k : Nat) : Bool := Nat.beq q 28 && (Nat.beq k 5 || Nat.beq k 15)
def A67c (q k : Nat) : Bool := Nat.beq q 67 && (Nat.beq k 73 || Nat.beq k 67)
def rwC (C : List Nat) (s : gc_St) : Prop := gc_F s 28 5 = nI C.length ∧ ∀ k c, C[k]? = some c → gc_I s 31 k = nI c
def rwR (C : List Nat) (s : gc_St) : Prop := gc_F s 67 73 = nI C.length ∧ ∀ k c, C[k]? = some c → gc_I s 109 k = nI c
theorem gD_some {C : List Nat} {k : Nat} (h : k < C.length) : C[k]? = some (C.getD k 0) := by
  rw [List.getD_eq_getElem?_getD, List.getElem?_eq_getElem h]
  rfl
section Rw
variable {P : gc_Pr} {d : Nat} {s : gc_St} {Q : gc_TQ} {C : List Nat} {id : Nat}
theorem j_closeRow (hP : gc_Cl P) (hm : gc_Mo P) (hC : rwC C s) (hl : C.length ≤ 64) (hc : ∀ k, k < C.length → C.getD k 0 < 256) (hid : gc_F s 28 15 = nI id) (hQ : ∀ t, fr A28 B0 s t → gc_F t 28 5 = 0 → gc_F t 28 15 = nI (id + idl C) → Q none t) : gc_T P d 0 0 87 0 [.ref 28, gc_u, gc_u, gc_u] [] s Q := by
  refine b_X6_closeRow_0 hP hm ?_
  have outer : ∀ f i a u (l2 l3 : Value), i ≤ C.length → C.length ≤ i + f → fr A28 B0 s u → gc_F u 28 5 = nI C.length → gc_F u 28 15 = nI a → (∀ t, fr A28 B0 s t → gc_F t 28 5 = 0 → gc_F t 28 15 = nI (a + idF C f i) → Q none t) → gc_T P d 0 0 87 2 [.ref 28, .int (nI i), l2, l3] [] u Q := by
    intro f
    induction f with
    | zero =>
      intro i a u l2 l3 hic hi g h5 h15 hQ'
      refine b_X6_closeRow_2 hP hm ?_
      rw [h5, nI_leI (by omega) (by omega)]
      refine ⟨fun _ => hQ' _ (fr_wF rfl g) (F_eq _ _ _ _) ((F_ne _ _ (Or.inr (by decide))).trans ?_), fun z => absurd hi z⟩
      exact h15
    | succ f ih =>
      intro i a u l2 l3 hic hi g h5 h15 hQ'
      refine b_X6_closeRow_2 hP hm ?_
      rw [h5, nI_leI (by omega) (by omega), nI_1]
      refine ⟨fun z => ?_, fun z => ?_⟩
      · refine hQ' _ (fr_wF rfl g) (F_eq _ _ _ _) ((F_ne _ _ (Or.inr (by decide))).trans ?_)
        unfold idF
        rw [if_pos z]
        exact h15
      · have hilt : i < C.length := by omega
        have hIu : gc_I u 31 = gc_I s 31 := fr_I g rfl
        have inner : ∀ m j last, j + m = C.length → i ≤ last → last < C.length → i < j → lsF C i (C.length - (i + 1)) i = lsF C i m last → gc_T P d 0 0 87 16 [.ref 28, .int (nI i), .int (nI last), .int (nI j)] [] u Q := by
          intro m
          induction m with
          | zero =>
            intro j last hj h1 h2 h3 he
            refine b_X6_closeRow_16 hP hm ?_
            rw [h5, nI_leI (by omega) (by omega), h15, pk_sub h1, nI_add, nI_1]
            refine ⟨fun _ => ?_, fun z => absurd (by omega) z⟩
            have he' : lsF C i (C.length - (i + 1)) i = last := he
            refine ih (last + 1) (a + (last - i)) _ _ _ (by omega) (by omega) (fr_wF rfl g) ((F_ne _ _ (Or.inr (by decide))).trans h5) (F_eq _ _ _ _) (fun t t1 t2 t3 => hQ' t t1 t2 ?_)
            unfold idF
            rw [if_neg (by omega), he', ← Nat.add_assoc]
            exact t3
          | succ m ihm =>
            intro j last hj h1 h2 h3 he
            have hjl : j < C.length := by omega
            have e1 := hC.2 j _ (gD_some hjl)
            have e2 := hC.2 i _ (gD_some hilt)
            have c1 := hc j hjl
            have c2 := hc i hilt
            refine b_X6_closeRow_16 hP hm ?_
            rw [h5, nI_leI (by omega) (by omega), nI_clamp (by omega), nI_clamp (by omega), hIu, e1, e2, nI_eq (by omega) (by omega)]
            have hstep : lsF C i (m + 1) last = lsF C i m (if C.getD j 0 = C.getD i 0 then j else last) := by
              show lsF C i m (if C.getD (C.length - (m + 1)) 0 = C.getD i 0 then C.length - (m + 1) else last) = _
              rw [show C.length - (m + 1) = j by omega]
            refine ⟨fun z => by omega, fun _ => ⟨vp_in_nI (by omega) (by decide), vp_in_nI (by omega) (by decide), fun z => b_X6_closeRow_41 hP hm ?_, fun z => b_X6_closeRow_41 hP hm ?_⟩⟩
            · rw [nI_1]
              refine ihm (j + 1) last (by omega) h1 h2 (by omega) ?_
              rw [he, hstep, if_neg z]
            · rw [nI_1]
              refine ihm (j + 1) j (by omega) (by omega) hjl (by omega) ?_
              rw [he, hstep, if_pos z]
        exact inner (C.length - (i + 1)) (i + 1) i (by omega) (Nat.le_refl _) hilt (Nat.lt_succ_self _) rfl
  exact outer C.length 0 id s _ _ (Nat.zero_le _) (by omega) (fr_refl s) hC.1 hid (fun t t1 t2 t3 => hQ t t1 t2 t3)
theorem k_endsChain (hP : gc_Cl P) (hm : gc_Mo P) (hC : rwR C s) (hl : C.length ≤ 64) (hc : ∀ k, k < C.length → C.getD k 0 < 256) (hid : gc_F s 67 67 = nI id) (hQ : ∀ t, fr A67c B0 s t → gc_F t 67 73 = 0 → gc_F t 67 67 = nI (id + idl C) → Q none t) : gc_T P d 0 0 261 0 [.ref 67, gc_u, gc_u, gc_u] [] s Q := by
  refine b_X11_endsChain_0 hP hm ?_
  have outer : ∀ f i a u (l2 l3 : Value), i ≤ C.length → C.length ≤ i + f → fr A67c B0 s u → gc_F u 67 73 = nI C.length → gc_F u 67 67 = nI a → (∀ t, fr A67c B0 s t → gc_F t 67 73 = 0 → gc_F t 67 67 = nI (a + idF C f i) → Q none t) → gc_T P d 0 0 261 2 [.ref 67, .int (nI i), l2, l3] [] u Q := by
    intro f
    induction f with
    | zero =>
      intro i a u l2 l3 hic hi g h5 h15 hQ'
      refine b_X11_endsChain_2 hP hm ?_
      rw [h5, nI_leI (by omega) (by omega)]
      refine ⟨fun _ => hQ' _ (fr_wF rfl g) (F_eq _ _ _ _) ((F_ne _ _ (Or.inr (by decide))).trans ?_), fun z => absurd hi z⟩
      exact h15
    | succ f ih =>
      intro i a u l2 l3 hic hi g h5 h15 hQ'
      refine b_X11_endsChain_2 hP hm ?_
      rw [h5, nI_leI (by omega) (by omega), nI_1]
      refine ⟨fun z => ?_, fun z => ?_⟩
      · refine hQ' _ (fr_wF rfl g) (F_eq _ _ _ _) ((F_ne _ _ (Or.inr (by decide))).trans ?_)
        unfold idF
        rw [if_pos z]
        exact h15
      · have hilt : i < C.length := by omega
        have hIu : gc_I u 109 = gc_I s 109 := fr_I g rfl
        have inner : ∀ m j last, j + m = C.length → i ≤ last → last < C.length → i < j → lsF C i (C.length - (i + 1)) i = lsF C i m last → gc_T P d 0 0 261 16 [.ref 67, .int (nI i), .int (nI last), .int (nI j)] [] u Q := by
          intro m
          induction m with
          | zero =>
            intro j last hj h1 h2 h3 he
            refine b_X11_endsChain_16 hP hm ?_
            rw [h5, nI_leI (by omega) (by omega), h15, pk_sub h1, nI_add, nI_1]
            refine ⟨fun _ => ?_, fun z => absurd (by omega) z⟩
            have he' : lsF C i (C.length - (i + 1)) i = last := he
            refine ih (last + 1) (a + (last - i)) _ _ _ (by omega) (by omega) (fr_wF rfl g) ((F_ne _ _ (Or.inr (by decide))).trans h5) (F_eq _ _ _ _) (fun t t1 t2 t3 => hQ' t t1 t2 ?_)
            unfold idF
            rw [if_neg (by omega), he', ← Nat.add_assoc]
            exact t3
          | succ m ihm =>
            intro j last hj h1 h2 h3 he
            have hjl : j < C.length := by omega
            have e1 := hC.2 j _ (gD_some hjl)
            have e2 := hC.2 i _ (gD_some hilt)
            have c1 := hc j hjl
            have c2 := hc i hilt
            refine b_X11_endsChain_16 hP hm ?_
            rw [h5, nI_leI (by omega) (by omega), nI_clamp (by omega), nI_clamp (by omega), hIu, e1, e2, nI_eq (by omega) (by omega)]
            have hstep : lsF C i (m + 1) last = lsF C i m (if C.getD j 0 = C.getD i 0 then j else last) := by
              show lsF C i m (if C.getD (C.length - (m + 1)) 0 = C.getD i 0 then C.length - (m + 1) else last) = _
              rw [show C.length - (m + 1) = j by omega]
            refine ⟨fun z => by omega, fun _ => ⟨vp_in_nI (by omega) (by decide), vp_in_nI (by omega) (by decide), fun z => b_X11_endsChain_41 hP hm ?_, fun z => b_X11_endsChain_41 hP hm ?_⟩⟩
            · rw [nI_1]
              refine ihm (j + 1) last (by omega) h1 h2 (by omega) ?_
              rw [he, hstep, if_neg z]
            · rw [nI_1]
              refine ihm (j + 1) j (by omega) (by omega) hjl (by omega) ?_
              rw [he, hstep, if_pos z]
        exact inner (C.length - (i + 1)) (i + 1) i (by omega) (Nat.le_refl _) hilt (Nat.lt_succ_self _) rfl
  exact outer C.length 0 id s _ _ (Nat.zero_le _) (by omega) (fr_refl s) hC.1 hid (fun t t1 t2 t3 => hQ t t1 t2 t3)
end Rw
