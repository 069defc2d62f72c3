/-! The class's TOKENS. -/
/-- what the class keeps of the TOKEN that stands at p, as its i-th -/
def tkF (b : Nat → Nat) (n : Nat) (t : gc_St) (i p : Nat) : Prop := gc_I t 4 i = kc (tk_kd k27 b n p) ∧ gc_I t 5 i = nI p ∧ (p < n → tk_L (nI (b p)) = true → gc_J t 6 i = lN (tk_nm 32 b p (tk_eL b n p - p))) ∧ (p < n → tk_D (nI (b p)) = true → gc_I t 7 i = nI (tk_nu b p (tk_eD b n p - p)))
def A36 (q k : Nat) : Bool := Nat.beq q 3 && Nat.beq k 6
def B47 (a : Nat) : Bool := Nat.ble 4 a && Nat.ble a 7
/-- the rows of TOKENS but for the i-th place -/
def tkO (s t : gc_St) (i : Nat) : Prop := ∀ j, j ≠ i → gc_I t 4 j = gc_I s 4 j ∧ gc_I t 5 j = gc_I s 5 j ∧ gc_J t 6 j = gc_J s 6 j ∧ gc_I t 7 j = gc_I s 7 j
theorem kc_sg : ∀ c, c < 256 → kc (tk_sg c) = if tk_S (nI c) = true then nI c else 1 := by decide +kernel
theorem tk_LB : ∀ c, c < 256 → tk_L (nI c) = true → tk_B (nI c) = false ∧ tk_D (nI c) = false := by decide +kernel
section Sc
variable {P : gc_Pr} {d : Nat} {s : gc_St} {Q : gc_TQ}
theorem sp_findLetters (hP : gc_Cl P) (hm : gc_Mo P) (hd : 1 ≤ d) {n p i : Nat} {b : Nat → Nat} (hn : n ≤ 2000) (hb : ∀ j, j < n → tk_b (gc_I s 2 j) = b j) (hlt : ∀ j, b j < 256) (hF : gc_F s 1 1 = nI n) (hF6 : gc_F s 3 6 = nI p) (hp : p < n) (hi : i < 401)
    (hL : tk_L (nI (b p)) = true) (hst : gc_I s 5 i = nI p) (hJ : ∀ k, k < 20 → gc_J s 8 k = lN (w32 k))
    (h : Q none (gc_wI (gc_wJ (gc_wF s 3 6 (nI (tk_eL b n p))) 6 i (lN (tk_nm 32 b p (tk_eL b n p - p)))) 4 i (kc (tk_kd k27 b n p)))) :
    gc_T P d 0 0 96 0 [.ref 3, .int (nI i), gc_u, gc_u] [] s Q := by
  obtain ⟨e1, e2, e3, e4⟩ := tk_eL_in hp hL
  generalize he : tk_eL b n p = e at *
  refine b_X8_findLetters_0 hP hm ?_
  have fin : gc_T P d 0 0 96 62 [.ref 3, .int (nI i), .long (lN (tk_nm 32 b p (e - p))), gc_u] [] (gc_wF s 3 6 (nI e)) Q := by
    have hl : ∀ t, t < e - p → 97 ≤ b (p + t) ∧ b (p + t) ≤ 122 := fun t ht => (tk_L_iff (Nat.lt_trans (hlt _) (by decide))).mp (e3 (p + t) (by omega) (by omega))
    have hkd : tk_kd k27 b n p = if e - p ≤ 7 then tk_kw k27 (tk_nm 27 b p (min (e - p) 8)) 1 10 else if e - p ≤ 8 then 1 else 3 := by
      unfold tk_kd
      rw [if_neg (by omega), if_pos hL, he]
    refine b_X8_findLetters_62 hP hm ?_
    rw [F_eq, rw_I_wF, nI_clamp (by omega), hst, pk_sub (by omega)]
    refine ⟨vp_in_nI (by omega) (by omega), vp_in_nI (by omega) (by omega), pk_le (e - p) 8 (fun z => ⟨hd, ?_⟩) (fun z => ⟨vp_in_nI (by omega) (by omega), ?_⟩)⟩
    · refine sp_kindOfWord hP hm ?_ ?_ ⟨vp_in_nI (by omega) (by omega), ?_⟩
      · intro k hk
        rw [rw_J_wJ, if_neg (by decide), rw_J_wF]
        exact hJ k hk
      · have h1 := tk_nm_lt (B := 32) (by decide) (e - p) hl
        exact Nat.lt_of_lt_of_le h1 (Nat.le_trans (Nat.pow_le_pow_right (by decide) z) (by decide))
      · rw [kc_word hl]
        rw [hkd, Nat.min_eq_left z] at h
        by_cases z7 : e - p ≤ 7
        · rw [if_pos z7] at h ⊢
          exact h
        · rw [if_neg z7, if_pos z] at h
          rw [if_neg z7]
          exact h
    · rw [hkd, if_neg (by omega), if_neg (by omega)] at h
      exact h
  have key : ∀ m q, q + m = e → p ≤ q → gc_T P d 0 0 96 2 [.ref 3, .int (nI i), .long (lN (tk_nm 32 b p (q - p))), gc_u] [] (gc_wF s 3 6 (nI q)) Q := by
    intro m
    induction m with
    | zero =>
      intro q hq hpq
      obtain rfl : q = e := by omega
      have hF1 : gc_F (gc_wF s 3 6 (nI q)) 1 1 = nI n := (F_ne s _ (Or.inl (by decide))).trans hF
      refine b_X8_findLetters_2 hP hm ?_
      rw [hF1, F_eq]
      refine pk_le n q (fun z => fin) (fun z => ⟨hd, ?_⟩)
      refine sp_byteAt hP hm hn (by omega) hF1 ?_
      rw [if_pos z]
      refine ⟨hd, sp_isLetter hP hm ?_⟩
      rw [rw_I_wF, hb q z, e4 z]
      exact ⟨fun _ => fin, fun y => absurd rfl y⟩
    | succ m ih =>
      intro q hq hpq
      have hF1 : gc_F (gc_wF s 3 6 (nI q)) 1 1 = nI n := (F_ne s _ (Or.inl (by decide))).trans hF
      have hLq := e3 q hpq (by omega)
      have hq2 := (tk_L_iff (Nat.lt_trans (hlt _) (by decide))).mp hLq
      refine b_X8_findLetters_2 hP hm ?_
      rw [hF1, F_eq]
      refine pk_le n q (fun z => by omega) (fun z => ⟨hd, ?_⟩)
      refine sp_byteAt hP hm hn (by omega) hF1 ?_
      rw [if_pos z]
      refine ⟨hd, sp_isLetter hP hm ?_⟩
      rw [rw_I_wF, hb q z, hLq]
      refine ⟨fun y => absurd y (by decide), fun _ => ⟨hd, ?_⟩⟩
      rw [F_eq]
      refine sp_byteAt hP hm hn (by omega) hF1 ?_
      rw [if_pos z, rw_I_wF, hb q z]
      refine ⟨hd, sp_withLetter hP hm hq2.1 (by omega) ?_⟩
      have := ih (q + 1) (by omega) (by omega)
      rw [show q + 1 - p = q - p + 1 by omega] at this
      unfold tk_nm at this
      rw [show p + (q - p) = q by omega] at this
      show gc_T P d 0 0 96 2 _ _ (gc_wF (gc_wF s 3 6 (nI q)) 3 6 (gc_F (gc_wF s 3 6 (nI q)) 3 6 + 1)) Q
      rw [F_eq, wF_wF, nI_1]
      exact this
  have := key (e - p) p (by omega) (by omega)
  rw [Nat.sub_self, wF_id hF6] at this
  exact this
theorem sp_findDigits (hP : gc_Cl P) (hm : gc_Mo P) (hd : 1 ≤ d) {n p i : Nat} {b : Nat → Nat} (hn : n ≤ 2000) (hb : ∀ j, j < n → tk_b (gc_I s 2 j) = b j) (hlt : ∀ j, b j < 256) (hF : gc_F s 1 1 = nI n) (hF6 : gc_F s 3 6 = nI p) (hp : p < n) (hi : i < 401)
    (hNL : tk_L (nI (b p)) = false) (hL : tk_D (nI (b p)) = true) (hst : gc_I s 5 i = nI p)
    (h : Q none (gc_wI (gc_wI (gc_wF s 3 6 (nI (tk_eD b n p))) 7 i (nI (tk_nu b p (tk_eD b n p - p)))) 4 i (kc (tk_kd k27 b n p)))) :
    gc_T P d 0 0 98 0 [.ref 3, .int (nI i), gc_u] [] s Q := by
  obtain ⟨e1, e2, e3, e4⟩ := tk_eD_in hp hL
  generalize he : tk_eD b n p = e at *
  refine b_X8_findDigits_0 hP hm ?_
  have fin : gc_T P d 0 0 98 66 [.ref 3, .int (nI i), .int (nI (tk_nu b p (e - p)))] [] (gc_wF s 3 6 (nI e)) Q := by
    have hkd : tk_kd k27 b n p = if e - p ≤ 4 then 2 else 3 := by
      unfold tk_kd
      rw [if_neg (by omega), hNL, if_neg (by decide), if_pos hL, he]
    refine b_X8_findDigits_66 hP hm ?_
    rw [F_eq, rw_I_wF, nI_clamp (by omega), hst, pk_sub (by omega)]
    refine ⟨vp_in_nI (by omega) (by omega), vp_in_nI (by omega) (by omega), pk_le (e - p) 4 (fun z => ⟨vp_in_nI (by omega) (by omega), ?_⟩) (fun z => ⟨vp_in_nI (by omega) (by omega), ?_⟩)⟩
    · rw [hkd, if_pos z] at h
      exact h
    · rw [hkd, if_neg (by omega)] at h
      exact h
  have key : ∀ m q, q + m = e → p ≤ q → gc_T P d 0 0 98 2 [.ref 3, .int (nI i), .int (nI (tk_nu b p (q - p)))] [] (gc_wF s 3 6 (nI q)) Q := by
    intro m
    induction m with
    | zero =>
      intro q hq hpq
      obtain rfl : q = e := by omega
      have hF1 : gc_F (gc_wF s 3 6 (nI q)) 1 1 = nI n := (F_ne s _ (Or.inl (by decide))).trans hF
      refine b_X8_findDigits_2 hP hm ?_
      rw [hF1, F_eq]
      refine pk_le n q (fun z => fin) (fun z => ⟨hd, ?_⟩)
      refine sp_byteAt hP hm hn (by omega) hF1 ?_
      rw [if_pos z]
      refine ⟨hd, sp_isDigit hP hm ?_⟩
      rw [rw_I_wF, hb q z, e4 z]
      exact ⟨fun _ => fin, fun y => absurd rfl y⟩
    | succ m ih =>
      intro q hq hpq
      have hF1 : gc_F (gc_wF s 3 6 (nI q)) 1 1 = nI n := (F_ne s _ (Or.inl (by decide))).trans hF
      have hLq := e3 q hpq (by omega)
      have hq2 := (tk_D_iff (Nat.lt_trans (hlt _) (by decide))).mp hLq
      refine b_X8_findDigits_2 hP hm ?_
      rw [hF1, F_eq]
      refine pk_le n q (fun z => by omega) (fun z => ⟨hd, ?_⟩)
      refine sp_byteAt hP hm hn (by omega) hF1 ?_
      rw [if_pos z]
      refine ⟨hd, sp_isDigit hP hm ?_⟩
      rw [rw_I_wF, hb q z, hLq]
      refine ⟨fun y => absurd y (by decide), fun _ => ⟨hd, ?_⟩⟩
      rw [F_eq]
      refine sp_byteAt hP hm hn (by omega) hF1 ?_
      rw [if_pos z, rw_I_wF, hb q z]
      have := ih (q + 1) (by omega) (by omega)
      rw [show q + 1 - p = q - p + 1 by omega] at this
      unfold tk_nu at this
      rw [show p + (q - p) = q by omega] at this
      show gc_T P d 0 0 98 2 [.ref 3, .int (nI i), .int (nI (tk_nu b p (q - p)) * 10 + (nI (b q) - 48))] _ (gc_wF (gc_wF s 3 6 (nI q)) 3 6 (gc_F (gc_wF s 3 6 (nI q)) 3 6 + 1)) Q
      rw [F_eq, wF_wF, nI_1, st_lit 48, pk_sub hq2.1, st_lit 10, pk_mul, nI_add, Nat.mul_comm]
      exact this
  have := key (e - p) p (by omega) (by omega)
  rw [Nat.sub_self, wF_id hF6] at this
  exact this
/-- the search for the i-th TOKEN -/
theorem sp_find (hP : gc_Cl P) (hm : gc_Mo P) (hd : 2 ≤ d) {n p i : Nat} {b : Nat → Nat} (hn : n ≤ 2000) (hb : ∀ j, j < n → tk_b (gc_I s 2 j) = b j) (hlt : ∀ j, b j < 256) (hF : gc_F s 1 1 = nI n) (hF6 : gc_F s 3 6 = nI p) (hp : p ≤ n) (hi : i < 401)
    (hJ : ∀ k, k < 20 → gc_J s 8 k = lN (w32 k))
    (h : ∀ t, fr A36 B47 s t → gc_F t 3 6 = nI (if tk_skp b n p < n then tk_end b n (tk_skp b n p) else n) → tkO s t i → tkF b n t i (tk_skp b n p) → Q none t) :
    gc_T P d 0 0 95 0 [.ref 3, .int (nI i), gc_u] [] s Q := by
  have fin : ∀ q, tk_skp b n q = tk_skp b n p → q ≤ n → (q < n → tk_B (nI (b q)) = false) → gc_T P d 0 0 95 44 [.ref 3, .int (nI i), gc_u] [] (gc_wF s 3 6 (nI q)) Q := by
    intro q hq hqn hqB
    have hpq : tk_skp b n p = q := by
      rw [← hq]
      by_cases e : q < n
      · exact tk_skp_no (hqB e)
      · obtain rfl : q = n := by omega
        exact tk_skp_n
    rw [hpq] at h
    refine b_X8_find_44 hP hm ?_
    rw [F_eq, nI_clamp (by omega)]
    refine ⟨vp_in_nI (by omega) (by omega), vp_in_nI (by omega) (by omega), vp_in_nI (by omega) (by omega), by omega, ?_⟩
    generalize hs1 : gc_wI (gc_wJ (gc_wI (gc_wF s 3 6 (nI q)) 5 i (nI q)) 6 i 0) 7 i 0 = s1
    have f1 : fr A36 B47 s s1 := by
      rw [← hs1]
      exact fr_wI rfl (fr_wJ rfl (fr_wI rfl (fr_wF rfl (fr_refl s))))
    have g1 : gc_F s1 3 6 = nI q := by rw [← hs1, rw_F_wI, rw_F_wJ, rw_F_wI, F_eq]
    have g2 : gc_I s1 5 i = nI q := by rw [← hs1, I_ne _ _ (Or.inl (by decide)), rw_I_wJ, I_eq]
    have o1 : tkO s s1 i := by
      intro j hj
      rw [← hs1]
      refine ⟨?_, ?_, ?_, ?_⟩
      · rw [I_ne _ _ (Or.inl (by decide)), rw_I_wJ, I_ne _ _ (Or.inl (by decide))]; rfl
      · rw [I_ne _ _ (Or.inl (by decide)), rw_I_wJ, I_ne _ _ (Or.inr hj)]; rfl
      · rw [rw_J_wI, J_ne _ _ (Or.inr hj)]; rfl
      · rw [I_ne _ _ (Or.inr hj), rw_I_wJ, I_ne _ _ (Or.inl (by decide))]; rfl
    have hF1 : gc_F s1 1 1 = nI n := (fr_F f1 rfl).trans hF
    have hb1 : ∀ j, j < n → tk_b (gc_I s1 2 j) = b j := fun j hj => by rw [fr_I f1 rfl]; exact hb j hj
    have hJ1 : ∀ k, k < 20 → gc_J s1 8 k = lN (w32 k) := fun k hk => by rw [fr_J f1 rfl]; exact hJ k hk
    have o2 : ∀ x t, tkO s t i → tkO s (gc_wI t 4 i x) i := fun x t ht j hj => ⟨(I_ne _ _ (Or.inr hj)).trans (ht j hj).1, (I_ne _ _ (Or.inl (by decide))).trans (ht j hj).2.1, (ht j hj).2.2.1, (I_ne _ _ (Or.inl (by decide))).trans (ht j hj).2.2.2⟩
    refine sp_byteAt hP hm hn (by omega) hF1 ?_
    by_cases z : q < n
    · rw [if_pos z, hb1 q z]
      rw [if_pos z] at h
      have hne : ¬ nI (b q) = -1 := by
        rw [st_m1]
        intro e
        have e2 := congrArg (fun x : Int32 => x.toBitVec.toNat) e
        have := hlt q
        rw [pk_tn (by omega), pk_tn (by decide)] at e2
        omega
      refine ⟨fun _ => ⟨by omega, sp_isLetter hP hm ?_⟩, fun y => absurd y hne⟩
      by_cases zL : tk_L (nI (b q)) = true
      · rw [zL]
        refine ⟨fun y => absurd y (by decide), fun _ => ⟨by omega, ?_⟩⟩
        refine sp_findLetters hP hm (by omega) hn hb1 hlt hF1 g1 z hi zL g2 hJ1 ?_
        have hD : tk_D (nI (b q)) = false := (tk_LB _ (hlt q) zL).2
        have hend : tk_end b n q = tk_eL b n q := by unfold tk_end; rw [if_pos zL]
        refine h _ (fr_wI rfl (fr_wJ rfl (fr_wF rfl f1))) ?_ ?_ ⟨I_eq _ _ _ _, ?_, fun _ _ => ?_, fun _ y => ?_⟩
        · rw [rw_F_wI, rw_F_wJ, F_eq, hend]
        · exact o2 _ _ (fun j hj => ⟨(o1 j hj).1, (o1 j hj).2.1, (J_ne _ _ (Or.inr hj)).trans (o1 j hj).2.2.1, (o1 j hj).2.2.2⟩)
        · rw [I_ne _ _ (Or.inl (by decide))]; exact g2
        · rw [rw_J_wI, J_eq]
        · rw [hD] at y; exact absurd y (by decide)
      · have zL : tk_L (nI (b q)) = false := by simpa using zL
        rw [zL]
        refine ⟨fun _ => ⟨by omega, sp_isDigit hP hm ?_⟩, fun y => absurd rfl y⟩
        by_cases zD : tk_D (nI (b q)) = true
        · rw [zD]
          refine ⟨fun y => absurd y (by decide), fun _ => ⟨by omega, ?_⟩⟩
          refine sp_findDigits hP hm (by omega) hn hb1 hlt hF1 g1 z hi zL zD g2 ?_
          have hend : tk_end b n q = tk_eD b n q := by unfold tk_end; rw [zL, if_neg (by decide), if_pos zD]
          refine h _ (fr_wI rfl (fr_wI rfl (fr_wF rfl f1))) ?_ ?_ ⟨I_eq _ _ _ _, ?_, fun _ y => ?_, fun _ _ => ?_⟩
          · rw [rw_F_wI, rw_F_wI, F_eq, hend]
          · exact o2 _ _ (fun j hj => ⟨(I_ne _ _ (Or.inl (by decide))).trans (o1 j hj).1, (I_ne _ _ (Or.inl (by decide))).trans (o1 j hj).2.1, (o1 j hj).2.2.1, (I_ne _ _ (Or.inr hj)).trans (o1 j hj).2.2.2⟩)
          · rw [I_ne _ _ (Or.inl (by decide)), I_ne _ _ (Or.inl (by decide))]; exact g2
          · rw [zL] at y; exact absurd y (by decide)
          · rw [I_ne _ _ (Or.inl (by decide)), I_eq]
        · have zD : tk_D (nI (b q)) = false := by simpa using zD
          have hend : tk_end b n q = q + 1 := by unfold tk_end; rw [zL, if_neg (by decide), zD, if_neg (by decide)]
          have hkd : tk_kd k27 b n q = tk_sg (b q) := by unfold tk_kd; rw [if_neg (by omega), zL, if_neg (by decide), zD, if_neg (by decide)]
          have hsg := kc_sg (b q) (hlt q)
          have last : ∀ x, x = kc (tk_sg (b q)) → Q none (gc_wF (gc_wI s1 4 i x) 3 6 (gc_F s1 3 6 + 1)) := by
            intro x hx
            rw [g1, nI_1]
            refine h _ (fr_wF rfl (fr_wI rfl f1)) ?_ (o2 _ _ o1) ⟨?_, ?_, fun _ y => ?_, fun _ y => ?_⟩
            · rw [F_eq, hend]
            · rw [rw_I_wF, I_eq, hkd]; exact hx
            · rw [rw_I_wF, I_ne _ _ (Or.inl (by decide))]; exact g2
            · rw [zL] at y; exact absurd y (by decide)
            · rw [zD] at y; exact absurd y (by decide)
          rw [zD]
          refine ⟨fun _ => ⟨by omega, sp_isSign hP hm ?_⟩, fun y => absurd rfl y⟩
          by_cases zS : tk_S (nI (b q)) = true
          · rw [zS]
            rw [if_pos zS] at hsg
            refine ⟨fun y => absurd y (by decide), fun _ => b_X8_find_142 hP hm ⟨vp_in_nI (by omega) (by omega), ?_⟩⟩
            rw [nI_clamp (by omega)]
            exact last _ hsg.symm
          · rw [if_neg zS] at hsg
            have zS : tk_S (nI (b q)) = false := by simpa using zS
            rw [zS]
            refine ⟨fun _ => b_X8_find_142 hP hm ⟨vp_in_nI (by omega) (by omega), ?_⟩, fun y => absurd rfl y⟩
            rw [nI_clamp (by omega)]
            exact last _ hsg.symm
    · obtain rfl : q = n := by omega
      rw [if_neg z]
      rw [if_neg z] at h
      refine ⟨fun y => absurd rfl y, fun _ => ⟨vp_in_nI (by omega) (by omega), ?_⟩⟩
      refine h _ (fr_wI rfl f1) g1 (o2 _ _ o1) ⟨?_, ?_, fun y => ?_, fun y => ?_⟩
      · rw [I_eq]; unfold tk_kd; rw [if_pos (Nat.le_refl _)]; rfl
      · rw [I_ne _ _ (Or.inl (by decide))]; exact g2
      · exact absurd y z
      · exact absurd y z
  have key : ∀ m q, q + m = n → tk_skp b n q = tk_skp b n p → gc_T P d 0 0 95 0 [.ref 3, .int (nI i), gc_u] [] (gc_wF s 3 6 (nI q)) Q := by
    intro m
    induction m with
    | zero =>
      intro q hq hk
      refine b_X8_find_0 hP hm ?_
      rw [F_eq, (F_ne s _ (Or.inl (by decide))).trans hF]
      exact pk_le n q (fun z => fin q hk (by omega) (fun y => by omega)) (fun z => by omega)
    | succ m ih =>
      intro q hq hk
      refine b_X8_find_0 hP hm ?_
      have hF1 : gc_F (gc_wF s 3 6 (nI q)) 1 1 = nI n := (F_ne s _ (Or.inl (by decide))).trans hF
      rw [F_eq, hF1]
      refine pk_le n q (fun z => by omega) (fun z => ⟨by omega, sp_byteAt hP hm hn (by omega) hF1 ?_⟩)
      rw [if_pos z, rw_I_wF, hb q z]
      refine ⟨by omega, sp_isBlank hP hm ?_⟩
      by_cases zB : tk_B (nI (b q)) = true
      · rw [zB]
        refine ⟨fun y => absurd y (by decide), fun _ => ?_⟩
        rw [F_eq, wF_wF, nI_1]
        exact ih (q + 1) (by omega) (by rw [← hk]; exact (tk_skp_bl z zB).symm)
      · have zB : tk_B (nI (b q)) = false := by simpa using zB
        rw [zB]
        exact ⟨fun _ => fin q hk (by omega) (fun _ => zB), fun y => absurd rfl y⟩
  have := key (n - p) p (by omega) rfl
  rw [wF_id hF6] at this
  exact this
end Sc
