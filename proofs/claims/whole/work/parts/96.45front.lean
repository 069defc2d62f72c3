/-! judge: a step begins, by both. -/
def jN (N : List (Nat × Nat)) (s : gc_St) : Prop := gc_F s 28 6 = nI N.length ∧ ∀ k e, N[k]? = some e → gc_I s 29 k = nI e.1 ∧ gc_I s 30 k = nI e.2
def kN (N : List (Nat × Nat)) (s : gc_St) : Prop := gc_F s 67 64 = nI N.length ∧ ∀ k e, N[k]? = some e → gc_I s 107 k = nI e.1 ∧ gc_I s 108 k = nI e.2
def jA (b : Nat → Nat) (n T L : Nat) (W : ld_W) (nl : List (List Nat × Nat × Nat)) (s0 : gc_St) (o i : Nat) (N : List (Nat × Nat)) (C : List Nat) (st dp id : Nat) (s : gc_St) : Prop := jc b n T L W nl s0 i s ∧ jN N s ∧ rwC C s ∧ (gc_F s 28 13 = nI st ∧ gc_F s 28 14 = nI dp ∧ gc_F s 28 15 = nI id ∧ gc_F s 28 7 = nI o)
def kA (b : Nat → Nat) (n T lv : Nat) (W : ld_W) (nl : List (List Nat × Nat × Nat)) (o : Nat) (s0 : gc_St) (i : Nat) (N : List (Nat × Nat)) (C : List Nat) (st dp id : Nat) (s : gc_St) : Prop := kj b n T lv W nl o s0 i s ∧ kN N s ∧ rwR C s ∧ (gc_F s 67 65 = nI st ∧ gc_F s 67 66 = nI dp ∧ gc_F s 67 67 = nI id)
def jP (p sk bs lvl bg : Nat) (s : gc_St) : Prop := gc_F s 28 8 = nI p ∧ gc_F s 28 9 = nI sk ∧ gc_F s 28 10 = nI bs ∧ gc_F s 28 11 = nI lvl ∧ gc_F s 28 12 = nI bg
section Ja
variable {P : gc_Pr} {d : Nat} {s s0 t : gc_St} {Q : gc_TQ} {b : Nat → Nat} {n T L lv i o : Nat} {nl : List (List Nat × Nat × Nat)} {W : ld_W} {N : List (Nat × Nat)} {C : List Nat} {st dp id p sk bs lvl bg : Nat}
/-- only the reader's own cells change -/
theorem jc_28 {A : Nat → Nat → Bool} (h : jc b n T L W nl s0 i s) (g : fr A BJ s t) (hA : ∀ q k, A q k = true → q = 28 ∧ 5 ≤ k ∧ k ≤ 15) : jc b n T L W nl s0 i t := by
  have gJ : fr AJ BJ s t := fr_up g (fun q k z => AJ_iff.mpr (Or.inr (hA q k z))) (fun a z => z)
  have hF : ∀ k, gc_F t 3 k = gc_F s 3 k := fun k => fr_F g (bf fun z => by
    have := (hA 3 k z).1
    omega)
  exact ⟨cpw_fr h.1 g (bf fun z => by have := (hA 3 7 z).1; omega) (fun a a1 a2 => bf fun z => by have := BJ_iff.mp z; omega), fun z => (hF 8).trans (h.2.1 z), fr_trans h.2.2.1 gJ, ⟨(hF 11).trans h.2.2.2.1.1, (hF 12).trans h.2.2.2.1.2.1, (hF 14).trans h.2.2.2.1.2.2.1, (hF 15).trans h.2.2.2.1.2.2.2⟩, stC_fr h.2.2.2.2 gJ⟩
/-- only words were taken -/
theorem jA_3 {i' : Nat} (h : jA b n T L W nl s0 o i N C st dp id s) (g : fr A3 B0 s t) (hc : jc b n T L W nl s0 i' t) : jA b n T L W nl s0 o i' N C st dp id t := by
  have hF : ∀ k, gc_F t 28 k = gc_F s 28 k := fun k => fr_F g rfl
  obtain ⟨_, h1, h2, h3⟩ := h
  refine ⟨hc, ?_, ?_, ?_⟩
  · unfold jN at h1 ⊢
    rw [hF 6, fr_I g rfl, fr_I g rfl]
    exact h1
  · unfold rwC at h2 ⊢
    rw [hF 5, fr_I g rfl]
    exact h2
  · rw [hF 13, hF 14, hF 15, hF 7]
    exact h3
theorem jP_3 (h : jP p sk bs lvl bg s) (g : fr A3 B0 s t) : jP p sk bs lvl bg t := by
  have hF : ∀ k, gc_F t 28 k = gc_F s 28 k := fun k => fr_F g rfl
  unfold jP at h ⊢
  rw [hF 8, hF 9, hF 10, hF 11, hF 12]
  exact h
theorem kj_w {A : Nat → Nat → Bool} (h : kj b n T lv W nl o s0 i s) (g : fr A BK s t) (hA : ∀ q k, A q k = true → q = 67 ∧ ((64 ≤ k ∧ k ≤ 67) ∨ k = 73)) (hb : ∃ c, c ≤ 64 ∧ gc_F t 67 73 = nI c) : kj b n T lv W nl o s0 i t := by
  have gK : fr AK BK s t := fr_up g (fun q k z => AK_iff.mpr ⟨(hA q k z).1, by have := (hA q k z).2; omega⟩) (fun a z => z)
  have hF : ∀ k, k < 64 → gc_F t 67 k = gc_F s 67 k := fun k hk => fr_F g (bf fun z => by
    have := (hA 67 k z).2
    omega)
  exact ⟨rpw_fr h.1 g (bf fun z => by have := (hA 67 12 z).2; omega) (fun a a1 a2 => bf fun z => by have := BK_iff.mp z; omega), ⟨fr_trans h.2.1.1 gK, hb⟩, ⟨(hF 14 (by decide)).trans h.2.2.1.1, (hF 43 (by decide)).trans h.2.2.1.2⟩, stR_fr h.2.2.2 gK⟩
theorem kbd (h : kj b n T lv W nl o s0 i s) (e : gc_F t 67 73 = gc_F s 67 73) : ∃ c, c ≤ 64 ∧ gc_F t 67 73 = nI c := by
  obtain ⟨c, c1, c2⟩ := h.2.1.2
  exact ⟨c, c1, e.trans c2⟩
theorem kA_12 {i' : Nat} (h : kA b n T lv W nl o s0 i N C st dp id s) (g : fr Am12 B0 s t) (hc : kj b n T lv W nl o s0 i' t) : kA b n T lv W nl o s0 i' N C st dp id t := by
  have hF : ∀ k, k ≠ 12 → gc_F t 67 k = gc_F s 67 k := fun k hk => fr_F g (bf fun z => hk (Am12_i z).2)
  obtain ⟨_, h1, h2, h3⟩ := h
  refine ⟨hc, ?_, ?_, ?_⟩
  · unfold kN at h1 ⊢
    rw [hF 64 (by decide), fr_I g rfl, fr_I g rfl]
    exact h1
  · unfold rwR at h2 ⊢
    rw [hF 73 (by decide), fr_I g rfl]
    exact h2
  · rw [hF 65 (by decide), hF 66 (by decide), hF 67 (by decide)]
    exact h3
/-- what must be shown then -/
theorem j_open (hP : gc_Cl P) (hm : gc_Mo P) {p' sk' bs' : Nat} (h : jA b n T L W nl s0 o i N C st dp id s) (hp : jP p sk bs lvl bg s) (hl : N.length < 64) (hQ : ∀ t, jA b n T L W nl s0 o i (N ++ [(sp3 p' sk' bs', lvl + 1)]) C st dp id t → jP p sk bs lvl bg t → Q (some (.int 1)) t) : gc_T P d 0 0 75 0 [.ref 28, .int (nI p'), .int (nI sk'), .int (nI bs')] [] s Q := by
  refine b_X6_open_0 hP hm ?_
  rw [h.2.1.1, nI_clamp (by omega), hp.2.2.2.1, nI_1, nI_1, st_lit 2048, st_lit 8, pk_mul, pk_mul, nI_add, nI_add]
  refine pk_le 64 N.length (fun z => by omega) (fun _ => ⟨vp_in_nI hl (by decide), vp_in_nI hl (by decide), ?_⟩)
  have g : fr (fun q k => Nat.beq q 28 && Nat.beq k 6) BJ s (gc_wF (gc_wI (gc_wI s 29 N.length (nI (2048 * p' + 8 * sk' + bs'))) 30 N.length (nI (lvl + 1))) 28 6 (nI (N.length + 1))) := fr_wF rfl (fr_wI rfl (fr_wI rfl (fr_refl s)))
  have hF : ∀ k, k ≠ 6 → gc_F (gc_wF (gc_wI (gc_wI s 29 N.length (nI (2048 * p' + 8 * sk' + bs'))) 30 N.length (nI (lvl + 1))) 28 6 (nI (N.length + 1))) 28 k = gc_F s 28 k := fun k hk => F_ne _ _ (Or.inr hk)
  obtain ⟨h1, h2, h3, h4⟩ := h
  refine hQ _ ⟨jc_28 h1 g (fun q k z => by rw [Bool.and_eq_true, Nat.beq_eq, Nat.beq_eq] at z; omega), ⟨?_, fun k e he => ?_⟩, ⟨(hF 5 (by decide)).trans h3.1, fun k c hc => ?_⟩, (hF 13 (by decide)).trans h4.1, (hF 14 (by decide)).trans h4.2.1, (hF 15 (by decide)).trans h4.2.2.1, (hF 7 (by decide)).trans h4.2.2.2⟩ ⟨(hF 8 (by decide)).trans hp.1, (hF 9 (by decide)).trans hp.2.1, (hF 10 (by decide)).trans hp.2.2.1, (hF 11 (by decide)).trans hp.2.2.2.1, (hF 12 (by decide)).trans hp.2.2.2.2⟩
  · rw [F_eq, List.length_append]
    rfl
  · show gc_I (gc_wI (gc_wI s 29 N.length (nI (2048 * p' + 8 * sk' + bs'))) 30 N.length (nI (lvl + 1))) 29 k = nI e.1 ∧ gc_I (gc_wI (gc_wI s 29 N.length (nI (2048 * p' + 8 * sk' + bs'))) 30 N.length (nI (lvl + 1))) 30 k = nI e.2
    rcases Nat.lt_trichotomy k N.length with u | u | u
    · rw [List.getElem?_append_left u] at he
      rw [I_ne _ _ (Or.inr (by omega)), I_ne _ _ (Or.inr (by omega)), I_ne _ _ (Or.inr (by omega)), I_ne _ _ (Or.inr (by omega))]
      exact h2.2 k e he
    · rw [u, List.getElem?_append_right (Nat.le_refl _), Nat.sub_self] at he
      have he' : (sp3 p' sk' bs', lvl + 1) = e := by simpa using he
      rw [u, I_ne _ _ (Or.inl (by decide)), I_eq, I_eq, ← he']
      exact ⟨rfl, rfl⟩
    · rw [List.getElem?_eq_none (by rw [List.length_append]; show N.length + 1 ≤ k; omega)] at he
      exact absurd he (by simp)
  · show gc_I (gc_wI (gc_wI s 29 N.length (nI (2048 * p' + 8 * sk' + bs'))) 30 N.length (nI (lvl + 1))) 31 k = nI c
    rw [I_ne _ _ (Or.inl (by decide)), I_ne _ _ (Or.inl (by decide))]
    exact h3.2 k c hc
theorem k_needs (hP : gc_Cl P) (hm : gc_Mo P) {x l : Nat} (h : kA b n T lv W nl o s0 i N C st dp id s) (hl : N.length < 80) (hQ : ∀ t, kA b n T lv W nl o s0 i (N ++ [(x, l)]) C st dp id t → Q none t) : gc_T P d 0 0 259 0 [.ref 67, .int (nI x), .int (nI l)] [] s Q := by
  refine b_X11_needs_0 hP hm ?_
  rw [h.2.1.1, nI_clamp (by omega), nI_1]
  refine ⟨vp_in_nI hl (by decide), vp_in_nI hl (by decide), ?_⟩
  have g : fr (fun q k => Nat.beq q 67 && Nat.beq k 64) BK s (gc_wF (gc_wI (gc_wI s 107 N.length (nI x)) 108 N.length (nI l)) 67 64 (nI (N.length + 1))) := fr_wF rfl (fr_wI rfl (fr_wI rfl (fr_refl s)))
  have hF : ∀ k, k ≠ 64 → gc_F (gc_wF (gc_wI (gc_wI s 107 N.length (nI x)) 108 N.length (nI l)) 67 64 (nI (N.length + 1))) 67 k = gc_F s 67 k := fun k hk => F_ne _ _ (Or.inr hk)
  obtain ⟨h1, h2, h3, h4⟩ := h
  refine hQ _ ⟨kj_w h1 g (fun q k z => by rw [Bool.and_eq_true, Nat.beq_eq, Nat.beq_eq] at z; omega) (kbd h1 (hF 73 (by decide))), ⟨?_, fun k e he => ?_⟩, ⟨(hF 73 (by decide)).trans h3.1, fun k c hc => ?_⟩, (hF 65 (by decide)).trans h4.1, (hF 66 (by decide)).trans h4.2.1, (hF 67 (by decide)).trans h4.2.2⟩
  · rw [F_eq, List.length_append]
    rfl
  · show gc_I (gc_wI (gc_wI s 107 N.length (nI x)) 108 N.length (nI l)) 107 k = nI e.1 ∧ gc_I (gc_wI (gc_wI s 107 N.length (nI x)) 108 N.length (nI l)) 108 k = nI e.2
    rcases Nat.lt_trichotomy k N.length with u | u | u
    · rw [List.getElem?_append_left u] at he
      rw [I_ne _ _ (Or.inr (by omega)), I_ne _ _ (Or.inr (by omega)), I_ne _ _ (Or.inr (by omega)), I_ne _ _ (Or.inr (by omega))]
      exact h2.2 k e he
    · rw [u, List.getElem?_append_right (Nat.le_refl _), Nat.sub_self] at he
      have he' : (x, l) = e := by simpa using he
      rw [u, I_ne _ _ (Or.inl (by decide)), I_eq, I_eq, ← he']
      exact ⟨rfl, rfl⟩
    · rw [List.getElem?_eq_none (by rw [List.length_append]; show N.length + 1 ≤ k; omega)] at he
      exact absurd he (by simp)
  · show gc_I (gc_wI (gc_wI s 107 N.length (nI x)) 108 N.length (nI l)) 109 k = nI c
    rw [I_ne _ _ (Or.inl (by decide)), I_ne _ _ (Or.inl (by decide))]
    exact h3.2 k c hc
/-- a row of OATHS ends -/
theorem j_row0 (hP : gc_Cl P) (hm : gc_Mo P) (h : jA b n T L W nl s0 o i N C st dp id s) (hp : jP p sk bs lvl bg s) (hl : C.length ≤ 64) (hc : ∀ k, k < C.length → C.getD k 0 < 256) (hQ : ∀ t, jA b n T L W nl s0 o i N [] st dp (id + idl C) t → jP p sk bs lvl bg t → Q none t) : gc_T P d 0 0 87 0 [.ref 28, gc_u, gc_u, gc_u] [] s Q := by
  refine j_closeRow hP hm h.2.2.1 hl hc h.2.2.2.2.2.1 fun t t1 t2 t3 => ?_
  have hF : ∀ k, k ≠ 5 → k ≠ 15 → gc_F t 28 k = gc_F s 28 k := fun k a1 a2 => fr_F t1 (bf fun z => by
    unfold A28 at z
    rw [Bool.and_eq_true, Bool.or_eq_true, Nat.beq_eq, Nat.beq_eq, Nat.beq_eq] at z
    omega)
  have hI : ∀ a, gc_I t a = gc_I s a := fun a => fr_I t1 rfl
  obtain ⟨h1, h2, h3, h4⟩ := h
  refine hQ t ⟨jc_28 h1 (fr_up t1 (fun _ _ z => z) (fun a z => (B0_f z).elim)) (fun q k z => by
    unfold A28 at z
    rw [Bool.and_eq_true, Bool.or_eq_true, Nat.beq_eq, Nat.beq_eq, Nat.beq_eq] at z
    omega), ⟨(hF 6 (by decide) (by decide)).trans h2.1, by rw [hI 29, hI 30]; exact h2.2⟩, ⟨t2, fun k c hk => absurd hk (by simp)⟩, (hF 13 (by decide) (by decide)).trans h4.1, (hF 14 (by decide) (by decide)).trans h4.2.1, t3, (hF 7 (by decide) (by decide)).trans h4.2.2.2⟩ ⟨(hF 8 (by decide) (by decide)).trans hp.1, (hF 9 (by decide) (by decide)).trans hp.2.1, (hF 10 (by decide) (by decide)).trans hp.2.2.1, (hF 11 (by decide) (by decide)).trans hp.2.2.2.1, (hF 12 (by decide) (by decide)).trans hp.2.2.2.2⟩
theorem k_row0 (hP : gc_Cl P) (hm : gc_Mo P) (h : kA b n T lv W nl o s0 i N C st dp id s) (hl : C.length ≤ 64) (hc : ∀ k, k < C.length → C.getD k 0 < 256) (hQ : ∀ t, kA b n T lv W nl o s0 i N [] st dp (id + idl C) t → Q none t) : gc_T P d 0 0 261 0 [.ref 67, gc_u, gc_u, gc_u] [] s Q := by
  refine k_endsChain hP hm h.2.2.1 hl hc h.2.2.2.2.2 fun t t1 t2 t3 => ?_
  have hF : ∀ k, k ≠ 73 → k ≠ 67 → gc_F t 67 k = gc_F s 67 k := fun k a1 a2 => fr_F t1 (bf fun z => by
    unfold A67c at z
    rw [Bool.and_eq_true, Bool.or_eq_true, Nat.beq_eq, Nat.beq_eq, Nat.beq_eq] at z
    omega)
  have hI : ∀ a, gc_I t a = gc_I s a := fun a => fr_I t1 rfl
  obtain ⟨h1, h2, h3, h4⟩ := h
  exact hQ t ⟨kj_w h1 (fr_up t1 (fun _ _ z => z) (fun a z => (B0_f z).elim)) (fun q k z => by
    unfold A67c at z
    rw [Bool.and_eq_true, Bool.or_eq_true, Nat.beq_eq, Nat.beq_eq, Nat.beq_eq] at z
    omega) ⟨0, by decide, t2⟩, ⟨(hF 64 (by decide) (by decide)).trans h2.1, by rw [hI 107, hI 108]; exact h2.2⟩, ⟨t2, fun k c hk => absurd hk (by simp)⟩, (hF 65 (by decide) (by decide)).trans h4.1, (hF 66 (by decide) (by decide)).trans h4.2.1, t3⟩
/-- one STOCK more of a row of OATHS -/
theorem j_addRow (hP : gc_Cl P) (hm : gc_Mo P) {x : Nat} (h : jA b n T L W nl s0 o i N C st dp id s) (hp : jP p sk bs lvl bg s) (hl : C.length < 64) (hQ : ∀ t, jA b n T L W nl s0 o i N (C ++ [x]) st dp id t → jP p sk bs lvl bg t → Q none t) : gc_T P d 0 0 86 0 [.ref 28, .int (nI x)] [] s Q := by
  refine b_X6_addToRow_0 hP hm ?_
  rw [h.2.2.1.1, nI_clamp (by omega), nI_1]
  refine pk_le 64 C.length (fun z => by omega) (fun _ => ⟨vp_in_nI hl (by decide), ?_⟩)
  have g : fr (fun q k => Nat.beq q 28 && Nat.beq k 5) BJ s (gc_wF (gc_wI s 31 C.length (nI x)) 28 5 (nI (C.length + 1))) := fr_wF rfl (fr_wI rfl (fr_refl s))
  have hF : ∀ k, k ≠ 5 → gc_F (gc_wF (gc_wI s 31 C.length (nI x)) 28 5 (nI (C.length + 1))) 28 k = gc_F s 28 k := fun k hk => F_ne _ _ (Or.inr hk)
  obtain ⟨h1, h2, h3, h4⟩ := h
  refine hQ _ ⟨jc_28 h1 g (fun q k z => by rw [Bool.and_eq_true, Nat.beq_eq, Nat.beq_eq] at z; omega), ⟨(hF 6 (by decide)).trans h2.1, fun k e he => ?_⟩, ⟨?_, fun k c hc => ?_⟩, (hF 13 (by decide)).trans h4.1, (hF 14 (by decide)).trans h4.2.1, (hF 15 (by decide)).trans h4.2.2.1, (hF 7 (by decide)).trans h4.2.2.2⟩ ⟨(hF 8 (by decide)).trans hp.1, (hF 9 (by decide)).trans hp.2.1, (hF 10 (by decide)).trans hp.2.2.1, (hF 11 (by decide)).trans hp.2.2.2.1, (hF 12 (by decide)).trans hp.2.2.2.2⟩
  · show gc_I (gc_wI s 31 C.length (nI x)) 29 k = nI e.1 ∧ gc_I (gc_wI s 31 C.length (nI x)) 30 k = nI e.2
    rw [I_ne _ _ (Or.inl (by decide)), I_ne _ _ (Or.inl (by decide))]
    exact h2.2 k e he
  · rw [F_eq, List.length_append]
    rfl
  · show gc_I (gc_wI s 31 C.length (nI x)) 31 k = nI c
    rcases Nat.lt_trichotomy k C.length with u | u | u
    · rw [List.getElem?_append_left u] at hc
      rw [I_ne _ _ (Or.inr (by omega))]
      exact h3.2 k c hc
    · rw [u, List.getElem?_append_right (Nat.le_refl _), Nat.sub_self] at hc
      have he' : x = c := by simpa using hc
      rw [u, I_eq, he']
    · rw [List.getElem?_eq_none (by rw [List.length_append]; show C.length + 1 ≤ k; omega)] at hc
      exact absurd hc (by simp)
theorem k_links (hP : gc_Cl P) (hm : gc_Mo P) {x : Nat} (h : kA b n T lv W nl o s0 i N C st dp id s) (hl : C.length < 64) (hQ : ∀ t, kA b n T lv W nl o s0 i N (C ++ [x]) st dp id t → Q none t) : gc_T P d 0 0 267 0 [.ref 67, .int (nI x)] [] s Q := by
  refine b_X11_links_0 hP hm ?_
  rw [h.2.2.1.1, nI_clamp (by omega), nI_1]
  refine ⟨vp_in_nI (by omega) (by decide), ?_⟩
  have g : fr (fun q k => Nat.beq q 67 && Nat.beq k 73) BK s (gc_wF (gc_wI s 109 C.length (nI x)) 67 73 (nI (C.length + 1))) := fr_wF rfl (fr_wI rfl (fr_refl s))
  have hF : ∀ k, k ≠ 73 → gc_F (gc_wF (gc_wI s 109 C.length (nI x)) 67 73 (nI (C.length + 1))) 67 k = gc_F s 67 k := fun k hk => F_ne _ _ (Or.inr hk)
  obtain ⟨h1, h2, h3, h4⟩ := h
  refine hQ _ ⟨kj_w h1 g (fun q k z => by rw [Bool.and_eq_true, Nat.beq_eq, Nat.beq_eq] at z; omega) ⟨C.length + 1, by omega, F_eq _ _ _ _⟩, ⟨(hF 64 (by decide)).trans h2.1, fun k e he => ?_⟩, ⟨?_, fun k c hc => ?_⟩, (hF 65 (by decide)).trans h4.1, (hF 66 (by decide)).trans h4.2.1, (hF 67 (by decide)).trans h4.2.2⟩
  · show gc_I (gc_wI s 109 C.length (nI x)) 107 k = nI e.1 ∧ gc_I (gc_wI s 109 C.length (nI x)) 108 k = nI e.2
    rw [I_ne _ _ (Or.inl (by decide)), I_ne _ _ (Or.inl (by decide))]
    exact h2.2 k e he
  · rw [F_eq, List.length_append]
    rfl
  · show gc_I (gc_wI s 109 C.length (nI x)) 109 k = nI c
    rcases Nat.lt_trichotomy k C.length with u | u | u
    · rw [List.getElem?_append_left u] at hc
      rw [I_ne _ _ (Or.inr (by omega))]
      exact h3.2 k c hc
    · rw [u, List.getElem?_append_right (Nat.le_refl _), Nat.sub_self] at hc
      have he' : x = c := by simpa using hc
      rw [u, I_eq, he']
    · rw [List.getElem?_eq_none (by rw [List.length_append]; show C.length + 1 ≤ k; omega)] at hc
      exact absurd hc (by simp)
/-- the kind of POINT that a step is of -/
def kdF (k : Nat) : Nat := [0, 1, 2, 3, 3, 4, 5, 6, 7].getD k 99
/-- what a step's first word says -/
def stF (b : Nat → Nat) (n i : Nat) (W : ld_W) (p lvl : Nat) : (Nat × Nat) ⊕ Nat := match stp b n i with
  | none => .inl (1, tk_st b n i)
  | some k => if i < 400 ∧ lvl ≤ 60 then (if k ≠ 9 ∧ kdF k ≠ ld_kd W p then .inl (6, tk_st b n i) else .inr k) else .inl (2, tk_st b n i)
theorem stp_k {k : Nat} (h : stp b n i = some k) : k < 10 ∧ rk b n i ≠ 0 ∧ ∃ c kk', kk c kk' ∧ rk b n i = kk' := by
  unfold stp at h
  split at h
  · rename_i e
    refine ⟨stN_lt h, ?_, ?_⟩
    · rcases e with e | e | e <;> rw [e] <;> decide
    · rcases e with e | e | e
      · exact ⟨_, _, kk_name, e⟩
      · exact ⟨_, _, kk_rest, e⟩
      · exact ⟨_, _, kk_ever, e⟩
  · exact absurd h (by simp)
theorem j_kindFor (hP : gc_Cl P) (hm : gc_Mo P) {k : Nat} (hk : k < 9) (hQ : Q (some (.int (nI (kdF k)))) s) : gc_T P d 0 0 78 0 [.int (nI k)] [] s Q := by
  refine b_X6_kindFor_0 hP hm ?_
  rcases (by omega : k = 0 ∨ k = 1 ∨ k = 2 ∨ k = 3 ∨ k = 4 ∨ k = 5 ∨ k = 6 ∨ k = 7 ∨ k = 8) with rfl | rfl | rfl | rfl | rfl | rfl | rfl | rfl | rfl
  · exact ⟨fun _ => hQ, fun z => absurd z (by decide), fun z => absurd z (by decide), fun z => absurd z (by decide), fun z => absurd z (by decide), fun z => absurd z (by decide), fun z => absurd z (by decide), fun z => absurd z (by decide), fun z => absurd z (by decide), fun z => absurd z (by decide)⟩
  · exact ⟨fun z => absurd z (by decide), fun _ => hQ, fun z => absurd z (by decide), fun z => absurd z (by decide), fun z => absurd z (by decide), fun z => absurd z (by decide), fun z => absurd z (by decide), fun z => absurd z (by decide), fun z => absurd z (by decide), fun z => absurd z (by decide)⟩
  · exact ⟨fun z => absurd z (by decide), fun z => absurd z (by decide), fun _ => hQ, fun z => absurd z (by decide), fun z => absurd z (by decide), fun z => absurd z (by decide), fun z => absurd z (by decide), fun z => absurd z (by decide), fun z => absurd z (by decide), fun z => absurd z (by decide)⟩
  · exact ⟨fun z => absurd z (by decide), fun z => absurd z (by decide), fun z => absurd z (by decide), fun _ => hQ, fun z => absurd z (by decide), fun z => absurd z (by decide), fun z => absurd z (by decide), fun z => absurd z (by decide), fun z => absurd z (by decide), fun z => absurd z (by decide)⟩
  · exact ⟨fun z => absurd z (by decide), fun z => absurd z (by decide), fun z => absurd z (by decide), fun z => absurd z (by decide), fun _ => hQ, fun z => absurd z (by decide), fun z => absurd z (by decide), fun z => absurd z (by decide), fun z => absurd z (by decide), fun z => absurd z (by decide)⟩
  · exact ⟨fun z => absurd z (by decide), fun z => absurd z (by decide), fun z => absurd z (by decide), fun z => absurd z (by decide), fun z => absurd z (by decide), fun _ => hQ, fun z => absurd z (by decide), fun z => absurd z (by decide), fun z => absurd z (by decide), fun z => absurd z (by decide)⟩
  · exact ⟨fun z => absurd z (by decide), fun z => absurd z (by decide), fun z => absurd z (by decide), fun z => absurd z (by decide), fun z => absurd z (by decide), fun z => absurd z (by decide), fun _ => hQ, fun z => absurd z (by decide), fun z => absurd z (by decide), fun z => absurd z (by decide)⟩
  · exact ⟨fun z => absurd z (by decide), fun z => absurd z (by decide), fun z => absurd z (by decide), fun z => absurd z (by decide), fun z => absurd z (by decide), fun z => absurd z (by decide), fun z => absurd z (by decide), fun _ => hQ, fun z => absurd z (by decide), fun z => absurd z (by decide)⟩
  · exact ⟨fun z => absurd z (by decide), fun z => absurd z (by decide), fun z => absurd z (by decide), fun z => absurd z (by decide), fun z => absurd z (by decide), fun z => absurd z (by decide), fun z => absurd z (by decide), fun z => absurd z (by decide), fun _ => hQ, fun z => absurd z (by decide)⟩
theorem k_kindOf (hP : gc_Cl P) (hm : gc_Mo P) {k : Nat} (hk : k < 10) (hQ : Q (some (.int (if k = 9 then -1 else nI (kdF k)))) s) : gc_T P d 0 0 263 0 [.int (nI k)] [] s Q := by
  refine b_X11_kindOf_0 hP hm ?_
  rcases (by omega : k = 0 ∨ k = 1 ∨ k = 2 ∨ k = 3 ∨ k = 4 ∨ k = 5 ∨ k = 6 ∨ k = 7 ∨ k = 8 ∨ k = 9) with rfl | rfl | rfl | rfl | rfl | rfl | rfl | rfl | rfl | rfl
  · exact ⟨fun z => absurd z (by decide), fun z => absurd z (by decide), fun z => absurd z (by decide), fun z => absurd z (by decide), fun z => absurd z (by decide), fun z => absurd z (by decide), fun z => absurd z (by decide), fun _ => hQ⟩
  · exact ⟨fun z => absurd z (by decide), fun z => absurd z (by decide), fun z => absurd z (by decide), fun z => absurd z (by decide), fun z => absurd z (by decide), fun z => absurd z (by decide), fun z => absurd z (by decide), fun _ => hQ⟩
  · exact ⟨fun z => absurd z (by decide), fun z => absurd z (by decide), fun z => absurd z (by decide), fun z => absurd z (by decide), fun z => absurd z (by decide), fun z => absurd z (by decide), fun z => absurd z (by decide), fun _ => hQ⟩
  · exact ⟨fun _ => hQ, fun z => absurd z (by decide), fun z => absurd z (by decide), fun z => absurd z (by decide), fun z => absurd z (by decide), fun z => absurd z (by decide), fun z => absurd z (by decide), fun z => absurd z (by decide)⟩
  · exact ⟨fun z => absurd z (by decide), fun _ => hQ, fun z => absurd z (by decide), fun z => absurd z (by decide), fun z => absurd z (by decide), fun z => absurd z (by decide), fun z => absurd z (by decide), fun z => absurd z (by decide)⟩
  · exact ⟨fun z => absurd z (by decide), fun z => absurd z (by decide), fun _ => hQ, fun z => absurd z (by decide), fun z => absurd z (by decide), fun z => absurd z (by decide), fun z => absurd z (by decide), fun z => absurd z (by decide)⟩
  · exact ⟨fun z => absurd z (by decide), fun z => absurd z (by decide), fun z => absurd z (by decide), fun _ => hQ, fun z => absurd z (by decide), fun z => absurd z (by decide), fun z => absurd z (by decide), fun z => absurd z (by decide)⟩
  · exact ⟨fun z => absurd z (by decide), fun z => absurd z (by decide), fun z => absurd z (by decide), fun z => absurd z (by decide), fun _ => hQ, fun z => absurd z (by decide), fun z => absurd z (by decide), fun z => absurd z (by decide)⟩
  · exact ⟨fun z => absurd z (by decide), fun z => absurd z (by decide), fun z => absurd z (by decide), fun z => absurd z (by decide), fun z => absurd z (by decide), fun _ => hQ, fun z => absurd z (by decide), fun z => absurd z (by decide)⟩
  · exact ⟨fun z => absurd z (by decide), fun z => absurd z (by decide), fun z => absurd z (by decide), fun z => absurd z (by decide), fun z => absurd z (by decide), fun z => absurd z (by decide), fun _ => hQ, fun z => absurd z (by decide)⟩
end Ja
