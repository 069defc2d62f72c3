/-! judge: step after step, by both. -/
def skI (W : ld_W) (N : List (Nat × Nat)) (C : List Nat) : Prop := (∀ k e, N[k]? = some e → (∃ p sk bs, e.1 = sp3 p sk bs ∧ p < ld_p W ∧ sk < ld_N W ∧ bs < ld_B W) ∧ k + 1 ≤ e.2 ∧ e.2 ≤ 61) ∧ (C = [] ∨ ∃ N' e, N = N' ++ [e] ∧ C.length ≤ e.2) ∧ ∀ k, k < C.length → C.getD k 0 < 256
theorem lst_last {α : Type} : ∀ (N : List α), N ≠ [] → ∃ N' e, N = N' ++ [e]
  | [], h => absurd rfl h
  | [a], _ => ⟨[], a, rfl⟩
  | a :: c :: t, _ => by
    obtain ⟨N', e, h⟩ := lst_last (c :: t) (by simp)
    exact ⟨a :: N', e, by rw [h]; rfl⟩
theorem io49 : gc_io 1 49 := ⟨by decide, rfl⟩
theorem lst_snoc {α : Type} {N N' : List α} {e e' : α} (h : N ++ [e] = N' ++ [e']) : N = N' ∧ e = e' := by
  have := List.append_inj' h rfl
  exact ⟨this.1, by simpa using this.2⟩
theorem skI_step {W : ld_W} {N : List (Nat × Nat)} {C C' : List Nat} {x lvl : Nat} {ps : List (Nat × Nat × Nat)} (h : skI W (N ++ [(x, lvl)]) C) (hl : lvl ≤ 60) (hps : okP W ps) (hC : C' = [] ∨ (ps.length = 1 ∧ C'.length ≤ max 2 (C.length + 1))) (hCc : ∀ k, k < C'.length → C'.getD k 0 < 256) : skI W (pu N ps (lvl + 1)) C' := by
  obtain ⟨h1, h2, h3⟩ := h
  have htop := (h1 N.length _ (lst_N N _)).2.1
  have htop' : N.length + 1 ≤ lvl := htop
  refine ⟨fun k e he => ?_, ?_, hCc⟩
  · unfold pu at he
    rcases Nat.lt_or_ge k N.length with z | z
    · rw [List.getElem?_append_left z] at he
      exact h1 k e (lst_lt he)
    · rw [List.getElem?_append_right z, List.getElem?_map] at he
      cases hq : ps[k - N.length]? with
      | none =>
        rw [hq] at he
        exact absurd he (by simp)
      | some q =>
        rw [hq] at he
        have he' : (sp3 q.1 q.2.1 q.2.2, lvl + 1) = e := by simpa using he
        have hkl := (List.getElem?_eq_some_iff.mp hq).1
        have hq2 := hps.2 q (List.mem_of_getElem? hq)
        have hpl := hps.1
        rw [← he']
        exact ⟨⟨q.1, q.2.1, q.2.2, rfl, hq2⟩, by show k + 1 ≤ lvl + 1; omega, by show lvl + 1 ≤ 61; omega⟩
  · rcases hC with z | ⟨z1, z2⟩
    · exact Or.inl z
    · refine Or.inr ?_
      match ps, z1 with
      | [q], _ =>
        refine ⟨N, (sp3 q.1 q.2.1 q.2.2, lvl + 1), rfl, ?_⟩
        show C'.length ≤ lvl + 1
        rcases h2 with y | ⟨N', e, y1, y2⟩
        · rw [y] at z2
          have : C'.length ≤ max 2 1 := z2
          omega
        · have := (lst_snoc y1).2
          rw [← this] at y2
          have y2' : C.length ≤ lvl := y2
          omega
abbrev lRes : Type := (Nat × Nat) ⊕ (Nat × Nat × Nat × Nat)
section Lp
variable {b : Nat → Nat} {n Tc Tr L lv o : Nat} {nl : List (List Nat × Nat × Nat)} {W : ld_W}
theorem j_loop (hlt : ∀ j, b j < 256) (hnd : ndN nl) (hnl : nli W nl) (hok : ld_ok W) (ho : o < 8) : ∀ f i N C st dp id, 401 ≤ i + f → skI W N C → dp ≤ 61 → ∃ res : lRes, (∀ (P : gc_Pr) (d : Nat) (s s0 : gc_St) (Q : gc_TQ) (l2 : Int32) (k : Nat), gc_Cl P → gc_Mo P → 7 ≤ d → jA b n Tc L W nl s0 o i N C st dp id s → k ≤ i → (∀ e, res = .inl e → ∀ t l4, jF s0 e.1 e.2 t → gc_T P d 0 0 74 87 [.ref 28, .ref 49, .int l2, .int 0, .int l4] [] t Q) → (∀ e, res = .inr e → ∀ t l4, jA b n Tc L W nl s0 o e.1 [] [] e.2.1 e.2.2.1 e.2.2.2 t → gc_T P d 0 0 74 87 [.ref 28, .ref 49, .int l2, .int 1, .int l4] [] t Q) → gc_T P d 0 0 74 57 [.ref 28, .ref 49, .int l2, .int 1, .int (nI k)] [] s Q) ∧ (∀ (P : gc_Pr) (d : Nat) (s s0 : gc_St) (Q : gc_TQ) (l1 : Int32), gc_Cl P → gc_Mo P → 7 ≤ d → kA b n Tr lv W nl o s0 i N C st dp id s → (∀ e, res = .inl e → ∀ t, kF' s0 e.1 e.2 t → gc_T P d 0 0 260 75 [.ref 67, .int l1] [] t Q) → (∀ e, res = .inr e → ∀ t, kA b n Tr lv W nl o s0 e.1 [] [] e.2.1 e.2.2.1 e.2.2.2 t → gc_T P d 0 0 260 75 [.ref 67, .int l1] [] t Q) → gc_T P d 0 0 260 54 [.ref 67, .int l1] [] s Q) := by
  intro f
  induction f with
  | zero =>
    intro i N C st dp id hf _ _
    refine ⟨.inl (1, 0), fun P d s s0 Q l2 k hP hm hd h => ?_, fun P d s s0 Q l1 hP hm hd h => ?_⟩
    · have := jc_i h.1
      omega
    · have := kj_i h.1
      omega
  | succ f ih =>
    intro i N C st dp id hf hI hdp
    by_cases hN0 : N = []
    · have hC0 : C = [] := by
        rcases hI.2.1 with z | ⟨N', e, z, _⟩
        · exact z
        · rw [hN0] at z
          exact absurd z (by simp)
      rw [hN0, hC0]
      refine ⟨.inr (i, st, dp, id), fun P d s s0 Q l2 k hP hm hd h hki hb hg => ?_, fun P d s s0 Q l1 hP hm hd h hb hg => ?_⟩
      · have h400 := jc_i h.1
        refine b_X6_check_57 hP hm io49 (pk_lt 400 k (fun z => by omega) (fun _ => ⟨fun z => absurd z (by decide), fun _ => ?_⟩))
        rw [h.2.1.1]
        exact ⟨fun _ => hg _ rfl s _ h, fun z => absurd (by decide) z⟩
      · refine b_X11_judge_54 hP hm ⟨fun z => absurd h.1.2.2.1.1 z, fun _ => ?_⟩
        rw [h.2.1.1]
        exact ⟨fun _ => hg _ rfl s h, fun z => absurd (by decide) z⟩
    · obtain ⟨N', e, hNe⟩ := lst_last N hN0
      obtain ⟨x, lvl⟩ := e
      rw [hNe] at hI
      obtain ⟨⟨p, sk, bs, hx, hp, hsk, hbs⟩, hl1, hl2⟩ := hI.1 N'.length _ (lst_N N' _)
      have hl1' : N'.length + 1 ≤ lvl := hl1
      have hl2' : lvl ≤ 61 := hl2
      have hx' : x = sp3 p sk bs := hx
      have hCl : C.length ≤ lvl := by
        rcases hI.2.1 with z | ⟨N1, e1, y1, y2⟩
        · rw [z]
          exact Nat.zero_le _
        · have := (lst_snoc y1).2
          rw [← this] at y2
          exact y2
      obtain ⟨r, a1, a2, a3⟩ := j_one (Tc := Tc) (Tr := Tr) (L := L) (lv := lv) (lvl := lvl) (i := i) (b := b) (n := n) hlt hnd hnl hok ho hp hsk hbs (by omega) (by omega) hI.2.2
      rw [hNe, hx']
      rw [hx'] at hI
      -- the class up to what a step comes to
      have toC : ∀ (P : gc_Pr) (d : Nat) (s s0 : gc_St) (Q : gc_TQ) (l2 : Int32) (k : Nat), gc_Cl P → gc_Mo P → 7 ≤ d → jA b n Tc L W nl s0 o i (N' ++ [(sp3 p sk bs, lvl)]) C st dp id s → k ≤ i → (∀ e, r = .inl e → ∀ t, jF s0 e.1 e.2 t → gc_T P d 0 0 74 57 [.ref 28, .ref 49, .int l2, .int 0, .int (nI k + 1)] [] t Q) → (∀ e, r = .inr e → ∀ t, jA b n Tc L W nl s0 o e.1 (pu N' e.2.1 (lvl + 1)) e.2.2.1 (st + 1) (max dp lvl) (id + e.2.2.2) t → gc_T P d 0 0 74 57 [.ref 28, .ref 49, .int l2, .int 1, .int (nI (k + 1))] [] t Q) → gc_T P d 0 0 74 57 [.ref 28, .ref 49, .int l2, .int 1, .int (nI k)] [] s Q := by
        intro P d s s0 Q l2 k hP hm hd h hki hb hg
        have h400 := jc_i h.1
        refine b_X6_check_57 hP hm io49 (pk_lt 400 k (fun z => by omega) (fun _ => ⟨fun z => absurd z (by decide), fun _ => ?_⟩))
        rw [h.2.1.1, List.length_append]
        refine ⟨fun z => absurd z (nI_nle (n := N'.length + 1) (by omega) (by omega)), fun _ => ⟨by omega, a2 P (d - 1) s s0 _ N' st dp id hP hm (by omega) (by omega) (by omega) h (fun e he t t1 => hb e he t t1) (fun e he t t1 => ?_)⟩⟩
        show gc_T P d 0 0 74 57 [.ref 28, .ref 49, .int l2, .int 1, .int (nI k + 1)] [] t Q
        rw [nI_1]
        exact hg e he t t1
      have toR : ∀ (P : gc_Pr) (d : Nat) (s s0 : gc_St) (Q : gc_TQ) (l1 : Int32), gc_Cl P → gc_Mo P → 7 ≤ d → kA b n Tr lv W nl o s0 i (N' ++ [(sp3 p sk bs, lvl)]) C st dp id s → (∀ e, r = .inl e → ∀ t, kF' s0 e.1 e.2 t → gc_T P d 0 0 260 54 [.ref 67, .int l1] [] t Q) → (∀ e, r = .inr e → ∀ t, kA b n Tr lv W nl o s0 e.1 (pu N' e.2.1 (lvl + 1)) e.2.2.1 (st + 1) (max dp lvl) (id + e.2.2.2) t → gc_T P d 0 0 260 54 [.ref 67, .int l1] [] t Q) → gc_T P d 0 0 260 54 [.ref 67, .int l1] [] s Q := by
        intro P d s s0 Q l1 hP hm hd h hb hg
        refine b_X11_judge_54 hP hm ⟨fun z => absurd h.1.2.2.1.1 z, fun _ => ?_⟩
        rw [h.2.1.1, List.length_append]
        exact ⟨fun z => absurd z (nI_nle (n := N'.length + 1) (by omega) (by omega)), fun _ => ⟨by omega, a3 P (d - 1) s s0 _ N' st dp id hP hm (by omega) (by omega) (by omega) h (fun e he t t1 => hb e he t t1) (fun e he t t1 => hg e he t t1)⟩⟩
      cases r with
      | inl e =>
        refine ⟨.inl e, fun P d s s0 Q l2 k hP hm hd h hki hb hg => toC P d s s0 Q l2 k hP hm hd h hki (fun e' he' t t1 => ?_) (fun e' he' => absurd he' (by simp)), fun P d s s0 Q l1 hP hm hd h hb hg => toR P d s s0 Q l1 hP hm hd h (fun e' he' t t1 => ?_) (fun e' he' => absurd he' (by simp))⟩
        · have ee : e = e' := by simpa using he'
          rw [← ee] at t1
          have g87 := hb e rfl t (nI k + 1) t1
          exact b_X6_check_57 hP hm io49 ⟨fun _ => g87, fun _ => ⟨fun _ => g87, fun z => absurd rfl z⟩⟩
        · have ee : e = e' := by simpa using he'
          rw [← ee] at t1
          exact b_X11_judge_54 hP hm ⟨fun _ => hb e rfl t t1, fun z => absurd z (kF_n t1).1⟩
      | inr e =>
        obtain ⟨i', ps, C', a⟩ := e
        obtain ⟨c1, c2, c3, c4, c5⟩ := a1 (i', ps, C', a) rfl
        have c1' : i < i' := c1
        obtain ⟨res, p1, p2⟩ := ih i' (pu N' ps (lvl + 1)) C' (st + 1) (max dp lvl) (id + a) (by omega) (skI_step hI c2 c3 c4 c5) (by omega)
        refine ⟨res, fun P d s s0 Q l2 k hP hm hd h hki hb hg => toC P d s s0 Q l2 k hP hm hd h hki (fun e' he' => absurd he' (by simp)) (fun e' he' t t1 => ?_), fun P d s s0 Q l1 hP hm hd h hb hg => toR P d s s0 Q l1 hP hm hd h (fun e' he' => absurd he' (by simp)) (fun e' he' t t1 => ?_)⟩
        · have ee : (i', ps, C', a) = e' := by simpa using he'
          rw [← ee] at t1
          exact p1 P d t s0 Q l2 (k + 1) hP hm hd t1 (by omega) hb hg
        · have ee : (i', ps, C', a) = e' := by simpa using he'
          rw [← ee] at t1
          exact p2 P d t s0 Q l1 hP hm hd t1 hb hg
end Lp
section En
variable {P : gc_Pr} {d : Nat} {s : gc_St} {Q : gc_TQ} {c : Nat}
/-- the row ends where a fault is -/
theorem k_endsAny (hP : gc_Cl P) (hm : gc_Mo P) (hc : c ≤ 64) (h73 : gc_F s 67 73 = nI c) (hQ : ∀ t, fr A67c B0 s t → Q none t) : gc_T P d 0 0 261 0 [.ref 67, gc_u, gc_u, gc_u] [] s Q := by
  refine b_X11_endsChain_0 hP hm ?_
  have outer : ∀ f i u (l2 l3 : Value), i ≤ c → c ≤ i + f → fr A67c B0 s u → gc_F u 67 73 = nI c → gc_T P d 0 0 261 2 [.ref 67, .int (nI i), l2, l3] [] u Q := by
    intro f
    induction f with
    | zero =>
      intro i u l2 l3 hic hi g h5
      refine b_X11_endsChain_2 hP hm ?_
      rw [h5, nI_leI (by omega) (by omega)]
      exact ⟨fun _ => hQ _ (fr_wF rfl g), fun z => absurd hi z⟩
    | succ f ih =>
      intro i u l2 l3 hic hi g h5
      refine b_X11_endsChain_2 hP hm ?_
      rw [h5, nI_leI (by omega) (by omega), nI_1]
      refine ⟨fun z => hQ _ (fr_wF rfl g), fun z => ?_⟩
      have inner : ∀ m j last, j + m = c → i ≤ last → last < c → i < j → gc_T P d 0 0 261 16 [.ref 67, .int (nI i), .int (nI last), .int (nI j)] [] u Q := by
        intro m
        induction m with
        | zero =>
          intro j last hj h1 h2 h3
          refine b_X11_endsChain_16 hP hm ?_
          rw [h5, nI_leI (by omega) (by omega), nI_1]
          exact ⟨fun _ => ih (last + 1) _ _ _ (by omega) (by omega) (fr_wF rfl g) ((F_ne _ _ (Or.inr (by decide))).trans h5), fun z => absurd (by omega) z⟩
        | succ m ihm =>
          intro j last hj h1 h2 h3
          refine b_X11_endsChain_16 hP hm ?_
          rw [h5, nI_leI (by omega) (by omega)]
          refine ⟨fun z => by omega, fun _ => ⟨vp_in_nI (by omega) (by decide), vp_in_nI (by omega) (by decide), fun z => b_X11_endsChain_41 hP hm ?_, fun z => b_X11_endsChain_41 hP hm ?_⟩⟩
          · rw [nI_1]
            exact ihm (j + 1) last (by omega) h1 h2 (by omega)
          · rw [nI_1]
            exact ihm (j + 1) j (by omega) (by omega) (by omega) (by omega)
      exact inner (c - (i + 1)) (i + 1) i (by omega) (Nat.le_refl _) (by omega) (Nat.lt_succ_self _)
  exact outer c 0 s _ _ (Nat.zero_le _) (by omega) (fr_refl s) h73
end En
