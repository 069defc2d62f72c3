/-! judge: a whole step, by both. -/
abbrev oRes : Type := (Nat × Nat) ⊕ (Nat × List (Nat × Nat × Nat) × List Nat × Nat)
def okP (W : ld_W) (ps : List (Nat × Nat × Nat)) : Prop := ps.length ≤ 2 ∧ ∀ q, q ∈ ps → q.1 < ld_p W ∧ q.2.1 < ld_N W ∧ q.2.2 < ld_B W
theorem usO_ok {W : ld_W} {o p sk bs k : Nat} {C : List Nat} {bg : Nat} {e : List (Nat × Nat × Nat) × List Nat × Nat} (hok : ld_ok W) (hk : k < ld_o W) (hp : p < ld_p W) (hsk : sk < ld_N W) (hbs : bs < ld_B W) (hC : ∀ k, k < C.length → C.getD k 0 < 256) (h : usO W o p sk bs k C bg = .inr e) : okP W e.1 ∧ e.1.length = 1 ∧ e.2.1.length ≤ max 2 (C.length + 1) ∧ ∀ k, k < e.2.1.length → e.2.1.getD k 0 < 256 := by
  have hN := ld_N_le hok
  unfold usO at h
  by_cases zb : o / 2 ^ k % 2 = 1
  · rw [if_pos zb] at h
    cases hdo : ld_do W k sk with
    | none =>
      rw [hdo] at h
      exact absurd h (by simp)
    | some r =>
      rw [hdo] at h
      have hr := (ld_do_N hok (Or.inl hk) hsk (t := r.1) (o := r.2) hdo).1
      have e1 : ([(p, r.1, bs)], (if C.length = 0 then [sk] else C) ++ [r.1], 0) = e := by
        have := h
        simpa using this
      rw [← e1]
      refine ⟨⟨by simp, fun q hq => ?_⟩, rfl, ?_, ?_⟩
      · rw [List.mem_singleton.mp hq]
        exact ⟨hp, hr, hbs⟩
      · show ((if C.length = 0 then [sk] else C) ++ [r.1]).length ≤ _
        rw [List.length_append]
        by_cases z : C.length = 0
        · rw [if_pos z]
          show 2 ≤ _
          omega
        · rw [if_neg z]
          show C.length + 1 ≤ _
          omega
      · have key : ∀ (C1 : List Nat), (∀ k, k < C1.length → C1.getD k 0 < 256) → ∀ k, k < (C1 ++ [r.1]).length → (C1 ++ [r.1]).getD k 0 < 256 := by
          intro C1 h1 j hj
          rw [List.length_append] at hj
          have hj' : j < C1.length + 1 := hj
          rw [List.getD_eq_getElem?_getD]
          rcases Nat.lt_or_ge j C1.length with z | z
          · rw [List.getElem?_append_left z]
            have := h1 j z
            rw [List.getD_eq_getElem?_getD] at this
            exact this
          · rw [show j = C1.length by omega, lst_N]
            show r.1 < 256
            omega
        refine key _ ?_
        by_cases z : C.length = 0
        · rw [if_pos z]
          intro j hj
          have hj' : j < 1 := hj
          rw [show j = 0 by omega]
          show sk < 256
          omega
        · rw [if_neg z]
          exact hC
  · rw [if_neg zb] at h
    exact absurd h (by simp)
theorem usB_ok {W : ld_W} {p sk bs k : Nat} {C : List Nat} {bg : Nat} {e : List (Nat × Nat × Nat) × List Nat × Nat} (hok : ld_ok W) (hk : k < ld_b W) (hp : p < ld_p W) (hsk : sk < ld_N W) (hbs : bs < ld_B W) (h : usB W p sk bs k C bg = .inr e) : okP W e.1 ∧ e.2.1 = [] := by
  unfold usB at h
  have hdl : ld_dl W (3 + k) := Or.inr ⟨by omega, by omega⟩
  by_cases zb : bs / 2 ^ k % 2 = 1
  · rw [if_pos zb] at h
    cases hdo : ld_do W (3 + k) sk with
    | none =>
      rw [hdo] at h
      exact absurd h (by simp)
    | some r =>
      obtain ⟨t, ot⟩ := r
      obtain ⟨hr, hr2, _⟩ := ld_do_N hok hdl hsk hdo
      rw [hdo] at h
      cases ot with
      | none =>
        have e1 : ([(p, t, bs - 2 ^ k)], [], idl C) = e := by
          have := h
          simpa using this
        rw [← e1]
        refine ⟨⟨by simp, fun q hq => ?_⟩, rfl⟩
        rw [List.mem_singleton.mp hq]
        exact ⟨hp, hr, Nat.lt_of_le_of_lt (Nat.sub_le _ _) hbs⟩
      | some t2 =>
        have e1 : ([(p, t2, bs - 2 ^ k), (p, t, bs - 2 ^ k)], [], idl C) = e := by
          have := h
          simpa using this
        have h2 := hr2 t2 rfl
        rw [← e1]
        refine ⟨⟨by simp, fun q hq => ?_⟩, rfl⟩
        rcases List.mem_cons.mp hq with z | z
        · rw [z]
          exact ⟨hp, h2, Nat.lt_of_le_of_lt (Nat.sub_le _ _) hbs⟩
        · rw [List.mem_singleton.mp z]
          exact ⟨hp, hr, Nat.lt_of_le_of_lt (Nat.sub_le _ _) hbs⟩
  · rw [if_neg zb] at h
    exact absurd h (by simp)
theorem usF_ok {b : Nat → Nat} {n i : Nat} {nl : List (List Nat × Nat × Nat)} {W : ld_W} {o p sk bs : Nat} {C : List Nat} {bg : Nat} {e : List (Nat × Nat × Nat) × List Nat × Nat} (hok : ld_ok W) (hnl : nli W nl) (hp : p < ld_p W) (hsk : sk < ld_N W) (hbs : bs < ld_B W) (hC : ∀ k, k < C.length → C.getD k 0 < 256) (h : usF b n i W nl o p sk bs C bg = .inr e) : okP W e.1 ∧ (e.2.1 = [] ∨ (e.1.length = 1 ∧ e.2.1.length ≤ max 2 (C.length + 1))) ∧ ∀ k, k < e.2.1.length → e.2.1.getD k 0 < 256 := by
  unfold usF at h
  cases hs : sT b n i 1 with
  | some x =>
    rw [hs] at h
    exact absurd h (by simp)
  | none =>
    rw [hs] at h
    cases hf : nl.find? (fun e => e.1 == wdi b n i) with
    | none =>
      rw [hf] at h
      exact absurd h (by simp)
    | some f =>
      rw [hf] at h
      have h' : (if f.2.1 = 1 then usO W o p sk bs f.2.2 C bg else if f.2.1 = 2 then usB W p sk bs f.2.2 C bg else .inl (4, tk_st b n i)) = .inr e := h
      obtain ⟨_, _, k2, k3, _⟩ := hnl f (List.mem_of_find?_eq_some hf)
      by_cases z1 : f.2.1 = 1
      · rw [if_pos z1] at h'
        obtain ⟨a1, a2, a3, a4⟩ := usO_ok hok (k2 z1) hp hsk hbs hC h'
        exact ⟨a1, Or.inr ⟨a2, a3⟩, a4⟩
      · rw [if_neg z1] at h'
        by_cases z2 : f.2.1 = 2
        · rw [if_pos z2] at h'
          obtain ⟨a1, a2⟩ := usB_ok hok (k3 z2) hp hsk hbs h'
          refine ⟨a1, Or.inl a2, ?_⟩
          rw [a2]
          exact fun k hk => absurd hk (Nat.not_lt_zero k)
        · rw [if_neg z2] at h'
          exact absurd h' (by simp)
section One
variable {b : Nat → Nat} {n Tc Tr L lv o p sk bs lvl i : Nat} {nl : List (List Nat × Nat × Nat)} {W : ld_W} {C : List Nat}
theorem j_one (hlt : ∀ j, b j < 256) (hnd : ndN nl) (hnl : nli W nl) (hok : ld_ok W) (ho : o < 8) (hp : p < ld_p W) (hsk : sk < ld_N W) (hbs : bs < ld_B W) (hlv : lvl < 1000) (hCl : C.length + 2 ≤ 64) (hC : ∀ k, k < C.length → C.getD k 0 < 256) : ∃ res : oRes, (∀ e, res = .inr e → i < e.1 ∧ lvl ≤ 60 ∧ okP W e.2.1 ∧ (e.2.2.1 = [] ∨ (e.2.1.length = 1 ∧ e.2.2.1.length ≤ max 2 (C.length + 1))) ∧ ∀ k, k < e.2.2.1.length → e.2.2.1.getD k 0 < 256) ∧ (∀ (P : gc_Pr) (d : Nat) (s s0 : gc_St) (Q : gc_TQ) (N : List (Nat × Nat)) (st dp id : Nat), gc_Cl P → gc_Mo P → 6 ≤ d → N.length + 1 < 64 → dp < 1000 → jA b n Tc L W nl s0 o i (N ++ [(sp3 p sk bs, lvl)]) C st dp id s → (∀ e, res = .inl e → ∀ t, jF s0 e.1 e.2 t → Q (some (.int 0)) t) → (∀ e, res = .inr e → ∀ t, jA b n Tc L W nl s0 o e.1 (pu N e.2.1 (lvl + 1)) e.2.2.1 (st + 1) (max dp lvl) (id + e.2.2.2) t → Q (some (.int 1)) t) → gc_T P d 0 0 77 0 [.ref 28, gc_u] [] s Q) ∧ (∀ (P : gc_Pr) (d : Nat) (s s0 : gc_St) (Q : gc_TQ) (N : List (Nat × Nat)) (st dp id : Nat), gc_Cl P → gc_Mo P → 6 ≤ d → N.length + 1 < 64 → dp < 1000 → kA b n Tr lv W nl o s0 i (N ++ [(sp3 p sk bs, lvl)]) C st dp id s → (∀ e, res = .inl e → ∀ t, kF' s0 e.1 e.2 t → Q none t) → (∀ e, res = .inr e → ∀ t, kA b n Tr lv W nl o s0 e.1 (pu N e.2.1 (lvl + 1)) e.2.2.1 (st + 1) (max dp lvl) (id + e.2.2.2) t → Q none t) → gc_T P d 0 0 264 0 [.ref 67, gc_u, gc_u, gc_u, gc_u, gc_u, gc_u, gc_u, gc_u] [] s Q) := by
  have hN256 := ld_N_le hok
  have hB8 := ld_B_le hok
  have hp24 := hok.1.2.2.2.2
  cases hF : stF b n i W p lvl with
  | inl e =>
    refine ⟨.inl e, fun e he => absurd he (by simp), fun P d s s0 Q N st dp id hP hm hd hN hdp h hb hg => ?_, fun P d s s0 Q N st dp id hP hm hd hN hdp h hb hg => ?_⟩
    · refine j_front hP hm (by omega) hlt hp hp24 (by omega) (by omega) (by omega) hlv hdp (by omega) hC h (fun x y hxy t t1 => hb (x, y) ?_ t t1) (fun k hk => absurd (hF.symm.trans hk) (by simp)) (fun hk => absurd (hF.symm.trans hk) (by simp))
      exact congrArg _ (by simpa using hF.symm.trans hxy)
    · refine k_front hP hm (by omega) hlt hp hp24 (by omega) (by omega) (by omega) hlv hdp (by omega) hC h (fun x y hxy t t1 => hb (x, y) ?_ t t1) (fun k hk => absurd (hF.symm.trans hk) (by simp))
      exact congrArg _ (by simpa using hF.symm.trans hxy)
  | inr k =>
    have hkk : k < 10 ∧ lvl ≤ 60 ∧ (k ≠ 9 → kdF k = ld_kd W p) := by
      unfold stF at hF
      cases hst : stp b n i with
      | none =>
        rw [hst] at hF
        exact absurd hF (by simp)
      | some k' =>
        rw [hst] at hF
        have h10 := (stp_k hst).1
        by_cases z : i < 400 ∧ lvl ≤ 60
        · have hF' : (if k' ≠ 9 ∧ kdF k' ≠ ld_kd W p then Sum.inl (6, tk_st b n i) else Sum.inr k') = (Sum.inr k : (Nat × Nat) ⊕ Nat) := by
            have := hF
            simp only [z] at this
            simpa using this
          by_cases zz : k' ≠ 9 ∧ kdF k' ≠ ld_kd W p
          · rw [if_pos zz] at hF'
            exact absurd hF' (by simp)
          · rw [if_neg zz] at hF'
            have e : k' = k := by simpa using hF'
            rw [e] at zz h10
            exact ⟨h10, z.2, fun y => Decidable.byContradiction fun y' => zz ⟨y, y'⟩⟩
        · have : (if i < 400 ∧ lvl ≤ 60 then (if k' ≠ 9 ∧ kdF k' ≠ ld_kd W p then Sum.inl (6, tk_st b n i) else Sum.inr k') else Sum.inl (2, tk_st b n i)) = (Sum.inr k : (Nat × Nat) ⊕ Nat) := hF
          rw [if_neg z] at this
          exact absurd this (by simp)
    obtain ⟨hk10, hl60, hkd⟩ := hkk
    by_cases h9 : k = 9
    · -- USE
      rw [h9] at hF
      cases hu : usF b n (i + 1) W nl o p sk bs C (tk_st b n i) with
      | inl e =>
        refine ⟨.inl e, fun e he => absurd he (by simp), fun P d s s0 Q N st dp id hP hm hd hN hdp h hb hg => ?_, fun P d s s0 Q N st dp id hP hm hd hN hdp h hb hg => ?_⟩
        · refine j_front hP hm (by omega) hlt hp hp24 (by omega) (by omega) (by omega) hlv hdp (by omega) hC h (fun x y hxy => absurd (hF.symm.trans hxy) (by simp)) (fun k' hk' h9' => absurd (by simpa using hF.symm.trans hk') (fun y : 9 = k' => h9' y.symm)) (fun _ t t1 t2 => j_use hP hm (by omega) hlt hnl ho hsk (by omega) hN hCl hC t1 t2 (fun x y hxy u u1 => ⟨Or.inl rfl, hb (x, y) ?_ u u1⟩) (fun ps C' a hpa => absurd (hu.symm.trans hpa) (by simp)))
          exact congrArg _ (by simpa using hu.symm.trans hxy)
        · refine k_front hP hm (by omega) hlt hp hp24 (by omega) (by omega) (by omega) hlv hdp (by omega) hC h (fun x y hxy => absurd (hF.symm.trans hxy) (by simp)) (fun k' hk' t t1 => ?_)
          have e9 : 9 = k' := by simpa using hF.symm.trans hk'
          rw [← e9] at t1 ⊢
          rw [if_pos rfl, if_pos rfl] at t1
          refine b_X11_oneStep_177 hP hm ⟨fun z => absurd z (by decide), fun z => absurd z (by decide), fun z => absurd z (by decide), fun z => absurd z (by decide), fun z => absurd z (by decide), fun z => absurd z (by decide), fun z => absurd z (by decide), fun z => absurd z (by decide), fun z => absurd z (by decide), fun _ => ⟨by omega, k_uses hP hm (by omega) hlt hnd hnl ho hsk (by omega) hN hCl hC t1 (fun x y hxy u u1 => hb (x, y) ?_ u u1) (fun ps C' a hpa => absurd (hu.symm.trans hpa) (by simp))⟩⟩
          exact congrArg _ (by simpa using hu.symm.trans hxy)
      | inr e =>
        obtain ⟨ps, C', a⟩ := e
        refine ⟨.inr (i + 2, ps, C', a), fun e he => ?_, fun P d s s0 Q N st dp id hP hm hd hN hdp h hb hg => ?_, fun P d s s0 Q N st dp id hP hm hd hN hdp h hb hg => ?_⟩
        · have ee : (i + 2, ps, C', a) = e := by simpa using he
          rw [← ee]
          obtain ⟨a1, a2, a3⟩ := usF_ok hok hnl hp hsk hbs hC hu
          exact ⟨by show i < i + 2; omega, hl60, a1, a2, a3⟩
        · refine j_front hP hm (by omega) hlt hp hp24 (by omega) (by omega) (by omega) hlv hdp (by omega) hC h (fun x y hxy => absurd (hF.symm.trans hxy) (by simp)) (fun k' hk' h9' => absurd (by simpa using hF.symm.trans hk') (fun y : 9 = k' => h9' y.symm)) (fun _ t t1 t2 => j_use hP hm (by omega) hlt hnl ho hsk (by omega) hN hCl hC t1 t2 (fun x y hxy => absurd (hu.symm.trans hxy) (by simp)) (fun ps' C'' a' hpa u u1 => ⟨Or.inr rfl, hg _ rfl u ?_⟩))
          have ee : (ps, C', a) = (ps', C'', a') := by simpa using hu.symm.trans hpa
          simp only [Prod.mk.injEq] at ee
          obtain ⟨e1, e2, e3⟩ := ee
          rw [← e1, ← e2, ← e3] at u1
          exact u1
        · refine k_front hP hm (by omega) hlt hp hp24 (by omega) (by omega) (by omega) hlv hdp (by omega) hC h (fun x y hxy => absurd (hF.symm.trans hxy) (by simp)) (fun k' hk' t t1 => ?_)
          have e9 : 9 = k' := by simpa using hF.symm.trans hk'
          rw [← e9] at t1 ⊢
          rw [if_pos rfl, if_pos rfl] at t1
          refine b_X11_oneStep_177 hP hm ⟨fun z => absurd z (by decide), fun z => absurd z (by decide), fun z => absurd z (by decide), fun z => absurd z (by decide), fun z => absurd z (by decide), fun z => absurd z (by decide), fun z => absurd z (by decide), fun z => absurd z (by decide), fun z => absurd z (by decide), fun _ => ⟨by omega, k_uses hP hm (by omega) hlt hnd hnl ho hsk (by omega) hN hCl hC t1 (fun x y hxy => absurd (hu.symm.trans hxy) (by simp)) (fun ps' C'' a' hpa u u1 => hg _ rfl u ?_)⟩⟩
          have ee : (ps, C', a) = (ps', C'', a') := by simpa using hu.symm.trans hpa
          simp only [Prod.mk.injEq] at ee
          obtain ⟨e1, e2, e3⟩ := ee
          rw [← e1, ← e2, ← e3] at u1
          exact u1
    · have hkd' := hkd h9
      by_cases h6 : k = 6
      · -- SPLIT
        rw [h6] at hF hkd'
        obtain ⟨r, a1, a2, a3⟩ := j_split (Tc := Tc) (Tr := Tr) (L := L) (lv := lv) (o := o) (lvl := lvl) (i := i) (b := b) (n := n) hlt hnd hnl hok hp hsk hbs hkd'.symm
        have toC : ∀ (P : gc_Pr) (d : Nat) (s s0 : gc_St) (Q : gc_TQ) (N : List (Nat × Nat)) (st dp id : Nat), gc_Cl P → gc_Mo P → 6 ≤ d → N.length + 1 < 64 → dp < 1000 → jA b n Tc L W nl s0 o i (N ++ [(sp3 p sk bs, lvl)]) C st dp id s → (∀ e, r = .inl e → ∀ t, jF s0 e.1 e.2 t → Q (some (.int 0)) t) → (∀ e, r = .inr e → ∀ t, jA b n Tc L W nl s0 o e.1 (pu N e.2 (lvl + 1)) [] (st + 1) (max dp lvl) (id + idl C) t → Q (some (.int 1)) t) → gc_T P d 0 0 77 0 [.ref 28, gc_u] [] s Q := by
          intro P d s s0 Q N st dp id hP hm hd hN hdp h hb hg
          refine j_front hP hm (by omega) hlt hp hp24 (by omega) (by omega) (by omega) hlv hdp (by omega) hC h (fun x y hxy => absurd (hF.symm.trans hxy) (by simp)) (fun k' hk' _ t t1 t2 => ?_) (fun hk' => absurd (by simpa using hF.symm.trans hk') (by decide : ¬ 6 = 9))
          have e6 : 6 = k' := by simpa using hF.symm.trans hk'
          rw [← e6]
          exact ⟨fun z => absurd rfl z, fun _ => a2 P (d - 1) t s0 _ N [] _ _ _ hP hm (by omega) hN t1 t2 (fun e he u u1 => ⟨Or.inl rfl, hb e he u u1⟩) (fun e he u u1 => ⟨Or.inr rfl, hg e he u u1⟩)⟩
        have toR : ∀ (P : gc_Pr) (d : Nat) (s s0 : gc_St) (Q : gc_TQ) (N : List (Nat × Nat)) (st dp id : Nat), gc_Cl P → gc_Mo P → 6 ≤ d → N.length + 1 < 64 → dp < 1000 → kA b n Tr lv W nl o s0 i (N ++ [(sp3 p sk bs, lvl)]) C st dp id s → (∀ e, r = .inl e → ∀ t, kF' s0 e.1 e.2 t → Q none t) → (∀ e, r = .inr e → ∀ t, kA b n Tr lv W nl o s0 e.1 (pu N e.2 (lvl + 1)) [] (st + 1) (max dp lvl) (id + idl C) t → Q none t) → gc_T P d 0 0 264 0 [.ref 67, gc_u, gc_u, gc_u, gc_u, gc_u, gc_u, gc_u, gc_u] [] s Q := by
          intro P d s s0 Q N st dp id hP hm hd hN hdp h hb hg
          refine k_front hP hm (by omega) hlt hp hp24 (by omega) (by omega) (by omega) hlv hdp (by omega) hC h (fun x y hxy => absurd (hF.symm.trans hxy) (by simp)) (fun k' hk' t t1 => ?_)
          have e6 : 6 = k' := by simpa using hF.symm.trans hk'
          rw [← e6] at t1 ⊢
          rw [if_neg (by decide), if_neg (by decide)] at t1
          exact b_X11_oneStep_177 hP hm ⟨fun z => absurd z (by decide), fun z => absurd z (by decide), fun z => absurd z (by decide), fun z => absurd z (by decide), fun z => absurd z (by decide), fun z => absurd z (by decide), fun _ => ⟨by omega, a3 P (d - 1) t s0 _ N [] _ _ _ hP hm (by omega) hN t1 (fun e he u u1 => hb e he u u1) (fun e he u u1 => hg e he u u1)⟩, fun z => absurd z (by decide), fun z => absurd z (by decide), fun z => absurd z (by decide)⟩
        cases r with
        | inl e =>
          exact ⟨.inl e, fun e he => absurd he (by simp), fun P d s s0 Q N st dp id hP hm hd hN hdp h hb hg => toC P d s s0 Q N st dp id hP hm hd hN hdp h (fun e' he' => hb e' (congrArg _ (by simpa using he'))) (fun e' he' => absurd he' (by simp)), fun P d s s0 Q N st dp id hP hm hd hN hdp h hb hg => toR P d s s0 Q N st dp id hP hm hd hN hdp h (fun e' he' => hb e' (congrArg _ (by simpa using he'))) (fun e' he' => absurd he' (by simp))⟩
        | inr e =>
          obtain ⟨i', ps⟩ := e
          refine ⟨.inr (i', ps, [], idl C), fun e he => ?_, fun P d s s0 Q N st dp id hP hm hd hN hdp h hb hg => toC P d s s0 Q N st dp id hP hm hd hN hdp h (fun e' he' => absurd he' (by simp)) (fun e' he' t t1 => hg _ rfl t ?_), fun P d s s0 Q N st dp id hP hm hd hN hdp h hb hg => toR P d s s0 Q N st dp id hP hm hd hN hdp h (fun e' he' => absurd he' (by simp)) (fun e' he' t t1 => hg _ rfl t ?_)⟩
          · have ee : (i', ps, [], idl C) = e := by simpa using he
            rw [← ee]
            obtain ⟨c1, c2, c3⟩ := a1 (i', ps) rfl
            exact ⟨by show i < i'; have : i + 1 < i' := c1; omega, hl60, ⟨c2, c3⟩, Or.inl rfl, fun k hk => absurd hk (Nat.not_lt_zero k)⟩
          · have ee : (i', ps) = e' := by simpa using he'
            rw [← ee] at t1
            exact t1
          · have ee : (i', ps) = e' := by simpa using he'
            rw [← ee] at t1
            exact t1
      · -- the others
        have hk9 : k < 9 := by omega
        cases hs : smF W k p sk bs with
        | none =>
          refine ⟨.inl (7, tk_st b n i), fun e he => absurd he (by simp), fun P d s s0 Q N st dp id hP hm hd hN hdp h hb hg => ?_, fun P d s s0 Q N st dp id hP hm hd hN hdp h hb hg => ?_⟩
          · refine j_front hP hm (by omega) hlt hp hp24 (by omega) (by omega) (by omega) hlv hdp (by omega) hC h (fun x y hxy => absurd (hF.symm.trans hxy) (by simp)) (fun k' hk' _ t t1 t2 => ?_) (fun hk' => absurd (by simpa using hF.symm.trans hk') h9)
            have e6 : k = k' := by simpa using hF.symm.trans hk'
            rw [← e6]
            exact ⟨fun _ => j_simple hP hm (by omega) hp (by omega) hN hk9 h6 hkd' t1 t2 (fun _ u u1 => ⟨Or.inl rfl, hb _ rfl u u1⟩) (fun ps hps => absurd (hs.symm.trans hps) (by simp)), fun z => absurd z h6⟩
          · refine k_front hP hm (by omega) hlt hp hp24 (by omega) (by omega) (by omega) hlv hdp (by omega) hC h (fun x y hxy => absurd (hF.symm.trans hxy) (by simp)) (fun k' hk' t t1 => ?_)
            have e6 : k = k' := by simpa using hF.symm.trans hk'
            rw [← e6] at t1 ⊢
            rw [if_neg h9, if_neg h9] at t1
            exact k_simple hP hm (by omega) hp (by omega) hN hk9 h6 hkd' t1 (fun _ u u1 => hb _ rfl u u1) (fun ps hps => absurd (hs.symm.trans hps) (by simp))
        | some ps =>
          refine ⟨.inr (i + 1, ps, [], idl C), fun e he => ?_, fun P d s s0 Q N st dp id hP hm hd hN hdp h hb hg => ?_, fun P d s s0 Q N st dp id hP hm hd hN hdp h hb hg => ?_⟩
          · have ee : (i + 1, ps, [], idl C) = e := by simpa using he
            rw [← ee]
            exact ⟨Nat.lt_succ_self i, hl60, smF_ok hok hp hsk hbs hk9 hkd' hs, Or.inl rfl, fun k hk => absurd hk (Nat.not_lt_zero k)⟩
          · refine j_front hP hm (by omega) hlt hp hp24 (by omega) (by omega) (by omega) hlv hdp (by omega) hC h (fun x y hxy => absurd (hF.symm.trans hxy) (by simp)) (fun k' hk' _ t t1 t2 => ?_) (fun hk' => absurd (by simpa using hF.symm.trans hk') h9)
            have e6 : k = k' := by simpa using hF.symm.trans hk'
            rw [← e6]
            refine ⟨fun _ => j_simple hP hm (by omega) hp (by omega) hN hk9 h6 hkd' t1 t2 (fun hn => absurd (hs.symm.trans hn) (by simp)) (fun ps' hps u u1 => ⟨Or.inr rfl, hg _ rfl u ?_⟩), fun z => absurd z h6⟩
            have ee : ps = ps' := by simpa using hs.symm.trans hps
            rw [← ee] at u1
            exact u1
          · refine k_front hP hm (by omega) hlt hp hp24 (by omega) (by omega) (by omega) hlv hdp (by omega) hC h (fun x y hxy => absurd (hF.symm.trans hxy) (by simp)) (fun k' hk' t t1 => ?_)
            have e6 : k = k' := by simpa using hF.symm.trans hk'
            rw [← e6] at t1 ⊢
            rw [if_neg h9, if_neg h9] at t1
            refine k_simple hP hm (by omega) hp (by omega) hN hk9 h6 hkd' t1 (fun hn => absurd (hs.symm.trans hn) (by simp)) (fun ps' hps u u1 => hg _ rfl u ?_)
            have ee : ps = ps' := by simpa using hs.symm.trans hps
            rw [← ee] at u1
            exact u1
end One
