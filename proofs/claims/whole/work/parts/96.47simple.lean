/-! judge: the steps that need no more words, by both. -/
def smF (W : ld_W) (k p sk bs : Nat) : Option (List (Nat × Nat × Nat)) := match k with
  | 0 => if nI sk = (1 : Int32) <<< (((2 : Int32) * ld_fI W p) &&& 31) then some [] else none
  | 1 => if sk = 0 then some [] else none
  | 2 => some []
  | 3 => some [(ld_fi W p, sk, bs)]
  | 4 => some [(ld_se W p, sk, bs)]
  | 5 => some [(ld_se W p, sk, bs), (ld_fi W p, sk, bs)]
  | 7 => if sk = 0 then some [(ld_fi W p, 0, 0)] else none
  | 8 => if st_fit sk (ld_se W p) = true then some [(ld_fi W p, sk + ld_se W p, bs)] else none
  | _ => none
def pu (N : List (Nat × Nat)) (ps : List (Nat × Nat × Nat)) (l : Nat) : List (Nat × Nat) := N ++ ps.map (fun e => (sp3 e.1 e.2.1 e.2.2, l))
theorem pu_0 (N : List (Nat × Nat)) (l : Nat) : pu N [] l = N := List.append_nil N
theorem pu_2 (N : List (Nat × Nat)) (x y : Nat × Nat × Nat) (l : Nat) : pu N [x, y] l = (N ++ [(sp3 x.1 x.2.1 x.2.2, l)]) ++ [(sp3 y.1 y.2.1 y.2.2, l)] := by
  rw [List.append_assoc]
  rfl
theorem fI_k {W : ld_W} {p : Nat} (h : ld_kd W p ≠ 1 ∧ ld_kd W p ≠ 2) : ld_fI W p = nI (ld_fi W p) := by
  unfold ld_fI
  rw [if_neg (by omega)]
theorem sI_k {W : ld_W} {p : Nat} (h : ld_kd W p = 3 ∨ ld_kd W p = 4 ∨ ld_kd W p = 5 ∨ ld_kd W p = 7) : ld_sI W p = nI (ld_se W p) := by
  unfold ld_sI
  rw [if_pos h]
theorem kd_se {W : ld_W} {p : Nat} (hok : ld_ok W) (hp : p < ld_p W) (h : ld_kd W p = 7) : ld_se W p < 256 := by
  have hN := ld_N_le hok
  rcases hok.2.2.2.2.2 p hp with ⟨z, _⟩ | ⟨z, _⟩ | ⟨z, _⟩ | ⟨z, _, _, z2⟩ <;> omega
/-- where they lead is a place -/
theorem smF_ok {W : ld_W} {k p sk bs : Nat} {ps : List (Nat × Nat × Nat)} (hok : ld_ok W) (hp : p < ld_p W) (hsk : sk < ld_N W) (hbs : bs < ld_B W) (hk : k < 9) (hkd : kdF k = ld_kd W p) (h : smF W k p sk bs = some ps) : ps.length ≤ 2 ∧ ∀ e, e ∈ ps → e.1 < ld_p W ∧ e.2.1 < ld_N W ∧ e.2.2 < ld_B W := by
  have hN := ld_N_le hok
  have hpt := hok.2.2.2.2.2 p hp
  have h0 : 0 < ld_N W := Nat.pow_pos (by decide)
  have hB0 : 0 < ld_B W := Nat.pow_pos (by decide)
  have nil : ∀ {c : Prop} [Decidable c], (if c then some [] else none) = some ps → ps = [] := by
    intro c _ e
    by_cases z : c
    · rw [if_pos z] at e
      simpa using e.symm
    · rw [if_neg z] at e
      exact absurd e (by simp)
  have hnil : ps = [] → ps.length ≤ 2 ∧ ∀ e, e ∈ ps → e.1 < ld_p W ∧ e.2.1 < ld_N W ∧ e.2.2 < ld_B W := by
    intro e
    rw [e]
    exact ⟨Nat.zero_le _, fun x hx => absurd hx (by simp)⟩
  have one : ∀ x : Nat × Nat × Nat, some [x] = some ps → x.1 < ld_p W → x.2.1 < ld_N W → x.2.2 < ld_B W → ps.length ≤ 2 ∧ ∀ e, e ∈ ps → e.1 < ld_p W ∧ e.2.1 < ld_N W ∧ e.2.2 < ld_B W := by
    intro x e h1 h2 h3
    have e' : [x] = ps := by simpa using e
    rw [← e']
    refine ⟨by simp, fun y hy => ?_⟩
    rw [List.mem_singleton.mp hy]
    exact ⟨h1, h2, h3⟩
  rcases (by omega : k = 0 ∨ k = 1 ∨ k = 2 ∨ k = 3 ∨ k = 4 ∨ k = 5 ∨ k = 6 ∨ k = 7 ∨ k = 8) with rfl | rfl | rfl | rfl | rfl | rfl | rfl | rfl | rfl
  · exact hnil (nil h)
  · exact hnil (nil h)
  · exact hnil (by have e : some [] = some ps := h; simpa using e.symm)
  · have hkd' : ld_kd W p = 3 := hkd.symm
    exact one _ h (by show ld_fi W p < ld_p W; rcases hpt with ⟨z, _⟩ | ⟨z, z1, z2, _⟩ | ⟨z, _⟩ | ⟨z, _⟩ <;> omega) hsk hbs
  · have hkd' : ld_kd W p = 3 := hkd.symm
    exact one _ h (by show ld_se W p < ld_p W; rcases hpt with ⟨z, _⟩ | ⟨z, z1, z2, _⟩ | ⟨z, _⟩ | ⟨z, _⟩ <;> omega) hsk hbs
  · have hkd' : ld_kd W p = 4 := hkd.symm
    have e : some [(ld_se W p, sk, bs), (ld_fi W p, sk, bs)] = some ps := h
    have e' : [(ld_se W p, sk, bs), (ld_fi W p, sk, bs)] = ps := by simpa using e
    have h1 : ld_se W p < ld_p W ∧ ld_fi W p < ld_p W := by
      rcases hpt with ⟨z, _⟩ | ⟨z, z1, z2, _⟩ | ⟨z, _⟩ | ⟨z, _⟩ <;> omega
    rw [← e']
    refine ⟨by simp, fun y hy => ?_⟩
    rcases List.mem_cons.mp hy with z | z
    · rw [z]
      exact ⟨h1.1, hsk, hbs⟩
    · rw [List.mem_singleton.mp z]
      exact ⟨h1.2, hsk, hbs⟩
  · exact absurd h (by simp [smF])
  · have hkd' : ld_kd W p = 6 := hkd.symm
    have e : (if sk = 0 then some [(ld_fi W p, 0, 0)] else none) = some ps := h
    by_cases z : sk = 0
    · rw [if_pos z] at e
      exact one _ e (by show ld_fi W p < ld_p W; rcases hpt with ⟨z, _⟩ | ⟨z, z1, z2, _⟩ | ⟨z, z1, _⟩ | ⟨z, _⟩ <;> omega) h0 hB0
    · rw [if_neg z] at e
      exact absurd e (by simp)
  · have hkd' : ld_kd W p = 7 := hkd.symm
    have e : (if st_fit sk (ld_se W p) = true then some [(ld_fi W p, sk + ld_se W p, bs)] else none) = some ps := h
    have h1 : ld_fi W p < ld_p W ∧ ld_se W p < ld_N W := by
      rcases hpt with ⟨z, _⟩ | ⟨z, z1, z2, _⟩ | ⟨z, z1, _⟩ | ⟨z, z1, _, z2⟩ <;> omega
    by_cases z : st_fit sk (ld_se W p) = true
    · rw [if_pos z] at e
      have hg4 : ld_g W < 5 := by have := hok.1.1; omega
      exact one _ e h1.1 (st_fitN (ld_g W) hg4 sk hsk (ld_se W p) h1.2 z) hbs
    · rw [if_neg z] at e
      exact absurd e (by simp)
section Sm
variable {P : gc_Pr} {d : Nat} {s s0 : gc_St} {Q : gc_TQ} {b : Nat → Nat} {n T L lv i o : Nat} {nl : List (List Nat × Nat × Nat)} {W : ld_W} {N : List (Nat × Nat)} {C : List Nat} {st dp id p sk bs lvl bg k : Nat}
theorem j_simple (hP : gc_Cl P) (hm : gc_Mo P) (hd : 3 ≤ d) (hp : p < ld_p W) (hsk : sk < 256) (hN : N.length + 1 < 64) (hk : k < 9) (h6 : k ≠ 6) (hkd : kdF k = ld_kd W p) (h : jA b n T L W nl s0 o i N C st dp id s) (hj : jP p sk bs lvl bg s)
    (hbad : smF W k p sk bs = none → ∀ t, jF s0 7 bg t → Q (some (.int 0)) t)
    (hgo : ∀ ps, smF W k p sk bs = some ps → ∀ t, jA b n T L W nl s0 o i (pu N ps (lvl + 1)) C st dp id t → Q (some (.int 1)) t) : gc_T P d 0 0 80 0 [.ref 28, .int (nI k), gc_u, gc_u] [] s Q := by
  obtain ⟨⟨hL, hlw, hcl, hok, _⟩, _⟩ := h.1.2.2.2.2
  have hp24 := hok.1.2.2.2.2
  have hse := kd_se hok hp
  refine b_X6_simpleStep_0 hP hm ?_
  rw [hlw, hj.1, nI_clamp (by omega), cl_fi hcl hp, cl_se hcl hp, hj.2.1, hj.2.2.1]
  have io := cl_io hL
  have v := vp_in_nI (n := p) (N := 24) (by omega) (by decide)
  have wrong : ∀ Q' : gc_TQ, (∀ t, jF s0 7 bg t → Q' (some (.int 0)) t) → gc_T P (d - 1) 0 0 79 0 [.ref 28] [] s Q' := fun Q' hq => b_X6_wrongStock_0 hP hm ⟨by omega, by
    rw [hj.2.2.2.2]
    exact j_blame hP hm (x := 7) (by decide) h.1.2.2.1 fun t t1 => ⟨Or.inl rfl, hq t t1⟩⟩
  refine ⟨io, v, v, ?_⟩
  rcases (by omega : k = 0 ∨ k = 1 ∨ k = 2 ∨ k = 3 ∨ k = 4 ∨ k = 5 ∨ k = 7 ∨ k = 8) with rfl | rfl | rfl | rfl | rfl | rfl | rfl | rfl
  · have e0 := hgo []
    refine ⟨fun _ => ?_, fun z => absurd z (by decide), fun z => absurd z (by decide), fun z => absurd z (by decide), fun z => absurd z (by decide), fun z => absurd z (by decide), fun z => absurd z (by decide), fun z => absurd z (by decide), fun z => absurd z (by decide), fun z => absurd z (by decide)⟩
    refine ⟨fun z => e0 (if_pos z) s (by rw [pu_0]; exact h), fun z => ⟨by omega, wrong _ fun t t1 => ⟨fun _ => hbad (if_neg z) t t1, fun z => absurd rfl z⟩⟩⟩
  · have e0 := hgo []
    refine ⟨fun z => absurd z (by decide), fun _ => ?_, fun z => absurd z (by decide), fun z => absurd z (by decide), fun z => absurd z (by decide), fun z => absurd z (by decide), fun z => absurd z (by decide), fun z => absurd z (by decide), fun z => absurd z (by decide), fun z => absurd z (by decide)⟩
    refine ⟨fun z => e0 (if_pos ((nI_eq (b := 0) (by omega) (by decide)).mp z)) s (by rw [pu_0]; exact h), fun z => ⟨by omega, wrong _ fun t t1 => ⟨fun _ => hbad (if_neg (fun y => z (by rw [y]; rfl))) t t1, fun z => absurd rfl z⟩⟩⟩
  · have e0 := hgo []
    refine ⟨fun z => absurd z (by decide), fun z => absurd z (by decide), fun _ => ?_, fun z => absurd z (by decide), fun z => absurd z (by decide), fun z => absurd z (by decide), fun z => absurd z (by decide), fun z => absurd z (by decide), fun z => absurd z (by decide), fun z => absurd z (by decide)⟩
    exact e0 rfl s (by rw [pu_0]; exact h)
  · have hkd' : ld_kd W p = 3 := hkd.symm
    rw [fI_k (by omega)]
    refine ⟨fun z => absurd z (by decide), fun z => absurd z (by decide), fun z => absurd z (by decide), fun _ => ?_, fun z => absurd z (by decide), fun z => absurd z (by decide), fun z => absurd z (by decide), fun z => absurd z (by decide), fun z => absurd z (by decide), fun z => absurd z (by decide)⟩
    exact ⟨by omega, j_open hP hm h hj (by omega) fun t t1 _ => ⟨Or.inr rfl, hgo _ rfl t t1⟩⟩
  · have hkd' : ld_kd W p = 3 := hkd.symm
    rw [sI_k (by omega)]
    refine ⟨fun z => absurd z (by decide), fun z => absurd z (by decide), fun z => absurd z (by decide), fun z => absurd z (by decide), fun _ => ?_, fun z => absurd z (by decide), fun z => absurd z (by decide), fun z => absurd z (by decide), fun z => absurd z (by decide), fun z => absurd z (by decide)⟩
    exact ⟨by omega, j_open hP hm h hj (by omega) fun t t1 _ => ⟨Or.inr rfl, hgo _ rfl t t1⟩⟩
  · have hkd' : ld_kd W p = 4 := hkd.symm
    rw [fI_k (by omega), sI_k (by omega)]
    refine ⟨fun z => absurd z (by decide), fun z => absurd z (by decide), fun z => absurd z (by decide), fun z => absurd z (by decide), fun z => absurd z (by decide), fun _ => ?_, fun z => absurd z (by decide), fun z => absurd z (by decide), fun z => absurd z (by decide), fun z => absurd z (by decide)⟩
    refine ⟨by omega, j_open hP hm h hj (by omega) fun t t1 t2 => ⟨fun z => absurd z (by decide), fun _ => ⟨by omega, ?_⟩⟩⟩
    rw [t2.2.1, t2.2.2.1]
    exact j_open hP hm t1 t2 (by rw [List.length_append]; exact hN) fun u u1 _ => ⟨fun z => absurd z (by decide), fun _ => hgo _ rfl u (by rw [pu_2]; exact u1)⟩
  · have hkd' : ld_kd W p = 6 := hkd.symm
    rw [fI_k (by omega)]
    refine ⟨fun z => absurd z (by decide), fun z => absurd z (by decide), fun z => absurd z (by decide), fun z => absurd z (by decide), fun z => absurd z (by decide), fun z => absurd z (by decide), fun z => absurd z (by decide), fun _ => ?_, fun z => absurd z (by decide), fun z => absurd z (by decide)⟩
    refine ⟨fun z => ⟨by omega, wrong _ fun t t1 => ⟨Or.inl rfl, hbad (if_neg (fun y => z (by rw [y]; rfl))) t t1⟩⟩, fun z => ⟨by omega, j_open hP hm (sk' := 0) (bs' := 0) h hj (by omega) fun t t1 _ => ⟨Or.inr rfl, hgo _ (if_pos ((nI_eq (b := 0) (by omega) (by decide)).mp z)) t t1⟩⟩⟩
  · have hkd' : ld_kd W p = 7 := hkd.symm
    have hse := hse hkd'
    rw [fI_k (by omega), sI_k (by omega)]
    refine ⟨fun z => absurd z (by decide), fun z => absurd z (by decide), fun z => absurd z (by decide), fun z => absurd z (by decide), fun z => absurd z (by decide), fun z => absurd z (by decide), fun z => absurd z (by decide), fun z => absurd z (by decide), fun _ => ?_, fun z => absurd z (by decide)⟩
    refine ⟨by omega, sp_fits hP hm hsk hse ?_⟩
    by_cases z : st_fit sk (ld_se W p) = true
    · rw [if_pos z]
      refine ⟨fun y => absurd y (by decide), fun _ => ⟨by omega, ?_⟩⟩
      rw [hj.2.1, hj.2.2.1, nI_add]
      exact j_open hP hm h hj (by omega) fun t t1 _ => ⟨Or.inr rfl, hgo _ (if_pos z) t t1⟩
    · rw [if_neg z]
      exact ⟨fun _ => ⟨by omega, wrong _ fun t t1 => ⟨Or.inl rfl, hbad (if_neg z) t t1⟩⟩, fun y => absurd rfl y⟩
/-- a fault at a word, and what is as before -/
theorem k_failAt2 (hP : gc_Cl P) (hm : gc_Mo P) {x j : Nat} (hx : 1 ≤ x ∧ x < 9) (h : kj b n T lv W nl o s0 i s) (hj : j < T) (hQ : ∀ t, kF' s0 x (tk_st b n j) t → fr Amf B0 s t → Q none t) : gc_T P d 0 0 192 0 [.ref 67, .int (nI x), .int (nI j)] [] s Q := by
  have hT := h.1.1.1
  refine b_X11_failAt_0 hP hm ?_
  rw [h.2.2.1.1, nI_clamp (by omega), (h.1.2.1 j hj).2.1]
  refine ⟨fun _ => ⟨vp_in_nI (by omega) (by decide), hQ _ ⟨fk_go (A := Amf) h.2.1 (fr_wF rfl (fr_wF rfl (fr_refl s))) (kmf (fr_wF rfl (fr_wF rfl (fr_refl s)))) rfl, ⟨?_, F_eq _ _ _ _⟩, hx⟩ (fr_wF rfl (fr_wF rfl (fr_refl s)))⟩, fun y => absurd (by decide) y⟩
  rw [F_ne _ _ (Or.inr (by decide)), F_eq]
theorem k_simple (hP : gc_Cl P) (hm : gc_Mo P) (hd : 3 ≤ d) (hp : p < ld_p W) (hsk : sk < 256) (hN : N.length + 1 < 64) (hk : k < 9) (h6 : k ≠ 6) (hkd : kdF k = ld_kd W p) (h : kA b n T lv W nl o s0 (i + 1) N C st dp id s)
    (hbad : smF W k p sk bs = none → ∀ t, kF' s0 7 (tk_st b n i) t → Q none t)
    (hgo : ∀ ps, smF W k p sk bs = some ps → ∀ t, kA b n T lv W nl o s0 (i + 1) (pu N ps (lvl + 1)) C st dp id t → Q none t) : gc_T P d 0 0 264 177 [.ref 67, .int (nI (sp3 p sk bs)), .int (nI lvl), .int (nI p), .int (nI sk), .int (nI bs), .int (nI i), .int (nI k), gc_u] [] s Q := by
  have hlaw := h.1.2.2.2.1
  have hok := hlaw.1.2.2
  have hse := kd_se hok hp
  have hiT : i < T := by
    have := h.1.1.2.2.2
    omega
  have lawA : ∀ {t : gc_St} {N' : List (Nat × Nat)}, kA b n T lv W nl o s0 (i + 1) N' C st dp id t → rf_law W lv t := fun ht => ht.1.2.2.2.1
  refine b_X11_oneStep_177 hP hm ?_
  rcases (by omega : k = 0 ∨ k = 1 ∨ k = 2 ∨ k = 3 ∨ k = 4 ∨ k = 5 ∨ k = 7 ∨ k = 8) with rfl | rfl | rfl | rfl | rfl | rfl | rfl | rfl
  · have e0 := hgo []
    refine ⟨fun _ => ?_, fun z => absurd z (by decide), fun z => absurd z (by decide), fun z => absurd z (by decide), fun z => absurd z (by decide), fun z => absurd z (by decide), fun z => absurd z (by decide), fun z => absurd z (by decide), fun z => absurd z (by decide), fun z => absurd z (by decide)⟩
    exact ⟨by omega, sp_mfirst hP hm hlaw hp ⟨fun z => e0 (if_pos z) s (by rw [pu_0]; exact h), fun z => ⟨by omega, k_failAt hP hm (x := 7) (by decide) h.1 hiT fun t t1 => hbad (if_neg z) t t1⟩⟩⟩
  · have e0 := hgo []
    refine ⟨fun z => absurd z (by decide), fun _ => ?_, fun z => absurd z (by decide), fun z => absurd z (by decide), fun z => absurd z (by decide), fun z => absurd z (by decide), fun z => absurd z (by decide), fun z => absurd z (by decide), fun z => absurd z (by decide), fun z => absurd z (by decide)⟩
    exact ⟨fun z => e0 (if_pos ((nI_eq (b := 0) (by omega) (by decide)).mp z)) s (by rw [pu_0]; exact h), fun z => ⟨by omega, k_failAt hP hm (x := 7) (by decide) h.1 hiT fun t t1 => hbad (if_neg (fun y => z (by rw [y]; rfl))) t t1⟩⟩
  · have e0 := hgo []
    refine ⟨fun z => absurd z (by decide), fun z => absurd z (by decide), fun _ => ?_, fun z => absurd z (by decide), fun z => absurd z (by decide), fun z => absurd z (by decide), fun z => absurd z (by decide), fun z => absurd z (by decide), fun z => absurd z (by decide), fun z => absurd z (by decide)⟩
    exact e0 rfl s (by rw [pu_0]; exact h)
  · have hkd' : ld_kd W p = 3 := hkd.symm
    refine ⟨fun z => absurd z (by decide), fun z => absurd z (by decide), fun z => absurd z (by decide), fun _ => ?_, fun z => absurd z (by decide), fun z => absurd z (by decide), fun z => absurd z (by decide), fun z => absurd z (by decide), fun z => absurd z (by decide), fun z => absurd z (by decide)⟩
    refine ⟨by omega, sp_mfirst hP hm hlaw hp ?_⟩
    rw [fI_k (by omega)]
    refine ⟨by omega, sp_spot hP hm ⟨by omega, ?_⟩⟩
    rw [nI_1]
    exact k_needs hP hm h (by omega) fun t t1 => hgo _ rfl t t1
  · have hkd' : ld_kd W p = 3 := hkd.symm
    refine ⟨fun z => absurd z (by decide), fun z => absurd z (by decide), fun z => absurd z (by decide), fun z => absurd z (by decide), fun _ => ?_, fun z => absurd z (by decide), fun z => absurd z (by decide), fun z => absurd z (by decide), fun z => absurd z (by decide), fun z => absurd z (by decide)⟩
    refine ⟨by omega, sp_msecond hP hm hlaw hp ?_⟩
    rw [sI_k (by omega)]
    refine ⟨by omega, sp_spot hP hm ⟨by omega, ?_⟩⟩
    rw [nI_1]
    exact k_needs hP hm h (by omega) fun t t1 => hgo _ rfl t t1
  · have hkd' : ld_kd W p = 4 := hkd.symm
    refine ⟨fun z => absurd z (by decide), fun z => absurd z (by decide), fun z => absurd z (by decide), fun z => absurd z (by decide), fun z => absurd z (by decide), fun _ => ?_, fun z => absurd z (by decide), fun z => absurd z (by decide), fun z => absurd z (by decide), fun z => absurd z (by decide)⟩
    refine ⟨by omega, sp_msecond hP hm hlaw hp ?_⟩
    rw [sI_k (by omega)]
    refine ⟨by omega, sp_spot hP hm ⟨by omega, ?_⟩⟩
    rw [nI_1]
    refine k_needs hP hm h (by omega) fun t t1 => ⟨by omega, sp_mfirst hP hm (lawA t1) hp ?_⟩
    rw [fI_k (by omega)]
    refine ⟨by omega, sp_spot hP hm ⟨by omega, ?_⟩⟩
    exact k_needs hP hm t1 (by rw [List.length_append]; show N.length + 1 < 80; omega) fun u u1 => hgo _ rfl u (by rw [pu_2]; exact u1)
  · have hkd' : ld_kd W p = 6 := hkd.symm
    refine ⟨fun z => absurd z (by decide), fun z => absurd z (by decide), fun z => absurd z (by decide), fun z => absurd z (by decide), fun z => absurd z (by decide), fun z => absurd z (by decide), fun z => absurd z (by decide), fun _ => ?_, fun z => absurd z (by decide), fun z => absurd z (by decide)⟩
    refine ⟨fun z => b_X11_oneStep_385 hP hm ⟨by omega, sp_mfirst hP hm hlaw hp ?_⟩, fun z => ⟨by omega, k_failAt2 hP hm (x := 7) (by decide) h.1 hiT fun t t1 t2 => b_X11_oneStep_385 hP hm ⟨by omega, sp_mfirst hP hm (stR_fr h.1.2.2.2 (kmf t2)).1 hp ?_⟩⟩⟩
    · rw [fI_k (by omega)]
      refine ⟨by omega, sp_spot hP hm (y := 0) (z := 0) ⟨by omega, ?_⟩⟩
      rw [nI_1]
      exact k_needs hP hm h (by omega) fun t t1 => hgo _ (if_pos ((nI_eq (b := 0) (by omega) (by decide)).mp z)) t t1
    · rw [fI_k (by omega)]
      refine ⟨by omega, sp_spot hP hm (y := 0) (z := 0) ⟨by omega, b_X11_needs_0 hP hm ?_⟩⟩
      have e64 : gc_F t 67 64 = nI N.length := (fr_F t2 rfl).trans h.2.1.1
      rw [e64, nI_clamp (by omega), nI_1]
      refine ⟨vp_in_nI (by omega) (by decide), vp_in_nI (by omega) (by decide), hbad (if_neg (fun y => z (by rw [y]; rfl))) _ ⟨⟨fr_trans t1.1.1 (fr_wF (by decide) (fr_wI (by decide) (fr_wI (by decide) (fr_refl t)))), t1.1.2⟩, ⟨?_, ?_⟩, t1.2.2⟩⟩
      · exact (F_ne _ _ (Or.inr (by decide))).trans t1.2.1.1
      · exact (F_ne _ _ (Or.inr (by decide))).trans t1.2.1.2
  · have hkd' : ld_kd W p = 7 := hkd.symm
    have hse := hse hkd'
    refine ⟨fun z => absurd z (by decide), fun z => absurd z (by decide), fun z => absurd z (by decide), fun z => absurd z (by decide), fun z => absurd z (by decide), fun z => absurd z (by decide), fun z => absurd z (by decide), fun z => absurd z (by decide), fun _ => ?_, fun z => absurd z (by decide)⟩
    refine ⟨by omega, sp_msecond hP hm hlaw hp ?_⟩
    rw [sI_k (by omega)]
    refine ⟨by omega, sp_plus hP hm hsk hse ?_⟩
    unfold st_plus
    by_cases z : st_fit sk (ld_se W p) = true
    · rw [if_pos z]
      have := st_fit_lt hsk hse z
      refine ⟨fun _ => ⟨by omega, sp_mfirst hP hm hlaw hp ?_⟩, fun y => absurd y (nI_nm1 (by omega))⟩
      rw [fI_k (by omega)]
      refine ⟨by omega, sp_spot hP hm ⟨by omega, ?_⟩⟩
      rw [nI_1]
      exact k_needs hP hm h (by omega) fun t t1 => hgo _ (if_pos z) t t1
    · rw [if_neg z]
      exact ⟨fun y => absurd rfl y, fun _ => ⟨by omega, k_failAt hP hm (x := 7) (by decide) h.1 hiT fun t t1 => hbad (if_neg z) t t1⟩⟩
end Sm
