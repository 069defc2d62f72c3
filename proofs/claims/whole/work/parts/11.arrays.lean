section GcA
variable {p : Program} {l : Launch} {e : Env} {s : State} {m : MethodId} {args : Array Value} {below : List Frame} {meth : Method} {c : Code} {H : Heap} {locs : List Loc} {cells slots : Nat} {Qm : State → Prop}
variable {D : va_G} {cy : Nat → ClassId} {B d y : Nat} {Mc Ms : Nat} {pc nx r1 r2 : Nat} {cn : Int32} {ls : Array Slot} {lv st : List Value} {S : gc_H} {kc ks : Nat} {K : Nat → Nat → List Value → List Value → gc_H → Prop} {P : gc_Pr} {Q : gc_Q}
/-- all that stands at an instruction -/
abbrev gc_At (D : va_G) (cy : Nat → ClassId) (B y Mc Ms : Nat) (s : State) (H : Heap) (locs : List Loc) (cells slots : Nat) (ls : Array Slot) (kc ks : Nat) (lv : List Value) (S : gc_H) : Prop :=
  gc_Wo D cy B S H ∧ va_S (gc_A B) s.heap H locs ∧ gc_lv B ls (gc_mL y) lv ∧ s.heap.size + cells = B + S.1 ∧ cells + kc = Mc ∧ slots + ks ≤ Ms
theorem gc_KK.go {nx : Nat} (hKK : gc_KK l D cy B d y Mc Ms p e s m args below meth c Qm nx K) (hA : gc_At D cy B y Mc Ms s H locs cells slots ls kc ks lv S) (h : K kc ks lv st S) : W p l e (gc_rm d Mc Ms) s m args below meth c H locs cells slots Qm (F0 m nx ls (st.map (gc_tr B))) :=
  hKK kc ks lv st S H locs cells slots ls hA.1 hA.2.1 hA.2.2.1 hA.2.2.2.1 hA.2.2.2.2.1 hA.2.2.2.2.2 h
theorem gc_KK.wr {nx a : Nat} {E : va_E} {E' : gc_E} {H1 : Heap} {locs1 : List Loc} (hKK : gc_KK l D cy B d y Mc Ms p e s m args below meth c Qm nx K) (hA : gc_At D cy B y Mc Ms s H locs cells slots ls kc ks lv S) (hB : B ≤ s.heap.size) (hE : E = gc_trE B cy E') (hP : va_P D vwCl ((gc_wl B cy S).set a (B + a, E)) H1) (hS : va_S (gc_A B) s.heap H1 locs1) (h : K kc ks lv st (gc_up S a E')) : W p l e (gc_rm d Mc Ms) s m args below meth c H1 locs1 cells slots Qm (F0 m nx ls (st.map (gc_tr B))) :=
  gc_sz fun hsz => hKK.go ⟨gc_wrote hE hB hP hS hA.2.2.2.1 hsz, hS, hA.2.2.1, hA.2.2.2.1, hA.2.2.2.2.1, hA.2.2.2.2.2⟩ h
theorem gc_x_iald (Cx : gc_Cx D cy B p s m args meth c y) (hKK : gc_KK l D cy B d y Mc Ms p e s m args below meth c Qm (pc + 1) K) (hdg : decode (gc_mB y) pc = .ok (.iaload, 1)) (hA : gc_At D cy B y Mc Ms s H locs cells slots ls kc ks lv S)
    (h : gc_ex P gc_mL gc_mC gc_dfl d y (pc, nx, .iaload, r1, r2, cn) kc ks lv st S Q K) : W p l e (gc_rm d Mc Ms) s m args below meth c H locs cells slots Qm (F0 m pc ls (st.map (gc_tr B))) := by
  obtain ⟨hx, hb, hml, hr, hts, hown, hlocks, hname, hK, hN, hB⟩ := Cx
  obtain ⟨a, i, r, rfl, n, f, ha, hf, hi, hk⟩ := gc_ir_of h
  exact va_iald hx hb hK hA.1.2 a 0 (gc_hai ha hf) rfl hi hdg (hKK.go hA hk)
theorem gc_x_lald (Cx : gc_Cx D cy B p s m args meth c y) (hKK : gc_KK l D cy B d y Mc Ms p e s m args below meth c Qm (pc + 1) K) (hdg : decode (gc_mB y) pc = .ok (.laload, 1)) (hA : gc_At D cy B y Mc Ms s H locs cells slots ls kc ks lv S)
    (h : gc_ex P gc_mL gc_mC gc_dfl d y (pc, nx, .laload, r1, r2, cn) kc ks lv st S Q K) : W p l e (gc_rm d Mc Ms) s m args below meth c H locs cells slots Qm (F0 m pc ls (st.map (gc_tr B))) := by
  obtain ⟨hx, hb, hml, hr, hts, hown, hlocks, hname, hK, hN, hB⟩ := Cx
  obtain ⟨a, i, r, rfl, n, f, ha, hf, hi, hk⟩ := gc_ir_of h
  exact va_lald hx hb hK hA.1.2 a 2 (gc_hal ha hf) rfl hi hdg (hKK.go hA hk)
theorem gc_x_bald (Cx : gc_Cx D cy B p s m args meth c y) (hKK : gc_KK l D cy B d y Mc Ms p e s m args below meth c Qm (pc + 1) K) (hdg : decode (gc_mB y) pc = .ok (.baload, 1)) (hA : gc_At D cy B y Mc Ms s H locs cells slots ls kc ks lv S)
    (h : gc_ex P gc_mL gc_mC gc_dfl d y (pc, nx, .baload, r1, r2, cn) kc ks lv st S Q K) : W p l e (gc_rm d Mc Ms) s m args below meth c H locs cells slots Qm (F0 m pc ls (st.map (gc_tr B))) := by
  obtain ⟨hx, hb, hml, hr, hts, hown, hlocks, hname, hK, hN, hB⟩ := Cx
  obtain ⟨a, i, r, rfl, t, n, f, ht, ha, hf, hi, hk⟩ := gc_ir_of h
  rcases ht with rfl | rfl
  · exact va_bald hx hb hK hA.1.2 a 1 (gc_hai ha hf) rfl hi hdg (hKK.go hA hk)
  · exact va_zald hx hb hK hA.1.2 a 3 (gc_hai ha hf) rfl hi hdg (hKK.go hA hk)
theorem gc_x_iast (Cx : gc_Cx D cy B p s m args meth c y) (hKK : gc_KK l D cy B d y Mc Ms p e s m args below meth c Qm (pc + 1) K) (hdg : decode (gc_mB y) pc = .ok (.iastore, 1)) (hA : gc_At D cy B y Mc Ms s H locs cells slots ls kc ks lv S)
    (h : gc_ex P gc_mL gc_mC gc_dfl d y (pc, nx, .iastore, r1, r2, cn) kc ks lv st S Q K) : W p l e (gc_rm d Mc Ms) s m args below meth c H locs cells slots Qm (F0 m pc ls (st.map (gc_tr B))) := by
  obtain ⟨hx, hb, hml, hr, hts, hown, hlocks, hname, hK, hN, hB⟩ := Cx
  obtain ⟨a, i, v, r, rfl, h'⟩ := gc_vir_of h
  split at h'
  · rename_i x
    obtain ⟨n, f, ha, hf, hi, hk⟩ := h'
    exact va_iast hx hb hK hA.1.2 gc_wl_D hA.2.1 a 0 (gc_hai ha hf) rfl hi hdg (fun H1 locs1 hP1 _ hS1 => hKK.wr (E' := .inl (0, n, .inl (upd f i.toNatClampNeg x))) hA hB rfl hP1 hS1 hk)
  · exact h'.elim
theorem gc_x_last (Cx : gc_Cx D cy B p s m args meth c y) (hKK : gc_KK l D cy B d y Mc Ms p e s m args below meth c Qm (pc + 1) K) (hdg : decode (gc_mB y) pc = .ok (.lastore, 1)) (hA : gc_At D cy B y Mc Ms s H locs cells slots ls kc ks lv S)
    (h : gc_ex P gc_mL gc_mC gc_dfl d y (pc, nx, .lastore, r1, r2, cn) kc ks lv st S Q K) : W p l e (gc_rm d Mc Ms) s m args below meth c H locs cells slots Qm (F0 m pc ls (st.map (gc_tr B))) := by
  obtain ⟨hx, hb, hml, hr, hts, hown, hlocks, hname, hK, hN, hB⟩ := Cx
  obtain ⟨a, i, v, r, rfl, h'⟩ := gc_vir_of h
  split at h'
  · rename_i x
    obtain ⟨n, f, ha, hf, hi, hk⟩ := h'
    exact va_last hx hb hK hA.1.2 gc_wl_D hA.2.1 a 2 (gc_hal ha hf) rfl hi hdg (fun H1 locs1 hP1 _ hS1 => hKK.wr (E' := .inl (2, n, .inr (.inl (vp_updL f i.toNatClampNeg x)))) hA hB rfl hP1 hS1 hk)
  · exact h'.elim
theorem gc_x_bast (Cx : gc_Cx D cy B p s m args meth c y) (hKK : gc_KK l D cy B d y Mc Ms p e s m args below meth c Qm (pc + 1) K) (hdg : decode (gc_mB y) pc = .ok (.bastore, 1)) (hA : gc_At D cy B y Mc Ms s H locs cells slots ls kc ks lv S)
    (h : gc_ex P gc_mL gc_mC gc_dfl d y (pc, nx, .bastore, r1, r2, cn) kc ks lv st S Q K) : W p l e (gc_rm d Mc Ms) s m args below meth c H locs cells slots Qm (F0 m pc ls (st.map (gc_tr B))) := by
  obtain ⟨hx, hb, hml, hr, hts, hown, hlocks, hname, hK, hN, hB⟩ := Cx
  obtain ⟨a, i, v, r, rfl, h'⟩ := gc_vir_of h
  split at h'
  · rename_i x
    rcases h' with ⟨n, f, ha, hf, hi, hk⟩ | ⟨n, f, ha, hf, hi, hk⟩
    · exact va_bast hx hb hK hA.1.2 gc_wl_D hA.2.1 a 1 (gc_hai ha hf) rfl hi hdg (fun H1 locs1 hP1 _ hS1 => hKK.wr (E' := .inl (1, n, .inl (upd f i.toNatClampNeg (vp_nar .byte x)))) hA hB rfl hP1 hS1 hk)
    · exact va_zast hx hb hK hA.1.2 gc_wl_D hA.2.1 a 3 (gc_hai ha hf) rfl hi hdg (fun H1 locs1 hP1 _ hS1 => hKK.wr (E' := .inl (3, n, .inl (upd f i.toNatClampNeg (vp_nar .boolean x)))) hA hB rfl hP1 hS1 hk)
  · exact h'.elim
theorem gc_x_alen (Cx : gc_Cx D cy B p s m args meth c y) (hKK : gc_KK l D cy B d y Mc Ms p e s m args below meth c Qm (pc + 1) K) (hdg : decode (gc_mB y) pc = .ok (.arraylength, 1)) (hA : gc_At D cy B y Mc Ms s H locs cells slots ls kc ks lv S)
    (h : gc_ex P gc_mL gc_mC gc_dfl d y (pc, nx, .arraylength, r1, r2, cn) kc ks lv st S Q K) : W p l e (gc_rm d Mc Ms) s m args below meth c H locs cells slots Qm (F0 m pc ls (st.map (gc_tr B))) := by
  obtain ⟨hx, hb, hml, hr, hts, hown, hlocks, hname, hK, hN, hB⟩ := Cx
  obtain ⟨a, r, rfl, t, n, f, ht, ha, hf, hk⟩ := gc_1r_of h
  have he : (gc_wl B cy S)[a]? = some (B + a, .inl (cy t, n, gc_trA B f)) := by rw [gc_wl_get ha, hf]; rfl
  match t, ht, he with
  | 0, _, he => exact va_alen hx hb hK hA.1.2 a 0 he rfl rfl hdg (hKK.go hA hk)
  | 1, _, he => exact va_alen hx hb hK hA.1.2 a 1 he rfl rfl hdg (hKK.go hA hk)
  | 2, _, he => exact va_alen hx hb hK hA.1.2 a 2 he rfl rfl hdg (hKK.go hA hk)
  | 3, _, he => exact va_alen hx hb hK hA.1.2 a 3 he rfl rfl hdg (hKK.go hA hk)
  | 4, _, he => exact va_alen hx hb hK hA.1.2 a 4 he rfl rfl hdg (hKK.go hA hk)
  | 5, _, he => exact va_alen hx hb hK hA.1.2 a 5 he rfl rfl hdg (hKK.go hA hk)
  | t + 6, ht, _ => omega
theorem gc_va_rf {B : Nat} (o : Option Nat) : va_rf (o.map (fun a => B + a)) = gc_tr B (va_rf o) := by cases o <;> rfl
theorem gc_x_aald (Cx : gc_Cx D cy B p s m args meth c y) (hKK : gc_KK l D cy B d y Mc Ms p e s m args below meth c Qm (pc + 1) K) (hdg : decode (gc_mB y) pc = .ok (.aaload, 1)) (hA : gc_At D cy B y Mc Ms s H locs cells slots ls kc ks lv S)
    (h : gc_ex P gc_mL gc_mC gc_dfl d y (pc, nx, .aaload, r1, r2, cn) kc ks lv st S Q K) : W p l e (gc_rm d Mc Ms) s m args below meth c H locs cells slots Qm (F0 m pc ls (st.map (gc_tr B))) := by
  obtain ⟨hx, hb, hml, hr, hts, hown, hlocks, hname, hK, hN, hB⟩ := Cx
  obtain ⟨a, i, r, rfl, t, n, f, ht, ha, hf, hi, hk⟩ := gc_ir_of h
  have hk2 : K kc ks lv (va_rf (f i.toNatClampNeg) :: r) S := by
    rcases hk with ⟨b, e1, hk⟩ | ⟨e1, hk⟩
    · rw [e1]; exact hk
    · rw [e1]; exact hk
  have hgo : W p l e (gc_rm d Mc Ms) s m args below meth c H locs cells slots Qm (F0 m (pc + 1) ls (va_rf ((f i.toNatClampNeg).map (fun a => B + a)) :: r.map (gc_tr B))) := by
    rw [gc_va_rf]
    exact hKK.go hA hk2
  rcases ht with rfl | rfl
  · have hlt : i.toNatClampNeg < n := Nat.not_le.mp fun q => hi (Or.inr q)
    exact W.aald (v := va_rf ((f i.toNatClampNeg).map (fun a => B + a))) (ty := .array .int) hx hb (hA.1.2 a _ (gc_haq ha hf)) ((hK.2 4 _ rfl).1 n (fun j => va_rf ((f j).map (fun a => B + a)))) rfl (fun q => by cases q) (by show ¬ (i < 0 ∨ (arrV _ _ _).slots.size ≤ _); rw [arrV_size]; exact hi) (by show (arrV _ _ _).slots[_]? = _; rw [arrV_read _ _ hlt]) rfl rfl hdg hgo
  · exact va_aldq hx hb hK hA.1.2 a 5 (gc_haq ha hf) rfl hi hdg hgo
theorem gc_map_up {B i b : Nat} {f : Nat → Option Nat} : (fun j => (va_up f i (some b) j).map (fun a => B + a)) = va_up (fun j => (f j).map (fun a => B + a)) i (some (B + b)) := by
  funext j
  unfold va_up
  by_cases h : j = i
  · rw [if_pos h, if_pos h]; rfl
  · rw [if_neg h, if_neg h]
theorem gc_x_new {i : Nat} (Cx : gc_Cx D cy B p s m args meth c y) (hKK : gc_KK l D cy B d y Mc Ms p e s m args below meth c Qm (pc + 3) K) (hdg : decode (gc_mB y) pc = .ok (.new i, 3)) (hI : gc_okI y pc (.new i) r1 r2 cn = true) (hA : gc_At D cy B y Mc Ms s H locs cells slots ls kc ks lv S)
    (h : gc_ex P gc_mL gc_mC gc_dfl d y (pc, nx, .new i, r1, r2, cn) kc ks lv st S Q K) : W p l e (gc_rm d Mc Ms) s m args below meth c H locs cells slots Qm (F0 m pc ls (st.map (gc_tr B))) := by
  obtain ⟨hx, hb, hml, hr, hts, hown, hlocks, hname, hK, hN, hB⟩ := Cx
  obtain ⟨k1, k2, hk⟩ := h
  obtain ⟨a1, a2, a3, a4, a5, a6⟩ := hA
  unfold gc_okI at hI
  simp only at hI
  split at hI
  · rename_i q hq
    simp only [decide_eq_true_eq] at hI
    obtain ⟨c1, c2, c3, c4, c5, ty0, c6, c7⟩ := gc_cls hq
    have hdf : ∀ v ∈ gc_dfl r1, gc_tr B v = v := by
      match r1, hq with
      | 0, _ => simp [gc_dfl, gc_dfls, gc_dfl0, gc_tr]
      | 1, _ => simp [gc_dfl, gc_dfls, gc_dfl1, gc_tr]
      | 2, _ => simp [gc_dfl, gc_dfls, gc_dfl2, gc_tr]
      | 3, _ => simp [gc_dfl, gc_dfls, gc_dfl3, gc_tr]
      | 4, _ => simp [gc_dfl, gc_dfls, gc_dfl4, gc_tr]
      | 5, _ => simp [gc_dfl, gc_dfls, gc_dfl5, gc_tr]
      | 6, _ => simp [gc_dfl, gc_dfls, gc_dfl6, gc_tr]
      | 7, _ => simp [gc_dfl, gc_dfls, gc_dfl7, gc_tr]
      | 8, _ => simp [gc_dfl, gc_dfls, gc_dfl8, gc_tr]
      | 9, _ => simp [gc_dfl, gc_dfls, gc_dfl9, gc_tr]
      | 10, _ => simp [gc_dfl, gc_dfls, gc_dfl10, gc_tr]
      | 11, _ => simp [gc_dfl, gc_dfls, gc_dfl11, gc_tr]
      | n + 12, h => simp [vwCl] at h
    have hmap : (gc_dfl r1).map (gc_tr B) = gc_dfl r1 := by
      conv => rhs; rw [← List.map_id (gc_dfl r1)]
      exact List.map_congr_left hdf
    refine va_new (D := D) (ci := r1) (C := q.1) (T := q.2.1) (N := q.2.2) (fs := gc_dfl r1) (A := gc_A B) (H0 := s.heap) hx hb hts c1 ty0 c6 hown (hts _ (gc_lk_in hI)) (hts _ c3) (hts _ c4) hK a1.2 gc_wl_D a2 (fun q hq => Nat.le_trans hB hq) hq c7 (by show cells + 1 ≤ Mc; omega) (by show slots + q.2.2 ≤ Ms; omega) hdg ?_
    intro q0 H1 hP1 hD1 hS1
    refine gc_sz fun hsz => ?_
    obtain ⟨e1, e2⟩ := gc_came (E' := .inr (r1, gc_dfl r1)) (by show _ = Sum.inr (r1, (gc_dfl r1).map (gc_tr B)); rw [hmap]) hB hP1 hD1 hS1 a4 hsz
    subst e1
    exact hKK (kc - 1) (ks - (gc_dfl r1).length) lv (.ref S.1 :: st) _ H1 locs (cells + 1) (slots + q.2.2) ls e2 hS1 a3 (by show s.heap.size + (cells + 1) = B + (S.1 + 1); omega) (by omega) (by omega) hk
  · cases hI
theorem gc_zero_cell {cA : ClassId} {t n : Nat} (ht : t < 4) : vp_cell cA (n, gc_zero t) = arrV cA n (fun _ => defaultValue (gc_tagty t)) := by
  match t, ht with
  | 0, _ => rfl
  | 1, _ => rfl
  | 2, _ => rfl
  | 3, _ => rfl
  | t + 4, h => omega
theorem gc_x_newa {atype : ArrayType} (hP : gc_okP) (Cx : gc_Cx D cy B p s m args meth c y) (hKK : gc_KK l D cy B d y Mc Ms p e s m args below meth c Qm (pc + 2) K) (hdg : decode (gc_mB y) pc = .ok (.newarray atype, 2)) (hI : gc_okI y pc (.newarray atype) r1 r2 cn = true) (hA : gc_At D cy B y Mc Ms s H locs cells slots ls kc ks lv S)
    (h : gc_ex P gc_mL gc_mC gc_dfl d y (pc, nx, .newarray atype, r1, r2, cn) kc ks lv st S Q K) : W p l e (gc_rm d Mc Ms) s m args below meth c H locs cells slots Qm (F0 m pc ls (st.map (gc_tr B))) := by
  obtain ⟨hx, hb, hml, hr, hts, hown, hlocks, hname, hK, hN, hB⟩ := Cx
  obtain ⟨n, r, rfl, k0, k1, k2, k3, hk⟩ := gc_1i_of h
  obtain ⟨a1, a2, a3, a4, a5, a6⟩ := hA
  unfold gc_okI at hI
  simp only [Bool.and_eq_true, decide_eq_true_eq] at hI
  obtain ⟨ht, hty⟩ := hI
  refine va_newa (a0 := (n.toNatClampNeg, gc_zero r1)) (N' := n.toNatClampNeg) (A := gc_A B) (H0 := s.heap) hx hb (by rw [hty]; exact hts _ (hP.2.2.2.1 r1 ht)) hty hK a1.2 gc_wl_D a2 (fun q hq => Nat.le_trans hB hq) (fun cA => gc_zero_cell ht) k0 rfl ?_ (by show cells + 1 ≤ Mc; omega) (by show slots + _ ≤ Ms; omega) hdg ?_
  · have hcb : componentBytes (gc_tagty r1) ≤ 8 := by
      match r1, ht with
      | 0, _ => decide
      | 1, _ => decide
      | 2, _ => decide
      | 3, _ => decide
      | t + 4, h => omega
    have := Nat.mul_le_mul k1 hcb
    omega
  · intro q0 cA H1 hK1 hP1 hD1 hS1
    refine gc_sz fun hsz => ?_
    have hcA : cA = cy r1 := by
      have hn := (hK1.2 6 (cA, gc_tagty r1) (by simp [gc_tys])).2
      match r1, ht, hn with
      | 0, _, hn => exact Option.some.inj (hn.symm.trans (hK.2 0 _ rfl).2)
      | 1, _, hn => exact Option.some.inj (hn.symm.trans (hK.2 1 _ rfl).2)
      | 2, _, hn => exact Option.some.inj (hn.symm.trans (hK.2 2 _ rfl).2)
      | 3, _, hn => exact Option.some.inj (hn.symm.trans (hK.2 3 _ rfl).2)
      | t + 4, h, _ => omega
    subst hcA
    obtain ⟨e1, e2⟩ := gc_came (E' := .inl (r1, n.toNatClampNeg, gc_zero r1)) (by
      match r1, ht with
      | 0, _ => rfl
      | 1, _ => rfl
      | 2, _ => rfl
      | 3, _ => rfl
      | t + 4, h => omega) hB hP1 hD1 hS1 a4 hsz
    subst e1
    exact hKK (kc - 1) (ks - n.toNatClampNeg) lv (.ref S.1 :: r) _ H1 locs (cells + 1) (slots + n.toNatClampNeg) ls e2 hS1 a3 (by show s.heap.size + (cells + 1) = B + (S.1 + 1); omega) (by omega) (by omega) hk
end GcA
