/-- what the check says of an element -/
theorem gc_okE_of {y pc nx r1 r2 : Nat} {ins : Instr} {cn : Int32} (h : gc_okE y (pc, nx, ins, r1, r2, cn) = true) : ins = .nop ∨ (decode (gc_mB y) pc = .ok (ins, nx - pc) ∧ (gc_sw ins = true ∨ nx = pc + gc_len ins) ∧ gc_okI y pc ins r1 r2 cn = true) := by
  unfold gc_okE at h
  simp only [Bool.or_eq_true, Bool.and_eq_true, decide_eq_true_eq] at h
  exact h
theorem gc_ty0 {ty : Option FieldType} (h : gc_tyOk 0 ty = true) : ty = some .int := by
  cases ty with
  | none => cases h
  | some t => cases t <;> first | rfl | cases h
theorem gc_ty1 {ty : Option FieldType} (h : gc_tyOk 1 ty = true) : ty = some .long := by
  cases ty with
  | none => cases h
  | some t => cases t <;> first | rfl | cases h
theorem gc_ty2 {ty : Option FieldType} (h : gc_tyOk 2 ty = true) : (∃ t, ty = some (.object t)) ∨ ∃ t, ty = some (.array t) := by
  cases ty with
  | none => cases h
  | some t => cases t <;> first | exact Or.inl ⟨_, rfl⟩ | exact Or.inr ⟨_, rfl⟩ | cases h
theorem gc_ty3 {ty : Option FieldType} (h : gc_tyOk 3 ty = true) : ty = some .boolean := by
  cases ty with
  | none => cases h
  | some t => cases t <;> first | rfl | cases h
section GcE
variable {p : Program} {l : Launch} {e : Env} {s : State} {m : MethodId} {args : Array Value} {below : List Frame} {meth : Method} {c : Code} {H : Heap} {locs : List Loc} {cells slots : Nat} {Qm : State → Prop}
variable {D : va_G} {cy : Nat → ClassId} {B d y : Nat} {Mc Ms : Nat} {pc nx r1 r2 : Nat} {cn : Int32} {ls : Array Slot} {lv st : List Value} {S : gc_H} {kc ks : Nat} {K : Nat → Nat → List Value → List Value → gc_H → Prop}
/-- the machine goes on behind an instruction -/
abbrev gc_KK (l : Launch) (D : va_G) (cy : Nat → ClassId) (B d y Mc Ms : Nat) (p : Program) (e : Env) (s : State) (m : MethodId) (args : Array Value) (below : List Frame) (meth : Method) (c : Code) (Qm : State → Prop) (nx : Nat) (K : Nat → Nat → List Value → List Value → gc_H → Prop) : Prop :=
  ∀ (kc ks : Nat) (lv st : List Value) (S : gc_H) (H : Heap) (locs : List Loc) (cells slots : Nat) (ls : Array Slot), gc_Wo D cy B S H → va_S (gc_A B) s.heap H locs → gc_lv B ls (gc_mL y) lv → s.heap.size + cells = B + S.1 → cells + kc = Mc → slots + ks ≤ Ms → K kc ks lv st S → W p l e (gc_rm d Mc Ms) s m args below meth c H locs cells slots Qm (F0 m nx ls (st.map (gc_tr B)))
theorem gc_he {a ci : Nat} {fs : List Value} (ha : a < S.1) (h : S.2 a = .inr (ci, fs)) : (gc_wl B cy S)[a]? = some (B + a, .inr (ci, fs.map (gc_tr B))) := by rw [gc_wl_get ha, h]; rfl
theorem gc_hai {a t n : Nat} {f : Nat → Int32} (ha : a < S.1) (h : S.2 a = .inl (t, n, .inl f)) : (gc_wl B cy S)[a]? = some (B + a, .inl (cy t, n, .inl f)) := by rw [gc_wl_get ha, h]; rfl
theorem gc_hal {a t n : Nat} {f : Nat → Int64} (ha : a < S.1) (h : S.2 a = .inl (t, n, .inr (.inl f))) : (gc_wl B cy S)[a]? = some (B + a, .inl (cy t, n, .inr (.inl f))) := by rw [gc_wl_get ha, h]; rfl
theorem gc_haq {a t n : Nat} {f : Nat → Option Nat} (ha : a < S.1) (h : S.2 a = .inl (t, n, .inr (.inr (.inr (.inr f))))) : (gc_wl B cy S)[a]? = some (B + a, .inl (cy t, n, .inr (.inr (.inr (.inr (fun j => (f j).map (fun a => B + a))))))) := by rw [gc_wl_get ha, h]; rfl
/-- one cell has been written -/
theorem gc_wrote {a : Nat} {E : va_E} {E' : gc_E} {H1 : Heap} {locs1 : List Loc} (hE : E = gc_trE B cy E') (hB : B ≤ s.heap.size) (hP : va_P D vwCl ((gc_wl B cy S).set a (B + a, E)) H1) (hS : va_S (gc_A B) s.heap H1 locs1) (hz : s.heap.size + cells = B + S.1) (h : H1.size ≤ s.heap.size + cells) : gc_Wo D cy B (gc_up S a E') H1 := by
  subst hE
  rw [gc_wl_up] at hP
  refine gc_Wo_mk hP ?_ (Nat.le_trans hB hS.1)
  show H1.size ≤ B + S.1
  omega
/-- one cell has come -/
theorem gc_came {q : Nat} {E : va_E} {E' : gc_E} {H1 : Heap} {locs1 : List Loc} (hE : E = gc_trE B cy E') (hB : B ≤ s.heap.size) (hP : va_P D vwCl (gc_wl B cy S ++ [(q, E)]) H1) (hD : va_D (gc_A B) (gc_wl B cy S ++ [(q, E)])) (hS : va_S (gc_A B) s.heap H1 locs1) (hz : s.heap.size + cells = B + S.1) (h : H1.size ≤ s.heap.size + (cells + 1)) : q = B + S.1 ∧ gc_Wo D cy B (gc_nw S E') H1 := by
  have hlen : (gc_wl B cy S).length = S.1 := by simp [gc_wl]
  have hq : (gc_wl B cy S ++ [(q, E)])[S.1]? = some (q, E) := by rw [List.getElem?_append_right (by omega), hlen, Nat.sub_self]; rfl
  have h1 : q < H1.size := (hP S.1 _ hq).lt
  have h2 : B ≤ q := hD.2 S.1 _ hq
  have h3 : q = B + S.1 := by
    rcases Nat.lt_or_ge q (B + S.1) with hlt | hge
    · exfalso
      have hk : q - B < S.1 := by omega
      have hg : (gc_wl B cy S ++ [(q, E)])[q - B]? = some (B + (q - B), gc_trE B cy (S.2 (q - B))) := by rw [List.getElem?_append_left (by omega), gc_wl_get hk]
      have := hD.1 _ _ _ _ hq hg (by show q = B + (q - B); omega)
      omega
    · omega
  refine ⟨h3, ?_⟩
  subst h3
  subst hE
  rw [gc_wl_nw] at hP
  refine gc_Wo_mk hP ?_ (Nat.le_trans hB hS.1)
  show H1.size ≤ B + (S.1 + 1)
  omega
theorem gc_x_get {i : Nat} {P : gc_Pr} {Q : gc_Q} (Cx : gc_Cx D cy B p s m args meth c y) (hKK : gc_KK l D cy B d y Mc Ms p e s m args below meth c Qm (pc + 3) K) (hdg : decode (gc_mB y) pc = .ok (.getfield i, 3)) (hI : gc_okI y pc (.getfield i) r1 r2 cn = true) (hWo : gc_Wo D cy B S H) (hS : va_S (gc_A B) s.heap H locs) (hl : gc_lv B ls (gc_mL y) lv) (hz : s.heap.size + cells = B + S.1) (h1 : cells + kc = Mc) (h2 : slots + ks ≤ Ms)
    (h : gc_ex P gc_mL gc_mC gc_dfl d y (pc, nx, .getfield i, r1, r2, cn) kc ks lv st S Q K) : W p l e (gc_rm d Mc Ms) s m args below meth c H locs cells slots Qm (F0 m pc ls (st.map (gc_tr B))) := by
  obtain ⟨hx, hb, hml, hr, hts, hown, hlocks, hname, hK, hN, hB⟩ := Cx
  obtain ⟨a, r, rfl, fs, ha, hfs, hm⟩ := gc_1r_of h
  unfold gc_okI at hI
  simp only at hI
  split at hI
  · rename_i q hq
    simp only [Bool.and_eq_true, decide_eq_true_eq] at hI
    have key : ∀ v : Value, fs[r2 / 4]? = some v → K kc ks lv (v :: r) S → W p l e (gc_rm d Mc Ms) s m args below meth c H locs cells slots Qm (F0 m pc ls ((.ref a :: r).map (gc_tr B))) := fun v hv hk =>
      va_get (D := D) (ci := r1) (C := q.1) (T := q.2.1) (N := q.2.2) (v := gc_tr B v) (ref := (q.2.1 (r2 / 4)).1) hx hb hts (gc_cls hq).1 hown hK hWo.2 a (gc_he ha hfs) hq (r2 / 4) hI.1 (hts _ (gc_lk_in hI.2)) (fun _ z => z) (by rw [List.getElem?_map, hv]; rfl) hdg (hKK kc ks lv (v :: r) S H locs cells slots ls hWo hS hl hz h1 h2 hk)
    split at hm
    · obtain ⟨x, h3, h4⟩ := hm; exact key _ h3 h4
    · obtain ⟨x, h3, h4⟩ := hm; exact key _ h3 h4
    · obtain ⟨x, h3, h4⟩ := hm; exact key _ h3 h4
  · cases hI
theorem gc_x_put {i : Nat} {P : gc_Pr} {Q : gc_Q} (Cx : gc_Cx D cy B p s m args meth c y) (hKK : gc_KK l D cy B d y Mc Ms p e s m args below meth c Qm (pc + 3) K) (hdg : decode (gc_mB y) pc = .ok (.putfield i, 3)) (hI : gc_okI y pc (.putfield i) r1 r2 cn = true) (hWo : gc_Wo D cy B S H) (hS : va_S (gc_A B) s.heap H locs) (hl : gc_lv B ls (gc_mL y) lv) (hz : s.heap.size + cells = B + S.1) (h1 : cells + kc = Mc) (h2 : slots + ks ≤ Ms)
    (h : gc_ex P gc_mL gc_mC gc_dfl d y (pc, nx, .putfield i, r1, r2, cn) kc ks lv st S Q K) : W p l e (gc_rm d Mc Ms) s m args below meth c H locs cells slots Qm (F0 m pc ls (st.map (gc_tr B))) := by
  obtain ⟨hx, hb, hml, hr, hts, hown, hlocks, hname, hK, hN, hB⟩ := Cx
  obtain ⟨a, v, r, rfl, fs, ha, hfs, hlt, hm⟩ := gc_vr_of h
  unfold gc_okI at hI
  simp only at hI
  split at hI
  · rename_i q hq
    simp only [Bool.and_eq_true, Bool.or_eq_true, decide_eq_true_eq] at hI
    obtain ⟨i1, i2, i3, i4⟩ := hI
    obtain ⟨c1, c2, c3, c4, c5, ty0, c6, c7⟩ := gc_cls hq
    have key : ∀ (ty : FieldType), parseFieldDescriptor (q.2.1 (r2 / 4)).2.2.1 = some ty → narrow ty (gc_tr B v) = gc_tr B v → fits ty (gc_tr B v) = true → K kc ks lv r (gc_up S a (.inr (r1, fs.set (r2 / 4) v))) → W p l e (gc_rm d Mc Ms) s m args below meth c H locs cells slots Qm (F0 m pc ls ((v :: .ref a :: r).map (gc_tr B))) := by
      intro ty t1 t2 t3 hk
      have fin : ∀ (H1 : Heap) (locs1 : List Loc), va_P D vwCl ((gc_wl B cy S).set a (B + a, .inr (r1, (fs.map (gc_tr B)).set (r2 / 4) (gc_tr B v)))) H1 → va_D (gc_A B) ((gc_wl B cy S).set a (B + a, .inr (r1, (fs.map (gc_tr B)).set (r2 / 4) (gc_tr B v)))) → va_S (gc_A B) s.heap H1 locs1 → W p l e (gc_rm d Mc Ms) s m args below meth c H1 locs1 cells slots Qm (F0 m (pc + 3) ls (r.map (gc_tr B))) := by
        intro H1 locs1 hP1 hD1 hS1
        refine gc_sz fun hsz => ?_
        exact hKK kc ks lv r _ H1 locs1 cells slots ls (gc_wrote (by show _ = Sum.inr (r1, (fs.set (r2 / 4) v).map (gc_tr B)); rw [List.map_set]) hB hP1 hS1 hz hsz) hS1 hl hz h1 h2 hk
      rcases i3 with i3 | ⟨i3, i5, i6⟩
      · exact va_put (D := D) (ci := r1) (C := q.1) (T := q.2.1) (N := q.2.2) (v := gc_tr B v) (ty := ty) (ref := (q.2.1 (r2 / 4)).1) (A := gc_A B) (H0 := s.heap) hx hb hts c1 ty0 c6 c2 hown hK hWo.2 gc_wl_D hS a (gc_he ha hfs) hq (r2 / 4) i1 (hts _ (gc_lk_in i2)) (fun _ z => z) i3 t1 t2 t3 (by rw [List.length_map]; exact hlt) hdg fin
      · exact va_putF (D := D) (ci := r1) (C := q.1) (T := q.2.1) (N := q.2.2) (v := gc_tr B v) (ty := ty) (ref := (q.2.1 (r2 / 4)).1) (A := gc_A B) (H0 := s.heap) hx hb hts c1 ty0 c6 c2 hown hK hWo.2 gc_wl_D hS a (gc_he ha hfs) hq (r2 / 4) i1 (hts _ (gc_lk_in i2)) (fun _ z => z) i3 (by rw [hname]; exact i5) i6 t1 t2 t3 (by rw [List.length_map]; exact hlt) hdg fin
    split at hm
    · rename_i x e1
      rw [e1] at i4
      exact key _ (gc_ty0 i4) rfl rfl hm
    · rename_i x e1
      rw [e1] at i4
      exact key _ (gc_ty1 i4) rfl rfl hm
    · rename_i x e1
      rw [e1] at i4
      rcases gc_ty2 i4 with ⟨t, ht⟩ | ⟨t, ht⟩
      · exact key _ ht rfl rfl hm
      · exact key _ ht rfl rfl hm
    · rename_i x e1
      rw [e1] at i4
      obtain ⟨hx01, hk⟩ := hm
      exact key _ (gc_ty3 i4) (by rcases hx01 with rfl | rfl <;> rfl) (by rcases hx01 with rfl | rfl <;> rfl) hk
    · exact hm.elim
  · cases hI
end GcE
