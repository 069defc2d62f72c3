section GcM
variable {p : Program} {l : Launch} {e : Env} {s : State} {m : MethodId} {args : Array Value} {below : List Frame} {meth : Method} {c : Code} {H : Heap} {locs : List Loc} {cells slots : Nat}
variable {D : va_G} {cy : Nat → ClassId} {B d y : Nat} {Mc Ms : Nat} {pc nx r1 r2 : Nat} {cn : Int32} {ls : Array Slot} {lv st : List Value} {S : gc_H} {kc ks : Nat} {K : Nat → Nat → List Value → List Value → gc_H → Prop} {Q : gc_Q}
theorem gc_toNat {z : Int} (h : 0 ≤ z) : z = ((z.toNat : Nat) : Int) := (Int.toNat_of_nonneg h).symm
theorem gc_P0.at (Cx : gc_Cx D cy B p s m args meth c y) (hA : gc_At D cy B y Mc Ms s H locs cells slots ls kc ks lv S) {t : Nat} (h : gc_P0 l D cy B d kc ks y t lv st S Q) : W p l e (gc_rm d Mc Ms) s m args below meth c H locs cells slots (MQ below (gc_QQ D cy B Mc Q) args s Mc Ms (gc_A B)) (F0 m t ls (st.map (gc_tr B))) :=
  h.go Cx hA.1 hA.2.1 hA.2.2.1 hA.2.2.2.1 hA.2.2.2.2.1 hA.2.2.2.2.2
theorem gc_x_tsw {df lo hi : Int} {offs : Array Int} {len : Nat} (Cx : gc_Cx D cy B p s m args meth c y) (hdg : decode (gc_mB y) pc = .ok (.tableswitch df lo hi offs, len)) (hI : gc_okI y pc (.tableswitch df lo hi offs) r1 r2 cn = true) (hA : gc_At D cy B y Mc Ms s H locs cells slots ls kc ks lv S)
    (h : gc_ex (gc_P0 l D cy B) gc_mL gc_mC gc_dfl d y (pc, nx, .tableswitch df lo hi offs, r1, r2, cn) kc ks lv st S Q K) : W p l e (gc_rm d Mc Ms) s m args below meth c H locs cells slots (MQ below (gc_QQ D cy B Mc Q) args s Mc Ms (gc_A B)) (F0 m pc ls (st.map (gc_tr B))) := by
  obtain ⟨x, r, rfl, ht, hd⟩ := gc_1i_of h
  unfold gc_okI at hI
  simp only [Bool.and_eq_true, decide_eq_true_eq, List.all_eq_true] at hI
  obtain ⟨i1, i2, i3⟩ := hI
  by_cases ho : x.toInt < lo ∨ hi < x.toInt
  · exact lv_tableOut Cx.1 Cx.2.1 hdg ho (gc_toNat i2) (gc_P0.at Cx hA (hd ho))
  · have h1 : ¬ x.toInt < lo := fun z => ho (Or.inl z)
    have h2 : ¬ hi < x.toInt := fun z => ho (Or.inr z)
    have hlt : (x.toInt - lo).toNat < offs.toList.length := by omega
    have hg : offs.toList[(x.toInt - lo).toNat]? = some (offs.toList[(x.toInt - lo).toNat]'hlt) := List.getElem?_eq_getElem hlt
    have hm : offs.toList[(x.toInt - lo).toNat]'hlt ∈ offs.toList := List.getElem_mem hlt
    exact lv_tableIn Cx.1 Cx.2.1 hdg h1 h2 (by rw [← Array.getElem?_toList]; exact hg) (gc_toNat (i3 _ hm)) (gc_P0.at Cx hA (gc_tsw_of _ lo ht _ _ hg (by omega)))
theorem gc_lsw_of {x : Int} {k : Int → Prop} {kd : Prop} {df : Int} {pcz : Int} : ∀ (ps : List (Int × Int)), gc_lsw x ps k kd → (∀ q ∈ ps, 0 ≤ pcz + q.2) → 0 ≤ pcz + df → (Op.lookupswitch.offset ps df x = df ∧ kd) ∨ (k (Op.lookupswitch.offset ps df x) ∧ 0 ≤ pcz + Op.lookupswitch.offset ps df x)
  | [], h, _, _ => Or.inl ⟨rfl, h⟩
  | q :: ps, h, hq, hd => by
    by_cases hx : x = q.1
    · right
      have e1 : Op.lookupswitch.offset (q :: ps) df x = q.2 := by simp [Op.lookupswitch.offset, List.find?, hx]
      rw [e1]
      exact ⟨h.1 hx, hq q List.mem_cons_self⟩
    · have e1 : Op.lookupswitch.offset (q :: ps) df x = Op.lookupswitch.offset ps df x := by simp [Op.lookupswitch.offset, List.find?, Ne.symm hx]
      rw [e1]
      exact gc_lsw_of ps (h.2 hx) (fun z hz => hq z (List.mem_cons_of_mem _ hz)) hd
theorem gc_x_lsw {df : Int} {ps : Array (Int × Int)} {len : Nat} (Cx : gc_Cx D cy B p s m args meth c y) (hdg : decode (gc_mB y) pc = .ok (.lookupswitch df ps, len)) (hI : gc_okI y pc (.lookupswitch df ps) r1 r2 cn = true) (hA : gc_At D cy B y Mc Ms s H locs cells slots ls kc ks lv S)
    (h : gc_ex (gc_P0 l D cy B) gc_mL gc_mC gc_dfl d y (pc, nx, .lookupswitch df ps, r1, r2, cn) kc ks lv st S Q K) : W p l e (gc_rm d Mc Ms) s m args below meth c H locs cells slots (MQ below (gc_QQ D cy B Mc Q) args s Mc Ms (gc_A B)) (F0 m pc ls (st.map (gc_tr B))) := by
  obtain ⟨x, r, rfl, ht⟩ := gc_1i_of h
  unfold gc_okI at hI
  simp only [Bool.and_eq_true, decide_eq_true_eq, List.all_eq_true] at hI
  obtain ⟨i1, i2, i3⟩ := hI
  rcases gc_lsw_of (df := df) (pcz := (pc : Int)) ps.toList ht i3 i2 with ⟨e1, hk⟩ | ⟨hk, h0⟩
  · exact lv_lookup Cx.1 Cx.2.1 hdg (List.all_eq_true.mpr (by simpa using i1)) e1 (gc_toNat i2) (gc_P0.at Cx hA hk)
  · exact lv_lookup Cx.1 Cx.2.1 hdg (List.all_eq_true.mpr (by simpa using i1)) rfl (gc_toNat h0) (gc_P0.at Cx hA hk)
theorem gc_ret {o : Option Value} {t : State} (Cx : gc_Cx D cy B p s m args meth c y) (hA : gc_At D cy B y Mc Ms s H locs cells slots ls kc ks lv S) (h0 : kc = 0) (hq : Q o S) (ht : t.heap = H) : gc_QQ D cy B Mc Q args s (.returned (o.map (gc_tr B))) t := by
  obtain ⟨a1, a2, a3, a4, a5, a6⟩ := hA
  refine ⟨o, S, rfl, hq, by rw [ht]; exact a1, ⟨by rw [ht]; exact a2.1, fun q h1 h2 => by rw [ht]; exact a2.2.1 q h1 h2⟩, ?_⟩
  omega
theorem gc_x_copy {i : Nat} (hP : gc_okP) (Cx : gc_Cx D cy B p s m args meth c y) {Qm : State → Prop} (hKK : gc_KK l D cy B d y Mc Ms p e s m args below meth c Qm (pc + 3) K) (hdg : decode (gc_mB y) pc = .ok (.invokestatic i, 3)) (hl : Cond.methodLink (gc_mN y).cls i arraycopyName ∈ gc_lk (gc_mC y)) (hA : gc_At D cy B y Mc Ms s H locs cells slots ls kc ks lv S) {P : gc_Pr}
    (h : gc_ex P gc_mL gc_mC gc_dfl d y (pc, nx, .invokestatic i, 1002, r2, cn) kc ks lv st S Q K) : W p l e (gc_rm d Mc Ms) s m args below meth c H locs cells slots Qm (F0 m pc ls (st.map (gc_tr B))) := by
  obtain ⟨hx, hb, hml, hr, hts, hown, hlocks, hname, hK, hN, hB⟩ := Cx
  unfold gc_ex at h
  dsimp only at h
  split at h
  · exact absurd (by assumption : (1002 : Nat) = 1000) (by decide)
  · exact absurd (by assumption : (1002 : Nat) = 1001) (by decide)
  · split at h
    · rename_i n dp b sp a r
      obtain ⟨g1, g2, g3, g4, g5, na, fa, nb, fb, g6, g7, g8, g9, g10, g11, hk⟩ := h
      have hsum := gc_cats (r.map (gc_tr B))
      rw [List.length_map] at hsum
      have hnf : nativeFrameWords "java/lang/System" "arraycopy" 5 ≤ 40 := by decide
      exact va_copyi hx hb (by rw [hml]; exact hA.2.2.1.1.symm) hown (hts _ (gc_lk_in hl)) (hts _ hP.2.2.2.2.1) (hts _ hP.2.2.2.2.2.1) (hts _ hP.2.2.2.2.2.2.1) hK hA.1.2 gc_wl_D hA.2.1 a b 0 0 (gc_hai g6 g7) (gc_hai g8 g9) rfl rfl rfl g3 g4 g5 g10 g11 (fun _ _ => rfl) g1 (by show _ ≤ 60 * d; omega) hdg
        (fun H1 locs1 hP1 _ hS1 => hKK.wr (E' := .inl (0, nb, .inl (va_cpy fa fb sp.toNatClampNeg dp.toNatClampNeg n.toNatClampNeg))) hA hB rfl hP1 hS1 hk)
    · exact h.elim
  · rename_i hne1 hne2 hne3
    exact absurd rfl hne3
theorem gc_x_max {i : Nat} (hP : gc_okP) (Cx : gc_Cx D cy B p s m args meth c y) {Qm : State → Prop} (hKK : gc_KK l D cy B d y Mc Ms p e s m args below meth c Qm (pc + 3) K) (hdg : decode (gc_mB y) pc = .ok (.invokestatic i, 3)) (hl : Cond.methodLink (gc_mN y).cls i Lib.Math.max.name ∈ gc_lk (gc_mC y)) (hA : gc_At D cy B y Mc Ms s H locs cells slots ls kc ks lv S) {P : gc_Pr}
    (h : gc_ex P gc_mL gc_mC gc_dfl d y (pc, nx, .invokestatic i, 1000, r2, cn) kc ks lv st S Q K) : W p l e (gc_rm d Mc Ms) s m args below meth c H locs cells slots Qm (F0 m pc ls (st.map (gc_tr B))) := by
  obtain ⟨hx, hb, hml, hr, hts, hown, hlocks, hname, hK, hN, hB⟩ := Cx
  obtain ⟨x, z, r, rfl, g1, g2, hk⟩ := gc_2i_of (show gc_2i st (fun x y r => 1 ≤ d ∧ r.length ≤ 4 ∧ K kc ks lv (.int (if x < y then y else x) :: r) S) from h)
  have hsum := gc_cats (r.map (gc_tr B))
  rw [List.length_map] at hsum
  have w := hP.2.2.2.2.2.2.2
  exact va_mmax hx hb (by rw [hml]; exact hA.2.2.1.1.symm) hown (hts _ (gc_lk_in hl)) (hts _ w.2.1) (hts _ w.1) (hts _ w.2.2.1) g1 (by show _ + 13 ≤ 60 * d; omega) (by show cells ≤ Mc; have := hA.2.2.2.2.1; omega) (by show slots ≤ Ms; have := hA.2.2.2.2.2; omega) hdg (hKK.go hA hk)
theorem gc_x_min {i : Nat} (hP : gc_okP) (Cx : gc_Cx D cy B p s m args meth c y) {Qm : State → Prop} (hKK : gc_KK l D cy B d y Mc Ms p e s m args below meth c Qm (pc + 3) K) (hdg : decode (gc_mB y) pc = .ok (.invokestatic i, 3)) (hl : Cond.methodLink (gc_mN y).cls i Lib.Math.min.name ∈ gc_lk (gc_mC y)) (hA : gc_At D cy B y Mc Ms s H locs cells slots ls kc ks lv S) {P : gc_Pr}
    (h : gc_ex P gc_mL gc_mC gc_dfl d y (pc, nx, .invokestatic i, 1001, r2, cn) kc ks lv st S Q K) : W p l e (gc_rm d Mc Ms) s m args below meth c H locs cells slots Qm (F0 m pc ls (st.map (gc_tr B))) := by
  obtain ⟨hx, hb, hml, hr, hts, hown, hlocks, hname, hK, hN, hB⟩ := Cx
  obtain ⟨x, z, r, rfl, g1, g2, hk⟩ := gc_2i_of (show gc_2i st (fun x y r => 1 ≤ d ∧ r.length ≤ 4 ∧ K kc ks lv (.int (if y < x then y else x) :: r) S) from h)
  have hsum := gc_cats (r.map (gc_tr B))
  rw [List.length_map] at hsum
  have w := hP.2.2.2.2.2.2.2
  exact va_mmin hx hb (by rw [hml]; exact hA.2.2.1.1.symm) hown (hts _ (gc_lk_in hl)) (hts _ w.2.2.2.1) (hts _ w.1) (hts _ w.2.2.2.2) g1 (by show _ + 13 ≤ 60 * d; omega) (by show cells ≤ Mc; have := hA.2.2.2.2.1; omega) (by show slots ≤ Ms; have := hA.2.2.2.2.2; omega) hdg (hKK.go hA hk)
/-- one instruction: all of them -/
theorem gc_exs (hP : gc_okP) (Cx : gc_Cx D cy B p s m args meth c y) (el : gc_El) (hE : gc_okE y el = true) (hKK : gc_KK l D cy B d y Mc Ms p e s m args below meth c (MQ below (gc_QQ D cy B Mc Q) args s Mc Ms (gc_A B)) el.2.1 K) (hA : gc_At D cy B y Mc Ms s H locs cells slots ls kc ks lv S)
    (h : gc_ex (gc_P0 l D cy B) gc_mL gc_mC gc_dfl d y el kc ks lv st S Q K) : W p l e (gc_rm d Mc Ms) s m args below meth c H locs cells slots (MQ below (gc_QQ D cy B Mc Q) args s Mc Ms (gc_A B)) (F0 m el.1 ls (st.map (gc_tr B))) := by
  obtain ⟨pc, nx, ins, r1, r2, cn⟩ := el
  rcases gc_okE_of hE with rfl | ⟨hdg, hn, hI⟩
  · exact h.elim
  have hx := Cx.1
  have hb := Cx.2.1
  have hml := Cx.2.2.1
  have hr := Cx.2.2.2.1
  have hts := Cx.2.2.2.2.1
  have hown := Cx.2.2.2.2.2.1
  have hlocks := Cx.2.2.2.2.2.2.1
  have hlv := hA.2.2.1
  have hnx : gc_sw ins = false → nx = pc + gc_len ins ∧ decode (gc_mB y) pc = .ok (ins, gc_len ins) := by
    intro hs
    rcases hn with hn | hn
    · rw [hs] at hn; cases hn
    · refine ⟨hn, ?_⟩
      rw [hdg, hn, Nat.add_sub_cancel_left]
  cases ins with
  | aload_n n =>
    obtain ⟨rfl, hd⟩ := hnx rfl
    rcases gc_lA_of (show gc_lA lv n.val (fun v => K kc ks lv (v :: st) S) from h) with ⟨a, h1, h2⟩ | ⟨h1, h2⟩
    · exact lv_aload_n hx hb hd rfl (hlv.2.2 _ _ h1 (fun z => by cases z)) (hKK.go hA h2)
    · exact lv_aload_nN hx hb hd rfl (hlv.2.2 _ _ h1 (fun z => by cases z)) (hKK.go hA h2)
  | aload n =>
    obtain ⟨rfl, hd⟩ := hnx rfl
    rcases gc_lA_of (show gc_lA lv n (fun v => K kc ks lv (v :: st) S) from h) with ⟨a, h1, h2⟩ | ⟨h1, h2⟩
    · exact lv_aload hx hb hd (hlv.2.2 _ _ h1 (fun z => by cases z)) (hKK.go hA h2)
    · exact lv_aloadN hx hb hd (hlv.2.2 _ _ h1 (fun z => by cases z)) (hKK.go hA h2)
  | iload_n n =>
    obtain ⟨rfl, hd⟩ := hnx rfl
    obtain ⟨x, h1, h2⟩ := gc_lI_of h
    exact lv_iload_n hx hb hd rfl (hlv.2.2 _ _ h1 (fun z => by cases z)) (hKK.go hA h2)
  | iload n =>
    obtain ⟨rfl, hd⟩ := hnx rfl
    obtain ⟨x, h1, h2⟩ := gc_lI_of h
    exact lv_iload hx hb hd (hlv.2.2 _ _ h1 (fun z => by cases z)) (hKK.go hA h2)
  | lload_n n =>
    obtain ⟨rfl, hd⟩ := hnx rfl
    obtain ⟨x, h1, h2⟩ := gc_lL_of h
    exact lv_lload_n hx hb hd rfl (hlv.2.2 _ _ h1 (fun z => by cases z)) (hKK.go hA h2)
  | lload n =>
    obtain ⟨rfl, hd⟩ := hnx rfl
    obtain ⟨x, h1, h2⟩ := gc_lL_of h
    exact lv_lload hx hb hd (hlv.2.2 _ _ h1 (fun z => by cases z)) (hKK.go hA h2)
  | istore_n n =>
    obtain ⟨rfl, hd⟩ := hnx rfl
    obtain ⟨x, r, rfl, h2⟩ := gc_1i_of h
    have hlt := of_decide_eq_true hI
    exact lv_istore_n hx hb hd rfl hlv.has hlt rfl (fun ls' h' => hKK.go ⟨hA.1, hA.2.1, hlv.s1 (v := .int x) h', hA.2.2.2⟩ h2)
  | istore n =>
    obtain ⟨rfl, hd⟩ := hnx rfl
    obtain ⟨x, r, rfl, h2⟩ := gc_1i_of h
    have hlt := of_decide_eq_true hI
    exact lv_istore hx hb hd hlv.has hlt rfl (fun ls' h' => hKK.go ⟨hA.1, hA.2.1, hlv.s1 (v := .int x) h', hA.2.2.2⟩ h2)
  | astore_n n =>
    obtain ⟨rfl, hd⟩ := hnx rfl
    obtain ⟨x, r, rfl, h2⟩ := gc_1r_of h
    have hlt := of_decide_eq_true hI
    exact lv_astore_n hx hb hd rfl hlv.has hlt rfl (fun ls' h' => hKK.go ⟨hA.1, hA.2.1, hlv.s1 (v := .ref x) h', hA.2.2.2⟩ h2)
  | astore n =>
    obtain ⟨rfl, hd⟩ := hnx rfl
    obtain ⟨x, r, rfl, h2⟩ := gc_1r_of h
    have hlt := of_decide_eq_true hI
    exact lv_astore hx hb hd hlv.has hlt rfl (fun ls' h' => hKK.go ⟨hA.1, hA.2.1, hlv.s1 (v := .ref x) h', hA.2.2.2⟩ h2)
  | lstore_n n =>
    obtain ⟨rfl, hd⟩ := hnx rfl
    obtain ⟨x, r, rfl, h2⟩ := gc_1l_of h
    have hlt := of_decide_eq_true hI
    exact lv_lstore_n hx hb hd rfl hlv.has hlt rfl (fun ls' h' => hKK.go ⟨hA.1, hA.2.1, hlv.s2 (v := .long x) h', hA.2.2.2⟩ h2)
  | lstore n =>
    obtain ⟨rfl, hd⟩ := hnx rfl
    obtain ⟨x, r, rfl, h2⟩ := gc_1l_of h
    have hlt := of_decide_eq_true hI
    exact lv_lstore hx hb hd hlv.has hlt rfl (fun ls' h' => hKK.go ⟨hA.1, hA.2.1, hlv.s2 (v := .long x) h', hA.2.2.2⟩ h2)
  | iinc n k =>
    obtain ⟨rfl, hd⟩ := hnx rfl
    obtain ⟨x, h1, h2⟩ := gc_lI_of h
    unfold gc_okI at hI
    simp only [Bool.and_eq_true, decide_eq_true_eq] at hI
    obtain ⟨j, hj⟩ := List.getElem?_of_mem (gc_asc_mem.mpr ⟨.int x, h1, (fun z => by cases z), rfl⟩ : (n, gc_tr B (.int x)) ∈ gc_asc B lv)
    exact lv_iinc (k := j) hx hb hd hlv.has hj (by rw [hI.2]) hI.1 rfl (fun ls' h' => hKK.go ⟨hA.1, hA.2.1, hlv.s1 (v := .int (x + cn)) h', hA.2.2.2⟩ h2)
  | iconst k =>
    obtain ⟨rfl, hd⟩ := hnx rfl
    exact lv_iconst hx hb hd (of_decide_eq_true hI) (hKK.go hA h)
  | bipush k =>
    obtain ⟨rfl, hd⟩ := hnx rfl
    exact lv_bipush hx hb hd (of_decide_eq_true hI) (hKK.go hA h)
  | sipush k =>
    obtain ⟨rfl, hd⟩ := hnx rfl
    exact lv_sipush hx hb hd (of_decide_eq_true hI) (hKK.go hA h)
  | ldc i =>
    obtain ⟨rfl, hd⟩ := hnx rfl
    exact lv_ldc hx hb hown (hts _ (gc_lk_in (of_decide_eq_true hI))) hd (hKK.go hA h)
  | ldc_w i =>
    obtain ⟨rfl, hd⟩ := hnx rfl
    exact lv_ldcw hx hb hown (hts _ (gc_lk_in (of_decide_eq_true hI))) hd (hKK.go hA h)
  | ldc2_w i =>
    obtain ⟨rfl, hd⟩ := hnx rfl
    exact lv_ldc2 hx hb hown (hts _ (gc_lk_in (of_decide_eq_true hI))) hd (hKK.go hA h)
  | lconst n =>
    obtain ⟨rfl, hd⟩ := hnx rfl
    exact lv_lconst hx hb hd rfl (hKK.go hA h)
  | iadd =>
    obtain ⟨rfl, hd⟩ := hnx rfl
    obtain ⟨x, z, r, rfl, h2⟩ := gc_2i_of h
    exact lv_iadd hx hb hd (hKK.go hA h2)
  | isub =>
    obtain ⟨rfl, hd⟩ := hnx rfl
    obtain ⟨x, z, r, rfl, h2⟩ := gc_2i_of h
    exact lv_isub hx hb hd (hKK.go hA h2)
  | imul =>
    obtain ⟨rfl, hd⟩ := hnx rfl
    obtain ⟨x, z, r, rfl, h2⟩ := gc_2i_of h
    exact lv_imul hx hb hd (hKK.go hA h2)
  | iand =>
    obtain ⟨rfl, hd⟩ := hnx rfl
    obtain ⟨x, z, r, rfl, h2⟩ := gc_2i_of h
    exact lv_iand hx hb hd (hKK.go hA h2)
  | ior =>
    obtain ⟨rfl, hd⟩ := hnx rfl
    obtain ⟨x, z, r, rfl, h2⟩ := gc_2i_of h
    exact lv_ior hx hb hd (hKK.go hA h2)
  | ixor =>
    obtain ⟨rfl, hd⟩ := hnx rfl
    obtain ⟨x, z, r, rfl, h2⟩ := gc_2i_of h
    exact lv_ixor hx hb hd (hKK.go hA h2)
  | ishl =>
    obtain ⟨rfl, hd⟩ := hnx rfl
    obtain ⟨x, z, r, rfl, h2⟩ := gc_2i_of h
    exact lv_ishl hx hb hd (hKK.go hA h2)
  | ishr =>
    obtain ⟨rfl, hd⟩ := hnx rfl
    obtain ⟨x, z, r, rfl, h2⟩ := gc_2i_of h
    exact lv_ishr hx hb hd (hKK.go hA h2)
  | iushr =>
    obtain ⟨rfl, hd⟩ := hnx rfl
    obtain ⟨x, z, r, rfl, h2⟩ := gc_2i_of h
    exact lv_iushr hx hb hd rfl (hKK.go hA h2)
  | ineg =>
    obtain ⟨rfl, hd⟩ := hnx rfl
    obtain ⟨x, r, rfl, h2⟩ := gc_1i_of h
    exact lv_ineg hx hb hd (hKK.go hA h2)
  | idiv =>
    obtain ⟨rfl, hd⟩ := hnx rfl
    obtain ⟨x, z, r, rfl, h1, h2⟩ := gc_2i_of h
    exact lv_idiv hx hb hd h1 (hKK.go hA h2)
  | irem =>
    obtain ⟨rfl, hd⟩ := hnx rfl
    obtain ⟨x, z, r, rfl, h1, h2⟩ := gc_2i_of h
    exact lv_irem hx hb hd h1 (hKK.go hA h2)
  | ladd =>
    obtain ⟨rfl, hd⟩ := hnx rfl
    obtain ⟨x, z, r, rfl, h2⟩ := gc_2l_of h
    exact lv_ladd hx hb hd (hKK.go hA h2)
  | lmul =>
    obtain ⟨rfl, hd⟩ := hnx rfl
    obtain ⟨x, z, r, rfl, h2⟩ := gc_2l_of h
    exact lv_lmul hx hb hd (hKK.go hA h2)
  | lcmp =>
    obtain ⟨rfl, hd⟩ := hnx rfl
    obtain ⟨x, z, r, rfl, h2⟩ := gc_2l_of h
    exact W.lcmp hx hb hd (hKK.go hA h2)
  | i2l =>
    obtain ⟨rfl, hd⟩ := hnx rfl
    obtain ⟨x, r, rfl, h2⟩ := gc_1i_of h
    exact lv_i2l hx hb hd rfl (hKK.go hA h2)
  | i2b =>
    obtain ⟨rfl, hd⟩ := hnx rfl
    obtain ⟨x, r, rfl, h2⟩ := gc_1i_of h
    exact lv_i2b hx hb hd rfl (hKK.go hA h2)
  | dup =>
    obtain ⟨rfl, hd⟩ := hnx rfl
    unfold gc_ex at h
    dsimp only at h
    split at h
    · exact lv_dup hx hb hd rfl (hKK.go hA h)
    · exact lv_dup hx hb hd rfl (hKK.go hA h)
    · exact h.elim
  | dup2 =>
    obtain ⟨rfl, hd⟩ := hnx rfl
    obtain ⟨a, i, r, rfl, h2⟩ := gc_ir_of h
    exact lv_dup2_11 hx hb hd rfl rfl (hKK.go hA h2)
  | pop =>
    obtain ⟨rfl, hd⟩ := hnx rfl
    obtain ⟨x, r, rfl, h2⟩ := gc_1i_of h
    exact lv_pop hx hb hd rfl (hKK.go hA h2)
  | ifCond cond off =>
    obtain ⟨rfl, hd⟩ := hnx rfl
    obtain ⟨x, r, rfl, h2⟩ := gc_1i_of h
    have ht := of_decide_eq_true hI
    cases cond with
    | eq => exact lv_if_eq hx hb hd ht (fun z => gc_P0.at Cx hA (h2.1 z)) (fun z => hKK.go hA (h2.2 z))
    | ne => exact lv_if_ne hx hb hd ht (fun z => gc_P0.at Cx hA (h2.1 z)) (fun z => hKK.go hA (h2.2 z))
    | lt => exact lv_if_lt hx hb hd ht (fun z => gc_P0.at Cx hA (h2.1 z)) (fun z => hKK.go hA (h2.2 z))
    | ge => exact lv_if_ge hx hb hd ht (fun z => gc_P0.at Cx hA (h2.1 z)) (fun z => hKK.go hA (h2.2 z))
    | gt => exact lv_if_gt hx hb hd ht (fun z => gc_P0.at Cx hA (h2.1 z)) (fun z => hKK.go hA (h2.2 z))
    | le => exact lv_if_le hx hb hd ht (fun z => gc_P0.at Cx hA (h2.1 z)) (fun z => hKK.go hA (h2.2 z))
  | if_icmp cond off =>
    obtain ⟨rfl, hd⟩ := hnx rfl
    obtain ⟨x, z, r, rfl, h2⟩ := gc_2i_of h
    have ht := of_decide_eq_true hI
    cases cond with
    | eq => exact lv_icmp_eq hx hb hd ht (fun z => gc_P0.at Cx hA (h2.1 z)) (fun z => hKK.go hA (h2.2 z))
    | ne => exact lv_icmp_ne hx hb hd ht (fun z => gc_P0.at Cx hA (h2.1 z)) (fun z => hKK.go hA (h2.2 z))
    | lt => exact lv_icmp_lt hx hb hd ht (fun z => gc_P0.at Cx hA (h2.1 z)) (fun z => hKK.go hA (h2.2 z))
    | ge => exact lv_icmp_ge hx hb hd ht (fun z => gc_P0.at Cx hA (h2.1 z)) (fun z => hKK.go hA (h2.2 z))
    | gt => exact lv_icmp_gt hx hb hd ht (fun z => gc_P0.at Cx hA (h2.1 z)) (fun z => hKK.go hA (h2.2 z))
    | le => exact lv_icmp_le hx hb hd ht (fun z => gc_P0.at Cx hA (h2.1 z)) (fun z => hKK.go hA (h2.2 z))
  | ifnonnull off =>
    obtain ⟨rfl, hd⟩ := hnx rfl
    rcases gc_1a_of h with ⟨a, r, rfl, h2⟩ | ⟨r, rfl, h2⟩
    · exact lv_ifnonnull hx hb hd (of_decide_eq_true hI) (gc_P0.at Cx hA h2)
    · exact lv_ifnonnullN hx hb hd (hKK.go hA h2)
  | goto off =>
    obtain ⟨rfl, hd⟩ := hnx rfl
    exact lv_goto hx hb hd (of_decide_eq_true hI) (gc_P0.at Cx hA h)
  | tableswitch df lo hi offs => exact gc_x_tsw Cx hdg hI hA h
  | lookupswitch df ps => exact gc_x_lsw Cx hdg hI hA h
  | getfield i =>
    obtain ⟨rfl, hd⟩ := hnx rfl
    exact gc_x_get Cx hKK hd hI hA.1 hA.2.1 hA.2.2.1 hA.2.2.2.1 hA.2.2.2.2.1 hA.2.2.2.2.2 h
  | putfield i =>
    obtain ⟨rfl, hd⟩ := hnx rfl
    exact gc_x_put Cx hKK hd hI hA.1 hA.2.1 hA.2.2.1 hA.2.2.2.1 hA.2.2.2.2.1 hA.2.2.2.2.2 h
  | iaload =>
    obtain ⟨rfl, hd⟩ := hnx rfl
    exact gc_x_iald Cx hKK hd hA h
  | baload =>
    obtain ⟨rfl, hd⟩ := hnx rfl
    exact gc_x_bald Cx hKK hd hA h
  | laload =>
    obtain ⟨rfl, hd⟩ := hnx rfl
    exact gc_x_lald Cx hKK hd hA h
  | aaload =>
    obtain ⟨rfl, hd⟩ := hnx rfl
    exact gc_x_aald Cx hKK hd hA h
  | iastore =>
    obtain ⟨rfl, hd⟩ := hnx rfl
    exact gc_x_iast Cx hKK hd hA h
  | bastore =>
    obtain ⟨rfl, hd⟩ := hnx rfl
    exact gc_x_bast Cx hKK hd hA h
  | lastore =>
    obtain ⟨rfl, hd⟩ := hnx rfl
    exact gc_x_last Cx hKK hd hA h
  | aastore =>
    obtain ⟨rfl, hd⟩ := hnx rfl
    exact gc_x_aast Cx hKK hd hA h
  | arraylength =>
    obtain ⟨rfl, hd⟩ := hnx rfl
    exact gc_x_alen Cx hKK hd hA h
  | new i =>
    obtain ⟨rfl, hd⟩ := hnx rfl
    exact gc_x_new Cx hKK hd hI hA h
  | newarray t =>
    obtain ⟨rfl, hd⟩ := hnx rfl
    exact gc_x_newa hP Cx hKK hd hI hA h
  | anewarray i =>
    obtain ⟨rfl, hd⟩ := hnx rfl
    exact gc_x_anew hP Cx hKK hd hI hA h
  | invokevirtual i =>
    obtain ⟨rfl, hd⟩ := hnx rfl
    unfold gc_okI at hI
    simp only [Bool.and_eq_true, Bool.or_eq_true, decide_eq_true_eq] at hI
    obtain ⟨i1, i2, i3, i4⟩ := hI
    have hM := (hP.1 r1 i1).2.2
    exact gc_call_s hM h.2 hA.1 hA.2.1 hA.2.2.2.1 hA.2.2.2.2.1 hA.2.2.2.2.2 (fun kc' ks' Q' hMet g1 g2 g3 g4 g5 => gc_runV Cx hM i2 i3 h.1 i4 hA.1 hlv hd hMet g1 g2 g3 g4 g5) (fun kc ks st S H locs cells slots w1 w2 w3 w4 w5 w6 => hKK kc ks lv st S H locs cells slots ls w1 w2 hlv w3 w4 w5 w6)
  | invokestatic i =>
    obtain ⟨rfl, hd⟩ := hnx rfl
    unfold gc_okI at hI
    simp only [Bool.and_eq_true, Bool.or_eq_true, decide_eq_true_eq] at hI
    rcases hI with ((⟨rfl, hl⟩ | ⟨rfl, hl⟩) | ⟨rfl, hl⟩) | ⟨i1, i2, i3, i4⟩
    · exact gc_x_max hP Cx hKK hd hl hA h
    · exact gc_x_min hP Cx hKK hd hl hA h
    · exact gc_x_copy hP Cx hKK hd hl hA h
    · have hM := (hP.1 r1 i1).2.2
      have h' : gc_call (gc_P0 l D cy B) d r1 r2 (gc_mL r1) kc ks st S (fun kc ks st S => K kc ks lv st S) := by
        unfold gc_ex at h
        dsimp only at h
        split at h
        · exact absurd i1 (by decide)
        · exact absurd i1 (by decide)
        · exact absurd i1 (by decide)
        · exact h
      exact gc_call_s hM h' hA.1 hA.2.1 hA.2.2.2.1 hA.2.2.2.2.1 hA.2.2.2.2.2 (fun kc' ks' Q' hMet g1 g2 g3 g4 g5 => gc_runS Cx hM i2 i3 i4 hA.1 hlv hd hMet g1 g2 g3 g4 g5) (fun kc ks st S H locs cells slots w1 w2 w3 w4 w5 w6 => hKK kc ks lv st S H locs cells slots ls w1 w2 hlv w3 w4 w5 w6)
  | invokespecial i =>
    obtain ⟨rfl, hd⟩ := hnx rfl
    unfold gc_okI at hI
    simp only [Bool.and_eq_true, Bool.or_eq_true, decide_eq_true_eq] at hI
    rcases hI with ⟨rfl, hl⟩ | ⟨i1, i2, i3, i4⟩
    · obtain ⟨a, r, rfl, g1, g2, h2⟩ := gc_1r_of (show gc_1r st (fun _ r => 1 ≤ d ∧ r.length ≤ 4 ∧ K kc ks lv r S) from h)
      have hsum := gc_cats (r.map (gc_tr B))
      rw [List.length_map] at hsum
      exact W.objInit hx hb hown (hts _ (gc_lk_in hl)) (hts _ hP.2.1) (hts _ hP.2.2.1) rfl (hlv.1.trans hml.symm) rfl hd g1 (by show 2 * 0 + _ + 12 ≤ 60 * d; omega) (hKK.go hA h2)
    · have hM := (hP.1 r1 i1).2.2
      have h' : gc_rcv st r2 ∧ gc_call (gc_P0 l D cy B) d r1 r2 (gc_mL r1) kc ks st S (fun kc ks st S => K kc ks lv st S) := by
        unfold gc_ex at h
        dsimp only at h
        split at h
        · exact absurd i1 (by decide)
        · exact h
      exact gc_call_s hM h'.2 hA.1 hA.2.1 hA.2.2.2.1 hA.2.2.2.2.1 hA.2.2.2.2.2 (fun kc' ks' Q' hMet g1 g2 g3 g4 g5 => gc_runI Cx hM i2 i3 h'.1 i4 hA.1 hlv hd hMet g1 g2 g3 g4 g5) (fun kc ks st S H locs cells slots w1 w2 w3 w4 w5 w6 => hKK kc ks lv st S H locs cells slots ls w1 w2 hlv w3 w4 w5 w6)
  | ireturn =>
    obtain ⟨rfl, hd⟩ := hnx rfl
    unfold gc_okI at hI
    simp only [Bool.and_eq_true, Bool.or_eq_true, decide_eq_true_eq] at hI
    unfold gc_ex at h
    dsimp only at h
    split at h
    · rename_i x
      rcases hI with ⟨rfl, hrt⟩ | ⟨rfl, hrt⟩
      · obtain ⟨k0, hq⟩ := h
        refine W.widen (k := Mc) (n := Ms) (by have := hA.2.2.2.2.1; omega) (by have := hA.2.2.2.2.2; omega) ?_
        exact W.iret hx hb (hr.trans hrt) (fun t ht _ => gc_ret Cx hA k0 hq ht) hA.2.1.2.2 hd
      · obtain ⟨k0, h01, hq⟩ := h
        refine W.widen (k := Mc) (n := Ms) (by have := hA.2.2.2.2.1; omega) (by have := hA.2.2.2.2.2; omega) ?_
        exact W.zret hx hb (hr.trans hrt) (by rcases h01 with rfl | rfl <;> rfl) (fun t ht _ => gc_ret Cx hA k0 hq ht) hA.2.1.2.2 hd
    · exact h.elim
  | lreturn =>
    obtain ⟨rfl, hd⟩ := hnx rfl
    unfold gc_ex at h
    dsimp only at h
    split at h
    · obtain ⟨k0, hq⟩ := h
      refine W.widen (k := Mc) (n := Ms) (by have := hA.2.2.2.2.1; omega) (by have := hA.2.2.2.2.2; omega) ?_
      exact W.lret hx hb (hr.trans (of_decide_eq_true hI)) (fun t ht _ => gc_ret Cx hA k0 hq ht) hA.2.1.2.2 hd
    · exact h.elim
  | areturn =>
    obtain ⟨rfl, hd⟩ := hnx rfl
    unfold gc_ex at h
    dsimp only at h
    split at h
    · obtain ⟨k0, hq⟩ := h
      refine W.widen (k := Mc) (n := Ms) (by have := hA.2.2.2.2.1; omega) (by have := hA.2.2.2.2.2; omega) ?_
      exact W.aret hx hb (hr.trans (of_decide_eq_true hI)) (Or.inr ⟨_, rfl⟩) (Or.inr ⟨_, rfl⟩) (fun t ht _ => gc_ret Cx hA k0 hq ht) hA.2.1.2.2 hd
    · exact h.elim
  | return_ =>
    obtain ⟨rfl, hd⟩ := hnx rfl
    unfold gc_ex at h
    dsimp only at h
    split at h
    · obtain ⟨k0, hq⟩ := h
      refine W.widen (k := Mc) (n := Ms) (by have := hA.2.2.2.2.1; omega) (by have := hA.2.2.2.2.2; omega) ?_
      exact W.vret hx hb (hr.trans (of_decide_eq_true hI)) (fun t ht _ => gc_ret Cx hA k0 hq ht) hA.2.1.2.2 hd
    · exact h.elim
  | _ => exact h.elim
end GcM
