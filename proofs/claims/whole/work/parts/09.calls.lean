theorem gc_cat_le (v : Value) : v.category ≤ 2 := by cases v <;> simp [Value.category]
theorem gc_cats : ∀ (l : List Value), (l.map fun v => v.category).sum ≤ 2 * l.length
  | [] => Nat.le_refl _
  | v :: r => by
    have := gc_cats r
    have h := gc_cat_le v
    simp only [List.map_cons, List.sum_cons, List.length_cons]
    omega
theorem gc_ret_st {B : Nat} (r : Option Value) (rest : List Value) : (r.map (gc_tr B)).toList ++ rest.map (gc_tr B) = (r.toList ++ rest).map (gc_tr B) := by cases r <;> rfl
theorem gc_st_split {B : Nat} (st : List Value) (n : Nat) : st.map (gc_tr B) = ((st.take n).reverse.map (gc_tr B)).reverse ++ (st.drop n).map (gc_tr B) := by
  rw [← List.map_reverse, List.reverse_reverse, ← List.map_append, List.take_append_drop]
section GcC
variable {p : Program} {l : Launch} {e : Env} {s : State} {m : MethodId} {args : Array Value} {below : List Frame} {meth : Method} {c : Code} {H : Heap} {locs : List Loc} {cells slots : Nat} {Qm : State → Prop}
variable {D : va_G} {cy : Nat → ClassId} {B d y : Nat} {Mc Ms : Nat} {pc : Nat} {ls : Array Slot} {lv st : List Value} {S : gc_H} {kc ks : Nat}
theorem gc_goon {R : Room} {kc' ks' : Nat} {Q' : gc_Q} {st0 rest : List Value} {a : Array Value} (hr : va_Run p l e R s m args below meth c H locs cells slots kc' ks' (F0 m pc ls st0) rest (gc_QQ D cy B kc' Q' a) (gc_A B)) (hS : va_S (gc_A B) s.heap H locs)
    (kk : ∀ (r : Option Value) (S' : gc_H) (H1 : Heap) (locs1 : List Loc), Q' r S' → gc_Wo D cy B S' H1 → va_S (gc_A B) s.heap H1 locs1 → B + S'.1 = H.size + kc' → W p l e R s m args below meth c H1 locs1 (cells + kc') (slots + ks') Qm (F0 m (pc + 3) ls ((r.map (gc_tr B)).toList ++ rest))) : W p l e R s m args below meth c H locs cells slots Qm (F0 m pc ls st0) := by
  intro T hT X
  obtain ⟨v, st₀, t, T', L, h0, X', hL, e1, e2, ⟨r, S', hv, hq, hw, ⟨hz, hk⟩, hsz⟩, stp⟩ := hr T hT X
  cases hv
  rw [h0] at hz hk hsz
  obtain ⟨t2, a1, b1⟩ := kk r S' T'.heap (locs ++ L) hq (by rw [e1]; exact hw)
    ⟨Nat.le_trans hS.1 (by rw [e1]; exact hz), fun q h1 h2 => by rw [e1, hk q (Nat.lt_of_lt_of_le h1 hS.1) h2]; exact hS.2.1 q h1 h2, fun q hq => by
      rcases List.mem_append.mp hq with h | h
      · exact hS.2.2 q h
      · exact hL q h⟩ hsz T' rfl X'
  exact ⟨t2, stp t2 a1, b1⟩
theorem gc_call_s {nA r1 : Nat} {K : Nat → Nat → List Value → gc_H → Prop} (hM : gc_okM r1) (hc : gc_call (gc_P0 l D cy B) d r1 nA (gc_mL r1) kc ks st S K) (hWo : gc_Wo D cy B S H) (hS : va_S (gc_A B) s.heap H locs) (hz : s.heap.size + cells = B + S.1) (h1 : cells + kc = Mc) (h2 : slots + ks ≤ Ms)
    (hrun : ∀ (kc' ks' : Nat) (Q' : gc_Q), Met l (gc_mN r1) (.code (gc_mN r1) (gc_mB r1) (gc_mL r1) (gc_mR r1) :: gc_tb) (gc_rm (d - 1) kc' ks') (va_Pc ((st.take nA).reverse.map (gc_tr B)) (fun U => gc_Wo D cy B S U.heap ∧ va_K D vwCl (gc_tys cy) U ∧ gc_Nw U)) (gc_QQ D cy B kc' Q') kc' ks' (gc_A B) →
      1 ≤ d → cells + kc' ≤ Mc → slots + ks' ≤ Ms → (st.drop nA).length ≤ 4 → nA ≤ st.length → va_Run p l e (gc_rm d Mc Ms) s m args below meth c H locs cells slots kc' ks' (F0 m pc ls (st.map (gc_tr B))) ((st.drop nA).map (gc_tr B)) (gc_QQ D cy B kc' Q' ((st.take nA).reverse.map (gc_tr B)).toArray) (gc_A B))
    (kk : ∀ (kc ks : Nat) (st : List Value) (S : gc_H) (H : Heap) (locs : List Loc) (cells slots : Nat), gc_Wo D cy B S H → va_S (gc_A B) s.heap H locs → s.heap.size + cells = B + S.1 → cells + kc = Mc → slots + ks ≤ Ms → K kc ks st S → W p l e (gc_rm d Mc Ms) s m args below meth c H locs cells slots Qm (F0 m (pc + 3) ls (st.map (gc_tr B)))) :
    W p l e (gc_rm d Mc Ms) s m args below meth c H locs cells slots Qm (F0 m pc ls (st.map (gc_tr B))) := by
  obtain ⟨hd, hn, h4, hlen, kc', ks', a1, a2, hP⟩ := hc
  refine gc_goon (hrun kc' ks' _ (gc_met hM hlen hP) hd (by omega) (by omega) h4 hn) hS ?_
  intro r S' H1 locs1 hq hw hS1 hsz
  rw [gc_ret_st]
  have := hWo.1
  exact kk (kc - kc') (ks - ks') _ S' H1 locs1 _ _ hw hS1 (by omega) (by omega) (by omega) hq
theorem gc_blind {av : List Value} {S : gc_H} : FrameBlind (va_Pc av (fun U => gc_Wo D cy B S U.heap ∧ va_K D vwCl (gc_tys cy) U ∧ gc_Nw U)) := fun a U g mk q => by
  obtain ⟨q0, q1, q2, q3⟩ := q
  exact ⟨q0, q1, va_K.moved (u := U) (U := U.calling g mk a) (Vm.Alike.refl U.vm) q2, ⟨fun z hz => va_Nw.same rfl rfl (q3.1 z hz), va_AO.moved (u := U) (U := U.calling g mk a) (Vm.Alike.refl U.vm) q3.2.1, over_moved (u := U) (E := U.calling g mk a) (Vm.Alike.refl U.vm) q3.2.2⟩⟩
/-- what a call needs, of any kind -/
theorem gc_cb {r1 kc' ks' : Nat} (Cx : gc_Cx D cy B p s m args meth c y) (hM : gc_okM r1) (hd : 1 ≤ d) :
    (gc_rm (d - 1) kc' ks').frames + 1 ≤ (gc_rm d Mc Ms).frames ∧ 8 + (gc_mL r1 + 11) + (gc_rm (d - 1) kc' ks').locals ≤ (gc_rm d Mc Ms).locals ∧ GoodIn gc_tb (.code (gc_mN r1) (gc_mB r1) (gc_mL r1) (gc_mR r1) :: gc_tb) := by
  refine ⟨by show d - 1 + 1 ≤ d; omega, ?_, ?_⟩
  · have := hM.2.2.2.2.2.2.1
    show 8 + (gc_mL r1 + 11) + 60 * (d - 1) ≤ 60 * d
    omega
  · intro w hw
    rcases List.mem_cons.mp hw with rfl | hw
    · exact gc_tb_good _ hM.1
    · exact gc_tb_good _ hw
theorem gc_runS {i r1 nA kc' ks' : Nat} {Q' : gc_Q} (Cx : gc_Cx D cy B p s m args meth c y) (hM : gc_okM r1) (hk : gc_mK r1 = 0) (hn : nA = gc_mP r1)
    (hlk : Cond.methodLink (gc_mN y).cls i (gc_mN r1) ∈ gc_lk (gc_mC y) ∨ ((gc_mN y).cls, i, gc_mN r1, "GroundCourt") ∈ gc_ns) (hWo : gc_Wo D cy B S H) (hl : gc_lv B ls (gc_mL y) lv) (hdg : decode (gc_mB y) pc = .ok (.invokestatic i, 3))
    (hMet : Met l (gc_mN r1) (.code (gc_mN r1) (gc_mB r1) (gc_mL r1) (gc_mR r1) :: gc_tb) (gc_rm (d - 1) kc' ks') (va_Pc ((st.take nA).reverse.map (gc_tr B)) (fun U => gc_Wo D cy B S U.heap ∧ va_K D vwCl (gc_tys cy) U ∧ gc_Nw U)) (gc_QQ D cy B kc' Q') kc' ks' (gc_A B))
    (hd : 1 ≤ d) (h1 : cells + kc' ≤ Mc) (h2 : slots + ks' ≤ Ms) (h4 : (st.drop nA).length ≤ 4) (hle : nA ≤ st.length) :
    va_Run p l e (gc_rm d Mc Ms) s m args below meth c H locs cells slots kc' ks' (F0 m pc ls (st.map (gc_tr B))) ((st.drop nA).map (gc_tr B)) (gc_QQ D cy B kc' Q' ((st.take nA).reverse.map (gc_tr B)).toArray) (gc_A B) := by
  obtain ⟨b1, b2, b3⟩ := gc_cb (kc' := kc') (ks' := ks') (Mc := Mc) (Ms := Ms) Cx hM hd
  obtain ⟨hx, hb, hml, hr, hts, hown, hlocks, hname, hKK, hN, hB⟩ := Cx
  have hsum := gc_cats ((st.drop nA).map (gc_tr B))
  rw [List.length_map] at hsum
  have hpre : PreS s H (va_Pc ((st.take nA).reverse.map (gc_tr B)) (fun U => gc_Wo D cy B S U.heap ∧ va_K D vwCl (gc_tys cy) U ∧ gc_Nw U)) ((st.take nA).reverse.map (gc_tr B)) := ⟨gc_blind, fun U hU hW => ⟨rfl, by rw [hU]; exact hWo, va_K.moved hW.alike hKK, hN.warm hW⟩⟩
  have hlen : ((st.take nA).reverse.map (gc_tr B)).length = gc_mP r1 := by rw [List.length_map, List.length_reverse, List.length_take, Nat.min_eq_left hle, hn]
  rcases hlk with hlk | hlk
  · exact va_runS (cc := gc_mB y) (nL := gc_mL y) (Ts := gc_tb) (own := (gc_mN y).cls) (index := i) (bytes := gc_mB r1) (maxL := gc_mL r1) (ret := gc_mR r1) (n := gc_mP r1) ⟨hx, hb, hml, hown, hts⟩ hMet
      ⟨callB_of _ hts b3 rfl rfl rfl (hts _ hM.2.1) (hts _ (gc_lk_in hlk)) ⟨hM.2.2.2.1, hM.2.2.2.2.1, hM.2.2.2.2.2.1⟩ ⟨b1, b2⟩, hts _ (hM.2.2.2.2.2.2.2.1 hk)⟩ hpre rfl hlen hl.1 (gc_st_split st nA) (lv_room (by omega)) hdg ⟨h1, h2⟩
  · exact va_runSN (cc := gc_mB y) (nL := gc_mL y) (Ts := gc_tb) (own := (gc_mN y).cls) (index := i) (bytes := gc_mB r1) (maxL := gc_mL r1) (ret := gc_mR r1) (n := gc_mP r1) ⟨hx, hb, hml, hown, hts⟩ hMet
      ⟨va_cnB _ hts b3 rfl rfl rfl (hN.1 _ hlk) (hts _ hM.2.1) ⟨hM.2.2.2.1, hM.2.2.2.2.1, hM.2.2.2.2.2.1⟩ ⟨b1, b2⟩, hts _ (hM.2.2.2.2.2.2.2.1 hk), trivial⟩ hpre rfl hlen hl.1 (gc_st_split st nA) (lv_room (by omega)) hdg ⟨h1, h2⟩
theorem gc_rcv_of {nA : Nat} (h0 : 1 ≤ nA) {b : Nat} (h : st[nA - 1]? = some (.ref b)) : ∃ As, (st.take nA).reverse = .ref b :: As := by
  obtain ⟨j, rfl⟩ : ∃ j, nA = j + 1 := ⟨nA - 1, by omega⟩
  rw [Nat.add_sub_cancel] at h
  obtain ⟨hj, hb⟩ := List.getElem?_eq_some_iff.mp h
  refine ⟨(st.take j).reverse, ?_⟩
  rw [List.take_add_one, h]
  simp
theorem gc_runV {i r1 nA kc' ks' : Nat} {Q' : gc_Q} (Cx : gc_Cx D cy B p s m args meth c y) (hM : gc_okM r1) (hk : gc_mK r1 = 1) (hn : nA = gc_mP r1 + 1) (hrcv : gc_recv st nA (gc_mC r1) S)
    (hlk : Cond.methodLink (gc_mN y).cls i (gc_mN r1) ∈ gc_lk (gc_mC y) ∨ ((gc_mN y).cls, i, gc_mN r1, "GroundCourt") ∈ gc_ns) (hWo : gc_Wo D cy B S H) (hl : gc_lv B ls (gc_mL y) lv) (hdg : decode (gc_mB y) pc = .ok (.invokevirtual i, 3))
    (hMet : Met l (gc_mN r1) (.code (gc_mN r1) (gc_mB r1) (gc_mL r1) (gc_mR r1) :: gc_tb) (gc_rm (d - 1) kc' ks') (va_Pc ((st.take nA).reverse.map (gc_tr B)) (fun U => gc_Wo D cy B S U.heap ∧ va_K D vwCl (gc_tys cy) U ∧ gc_Nw U)) (gc_QQ D cy B kc' Q') kc' ks' (gc_A B))
    (hd : 1 ≤ d) (h1 : cells + kc' ≤ Mc) (h2 : slots + ks' ≤ Ms) (h4 : (st.drop nA).length ≤ 4) (hle : nA ≤ st.length) :
    va_Run p l e (gc_rm d Mc Ms) s m args below meth c H locs cells slots kc' ks' (F0 m pc ls (st.map (gc_tr B))) ((st.drop nA).map (gc_tr B)) (gc_QQ D cy B kc' Q' ((st.take nA).reverse.map (gc_tr B)).toArray) (gc_A B) := by
  obtain ⟨b1, b2, b3⟩ := gc_cb (kc' := kc') (ks' := ks') (Mc := Mc) (Ms := Ms) Cx hM hd
  obtain ⟨hx, hb, hml, hr, hts, hown, hlocks, hname, hKK, hN, hB⟩ := Cx
  have hsum := gc_cats ((st.drop nA).map (gc_tr B))
  rw [List.length_map] at hsum
  unfold gc_recv at hrcv
  split at hrcv
  · rename_i b0 hb0
    obtain ⟨As, hAs⟩ := gc_rcv_of (by omega) hb0
    obtain ⟨hlt, fs, hfs⟩ := hrcv
    obtain ⟨q, hq, hqc⟩ := (hM.2.2.2.2.2.2.2.2.1 hk).2.2
    have he : (gc_wl B cy S)[b0]? = some (B + b0, .inr (gc_mC r1, fs.map (gc_tr B))) := by rw [gc_wl_get hlt, hfs]; rfl
    have hlen : (As.map (gc_tr B)).length = gc_mP r1 := by
      have h := congrArg List.length hAs
      rw [List.length_reverse, List.length_take, Nat.min_eq_left hle, List.length_cons] at h
      rw [List.length_map]
      omega
    have hst : st.map (gc_tr B) = (As.map (gc_tr B)).reverse ++ .ref (B + b0) :: (st.drop nA).map (gc_tr B) := by
      rw [gc_st_split st nA, hAs, List.map_cons, List.reverse_cons, List.append_assoc]
      rfl
    have harg : (st.take nA).reverse.map (gc_tr B) = .ref (B + b0) :: As.map (gc_tr B) := by rw [hAs]; rfl
    rw [harg] at hMet ⊢
    have hpre : PreV s H (gc_mN r1).cls (B + b0) (va_Pc (.ref (B + b0) :: As.map (gc_tr B)) (fun U => gc_Wo D cy B S U.heap ∧ va_K D vwCl (gc_tys cy) U ∧ gc_Nw U)) (As.map (gc_tr B)) := ⟨gc_blind, by rw [← hqc]; exact va_recv hKK hWo.2 hq he, fun U hU hW => ⟨rfl, by rw [hU]; exact hWo, va_K.moved hW.alike hKK, hN.warm hW⟩⟩
    have hv := hM.2.2.2.2.2.2.2.2.1 hk
    rcases hlk with hlk | hlk
    · exact va_runV (cc := gc_mB y) (nL := gc_mL y) (Ts := gc_tb) (own := (gc_mN y).cls) (C := (gc_mN r1).cls) (index := i) (bytes := gc_mB r1) (maxL := gc_mL r1) (ret := gc_mR r1) (n := gc_mP r1) ⟨hx, hb, hml, hown, hts⟩ hMet
        ⟨callB_of _ hts b3 rfl rfl rfl (hts _ hM.2.1) (hts _ (gc_lk_in hlk)) ⟨hM.2.2.2.1, hM.2.2.2.2.1, hM.2.2.2.2.2.1⟩ ⟨b1, b2⟩, hts _ hv.1, hts _ hv.2.1⟩ hpre rfl hlen hl.1 hst (lv_room (by omega)) hdg ⟨h1, h2⟩
    · exact va_runVN (cc := gc_mB y) (nL := gc_mL y) (Ts := gc_tb) (own := (gc_mN y).cls) (C := (gc_mN r1).cls) (index := i) (bytes := gc_mB r1) (maxL := gc_mL r1) (ret := gc_mR r1) (n := gc_mP r1) ⟨hx, hb, hml, hown, hts⟩ hMet
        ⟨va_cnB _ hts b3 rfl rfl rfl (hN.1 _ hlk) (hts _ hM.2.1) ⟨hM.2.2.2.1, hM.2.2.2.2.1, hM.2.2.2.2.2.1⟩ ⟨b1, b2⟩, hts _ hv.1, hts _ hv.2.1⟩ hpre rfl hlen hl.1 hst (lv_room (by omega)) hdg ⟨h1, h2⟩
  · exact hrcv.elim
theorem gc_runI {i r1 nA kc' ks' : Nat} {Q' : gc_Q} (Cx : gc_Cx D cy B p s m args meth c y) (hM : gc_okM r1) (hk : gc_mK r1 = 2) (hn : nA = gc_mP r1 + 1) (hrcv : gc_rcv st nA)
    (hlk : Cond.methodLink (gc_mN y).cls i (gc_mN r1) ∈ gc_lk (gc_mC y) ∨ ((gc_mN y).cls, i, gc_mN r1, "GroundCourt") ∈ gc_ns) (hWo : gc_Wo D cy B S H) (hl : gc_lv B ls (gc_mL y) lv) (hdg : decode (gc_mB y) pc = .ok (.invokespecial i, 3))
    (hMet : Met l (gc_mN r1) (.code (gc_mN r1) (gc_mB r1) (gc_mL r1) (gc_mR r1) :: gc_tb) (gc_rm (d - 1) kc' ks') (va_Pc ((st.take nA).reverse.map (gc_tr B)) (fun U => gc_Wo D cy B S U.heap ∧ va_K D vwCl (gc_tys cy) U ∧ gc_Nw U)) (gc_QQ D cy B kc' Q') kc' ks' (gc_A B))
    (hd : 1 ≤ d) (h1 : cells + kc' ≤ Mc) (h2 : slots + ks' ≤ Ms) (h4 : (st.drop nA).length ≤ 4) (hle : nA ≤ st.length) :
    va_Run p l e (gc_rm d Mc Ms) s m args below meth c H locs cells slots kc' ks' (F0 m pc ls (st.map (gc_tr B))) ((st.drop nA).map (gc_tr B)) (gc_QQ D cy B kc' Q' ((st.take nA).reverse.map (gc_tr B)).toArray) (gc_A B) := by
  obtain ⟨b1, b2, b3⟩ := gc_cb (kc' := kc') (ks' := ks') (Mc := Mc) (Ms := Ms) Cx hM hd
  obtain ⟨hx, hb, hml, hr, hts, hown, hlocks, hname, hKK, hN, hB⟩ := Cx
  have hsum := gc_cats ((st.drop nA).map (gc_tr B))
  rw [List.length_map] at hsum
  unfold gc_rcv at hrcv
  split at hrcv
  · rename_i b0 hb0
    obtain ⟨As, hAs⟩ := gc_rcv_of (by omega) hb0
    have hlen : (As.map (gc_tr B)).length = gc_mP r1 := by
      have h := congrArg List.length hAs
      rw [List.length_reverse, List.length_take, Nat.min_eq_left hle, List.length_cons] at h
      rw [List.length_map]
      omega
    have hst : st.map (gc_tr B) = (As.map (gc_tr B)).reverse ++ .ref (B + b0) :: (st.drop nA).map (gc_tr B) := by
      rw [gc_st_split st nA, hAs, List.map_cons, List.reverse_cons, List.append_assoc]
      rfl
    have harg : (st.take nA).reverse.map (gc_tr B) = .ref (B + b0) :: As.map (gc_tr B) := by rw [hAs]; rfl
    obtain ⟨hnm, hin, hrn⟩ := hM.2.2.2.2.2.2.2.2.2 hk
    rw [harg] at hMet ⊢
    have hpre : PreS s H (va_Pc (.ref (B + b0) :: As.map (gc_tr B)) (fun U => gc_Wo D cy B S U.heap ∧ va_K D vwCl (gc_tys cy) U ∧ gc_Nw U)) (.ref (B + b0) :: As.map (gc_tr B)) := ⟨gc_blind, fun U hU hW => ⟨rfl, by rw [hU]; exact hWo, va_K.moved hW.alike hKK, hN.warm hW⟩⟩
    have hcd := hM.1
    rw [hrn] at hMet b3 hcd
    rcases hlk with hlk | hlk
    · exact va_runI (cc := gc_mB y) (nL := gc_mL y) (Ts := gc_tb) (own := (gc_mN y).cls) (index := i) (bytes := gc_mB r1) (maxL := gc_mL r1) (n := gc_mP r1) ⟨hx, hb, hml, hown, hts⟩ hMet
        ⟨callB_of _ hts b3 rfl rfl rfl (hts _ hM.2.1) (hts _ (gc_lk_in hlk)) ⟨hM.2.2.2.1, hM.2.2.2.2.1, hM.2.2.2.2.2.1⟩ ⟨b1, b2⟩, hnm, hts _ hin⟩ hpre rfl hlen hl.1 hst (lv_room (by omega)) hdg ⟨h1, h2⟩
    · exact va_runIN (cc := gc_mB y) (nL := gc_mL y) (Ts := gc_tb) (own := (gc_mN y).cls) (index := i) (bytes := gc_mB r1) (maxL := gc_mL r1) (n := gc_mP r1) ⟨hx, hb, hml, hown, hts⟩ hMet
        ⟨va_cnB _ hts b3 rfl rfl rfl (hN.1 _ hlk) (hts _ hM.2.1) ⟨hM.2.2.2.1, hM.2.2.2.2.1, hM.2.2.2.2.2.1⟩ ⟨b1, b2⟩, hnm, hts _ hin⟩ hpre rfl hlen hl.1 hst (lv_room (by omega)) hdg ⟨h1, h2⟩
  · exact hrcv.elim
end GcC
