section GcR
variable {p : Program} {l : Launch} {e : Env} {s : State} {m : MethodId} {args : Array Value} {below : List Frame} {meth : Method} {c : Code} {H : Heap} {locs : List Loc} {cells slots : Nat} {Qm : State → Prop}
variable {D : va_G} {cy : Nat → ClassId} {B d y : Nat} {Mc Ms : Nat} {pc nx r1 r2 : Nat} {cn : Int32} {ls : Array Slot} {lv st : List Value} {S : gc_H} {kc ks : Nat} {K : Nat → Nat → List Value → List Value → gc_H → Prop} {P : gc_Pr} {Q : gc_Q}
theorem gc_x_anew {i : Nat} (hP : gc_okP) (Cx : gc_Cx D cy B p s m args meth c y) (hKK : gc_KK l D cy B d y Mc Ms p e s m args below meth c Qm (pc + 3) K) (hdg : decode (gc_mB y) pc = .ok (.anewarray i, 3)) (hI : gc_okI y pc (.anewarray i) r1 r2 cn = true) (hA : gc_At D cy B y Mc Ms s H locs cells slots ls kc ks lv S)
    (h : gc_ex P gc_mL gc_mC gc_dfl d y (pc, nx, .anewarray i, r1, r2, cn) kc ks lv st S Q K) : W p l e (gc_rm d Mc Ms) s m args below meth c H locs cells slots Qm (F0 m pc ls (st.map (gc_tr B))) := by
  obtain ⟨hx, hb, hml, hr, hts, hown, hlocks, hname, hK, hN, hB⟩ := Cx
  obtain ⟨n, r, rfl, k0, k1, k2, k3, hk⟩ := gc_1i_of h
  obtain ⟨a1, a2, a3, a4, a5, a6⟩ := hA
  unfold gc_okI at hI
  simp only [Bool.or_eq_true, Bool.and_eq_true, decide_eq_true_eq] at hI
  rcases hI with ⟨rfl, hI⟩ | ⟨rfl, hI⟩
  · refine W.anewA (t := .int) hx hb hown (hts _ (gc_lk_in hI)) (over_moved (Vm.Alike.refl s.vm) hN.2.2) rfl hdg rfl k0 (by omega) (by show cells + 1 ≤ Mc; omega) (by show slots + _ ≤ Ms; omega) ?_
    intro cA kA comp f1 f2 f3 f4
    have hcA : cA = cy 4 := Option.some.inj (f1.symm.trans (hK.2 4 _ rfl).2)
    subst hcA
    have hcell : ({ cls := cy 4, slots := Array.replicate n.toNatClampNeg Value.null, vm := .none } : Cell) = vp_cell (cy 4) (n.toNatClampNeg, .inr (.inr (.inr (.inr (fun _ => none))))) := by
      rw [vp_cell_q, arrV_new]
      rfl
    rw [hcell]
    have hsz := a1.1
    have hW : gc_Wo D cy B (gc_nw S (.inl (4, n.toNatClampNeg, gc_zero 4))) (H.push (vp_cell (cy 4) (n.toNatClampNeg, .inr (.inr (.inr (.inr (fun _ => none))))))) := by
      refine ⟨by rw [Array.size_push]; show _ = B + (S.1 + 1); omega, ?_⟩
      rw [← gc_wl_nw]
      refine (va_P.kept a1.2 fun k x hx => ?_).app fun k x hx => ?_
      · rw [Array.getElem?_push_lt ((a1.2 k x hx).lt)]
        exact (Array.getElem?_eq_getElem ((a1.2 k x hx).lt)).symm
      · have hz : k < 1 := (List.getElem?_eq_some_iff.mp hx).1
        rw [show k = 0 by omega] at hx
        cases hx
        show (H.push _)[B + S.1]? = some (vp_cell _ _)
        rw [← hsz, Array.getElem?_push_size]
        rfl
    have hS1 : va_S (gc_A B) s.heap (H.push (vp_cell (cy 4) (n.toNatClampNeg, .inr (.inr (.inr (.inr (fun _ => none))))))) locs := by
      refine ⟨by rw [Array.size_push]; exact Nat.le_succ_of_le a2.1, fun q h1 h2 => ?_, a2.2.2⟩
      rw [Array.getElem?_push_lt (Nat.lt_of_lt_of_le h1 a2.1), ← a2.2.1 q h1 h2]
      exact (Array.getElem?_eq_getElem (Nat.lt_of_lt_of_le h1 a2.1)).symm
    have := hKK (kc - 1) (ks - n.toNatClampNeg) lv (.ref S.1 :: r) _ _ locs (cells + 1) (slots + n.toNatClampNeg) ls hW hS1 a3 (by show s.heap.size + (cells + 1) = B + (S.1 + 1); omega) (by omega) (by omega) hk
    rw [hsz]
    exact this
  · refine va_newq (C := "GroundCourt$Hand") (N' := n.toNatClampNeg) (A := gc_A B) (H0 := s.heap) hx hb hown (hts _ (gc_lk_in hI)) hN.2.1 hK a1.2 gc_wl_D a2 (fun q hq => Nat.le_trans hB hq) k0 rfl (by omega) (by show cells + 1 ≤ Mc; omega) (by show slots + _ ≤ Ms; omega) hdg ?_
    intro q0 cA H1 hK1 hP1 hD1 hS1
    refine gc_sz fun hsz => ?_
    have hcA : cA = cy 5 := by
      obtain ⟨-, -, -, -, -, h1⟩ := (hK1.2 6 (cA, .object "GroundCourt$Hand") (by simp [gc_tys])).2
      obtain ⟨-, -, -, -, -, h2⟩ := (hK.2 5 _ rfl).2
      exact Option.some.inj (h1.symm.trans h2)
    subst hcA
    obtain ⟨e1, e2⟩ := gc_came (E' := .inl (5, n.toNatClampNeg, gc_zero 5)) rfl hB hP1 hD1 hS1 a4 hsz
    subst e1
    exact hKK (kc - 1) (ks - n.toNatClampNeg) lv (.ref S.1 :: r) _ H1 locs (cells + 1) (slots + n.toNatClampNeg) ls e2 hS1 a3 (by show s.heap.size + (cells + 1) = B + (S.1 + 1); omega) (by omega) (by omega) hk
theorem gc_x_aast (Cx : gc_Cx D cy B p s m args meth c y) (hKK : gc_KK l D cy B d y Mc Ms p e s m args below meth c Qm (pc + 1) K) (hdg : decode (gc_mB y) pc = .ok (.aastore, 1)) (hA : gc_At D cy B y Mc Ms s H locs cells slots ls kc ks lv S)
    (h : gc_ex P gc_mL gc_mC gc_dfl d y (pc, nx, .aastore, r1, r2, cn) kc ks lv st S Q K) : W p l e (gc_rm d Mc Ms) s m args below meth c H locs cells slots Qm (F0 m pc ls (st.map (gc_tr B))) := by
  obtain ⟨hx, hb, hml, hr, hts, hown, hlocks, hname, hK, hN, hB⟩ := Cx
  obtain ⟨a, i, v, r, rfl, h'⟩ := gc_vir_of h
  split at h'
  · rename_i b
    rcases h' with ⟨n, f, ha, hf, hi, ⟨hb1, fs, hfs⟩, hk⟩ | ⟨n, f, n2, f2, ha, hf, hi, hb1, hfb, hk⟩
    · exact va_astq hx hb hK hA.1.2 gc_wl_D hA.2.1 a 5 b 1 (gc_haq ha hf) (r := (RX1, TX1, 4)) rfl (gc_he hb1 hfs) rfl hi hdg (fun H1 locs1 hP1 _ hS1 => hKK.wr (E' := .inl (5, n, .inr (.inr (.inr (.inr (va_up f i.toNatClampNeg (some b))))))) hA hB (by show _ = Sum.inl (cy 5, n, gc_trA B _); unfold gc_trA; simp only; rw [gc_map_up]) hP1 hS1 hk)
    · have hlt : i.toNatClampNeg < n := Nat.not_le.mp fun q => hi (Or.inr q)
      have h0 : ¬ i < 0 := fun q => hi (Or.inl q)
      have hca : H[B + a]? = some (vp_cell (cy 4) (n, .inr (.inr (.inr (.inr (fun j => (f j).map (fun a => B + a))))))) := hA.1.2 a _ (gc_haq ha hf)
      have hcb : H[B + b]? = some (vp_cell (cy 0) (n2, .inl f2)) := hA.1.2 b _ (gc_hai hb1 hfb)
      obtain ⟨-, kA, hkA, comp, hkind⟩ := (hK.2 4 _ rfl).1 n (fun j => va_rf ((f j).map (fun a => B + a)))
      obtain ⟨comp2, c2, k2, g1, -, g3, g4, g5⟩ := arrayOverA_spec hN.2.2
      have e1 : c2 = cy 4 := Option.some.inj (g5.symm.trans (hK.2 4 _ rfl).2)
      subst e1
      have e2 : comp2 = cy 0 := Option.some.inj (g1.symm.trans (hK.2 0 _ rfl).2)
      subst e2
      obtain ⟨-, k0, hk0, -, -⟩ := (hK.2 0 _ rfl).1 n2 (fun j => .int (f2 j))
      refine W.aast hx hb hca (fun q h => by cases h) (fun h => by cases h) g3 g4 rfl hk0 ⟨h0, by show _ < (arrV _ _ _).slots.size; rw [arrV_size]; exact hlt⟩ hcb (fun q h => by cases h) hk0 (va_asg _ _) rfl rfl hdg fun H1 e z oq => ?_
      have hD : va_D (gc_A B) (gc_wl B cy S) := gc_wl_D
      refine hKK.wr (a := a) (E := .inl (cy 4, n, .inr (.inr (.inr (.inr (va_up (fun j => (f j).map (fun a => B + a)) i.toNatClampNeg (some (B + b)))))))) (E' := .inl (4, n, .inr (.inr (.inr (.inr (va_up f i.toNatClampNeg (some b))))))) hA hB (by show _ = Sum.inl (cy 4, n, gc_trA B _); unfold gc_trA; simp only; rw [gc_map_up]) (va_P.set hA.1.2 hD (gc_haq ha hf) ?_ oq) (hA.2.1.put z oq (hD.2 a _ (gc_haq ha hf))) hk
      show H1[B + a]? = some (vp_cell _ _)
      rw [e]
      rw [vp_cell_q, vp_cell_q, arrV_store]
      congr 2
      funext q
      by_cases hq : q = i.toNatClampNeg
      · subst hq
        simp [va_up, va_rf, updV]
      · simp [va_up, updV, hq]
  · exact h'.elim
end GcR
