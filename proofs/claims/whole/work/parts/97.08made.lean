/-! The two constructors. -/
theorem co_hd : ((gc_cd 120).take 12).head?.map (fun e => e.1) = some 0 := by decide +kernel
theorem co_end : ev_end 0 ((gc_cd 120).take 12) = 24 := by decide +kernel
theorem co_mk : gc_mK 91 = 2 ∧ gc_mP 91 = 1 := by decide +kernel
section Cn
variable {D : va_G} {cy : Nat → ClassId} {B : Nat} {adK adV : Nat → Nat}
set_option maxHeartbeats 4000000 in
theorem m_con (hP : gc_okP) (l : Launch) : Met l (gc_mN 120) (.code (gc_mN 120) (gc_mB 120) (gc_mL 120) (gc_mR 120) :: gc_tb) (gc_rm 6 66 11083) (va_Pc ([.ref 0].map (gc_tr B)) (fun U => (gc_Wo D cy B (ev_H [.inr (10, gc_dfl 10)]) U.heap ∧ va_K D vwCl (gc_tys cy) U ∧ gc_Nw U) ∧ tx adK adV (gc_A B) U)) (gc_QQ D cy B 66 (fun r S => r = none ∧ S = ev_H hp_c)) 66 11083 (gc_A B) := by
  obtain ⟨ho, hc, hM⟩ := hP.1 120 (by decide)
  have hM91 := (hP.1 91 (by decide)).2.2
  refine Met.ofW (cc := gc_mB 120) (maxL := gc_mL 120) (ret := gc_mR 120) hM.2.2.1 rfl ?_
  intro p e s m args below meth c s₁ Bd hml hv
  obtain ⟨rfl, ⟨hWo, hK, hN⟩, hX⟩ := hv
  have hts0 := atoms_spec (ws := .code (gc_mN 120) (gc_mB 120) (gc_mL 120) (gc_mR 120) :: gc_tb) Bd.pre
  have hBs : B ≤ s.heap.size := by rw [hWo.1]; exact Nat.le_add_right _ _
  have Cx : gc_Cx D cy B p s m (([.ref 0].map (gc_tr B)).toArray) meth c 120 := ⟨Bd.exec, Bd.bytes, hml, Bd.returns, fun w hw => hts0 w (List.mem_cons_of_mem _ hw), findClass_of_methodNamed Bd.named, Bd.notSynchronized, (name_of_methodNamed Bd.named Bd.method).1, hK, hN, hBs⟩
  have hts := Cx.2.2.2.2.1
  have hown : s.vm.findClass "GroundCourt" = some m.cls := by
    have := Cx.2.2.2.2.2.1
    rw [td_cls.2] at this
    exact this
  rw [lg_entry_eq]
  have hl := gc_lv_entry (B := B) (n := gc_mL 120) [.ref 0] (by decide)
  generalize (lg_sl ([.ref 0].map (gc_tr B)) ++ List.replicate (gc_mL 120 - (lg_sl ([.ref 0].map (gc_tr B))).length) Slot.unset).toArray = ls at hl ⊢
  have hA : gc_At D cy B 120 66 11083 s s.heap [] 0 0 ls 66 11083 [.ref 0, gc_u] (ev_H [.inr (10, gc_dfl 10)]) := ⟨hWo, va_S.rf, hl, by rw [hWo.1]; rfl, by omega, by omega⟩
  refine ev_W (d := 6) (st := []) hP Cx 20 ((gc_cd 120).take 12) 0 (fun el hel => ho el (List.mem_of_mem_take hel)) (gc_chain_pre (List.take_prefix _ _) hc) (fun el r h => ?_) _ _ _ _ _ _ _ 63 11083 _ _ _ _ ls co_ev0 (by decide) hA (fun H locs cells slots ls hA => ?_)
  · have h1 := co_hd
    rw [h] at h1
    simpa using h1
  rw [co_end]
  obtain ⟨b1, b2, b3⟩ := gc_cb (d := 6) (kc' := 5) (ks' := 1624) (Mc := 66) (Ms := 11083) Cx hM91 (by decide)
  obtain ⟨hnm, hin, hrn⟩ := hM91.2.2.2.2.2.2.2.2.2 co_mk.1
  have hMet := m_tok (D := D) (cy := cy) (B := B) (adK := adK) (adV := adV) hP l
  rw [hrn] at hMet b3
  refine gc_goon (rest := [Value.ref 3, Value.ref 0].map (gc_tr B)) (Q' := fun r S => r = none ∧ S = ev_H hp_2) (kc' := 5) (ks' := 1624) (va_runI (cc := gc_mB 120) (nL := gc_mL 120) (Ts := gc_tb) (own := "GroundCourt") (index := 18) (bytes := gc_mB 91) (maxL := gc_mL 91) (n := 1) (b := B + 3) (As := [.ref (B + 1)]) ⟨Cx.1, Cx.2.1, hml, hown, hts⟩ hMet ⟨callB_of 1 hts b3 rfl rfl rfl (hts _ hM91.2.1) (hts _ tw_tk) ⟨hM91.2.2.2.1, hM91.2.2.2.2.1, by rw [hM91.2.2.2.2.2.1, co_mk.2]⟩ ⟨b1, b2⟩, hnm, hts _ hin⟩ ⟨tx_blind, fun U hU hW => ⟨rfl, ⟨by rw [hU]; exact hA.1, va_K.moved hW.alike hK, hN.warm hW⟩, tx_go hX hA.2.1 hU hW⟩⟩ rfl rfl hA.2.2.1.1 rfl (lv_room (Nat.le_of_ble_eq_true rfl)) td_tk ⟨by have := hA.2.2.2.2.1; show cells + 5 ≤ 66; omega, by have := hA.2.2.2.2.2; show slots + 1624 ≤ 11083; omega⟩) hA.2.1 ?_
  intro r S' H1 locs1 hq hw hS1 hsz
  obtain ⟨rfl, rfl⟩ := hq
  have hz1 : H.size = B + 4 := hA.1.1
  have hz2 : (ev_H hp_2).1 = 9 := rfl
  have hA2 : gc_At D cy B 120 66 11083 s H1 locs1 (cells + 5) (slots + 1624) ls 58 7441 [.ref 0, gc_u] (ev_H hp_2) := ⟨hw, hS1, hA.2.2.1, by have h1 := hA.2.2.2.1; have h2 : (ev_H hp_1).1 = 4 := rfl; omega, by have := hA.2.2.2.2.1; omega, by have := hA.2.2.2.2.2; omega⟩
  exact gc_P0.at (d := 6) (Q := fun r S => r = none ∧ S = ev_H hp_c) (st := [.ref 3, .ref 0]) (t := 27) Cx hA2 (ev_P (gc_sound hP l D cy B) (by decide) co_ev1 (ev_b_s (gc_sound hP l D cy B) _ _ _ _ _ _ _ _ _ _ _ (by decide) co_ev1 27 7441 _ (Nat.le_refl _) ⟨rfl, rfl⟩))
set_option maxHeartbeats 4000000 in
theorem m_ref (hP : gc_okP) (l : Launch) : Met l (gc_mN 172) (.code (gc_mN 172) (gc_mB 172) (gc_mL 172) (gc_mR 172) :: gc_tb) (gc_rm 6 48 198488) (va_Pc ([.ref 67].map (gc_tr B)) (fun U => gc_Wo D cy B (ev_H (hp_c ++ [.inr (11, gc_dfl 11)])) U.heap ∧ va_K D vwCl (gc_tys cy) U ∧ gc_Nw U)) (gc_QQ D cy B 48 (fun r S => r = none ∧ S = ev_H (hp_c ++ hp_r))) 48 198488 (gc_A B) :=
  gc_met (hP.1 172 (by decide)).2.2 (by decide) (ev_run (gc_sound hP l D cy B) (by decide) re_ev (Nat.le_refl _) ⟨rfl, rfl⟩)
end Cn
