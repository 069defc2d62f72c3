/-! The constants of Tokens. -/
def tsI : List Nat := [29, 35, 37, 39, 41, 43, 45, 47, 49, 51, 53, 55, 57, 59, 61, 63, 65, 67]
def tsT : List String := ["ground", "oath", "bargain", "claim", "gives", "or", "any", "nothing", "rest", "ever", "is", "none", "left", "right", "each", "split", "given", "use"]
def tsL : List Nat := [6, 4, 7, 5, 5, 2, 3, 7, 4, 4, 2, 4, 4, 5, 4, 5, 5, 3]
def tsB : List (List Int32) := [[103, 114, 111, 117, 110, 100], [111, 97, 116, 104], [98, 97, 114, 103, 97, 105, 110], [99, 108, 97, 105, 109], [103, 105, 118, 101, 115], [111, 114], [97, 110, 121], [110, 111, 116, 104, 105, 110, 103], [114, 101, 115, 116], [101, 118, 101, 114], [105, 115], [110, 111, 110, 101], [108, 101, 102, 116], [114, 105, 103, 104, 116], [101, 97, 99, 104], [115, 112, 108, 105, 116], [103, 105, 118, 101, 110], [117, 115, 101]]
def tsK : List Nat := [0, 1, 2, 3, 4, 5, 6, 7, 8, 9, 10, 11, 8, 12, 13, 14, 15, 9, 16, 17]
theorem ts_ok : ∀ i, i < 18 → tsL.getD i 0 < 2 ^ 31 ∧ ∀ k, k < tsL.getD i 0 → narrow .char (.int (sg_c (tsB.getD i []) k)) = .int (sg_c (tsB.getD i []) k) := by decide +kernel
theorem ts_wd : ∀ k, k < 20 → sg_w (tsB.getD (tsK.getD k 0) []) (tsL.getD (tsK.getD k 0) 0) = tkw.getD k 0 := by decide +kernel
/-- the texts, by their places -/
def tx (adK adV : Nat → Nat) (A : Nat → Prop) (U : State) : Prop := ∀ i, i < 18 → sg_S (adK i) (adV i) (tsL.getD i 0) (tsB.getD i []) A U U.heap ∧ vk_R "GroundCourt$Tokens" (tsI.getD i 0) (tsT.getD i "") (adK i) U
theorem tx_go {adK adV : Nat → Nat} {A : Nat → Prop} {s U : State} {H : Heap} {locs : List Loc} (h : tx adK adV A s) (hS : va_S A s.heap H locs) (hU : U.heap = H) (hW : s.WarmedH U.vm) : tx adK adV A U := fun i hi => ⟨by rw [hU]; exact ((h i hi).1.kept hS.2.1).moved hW.alike, (h i hi).2.warm hW⟩
theorem tx_blind {D : va_G} {cy : Nat → ClassId} {B : Nat} {adK adV : Nat → Nat} {av : List Value} {S : gc_H} : FrameBlind (va_Pc av (fun U => (gc_Wo D cy B S U.heap ∧ va_K D vwCl (gc_tys cy) U ∧ gc_Nw U) ∧ tx adK adV (gc_A B) U)) := fun a U g mk q => by
  obtain ⟨q0, q1, q2⟩ := q
  obtain ⟨_, q3⟩ := gc_blind (D := D) (cy := cy) (B := B) (av := av) (S := S) a U g mk ⟨q0, q1⟩
  exact ⟨q0, q3, fun i hi => ⟨sg_S.moved (u := U) (U := U.calling g mk a) (Vm.Alike.refl U.vm) (q2 i hi).1, vk_R.same (u := U) rfl (q2 i hi).2⟩⟩
theorem tw_oi : Cond.methodLink "GroundCourt$Tokens" 3 objectInit ∈ gc_tb := gc_in [_] [50] (by decide +kernel) (by decide +kernel) _ List.mem_cons_self
theorem tw_tk : Cond.methodLink "GroundCourt" 18 (gc_mN 91) ∈ gc_tb := gc_in [_] [47] (by decide +kernel) (by decide +kernel) _ List.mem_cons_self
theorem td_0 : decode (gc_mB 91) 52 = .ok (.ldc 29, 2) ∧ decode (gc_mB 91) (52 + 2) = .ok (.invokestatic 31, 3) := by decide +kernel
theorem td_1 : decode (gc_mB 91) 60 = .ok (.ldc 35, 2) ∧ decode (gc_mB 91) (60 + 2) = .ok (.invokestatic 31, 3) := by decide +kernel
theorem td_2 : decode (gc_mB 91) 68 = .ok (.ldc 37, 2) ∧ decode (gc_mB 91) (68 + 2) = .ok (.invokestatic 31, 3) := by decide +kernel
theorem td_3 : decode (gc_mB 91) 76 = .ok (.ldc 39, 2) ∧ decode (gc_mB 91) (76 + 2) = .ok (.invokestatic 31, 3) := by decide +kernel
theorem td_4 : decode (gc_mB 91) 84 = .ok (.ldc 41, 2) ∧ decode (gc_mB 91) (84 + 2) = .ok (.invokestatic 31, 3) := by decide +kernel
theorem td_5 : decode (gc_mB 91) 92 = .ok (.ldc 43, 2) ∧ decode (gc_mB 91) (92 + 2) = .ok (.invokestatic 31, 3) := by decide +kernel
theorem td_6 : decode (gc_mB 91) 101 = .ok (.ldc 45, 2) ∧ decode (gc_mB 91) (101 + 2) = .ok (.invokestatic 31, 3) := by decide +kernel
theorem td_7 : decode (gc_mB 91) 110 = .ok (.ldc 47, 2) ∧ decode (gc_mB 91) (110 + 2) = .ok (.invokestatic 31, 3) := by decide +kernel
theorem td_8 : decode (gc_mB 91) 119 = .ok (.ldc 49, 2) ∧ decode (gc_mB 91) (119 + 2) = .ok (.invokestatic 31, 3) := by decide +kernel
theorem td_9 : decode (gc_mB 91) 128 = .ok (.ldc 51, 2) ∧ decode (gc_mB 91) (128 + 2) = .ok (.invokestatic 31, 3) := by decide +kernel
theorem td_10 : decode (gc_mB 91) 137 = .ok (.ldc 53, 2) ∧ decode (gc_mB 91) (137 + 2) = .ok (.invokestatic 31, 3) := by decide +kernel
theorem td_11 : decode (gc_mB 91) 146 = .ok (.ldc 55, 2) ∧ decode (gc_mB 91) (146 + 2) = .ok (.invokestatic 31, 3) := by decide +kernel
theorem td_12 : decode (gc_mB 91) 155 = .ok (.ldc 49, 2) ∧ decode (gc_mB 91) (155 + 2) = .ok (.invokestatic 31, 3) := by decide +kernel
theorem td_13 : decode (gc_mB 91) 164 = .ok (.ldc 57, 2) ∧ decode (gc_mB 91) (164 + 2) = .ok (.invokestatic 31, 3) := by decide +kernel
theorem td_14 : decode (gc_mB 91) 173 = .ok (.ldc 59, 2) ∧ decode (gc_mB 91) (173 + 2) = .ok (.invokestatic 31, 3) := by decide +kernel
theorem td_15 : decode (gc_mB 91) 182 = .ok (.ldc 61, 2) ∧ decode (gc_mB 91) (182 + 2) = .ok (.invokestatic 31, 3) := by decide +kernel
theorem td_16 : decode (gc_mB 91) 191 = .ok (.ldc 63, 2) ∧ decode (gc_mB 91) (191 + 2) = .ok (.invokestatic 31, 3) := by decide +kernel
theorem td_17 : decode (gc_mB 91) 200 = .ok (.ldc 51, 2) ∧ decode (gc_mB 91) (200 + 2) = .ok (.invokestatic 31, 3) := by decide +kernel
theorem td_18 : decode (gc_mB 91) 209 = .ok (.ldc 65, 2) ∧ decode (gc_mB 91) (209 + 2) = .ok (.invokestatic 31, 3) := by decide +kernel
theorem td_19 : decode (gc_mB 91) 218 = .ok (.ldc 67, 2) ∧ decode (gc_mB 91) (218 + 2) = .ok (.invokestatic 31, 3) := by decide +kernel
theorem td_oi : decode (gc_mB 91) 0 = .ok (.aload_n 0, 1) ∧ decode (gc_mB 91) 1 = .ok (.invokespecial 3, 3) := by decide +kernel
theorem td_cls : (gc_mN 91).cls = "GroundCourt$Tokens" ∧ (gc_mN 120).cls = "GroundCourt" := by decide +kernel
theorem td_tk : decode (gc_mB 120) 24 = .ok (.invokespecial 18, 3) := by decide +kernel
section Tk
variable {p : Program} {l : Launch} {e : Env} {s : State} {m : MethodId} {args : Array Value} {below : List Frame} {meth : Method} {c : Code} {D : va_G} {cy : Nat → ClassId} {B : Nat} {Mc Ms : Nat} {adK adV : Nat → Nat} {Qm : State → Prop}
theorem tok_step (Cx : gc_Cx D cy B p s m args meth c 91) (hX : tx adK adV (gc_A B) s) {i pcL ix : Nat} (hi : i < 18) (hix : tsI.getD i 0 = ix) (hd : decode (gc_mB 91) pcL = .ok (.ldc ix, 2) ∧ decode (gc_mB 91) (pcL + 2) = .ok (.invokestatic 31, 3)) {w : Int64} (hw : sg_w (tsB.getD i []) (tsL.getD i 0) = w) {H : Heap} {locs : List Loc} {cells slots : Nat} {ls : Array Slot} {kc ks : Nat} {lv : List Value} {S : gc_H} (hA : gc_At D cy B 91 Mc Ms s H locs cells slots ls kc ks lv S) (rest : List Value) (hr : (rest.map fun v => v.category).sum ≤ 8)
    (kk : W p l e (gc_rm 5 Mc Ms) s m args below meth c H locs cells slots Qm (F0 m (pcL + 5) ls (.long w :: rest))) : W p l e (gc_rm 5 Mc Ms) s m args below meth c H locs cells slots Qm (F0 m pcL ls rest) := by
  subst hix
  subst hw
  obtain ⟨hx, hb, hml, hr', hts, hown, _⟩ := Cx
  rw [td_cls.1] at hown
  obtain ⟨h1, h2⟩ := hX i hi
  refine va_ldcS hx hb hown h2 hd.1 ?_
  refine sg_call (va_runS (As := [.ref (adK i)]) (rest := rest) (n := 1) ⟨hx, hb, hml, hown, hts⟩ (m_wor (q := adK i) (v := adV i) (A := gc_A B) l (ts_ok i hi).1 (ts_ok i hi).2) ⟨callB_of 1 hts (sg_good sw_code_wor) rfl rfl rfl (hts _ sw_ini_T) (hts _ sw_l_wor) ⟨by decide, by decide, by decide +kernel⟩ ⟨Nat.le_of_ble_eq_true rfl, Nat.le_of_ble_eq_true rfl⟩, hts _ sw_stat_wor⟩ ⟨sg_blind, fun U hU hW => ⟨rfl, by show sg_S _ _ _ _ _ U U.heap; rw [hU]; exact (h1.kept hA.2.1.2.1).moved hW.alike⟩⟩ rfl rfl hA.2.2.1.1 rfl (lv_room hr) hd.2 ⟨by have := hA.2.2.2.2.1; show cells + 0 ≤ Mc; omega, by have := hA.2.2.2.2.2; show slots + 0 ≤ Ms; omega⟩) kk
set_option maxHeartbeats 4000000 in
theorem m_tok (hP : gc_okP) (l : Launch) : Met l (gc_mN 91) (.code (gc_mN 91) (gc_mB 91) (gc_mL 91) (gc_mR 91) :: gc_tb) (gc_rm 5 5 1624) (va_Pc ([.ref 3, .ref 1].map (gc_tr B)) (fun U => (gc_Wo D cy B (ev_H hp_1) U.heap ∧ va_K D vwCl (gc_tys cy) U ∧ gc_Nw U) ∧ tx adK adV (gc_A B) U)) (gc_QQ D cy B 5 (fun r S => r = none ∧ S = ev_H hp_2)) 5 1624 (gc_A B) := by
  have hM := (hP.1 91 (by decide)).2.2
  refine Met.ofW (cc := gc_mB 91) (maxL := gc_mL 91) (ret := gc_mR 91) hM.2.2.1 rfl ?_
  intro p e s m args below meth c s₁ Bd hml hv
  obtain ⟨rfl, ⟨hWo, hK, hN⟩, hX⟩ := hv
  have hts0 := atoms_spec (ws := .code (gc_mN 91) (gc_mB 91) (gc_mL 91) (gc_mR 91) :: gc_tb) Bd.pre
  have hBs : B ≤ s.heap.size := by rw [hWo.1]; exact Nat.le_add_right _ _
  have Cx : gc_Cx D cy B p s m (([.ref 3, .ref 1].map (gc_tr B)).toArray) meth c 91 := ⟨Bd.exec, Bd.bytes, hml, Bd.returns, fun w hw => hts0 w (List.mem_cons_of_mem _ hw), findClass_of_methodNamed Bd.named, Bd.notSynchronized, (name_of_methodNamed Bd.named Bd.method).1, hK, hN, hBs⟩
  have hts := Cx.2.2.2.2.1
  have hown : s.vm.findClass "GroundCourt$Tokens" = some m.cls := by
    have := Cx.2.2.2.2.2.1
    rw [td_cls.1] at this
    exact this
  rw [lg_entry_eq]
  have hl := gc_lv_entry (B := B) (n := gc_mL 91) [.ref 3, .ref 1] (by decide)
  generalize (lg_sl ([.ref 3, .ref 1].map (gc_tr B)) ++ List.replicate (gc_mL 91 - (lg_sl ([.ref 3, .ref 1].map (gc_tr B))).length) Slot.unset).toArray = ls at hl ⊢
  have hA : gc_At D cy B 91 5 1624 s s.heap [] 0 0 ls 5 1624 [.ref 3, .ref 1] (ev_H hp_1) := ⟨hWo, va_S.rf, hl, by rw [hWo.1]; rfl, by omega, by omega⟩
  refine lv_aload_n Cx.1 Cx.2.1 td_oi.1 rfl (hl.2.2 0 (.ref 3) rfl (by decide)) ?_
  refine W.objInit Cx.1 Cx.2.1 hown (hts _ tw_oi) (hts _ hP.2.1) (hts _ hP.2.2.1) rfl (hl.1.trans hml.symm) rfl td_oi.2 (Nat.le_of_ble_eq_true rfl) (Nat.le_of_ble_eq_true rfl) ?_
  refine W.eq (g2 := F0 m 4 ls (([] : List Value).map (gc_tr B))) rfl ?_
  refine ev_W (d := 5) hP Cx 1 tkE0 4 tk_ok.1 tk_ok.2 (fun el r h => by unfold tkE0 at h; injection h with h1 h2; rw [← h1]) _ _ _ _ _ _ _ _ 0 1624 _ _ _ _ ls tk_ev0 (Nat.le_refl _) hA (fun H locs cells slots ls hA => ?_)
  show W p l e (gc_rm 5 5 1624) s m _ below meth c H locs cells slots _ (F0 m 52 ls ([Value.int 0, Value.ref 8, Value.ref 8, Value.ref 3].map (gc_tr B)))
  refine tok_step (i := 0) Cx hX (by decide) rfl td_0 (ts_wd 0 (by decide)) hA _ (Nat.le_of_ble_eq_true rfl) ?_
  refine ev_W (d := 5) (below := below) (m := m) hP Cx 1 tkE1 57 tk_ok1.1 tk_ok1.2 (fun el r h => by unfold tkE1 at h; injection h with h1 h2; rw [← h1]) _ [Value.long (tkw.getD 0 0), Value.int 0, Value.ref 8, Value.ref 8, Value.ref 3] _ _ _ _ _ _ 0 0 _ _ _ _ ls tk_ev1 (Nat.le_refl _) hA (fun H locs cells slots ls hA => ?_)
  show W p l e (gc_rm 5 5 1624) s m _ below meth c H locs cells slots _ (F0 m 60 ls ([Value.int 1, Value.ref 8, Value.ref 8, Value.ref 3].map (gc_tr B)))
  refine tok_step (i := 1) Cx hX (by decide) rfl td_1 (ts_wd 1 (by decide)) hA _ (Nat.le_of_ble_eq_true rfl) ?_
  refine ev_W (d := 5) (below := below) (m := m) hP Cx 1 tkE2 65 tk_ok2.1 tk_ok2.2 (fun el r h => by unfold tkE2 at h; injection h with h1 h2; rw [← h1]) _ [Value.long (tkw.getD 1 0), Value.int 1, Value.ref 8, Value.ref 8, Value.ref 3] _ _ _ _ _ _ 0 0 _ _ _ _ ls tk_ev2 (Nat.le_refl _) hA (fun H locs cells slots ls hA => ?_)
  show W p l e (gc_rm 5 5 1624) s m _ below meth c H locs cells slots _ (F0 m 68 ls ([Value.int 2, Value.ref 8, Value.ref 8, Value.ref 3].map (gc_tr B)))
  refine tok_step (i := 2) Cx hX (by decide) rfl td_2 (ts_wd 2 (by decide)) hA _ (Nat.le_of_ble_eq_true rfl) ?_
  refine ev_W (d := 5) (below := below) (m := m) hP Cx 1 tkE3 73 tk_ok3.1 tk_ok3.2 (fun el r h => by unfold tkE3 at h; injection h with h1 h2; rw [← h1]) _ [Value.long (tkw.getD 2 0), Value.int 2, Value.ref 8, Value.ref 8, Value.ref 3] _ _ _ _ _ _ 0 0 _ _ _ _ ls tk_ev3 (Nat.le_refl _) hA (fun H locs cells slots ls hA => ?_)
  show W p l e (gc_rm 5 5 1624) s m _ below meth c H locs cells slots _ (F0 m 76 ls ([Value.int 3, Value.ref 8, Value.ref 8, Value.ref 3].map (gc_tr B)))
  refine tok_step (i := 3) Cx hX (by decide) rfl td_3 (ts_wd 3 (by decide)) hA _ (Nat.le_of_ble_eq_true rfl) ?_
  refine ev_W (d := 5) (below := below) (m := m) hP Cx 1 tkE4 81 tk_ok4.1 tk_ok4.2 (fun el r h => by unfold tkE4 at h; injection h with h1 h2; rw [← h1]) _ [Value.long (tkw.getD 3 0), Value.int 3, Value.ref 8, Value.ref 8, Value.ref 3] _ _ _ _ _ _ 0 0 _ _ _ _ ls tk_ev4 (Nat.le_refl _) hA (fun H locs cells slots ls hA => ?_)
  show W p l e (gc_rm 5 5 1624) s m _ below meth c H locs cells slots _ (F0 m 84 ls ([Value.int 4, Value.ref 8, Value.ref 8, Value.ref 3].map (gc_tr B)))
  refine tok_step (i := 4) Cx hX (by decide) rfl td_4 (ts_wd 4 (by decide)) hA _ (Nat.le_of_ble_eq_true rfl) ?_
  refine ev_W (d := 5) (below := below) (m := m) hP Cx 1 tkE5 89 tk_ok5.1 tk_ok5.2 (fun el r h => by unfold tkE5 at h; injection h with h1 h2; rw [← h1]) _ [Value.long (tkw.getD 4 0), Value.int 4, Value.ref 8, Value.ref 8, Value.ref 3] _ _ _ _ _ _ 0 0 _ _ _ _ ls tk_ev5 (Nat.le_refl _) hA (fun H locs cells slots ls hA => ?_)
  show W p l e (gc_rm 5 5 1624) s m _ below meth c H locs cells slots _ (F0 m 92 ls ([Value.int 5, Value.ref 8, Value.ref 8, Value.ref 3].map (gc_tr B)))
  refine tok_step (i := 5) Cx hX (by decide) rfl td_5 (ts_wd 5 (by decide)) hA _ (Nat.le_of_ble_eq_true rfl) ?_
  refine ev_W (d := 5) (below := below) (m := m) hP Cx 1 tkE6 97 tk_ok6.1 tk_ok6.2 (fun el r h => by unfold tkE6 at h; injection h with h1 h2; rw [← h1]) _ [Value.long (tkw.getD 5 0), Value.int 5, Value.ref 8, Value.ref 8, Value.ref 3] _ _ _ _ _ _ 0 0 _ _ _ _ ls tk_ev6 (Nat.le_refl _) hA (fun H locs cells slots ls hA => ?_)
  show W p l e (gc_rm 5 5 1624) s m _ below meth c H locs cells slots _ (F0 m 101 ls ([Value.int 6, Value.ref 8, Value.ref 8, Value.ref 3].map (gc_tr B)))
  refine tok_step (i := 6) Cx hX (by decide) rfl td_6 (ts_wd 6 (by decide)) hA _ (Nat.le_of_ble_eq_true rfl) ?_
  refine ev_W (d := 5) (below := below) (m := m) hP Cx 1 tkE7 106 tk_ok7.1 tk_ok7.2 (fun el r h => by unfold tkE7 at h; injection h with h1 h2; rw [← h1]) _ [Value.long (tkw.getD 6 0), Value.int 6, Value.ref 8, Value.ref 8, Value.ref 3] _ _ _ _ _ _ 0 0 _ _ _ _ ls tk_ev7 (Nat.le_refl _) hA (fun H locs cells slots ls hA => ?_)
  show W p l e (gc_rm 5 5 1624) s m _ below meth c H locs cells slots _ (F0 m 110 ls ([Value.int 7, Value.ref 8, Value.ref 8, Value.ref 3].map (gc_tr B)))
  refine tok_step (i := 7) Cx hX (by decide) rfl td_7 (ts_wd 7 (by decide)) hA _ (Nat.le_of_ble_eq_true rfl) ?_
  refine ev_W (d := 5) (below := below) (m := m) hP Cx 1 tkE8 115 tk_ok8.1 tk_ok8.2 (fun el r h => by unfold tkE8 at h; injection h with h1 h2; rw [← h1]) _ [Value.long (tkw.getD 7 0), Value.int 7, Value.ref 8, Value.ref 8, Value.ref 3] _ _ _ _ _ _ 0 0 _ _ _ _ ls tk_ev8 (Nat.le_refl _) hA (fun H locs cells slots ls hA => ?_)
  show W p l e (gc_rm 5 5 1624) s m _ below meth c H locs cells slots _ (F0 m 119 ls ([Value.int 8, Value.ref 8, Value.ref 8, Value.ref 3].map (gc_tr B)))
  refine tok_step (i := 8) Cx hX (by decide) rfl td_8 (ts_wd 8 (by decide)) hA _ (Nat.le_of_ble_eq_true rfl) ?_
  refine ev_W (d := 5) (below := below) (m := m) hP Cx 1 tkE9 124 tk_ok9.1 tk_ok9.2 (fun el r h => by unfold tkE9 at h; injection h with h1 h2; rw [← h1]) _ [Value.long (tkw.getD 8 0), Value.int 8, Value.ref 8, Value.ref 8, Value.ref 3] _ _ _ _ _ _ 0 0 _ _ _ _ ls tk_ev9 (Nat.le_refl _) hA (fun H locs cells slots ls hA => ?_)
  show W p l e (gc_rm 5 5 1624) s m _ below meth c H locs cells slots _ (F0 m 128 ls ([Value.int 9, Value.ref 8, Value.ref 8, Value.ref 3].map (gc_tr B)))
  refine tok_step (i := 9) Cx hX (by decide) rfl td_9 (ts_wd 9 (by decide)) hA _ (Nat.le_of_ble_eq_true rfl) ?_
  refine ev_W (d := 5) (below := below) (m := m) hP Cx 1 tkE10 133 tk_ok10.1 tk_ok10.2 (fun el r h => by unfold tkE10 at h; injection h with h1 h2; rw [← h1]) _ [Value.long (tkw.getD 9 0), Value.int 9, Value.ref 8, Value.ref 8, Value.ref 3] _ _ _ _ _ _ 0 0 _ _ _ _ ls tk_ev10 (Nat.le_refl _) hA (fun H locs cells slots ls hA => ?_)
  show W p l e (gc_rm 5 5 1624) s m _ below meth c H locs cells slots _ (F0 m 137 ls ([Value.int 10, Value.ref 8, Value.ref 8, Value.ref 3].map (gc_tr B)))
  refine tok_step (i := 10) Cx hX (by decide) rfl td_10 (ts_wd 10 (by decide)) hA _ (Nat.le_of_ble_eq_true rfl) ?_
  refine ev_W (d := 5) (below := below) (m := m) hP Cx 1 tkE11 142 tk_ok11.1 tk_ok11.2 (fun el r h => by unfold tkE11 at h; injection h with h1 h2; rw [← h1]) _ [Value.long (tkw.getD 10 0), Value.int 10, Value.ref 8, Value.ref 8, Value.ref 3] _ _ _ _ _ _ 0 0 _ _ _ _ ls tk_ev11 (Nat.le_refl _) hA (fun H locs cells slots ls hA => ?_)
  show W p l e (gc_rm 5 5 1624) s m _ below meth c H locs cells slots _ (F0 m 146 ls ([Value.int 11, Value.ref 8, Value.ref 8, Value.ref 3].map (gc_tr B)))
  refine tok_step (i := 11) Cx hX (by decide) rfl td_11 (ts_wd 11 (by decide)) hA _ (Nat.le_of_ble_eq_true rfl) ?_
  refine ev_W (d := 5) (below := below) (m := m) hP Cx 1 tkE12 151 tk_ok12.1 tk_ok12.2 (fun el r h => by unfold tkE12 at h; injection h with h1 h2; rw [← h1]) _ [Value.long (tkw.getD 11 0), Value.int 11, Value.ref 8, Value.ref 8, Value.ref 3] _ _ _ _ _ _ 0 0 _ _ _ _ ls tk_ev12 (Nat.le_refl _) hA (fun H locs cells slots ls hA => ?_)
  show W p l e (gc_rm 5 5 1624) s m _ below meth c H locs cells slots _ (F0 m 155 ls ([Value.int 12, Value.ref 8, Value.ref 8, Value.ref 3].map (gc_tr B)))
  refine tok_step (i := 8) Cx hX (by decide) rfl td_12 (ts_wd 12 (by decide)) hA _ (Nat.le_of_ble_eq_true rfl) ?_
  refine ev_W (d := 5) (below := below) (m := m) hP Cx 1 tkE13 160 tk_ok13.1 tk_ok13.2 (fun el r h => by unfold tkE13 at h; injection h with h1 h2; rw [← h1]) _ [Value.long (tkw.getD 12 0), Value.int 12, Value.ref 8, Value.ref 8, Value.ref 3] _ _ _ _ _ _ 0 0 _ _ _ _ ls tk_ev13 (Nat.le_refl _) hA (fun H locs cells slots ls hA => ?_)
  show W p l e (gc_rm 5 5 1624) s m _ below meth c H locs cells slots _ (F0 m 164 ls ([Value.int 13, Value.ref 8, Value.ref 8, Value.ref 3].map (gc_tr B)))
  refine tok_step (i := 12) Cx hX (by decide) rfl td_13 (ts_wd 13 (by decide)) hA _ (Nat.le_of_ble_eq_true rfl) ?_
  refine ev_W (d := 5) (below := below) (m := m) hP Cx 1 tkE14 169 tk_ok14.1 tk_ok14.2 (fun el r h => by unfold tkE14 at h; injection h with h1 h2; rw [← h1]) _ [Value.long (tkw.getD 13 0), Value.int 13, Value.ref 8, Value.ref 8, Value.ref 3] _ _ _ _ _ _ 0 0 _ _ _ _ ls tk_ev14 (Nat.le_refl _) hA (fun H locs cells slots ls hA => ?_)
  show W p l e (gc_rm 5 5 1624) s m _ below meth c H locs cells slots _ (F0 m 173 ls ([Value.int 14, Value.ref 8, Value.ref 8, Value.ref 3].map (gc_tr B)))
  refine tok_step (i := 13) Cx hX (by decide) rfl td_14 (ts_wd 14 (by decide)) hA _ (Nat.le_of_ble_eq_true rfl) ?_
  refine ev_W (d := 5) (below := below) (m := m) hP Cx 1 tkE15 178 tk_ok15.1 tk_ok15.2 (fun el r h => by unfold tkE15 at h; injection h with h1 h2; rw [← h1]) _ [Value.long (tkw.getD 14 0), Value.int 14, Value.ref 8, Value.ref 8, Value.ref 3] _ _ _ _ _ _ 0 0 _ _ _ _ ls tk_ev15 (Nat.le_refl _) hA (fun H locs cells slots ls hA => ?_)
  show W p l e (gc_rm 5 5 1624) s m _ below meth c H locs cells slots _ (F0 m 182 ls ([Value.int 15, Value.ref 8, Value.ref 8, Value.ref 3].map (gc_tr B)))
  refine tok_step (i := 14) Cx hX (by decide) rfl td_15 (ts_wd 15 (by decide)) hA _ (Nat.le_of_ble_eq_true rfl) ?_
  refine ev_W (d := 5) (below := below) (m := m) hP Cx 1 tkE16 187 tk_ok16.1 tk_ok16.2 (fun el r h => by unfold tkE16 at h; injection h with h1 h2; rw [← h1]) _ [Value.long (tkw.getD 15 0), Value.int 15, Value.ref 8, Value.ref 8, Value.ref 3] _ _ _ _ _ _ 0 0 _ _ _ _ ls tk_ev16 (Nat.le_refl _) hA (fun H locs cells slots ls hA => ?_)
  show W p l e (gc_rm 5 5 1624) s m _ below meth c H locs cells slots _ (F0 m 191 ls ([Value.int 16, Value.ref 8, Value.ref 8, Value.ref 3].map (gc_tr B)))
  refine tok_step (i := 15) Cx hX (by decide) rfl td_16 (ts_wd 16 (by decide)) hA _ (Nat.le_of_ble_eq_true rfl) ?_
  refine ev_W (d := 5) (below := below) (m := m) hP Cx 1 tkE17 196 tk_ok17.1 tk_ok17.2 (fun el r h => by unfold tkE17 at h; injection h with h1 h2; rw [← h1]) _ [Value.long (tkw.getD 16 0), Value.int 16, Value.ref 8, Value.ref 8, Value.ref 3] _ _ _ _ _ _ 0 0 _ _ _ _ ls tk_ev17 (Nat.le_refl _) hA (fun H locs cells slots ls hA => ?_)
  show W p l e (gc_rm 5 5 1624) s m _ below meth c H locs cells slots _ (F0 m 200 ls ([Value.int 17, Value.ref 8, Value.ref 8, Value.ref 3].map (gc_tr B)))
  refine tok_step (i := 9) Cx hX (by decide) rfl td_17 (ts_wd 17 (by decide)) hA _ (Nat.le_of_ble_eq_true rfl) ?_
  refine ev_W (d := 5) (below := below) (m := m) hP Cx 1 tkE18 205 tk_ok18.1 tk_ok18.2 (fun el r h => by unfold tkE18 at h; injection h with h1 h2; rw [← h1]) _ [Value.long (tkw.getD 17 0), Value.int 17, Value.ref 8, Value.ref 8, Value.ref 3] _ _ _ _ _ _ 0 0 _ _ _ _ ls tk_ev18 (Nat.le_refl _) hA (fun H locs cells slots ls hA => ?_)
  show W p l e (gc_rm 5 5 1624) s m _ below meth c H locs cells slots _ (F0 m 209 ls ([Value.int 18, Value.ref 8, Value.ref 8, Value.ref 3].map (gc_tr B)))
  refine tok_step (i := 16) Cx hX (by decide) rfl td_18 (ts_wd 18 (by decide)) hA _ (Nat.le_of_ble_eq_true rfl) ?_
  refine ev_W (d := 5) (below := below) (m := m) hP Cx 1 tkE19 214 tk_ok19.1 tk_ok19.2 (fun el r h => by unfold tkE19 at h; injection h with h1 h2; rw [← h1]) _ [Value.long (tkw.getD 18 0), Value.int 18, Value.ref 8, Value.ref 8, Value.ref 3] _ _ _ _ _ _ 0 0 _ _ _ _ ls tk_ev19 (Nat.le_refl _) hA (fun H locs cells slots ls hA => ?_)
  show W p l e (gc_rm 5 5 1624) s m _ below meth c H locs cells slots _ (F0 m 218 ls ([Value.int 19, Value.ref 8, Value.ref 8, Value.ref 3].map (gc_tr B)))
  refine tok_step (i := 17) Cx hX (by decide) rfl td_19 (ts_wd 19 (by decide)) hA _ (Nat.le_of_ble_eq_true rfl) ?_
  refine ev_W (d := 5) (below := below) (m := m) hP Cx 1 tkE20 223 tk_ok20.1 tk_ok20.2 (fun el r h => by unfold tkE20 at h; injection h with h1 h2; rw [← h1]) _ [Value.long (tkw.getD 19 0), Value.int 19, Value.ref 8, Value.ref 8, Value.ref 3] _ _ _ _ _ _ 0 0 _ _ _ _ ls tk_ev20 (Nat.le_refl _) hA (fun H locs cells slots ls hA => ?_)
  exact gc_exs (d := 5) (K := fun _ _ _ _ _ => False) (Q := fun r S => r = none ∧ S = ev_H hp_2) (st := []) hP Cx (227, 228, .return_, 0, 0, 0) tk_okR (fun _ _ _ _ _ _ _ _ _ _ _ _ _ _ _ _ hk => hk.elim) hA ⟨rfl, rfl, rfl⟩
end Tk
