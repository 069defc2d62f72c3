/-! The law from its beginning. -/
theorem df_tr (B : Nat) : (gc_dfl 10).map (gc_tr B) = gc_dfl 10 ∧ (gc_dfl 11).map (gc_tr B) = gc_dfl 11 := ⟨rfl, rfl⟩
section Ws
variable {p : Program} {l : Launch} {e : Env} {s : State} {m : MethodId} {below : List Frame} {meth : Method} {c : Code} {H : Heap} {locs : List Loc} {cells slots : Nat} {Qm : State → Prop} {D : va_G} {cy : Nat → ClassId} {b L : Nat} {xs : Nat → Int32} {ls : Array Slot} {rest : List Value}
theorem lw_new (C : lw_C D cy p s m c b L xs) {ci pc i n : Nat} {q : vw_C} (hq : vwCl[ci]? = some q) (hn : q.2.2 = n) (hdf : (gc_dfl ci).map (gc_tr s.heap.size) = gc_dfl ci) (hlk : Cond.classLink "GroundCourtLaw" i q.1 ∈ gc_tb) (hdg : decode code pc = .ok (.new i, 3)) {S : gc_H} (hWo : gc_Wo D cy s.heap.size S H) (hS : va_S (gc_A s.heap.size) s.heap H locs) (hz : cells = S.1) (hc1 : cells + 1 ≤ room_1.cells) (hc2 : slots + n ≤ room_1.slots)
    (kk : ∀ H1 : Heap, gc_Wo D cy s.heap.size (gc_nw S (.inr (ci, gc_dfl ci))) H1 → va_S (gc_A s.heap.size) s.heap H1 locs → W p l e room_1 s m #[Value.ref b] below meth c H1 locs (cells + 1) (slots + n) Qm (F0 m (pc + 3) ls (.ref (s.heap.size + S.1) :: rest))) : W p l e room_1 s m #[Value.ref b] below meth c H locs cells slots Qm (F0 m pc ls rest) := by
  obtain ⟨hx, hb, hml, hown, hts, hX, hbl, hK, hN⟩ := C
  subst hn
  obtain ⟨c1, c2, c3, c4, c5, ty0, c6, c7⟩ := gc_cls hq
  refine va_new (D := D) (ci := ci) (C := q.1) (T := q.2.1) (N := q.2.2) (fs := gc_dfl ci) (A := gc_A s.heap.size) (H0 := s.heap) hx hb hts c1 ty0 c6 hown (hts _ hlk) (hts _ c3) (hts _ c4) hK hWo.2 gc_wl_D hS (fun q hq => hq) hq c7 hc1 hc2 hdg ?_
  intro q0 H1 hP1 hD1 hS1
  refine gc_sz fun hsz => ?_
  obtain ⟨e1, e2⟩ := gc_came (E' := .inr (ci, gc_dfl ci)) (by show _ = Sum.inr (ci, (gc_dfl ci).map (gc_tr s.heap.size)); rw [hdf]) (Nat.le_refl _) hP1 hD1 hS1 (by rw [hz]) hsz
  subst e1
  exact kk H1 e2 hS1
theorem lw_init (hP : gc_okP) (C : lw_C D cy p s m c b L xs) {y q pc i kc ks : Nat} {S2 : gc_H} {Pc : State → Prop} (hy : y < 298) (hf : gc_mK y = 2 ∧ gc_mP y = 0) (hMet : Met l (gc_mN y) (.code (gc_mN y) (gc_mB y) (gc_mL y) (gc_mR y) :: gc_tb) (gc_rm 6 kc ks) (va_Pc ([.ref q].map (gc_tr s.heap.size)) Pc) (gc_QQ D cy s.heap.size kc (fun r S => r = none ∧ S = S2)) kc ks (gc_A s.heap.size)) (hbl' : FrameBlind (va_Pc ([.ref q].map (gc_tr s.heap.size)) Pc)) (hPc : ∀ U : State, U.heap = H → s.WarmedH U.vm → Pc U) (hlk : Cond.methodLink "GroundCourtLaw" i (gc_mN y) ∈ gc_tb) (hdg : decode code pc = .ok (.invokespecial i, 3)) (hS : va_S (gc_A s.heap.size) s.heap H locs) (hc1 : cells + kc ≤ room_1.cells) (hc2 : slots + ks ≤ room_1.slots) (hls : ls.size = 4) (hr : (rest.map fun v => v.category).sum ≤ 8)
    (kk : ∀ (H1 : Heap) (locs1 : List Loc), gc_Wo D cy s.heap.size S2 H1 → va_S (gc_A s.heap.size) s.heap H1 locs1 → W p l e room_1 s m #[Value.ref b] below meth c H1 locs1 (cells + kc) (slots + ks) Qm (F0 m (pc + 3) ls rest)) :
    W p l e room_1 s m #[Value.ref b] below meth c H locs cells slots Qm (F0 m pc ls (.ref (s.heap.size + q) :: rest)) := by
  obtain ⟨hx, hb, hml, hown, hts, hX, hbl, hK, hN⟩ := C
  have hM := (hP.1 y hy).2.2
  obtain ⟨hnm, hin, hrn⟩ := hM.2.2.2.2.2.2.2.2.2 hf.1
  have hG : GoodIn gc_tb (.code (gc_mN y) (gc_mB y) (gc_mL y) (gc_mR y) :: gc_tb) := by
    intro w hw
    rcases List.mem_cons.mp hw with rfl | hw
    · exact gc_tb_good _ hM.1
    · exact gc_tb_good _ hw
  have hmL := hM.2.2.2.2.2.2.1
  rw [hrn] at hMet hG
  refine gc_goon (D := D) (cy := cy) (B := s.heap.size) (Q' := fun r S => r = none ∧ S = S2) (va_runI (cc := code) (nL := 4) (Ts := gc_tb) (own := "GroundCourtLaw") (index := i) (bytes := gc_mB y) (maxL := gc_mL y) (n := 0) (b := s.heap.size + q) (As := []) (rest := rest) ⟨hx, hb, hml, hown, hts⟩ hMet ⟨callB_of _ hts hG rfl rfl rfl (hts _ hM.2.1) (hts _ hlk) ⟨hM.2.2.2.1, hM.2.2.2.2.1, by rw [hM.2.2.2.2.2.1, hf.2]⟩ ⟨by show 6 + 1 ≤ 2048; omega, by show 8 + (gc_mL y + 11) + 60 * 6 ≤ 84000; omega⟩, hnm, hts _ hin⟩ ⟨hbl', fun U hU hW => ⟨rfl, hPc U hU hW⟩⟩ rfl rfl hls rfl (lv_room hr) hdg ⟨hc1, hc2⟩) hS ?_
  intro r S' H1 locs1 hq1 hw1 hS1 hsz
  obtain ⟨rfl, rfl⟩ := hq1
  exact kk H1 locs1 hw1 hS1
end Ws
theorem hp_len : (ev_H hp_c).1 = 67 := rfl
theorem lqm_120 : gc_mK 120 = 2 ∧ gc_mP 120 = 0 := by decide +kernel
theorem lqm_172 : gc_mK 172 = 2 ∧ gc_mP 172 = 0 := by decide +kernel
set_option maxHeartbeats 4000000 in
theorem whole_start_of (hP : gc_okP) {p : Program} {e : Env} {s : State} {m : MethodId} {below : List Frame} {meth : Method} {c : Code} (l : Launch) {b L : Nat} {xs : Nat → Int32} (hL : L ≤ 384) (C0 : lw_At p s m meth c b L xs) : W p l e room_1 s m #[Value.ref b] below meth c s.heap [] 0 0 (lw_Z below #[Value.ref b] s) (entryFrame m ([Value.ref b] : List Value).toArray 4) := by
  obtain ⟨hx, hb, hr, hml, hown, htb, hX, hbl, hlocks, hgv⟩ := C0
  have htl : ∀ w ∈ tables_1, w.before #[Value.ref b] s = true := fun w hw => htb w (List.mem_append_right _ hw)
  have hts : ∀ w ∈ gc_tb, w.before #[Value.ref b] s = true := fun w hw => htb w (List.mem_filter.mp hw).1
  have hN := fx_N htl
  obtain ⟨D, cy, hK⟩ := fx_K hP hts hN
  obtain ⟨adK, adV, hT⟩ := fx_tx hgv htl hts
  have C : lw_C D cy p s m c b L xs := ⟨hx, hb, hml, hown, hts, hX, hbl, hK, hN⟩
  have hW0 : gc_Wo D cy s.heap.size (ev_H []) s.heap := ⟨rfl, fun k q h => by
    have h' : (none : Option (Nat × va_E)) = some q := h
    cases h'⟩
  have hS0 : va_S (gc_A s.heap.size) s.heap s.heap [] := va_S.rf
  have hl := lv_entry ([.ref b]) (n := 4) (Nat.le_of_ble_eq_true rfl)
  rw [lg_entry_eq]
  generalize (lg_sl ([.ref b]) ++ List.replicate (4 - (lg_sl ([.ref b])).length) Slot.unset).toArray = ls at hl ⊢
  have hl : lv_has ls 4 [(0, .ref b)] := hl
  refine lw_new (ci := 10) (n := 13) C rfl rfl (df_tr _).1 fl_cl10 lqd_0 hW0 hS0 rfl (by decide) (by decide) (fun H hWo hS => ?_)
  rw [ev_H_new (e := .inr (10, gc_dfl 10)) (c := .inr (10, gc_dfl 10)) rfl] at hWo
  refine lv_dup hx hb lqd_3 rfl ?_
  refine lw_init (y := 120) (q := 0) (kc := 66) (ks := 11083) hP C (by decide) lqm_120 (m_con (adK := adK) (adV := adV) hP l) tx_blind (fun U hU hW => ⟨⟨by rw [hU]; exact hWo, va_K.moved hW.alike hK, hN.warm hW⟩, tx_go hT hS hU hW⟩) fl_in10 lqd_4 hS (Nat.le_trans (by decide) lw_rm.1) (Nat.le_trans (by decide) lw_rm.2) hl.1 (Nat.le_of_ble_eq_true rfl) (fun H locs hWo hS => ?_)
  refine lv_astore_n (lv' := [(1, .ref (s.heap.size + 0)), (0, .ref b)]) hx hb lqd_7 rfl hl (by decide) rfl (fun ls hl => ?_)
  refine lw_new (ci := 11) (n := 84) C rfl rfl (df_tr _).2 fl_cl11 lqd_8 hWo hS rfl (Nat.le_trans (by decide) lw_rm.1) (Nat.le_trans (by decide) lw_rm.2) (fun H hWo hS => ?_)
  rw [ev_H_new (e := .inr (11, gc_dfl 11)) (c := .inr (11, gc_dfl 11)) rfl] at hWo
  refine lv_dup hx hb lqd_11 rfl ?_
  refine lw_init (y := 172) (q := 67) (kc := 48) (ks := 198488) hP C (by decide) lqm_172 (m_ref hP l) gc_blind (fun U hU hW => ⟨by rw [hU]; exact hWo, va_K.moved hW.alike hK, hN.warm hW⟩) fl_in11 lqd_12 hS (Nat.le_trans (by decide) lw_rm.1) (Nat.le_trans (by decide) lw_rm.2) hl.1 (Nat.le_of_ble_eq_true rfl) (fun H locs hWo hS => ?_)
  refine lv_astore_n (lv' := [(2, .ref (s.heap.size + 67)), (1, .ref (s.heap.size + 0)), (0, .ref b)]) hx hb lqd_15 rfl hl (by decide) rfl (fun ls hl => ?_)
  refine lv_iconst (v := nI (6 * 0)) hx hb lqd_16 (by decide) ?_
  refine lv_istore_n (lv' := [(3, .int (nI (6 * 0))), (2, .ref (s.heap.size + 67)), (1, .ref (s.heap.size + 0)), (0, .ref b)]) hx hb lqd_17 rfl hl (by decide) rfl (fun ls hl => ?_)
  exact lw_loop hP C hr hlocks hL 65 0 i0 H locs _ _ a0 11 0 1 ls rfl (Nat.zero_le _) i_XI (Nat.le_refl _) (i_Wo hWo) hS rfl (Nat.le_refl _) hl
