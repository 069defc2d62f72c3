/-! The law's calls. -/
theorem bT_0 (st : gc_St) : ∃ fs, (gc_bT st).2 0 = .inr (10, fs) := ⟨_, rfl⟩
theorem bT_67 (st : gc_St) : ∃ fs, (gc_bT st).2 67 = .inr (11, fs) := ⟨_, rfl⟩
/-- what holds all along in the law -/
def lw_C (D : va_G) (cy : Nat → ClassId) (p : Program) (s : State) (m : MethodId) (c : Code) (b L : Nat) (xs : Nat → Int32) : Prop :=
  p.tables.exec = Jvm.exec ∧ c.code = code ∧ c.maxLocals = 4 ∧ s.vm.findClass "GroundCourtLaw" = some m.cls ∧ (∀ w ∈ gc_tb, w.before #[Value.ref b] s = true) ∧ va_X b L xs s s.heap ∧ b < s.heap.size ∧ va_K D vwCl (gc_tys cy) s ∧ gc_Nw s
def lw_L (B b i : Nat) (ls : Array Slot) : Prop := lv_has ls 4 [(3, .int (nI i)), (2, .ref (B + 67)), (1, .ref (B + 0)), (0, .ref b)]
section Lw
variable {p : Program} {l : Launch} {e : Env} {s : State} {m : MethodId} {below : List Frame} {meth : Method} {c : Code} {H : Heap} {locs : List Loc} {cells slots : Nat} {Qm : State → Prop} {D : va_G} {cy : Nat → ClassId} {b L : Nat} {xs : Nat → Int32} {ls : Array Slot} {rest : List Value}
theorem lw_arg (C : lw_C D cy p s m c b L xs) (hL : L ≤ 384) {pc i k : Nat} {k' : Int} (hd : decode code pc = .ok (.aload_n 0, 1) ∧ decode code (pc + 1) = .ok (.iload_n 3, 1) ∧ decode code (pc + 2) = .ok (.iconst k', 1) ∧ decode code (pc + 3) = .ok (.iadd, 1) ∧ decode code (pc + 4) = .ok (.iaload, 1)) (hk : Int32.ofInt k' = nI k) (hi : i + k < L) (hS : va_S (gc_A s.heap.size) s.heap H locs) (hl : lw_L s.heap.size b i ls)
    (kk : W p l e room_1 s m #[Value.ref b] below meth c H locs cells slots Qm (F0 m (pc + 5) ls (.int (xs (i + k)) :: rest))) : W p l e room_1 s m #[Value.ref b] below meth c H locs cells slots Qm (F0 m pc ls rest) := by
  obtain ⟨hx, hb, hml, hown, hts, hX, hbl, hK, hN⟩ := C
  refine lv_aload_n hx hb hd.1 rfl (lv_at hl 3 rfl) ?_
  refine lv_iload_n hx hb hd.2.1 rfl (lv_at hl 0 rfl) ?_
  refine lv_iconst (v := nI k) hx hb hd.2.2.1 hk ?_
  refine lv_iadd hx hb hd.2.2.2.1 ?_
  rw [nI_add]
  refine va_sld hx hb hX hbl (Nat.not_le.mpr hbl) hS (vp_in_nI hi (by omega)) hd.2.2.2.2 ?_
  rw [nI_clamp (by omega)]
  exact kk
theorem lw_one (hP : gc_okP) (C : lw_C D cy p s m c b L xs) {y q pc i kc ks ci : Nat} {As lvp fs : List Value} {Q : gc_TQ} {st : gc_St} (hy : y < 298) (hf : gc_mK y = 1 ∧ gc_mP y = As.length ∧ gc_mC y = ci) (hlk : Cond.methodLink "GroundCourtLaw" i (gc_mN y) ∈ gc_tb) (hq : q < 116) (hfs : (gc_bT st).2 q = .inr (ci, fs)) (hAs : As.map (gc_tr s.heap.size) = As) (hlen : (gc_ent (.ref q :: As)).length ≤ gc_mL y) (hlv : gc_pad (gc_mL y) (gc_ent (.ref q :: As)) = lvp)
    (hT : gc_T (gc_P0 l D cy s.heap.size) 71 kc ks y 0 lvp [] st Q) (hdg : decode code pc = .ok (.invokevirtual i, 3)) (hWo : gc_Wo D cy s.heap.size (gc_bT st) H) (hS : va_S (gc_A s.heap.size) s.heap H locs) (hc1 : cells + kc ≤ room_1.cells) (hc2 : slots + ks ≤ room_1.slots) (hls : ls.size = 4) (hr : (rest.map fun v => v.category).sum ≤ 8)
    (kk : ∀ (r : Option Value) (st' : gc_St) (H1 : Heap) (locs1 : List Loc), Q r st' → gc_Wo D cy s.heap.size (gc_bT st') H1 → va_S (gc_A s.heap.size) s.heap H1 locs1 → W p l e room_1 s m #[Value.ref b] below meth c H1 locs1 (cells + kc) (slots + ks) Qm (F0 m (pc + 3) ls ((r.map (gc_tr s.heap.size)).toList ++ rest))) :
    W p l e room_1 s m #[Value.ref b] below meth c H locs cells slots Qm (F0 m pc ls (As.reverse ++ .ref (s.heap.size + q) :: rest)) := by
  obtain ⟨hx, hb, hml, hown, hts, hX, hbl, hK, hN⟩ := C
  obtain ⟨hk, hp, hci⟩ := hf
  subst hci
  have hM := (hP.1 y hy).2.2
  have hv := hM.2.2.2.2.2.2.2.2.1 hk
  obtain ⟨q', hq', hqc⟩ := hv.2.2
  subst hlv
  have hMet := gc_met (D := D) (cy := cy) hM hlen hT
  have harg : (Value.ref q :: As).map (gc_tr s.heap.size) = .ref (s.heap.size + q) :: As := by
    rw [List.map_cons, hAs]
    rfl
  rw [harg] at hMet
  have he : (gc_wl s.heap.size cy (gc_bT st))[q]? = some (s.heap.size + q, .inr (gc_mC y, fs.map (gc_tr s.heap.size))) := by
    rw [gc_wl_get (show q < (gc_bT st).1 from Nat.lt_of_lt_of_le hq (Nat.le_add_right _ _)), hfs]
    rfl
  have hG : GoodIn gc_tb (.code (gc_mN y) (gc_mB y) (gc_mL y) (gc_mR y) :: gc_tb) := by
    intro w hw
    rcases List.mem_cons.mp hw with rfl | hw
    · exact gc_tb_good _ hM.1
    · exact gc_tb_good _ hw
  have hmL := hM.2.2.2.2.2.2.1
  refine gc_goon (D := D) (cy := cy) (B := s.heap.size) (va_runV (cc := code) (nL := 4) (Ts := gc_tb) (own := "GroundCourtLaw") (C := (gc_mN y).cls) (index := i) (bytes := gc_mB y) (maxL := gc_mL y) (ret := gc_mR y) (n := gc_mP y) (b := s.heap.size + q) (As := As) (rest := rest) ⟨hx, hb, hml, hown, hts⟩ hMet ⟨callB_of _ hts hG rfl rfl rfl (hts _ hM.2.1) (hts _ hlk) ⟨hM.2.2.2.1, hM.2.2.2.2.1, hM.2.2.2.2.2.1⟩ ⟨by show 71 + 1 ≤ 2048; omega, by show 8 + (gc_mL y + 11) + 60 * 71 ≤ 84000; omega⟩, hts _ hv.1, hts _ hv.2.1⟩ ⟨gc_blind, by rw [← hqc]; exact va_recv hK hWo.2 hq' he, fun U hU hW => ⟨rfl, by rw [hU]; exact hWo, va_K.moved hW.alike hK, hN.warm hW⟩⟩ rfl hp.symm hls rfl (lv_room hr) hdg ⟨hc1, hc2⟩) hS ?_
  intro r S' H1 locs1 hq1 hw1 hS1 hsz
  obtain ⟨st', rfl, hQ⟩ := hq1
  exact kk r st' H1 locs1 hQ hw1 hS1
theorem lw_case (hP : gc_okP) (C : lw_C D cy p s m c b L xs) {pc0 pcA pcB i i1 i2 : Nat} {off : Int} (hl : lw_L s.heap.size b i ls)
    (hd : decode code pc0 = .ok (.aload_n 1, 1) ∧ decode code pcA = .ok (.invokevirtual i1, 3) ∧ decode code (pcA + 3) = .ok (.aload_n 2, 1) ∧ decode code pcB = .ok (.invokevirtual i2, 3) ∧ decode code (pcB + 3) = .ok (.if_icmp .eq off, 3)) (hoff : ((pcB + 3 : Nat) : Int) + off = ((1154 : Nat) : Int))
    {As lv1 lv2 : List Value} {st : gc_St} {v y y' : Nat}
    (ld1 : ∀ (H : Heap) (locs : List Loc) (cells slots : Nat) (rest : List Value), va_S (gc_A s.heap.size) s.heap H locs → W p l e room_1 s m #[Value.ref b] below meth c H locs cells slots Qm (F0 m pcA ls (As.reverse ++ rest)) → W p l e room_1 s m #[Value.ref b] below meth c H locs cells slots Qm (F0 m (pc0 + 1) ls rest))
    (ld2 : ∀ (H : Heap) (locs : List Loc) (cells slots : Nat) (rest : List Value), va_S (gc_A s.heap.size) s.heap H locs → W p l e room_1 s m #[Value.ref b] below meth c H locs cells slots Qm (F0 m pcB ls (As.reverse ++ rest)) → W p l e room_1 s m #[Value.ref b] below meth c H locs cells slots Qm (F0 m (pcA + 4) ls rest))
    (hs : step2 (gc_P0 l D cy s.heap.size) 71 v st y lv1 y' lv2) (hAs : As.map (gc_tr s.heap.size) = As)
    (h1 : y < 298 ∧ (gc_mK y = 1 ∧ gc_mP y = As.length ∧ gc_mC y = 10) ∧ (gc_ent (.ref 0 :: As)).length ≤ gc_mL y ∧ gc_pad (gc_mL y) (gc_ent (.ref 0 :: As)) = lv1)
    (h2 : y' < 298 ∧ (gc_mK y' = 1 ∧ gc_mP y' = As.length ∧ gc_mC y' = 11) ∧ (gc_ent (.ref 67 :: As)).length ≤ gc_mL y' ∧ gc_pad (gc_mL y') (gc_ent (.ref 67 :: As)) = lv2)
    (k1 : Cond.methodLink "GroundCourtLaw" i1 (gc_mN y) ∈ gc_tb) (k2 : Cond.methodLink "GroundCourtLaw" i2 (gc_mN y') ∈ gc_tb)
    (hWo : gc_Wo D cy s.heap.size (gc_bT st) H) (hS : va_S (gc_A s.heap.size) s.heap H locs) (hc1 : cells = 116 + gc_n st) (hc2 : gc_n st ≤ 1537) (hc3 : slots + 407808 ≤ room_1.slots)
    (kk : ∀ (st' : gc_St) (H' : Heap) (locs' : List Loc) (cells' slots' : Nat) (a : gA) (L' lv v' : Nat), v' ≤ v + 1 → XI a L' lv v' st' → gc_Wo D cy s.heap.size (gc_bT st') H' → va_S (gc_A s.heap.size) s.heap H' locs' → cells' = 116 + gc_n st' → gc_n st ≤ gc_n st' → slots' ≤ slots + 256 * (gc_n st' - gc_n st) + 14336 → W p l e room_1 s m #[Value.ref b] below meth c H' locs' cells' slots' Qm (F0 m 1154 ls [])) :
    W p l e room_1 s m #[Value.ref b] below meth c H locs cells slots Qm (F0 m pc0 ls []) := by
  have hrm := lw_rm
  obtain ⟨kc, ks, ⟨q1, q2⟩, hT⟩ := hs
  obtain ⟨f1, f2⟩ := bT_0 st
  refine lv_aload_n C.1 C.2.1 hd.1 rfl (lv_at hl 2 rfl) ?_
  refine ld1 H locs cells slots _ hS ?_
  refine lw_one (rest := []) hP C h1.1 h1.2.1 k1 (by decide) f2 hAs h1.2.2.1 h1.2.2.2 hT hd.2.1 hWo hS (by omega) (by omega) hl.1 (Nat.zero_le _) ?_
  intro r st1 H1 locs1 hQ hw1 hS1
  obtain ⟨x, rfl, hn1, hT2⟩ := hQ
  obtain ⟨g1, g2⟩ := bT_67 st1
  refine lv_aload_n C.1 C.2.1 hd.2.2.1 rfl (lv_at hl 1 rfl) ?_
  refine ld2 H1 locs1 _ _ _ hS1 ?_
  refine lw_one (rest := [.int x]) (kc := 0) (ks := 0) hP C h2.1 h2.2.1 k2 (by decide) g2 hAs h2.2.2.1 h2.2.2.2 hT2 hd.2.2.2.1 hw1 hS1 (by omega) (by omega) hl.1 (Nat.le_of_ble_eq_true rfl) ?_
  intro r2 st2 H2 locs2 hQ2 hw2 hS2
  obtain ⟨rfl, hn2, a, L', lv, v', hv, hX⟩ := hQ2
  refine lv_icmp_eq (tgt := 1154) C.1 C.2.1 hd.2.2.2.2 hoff (fun _ => ?_) (fun h => absurd rfl h)
  exact kk st2 H2 locs2 _ _ a L' lv v' hv hX hw2 hS2 (by omega) (by omega) (by rw [hn2, hn1]; omega)
theorem lw_bool (C : lw_C D cy p s m c b L xs) {pc : Nat} {x : Int32} (hd : decode code pc = .ok (.ifCond .eq 7, 3) ∧ decode code (pc + 3) = .ok (.iconst 1, 1) ∧ decode code (pc + 4) = .ok (.goto 4, 3) ∧ decode code (pc + 7) = .ok (.iconst 0, 1))
    (kk : W p l e room_1 s m #[Value.ref b] below meth c H locs cells slots Qm (F0 m (pc + 8) ls (.int (if x = 0 then 0 else 1) :: rest))) : W p l e room_1 s m #[Value.ref b] below meth c H locs cells slots Qm (F0 m pc ls (.int x :: rest)) := by
  refine lv_if_eq (tgt := pc + 7) C.1 C.2.1 hd.1 (by omega) (fun h => ?_) (fun h => ?_)
  · rw [if_pos h] at kk
    exact lv_iconst (v := 0) C.1 C.2.1 hd.2.2.2 (by decide) kk
  · rw [if_neg h] at kk
    refine lv_iconst (v := 1) C.1 C.2.1 hd.2.1 (by decide) ?_
    exact lv_goto (tgt := pc + 8) C.1 C.2.1 hd.2.2.1 (by omega) kk
end Lw
