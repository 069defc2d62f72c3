/-! The JDK's own methods of a text, and wordNumber. -/
def sg_Q (v : Option Value) : Array Value → State → Outcome → State → Prop := fun _ st o t => o = .returned v ∧ t.heap = st.heap
abbrev sg_ws (y : MethodName) (cc : ByteArray) (n : Nat) (r : Option FieldType) : List Cond := .code y cc n r :: gc_tb
abbrev sg_rm (f n : Nat) : Room := { frames := f, cells := 0, slots := 0, locals := n }
theorem sg_good {y : MethodName} {cc : ByteArray} {n : Nat} {r : Option FieldType} (h : Cond.code y cc n r ∈ gc_tb) : GoodIn gc_tb (sg_ws y cc n r) := by
  intro w hw
  rcases List.mem_cons.mp hw with rfl | hw
  · exact gc_tb_good _ h
  · exact gc_tb_good _ hw
/-- a text: its object, its bytes, what the machine asks -/
def sg_S (q v n : Nat) (b : List Int32) (A : Nat → Prop) (U : State) (H : Heap) : Prop :=
  va_O "java/lang/String" q A U H ∧ va_OF "java/lang/String" "coder" "B" (.int 0) q A U H ∧ va_OF "java/lang/String" "value" "[B" (.ref v) q A U H ∧ va_T .byte v n (fun j => .int (b.getD j 0)) A U H ∧ va_Z "java/lang/String" "COMPACT_STRINGS" "Z" (.int 1) A U H ∧ va_Zq "jdk/internal/util/Preconditions" "SIOOBE_FORMATTER" "Ljava/util/function/BiFunction;" A U H
theorem sg_S.moved {q v n : Nat} {b : List Int32} {A : Nat → Prop} {u U : State} {H : Heap} (hvm : u.vm.Alike U.vm) (h : sg_S q v n b A u H) : sg_S q v n b A U H :=
  ⟨va_O.moved hvm h.1, va_OF.moved hvm h.2.1, va_OF.moved hvm h.2.2.1, va_T.moved hvm h.2.2.2.1, va_Z.moved hvm h.2.2.2.2.1, va_Zq.moved hvm h.2.2.2.2.2⟩
theorem sg_S.kept {q v n : Nat} {b : List Int32} {A : Nat → Prop} {U : State} {H H1 : Heap} (h : sg_S q v n b A U H) (hq : ∀ a : Nat, a < H.size → ¬ A a → H1[a]? = H[a]?) : sg_S q v n b A U H1 :=
  ⟨h.1.kept hq, h.2.1.kept hq, h.2.2.1.kept hq, h.2.2.2.1.kept hq, h.2.2.2.2.1.kept hq, h.2.2.2.2.2.kept hq⟩
def sg_Pc (q v n : Nat) (b : List Int32) (A : Nat → Prop) (av : List Value) : Array Value → State → Prop := va_Pc av (fun U => sg_S q v n b A U U.heap)
theorem sg_blind {q v n : Nat} {b : List Int32} {A : Nat → Prop} {av : List Value} : FrameBlind (sg_Pc q v n b A av) := fun a U g mk h => ⟨h.1, sg_S.moved (u := U) (U := U.calling g mk a) (Vm.Alike.refl U.vm) h.2⟩
section Sg
variable {p : Program} {l : Launch} {e : Env} {R : Room} {s : State} {m : MethodId} {args : Array Value} {below : List Frame} {meth : Method} {c : Code} {H : Heap} {locs : List Loc} {cells slots : Nat} {Q : State → Prop}
theorem sg_call {v : Option Value} {pc : Nat} {ls : Array Slot} {st0 rest : List Value} {a : Array Value} (hr : va_Run p l e R s m args below meth c H locs cells slots 0 0 (F0 m pc ls st0) rest (sg_Q v a) (fun _ => False)) (kk : W p l e R s m args below meth c H locs cells slots Q (F0 m (pc + 3) ls (v.toList ++ rest))) : W p l e R s m args below meth c H locs cells slots Q (F0 m pc ls st0) := by
  intro T hT X
  obtain ⟨v', st₀, t, T', L, h0, X', hL, e1, e2, ⟨hv, hh⟩, st⟩ := hr T hT X
  cases hv
  have hL0 : L = [] := List.eq_nil_iff_forall_not_mem.mpr fun q hq => hL q hq
  subst hL0
  rw [List.append_nil] at X'
  obtain ⟨t2, a1, b1⟩ := kk T' (by rw [e1, hh, h0]) X'
  exact ⟨t2, st t2 a1, b1⟩
theorem sg_pre {q v n : Nat} {b : List Int32} {A : Nat → Prop} {av : List Value} (h : sg_S q v n b A s s.heap) : PreS s s.heap (sg_Pc q v n b A av) av := ⟨sg_blind, fun U hU hW => ⟨rfl, by show sg_S _ _ _ _ _ U U.heap; rw [hU]; exact sg_S.moved hW.alike h⟩⟩
theorem sg_preV {q v n : Nat} {b : List Int32} {A : Nat → Prop} {av : List Value} (h : sg_S q v n b A s s.heap) : PreV s s.heap "java/lang/String" q (sg_Pc q v n b A (.ref q :: av)) av := by
  obtain ⟨cell, h1, h2, h3, _⟩ := h.1
  exact ⟨sg_blind, ⟨cell, h1, h2, h3⟩, fun U hU hW => ⟨rfl, by show sg_S _ _ _ _ _ U U.heap; rw [hU]; exact sg_S.moved hW.alike h⟩⟩
end Sg
section Sm
variable (l : Launch) {q v n : Nat} {b : List Int32} {A : Nat → Prop}
set_option maxHeartbeats 4000000 in
theorem m_cod : Met l sy_cod (sg_ws sy_cod prog_16_method_152_code 1 (some .byte)) (sg_rm 0 0) (sg_Pc q v n b A [.ref q]) (sg_Q (some (.int 0))) 0 0 (fun _ => False) := by
  refine Met.ofW (cc := prog_16_method_152_code) (maxL := 1) (ret := some .byte) (by decide) rfl ?_
  intro p e s m args below meth c s₁ B hml hv
  obtain ⟨rfl, hT⟩ := hv
  have hts := fun w (hw : w ∈ gc_tb) => atoms_spec (ws := sg_ws sy_cod prog_16_method_152_code 1 (some .byte)) B.pre w (List.mem_cons_of_mem _ hw)
  have hown : s.vm.findClass "java/lang/String" = some m.cls := findClass_of_methodNamed B.named
  have hx := B.exec
  have hb := B.bytes
  have hl := lv_entry ([.ref q]) (n := 1) (Nat.le_of_ble_eq_true rfl)
  rw [lg_entry_eq]
  generalize (lg_sl ([.ref q]) ++ List.replicate (1 - (lg_sl ([.ref q])).length) Slot.unset).toArray = ls at hl ⊢
  have hl : lv_has ls 1 [(0, .ref q)] := hl
  refine va_gets hx hb hT.2.2.2.2.1 va_S.rf hown (hts _ sw_f_cs) (fun _ h9 => h9) sd_cod_0 ?_
  refine lv_if_eq (tgt := 13) hx hb sd_cod_3 (by decide) (fun h => absurd h (by decide)) (fun _ => ?_)
  refine lv_aload_n hx hb sd_cod_6 rfl (lv_at hl 0 rfl) ?_
  refine vk_getf hx hb hT.2.1 va_S.rf hown (hts _ sw_f_co) (fun _ h9 => h9) sd_cod_7 ?_
  refine lv_goto (tgt := 14) hx hb sd_cod_10 (by decide) ?_
  exact W.zret (ty := .byte) hx hb B.returns rfl (fun t ht hW => ⟨rfl, ht⟩) (fun q hq => absurd hq (by simp)) sd_cod_14
set_option maxHeartbeats 4000000 in
theorem m_lat : Met l sy_lat (sg_ws sy_lat prog_16_method_154_code 1 (some .boolean)) (sg_rm 0 0) (sg_Pc q v n b A [.ref q]) (sg_Q (some (.int 1))) 0 0 (fun _ => False) := by
  refine Met.ofW (cc := prog_16_method_154_code) (maxL := 1) (ret := some .boolean) (by decide) rfl ?_
  intro p e s m args below meth c s₁ B hml hv
  obtain ⟨rfl, hT⟩ := hv
  have hts := fun w (hw : w ∈ gc_tb) => atoms_spec (ws := sg_ws sy_lat prog_16_method_154_code 1 (some .boolean)) B.pre w (List.mem_cons_of_mem _ hw)
  have hown : s.vm.findClass "java/lang/String" = some m.cls := findClass_of_methodNamed B.named
  have hx := B.exec
  have hb := B.bytes
  have hl := lv_entry ([.ref q]) (n := 1) (Nat.le_of_ble_eq_true rfl)
  rw [lg_entry_eq]
  generalize (lg_sl ([.ref q]) ++ List.replicate (1 - (lg_sl ([.ref q])).length) Slot.unset).toArray = ls at hl ⊢
  have hl : lv_has ls 1 [(0, .ref q)] := hl
  refine va_gets hx hb hT.2.2.2.2.1 va_S.rf hown (hts _ sw_f_cs) (fun _ h9 => h9) sd_lat_0 ?_
  refine lv_if_eq (tgt := 17) hx hb sd_lat_3 (by decide) (fun h => absurd h (by decide)) (fun _ => ?_)
  refine lv_aload_n hx hb sd_lat_6 rfl (lv_at hl 0 rfl) ?_
  refine vk_getf hx hb hT.2.1 va_S.rf hown (hts _ sw_f_co) (fun _ h9 => h9) sd_lat_7 ?_
  refine lv_if_ne (tgt := 17) hx hb sd_lat_10 (by decide) (fun h => absurd rfl h) (fun _ => ?_)
  refine lv_iconst (v := 1) hx hb sd_lat_13 (by decide) ?_
  refine lv_goto (tgt := 18) hx hb sd_lat_14 (by decide) ?_
  exact W.zret (ty := .boolean) hx hb B.returns rfl (fun t ht hW => ⟨rfl, ht⟩) (fun q hq => absurd hq (by simp)) sd_lat_18
theorem sg_shr (x : Int32) : x >>> ((0 : Int32) &&& 31) = x := by
  rw [show (0 : Int32) &&& 31 = 0 by decide]
  simp
set_option maxHeartbeats 4000000 in
theorem m_len : Met l sy_len (sg_ws sy_len prog_16_method_54_code 1 (some .int)) (sg_rm 1 20) (sg_Pc q v n b A [.ref q]) (sg_Q (some (.int (nI n)))) 0 0 (fun _ => False) := by
  refine Met.ofW (cc := prog_16_method_54_code) (maxL := 1) (ret := some .int) (by decide) rfl ?_
  intro p e s m args below meth c s₁ B hml hv
  obtain ⟨rfl, hT⟩ := hv
  have hts := fun w (hw : w ∈ gc_tb) => atoms_spec (ws := sg_ws sy_len prog_16_method_54_code 1 (some .int)) B.pre w (List.mem_cons_of_mem _ hw)
  have hown : s.vm.findClass "java/lang/String" = some m.cls := findClass_of_methodNamed B.named
  have hx := B.exec
  have hb := B.bytes
  have hl := lv_entry ([.ref q]) (n := 1) (Nat.le_of_ble_eq_true rfl)
  rw [lg_entry_eq]
  generalize (lg_sl ([.ref q]) ++ List.replicate (1 - (lg_sl ([.ref q])).length) Slot.unset).toArray = ls at hl ⊢
  have hl : lv_has ls 1 [(0, .ref q)] := hl
  refine lv_aload_n hx hb sd_len_0 rfl (lv_at hl 0 rfl) ?_
  refine vk_getf hx hb hT.2.2.1 va_S.rf hown (hts _ sw_f_va) (fun _ h9 => h9) sd_len_1 ?_
  refine va_tlen (v := nI n) hx hb hT.2.2.2.1 va_S.rf rfl sd_len_4 ?_
  refine lv_aload_n hx hb sd_len_5 rfl (lv_at hl 0 rfl) ?_
  refine sg_call (va_runV (As := []) (rest := [.int (nI n)]) (C := "java/lang/String") (n := 0) ⟨hx, hb, hml, hown, hts⟩ (m_cod l) ⟨callB_of 0 hts (sg_good sw_code_cod) rfl rfl rfl (hts _ sw_ini_S) (hts _ sw_l_cod) ⟨by decide, by decide, by decide +kernel⟩ ⟨Nat.le_of_ble_eq_true rfl, Nat.le_of_ble_eq_true rfl⟩, hts _ sw_inst_cod, hts _ sw_sel_cod⟩ (sg_preV hT) rfl rfl hl.1 rfl (lv_room (Nat.le_of_ble_eq_true rfl)) sd_len_6 ⟨Nat.zero_le _, Nat.zero_le _⟩) ?_
  refine lv_ishr hx hb sd_len_9 ?_
  rw [sg_shr]
  exact W.iret hx hb B.returns (fun t ht hW => ⟨rfl, ht⟩) (fun q hq => absurd hq (by simp)) sd_len_10
set_option maxHeartbeats 4000000 in
theorem m_pre {i n : Int32} {w : Value} (hw : w = .null ∨ ∃ t, w = .ref t) (h0 : ¬ i < 0) (hi : i < n) : Met l sy_pre (sg_ws sy_pre prog_21_method_11_code 3 (some .int)) (sg_rm 0 0) (va_Pc [.int i, .int n, w] (fun _ => True)) (sg_Q (some (.int i))) 0 0 (fun _ => False) := by
  refine Met.ofW (cc := prog_21_method_11_code) (maxL := 3) (ret := some .int) (by decide) rfl ?_
  intro p e s m args below meth c s₁ B hml hv
  obtain ⟨rfl, -⟩ := hv
  have hx := B.exec
  have hb := B.bytes
  have hlen : (lg_sl ([.int i, .int n, w])).length ≤ 3 := by
    rcases hw with rfl | ⟨t, rfl⟩ <;> exact Nat.le_of_ble_eq_true rfl
  have hl := lv_entry ([.int i, .int n, w]) (n := 3) hlen
  rw [lg_entry_eq]
  generalize (lg_sl ([.int i, .int n, w]) ++ List.replicate (3 - (lg_sl ([.int i, .int n, w])).length) Slot.unset).toArray = ls at hl ⊢
  have hl : lv_has ls 3 [(0, .int i), (1, .int n), (2, w)] := hl
  refine lv_iload_n hx hb sd_pre_0 rfl (lv_at hl 0 rfl) ?_
  refine lv_if_lt (tgt := 9) hx hb sd_pre_1 (by decide) (fun h => absurd h h0) (fun _ => ?_)
  refine lv_iload_n hx hb sd_pre_4 rfl (lv_at hl 0 rfl) ?_
  refine lv_iload_n hx hb sd_pre_5 rfl (lv_at hl 1 rfl) ?_
  refine lv_icmp_lt (tgt := 16) hx hb sd_pre_6 (by decide) (fun _ => ?_) (fun h => absurd hi h)
  refine lv_iload_n hx hb sd_pre_16 rfl (lv_at hl 0 rfl) ?_
  exact W.iret hx hb B.returns (fun t ht hW => ⟨rfl, ht⟩) (fun q hq => absurd hq (by simp)) sd_pre_17
theorem sg_blT {av : List Value} : FrameBlind (va_Pc av (fun _ => True)) := fun a U g mk h => ⟨h.1, trivial⟩
set_option maxHeartbeats 4000000 in
theorem m_chk {i k : Int32} (h0 : ¬ i < 0) (hi : i < k) : Met l sy_chk (sg_ws sy_chk prog_16_method_155_code 2 none) (sg_rm 1 22) (sg_Pc q v n b A [.int i, .int k]) (sg_Q none) 0 0 (fun _ => False) := by
  refine Met.ofW (cc := prog_16_method_155_code) (maxL := 2) (ret := none) (by decide) rfl ?_
  intro p e s m args below meth c s₁ B hml hv
  obtain ⟨rfl, hT⟩ := hv
  have hts := fun w (hw : w ∈ gc_tb) => atoms_spec (ws := sg_ws sy_chk prog_16_method_155_code 2 none) B.pre w (List.mem_cons_of_mem _ hw)
  have hown : s.vm.findClass "java/lang/String" = some m.cls := findClass_of_methodNamed B.named
  have hx := B.exec
  have hb := B.bytes
  have hl := lv_entry ([.int i, .int k]) (n := 2) (Nat.le_of_ble_eq_true rfl)
  rw [lg_entry_eq]
  generalize (lg_sl ([.int i, .int k]) ++ List.replicate (2 - (lg_sl ([.int i, .int k])).length) Slot.unset).toArray = ls at hl ⊢
  have hl : lv_has ls 2 [(0, .int i), (1, .int k)] := hl
  refine lv_iload_n hx hb sd_chk_0 rfl (lv_at hl 0 rfl) ?_
  refine lv_iload_n hx hb sd_chk_1 rfl (lv_at hl 1 rfl) ?_
  have key : ∀ w : Value, (w = .null ∨ ∃ t, w = .ref t) → va_Z "jdk/internal/util/Preconditions" "SIOOBE_FORMATTER" "Ljava/util/function/BiFunction;" w A s s.heap → W p l e (sg_rm 1 22) s m [Value.int i, Value.int k].toArray below meth c s.heap [] 0 0 (MQ below (sg_Q none) [Value.int i, Value.int k].toArray s 0 0 (fun _ => False)) (F0 m 2 ls [.int k, .int i]) := by
    intro w hw hZ
    refine va_gets hx hb hZ va_S.rf hown (hts _ sw_f_sf) (fun _ h9 => h9) sd_chk_2 ?_
    refine sg_call (va_runS (As := [.int i, .int k, w]) (rest := []) (n := 3) ⟨hx, hb, hml, hown, hts⟩ (m_pre l hw h0 hi) ⟨callB_of 3 hts (sg_good sw_code_pre) rfl rfl rfl (hts _ sw_ini_P) (hts _ sw_l_pre) ⟨by decide, by decide, by decide +kernel⟩ ⟨Nat.le_of_ble_eq_true rfl, Nat.le_of_ble_eq_true rfl⟩, hts _ sw_stat_pre⟩ ⟨sg_blT, fun U hU hW => ⟨rfl, trivial⟩⟩ rfl rfl hl.1 rfl (lv_room (Nat.le_of_ble_eq_true rfl)) sd_chk_5 ⟨Nat.zero_le _, Nat.zero_le _⟩) ?_
    refine lv_pop hx hb sd_chk_8 rfl ?_
    exact W.vret hx hb B.returns (fun t ht hW => ⟨rfl, ht⟩) (fun q hq => absurd hq (by simp)) sd_chk_9
  rcases hT.2.2.2.2.2 with h | ⟨t, h⟩
  · exact key _ (Or.inl rfl) h
  · exact key _ (Or.inr ⟨t, rfl⟩) h
/-- the k-th sign of a text -/
def sg_c (b : List Int32) (k : Nat) : Int32 := ((b.getD k 0 &&& 255).toUInt32 % 65536).toInt32
set_option maxHeartbeats 4000000 in
theorem m_l1c {k : Nat} (hk : k < n) (hn : n < 2 ^ 31) (hc : narrow .char (.int (sg_c b k)) = .int (sg_c b k)) : Met l sy_l1c (sg_ws sy_l1c prog_17_method_2_code 2 (some .char)) (sg_rm 2 43) (sg_Pc q v n b A [.ref v, .int (nI k)]) (sg_Q (some (.int (sg_c b k)))) 0 0 (fun _ => False) := by
  refine Met.ofW (cc := prog_17_method_2_code) (maxL := 2) (ret := some .char) (by decide) rfl ?_
  intro p e s m args below meth c s₁ B hml hv
  obtain ⟨rfl, hT⟩ := hv
  have hts := fun w (hw : w ∈ gc_tb) => atoms_spec (ws := sg_ws sy_l1c prog_17_method_2_code 2 (some .char)) B.pre w (List.mem_cons_of_mem _ hw)
  have hown : s.vm.findClass "java/lang/StringLatin1" = some m.cls := findClass_of_methodNamed B.named
  have hx := B.exec
  have hb := B.bytes
  have hl := lv_entry ([.ref v, .int (nI k)]) (n := 2) (Nat.le_of_ble_eq_true rfl)
  rw [lg_entry_eq]
  generalize (lg_sl ([.ref v, .int (nI k)]) ++ List.replicate (2 - (lg_sl ([.ref v, .int (nI k)])).length) Slot.unset).toArray = ls at hl ⊢
  have hl : lv_has ls 2 [(0, .ref v), (1, .int (nI k))] := hl
  refine lv_iload_n hx hb sd_l1c_0 rfl (lv_at hl 1 rfl) ?_
  refine lv_aload_n hx hb sd_l1c_1 rfl (lv_at hl 0 rfl) ?_
  refine va_tlen (v := nI n) hx hb hT.2.2.2.1 va_S.rf rfl sd_l1c_2 ?_
  refine sg_call (va_runS (As := [.int (nI k), .int (nI n)]) (rest := []) (n := 2) ⟨hx, hb, hml, hown, hts⟩ (m_chk (q := q) (v := v) (n := n) (b := b) (A := A) l (nI_pos (by omega)) (nI_lt hk hn)) ⟨callB_of 2 hts (sg_good sw_code_chk) rfl rfl rfl (hts _ sw_ini_S) (hts _ sw_l_chk) ⟨by decide, by decide, by decide +kernel⟩ ⟨Nat.le_of_ble_eq_true rfl, Nat.le_of_ble_eq_true rfl⟩, hts _ sw_stat_chk⟩ (sg_pre hT) rfl rfl hl.1 rfl (lv_room (Nat.le_of_ble_eq_true rfl)) sd_l1c_3 ⟨Nat.zero_le _, Nat.zero_le _⟩) ?_
  refine lv_aload_n hx hb sd_l1c_6 rfl (lv_at hl 0 rfl) ?_
  refine lv_iload_n hx hb sd_l1c_7 rfl (lv_at hl 1 rfl) ?_
  refine va_tb (v := .int (b.getD k 0)) hx hb hT.2.2.2.1 va_S.rf (vp_in_nI hk hn) (by rw [nI_clamp (by omega)]) sd_l1c_8 ?_
  refine lv_sipush (v := 255) hx hb sd_l1c_9 (by decide) ?_
  refine lv_iand hx hb sd_l1c_12 ?_
  refine lv_i2c (v := sg_c b k) hx hb sd_l1c_13 rfl ?_
  exact W.zret (ty := .char) hx hb B.returns hc (fun t ht hW => ⟨rfl, ht⟩) (fun q hq => absurd hq (by simp)) sd_l1c_14
set_option maxHeartbeats 4000000 in
theorem m_cha {k : Nat} (hk : k < n) (hn : n < 2 ^ 31) (hc : narrow .char (.int (sg_c b k)) = .int (sg_c b k)) : Met l sy_cha (sg_ws sy_cha prog_16_method_56_code 2 (some .char)) (sg_rm 3 64) (sg_Pc q v n b A [.ref q, .int (nI k)]) (sg_Q (some (.int (sg_c b k)))) 0 0 (fun _ => False) := by
  refine Met.ofW (cc := prog_16_method_56_code) (maxL := 2) (ret := some .char) (by decide) rfl ?_
  intro p e s m args below meth c s₁ B hml hv
  obtain ⟨rfl, hT⟩ := hv
  have hts := fun w (hw : w ∈ gc_tb) => atoms_spec (ws := sg_ws sy_cha prog_16_method_56_code 2 (some .char)) B.pre w (List.mem_cons_of_mem _ hw)
  have hown : s.vm.findClass "java/lang/String" = some m.cls := findClass_of_methodNamed B.named
  have hx := B.exec
  have hb := B.bytes
  have hl := lv_entry ([.ref q, .int (nI k)]) (n := 2) (Nat.le_of_ble_eq_true rfl)
  rw [lg_entry_eq]
  generalize (lg_sl ([.ref q, .int (nI k)]) ++ List.replicate (2 - (lg_sl ([.ref q, .int (nI k)])).length) Slot.unset).toArray = ls at hl ⊢
  have hl : lv_has ls 2 [(0, .ref q), (1, .int (nI k))] := hl
  refine lv_aload_n hx hb sd_cha_0 rfl (lv_at hl 0 rfl) ?_
  refine sg_call (va_runV (As := []) (rest := []) (C := "java/lang/String") (n := 0) ⟨hx, hb, hml, hown, hts⟩ (m_lat l) ⟨callB_of 0 hts (sg_good sw_code_lat) rfl rfl rfl (hts _ sw_ini_S) (hts _ sw_l_lat) ⟨by decide, by decide, by decide +kernel⟩ ⟨Nat.le_of_ble_eq_true rfl, Nat.le_of_ble_eq_true rfl⟩, hts _ sw_inst_lat, hts _ sw_sel_lat⟩ (sg_preV hT) rfl rfl hl.1 rfl (lv_room (Nat.le_of_ble_eq_true rfl)) sd_cha_1 ⟨Nat.zero_le _, Nat.zero_le _⟩) ?_
  refine lv_if_eq (tgt := 16) hx hb sd_cha_4 (by decide) (fun h => absurd h (by decide)) (fun _ => ?_)
  refine lv_aload_n hx hb sd_cha_7 rfl (lv_at hl 0 rfl) ?_
  refine vk_getf hx hb hT.2.2.1 va_S.rf hown (hts _ sw_f_va) (fun _ h9 => h9) sd_cha_8 ?_
  refine lv_iload_n hx hb sd_cha_11 rfl (lv_at hl 1 rfl) ?_
  refine sg_call (va_runS (As := [.ref v, .int (nI k)]) (rest := []) (n := 2) ⟨hx, hb, hml, hown, hts⟩ (m_l1c (q := q) (v := v) (n := n) (b := b) (A := A) l hk hn hc) ⟨callB_of 2 hts (sg_good sw_code_l1c) rfl rfl rfl (hts _ sw_ini_L) (hts _ sw_l_l1c) ⟨by decide, by decide, by decide +kernel⟩ ⟨Nat.le_of_ble_eq_true rfl, Nat.le_of_ble_eq_true rfl⟩, hts _ sw_stat_l1c⟩ (sg_pre hT) rfl rfl hl.1 rfl (lv_room (Nat.le_of_ble_eq_true rfl)) sd_cha_12 ⟨Nat.zero_le _, Nat.zero_le _⟩) ?_
  exact W.zret (ty := .char) hx hb B.returns hc (fun t ht hW => ⟨rfl, ht⟩) (fun q hq => absurd hq (by simp)) sd_cha_15
def sg_l (w : Int64) (x : Int32) : Int64 := w * 32 + (x - 97 + 1).toInt64
set_option maxHeartbeats 4000000 in
theorem m_wit {w : Int64} {x : Int32} : Met l sy_wit (sg_ws sy_wit prog_10_method_3_code 3 (some .long)) (sg_rm 0 0) (va_Pc [.long w, .int x] (fun _ => True)) (sg_Q (some (.long (sg_l w x)))) 0 0 (fun _ => False) := by
  refine Met.ofW (cc := prog_10_method_3_code) (maxL := 3) (ret := some .long) (by decide) rfl ?_
  intro p e s m args below meth c s₁ B hml hv
  obtain ⟨rfl, -⟩ := hv
  have hts := fun w (hw : w ∈ gc_tb) => atoms_spec (ws := sg_ws sy_wit prog_10_method_3_code 3 (some .long)) B.pre w (List.mem_cons_of_mem _ hw)
  have hown : s.vm.findClass "GroundCourt$Tokens" = some m.cls := findClass_of_methodNamed B.named
  have hx := B.exec
  have hb := B.bytes
  have hl := lv_entry ([.long w, .int x]) (n := 3) (Nat.le_of_ble_eq_true rfl)
  rw [lg_entry_eq]
  generalize (lg_sl ([.long w, .int x]) ++ List.replicate (3 - (lg_sl ([.long w, .int x])).length) Slot.unset).toArray = ls at hl ⊢
  have hl : lv_has ls 3 [(0, .long w), (2, .int x)] := hl
  refine lv_lload_n hx hb sd_wit_0 rfl (lv_at hl 0 rfl) ?_
  refine lv_ldc2 hx hb hown (hts _ sw_c_32) sd_wit_1 ?_
  refine lv_lmul hx hb sd_wit_4 ?_
  refine lv_iload_n hx hb sd_wit_5 rfl (lv_at hl 1 rfl) ?_
  refine lv_bipush (v := 97) hx hb sd_wit_6 (by decide) ?_
  refine lv_isub hx hb sd_wit_8 ?_
  refine lv_iconst (v := 1) hx hb sd_wit_9 (by decide) ?_
  refine lv_iadd hx hb sd_wit_10 ?_
  refine lv_i2l hx hb sd_wit_11 rfl ?_
  refine lv_ladd hx hb sd_wit_12 ?_
  exact W.lret hx hb B.returns (fun t ht hW => ⟨rfl, ht⟩) (fun q hq => absurd hq (by simp)) sd_wit_13
def sg_w (b : List Int32) : Nat → Int64
  | 0 => 0
  | k + 1 => sg_l (sg_w b k) (sg_c b k)
set_option maxHeartbeats 4000000 in
theorem m_wor (hn : n < 2 ^ 31) (hc : ∀ k, k < n → narrow .char (.int (sg_c b k)) = .int (sg_c b k)) : Met l sy_wor (sg_ws sy_wor prog_10_method_2_code 4 (some .long)) (sg_rm 4 100) (sg_Pc q v n b A [.ref q]) (sg_Q (some (.long (sg_w b n)))) 0 0 (fun _ => False) := by
  refine Met.ofW (cc := prog_10_method_2_code) (maxL := 4) (ret := some .long) (by decide) rfl ?_
  intro p e s m args below meth c s₁ B hml hv
  obtain ⟨rfl, hT⟩ := hv
  have hts := fun w (hw : w ∈ gc_tb) => atoms_spec (ws := sg_ws sy_wor prog_10_method_2_code 4 (some .long)) B.pre w (List.mem_cons_of_mem _ hw)
  have hown : s.vm.findClass "GroundCourt$Tokens" = some m.cls := findClass_of_methodNamed B.named
  have hx := B.exec
  have hb := B.bytes
  have hl := lv_entry ([.ref q]) (n := 4) (Nat.le_of_ble_eq_true rfl)
  rw [lg_entry_eq]
  generalize (lg_sl ([.ref q]) ++ List.replicate (4 - (lg_sl ([.ref q])).length) Slot.unset).toArray = ls at hl ⊢
  have hl : lv_has ls 4 [(0, .ref q)] := hl
  refine lv_lconst (v := 0) hx hb sd_wor_0 (by decide) ?_
  refine lv_lstore_n (lv' := [(1, .long 0), (0, .ref q)]) hx hb sd_wor_1 rfl hl (by decide) rfl (fun ls hl => ?_)
  refine lv_iconst (v := 0) hx hb sd_wor_2 (by decide) ?_
  refine lv_istore_n (lv' := [(3, .int 0), (1, .long 0), (0, .ref q)]) hx hb sd_wor_3 rfl hl (by decide) rfl (fun ls hl => ?_)
  have loop : ∀ j k (ls : Array Slot), k + j = n → lv_has ls 4 [(3, .int (nI k)), (1, .long (sg_w b k)), (0, .ref q)] → W p l e (sg_rm 4 100) s m [Value.ref q].toArray below meth c s.heap [] 0 0 (MQ below (sg_Q (some (.long (sg_w b n)))) [Value.ref q].toArray s 0 0 (fun _ => False)) (F0 m 4 ls []) := by
    intro j
    induction j with
    | zero =>
      intro k ls hk hl
      obtain rfl : k = n := by omega
      refine lv_iload_n hx hb sd_wor_4 rfl (lv_at hl 0 rfl) ?_
      refine lv_aload_n hx hb sd_wor_5 rfl (lv_at hl 2 rfl) ?_
      refine sg_call (va_runV (As := []) (rest := [.int (nI k)]) (C := "java/lang/String") (n := 0) ⟨hx, hb, hml, hown, hts⟩ (m_len l) ⟨callB_of 0 hts (sg_good sw_code_len) rfl rfl rfl (hts _ sw_ini_S) (hts _ sw_l_len) ⟨by decide, by decide, by decide +kernel⟩ ⟨Nat.le_of_ble_eq_true rfl, Nat.le_of_ble_eq_true rfl⟩, hts _ sw_inst_len, hts _ sw_sel_len⟩ (sg_preV hT) rfl rfl hl.1 rfl (lv_room (Nat.le_of_ble_eq_true rfl)) sd_wor_6 ⟨Nat.zero_le _, Nat.zero_le _⟩) ?_
      refine lv_icmp_ge (tgt := 28) hx hb sd_wor_9 (by decide) (fun _ => ?_) (fun h => absurd (Int32.le_refl _) h)
      refine lv_lload_n hx hb sd_wor_28 rfl (lv_at hl 1 rfl) ?_
      exact W.lret hx hb B.returns (fun t ht hW => ⟨rfl, ht⟩) (fun q hq => absurd hq (by simp)) sd_wor_29
    | succ j ih =>
      intro k ls hk hl
      refine lv_iload_n hx hb sd_wor_4 rfl (lv_at hl 0 rfl) ?_
      refine lv_aload_n hx hb sd_wor_5 rfl (lv_at hl 2 rfl) ?_
      refine sg_call (va_runV (As := []) (rest := [.int (nI k)]) (C := "java/lang/String") (n := 0) ⟨hx, hb, hml, hown, hts⟩ (m_len l) ⟨callB_of 0 hts (sg_good sw_code_len) rfl rfl rfl (hts _ sw_ini_S) (hts _ sw_l_len) ⟨by decide, by decide, by decide +kernel⟩ ⟨Nat.le_of_ble_eq_true rfl, Nat.le_of_ble_eq_true rfl⟩, hts _ sw_inst_len, hts _ sw_sel_len⟩ (sg_preV hT) rfl rfl hl.1 rfl (lv_room (Nat.le_of_ble_eq_true rfl)) sd_wor_6 ⟨Nat.zero_le _, Nat.zero_le _⟩) ?_
      refine lv_icmp_ge (tgt := 28) hx hb sd_wor_9 (by decide) (fun h => absurd h (nI_ge (by omega) (by omega))) (fun _ => ?_)
      refine lv_lload_n hx hb sd_wor_12 rfl (lv_at hl 1 rfl) ?_
      refine lv_aload_n hx hb sd_wor_13 rfl (lv_at hl 2 rfl) ?_
      refine lv_iload_n hx hb sd_wor_14 rfl (lv_at hl 0 rfl) ?_
      refine sg_call (va_runV (As := [.int (nI k)]) (rest := [.long (sg_w b k)]) (C := "java/lang/String") (n := 1) ⟨hx, hb, hml, hown, hts⟩ (m_cha l (by omega) hn (hc k (by omega))) ⟨callB_of 1 hts (sg_good sw_code_cha) rfl rfl rfl (hts _ sw_ini_S) (hts _ sw_l_cha) ⟨by decide, by decide, by decide +kernel⟩ ⟨Nat.le_of_ble_eq_true rfl, Nat.le_of_ble_eq_true rfl⟩, hts _ sw_inst_cha, hts _ sw_sel_cha⟩ (sg_preV hT) rfl rfl hl.1 rfl (lv_room (Nat.le_of_ble_eq_true rfl)) sd_wor_15 ⟨Nat.zero_le _, Nat.zero_le _⟩) ?_
      refine sg_call (va_runS (As := [.long (sg_w b k), .int (sg_c b k)]) (rest := []) (n := 2) ⟨hx, hb, hml, hown, hts⟩ (m_wit l) ⟨callB_of 2 hts (sg_good sw_code_wit) rfl rfl rfl (hts _ sw_ini_T) (hts _ sw_l_wit) ⟨by decide, by decide, by decide +kernel⟩ ⟨Nat.le_of_ble_eq_true rfl, Nat.le_of_ble_eq_true rfl⟩, hts _ sw_stat_wit⟩ ⟨sg_blT, fun U hU hW => ⟨rfl, trivial⟩⟩ rfl rfl hl.1 rfl (lv_room (Nat.le_of_ble_eq_true rfl)) sd_wor_18 ⟨Nat.zero_le _, Nat.zero_le _⟩) ?_
      refine lv_lstore_n (lv' := [(1, .long (sg_w b (k + 1))), (3, .int (nI k)), (0, .ref q)]) hx hb sd_wor_21 rfl hl (by decide) rfl (fun ls hl => ?_)
      refine lv_iinc (k := 1) (v := nI (k + 1)) (lv' := [(3, .int (nI (k + 1))), (1, .long (sg_w b (k + 1))), (0, .ref q)]) hx hb sd_wor_22 hl rfl (by rw [nI_succ]; rfl) (by decide) rfl (fun ls hl => ?_)
      refine lv_goto (tgt := 4) hx hb sd_wor_25 (by decide) ?_
      exact ih (k + 1) ls (by omega) hl
  exact loop n 0 ls (by omega) hl
end Sm
