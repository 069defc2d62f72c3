/-! The law's loop. -/
theorem n_le {a : gA} {L lv v : Nat} {st : gc_St} (h : XI a L lv v st) : gc_n st ≤ 1537 := by
  have h1 : cnt st := h.2.1.2.2.2.2.2.2.2.2.2
  unfold cnt at h1
  split at h1 <;> omega
theorem nI_m6 {L : Nat} (hL : L ≤ 384) {k : Nat} (hk : k ≤ 400) : nI L - 6 < nI k ↔ L < k + 6 := by
  have e2 : (nI k).toInt = (k : Int) := by
    show (Int32.ofNat k).toInt = _
    rw [Int32.toInt_ofNat_of_lt (by omega)]
  rw [Int32.lt_iff_toInt_lt, show (6 : Int32) = nI 6 by decide, pk_sub_toInt (by omega) (by omega), e2]
  omega
theorem sl_ok {n n' k sl sl' : Nat} (h1 : sl ≤ 209668 + 256 * n + 14336 * k) (h2 : n ≤ n') (h3 : sl' ≤ sl + 256 * (n' - n) + 14336) : sl' ≤ 209668 + 256 * n' + 14336 * (k + 1) := by
  obtain ⟨d, rfl⟩ := Nat.exists_eq_add_of_le h2
  rw [Nat.add_sub_cancel_left] at h3
  rw [Nat.mul_add, Nat.mul_add]
  refine Nat.le_trans h3 (Nat.le_trans (Nat.add_le_add_right (Nat.add_le_add_right h1 _) _) (Nat.le_of_eq ?_))
  rw [show 14336 * 1 = 14336 from rfl]
  ac_rfl
section Ll
variable {p : Program} {l : Launch} {e : Env} {s : State} {m : MethodId} {below : List Frame} {meth : Method} {c : Code} {D : va_G} {cy : Nat → ClassId} {b L : Nat} {xs : Nat → Int32}
set_option maxHeartbeats 4000000 in
theorem lw_loop (hP : gc_okP) (C : lw_C D cy p s m c b L xs) (hr : meth.sig.returnType = ret) (hlocks : meth.locks = false) (hL : L ≤ 384) : ∀ (n k : Nat) (st : gc_St) (H : Heap) (locs : List Loc) (cells slots : Nat) (a : gA) (L' lv v : Nat) (ls : Array Slot), k + n = 65 → 6 * k ≤ L → XI a L' lv v st → v ≤ 1 + k → gc_Wo D cy s.heap.size (gc_bT st) H → va_S (gc_A s.heap.size) s.heap H locs → cells = 116 + gc_n st → slots ≤ 209668 + 256 * gc_n st + 14336 * k → lw_L s.heap.size b (6 * k) ls → W p l e room_1 s m #[Value.ref b] below meth c H locs cells slots (lw_Z below #[Value.ref b] s) (F0 m 18 ls []) := by
  obtain ⟨hx, hb, hml, hown, hts, hX0, hbl, hK, hN⟩ := id C
  intro n
  induction n with
  | zero =>
    intro k st H locs cells slots a L' lv v ls hk hk6
    omega
  | succ n ih =>
    intro k st H locs cells slots a L' lv v ls hk hk6 hX hv hWo hS hc hs hl
    have hn := n_le hX
    have hrm := lw_rm
    refine lv_iload_n hx hb lqd_18 rfl (lv_at hl 0 rfl) ?_
    refine lv_aload_n hx hb lqd_19 rfl (lv_at hl 3 rfl) ?_
    refine va_slen hx hb hX0 hbl (Nat.not_le.mpr hbl) hS lqd_20 ?_
    refine lv_bipush (v := 6) hx hb lqd_21 (by decide) ?_
    refine lv_isub hx hb lqd_23 ?_
    refine lv_icmp_gt (tgt := 1160) hx hb lqd_24 (by decide) (fun _ => ?_) (fun h => ?_)
    · refine lv_iconst (v := 1) hx hb lqd_1160 (by decide) ?_
      refine va_forget (fun q hq => hS.2.2 q hq) ?_
      refine W.widen (k := room_1.cells) (n := room_1.slots) (by omega) (by omega) ?_
      exact lw_ret hx hb hr hlocks lqd_1161
    · have hi : 6 * k + 6 ≤ L := by
        have : ¬ L < 6 * k + 6 := fun z => h ((nI_m6 (L := L) (k := 6 * k) hL (by omega)).mpr z)
        omega
      refine lv_aload_n hx hb lqd_27 rfl (lv_at hl 3 rfl) ?_
      refine lv_iload_n hx hb lqd_28 rfl (lv_at hl 0 rfl) ?_
      refine va_sld hx hb hX0 hbl (Nat.not_le.mpr hbl) hS (vp_in_nI (by omega) (by omega)) lqd_29 ?_
      refine lv_bipush (v := 31) hx hb lqd_30 (by decide) ?_
      refine lv_iand hx hb lqd_32 ?_
      have kk : lw_K p l e s m below meth c D cy b ls (lw_Z below #[Value.ref b] s) st v slots := by
        intro st' H' locs' cells' slots' a' L2 lv' v' hv' hX' hWo' hS' hc' hn' hs'
        refine lv_iinc (k := 0) (v := nI (6 * (k + 1))) (lv' := [(3, .int (nI (6 * (k + 1)))), (2, .ref (s.heap.size + 67)), (1, .ref (s.heap.size + 0)), (0, .ref b)]) hx hb lqd_1154 hl rfl (by rw [show Int32.ofInt 6 = nI 6 by decide, nI_add]; rfl) (by decide) rfl (fun ls hl => ?_)
        refine lv_goto (tgt := 18) hx hb lqd_1157 (by decide) ?_
        exact ih (k + 1) st' H' locs' cells' slots' a' L2 lv' v' ls (by omega) (by omega) hX' (by omega) hWo' hS' hc' (sl_ok hs hn' hs') hl
      obtain ⟨j, hj, ej⟩ := pk_andE (xs (nI (6 * k)).toNatClampNeg) (m := 31) 5 (by decide)
      rw [ej]
      match j, hj with
      | 0, _ =>
        refine lv_tableIn (x := nI 0) (off := 143) (tgt := 176) hx hb lqd_33 (by decide) (by decide) (by decide) (by decide) ?_
        exact lqc_0 hP C hL hl hi (by omega) hX hWo hS hc hn (by omega) kk
      | 1, _ =>
        refine lv_tableIn (x := nI 1) (off := 206) (tgt := 239) hx hb lqd_33 (by decide) (by decide) (by decide) (by decide) ?_
        exact lqc_1 hP C hL hl hi (by omega) hX hWo hS hc hn (by omega) kk
      | 2, _ =>
        refine lv_tableIn (x := nI 2) (off := 229) (tgt := 262) hx hb lqd_33 (by decide) (by decide) (by decide) (by decide) ?_
        exact lqc_2 hP C hL hl hi (by omega) hX hWo hS hc hn (by omega) kk
      | 3, _ =>
        refine lv_tableIn (x := nI 3) (off := 242) (tgt := 275) hx hb lqd_33 (by decide) (by decide) (by decide) (by decide) ?_
        exact lqc_3 hP C hL hl hi (by omega) hX hWo hS hc hn (by omega) kk
      | 4, _ =>
        refine lv_tableIn (x := nI 4) (off := 265) (tgt := 298) hx hb lqd_33 (by decide) (by decide) (by decide) (by decide) ?_
        exact lqc_4 hP C hL hl hi (by omega) hX hWo hS hc hn (by omega) kk
      | 5, _ =>
        refine lv_tableIn (x := nI 5) (off := 278) (tgt := 311) hx hb lqd_33 (by decide) (by decide) (by decide) (by decide) ?_
        exact lqc_5 hP C hL hl hi (by omega) hX hWo hS hc hn (by omega) kk
      | 6, _ =>
        refine lv_tableIn (x := nI 6) (off := 301) (tgt := 334) hx hb lqd_33 (by decide) (by decide) (by decide) (by decide) ?_
        exact lqc_6 hP C hL hl hi (by omega) hX hWo hS hc hn (by omega) kk
      | 7, _ =>
        refine lv_tableIn (x := nI 7) (off := 324) (tgt := 357) hx hb lqd_33 (by decide) (by decide) (by decide) (by decide) ?_
        exact lqc_7 hP C hL hl hi (by omega) hX hWo hS hc hn (by omega) kk
      | 8, _ =>
        refine lv_tableIn (x := nI 8) (off := 347) (tgt := 380) hx hb lqd_33 (by decide) (by decide) (by decide) (by decide) ?_
        exact lqc_8 hP C hL hl hi (by omega) hX hWo hS hc hn (by omega) kk
      | 9, _ =>
        refine lv_tableIn (x := nI 9) (off := 380) (tgt := 413) hx hb lqd_33 (by decide) (by decide) (by decide) (by decide) ?_
        exact lqc_9 hP C hL hl hi (by omega) hX hWo hS hc hn (by omega) kk
      | 10, _ =>
        refine lv_tableIn (x := nI 10) (off := 429) (tgt := 462) hx hb lqd_33 (by decide) (by decide) (by decide) (by decide) ?_
        exact lqc_10 hP C hL hl hi (by omega) hX hWo hS hc hn (by omega) kk
      | 11, _ =>
        refine lv_tableIn (x := nI 11) (off := 478) (tgt := 511) hx hb lqd_33 (by decide) (by decide) (by decide) (by decide) ?_
        exact lqc_11 hP C hL hl hi (by omega) hX hWo hS hc hn (by omega) kk
      | 12, _ =>
        refine lv_tableIn (x := nI 12) (off := 501) (tgt := 534) hx hb lqd_33 (by decide) (by decide) (by decide) (by decide) ?_
        exact lqc_12 hP C hL hl hi (by omega) hX hWo hS hc hn (by omega) kk
      | 13, _ =>
        refine lv_tableIn (x := nI 13) (off := 534) (tgt := 567) hx hb lqd_33 (by decide) (by decide) (by decide) (by decide) ?_
        exact lqc_13 hP C hL hl hi (by omega) hX hWo hS hc hn (by omega) kk
      | 14, _ =>
        refine lv_tableIn (x := nI 14) (off := 577) (tgt := 610) hx hb lqd_33 (by decide) (by decide) (by decide) (by decide) ?_
        exact lqc_14 hP C hL hl hi (by omega) hX hWo hS hc hn (by omega) kk
      | 15, _ =>
        refine lv_tableIn (x := nI 15) (off := 600) (tgt := 633) hx hb lqd_33 (by decide) (by decide) (by decide) (by decide) ?_
        exact lqc_15 hP C hL hl hi (by omega) hX hWo hS hc hn (by omega) kk
      | 16, _ =>
        refine lv_tableIn (x := nI 16) (off := 623) (tgt := 656) hx hb lqd_33 (by decide) (by decide) (by decide) (by decide) ?_
        exact lqc_16 hP C hL hl hi (by omega) hX hWo hS hc hn (by omega) kk
      | 17, _ =>
        refine lv_tableIn (x := nI 17) (off := 646) (tgt := 679) hx hb lqd_33 (by decide) (by decide) (by decide) (by decide) ?_
        exact lqc_17 hP C hL hl hi (by omega) hX hWo hS hc hn (by omega) kk
      | 18, _ =>
        refine lv_tableIn (x := nI 18) (off := 689) (tgt := 722) hx hb lqd_33 (by decide) (by decide) (by decide) (by decide) ?_
        exact lqc_18 hP C hL hl hi (by omega) hX hWo hS hc hn (by omega) kk
      | 19, _ =>
        refine lv_tableIn (x := nI 19) (off := 732) (tgt := 765) hx hb lqd_33 (by decide) (by decide) (by decide) (by decide) ?_
        exact lqc_19 hP C hL hl hi (by omega) hX hWo hS hc hn (by omega) kk
      | 20, _ =>
        refine lv_tableIn (x := nI 20) (off := 795) (tgt := 828) hx hb lqd_33 (by decide) (by decide) (by decide) (by decide) ?_
        exact lqc_20 hP C hL hl hi (by omega) hX hWo hS hc hn (by omega) kk
      | 21, _ =>
        refine lv_tableIn (x := nI 21) (off := 828) (tgt := 861) hx hb lqd_33 (by decide) (by decide) (by decide) (by decide) ?_
        exact lqc_21 hP C hL hl hi (by omega) hX hWo hS hc hn (by omega) kk
      | 22, _ =>
        refine lv_tableIn (x := nI 22) (off := 861) (tgt := 894) hx hb lqd_33 (by decide) (by decide) (by decide) (by decide) ?_
        exact lqc_22 hP C hL hl hi (by omega) hX hWo hS hc hn (by omega) kk
      | 23, _ =>
        refine lv_tableIn (x := nI 23) (off := 884) (tgt := 917) hx hb lqd_33 (by decide) (by decide) (by decide) (by decide) ?_
        exact lqc_23 hP C hL hl hi (by omega) hX hWo hS hc hn (by omega) kk
      | 24, _ =>
        refine lv_tableIn (x := nI 24) (off := 917) (tgt := 950) hx hb lqd_33 (by decide) (by decide) (by decide) (by decide) ?_
        exact lqc_24 hP C hL hl hi (by omega) hX hWo hS hc hn (by omega) kk
      | 25, _ =>
        refine lv_tableIn (x := nI 25) (off := 950) (tgt := 983) hx hb lqd_33 (by decide) (by decide) (by decide) (by decide) ?_
        exact lqc_25 hP C hL hl hi (by omega) hX hWo hS hc hn (by omega) kk
      | 26, _ =>
        refine lv_tableIn (x := nI 26) (off := 973) (tgt := 1006) hx hb lqd_33 (by decide) (by decide) (by decide) (by decide) ?_
        exact lqc_26 hP C hL hl hi (by omega) hX hWo hS hc hn (by omega) kk
      | 27, _ =>
        refine lv_tableIn (x := nI 27) (off := 996) (tgt := 1029) hx hb lqd_33 (by decide) (by decide) (by decide) (by decide) ?_
        exact lqc_27 hP C hL hl hi (by omega) hX hWo hS hc hn (by omega) kk
      | 28, _ =>
        refine lv_tableIn (x := nI 28) (off := 1019) (tgt := 1052) hx hb lqd_33 (by decide) (by decide) (by decide) (by decide) ?_
        exact lqc_28 hP C hL hl hi (by omega) hX hWo hS hc hn (by omega) kk
      | 29, _ =>
        refine lv_tableIn (x := nI 29) (off := 1052) (tgt := 1085) hx hb lqd_33 (by decide) (by decide) (by decide) (by decide) ?_
        exact lqc_29 hP C hL hl hi (by omega) hX hWo hS hc hn (by omega) kk
      | 30, _ =>
        refine lv_tableIn (x := nI 30) (off := 1075) (tgt := 1108) hx hb lqd_33 (by decide) (by decide) (by decide) (by decide) ?_
        exact lqc_30 hP C hL hl hi (by omega) hX hWo hS hc hn (by omega) kk
      | 31, _ =>
        refine lv_tableIn (x := nI 31) (off := 1098) (tgt := 1131) hx hb lqd_33 (by decide) (by decide) (by decide) (by decide) ?_
        exact lqc_31 hP C hL hl hi (by omega) hX hWo hS hc hn (by omega) kk
      | n + 32, h => omega
end Ll
