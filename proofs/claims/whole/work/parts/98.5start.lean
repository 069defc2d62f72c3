/-! What the start gives: the texts, the classes, the kinds of rows. -/
def fx : List Cond := flatC (Cond.and given_1 narrow_1)
abbrev ftm (i : Nat) : Term := Term.string "GroundCourt$Tokens" (tsI.getD i 0)
def fjj_ex : List Nat := [9, 19, 28, 41, 53, 66, 77, 90, 108, 124, 141, 157, 176, 196, 218, 240, 264, 289]
def fjj_co : List Nat := [10, 20, 29, 42, 54, 67, 78, 91, 109, 125, 142, 158, 177, 197, 219, 241, 265, 290]
def fjj_ar : List Nat := [11, 21, 30, 43, 55, 68, 79, 92, 110, 126, 143, 159, 178, 198, 220, 242, 266, 291]
def fjj_le : List Nat := [12, 22, 31, 44, 56, 69, 80, 93, 111, 127, 144, 160, 179, 199, 221, 243, 267, 292]
def fjj_el : List (List Nat) := [[13, 14, 15, 16, 17, 18], [23, 24, 25, 26], [32, 33, 34, 35, 36, 37, 38], [45, 46, 47, 48, 49], [57, 58, 59, 60, 61], [70, 71], [81, 82, 83], [94, 95, 96, 97, 98, 99, 100], [112, 113, 114, 115], [128, 129, 130, 131], [145, 146], [161, 162, 163, 164], [180, 181, 182, 183], [200, 201, 202, 203, 204], [222, 223, 224, 225], [244, 245, 246, 247, 248], [268, 269, 270, 271, 272], [293, 294, 295]]
def fjj_ne : List (List Nat) := [[], [27], [39, 40], [50, 51, 52], [62, 63, 64, 65], [72, 73, 74, 75, 76], [84, 85, 86, 87, 88, 89], [101, 102, 103, 104, 105, 106, 107], [116, 117, 118, 119, 120, 121, 122, 123], [132, 133, 134, 135, 136, 137, 138, 139, 140], [147, 148, 149, 150, 151, 152, 153, 154, 155, 156], [165, 166, 167, 168, 169, 170, 171, 172, 173, 174, 175], [184, 185, 186, 187, 188, 189, 190, 191, 192, 193, 194, 195], [205, 206, 207, 208, 209, 210, 211, 212, 213, 214, 215, 216, 217], [226, 227, 228, 229, 230, 231, 232, 233, 234, 235, 236, 237, 238, 239], [249, 250, 251, 252, 253, 254, 255, 256, 257, 258, 259, 260, 261, 262, 263], [273, 274, 275, 276, 277, 278, 279, 280, 281, 282, 283, 284, 285, 286, 287, 288], [296, 297, 298, 299, 300, 301, 302, 303, 304, 305, 306, 307, 308, 309, 310, 311, 312]]
set_option maxRecDepth 100000 in
theorem fx_ex : ∀ i, i < 18 → fx[fjj_ex.getD i 0]? = some (Cond.exactly (ftm i) "java/lang/String") := by decide +kernel
set_option maxRecDepth 100000 in
theorem fx_co : ∀ i, i < 18 → fx[fjj_co.getD i 0]? = some (Cond.eq (.field (ftm i) "java/lang/String" "coder" "B") (.int 0)) := by decide +kernel
set_option maxRecDepth 100000 in
theorem fx_ar : ∀ i, i < 18 → fx[fjj_ar.getD i 0]? = some (Cond.arrayOf (.field (ftm i) "java/lang/String" "value" "[B") .byte) := by decide +kernel
set_option maxRecDepth 100000 in
theorem fx_le : ∀ i, i < 18 → fx[fjj_le.getD i 0]? = some (Cond.eq (.length (.field (ftm i) "java/lang/String" "value" "[B")) (.int (Int32.ofNat (tsL.getD i 0)))) := by decide +kernel
set_option maxRecDepth 100000 in
theorem fx_el : ∀ i, i < 18 → ∀ j, j < tsL.getD i 0 → fx[(fjj_el.getD i []).getD j 0]? = some (Cond.eq (.elem (.field (ftm i) "java/lang/String" "value" "[B") (.int (Int32.ofNat j))) (.int ((tsB.getD i []).getD j 0))) := by decide +kernel
set_option maxRecDepth 100000 in
theorem fx_ne : ∀ i, i < 18 → ∀ j, j < i → fx[(fjj_ne.getD i []).getD j 0]? = some (Cond.not (Cond.eq (ftm j) (ftm i))) := by decide +kernel
set_option maxRecDepth 100000 in
theorem fx_cs : fx[4]? = some (Cond.eq (.static "java/lang/String" "COMPACT_STRINGS" "Z") (.int 1)) ∧ fx[5]? = some (Cond.isRef (.static "jdk/internal/util/Preconditions" "SIOOBE_FORMATTER" "Ljava/util/function/BiFunction;")) := by decide +kernel
def fjj_sr : List Nat := [51, 107, 108, 109, 110, 111, 112, 113, 114, 115, 116, 117, 118, 119, 120, 121, 122, 123]
set_option maxRecDepth 100000 in
theorem ft_sr : ∀ i, i < 18 → tables_1[fjj_sr.getD i 0]? = some (Cond.stringRef "GroundCourt$Tokens" (tsI.getD i 0) (tsT.getD i "")) := by decide +kernel
set_option maxRecDepth 100000 in
theorem ft_ly : tables_1[64]? = some (Cond.laysStatic "java/lang/String" "COMPACT_STRINGS" "Z") ∧ tables_1[80]? = some (Cond.laysStatic "jdk/internal/util/Preconditions" "SIOOBE_FORMATTER" "Ljava/util/function/BiFunction;") := by decide +kernel
set_option maxRecDepth 100000 in
theorem ft_ov : tables_1[556]? = some (Cond.arrayOver (.object "GroundCourt$Hand")) ∧ tables_1[313]? = some (Cond.arrayOver (.array .int)) := by decide +kernel
theorem fl_cl10 : Cond.classLink "GroundCourtLaw" 7 "GroundCourt" ∈ gc_tb := gc_in [_] [21] (by decide +kernel) (by decide +kernel) _ List.mem_cons_self
theorem fl_cl11 : Cond.classLink "GroundCourtLaw" 10 "GroundCourtModel" ∈ gc_tb := gc_in [_] [1291] (by decide +kernel) (by decide +kernel) _ List.mem_cons_self
theorem fl_in10 : Cond.methodLink "GroundCourtLaw" 9 (gc_mN 120) ∈ gc_tb := gc_in [_] [23] (by decide +kernel) (by decide +kernel) _ List.mem_cons_self
theorem fl_in11 : Cond.methodLink "GroundCourtLaw" 12 (gc_mN 172) ∈ gc_tb := gc_in [_] [1293] (by decide +kernel) (by decide +kernel) _ List.mem_cons_self
section Fx
variable {args : Array Value} {s : State}
theorem fx_tx (hgv : (Cond.and given_1 narrow_1).before args s = true) (htl : ∀ w ∈ tables_1, w.before args s = true) (hts : ∀ w ∈ gc_tb, w.before args s = true) : ∃ adK adV, tx adK adV (gc_A s.heap.size) s := by
  have hs : ∀ (n : Nat) (w : Cond), fx[n]? = some w → w.before args s = true := fun n w h => flat_of_before _ hgv w (List.mem_of_getElem? h)
  have ht : ∀ (n : Nat) (w : Cond), tables_1[n]? = some w → w.before args s = true := fun n w h => htl w (List.mem_of_getElem? h)
  have hA : ∀ a : Nat, a < s.heap.size → ¬ gc_A s.heap.size a := fun a ha => Nat.not_le.mpr ha
  obtain ⟨adK, adV, h1, h2⟩ := vk_Sof (args := args) (s := s) (N := 18) (tm := ftm) (len := tsL) (byt := tsB) (A := gc_A s.heap.size) (fun i hi => (ts_ok i hi).1) (fun i hi => hs _ _ (fx_ex i hi)) (fun i hi => hs _ _ (fx_co i hi)) (fun i hi => hs _ _ (fx_ar i hi)) (fun i hi => hs _ _ (fx_le i hi)) (fun i hi j hj => hs _ _ (fx_el i hi j hj)) (fun i j hi hj hij => by
    rcases Nat.lt_or_ge j i with q | q
    · exact Or.inr (hs _ _ (fx_ne i hi j q))
    · exact Or.inl (hs _ _ (fx_ne j hj i (by omega)))) hA
  have z1 : va_Z "java/lang/String" "COMPACT_STRINGS" "Z" (.int 1) (gc_A s.heap.size) s s.heap := va_Zof (ht _ _ ft_ly.1) (hts _ sw_ini_S) (va_eqt (hs _ _ fx_cs.1)) hA
  have z2 := va_Zqof (ht _ _ ft_ly.2) (hts _ sw_ini_P) (hs _ _ fx_cs.2) hA
  exact ⟨adK, adV, fun i hi => ⟨⟨(h1.1 i hi).1, (h1.1 i hi).2.1, (h1.1 i hi).2.2.1, (h1.1 i hi).2.2.2, z1, z2⟩, vk_R.of (ht _ _ (ft_sr i hi)) (h2 i hi)⟩⟩
theorem fx_N (htl : ∀ w ∈ tables_1, w.before args s = true) : gc_Nw s := ⟨fun q hq => va_Nw.of rfl (htl _ (gc_ns_in q hq)), va_AO.of (htl _ (List.mem_of_getElem? ft_ov.1)), htl _ (List.mem_of_getElem? ft_ov.2)⟩
theorem fx_K (hP : gc_okP) (hts : ∀ w ∈ gc_tb, w.before args s = true) (hN : gc_Nw s) : ∃ (D : va_G) (cy : Nat → ClassId), va_K D vwCl (gc_tys cy) s := by
  have h : ∀ c : Nat, ∃ z : ClassId × (Nat → Nat), ∀ q : vw_C, vwCl[c]? = some q → u_Kn s q.1 q.2.1 q.2.2 z.1 z.2 := by
    intro c
    cases hq : vwCl[c]? with
    | none => exact ⟨((0 : Nat), fun _ => 0), fun q hq' => by cases hq'⟩
    | some q =>
      obtain ⟨c1, c2, c3, _⟩ := gc_cls hq
      obtain ⟨cC, iS, hK⟩ := u_known (C := q.1) (T := q.2.1) (N := q.2.2) (n := q.2.2) hts c1 (hts _ c3)
      exact ⟨(cC, iS), fun q' hq' => by cases hq'; exact hK⟩
  obtain ⟨z, hz⟩ := Classical.axiomOfChoice h
  have ha := hP.2.2.2.1
  obtain ⟨c0, k0, p0, a0, b0, d0⟩ := Cond.arrayClass_spec (hts _ (ha 0 (by decide)))
  obtain ⟨c1, k1, p1, a1, b1, d1⟩ := Cond.arrayClass_spec (hts _ (ha 1 (by decide)))
  obtain ⟨c2, k2, p2, a2, b2, d2⟩ := Cond.arrayClass_spec (hts _ (ha 2 (by decide)))
  obtain ⟨c3, k3, p3, a3, b3, d3⟩ := Cond.arrayClass_spec (hts _ (ha 3 (by decide)))
  obtain ⟨p4, c4, k4, g1, -, g3, g4, g5⟩ := arrayOverA_spec hN.2.2
  obtain ⟨p5, c5, k5, e1, e2, e3, e4, e5⟩ := Cond.arrayOver_spec hN.2.1
  refine ⟨(fun c => (z c).1, fun c => (z c).2), fun t => match t with
    | 0 => c0
    | 1 => c1
    | 2 => c2
    | 3 => c3
    | 4 => c4
    | _ => c5, fun c q hq => hz c q hq, fun k q hq => ?_⟩
  match k, hq with
  | 0, hq => cases hq; exact ⟨fun n z => ⟨fun k h => (by cases h), k0, b0, p0, d0⟩, a0⟩
  | 1, hq => cases hq; exact ⟨fun n z => ⟨fun k h => (by cases h), k1, b1, p1, d1⟩, a1⟩
  | 2, hq => cases hq; exact ⟨fun n z => ⟨fun k h => (by cases h), k2, b2, p2, d2⟩, a2⟩
  | 3, hq => cases hq; exact ⟨fun n z => ⟨fun k h => (by cases h), k3, b3, p3, d3⟩, a3⟩
  | 4, hq => cases hq; exact ⟨fun n z => ⟨fun k h => (by cases h), k4, g3, p4, g4⟩, g5⟩
  | 5, hq => cases hq; exact ⟨fun n z => ⟨fun k h => (by cases h), k5, e3, p5, e4⟩, k5, p5, e3, e4, e1, e5⟩
  | k + 6, hq => simp [gc_tys] at hq
end Fx
