/-! Both: prices, what is at hand, POINTS. -/
def st_pt (a k x : Nat) : Nat := a - (a / 4 ^ k % 4) * 4 ^ k + x * 4 ^ k
set_option maxRecDepth 10000 in
theorem st_ptI : ∀ a, a < 256 → ∀ k, k < 4 → ∀ x, x < 4 → nI a + ((nI x - nI (a / 4 ^ k % 4)) <<< (nI (2 * k) &&& 31)) = nI (st_pt a k x) := by decide +kernel
theorem st_pt_lt {a k x g : Nat} (hg : g ≤ 4) (ha : a < 4 ^ g) (hk : k < g) (hx : x < 4) : st_pt a k x < 4 ^ g := by
  obtain ⟨i, rfl⟩ : ∃ i, g = k + 1 + i := ⟨g - (k + 1), by omega⟩
  unfold st_pt
  have hpos : 0 < 4 ^ k := Nat.pow_pos (by decide)
  have e1 : 4 ^ (k + 1 + i) = 4 ^ k * 4 * 4 ^ i := by rw [Nat.pow_add, Nat.pow_succ]
  rw [e1] at ha ⊢
  have h1 := Nat.div_add_mod a (4 ^ k)
  have h2 := Nat.mod_lt a hpos
  have h3 : a / 4 ^ k < 4 * 4 ^ i := by
    rw [Nat.div_lt_iff_lt_mul hpos, Nat.mul_comm, ← Nat.mul_assoc]
    exact ha
  have h4 := Nat.div_add_mod (a / 4 ^ k) 4
  generalize a / 4 ^ k = q at *
  have h5 : q / 4 < 4 ^ i := by omega
  have h6 : 4 ^ k * 4 * (q / 4 + 1) ≤ 4 ^ k * 4 * 4 ^ i := Nat.mul_le_mul_left _ h5
  have h7 : 4 ^ k * q = 4 ^ k * 4 * (q / 4) + (q % 4) * 4 ^ k := by
    calc 4 ^ k * q = 4 ^ k * (4 * (q / 4) + q % 4) := by rw [h4]
      _ = _ := by rw [Nat.mul_add, Nat.mul_assoc, Nat.mul_comm (4 ^ k) (q % 4)]
  have h8 : x * 4 ^ k ≤ 3 * 4 ^ k := Nat.mul_le_mul_right _ (by omega)
  have h9 : 4 ^ k * 4 * (q / 4 + 1) = 4 ^ k * 4 * (q / 4) + 4 ^ k * 4 := by rw [Nat.mul_add, Nat.mul_one]
  generalize 4 ^ k * 4 * (q / 4) = u at *
  generalize (q % 4) * 4 ^ k = w at *
  generalize 4 ^ k * 4 * 4 ^ i = z at *
  omega
/-- one taken in, or out -/
def wb (o k : Nat) (x : Int32) : Nat := if x = 0 then o - (o / 2 ^ k % 2) * 2 ^ k else o + (1 - o / 2 ^ k % 2) * 2 ^ k
theorem wb_0 : ∀ o, o < 8 → ∀ k, k < 3 → nI o &&& (((1 : Int32) <<< (nI k &&& 31)) ^^^ (-1)) = nI (o - (o / 2 ^ k % 2) * 2 ^ k) := by decide +kernel
theorem wb_1 : ∀ o, o < 8 → ∀ k, k < 3 → nI o ||| ((1 : Int32) <<< (nI k &&& 31)) = nI (o + (1 - o / 2 ^ k % 2) * 2 ^ k) := by decide +kernel
theorem wb_lt8 : ∀ n, n < 4 → ∀ o, o < 2 ^ n → ∀ k, k < n → o - (o / 2 ^ k % 2) * 2 ^ k < 2 ^ n ∧ o + (1 - o / 2 ^ k % 2) * 2 ^ k < 2 ^ n := by decide +kernel
theorem wb_lt {n o k : Nat} {x : Int32} (hn : n ≤ 3) (ho : o < 2 ^ n) (hk : k < n) : wb o k x < 2 ^ n := by
  unfold wb
  obtain ⟨h1, h2⟩ := wb_lt8 n (by omega) o ho k hk
  split
  · exact h1
  · exact h2
section Sm
variable {P : gc_Pr} {d : Nat} {s : gc_St} {Q : gc_TQ} {W : ld_W} {L lv : Nat}
theorem sp_isGround (hP : gc_Cl P) (hm : gc_Mo P) (hC : cl_C W L s) {c : Int32} (h1 : ∀ k, k < ld_g W → c = nI k → Q (some (.int 1)) s) (h2 : (∀ k, k < ld_g W → c ≠ nI k) → Q (some (.int 0)) s) : gc_T P d 0 0 155 0 [.ref 0, .int c] [] s Q := by
  have hg4 := hC.2.2.2.1.1.1
  refine b_X10_isGround_0 hP hm ?_
  rw [hC.2.1, hC.2.2.1.1.1]
  refine ⟨fun z => h2 fun k hk e => (nI_ix (by omega) hk e).1 z, fun z => ⟨cl_io hC.1, fun y => h2 fun k hk e => (nI_ix (by omega) hk e).2 y, fun y => ?_⟩⟩
  rcases pk_ix c (show ld_g W < 2 ^ 31 by omega) with e | e | ⟨k, hk, rfl⟩
  · exact absurd e z
  · exact absurd e y
  · exact h1 k hk rfl
theorem sp_price (hP : gc_Cl P) (hm : gc_Mo P) (hd : 1 ≤ d) (hC : cl_C W L s) {c : Int32} (h1 : ∀ k, k < ld_g W → c = nI k → Q (some (.int (nI (ld_pr W k)))) s) (h2 : (∀ k, k < ld_g W → c ≠ nI k) → Q (some (.int (-1))) s) : gc_T P d 0 0 128 0 [.ref 0, .int c] [] s Q := by
  have hg4 := hC.2.2.2.1.1.1
  refine b_X10_price_0 hP hm ⟨hd, sp_isGround hP hm hC (fun k hk e => ⟨fun y => absurd y (by decide), fun _ => ?_⟩) (fun e => ⟨fun _ => h2 e, fun y => absurd rfl y⟩)⟩
  rw [hC.2.1, e, nI_clamp (by omega), cl_pr hC.2.2.1 hk]
  exact ⟨cl_io hC.1, vp_in_nI (by omega) (by decide), h1 k hk e⟩
theorem sp_stock (hP : gc_Cl P) (hm : gc_Mo P) (hd : 1 ≤ d) (hC : cl_C W L s) {c : Int32} {a : Nat} (hF : gc_F s 49 0 = nI a) (ha : a < 256) (h1 : ∀ k, k < ld_g W → c = nI k → Q (some (.int (nI (a / 4 ^ k % 4)))) s) (h2 : (∀ k, k < ld_g W → c ≠ nI k) → Q (some (.int (-1))) s) : gc_T P d 0 0 129 0 [.ref 0, .int c] [] s Q := by
  have hg4 := hC.2.2.2.1.1.1
  refine b_X10_stock_0 hP hm ⟨hd, sp_isGround hP hm hC (fun k hk e => ⟨fun y => absurd y (by decide), fun _ => ⟨hd, ?_⟩⟩) (fun e => ⟨fun _ => h2 e, fun y => absurd rfl y⟩)⟩
  rw [hF, e]
  exact sp_countOf hP hm ha (by omega) (h1 k hk e)
theorem sp_putC (hP : gc_Cl P) (hm : gc_Mo P) (hd : 1 ≤ d) (hC : cl_C W L s) {c x : Int32} {a : Nat} (hF : gc_F s 49 0 = nI a) (ha : a < 256) (h1 : ∀ k j, k < ld_g W → c = nI k → j < 4 → x = nI j → Q (some (.int 1)) (gc_wF s 49 0 (nI (st_pt a k j)))) (h2 : ((∀ k, k < ld_g W → c ≠ nI k) ∨ (∀ k, k < 4 → x ≠ nI k)) → Q (some (.int 0)) s) : gc_T P d 0 0 130 0 [.ref 0, .int c, .int x] [] s Q := by
  have hg4 := hC.2.2.2.1.1.1
  refine b_X10_put_0 hP hm ⟨hd, sp_isGround hP hm hC (fun k hk e => ⟨fun y => absurd y (by decide), fun _ => ⟨fun y => h2 (Or.inr fun j hj e2 => (nI_ix (by omega) hj e2).1 y), fun y => ⟨fun y2 => ?_, fun y2 => h2 (Or.inr fun j hj e2 => y2 ?_)⟩⟩⟩) (fun e => ⟨fun _ => h2 (Or.inl e), fun y => absurd rfl y⟩)⟩
  · obtain ⟨j, hj, rfl⟩ := nI_of y
    rw [show (3 : Int32) = nI 3 from rfl, nI_leI hj (by decide)] at y2
    refine ⟨hd, ?_⟩
    rw [hF, e]
    refine sp_countOf hP hm ha (by omega) ?_
    show Q (some (.int 1)) (gc_wF s 49 0 (nI a + ((nI j - nI (a / 4 ^ k % 4)) <<< (((2 : Int32) * nI k) &&& 31))))
    rw [st_lit 2, pk_mul, st_ptI a ha k (by omega) j (by omega)]
    exact h1 k j hk e (by omega) rfl
  · rw [e2, show (3 : Int32) = nI 3 from rfl, nI_leI (by omega) (by decide)]
    omega
theorem sp_withBit (hP : gc_Cl P) (hm : gc_Mo P) {o k : Nat} {x : Int32} (ho : o < 8) (hk : k < 3) (hQ : Q (some (.int (nI (wb o k x)))) s) : gc_T P d 0 0 166 0 [.int (nI o), .int (nI k), .int x] [] s Q := by
  refine b_X10_withBit_0 hP hm ?_
  rw [wb_0 o ho k hk, wb_1 o ho k hk]
  unfold wb at hQ
  refine ⟨fun e => ?_, fun e => ?_⟩
  · rw [if_pos e] at hQ
    exact hQ
  · rw [if_neg e] at hQ
    exact hQ
theorem sp_oathC (hP : gc_Cl P) (hm : gc_Mo P) (hd : 1 ≤ d) (hC : cl_C W L s) {c x : Int32} {o : Nat} (hF : gc_F s 49 1 = nI o) (ho : o < 8) (h1 : ∀ k, k < ld_o W → c = nI k → Q (some (.int 1)) (gc_wF s 49 1 (nI (wb o k x)))) (h2 : (∀ k, k < ld_o W → c ≠ nI k) → Q (some (.int 0)) s) : gc_T P d 0 0 131 0 [.ref 0, .int c, .int x] [] s Q := by
  have ho3 := hC.2.2.2.1.1.2.1
  refine b_X10_oath_0 hP hm ?_
  rw [hC.2.1, hC.2.2.1.1.2.1, hF]
  refine ⟨fun z => h2 fun k hk e => (nI_ix (by omega) hk e).1 z, fun z => ⟨cl_io hC.1, fun y => ?_, fun y => h2 fun k hk e => y ?_⟩⟩
  · obtain ⟨k, hk, rfl⟩ := nI_of z
    rw [nI_ltI hk (by omega)] at y
    exact ⟨hd, sp_withBit hP hm ho (by omega) (h1 k y rfl)⟩
  · rw [e, nI_ltI (by omega) (by omega)]
    exact hk
theorem sp_bargainC (hP : gc_Cl P) (hm : gc_Mo P) (hd : 1 ≤ d) (hC : cl_C W L s) {c x : Int32} {o : Nat} (hF : gc_F s 49 2 = nI o) (ho : o < 8) (h1 : ∀ k, k < ld_b W → c = nI k → Q (some (.int 1)) (gc_wF s 49 2 (nI (wb o k x)))) (h2 : (∀ k, k < ld_b W → c ≠ nI k) → Q (some (.int 0)) s) : gc_T P d 0 0 132 0 [.ref 0, .int c, .int x] [] s Q := by
  have ho3 := hC.2.2.2.1.1.2.2.1
  refine b_X10_bargain_0 hP hm ?_
  rw [hC.2.1, hC.2.2.1.1.2.2.1, hF]
  refine ⟨fun z => h2 fun k hk e => (nI_ix (by omega) hk e).1 z, fun z => ⟨cl_io hC.1, fun y => ?_, fun y => h2 fun k hk e => y ?_⟩⟩
  · obtain ⟨k, hk, rfl⟩ := nI_of z
    rw [nI_ltI hk (by omega)] at y
    exact ⟨hd, sp_withBit hP hm ho (by omega) (h1 k y rfl)⟩
  · rw [e, nI_ltI (by omega) (by omega)]
    exact hk
theorem sp_pointOf (hP : gc_Cl P) (hm : gc_Mo P) (hd : 1 ≤ d) (hC : cl_C W L s) {c : Int32} (h1 : ∀ k, k < ld_c W → c = nI k → Q (some (.int (nI (ld_ro W k)))) s) (h2 : (∀ k, k < ld_c W → c ≠ nI k) → Q (some (.int (-1))) s) : gc_T P d 0 0 133 0 [.ref 0, .int c] [] s Q :=
  b_X10_pointOf_0 hP hm ⟨hd, sp_root hP hm hC h1 h2⟩
/-- what a POINT is -/
def pt_v (W : ld_W) (p : Nat) (x : Int32) : Int32 := if x = 0 then nI (ld_kd W p) else if x = 1 then ld_fI W p else if x = 2 then ld_sI W p else -1
theorem pt_x (x : Int32) : (x.toInt = 0 ↔ x = 0) ∧ (x.toInt = 1 ↔ x = 1) ∧ (x.toInt = 2 ↔ x = 2) := by
  refine ⟨?_, ?_, ?_⟩
  · rw [show (0 : Int) = (0 : Int32).toInt from rfl, Int32.toInt_inj]
  · rw [show (1 : Int) = (1 : Int32).toInt from rfl, Int32.toInt_inj]
  · rw [show (2 : Int) = (2 : Int32).toInt from rfl, Int32.toInt_inj]
theorem sp_pointC (hP : gc_Cl P) (hm : gc_Mo P) (hC : cl_C W L s) {c x : Int32} (h1 : ∀ p, p < ld_p W → c = nI p → Q (some (.int (pt_v W p x))) s) (h2 : (∀ p, p < ld_p W → c ≠ nI p) → Q (some (.int (-1))) s) : gc_T P d 0 0 134 0 [.ref 0, .int c, .int x, gc_u] [] s Q := by
  have hp24 := hC.2.2.2.1.1.2.2.2.2
  refine b_X10_point_0 hP hm ?_
  rw [hC.2.1, hC.2.2.1.1.2.2.2.2]
  refine ⟨fun z => h2 fun k hk e => (nI_ix (by omega) hk e).1 z, fun z => ⟨cl_io hC.1, fun y => ?_, fun y => h2 fun k hk e => y ?_⟩⟩
  · obtain ⟨p, hp, rfl⟩ := nI_of z
    rw [nI_ltI hp (by omega)] at y
    have hfin := h1 p y rfl
    have hx := pt_x x
    unfold pt_v at hfin
    rw [nI_clamp (by omega), cl_kd hC.2.2.1 y, cl_fi hC.2.2.1 y, cl_se hC.2.2.1 y]
    refine ⟨fun e => ⟨vp_in_nI (by omega) (by decide), ?_⟩, fun e => ⟨vp_in_nI (by omega) (by decide), ?_⟩, fun e => ⟨vp_in_nI (by omega) (by decide), ?_⟩, fun e => ?_⟩
    · rw [if_pos (hx.1.mp e)] at hfin
      exact hfin
    · rw [if_neg (fun e2 => by rw [hx.1.mpr e2] at e; omega), if_pos (hx.2.1.mp e)] at hfin
      exact hfin
    · rw [if_neg (fun e2 => by rw [hx.1.mpr e2] at e; omega), if_neg (fun e2 => by rw [hx.2.1.mpr e2] at e; omega), if_pos (hx.2.2.mp e)] at hfin
      exact hfin
    · rw [if_neg (fun e2 => by rw [hx.1.mpr e2] at e; omega), if_neg (fun e2 => by rw [hx.2.1.mpr e2] at e; omega), if_neg (fun e2 => by rw [hx.2.2.mpr e2] at e; omega)] at hfin
      exact hfin
  · rw [e, nI_ltI (by omega) (by omega)]
    exact hk
end Sm
